/-! The contracts of the methods that reach strings -/
theorem d_Rd_passAll_0 : decode b_Rd_passAll 0 = .ok (.iconst 0, 1) := by decide +kernel
theorem d_Rd_passAll_1 : decode b_Rd_passAll 1 = .ok (.istore_n 2, 1) := by decide +kernel
theorem d_Rd_passAll_2 : decode b_Rd_passAll 2 = .ok (.iload_n 2, 1) := by decide +kernel
theorem d_Rd_passAll_3 : decode b_Rd_passAll 3 = .ok (.aload_n 1, 1) := by decide +kernel
theorem d_Rd_passAll_4 : decode b_Rd_passAll 4 = .ok (.invokevirtual 122, 3) := by decide +kernel
theorem d_Rd_passAll_7 : decode b_Rd_passAll 7 = .ok (.if_icmp .ge 18, 3) := by decide +kernel
theorem d_Rd_passAll_10 : decode b_Rd_passAll 10 = .ok (.aload_n 0, 1) := by decide +kernel
theorem d_Rd_passAll_11 : decode b_Rd_passAll 11 = .ok (.aload_n 1, 1) := by decide +kernel
theorem d_Rd_passAll_12 : decode b_Rd_passAll 12 = .ok (.iload_n 2, 1) := by decide +kernel
theorem d_Rd_passAll_13 : decode b_Rd_passAll 13 = .ok (.invokevirtual 128, 3) := by decide +kernel
theorem d_Rd_passAll_16 : decode b_Rd_passAll 16 = .ok (.invokevirtual 131, 3) := by decide +kernel
theorem d_Rd_passAll_19 : decode b_Rd_passAll 19 = .ok (.iinc 2 1, 3) := by decide +kernel
theorem d_Rd_passAll_22 : decode b_Rd_passAll 22 = .ok (.goto (-20), 3) := by decide +kernel
theorem d_Rd_passAll_25 : decode b_Rd_passAll 25 = .ok (.return_, 1) := by decide +kernel
set_option maxHeartbeats 4000000 in
set_option maxRecDepth 100000 in
theorem t_Rd_passAll {l : Launch} {s0 : State} {D : va_G} {aC : Nat → ClassId} {a0 : Array Value} (G : gG l s0 D aC a0) (M : gMem) (r : gRef) (ow : Int64) (fu : Nat) (q1 : Nat) (b1 : q1 < gSn) (hno : F_Rd_passAll fu q1 M r ≠ .no) : gMet l s0 D aC y_Rd_passAll (Cond.code y_Rd_passAll b_Rd_passAll 3 none) 8 142 1 6 [.ref (s0.heap.size + 380), .ref (gSa s0 q1)] M r ow (qV (F_Rd_passAll fu q1 M r)) (qT (F_Rd_passAll fu q1 M r)) := by
  refine gm_of G (by decide) (Nat.le_of_ble_eq_true rfl) ?_
  intro p e s m below meth c ls B hexc hl hw
  have hx := B.1
  have hb := B.2.1
  have hown := B.2.2.2.2.2.1
  have T := B.2.2.2.2.2.2.1
  have hK := B.2.2.2.2.2.2.2.1
  have X25 : ∀ (M1 : gMem) (r1 : gRef) (H : Heap) (locs : List Loc) (ls : Array Slot), lv_has ls 3 [] → gWd s0 D aC M1 r1 ow H locs → F_Rd_passAll fu q1 M r = F_Rd_passAll_B25 fu q1 M1 r1 → W p l e (gRm 8 142 1 6) s m ([.ref (s0.heap.size + 380), .ref (gSa s0 q1)] : List Value).toArray below meth c H locs 0 0 (gt_Q below (gQ s0 D aC ow (qV (F_Rd_passAll fu q1 M r)) (qT (F_Rd_passAll fu q1 M r))) s 0 0 1 6 (fun q => s0.heap.size ≤ q)) (F0 m 25 ls []) := by
    intro  M1 r1 H locs ls hl hw hF
    have hF := hF.trans (F_Rd_passAll_B25.eq_1 _ _ _ _)
    exact gr_v B hw d_Rd_passAll_25 ⟨rfl, hF⟩
  have L2 : ∀ (d : Nat) (x2 : Int32) (M1 : gMem) (r1 : gRef) (H : Heap) (locs : List Loc) (ls : Array Slot), lv_has ls 3 [(2, .int x2), (0, .ref (s0.heap.size + 380)), (1, .ref (gSa s0 q1))] → gWd s0 D aC M1 r1 ow H locs → F_Rd_passAll fu q1 M r = F_Rd_passAll_L2 fu q1 d x2 M1 r1 → W p l e (gRm 8 142 1 6) s m ([.ref (s0.heap.size + 380), .ref (gSa s0 q1)] : List Value).toArray below meth c H locs 0 0 (gt_Q below (gQ s0 D aC ow (qV (F_Rd_passAll fu q1 M r)) (qT (F_Rd_passAll fu q1 M r))) s 0 0 1 6 (fun q => s0.heap.size ≤ q)) (F0 m 2 ls []) := by
    intro d
    induction d with
    | zero => intro x2 M1 r1 H locs ls hl hw hF; exact absurd hF hno
    | succ d ih =>
      intro x2 M1 r1 H locs ls hl hw hF
      have hF := hF.trans (F_Rd_passAll_L2.eq_2 _ _ _ _ _ _)
      refine lv_iload_n hx hb d_Rd_passAll_2 rfl (lv_at hl 0 rfl) ?_
      refine lv_aload_n hx hb d_Rd_passAll_3 rfl (lv_at hl 2 rfl) ?_
      refine gy_V B hl.1 hw (t_St_length G _ _ ow fu q1 b1 (nn hno hF)) (kd_St_length T) (ki_St T) (km_Rd_122 T) (ka_St_length T) (ks_St_length T) ⟨by decide, by decide, by rfl⟩ (rv_St G B hw b1) rfl (Nat.le_of_ble_eq_true rfl) ⟨by decide, by decide⟩ ⟨by decide, by decide⟩ d_Rd_passAll_4 (fun v M5 r5 H locs hw hp => ?_) (fun x ek M5 r5 H locs hw hE hp => gr_t B hexc hw hE (by decide) (by decide) (hF.trans (bnd_ex hp)))
      obtain ⟨v5, rfl, hp⟩ := hp
      have hF := hF.trans (bnd_ok hp)
      refine lv_icmp_ge hx hb d_Rd_passAll_7 rfl (fun h6 => ?_) (fun h6 => ?_)
      · skip
        have hF := hF.trans (if_pos h6)
        exact X25  _ _ _ _ _ (gv_loc hl [] rfl) hw hF
      · skip
        have hF := hF.trans (if_neg h6)
        refine lv_aload_n hx hb d_Rd_passAll_10 rfl (lv_at hl 1 rfl) ?_
        refine lv_aload_n hx hb d_Rd_passAll_11 rfl (lv_at hl 2 rfl) ?_
        refine lv_iload_n hx hb d_Rd_passAll_12 rfl (lv_at hl 0 rfl) ?_
        refine gy_V B hl.1 hw (t_St_charAt G _ _ ow fu q1 x2 b1 (nn hno hF)) (kd_St_charAt T) (ki_St T) (km_Rd_128 T) (ka_St_charAt T) (ks_St_charAt T) ⟨by decide, by decide, by rfl⟩ (rv_St G B hw b1) rfl (Nat.le_of_ble_eq_true rfl) ⟨by decide, by decide⟩ ⟨by decide, by decide⟩ d_Rd_passAll_13 (fun v M7 r7 H locs hw hp => ?_) (fun x ek M7 r7 H locs hw hE hp => gr_t B hexc hw hE (by decide) (by decide) (hF.trans (bnd_ex hp)))
        obtain ⟨v7, rfl, hp⟩ := hp
        have hF := hF.trans (bnd_ok hp)
        refine gy_V B hl.1 hw (t_Rd_pass G _ _ ow fu v7 (nn hno hF)) (kd_Rd_pass T) (ki_Rd T) (km_Rd_131 T) (ka_Rd_pass T) (ks_Rd_pass T) ⟨by decide, by decide, by rfl⟩ (rv_Rd hK hw rfl) rfl (Nat.le_of_ble_eq_true rfl) ⟨by decide, by decide⟩ ⟨by decide, by decide⟩ d_Rd_passAll_16 (fun v M8 r8 H locs hw hp => ?_) (fun x ek M8 r8 H locs hw hE hp => gr_t B hexc hw hE (by decide) (by decide) (hF.trans (bnd_ex hp)))
        obtain ⟨rfl, hp⟩ := hp
        have hF := hF.trans (bnd_ok hp)
        refine lv_iinc (k := 0) hx hb d_Rd_passAll_19 hl rfl (show _ + Int32.ofInt 1 = _ + 1 from rfl) (by decide) rfl (fun ls hl => ?_)
        refine lv_goto hx hb d_Rd_passAll_22 rfl ?_
        exact ih (x2 + 1) _ _ _ _ _ (gv_loc hl [0, 1, 2] rfl) hw hF
  have hF := F_Rd_passAll.eq_1 fu q1 M r
  refine lv_iconst (v := 0) hx hb d_Rd_passAll_0 (by decide) ?_
  refine lv_istore_n hx hb d_Rd_passAll_1 rfl hl (by decide) rfl (fun ls hl => ?_)
  exact L2 fu 0 _ _ _ _ _ (gv_loc hl [0, 1, 2] rfl) hw hF
theorem d_Rd_passComment_0 : decode b_Rd_passComment 0 = .ok (.aload_n 0, 1) := by decide +kernel
theorem d_Rd_passComment_1 : decode b_Rd_passComment 1 = .ok (.ldc 143, 2) := by decide +kernel
theorem d_Rd_passComment_3 : decode b_Rd_passComment 3 = .ok (.invokevirtual 145, 3) := by decide +kernel
theorem d_Rd_passComment_6 : decode b_Rd_passComment 6 = .ok (.aload_n 0, 1) := by decide +kernel
theorem d_Rd_passComment_7 : decode b_Rd_passComment 7 = .ok (.getfield 18, 3) := by decide +kernel
theorem d_Rd_passComment_10 : decode b_Rd_passComment 10 = .ok (.aload_n 0, 1) := by decide +kernel
theorem d_Rd_passComment_11 : decode b_Rd_passComment 11 = .ok (.getfield 55, 3) := by decide +kernel
theorem d_Rd_passComment_14 : decode b_Rd_passComment 14 = .ok (.getfield 71, 3) := by decide +kernel
theorem d_Rd_passComment_17 : decode b_Rd_passComment 17 = .ok (.if_icmp .ge 36, 3) := by decide +kernel
theorem d_Rd_passComment_20 : decode b_Rd_passComment 20 = .ok (.aload_n 0, 1) := by decide +kernel
theorem d_Rd_passComment_21 : decode b_Rd_passComment 21 = .ok (.iconst 0, 1) := by decide +kernel
theorem d_Rd_passComment_22 : decode b_Rd_passComment 22 = .ok (.invokevirtual 76, 3) := by decide +kernel
theorem d_Rd_passComment_25 : decode b_Rd_passComment 25 = .ok (.bipush 45, 2) := by decide +kernel
theorem d_Rd_passComment_27 : decode b_Rd_passComment 27 = .ok (.if_icmp .ne 13, 3) := by decide +kernel
theorem d_Rd_passComment_30 : decode b_Rd_passComment 30 = .ok (.aload_n 0, 1) := by decide +kernel
theorem d_Rd_passComment_31 : decode b_Rd_passComment 31 = .ok (.iconst 1, 1) := by decide +kernel
theorem d_Rd_passComment_32 : decode b_Rd_passComment 32 = .ok (.invokevirtual 76, 3) := by decide +kernel
theorem d_Rd_passComment_35 : decode b_Rd_passComment 35 = .ok (.bipush 45, 2) := by decide +kernel
theorem d_Rd_passComment_37 : decode b_Rd_passComment 37 = .ok (.if_icmp .eq 16, 3) := by decide +kernel
theorem d_Rd_passComment_40 : decode b_Rd_passComment 40 = .ok (.aload_n 0, 1) := by decide +kernel
theorem d_Rd_passComment_41 : decode b_Rd_passComment 41 = .ok (.dup, 1) := by decide +kernel
theorem d_Rd_passComment_42 : decode b_Rd_passComment 42 = .ok (.getfield 18, 3) := by decide +kernel
theorem d_Rd_passComment_45 : decode b_Rd_passComment 45 = .ok (.iconst 1, 1) := by decide +kernel
theorem d_Rd_passComment_46 : decode b_Rd_passComment 46 = .ok (.iadd, 1) := by decide +kernel
theorem d_Rd_passComment_47 : decode b_Rd_passComment 47 = .ok (.putfield 18, 3) := by decide +kernel
theorem d_Rd_passComment_50 : decode b_Rd_passComment 50 = .ok (.goto (-44), 3) := by decide +kernel
theorem d_Rd_passComment_53 : decode b_Rd_passComment 53 = .ok (.aload_n 0, 1) := by decide +kernel
theorem d_Rd_passComment_54 : decode b_Rd_passComment 54 = .ok (.ldc 148, 2) := by decide +kernel
theorem d_Rd_passComment_56 : decode b_Rd_passComment 56 = .ok (.invokevirtual 145, 3) := by decide +kernel
theorem d_Rd_passComment_59 : decode b_Rd_passComment 59 = .ok (.return_, 1) := by decide +kernel
set_option maxHeartbeats 4000000 in
set_option maxRecDepth 100000 in
theorem t_Rd_passComment {l : Launch} {s0 : State} {D : va_G} {aC : Nat → ClassId} {a0 : Array Value} (G : gG l s0 D aC a0) (M : gMem) (r : gRef) (ow : Int64) (fu : Nat)  (hno : F_Rd_passComment fu M r ≠ .no) : gMet l s0 D aC y_Rd_passComment (Cond.code y_Rd_passComment b_Rd_passComment 1 none) 9 164 1 6 [.ref (s0.heap.size + 380)] M r ow (qV (F_Rd_passComment fu M r)) (qT (F_Rd_passComment fu M r)) := by
  refine gm_of G (by decide) (Nat.le_of_ble_eq_true rfl) ?_
  intro p e s m below meth c ls B hexc hl hw
  have hx := B.1
  have hb := B.2.1
  have hown := B.2.2.2.2.2.1
  have T := B.2.2.2.2.2.2.1
  have hK := B.2.2.2.2.2.2.2.1
  have X53 : ∀ (M1 : gMem) (r1 : gRef) (H : Heap) (locs : List Loc) (ls : Array Slot), lv_has ls 1 [(0, .ref (s0.heap.size + 380))] → gWd s0 D aC M1 r1 ow H locs → F_Rd_passComment fu M r = F_Rd_passComment_B53 fu M1 r1 → W p l e (gRm 9 164 1 6) s m ([.ref (s0.heap.size + 380)] : List Value).toArray below meth c H locs 0 0 (gt_Q below (gQ s0 D aC ow (qV (F_Rd_passComment fu M r)) (qT (F_Rd_passComment fu M r))) s 0 0 1 6 (fun q => s0.heap.size ≤ q)) (F0 m 53 ls []) := by
    intro  M1 r1 H locs ls hl hw hF
    have hF := hF.trans (F_Rd_passComment_B53.eq_1 _ _ _)
    refine lv_aload_n hx hb d_Rd_passComment_53 rfl (lv_at hl 0 rfl) ?_
    refine gl_Rd_148 B G d_Rd_passComment_54 ?_
    refine gy_V B hl.1 hw (t_Rd_passAll G _ _ ow fu 1 (by decide) (nn hno hF)) (kd_Rd_passAll T) (ki_Rd T) (km_Rd_145 T) (ka_Rd_passAll T) (ks_Rd_passAll T) ⟨by decide, by decide, by rfl⟩ (rv_Rd hK hw rfl) rfl (Nat.le_of_ble_eq_true rfl) ⟨by decide, by decide⟩ ⟨by decide, by decide⟩ d_Rd_passComment_56 (fun v M8 r8 H locs hw hp => ?_) (fun x ek M8 r8 H locs hw hE hp => gr_t B hexc hw hE (by decide) (by decide) (hF.trans (bnd_ex hp)))
    obtain ⟨rfl, hp⟩ := hp
    have hF := hF.trans (bnd_ok hp)
    exact gr_v B hw d_Rd_passComment_59 ⟨rfl, hF⟩
  have L6 : ∀ (d : Nat) (M1 : gMem) (r1 : gRef) (H : Heap) (locs : List Loc) (ls : Array Slot), lv_has ls 1 [(0, .ref (s0.heap.size + 380))] → gWd s0 D aC M1 r1 ow H locs → F_Rd_passComment fu M r = F_Rd_passComment_L6 fu d M1 r1 → W p l e (gRm 9 164 1 6) s m ([.ref (s0.heap.size + 380)] : List Value).toArray below meth c H locs 0 0 (gt_Q below (gQ s0 D aC ow (qV (F_Rd_passComment fu M r)) (qT (F_Rd_passComment fu M r))) s 0 0 1 6 (fun q => s0.heap.size ≤ q)) (F0 m 6 ls []) := by
    intro d
    induction d with
    | zero => intro  M1 r1 H locs ls hl hw hF; exact absurd hF hno
    | succ d ih =>
      intro  M1 r1 H locs ls hl hw hF
      have hF := hF.trans (F_Rd_passComment_L6.eq_2 _ _ _ _)
      refine lv_aload_n hx hb d_Rd_passComment_6 rfl (lv_at hl 0 rfl) ?_
      refine gf_Rd_at hx hb T hown hK hw rfl (kf_Rd_18 T) d_Rd_passComment_7 ?_
      refine lv_aload_n hx hb d_Rd_passComment_10 rfl (lv_at hl 0 rfl) ?_
      refine gf_Rd_text hx hb T hown hK hw rfl (kf_Rd_55 T) d_Rd_passComment_11 ?_
      refine gf_Row_size hx hb T hown hK hw (i := 2) (by decide) rfl (kf_Rd_71 T) d_Rd_passComment_14 ?_
      refine lv_icmp_ge hx hb d_Rd_passComment_17 rfl (fun h9 => ?_) (fun h9 => ?_)
      · skip
        have hF := hF.trans (if_pos h9)
        exact X53  _ _ _ _ _ (gv_loc hl [0] rfl) hw hF
      · skip
        have hF := hF.trans (if_neg h9)
        refine lv_aload_n hx hb d_Rd_passComment_20 rfl (lv_at hl 0 rfl) ?_
        refine lv_iconst (v := 0) hx hb d_Rd_passComment_21 (by decide) ?_
        refine gy_V B hl.1 hw (t_Rd_next G _ _ ow fu 0 (nn hno hF)) (kd_Rd_next T) (ki_Rd T) (km_Rd_76 T) (ka_Rd_next T) (ks_Rd_next T) ⟨by decide, by decide, by rfl⟩ (rv_Rd hK hw rfl) rfl (Nat.le_of_ble_eq_true rfl) ⟨by decide, by decide⟩ ⟨by decide, by decide⟩ d_Rd_passComment_22 (fun v M10 r10 H locs hw hp => ?_) (fun x ek M10 r10 H locs hw hE hp => gr_t B hexc hw hE (by decide) (by decide) (hF.trans (bnd_ex hp)))
        obtain ⟨v10, rfl, hp⟩ := hp
        have hF := hF.trans (bnd_ok hp)
        refine lv_bipush (v := 45) hx hb d_Rd_passComment_25 (by decide) ?_
        refine lv_icmp_ne hx hb d_Rd_passComment_27 rfl (fun h11 => ?_) (fun h11 => ?_)
        · skip
          have hF := hF.trans (if_neg h11)
          refine lv_aload_n hx hb d_Rd_passComment_40 rfl (lv_at hl 0 rfl) ?_
          refine lv_dup hx hb d_Rd_passComment_41 rfl ?_
          refine gf_Rd_at hx hb T hown hK hw rfl (kf_Rd_18 T) d_Rd_passComment_42 ?_
          refine lv_iconst (v := 1) hx hb d_Rd_passComment_45 (by decide) ?_
          refine lv_iadd hx hb d_Rd_passComment_46 ?_
          refine pf_Rd_at hx hb T hown hK hw rfl (kf_Rd_18 T) d_Rd_passComment_47 (fun H locs hw => ?_)
          refine lv_goto hx hb d_Rd_passComment_50 rfl ?_
          exact ih  _ _ _ _ _ (gv_loc hl [0] rfl) hw hF
        · skip
          have hF := hF.trans (if_pos h11)
          refine lv_aload_n hx hb d_Rd_passComment_30 rfl (lv_at hl 0 rfl) ?_
          refine lv_iconst (v := 1) hx hb d_Rd_passComment_31 (by decide) ?_
          refine gy_V B hl.1 hw (t_Rd_next G _ _ ow fu 1 (nn hno hF)) (kd_Rd_next T) (ki_Rd T) (km_Rd_76 T) (ka_Rd_next T) (ks_Rd_next T) ⟨by decide, by decide, by rfl⟩ (rv_Rd hK hw rfl) rfl (Nat.le_of_ble_eq_true rfl) ⟨by decide, by decide⟩ ⟨by decide, by decide⟩ d_Rd_passComment_32 (fun v M12 r12 H locs hw hp => ?_) (fun x ek M12 r12 H locs hw hE hp => gr_t B hexc hw hE (by decide) (by decide) (hF.trans (bnd_ex hp)))
          obtain ⟨v12, rfl, hp⟩ := hp
          have hF := hF.trans (bnd_ok hp)
          refine lv_bipush (v := 45) hx hb d_Rd_passComment_35 (by decide) ?_
          refine lv_icmp_eq hx hb d_Rd_passComment_37 rfl (fun h13 => ?_) (fun h13 => ?_)
          · skip
            have hF := hF.trans (if_pos h13)
            exact X53  _ _ _ _ _ (gv_loc hl [0] rfl) hw hF
          · skip
            have hF := hF.trans (if_neg h13)
            refine lv_aload_n hx hb d_Rd_passComment_40 rfl (lv_at hl 0 rfl) ?_
            refine lv_dup hx hb d_Rd_passComment_41 rfl ?_
            refine gf_Rd_at hx hb T hown hK hw rfl (kf_Rd_18 T) d_Rd_passComment_42 ?_
            refine lv_iconst (v := 1) hx hb d_Rd_passComment_45 (by decide) ?_
            refine lv_iadd hx hb d_Rd_passComment_46 ?_
            refine pf_Rd_at hx hb T hown hK hw rfl (kf_Rd_18 T) d_Rd_passComment_47 (fun H locs hw => ?_)
            refine lv_goto hx hb d_Rd_passComment_50 rfl ?_
            exact ih  _ _ _ _ _ (gv_loc hl [0] rfl) hw hF
  have hF := F_Rd_passComment.eq_1 fu M r
  refine lv_aload_n hx hb d_Rd_passComment_0 rfl (lv_at hl 0 rfl) ?_
  refine gl_Rd_143 B G d_Rd_passComment_1 ?_
  refine gy_V B hl.1 hw (t_Rd_passAll G _ _ ow fu 0 (by decide) (nn hno hF)) (kd_Rd_passAll T) (ki_Rd T) (km_Rd_145 T) (ka_Rd_passAll T) (ks_Rd_passAll T) ⟨by decide, by decide, by rfl⟩ (rv_Rd hK hw rfl) rfl (Nat.le_of_ble_eq_true rfl) ⟨by decide, by decide⟩ ⟨by decide, by decide⟩ d_Rd_passComment_3 (fun v M14 r14 H locs hw hp => ?_) (fun x ek M14 r14 H locs hw hE hp => gr_t B hexc hw hE (by decide) (by decide) (hF.trans (bnd_ex hp)))
  obtain ⟨rfl, hp⟩ := hp
  have hF := hF.trans (bnd_ok hp)
  exact L6 fu  _ _ _ _ _ (gv_loc hl [0] rfl) hw hF
set_option maxHeartbeats 4000000 in
set_option maxRecDepth 100000 in
theorem t_Rd_passBlanksAndComments {l : Launch} {s0 : State} {D : va_G} {aC : Nat → ClassId} {a0 : Array Value} (G : gG l s0 D aC a0) (M : gMem) (r : gRef) (ow : Int64) (fu : Nat)  (hno : F_Rd_passBlanksAndComments fu M r ≠ .no) : gMet l s0 D aC y_Rd_passBlanksAndComments (Cond.code y_Rd_passBlanksAndComments b_Rd_passBlanksAndComments 2 none) 10 184 1 6 [.ref (s0.heap.size + 380)] M r ow (qV (F_Rd_passBlanksAndComments fu M r)) (qT (F_Rd_passBlanksAndComments fu M r)) := by
  refine gm_of G (by decide) (Nat.le_of_ble_eq_true rfl) ?_
  intro p e s m below meth c ls B hexc hl hw
  have hx := B.1
  have hb := B.2.1
  have hown := B.2.2.2.2.2.1
  have T := B.2.2.2.2.2.2.1
  have hK := B.2.2.2.2.2.2.2.1
  have X53 : ∀ (M1 : gMem) (r1 : gRef) (H : Heap) (locs : List Loc) (ls : Array Slot), lv_has ls 2 [] → gWd s0 D aC M1 r1 ow H locs → F_Rd_passBlanksAndComments fu M r = F_Rd_passBlanksAndComments_B53 fu M1 r1 → W p l e (gRm 10 184 1 6) s m ([.ref (s0.heap.size + 380)] : List Value).toArray below meth c H locs 0 0 (gt_Q below (gQ s0 D aC ow (qV (F_Rd_passBlanksAndComments fu M r)) (qT (F_Rd_passBlanksAndComments fu M r))) s 0 0 1 6 (fun q => s0.heap.size ≤ q)) (F0 m 53 ls []) := by
    intro  M1 r1 H locs ls hl hw hF
    have hF := hF.trans (F_Rd_passBlanksAndComments_B53.eq_1 _ _ _)
    exact gr_v B hw d_Rd_passBlanksAndComments_53 ⟨rfl, hF⟩
  have L7 : ∀ (d : Nat) (x1 : Int32) (M1 : gMem) (r1 : gRef) (H : Heap) (locs : List Loc) (ls : Array Slot), lv_has ls 2 [(1, .int x1), (0, .ref (s0.heap.size + 380))] → gWd s0 D aC M1 r1 ow H locs → F_Rd_passBlanksAndComments fu M r = F_Rd_passBlanksAndComments_L7 fu d x1 M1 r1 → W p l e (gRm 10 184 1 6) s m ([.ref (s0.heap.size + 380)] : List Value).toArray below meth c H locs 0 0 (gt_Q below (gQ s0 D aC ow (qV (F_Rd_passBlanksAndComments fu M r)) (qT (F_Rd_passBlanksAndComments fu M r))) s 0 0 1 6 (fun q => s0.heap.size ≤ q)) (F0 m 7 ls []) := by
    intro d
    induction d with
    | zero => intro x1 M1 r1 H locs ls hl hw hF; exact absurd hF hno
    | succ d ih =>
      intro x1 M1 r1 H locs ls hl hw hF
      have hF := hF.trans (F_Rd_passBlanksAndComments_L7.eq_2 _ _ _ _ _)
      refine lv_iload_n hx hb d_Rd_passBlanksAndComments_7 rfl (lv_at hl 0 rfl) ?_
      refine lv_aload_n hx hb d_Rd_passBlanksAndComments_8 rfl (lv_at hl 1 rfl) ?_
      refine gf_Rd_text hx hb T hown hK hw rfl (kf_Rd_55 T) d_Rd_passBlanksAndComments_9 ?_
      refine gf_Row_size hx hb T hown hK hw (i := 2) (by decide) rfl (kf_Rd_71 T) d_Rd_passBlanksAndComments_12 ?_
      refine lv_icmp_ge hx hb d_Rd_passBlanksAndComments_15 rfl (fun h9 => ?_) (fun h9 => ?_)
      · skip
        have hF := hF.trans (if_pos h9)
        exact X53  _ _ _ _ _ (gv_loc hl [] rfl) hw hF
      · skip
        have hF := hF.trans (if_neg h9)
        refine lv_aload_n hx hb d_Rd_passBlanksAndComments_18 rfl (lv_at hl 1 rfl) ?_
        refine lv_iconst (v := 0) hx hb d_Rd_passBlanksAndComments_19 (by decide) ?_
        refine gy_V B hl.1 hw (t_Rd_next G _ _ ow fu 0 (nn hno hF)) (kd_Rd_next T) (ki_Rd T) (km_Rd_76 T) (ka_Rd_next T) (ks_Rd_next T) ⟨by decide, by decide, by rfl⟩ (rv_Rd hK hw rfl) rfl (Nat.le_of_ble_eq_true rfl) ⟨by decide, by decide⟩ ⟨by decide, by decide⟩ d_Rd_passBlanksAndComments_20 (fun v M10 r10 H locs hw hp => ?_) (fun x ek M10 r10 H locs hw hE hp => gr_t B hexc hw hE (by decide) (by decide) (hF.trans (bnd_ex hp)))
        obtain ⟨v10, rfl, hp⟩ := hp
        have hF := hF.trans (bnd_ok hp)
        refine lv_bipush (v := 60) hx hb d_Rd_passBlanksAndComments_23 (by decide) ?_
        refine lv_icmp_ne hx hb d_Rd_passBlanksAndComments_25 rfl (fun h11 => ?_) (fun h11 => ?_)
        · skip
          have hF := hF.trans (if_neg h11)
          exact X53  _ _ _ _ _ (gv_loc hl [] rfl) hw hF
        · skip
          have hF := hF.trans (if_pos h11)
          refine lv_aload_n hx hb d_Rd_passBlanksAndComments_28 rfl (lv_at hl 1 rfl) ?_
          refine lv_iconst (v := 1) hx hb d_Rd_passBlanksAndComments_29 (by decide) ?_
          refine gy_V B hl.1 hw (t_Rd_next G _ _ ow fu 1 (nn hno hF)) (kd_Rd_next T) (ki_Rd T) (km_Rd_76 T) (ka_Rd_next T) (ks_Rd_next T) ⟨by decide, by decide, by rfl⟩ (rv_Rd hK hw rfl) rfl (Nat.le_of_ble_eq_true rfl) ⟨by decide, by decide⟩ ⟨by decide, by decide⟩ d_Rd_passBlanksAndComments_30 (fun v M12 r12 H locs hw hp => ?_) (fun x ek M12 r12 H locs hw hE hp => gr_t B hexc hw hE (by decide) (by decide) (hF.trans (bnd_ex hp)))
          obtain ⟨v12, rfl, hp⟩ := hp
          have hF := hF.trans (bnd_ok hp)
          refine lv_bipush (v := 33) hx hb d_Rd_passBlanksAndComments_33 (by decide) ?_
          refine lv_icmp_ne hx hb d_Rd_passBlanksAndComments_35 rfl (fun h13 => ?_) (fun h13 => ?_)
          · skip
            have hF := hF.trans (if_neg h13)
            exact X53  _ _ _ _ _ (gv_loc hl [] rfl) hw hF
          · skip
            have hF := hF.trans (if_pos h13)
            refine lv_aload_n hx hb d_Rd_passBlanksAndComments_38 rfl (lv_at hl 1 rfl) ?_
            refine gy_V B hl.1 hw (t_Rd_passComment G _ _ ow fu (nn hno hF)) (kd_Rd_passComment T) (ki_Rd T) (km_Rd_97 T) (ka_Rd_passComment T) (ks_Rd_passComment T) ⟨by decide, by decide, by rfl⟩ (rv_Rd hK hw rfl) rfl (Nat.le_of_ble_eq_true rfl) ⟨by decide, by decide⟩ ⟨by decide, by decide⟩ d_Rd_passBlanksAndComments_39 (fun v M14 r14 H locs hw hp => ?_) (fun x ek M14 r14 H locs hw hE hp => gr_t B hexc hw hE (by decide) (by decide) (hF.trans (bnd_ex hp)))
            obtain ⟨rfl, hp⟩ := hp
            have hF := hF.trans (bnd_ok hp)
            refine lv_aload_n hx hb d_Rd_passBlanksAndComments_42 rfl (lv_at hl 1 rfl) ?_
            refine gy_V B hl.1 hw (t_Rd_passBlanks G _ _ ow fu (nn hno hF)) (kd_Rd_passBlanks T) (ki_Rd T) (km_Rd_139 T) (ka_Rd_passBlanks T) (ks_Rd_passBlanks T) ⟨by decide, by decide, by rfl⟩ (rv_Rd hK hw rfl) rfl (Nat.le_of_ble_eq_true rfl) ⟨by decide, by decide⟩ ⟨by decide, by decide⟩ d_Rd_passBlanksAndComments_43 (fun v M15 r15 H locs hw hp => ?_) (fun x ek M15 r15 H locs hw hE hp => gr_t B hexc hw hE (by decide) (by decide) (hF.trans (bnd_ex hp)))
            obtain ⟨v15, rfl, hp⟩ := hp
            have hF := hF.trans (bnd_ok hp)
            refine lv_pop hx hb d_Rd_passBlanksAndComments_46 rfl ?_
            refine lv_iinc (k := 0) hx hb d_Rd_passBlanksAndComments_47 hl rfl (show _ + Int32.ofInt 1 = _ + 1 from rfl) (by decide) rfl (fun ls hl => ?_)
            refine lv_goto hx hb d_Rd_passBlanksAndComments_50 rfl ?_
            exact ih (x1 + 1) _ _ _ _ _ (gv_loc hl [0, 1] rfl) hw hF
  have hF := F_Rd_passBlanksAndComments.eq_1 fu M r
  refine lv_aload_n hx hb d_Rd_passBlanksAndComments_0 rfl (lv_at hl 0 rfl) ?_
  refine gy_V B hl.1 hw (t_Rd_passBlanks G _ _ ow fu (nn hno hF)) (kd_Rd_passBlanks T) (ki_Rd T) (km_Rd_139 T) (ka_Rd_passBlanks T) (ks_Rd_passBlanks T) ⟨by decide, by decide, by rfl⟩ (rv_Rd hK hw rfl) rfl (Nat.le_of_ble_eq_true rfl) ⟨by decide, by decide⟩ ⟨by decide, by decide⟩ d_Rd_passBlanksAndComments_1 (fun v M16 r16 H locs hw hp => ?_) (fun x ek M16 r16 H locs hw hE hp => gr_t B hexc hw hE (by decide) (by decide) (hF.trans (bnd_ex hp)))
  obtain ⟨v16, rfl, hp⟩ := hp
  have hF := hF.trans (bnd_ok hp)
  refine lv_pop hx hb d_Rd_passBlanksAndComments_4 rfl ?_
  refine lv_iconst (v := 0) hx hb d_Rd_passBlanksAndComments_5 (by decide) ?_
  refine lv_istore_n hx hb d_Rd_passBlanksAndComments_6 rfl hl (by decide) rfl (fun ls hl => ?_)
  exact L7 fu 0 _ _ _ _ _ (gv_loc hl [0, 1] rfl) hw hF
theorem d_Row_stretchIs_0 : decode b_Row_stretchIs 0 = .ok (.iload_n 2, 1) := by decide +kernel
theorem d_Row_stretchIs_1 : decode b_Row_stretchIs 1 = .ok (.iload_n 1, 1) := by decide +kernel
theorem d_Row_stretchIs_2 : decode b_Row_stretchIs 2 = .ok (.isub, 1) := by decide +kernel
theorem d_Row_stretchIs_3 : decode b_Row_stretchIs 3 = .ok (.aload_n 3, 1) := by decide +kernel
theorem d_Row_stretchIs_4 : decode b_Row_stretchIs 4 = .ok (.invokevirtual 19, 3) := by decide +kernel
theorem d_Row_stretchIs_7 : decode b_Row_stretchIs 7 = .ok (.if_icmp .eq 5, 3) := by decide +kernel
theorem d_Row_stretchIs_10 : decode b_Row_stretchIs 10 = .ok (.iconst 0, 1) := by decide +kernel
theorem d_Row_stretchIs_11 : decode b_Row_stretchIs 11 = .ok (.ireturn, 1) := by decide +kernel
theorem d_Row_stretchIs_12 : decode b_Row_stretchIs 12 = .ok (.iconst 0, 1) := by decide +kernel
theorem d_Row_stretchIs_13 : decode b_Row_stretchIs 13 = .ok (.istore 4, 2) := by decide +kernel
theorem d_Row_stretchIs_15 : decode b_Row_stretchIs 15 = .ok (.iload 4, 2) := by decide +kernel
theorem d_Row_stretchIs_17 : decode b_Row_stretchIs 17 = .ok (.aload_n 3, 1) := by decide +kernel
theorem d_Row_stretchIs_18 : decode b_Row_stretchIs 18 = .ok (.invokevirtual 19, 3) := by decide +kernel
theorem d_Row_stretchIs_21 : decode b_Row_stretchIs 21 = .ok (.if_icmp .ge 28, 3) := by decide +kernel
theorem d_Row_stretchIs_24 : decode b_Row_stretchIs 24 = .ok (.aload_n 0, 1) := by decide +kernel
theorem d_Row_stretchIs_25 : decode b_Row_stretchIs 25 = .ok (.iload_n 1, 1) := by decide +kernel
theorem d_Row_stretchIs_26 : decode b_Row_stretchIs 26 = .ok (.iload 4, 2) := by decide +kernel
theorem d_Row_stretchIs_28 : decode b_Row_stretchIs 28 = .ok (.iadd, 1) := by decide +kernel
theorem d_Row_stretchIs_29 : decode b_Row_stretchIs 29 = .ok (.invokevirtual 33, 3) := by decide +kernel
theorem d_Row_stretchIs_32 : decode b_Row_stretchIs 32 = .ok (.aload_n 3, 1) := by decide +kernel
theorem d_Row_stretchIs_33 : decode b_Row_stretchIs 33 = .ok (.iload 4, 2) := by decide +kernel
theorem d_Row_stretchIs_35 : decode b_Row_stretchIs 35 = .ok (.invokevirtual 25, 3) := by decide +kernel
theorem d_Row_stretchIs_38 : decode b_Row_stretchIs 38 = .ok (.if_icmp .eq 5, 3) := by decide +kernel
theorem d_Row_stretchIs_41 : decode b_Row_stretchIs 41 = .ok (.iconst 0, 1) := by decide +kernel
theorem d_Row_stretchIs_42 : decode b_Row_stretchIs 42 = .ok (.ireturn, 1) := by decide +kernel
theorem d_Row_stretchIs_43 : decode b_Row_stretchIs 43 = .ok (.iinc 4 1, 3) := by decide +kernel
theorem d_Row_stretchIs_46 : decode b_Row_stretchIs 46 = .ok (.goto (-31), 3) := by decide +kernel
theorem d_Row_stretchIs_49 : decode b_Row_stretchIs 49 = .ok (.iconst 1, 1) := by decide +kernel
theorem d_Row_stretchIs_50 : decode b_Row_stretchIs 50 = .ok (.ireturn, 1) := by decide +kernel
set_option maxHeartbeats 4000000 in
set_option maxRecDepth 100000 in
theorem t_Row_stretchIs {l : Launch} {s0 : State} {D : va_G} {aC : Nat → ClassId} {a0 : Array Value} (G : gG l s0 D aC a0) (M : gMem) (r : gRef) (ow : Int64) (fu : Nat) (k0 : Nat) (x1 : Int32) (x2 : Int32) (q3 : Nat) (b0 : k0 < 6) (b3 : q3 < gSn) (hno : F_Row_stretchIs fu k0 x1 x2 q3 M r ≠ .no) : gMet l s0 D aC y_Row_stretchIs (Cond.code y_Row_stretchIs b_Row_stretchIs 5 (some .boolean)) 5 142 0 0 [.ref (s0.heap.size + oRow k0), .int x1, .int x2, .ref (gSa s0 q3)] M r ow (qI (F_Row_stretchIs fu k0 x1 x2 q3 M r)) (qT (F_Row_stretchIs fu k0 x1 x2 q3 M r)) := by
  refine gm_of G (by decide) (Nat.le_of_ble_eq_true rfl) ?_
  intro p e s m below meth c ls B hexc hl hw
  have hx := B.1
  have hb := B.2.1
  have hown := B.2.2.2.2.2.1
  have T := B.2.2.2.2.2.2.1
  have hK := B.2.2.2.2.2.2.2.1
  have X49 : ∀ (M1 : gMem) (r1 : gRef) (H : Heap) (locs : List Loc) (ls : Array Slot), lv_has ls 5 [] → gWd s0 D aC M1 r1 ow H locs → F_Row_stretchIs fu k0 x1 x2 q3 M r = F_Row_stretchIs_B49 fu k0 x1 x2 q3 M1 r1 → W p l e (gRm 5 142 0 0) s m ([.ref (s0.heap.size + oRow k0), .int x1, .int x2, .ref (gSa s0 q3)] : List Value).toArray below meth c H locs 0 0 (gt_Q below (gQ s0 D aC ow (qI (F_Row_stretchIs fu k0 x1 x2 q3 M r)) (qT (F_Row_stretchIs fu k0 x1 x2 q3 M r))) s 0 0 0 0 (fun q => s0.heap.size ≤ q)) (F0 m 49 ls []) := by
    intro  M1 r1 H locs ls hl hw hF
    have hF := hF.trans (F_Row_stretchIs_B49.eq_1 _ _ _ _ _ _ _)
    refine lv_iconst (v := 1) hx hb d_Row_stretchIs_49 (by decide) ?_
    exact gr_z B hw (by rfl) d_Row_stretchIs_50 ⟨_, rfl, hF⟩
  have L15 : ∀ (d : Nat) (x4 : Int32) (M1 : gMem) (r1 : gRef) (H : Heap) (locs : List Loc) (ls : Array Slot), lv_has ls 5 [(4, .int x4), (0, .ref (s0.heap.size + oRow k0)), (1, .int x1), (3, .ref (gSa s0 q3))] → gWd s0 D aC M1 r1 ow H locs → F_Row_stretchIs fu k0 x1 x2 q3 M r = F_Row_stretchIs_L15 fu k0 x1 x2 q3 d x4 M1 r1 → W p l e (gRm 5 142 0 0) s m ([.ref (s0.heap.size + oRow k0), .int x1, .int x2, .ref (gSa s0 q3)] : List Value).toArray below meth c H locs 0 0 (gt_Q below (gQ s0 D aC ow (qI (F_Row_stretchIs fu k0 x1 x2 q3 M r)) (qT (F_Row_stretchIs fu k0 x1 x2 q3 M r))) s 0 0 0 0 (fun q => s0.heap.size ≤ q)) (F0 m 15 ls []) := by
    intro d
    induction d with
    | zero => intro x4 M1 r1 H locs ls hl hw hF; exact absurd hF hno
    | succ d ih =>
      intro x4 M1 r1 H locs ls hl hw hF
      have hF := hF.trans (F_Row_stretchIs_L15.eq_2 _ _ _ _ _ _ _ _ _)
      refine lv_iload hx hb d_Row_stretchIs_15 (lv_at hl 0 rfl) ?_
      refine lv_aload_n hx hb d_Row_stretchIs_17 rfl (lv_at hl 3 rfl) ?_
      refine gy_V B hl.1 hw (t_St_length G _ _ ow fu q3 b3 (nn hno hF)) (kd_St_length T) (ki_St T) (km_Row_19 T) (ka_St_length T) (ks_St_length T) ⟨by decide, by decide, by rfl⟩ (rv_St G B hw b3) rfl (Nat.le_of_ble_eq_true rfl) ⟨by decide, by decide⟩ ⟨by decide, by decide⟩ d_Row_stretchIs_18 (fun v M8 r8 H locs hw hp => ?_) (fun x ek M8 r8 H locs hw hE hp => gr_t B hexc hw hE (by decide) (by decide) (hF.trans (bnd_ex hp)))
      obtain ⟨v8, rfl, hp⟩ := hp
      have hF := hF.trans (bnd_ok hp)
      refine lv_icmp_ge hx hb d_Row_stretchIs_21 rfl (fun h9 => ?_) (fun h9 => ?_)
      · skip
        have hF := hF.trans (if_pos h9)
        exact X49  _ _ _ _ _ (gv_loc hl [] rfl) hw hF
      · skip
        have hF := hF.trans (if_neg h9)
        refine lv_aload_n hx hb d_Row_stretchIs_24 rfl (lv_at hl 1 rfl) ?_
        refine lv_iload_n hx hb d_Row_stretchIs_25 rfl (lv_at hl 2 rfl) ?_
        refine lv_iload hx hb d_Row_stretchIs_26 (lv_at hl 0 rfl) ?_
        refine lv_iadd hx hb d_Row_stretchIs_28 ?_
        refine gy_V B hl.1 hw (t_Row_at G _ _ ow fu k0 (x1 + x4) b0 (nn hno hF)) (kd_Row_at T) (ki_Row T) (km_Row_33 T) (ka_Row_at T) (ks_Row_at T) ⟨by decide, by decide, by rfl⟩ (rv_Row hK hw (i := k0) b0 rfl) rfl (Nat.le_of_ble_eq_true rfl) ⟨by decide, by decide⟩ ⟨by decide, by decide⟩ d_Row_stretchIs_29 (fun v M10 r10 H locs hw hp => ?_) (fun x ek M10 r10 H locs hw hE hp => gr_t B hexc hw hE (by decide) (by decide) (hF.trans (bnd_ex hp)))
        obtain ⟨v10, rfl, hp⟩ := hp
        have hF := hF.trans (bnd_ok hp)
        refine lv_aload_n hx hb d_Row_stretchIs_32 rfl (lv_at hl 3 rfl) ?_
        refine lv_iload hx hb d_Row_stretchIs_33 (lv_at hl 0 rfl) ?_
        refine gy_V B hl.1 hw (t_St_charAt G _ _ ow fu q3 x4 b3 (nn hno hF)) (kd_St_charAt T) (ki_St T) (km_Row_25 T) (ka_St_charAt T) (ks_St_charAt T) ⟨by decide, by decide, by rfl⟩ (rv_St G B hw b3) rfl (Nat.le_of_ble_eq_true rfl) ⟨by decide, by decide⟩ ⟨by decide, by decide⟩ d_Row_stretchIs_35 (fun v M11 r11 H locs hw hp => ?_) (fun x ek M11 r11 H locs hw hE hp => gr_t B hexc hw hE (by decide) (by decide) (hF.trans (bnd_ex hp)))
        obtain ⟨v11, rfl, hp⟩ := hp
        have hF := hF.trans (bnd_ok hp)
        refine lv_icmp_eq hx hb d_Row_stretchIs_38 rfl (fun h12 => ?_) (fun h12 => ?_)
        · skip
          have hF := hF.trans (if_pos h12)
          refine lv_iinc (k := 0) hx hb d_Row_stretchIs_43 hl rfl (show _ + Int32.ofInt 1 = _ + 1 from rfl) (by decide) rfl (fun ls hl => ?_)
          refine lv_goto hx hb d_Row_stretchIs_46 rfl ?_
          exact ih (x4 + 1) _ _ _ _ _ (gv_loc hl [0, 1, 2, 3] rfl) hw hF
        · skip
          have hF := hF.trans (if_neg h12)
          refine lv_iconst (v := 0) hx hb d_Row_stretchIs_41 (by decide) ?_
          exact gr_z B hw (by rfl) d_Row_stretchIs_42 ⟨_, rfl, hF⟩
  have hF := F_Row_stretchIs.eq_1 fu k0 x1 x2 q3 M r
  refine lv_iload_n hx hb d_Row_stretchIs_0 rfl (lv_at hl 2 rfl) ?_
  refine lv_iload_n hx hb d_Row_stretchIs_1 rfl (lv_at hl 1 rfl) ?_
  refine lv_isub hx hb d_Row_stretchIs_2 ?_
  refine lv_aload_n hx hb d_Row_stretchIs_3 rfl (lv_at hl 3 rfl) ?_
  refine gy_V B hl.1 hw (t_St_length G _ _ ow fu q3 b3 (nn hno hF)) (kd_St_length T) (ki_St T) (km_Row_19 T) (ka_St_length T) (ks_St_length T) ⟨by decide, by decide, by rfl⟩ (rv_St G B hw b3) rfl (Nat.le_of_ble_eq_true rfl) ⟨by decide, by decide⟩ ⟨by decide, by decide⟩ d_Row_stretchIs_4 (fun v M13 r13 H locs hw hp => ?_) (fun x ek M13 r13 H locs hw hE hp => gr_t B hexc hw hE (by decide) (by decide) (hF.trans (bnd_ex hp)))
  obtain ⟨v13, rfl, hp⟩ := hp
  have hF := hF.trans (bnd_ok hp)
  refine lv_icmp_eq hx hb d_Row_stretchIs_7 rfl (fun h14 => ?_) (fun h14 => ?_)
  · skip
    have hF := hF.trans (if_pos h14)
    refine lv_iconst (v := 0) hx hb d_Row_stretchIs_12 (by decide) ?_
    refine lv_istore hx hb d_Row_stretchIs_13 hl (by decide) rfl (fun ls hl => ?_)
    exact L15 fu 0 _ _ _ _ _ (gv_loc hl [0, 1, 2, 4] rfl) hw hF
  · skip
    have hF := hF.trans (if_neg h14)
    refine lv_iconst (v := 0) hx hb d_Row_stretchIs_10 (by decide) ?_
    exact gr_z B hw (by rfl) d_Row_stretchIs_11 ⟨_, rfl, hF⟩
theorem d_Tr_isDeclaration_0 : decode b_Tr_isDeclaration 0 = .ok (.aload_n 1, 1) := by decide +kernel
theorem d_Tr_isDeclaration_1 : decode b_Tr_isDeclaration 1 = .ok (.invokevirtual 70, 3) := by decide +kernel
theorem d_Tr_isDeclaration_4 : decode b_Tr_isDeclaration 4 = .ok (.ifCond .eq 10, 3) := by decide +kernel
theorem d_Tr_isDeclaration_7 : decode b_Tr_isDeclaration 7 = .ok (.aload_n 1, 1) := by decide +kernel
theorem d_Tr_isDeclaration_8 : decode b_Tr_isDeclaration 8 = .ok (.invokevirtual 76, 3) := by decide +kernel
theorem d_Tr_isDeclaration_11 : decode b_Tr_isDeclaration 11 = .ok (.goto 7, 3) := by decide +kernel
theorem d_Tr_isDeclaration_14 : decode b_Tr_isDeclaration 14 = .ok (.aload_n 1, 1) := by decide +kernel
theorem d_Tr_isDeclaration_15 : decode b_Tr_isDeclaration 15 = .ok (.getfield 80, 3) := by decide +kernel
theorem d_Tr_isDeclaration_18 : decode b_Tr_isDeclaration 18 = .ok (.istore_n 2, 1) := by decide +kernel
theorem d_Tr_isDeclaration_19 : decode b_Tr_isDeclaration 19 = .ok (.aload_n 0, 1) := by decide +kernel
theorem d_Tr_isDeclaration_20 : decode b_Tr_isDeclaration 20 = .ok (.getfield 14, 3) := by decide +kernel
theorem d_Tr_isDeclaration_23 : decode b_Tr_isDeclaration 23 = .ok (.aload_n 1, 1) := by decide +kernel
theorem d_Tr_isDeclaration_24 : decode b_Tr_isDeclaration 24 = .ok (.getfield 83, 3) := by decide +kernel
theorem d_Tr_isDeclaration_27 : decode b_Tr_isDeclaration 27 = .ok (.iload_n 2, 1) := by decide +kernel
theorem d_Tr_isDeclaration_28 : decode b_Tr_isDeclaration 28 = .ok (.ldc 86, 2) := by decide +kernel
theorem d_Tr_isDeclaration_30 : decode b_Tr_isDeclaration 30 = .ok (.invokevirtual 88, 3) := by decide +kernel
theorem d_Tr_isDeclaration_33 : decode b_Tr_isDeclaration 33 = .ok (.ireturn, 1) := by decide +kernel
set_option maxHeartbeats 4000000 in
set_option maxRecDepth 100000 in
theorem t_Tr_isDeclaration {l : Launch} {s0 : State} {D : va_G} {aC : Nat → ClassId} {a0 : Array Value} (G : gG l s0 D aC a0) (M : gMem) (r : gRef) (ow : Int64) (fu : Nat) (k1 : Nat) (b1 : k1 < 170) (hno : F_Tr_isDeclaration fu k1 M r ≠ .no) : gMet l s0 D aC y_Tr_isDeclaration (Cond.code y_Tr_isDeclaration b_Tr_isDeclaration 3 (some .boolean)) 6 166 0 0 [.ref (s0.heap.size + 5), .ref (s0.heap.size + oNm k1)] M r ow (qI (F_Tr_isDeclaration fu k1 M r)) (qT (F_Tr_isDeclaration fu k1 M r)) := by
  refine gm_of G (by decide) (Nat.le_of_ble_eq_true rfl) ?_
  intro p e s m below meth c ls B hexc hl hw
  have hx := B.1
  have hb := B.2.1
  have hown := B.2.2.2.2.2.1
  have T := B.2.2.2.2.2.2.1
  have hK := B.2.2.2.2.2.2.2.1
  have hF := F_Tr_isDeclaration.eq_1 fu k1 M r
  refine lv_aload_n hx hb d_Tr_isDeclaration_0 rfl (lv_at hl 1 rfl) ?_
  refine gy_V B hl.1 hw (t_Nm_hasPrefix G _ _ ow fu k1 b1 (nn hno hF)) (kd_Nm_hasPrefix T) (ki_Nm T) (km_Tr_70 T) (ka_Nm_hasPrefix T) (ks_Nm_hasPrefix T) ⟨by decide, by decide, by rfl⟩ (rv_Nm hK hw (i := k1) b1 rfl) rfl (Nat.le_of_ble_eq_true rfl) ⟨by decide, by decide⟩ ⟨by decide, by decide⟩ d_Tr_isDeclaration_1 (fun v M8 r8 H locs hw hp => ?_) (fun x ek M8 r8 H locs hw hE hp => gr_t B hexc hw hE (by decide) (by decide) (hF.trans (bnd_ex hp)))
  obtain ⟨v8, rfl, hp⟩ := hp
  have hF := hF.trans (bnd_ok hp)
  refine lv_if_eq hx hb d_Tr_isDeclaration_4 rfl (fun h9 => ?_) (fun h9 => ?_)
  · skip
    have hF := hF.trans (if_pos h9)
    refine lv_aload_n hx hb d_Tr_isDeclaration_14 rfl (lv_at hl 1 rfl) ?_
    refine gf_Nm_end hx hb T hown hK hw (i := k1) b1 rfl (kf_Tr_80 T) d_Tr_isDeclaration_15 ?_
    refine lv_istore_n hx hb d_Tr_isDeclaration_18 rfl hl (by decide) rfl (fun ls hl => ?_)
    refine lv_aload_n hx hb d_Tr_isDeclaration_19 rfl (lv_at hl 1 rfl) ?_
    refine gf_Tr_text hx hb T hown hK hw rfl (kf_Tr_14 T) d_Tr_isDeclaration_20 ?_
    refine lv_aload_n hx hb d_Tr_isDeclaration_23 rfl (lv_at hl 2 rfl) ?_
    refine gf_Nm_start hx hb T hown hK hw (i := k1) b1 rfl (kf_Tr_83 T) d_Tr_isDeclaration_24 ?_
    refine lv_iload_n hx hb d_Tr_isDeclaration_27 rfl (lv_at hl 0 rfl) ?_
    refine gl_Tr_86 B G d_Tr_isDeclaration_28 ?_
    refine gy_V B hl.1 hw (t_Row_stretchIs G _ _ ow fu 2 (M8 20 k1) (M8 22 k1) 2 (by decide) (by decide) (nn hno hF)) (kd_Row_stretchIs T) (ki_Row T) (km_Tr_88 T) (ka_Row_stretchIs T) (ks_Row_stretchIs T) ⟨by decide, by decide, by rfl⟩ (rv_Row hK hw (i := 2) (by decide) rfl) rfl (Nat.le_of_ble_eq_true rfl) ⟨by decide, by decide⟩ ⟨by decide, by decide⟩ d_Tr_isDeclaration_30 (fun v M10 r10 H locs hw hp => ?_) (fun x ek M10 r10 H locs hw hE hp => gr_t B hexc hw hE (by decide) (by decide) (hF.trans (bnd_ex hp)))
    obtain ⟨v10, rfl, hp⟩ := hp
    have hF := hF.trans (bnd_ok hp)
    have g11 := ng hno hF
    have hF := hF.trans (gd_yes g11)
    exact gr_z B hw g11 d_Tr_isDeclaration_33 ⟨_, rfl, hF⟩
  · skip
    have hF := hF.trans (if_neg h9)
    refine lv_aload_n hx hb d_Tr_isDeclaration_7 rfl (lv_at hl 1 rfl) ?_
    refine gy_V B hl.1 hw (t_Nm_prefixEnd G _ _ ow fu k1 b1 (nn hno hF)) (kd_Nm_prefixEnd T) (ki_Nm T) (km_Tr_76 T) (ka_Nm_prefixEnd T) (ks_Nm_prefixEnd T) ⟨by decide, by decide, by rfl⟩ (rv_Nm hK hw (i := k1) b1 rfl) rfl (Nat.le_of_ble_eq_true rfl) ⟨by decide, by decide⟩ ⟨by decide, by decide⟩ d_Tr_isDeclaration_8 (fun v M12 r12 H locs hw hp => ?_) (fun x ek M12 r12 H locs hw hE hp => gr_t B hexc hw hE (by decide) (by decide) (hF.trans (bnd_ex hp)))
    obtain ⟨v12, rfl, hp⟩ := hp
    have hF := hF.trans (bnd_ok hp)
    refine lv_goto hx hb d_Tr_isDeclaration_11 rfl ?_
    refine lv_istore_n hx hb d_Tr_isDeclaration_18 rfl hl (by decide) rfl (fun ls hl => ?_)
    refine lv_aload_n hx hb d_Tr_isDeclaration_19 rfl (lv_at hl 1 rfl) ?_
    refine gf_Tr_text hx hb T hown hK hw rfl (kf_Tr_14 T) d_Tr_isDeclaration_20 ?_
    refine lv_aload_n hx hb d_Tr_isDeclaration_23 rfl (lv_at hl 2 rfl) ?_
    refine gf_Nm_start hx hb T hown hK hw (i := k1) b1 rfl (kf_Tr_83 T) d_Tr_isDeclaration_24 ?_
    refine lv_iload_n hx hb d_Tr_isDeclaration_27 rfl (lv_at hl 0 rfl) ?_
    refine gl_Tr_86 B G d_Tr_isDeclaration_28 ?_
    refine gy_V B hl.1 hw (t_Row_stretchIs G _ _ ow fu 2 (M12 20 k1) v12 2 (by decide) (by decide) (nn hno hF)) (kd_Row_stretchIs T) (ki_Row T) (km_Tr_88 T) (ka_Row_stretchIs T) (ks_Row_stretchIs T) ⟨by decide, by decide, by rfl⟩ (rv_Row hK hw (i := 2) (by decide) rfl) rfl (Nat.le_of_ble_eq_true rfl) ⟨by decide, by decide⟩ ⟨by decide, by decide⟩ d_Tr_isDeclaration_30 (fun v M13 r13 H locs hw hp => ?_) (fun x ek M13 r13 H locs hw hE hp => gr_t B hexc hw hE (by decide) (by decide) (hF.trans (bnd_ex hp)))
    obtain ⟨v13, rfl, hp⟩ := hp
    have hF := hF.trans (bnd_ok hp)
    have g14 := ng hno hF
    have hF := hF.trans (gd_yes g14)
    exact gr_z B hw g14 d_Tr_isDeclaration_33 ⟨_, rfl, hF⟩
theorem d_Rd_passIfThere_0 : decode b_Rd_passIfThere 0 = .ok (.iconst 0, 1) := by decide +kernel
theorem d_Rd_passIfThere_1 : decode b_Rd_passIfThere 1 = .ok (.istore_n 2, 1) := by decide +kernel
theorem d_Rd_passIfThere_2 : decode b_Rd_passIfThere 2 = .ok (.iload_n 2, 1) := by decide +kernel
theorem d_Rd_passIfThere_3 : decode b_Rd_passIfThere 3 = .ok (.aload_n 1, 1) := by decide +kernel
theorem d_Rd_passIfThere_4 : decode b_Rd_passIfThere 4 = .ok (.invokevirtual 122, 3) := by decide +kernel
theorem d_Rd_passIfThere_7 : decode b_Rd_passIfThere 7 = .ok (.if_icmp .ge 24, 3) := by decide +kernel
theorem d_Rd_passIfThere_10 : decode b_Rd_passIfThere 10 = .ok (.aload_n 0, 1) := by decide +kernel
theorem d_Rd_passIfThere_11 : decode b_Rd_passIfThere 11 = .ok (.iload_n 2, 1) := by decide +kernel
theorem d_Rd_passIfThere_12 : decode b_Rd_passIfThere 12 = .ok (.invokevirtual 76, 3) := by decide +kernel
theorem d_Rd_passIfThere_15 : decode b_Rd_passIfThere 15 = .ok (.aload_n 1, 1) := by decide +kernel
theorem d_Rd_passIfThere_16 : decode b_Rd_passIfThere 16 = .ok (.iload_n 2, 1) := by decide +kernel
theorem d_Rd_passIfThere_17 : decode b_Rd_passIfThere 17 = .ok (.invokevirtual 128, 3) := by decide +kernel
theorem d_Rd_passIfThere_20 : decode b_Rd_passIfThere 20 = .ok (.if_icmp .eq 5, 3) := by decide +kernel
theorem d_Rd_passIfThere_23 : decode b_Rd_passIfThere 23 = .ok (.iconst 0, 1) := by decide +kernel
theorem d_Rd_passIfThere_24 : decode b_Rd_passIfThere 24 = .ok (.ireturn, 1) := by decide +kernel
theorem d_Rd_passIfThere_25 : decode b_Rd_passIfThere 25 = .ok (.iinc 2 1, 3) := by decide +kernel
theorem d_Rd_passIfThere_28 : decode b_Rd_passIfThere 28 = .ok (.goto (-26), 3) := by decide +kernel
theorem d_Rd_passIfThere_31 : decode b_Rd_passIfThere 31 = .ok (.aload_n 0, 1) := by decide +kernel
theorem d_Rd_passIfThere_32 : decode b_Rd_passIfThere 32 = .ok (.dup, 1) := by decide +kernel
theorem d_Rd_passIfThere_33 : decode b_Rd_passIfThere 33 = .ok (.getfield 18, 3) := by decide +kernel
theorem d_Rd_passIfThere_36 : decode b_Rd_passIfThere 36 = .ok (.aload_n 1, 1) := by decide +kernel
theorem d_Rd_passIfThere_37 : decode b_Rd_passIfThere 37 = .ok (.invokevirtual 122, 3) := by decide +kernel
theorem d_Rd_passIfThere_40 : decode b_Rd_passIfThere 40 = .ok (.iadd, 1) := by decide +kernel
theorem d_Rd_passIfThere_41 : decode b_Rd_passIfThere 41 = .ok (.putfield 18, 3) := by decide +kernel
theorem d_Rd_passIfThere_44 : decode b_Rd_passIfThere 44 = .ok (.iconst 1, 1) := by decide +kernel
theorem d_Rd_passIfThere_45 : decode b_Rd_passIfThere 45 = .ok (.ireturn, 1) := by decide +kernel
set_option maxHeartbeats 4000000 in
set_option maxRecDepth 100000 in
theorem t_Rd_passIfThere {l : Launch} {s0 : State} {D : va_G} {aC : Nat → ClassId} {a0 : Array Value} (G : gG l s0 D aC a0) (M : gMem) (r : gRef) (ow : Int64) (fu : Nat) (q1 : Nat) (b1 : q1 < gSn) (hno : F_Rd_passIfThere fu q1 M r ≠ .no) : gMet l s0 D aC y_Rd_passIfThere (Cond.code y_Rd_passIfThere b_Rd_passIfThere 3 (some .boolean)) 5 142 0 0 [.ref (s0.heap.size + 380), .ref (gSa s0 q1)] M r ow (qI (F_Rd_passIfThere fu q1 M r)) (qT (F_Rd_passIfThere fu q1 M r)) := by
  refine gm_of G (by decide) (Nat.le_of_ble_eq_true rfl) ?_
  intro p e s m below meth c ls B hexc hl hw
  have hx := B.1
  have hb := B.2.1
  have hown := B.2.2.2.2.2.1
  have T := B.2.2.2.2.2.2.1
  have hK := B.2.2.2.2.2.2.2.1
  have X31 : ∀ (M1 : gMem) (r1 : gRef) (H : Heap) (locs : List Loc) (ls : Array Slot), lv_has ls 3 [(0, .ref (s0.heap.size + 380)), (1, .ref (gSa s0 q1))] → gWd s0 D aC M1 r1 ow H locs → F_Rd_passIfThere fu q1 M r = F_Rd_passIfThere_B31 fu q1 M1 r1 → W p l e (gRm 5 142 0 0) s m ([.ref (s0.heap.size + 380), .ref (gSa s0 q1)] : List Value).toArray below meth c H locs 0 0 (gt_Q below (gQ s0 D aC ow (qI (F_Rd_passIfThere fu q1 M r)) (qT (F_Rd_passIfThere fu q1 M r))) s 0 0 0 0 (fun q => s0.heap.size ≤ q)) (F0 m 31 ls []) := by
    intro  M1 r1 H locs ls hl hw hF
    have hF := hF.trans (F_Rd_passIfThere_B31.eq_1 _ _ _ _)
    refine lv_aload_n hx hb d_Rd_passIfThere_31 rfl (lv_at hl 0 rfl) ?_
    refine lv_dup hx hb d_Rd_passIfThere_32 rfl ?_
    refine gf_Rd_at hx hb T hown hK hw rfl (kf_Rd_18 T) d_Rd_passIfThere_33 ?_
    refine lv_aload_n hx hb d_Rd_passIfThere_36 rfl (lv_at hl 1 rfl) ?_
    refine gy_V B hl.1 hw (t_St_length G _ _ ow fu q1 b1 (nn hno hF)) (kd_St_length T) (ki_St T) (km_Rd_122 T) (ka_St_length T) (ks_St_length T) ⟨by decide, by decide, by rfl⟩ (rv_St G B hw b1) rfl (Nat.le_of_ble_eq_true rfl) ⟨by decide, by decide⟩ ⟨by decide, by decide⟩ d_Rd_passIfThere_37 (fun v M7 r7 H locs hw hp => ?_) (fun x ek M7 r7 H locs hw hE hp => gr_t B hexc hw hE (by decide) (by decide) (hF.trans (bnd_ex hp)))
    obtain ⟨v7, rfl, hp⟩ := hp
    have hF := hF.trans (bnd_ok hp)
    refine lv_iadd hx hb d_Rd_passIfThere_40 ?_
    refine pf_Rd_at hx hb T hown hK hw rfl (kf_Rd_18 T) d_Rd_passIfThere_41 (fun H locs hw => ?_)
    refine lv_iconst (v := 1) hx hb d_Rd_passIfThere_44 (by decide) ?_
    exact gr_z B hw (by rfl) d_Rd_passIfThere_45 ⟨_, rfl, hF⟩
  have L2 : ∀ (d : Nat) (x2 : Int32) (M1 : gMem) (r1 : gRef) (H : Heap) (locs : List Loc) (ls : Array Slot), lv_has ls 3 [(2, .int x2), (0, .ref (s0.heap.size + 380)), (1, .ref (gSa s0 q1))] → gWd s0 D aC M1 r1 ow H locs → F_Rd_passIfThere fu q1 M r = F_Rd_passIfThere_L2 fu q1 d x2 M1 r1 → W p l e (gRm 5 142 0 0) s m ([.ref (s0.heap.size + 380), .ref (gSa s0 q1)] : List Value).toArray below meth c H locs 0 0 (gt_Q below (gQ s0 D aC ow (qI (F_Rd_passIfThere fu q1 M r)) (qT (F_Rd_passIfThere fu q1 M r))) s 0 0 0 0 (fun q => s0.heap.size ≤ q)) (F0 m 2 ls []) := by
    intro d
    induction d with
    | zero => intro x2 M1 r1 H locs ls hl hw hF; exact absurd hF hno
    | succ d ih =>
      intro x2 M1 r1 H locs ls hl hw hF
      have hF := hF.trans (F_Rd_passIfThere_L2.eq_2 _ _ _ _ _ _)
      refine lv_iload_n hx hb d_Rd_passIfThere_2 rfl (lv_at hl 0 rfl) ?_
      refine lv_aload_n hx hb d_Rd_passIfThere_3 rfl (lv_at hl 2 rfl) ?_
      refine gy_V B hl.1 hw (t_St_length G _ _ ow fu q1 b1 (nn hno hF)) (kd_St_length T) (ki_St T) (km_Rd_122 T) (ka_St_length T) (ks_St_length T) ⟨by decide, by decide, by rfl⟩ (rv_St G B hw b1) rfl (Nat.le_of_ble_eq_true rfl) ⟨by decide, by decide⟩ ⟨by decide, by decide⟩ d_Rd_passIfThere_4 (fun v M8 r8 H locs hw hp => ?_) (fun x ek M8 r8 H locs hw hE hp => gr_t B hexc hw hE (by decide) (by decide) (hF.trans (bnd_ex hp)))
      obtain ⟨v8, rfl, hp⟩ := hp
      have hF := hF.trans (bnd_ok hp)
      refine lv_icmp_ge hx hb d_Rd_passIfThere_7 rfl (fun h9 => ?_) (fun h9 => ?_)
      · skip
        have hF := hF.trans (if_pos h9)
        exact X31  _ _ _ _ _ (gv_loc hl [1, 2] rfl) hw hF
      · skip
        have hF := hF.trans (if_neg h9)
        refine lv_aload_n hx hb d_Rd_passIfThere_10 rfl (lv_at hl 1 rfl) ?_
        refine lv_iload_n hx hb d_Rd_passIfThere_11 rfl (lv_at hl 0 rfl) ?_
        refine gy_V B hl.1 hw (t_Rd_next G _ _ ow fu x2 (nn hno hF)) (kd_Rd_next T) (ki_Rd T) (km_Rd_76 T) (ka_Rd_next T) (ks_Rd_next T) ⟨by decide, by decide, by rfl⟩ (rv_Rd hK hw rfl) rfl (Nat.le_of_ble_eq_true rfl) ⟨by decide, by decide⟩ ⟨by decide, by decide⟩ d_Rd_passIfThere_12 (fun v M10 r10 H locs hw hp => ?_) (fun x ek M10 r10 H locs hw hE hp => gr_t B hexc hw hE (by decide) (by decide) (hF.trans (bnd_ex hp)))
        obtain ⟨v10, rfl, hp⟩ := hp
        have hF := hF.trans (bnd_ok hp)
        refine lv_aload_n hx hb d_Rd_passIfThere_15 rfl (lv_at hl 2 rfl) ?_
        refine lv_iload_n hx hb d_Rd_passIfThere_16 rfl (lv_at hl 0 rfl) ?_
        refine gy_V B hl.1 hw (t_St_charAt G _ _ ow fu q1 x2 b1 (nn hno hF)) (kd_St_charAt T) (ki_St T) (km_Rd_128 T) (ka_St_charAt T) (ks_St_charAt T) ⟨by decide, by decide, by rfl⟩ (rv_St G B hw b1) rfl (Nat.le_of_ble_eq_true rfl) ⟨by decide, by decide⟩ ⟨by decide, by decide⟩ d_Rd_passIfThere_17 (fun v M11 r11 H locs hw hp => ?_) (fun x ek M11 r11 H locs hw hE hp => gr_t B hexc hw hE (by decide) (by decide) (hF.trans (bnd_ex hp)))
        obtain ⟨v11, rfl, hp⟩ := hp
        have hF := hF.trans (bnd_ok hp)
        refine lv_icmp_eq hx hb d_Rd_passIfThere_20 rfl (fun h12 => ?_) (fun h12 => ?_)
        · skip
          have hF := hF.trans (if_pos h12)
          refine lv_iinc (k := 0) hx hb d_Rd_passIfThere_25 hl rfl (show _ + Int32.ofInt 1 = _ + 1 from rfl) (by decide) rfl (fun ls hl => ?_)
          refine lv_goto hx hb d_Rd_passIfThere_28 rfl ?_
          exact ih (x2 + 1) _ _ _ _ _ (gv_loc hl [0, 1, 2] rfl) hw hF
        · skip
          have hF := hF.trans (if_neg h12)
          refine lv_iconst (v := 0) hx hb d_Rd_passIfThere_23 (by decide) ?_
          exact gr_z B hw (by rfl) d_Rd_passIfThere_24 ⟨_, rfl, hF⟩
  have hF := F_Rd_passIfThere.eq_1 fu q1 M r
  refine lv_iconst (v := 0) hx hb d_Rd_passIfThere_0 (by decide) ?_
  refine lv_istore_n hx hb d_Rd_passIfThere_1 rfl hl (by decide) rfl (fun ls hl => ?_)
  exact L2 fu 0 _ _ _ _ _ (gv_loc hl [0, 1, 2] rfl) hw hF
theorem d_Rd_readNumber_0 : decode b_Rd_readNumber 0 = .ok (.iconst 0, 1) := by decide +kernel
theorem d_Rd_readNumber_1 : decode b_Rd_readNumber 1 = .ok (.istore_n 2, 1) := by decide +kernel
theorem d_Rd_readNumber_2 : decode b_Rd_readNumber 2 = .ok (.aload_n 0, 1) := by decide +kernel
theorem d_Rd_readNumber_3 : decode b_Rd_readNumber 3 = .ok (.getfield 18, 3) := by decide +kernel
theorem d_Rd_readNumber_6 : decode b_Rd_readNumber 6 = .ok (.aload_n 0, 1) := by decide +kernel
theorem d_Rd_readNumber_7 : decode b_Rd_readNumber 7 = .ok (.getfield 55, 3) := by decide +kernel
theorem d_Rd_readNumber_10 : decode b_Rd_readNumber 10 = .ok (.getfield 71, 3) := by decide +kernel
theorem d_Rd_readNumber_13 : decode b_Rd_readNumber 13 = .ok (.if_icmp .ge 47, 3) := by decide +kernel
theorem d_Rd_readNumber_16 : decode b_Rd_readNumber 16 = .ok (.aload_n 0, 1) := by decide +kernel
theorem d_Rd_readNumber_17 : decode b_Rd_readNumber 17 = .ok (.iconst 0, 1) := by decide +kernel
theorem d_Rd_readNumber_18 : decode b_Rd_readNumber 18 = .ok (.invokevirtual 76, 3) := by decide +kernel
theorem d_Rd_readNumber_21 : decode b_Rd_readNumber 21 = .ok (.iload_n 1, 1) := by decide +kernel
theorem d_Rd_readNumber_22 : decode b_Rd_readNumber 22 = .ok (.invokestatic 278, 3) := by decide +kernel
theorem d_Rd_readNumber_25 : decode b_Rd_readNumber 25 = .ok (.ifCond .lt 35, 3) := by decide +kernel
theorem d_Rd_readNumber_28 : decode b_Rd_readNumber 28 = .ok (.iload_n 2, 1) := by decide +kernel
theorem d_Rd_readNumber_29 : decode b_Rd_readNumber 29 = .ok (.iload_n 1, 1) := by decide +kernel
theorem d_Rd_readNumber_30 : decode b_Rd_readNumber 30 = .ok (.imul, 1) := by decide +kernel
theorem d_Rd_readNumber_31 : decode b_Rd_readNumber 31 = .ok (.aload_n 0, 1) := by decide +kernel
theorem d_Rd_readNumber_32 : decode b_Rd_readNumber 32 = .ok (.iconst 0, 1) := by decide +kernel
theorem d_Rd_readNumber_33 : decode b_Rd_readNumber 33 = .ok (.invokevirtual 76, 3) := by decide +kernel
theorem d_Rd_readNumber_36 : decode b_Rd_readNumber 36 = .ok (.iload_n 1, 1) := by decide +kernel
theorem d_Rd_readNumber_37 : decode b_Rd_readNumber 37 = .ok (.invokestatic 278, 3) := by decide +kernel
theorem d_Rd_readNumber_40 : decode b_Rd_readNumber 40 = .ok (.iadd, 1) := by decide +kernel
theorem d_Rd_readNumber_41 : decode b_Rd_readNumber 41 = .ok (.bipush 127, 2) := by decide +kernel
theorem d_Rd_readNumber_43 : decode b_Rd_readNumber 43 = .ok (.invokestatic 282, 3) := by decide +kernel
theorem d_Rd_readNumber_46 : decode b_Rd_readNumber 46 = .ok (.istore_n 2, 1) := by decide +kernel
theorem d_Rd_readNumber_47 : decode b_Rd_readNumber 47 = .ok (.aload_n 0, 1) := by decide +kernel
theorem d_Rd_readNumber_48 : decode b_Rd_readNumber 48 = .ok (.dup, 1) := by decide +kernel
theorem d_Rd_readNumber_49 : decode b_Rd_readNumber 49 = .ok (.getfield 18, 3) := by decide +kernel
theorem d_Rd_readNumber_52 : decode b_Rd_readNumber 52 = .ok (.iconst 1, 1) := by decide +kernel
theorem d_Rd_readNumber_53 : decode b_Rd_readNumber 53 = .ok (.iadd, 1) := by decide +kernel
theorem d_Rd_readNumber_54 : decode b_Rd_readNumber 54 = .ok (.putfield 18, 3) := by decide +kernel
theorem d_Rd_readNumber_57 : decode b_Rd_readNumber 57 = .ok (.goto (-55), 3) := by decide +kernel
theorem d_Rd_readNumber_60 : decode b_Rd_readNumber 60 = .ok (.aload_n 0, 1) := by decide +kernel
theorem d_Rd_readNumber_61 : decode b_Rd_readNumber 61 = .ok (.iconst 0, 1) := by decide +kernel
theorem d_Rd_readNumber_62 : decode b_Rd_readNumber 62 = .ok (.invokevirtual 76, 3) := by decide +kernel
theorem d_Rd_readNumber_65 : decode b_Rd_readNumber 65 = .ok (.bipush 59, 2) := by decide +kernel
theorem d_Rd_readNumber_67 : decode b_Rd_readNumber 67 = .ok (.if_icmp .ne 10, 3) := by decide +kernel
theorem d_Rd_readNumber_70 : decode b_Rd_readNumber 70 = .ok (.iload_n 2, 1) := by decide +kernel
theorem d_Rd_readNumber_71 : decode b_Rd_readNumber 71 = .ok (.invokestatic 288, 3) := by decide +kernel
theorem d_Rd_readNumber_74 : decode b_Rd_readNumber 74 = .ok (.ifCond .ne 5, 3) := by decide +kernel
theorem d_Rd_readNumber_77 : decode b_Rd_readNumber 77 = .ok (.iconst 0, 1) := by decide +kernel
theorem d_Rd_readNumber_78 : decode b_Rd_readNumber 78 = .ok (.ireturn, 1) := by decide +kernel
theorem d_Rd_readNumber_79 : decode b_Rd_readNumber 79 = .ok (.aload_n 0, 1) := by decide +kernel
theorem d_Rd_readNumber_80 : decode b_Rd_readNumber 80 = .ok (.dup, 1) := by decide +kernel
theorem d_Rd_readNumber_81 : decode b_Rd_readNumber 81 = .ok (.getfield 18, 3) := by decide +kernel
theorem d_Rd_readNumber_84 : decode b_Rd_readNumber 84 = .ok (.iconst 1, 1) := by decide +kernel
theorem d_Rd_readNumber_85 : decode b_Rd_readNumber 85 = .ok (.iadd, 1) := by decide +kernel
theorem d_Rd_readNumber_86 : decode b_Rd_readNumber 86 = .ok (.putfield 18, 3) := by decide +kernel
theorem d_Rd_readNumber_89 : decode b_Rd_readNumber 89 = .ok (.iload_n 2, 1) := by decide +kernel
theorem d_Rd_readNumber_90 : decode b_Rd_readNumber 90 = .ok (.i2c, 1) := by decide +kernel
theorem d_Rd_readNumber_91 : decode b_Rd_readNumber 91 = .ok (.ireturn, 1) := by decide +kernel
set_option maxHeartbeats 4000000 in
set_option maxRecDepth 100000 in
theorem t_Rd_readNumber {l : Launch} {s0 : State} {D : va_G} {aC : Nat → ClassId} {a0 : Array Value} (G : gG l s0 D aC a0) (M : gMem) (r : gRef) (ow : Int64) (fu : Nat) (x1 : Int32)  (hno : F_Rd_readNumber fu x1 M r ≠ .no) : gMet l s0 D aC y_Rd_readNumber (Cond.code y_Rd_readNumber b_Rd_readNumber 3 (some .char)) 1 22 0 0 [.ref (s0.heap.size + 380), .int x1] M r ow (qI (F_Rd_readNumber fu x1 M r)) (qT (F_Rd_readNumber fu x1 M r)) := by
  refine gm_of G (by decide) (Nat.le_of_ble_eq_true rfl) ?_
  intro p e s m below meth c ls B hexc hl hw
  have hx := B.1
  have hb := B.2.1
  have hown := B.2.2.2.2.2.1
  have T := B.2.2.2.2.2.2.1
  have hK := B.2.2.2.2.2.2.2.1
  have X60 : ∀ (x2 : Int32) (M1 : gMem) (r1 : gRef) (H : Heap) (locs : List Loc) (ls : Array Slot), lv_has ls 3 [(2, .int x2), (0, .ref (s0.heap.size + 380))] → gWd s0 D aC M1 r1 ow H locs → F_Rd_readNumber fu x1 M r = F_Rd_readNumber_B60 fu x1 x2 M1 r1 → W p l e (gRm 1 22 0 0) s m ([.ref (s0.heap.size + 380), .int x1] : List Value).toArray below meth c H locs 0 0 (gt_Q below (gQ s0 D aC ow (qI (F_Rd_readNumber fu x1 M r)) (qT (F_Rd_readNumber fu x1 M r))) s 0 0 0 0 (fun q => s0.heap.size ≤ q)) (F0 m 60 ls []) := by
    intro x2 M1 r1 H locs ls hl hw hF
    have hF := hF.trans (F_Rd_readNumber_B60.eq_1 _ _ _ _ _)
    refine lv_aload_n hx hb d_Rd_readNumber_60 rfl (lv_at hl 1 rfl) ?_
    refine lv_iconst (v := 0) hx hb d_Rd_readNumber_61 (by decide) ?_
    refine gy_V B hl.1 hw (t_Rd_next G _ _ ow fu 0 (nn hno hF)) (kd_Rd_next T) (ki_Rd T) (km_Rd_76 T) (ka_Rd_next T) (ks_Rd_next T) ⟨by decide, by decide, by rfl⟩ (rv_Rd hK hw rfl) rfl (Nat.le_of_ble_eq_true rfl) ⟨by decide, by decide⟩ ⟨by decide, by decide⟩ d_Rd_readNumber_62 (fun v M13 r13 H locs hw hp => ?_) (fun x ek M13 r13 H locs hw hE hp => gr_t B hexc hw hE (by decide) (by decide) (hF.trans (bnd_ex hp)))
    obtain ⟨v13, rfl, hp⟩ := hp
    have hF := hF.trans (bnd_ok hp)
    refine lv_bipush (v := 59) hx hb d_Rd_readNumber_65 (by decide) ?_
    refine lv_icmp_ne hx hb d_Rd_readNumber_67 rfl (fun h14 => ?_) (fun h14 => ?_)
    · skip
      have hF := hF.trans (if_neg h14)
      refine lv_iconst (v := 0) hx hb d_Rd_readNumber_77 (by decide) ?_
      exact gr_z B hw (by rfl) d_Rd_readNumber_78 ⟨_, rfl, hF⟩
    · skip
      have hF := hF.trans (if_pos h14)
      refine lv_iload_n hx hb d_Rd_readNumber_70 rfl (lv_at hl 0 rfl) ?_
      refine gy_SN B hl.1 hw (t_MR_isCharacter G _ _ ow fu x2 (nn hno hF)) (kd_MR_isCharacter T) (ki_MR T) (km_Rd_288 T) (kt_MR_isCharacter T) ⟨by decide, by decide, by rfl⟩ rfl (Nat.le_of_ble_eq_true rfl) ⟨by decide, by decide⟩ ⟨by decide, by decide⟩ d_Rd_readNumber_71 (fun v M15 r15 H locs hw hp => ?_) (fun x ek M15 r15 H locs hw hE hp => gr_t B hexc hw hE (by decide) (by decide) (hF.trans (bnd_ex hp)))
      obtain ⟨v15, rfl, hp⟩ := hp
      have hF := hF.trans (bnd_ok hp)
      refine lv_if_ne hx hb d_Rd_readNumber_74 rfl (fun h16 => ?_) (fun h16 => ?_)
      · skip
        have hF := hF.trans (if_neg h16)
        refine lv_aload_n hx hb d_Rd_readNumber_79 rfl (lv_at hl 1 rfl) ?_
        refine lv_dup hx hb d_Rd_readNumber_80 rfl ?_
        refine gf_Rd_at hx hb T hown hK hw rfl (kf_Rd_18 T) d_Rd_readNumber_81 ?_
        refine lv_iconst (v := 1) hx hb d_Rd_readNumber_84 (by decide) ?_
        refine lv_iadd hx hb d_Rd_readNumber_85 ?_
        refine pf_Rd_at hx hb T hown hK hw rfl (kf_Rd_18 T) d_Rd_readNumber_86 (fun H locs hw => ?_)
        refine lv_iload_n hx hb d_Rd_readNumber_89 rfl (lv_at hl 0 rfl) ?_
        refine lv_i2c (v := iC x2) hx hb d_Rd_readNumber_90 rfl ?_
        have g17 := ng hno hF
        have hF := hF.trans (gd_yes g17)
        exact gr_z B hw g17 d_Rd_readNumber_91 ⟨_, rfl, hF⟩
      · skip
        have hF := hF.trans (if_pos h16)
        refine lv_iconst (v := 0) hx hb d_Rd_readNumber_77 (by decide) ?_
        exact gr_z B hw (by rfl) d_Rd_readNumber_78 ⟨_, rfl, hF⟩
  have L2 : ∀ (d : Nat) (x2 : Int32) (M1 : gMem) (r1 : gRef) (H : Heap) (locs : List Loc) (ls : Array Slot), lv_has ls 3 [(2, .int x2), (0, .ref (s0.heap.size + 380)), (1, .int x1)] → gWd s0 D aC M1 r1 ow H locs → F_Rd_readNumber fu x1 M r = F_Rd_readNumber_L2 fu x1 d x2 M1 r1 → W p l e (gRm 1 22 0 0) s m ([.ref (s0.heap.size + 380), .int x1] : List Value).toArray below meth c H locs 0 0 (gt_Q below (gQ s0 D aC ow (qI (F_Rd_readNumber fu x1 M r)) (qT (F_Rd_readNumber fu x1 M r))) s 0 0 0 0 (fun q => s0.heap.size ≤ q)) (F0 m 2 ls []) := by
    intro d
    induction d with
    | zero => intro x2 M1 r1 H locs ls hl hw hF; exact absurd hF hno
    | succ d ih =>
      intro x2 M1 r1 H locs ls hl hw hF
      have hF := hF.trans (F_Rd_readNumber_L2.eq_2 _ _ _ _ _ _)
      refine lv_aload_n hx hb d_Rd_readNumber_2 rfl (lv_at hl 1 rfl) ?_
      refine gf_Rd_at hx hb T hown hK hw rfl (kf_Rd_18 T) d_Rd_readNumber_3 ?_
      refine lv_aload_n hx hb d_Rd_readNumber_6 rfl (lv_at hl 1 rfl) ?_
      refine gf_Rd_text hx hb T hown hK hw rfl (kf_Rd_55 T) d_Rd_readNumber_7 ?_
      refine gf_Row_size hx hb T hown hK hw (i := 2) (by decide) rfl (kf_Rd_71 T) d_Rd_readNumber_10 ?_
      refine lv_icmp_ge hx hb d_Rd_readNumber_13 rfl (fun h18 => ?_) (fun h18 => ?_)
      · skip
        have hF := hF.trans (if_pos h18)
        exact X60 x2 _ _ _ _ _ (gv_loc hl [0, 1] rfl) hw hF
      · skip
        have hF := hF.trans (if_neg h18)
        refine lv_aload_n hx hb d_Rd_readNumber_16 rfl (lv_at hl 1 rfl) ?_
        refine lv_iconst (v := 0) hx hb d_Rd_readNumber_17 (by decide) ?_
        refine gy_V B hl.1 hw (t_Rd_next G _ _ ow fu 0 (nn hno hF)) (kd_Rd_next T) (ki_Rd T) (km_Rd_76 T) (ka_Rd_next T) (ks_Rd_next T) ⟨by decide, by decide, by rfl⟩ (rv_Rd hK hw rfl) rfl (Nat.le_of_ble_eq_true rfl) ⟨by decide, by decide⟩ ⟨by decide, by decide⟩ d_Rd_readNumber_18 (fun v M19 r19 H locs hw hp => ?_) (fun x ek M19 r19 H locs hw hE hp => gr_t B hexc hw hE (by decide) (by decide) (hF.trans (bnd_ex hp)))
        obtain ⟨v19, rfl, hp⟩ := hp
        have hF := hF.trans (bnd_ok hp)
        refine lv_iload_n hx hb d_Rd_readNumber_21 rfl (lv_at hl 2 rfl) ?_
        refine gy_SN B hl.1 hw (t_MR_digit G _ _ ow fu v19 x1 (nn hno hF)) (kd_MR_digit T) (ki_MR T) (km_Rd_278 T) (kt_MR_digit T) ⟨by decide, by decide, by rfl⟩ rfl (Nat.le_of_ble_eq_true rfl) ⟨by decide, by decide⟩ ⟨by decide, by decide⟩ d_Rd_readNumber_22 (fun v M20 r20 H locs hw hp => ?_) (fun x ek M20 r20 H locs hw hE hp => gr_t B hexc hw hE (by decide) (by decide) (hF.trans (bnd_ex hp)))
        obtain ⟨v20, rfl, hp⟩ := hp
        have hF := hF.trans (bnd_ok hp)
        refine lv_if_lt hx hb d_Rd_readNumber_25 rfl (fun h21 => ?_) (fun h21 => ?_)
        · skip
          have hF := hF.trans (if_pos h21)
          exact X60 x2 _ _ _ _ _ (gv_loc hl [0, 1] rfl) hw hF
        · skip
          have hF := hF.trans (if_neg h21)
          refine lv_iload_n hx hb d_Rd_readNumber_28 rfl (lv_at hl 0 rfl) ?_
          refine lv_iload_n hx hb d_Rd_readNumber_29 rfl (lv_at hl 2 rfl) ?_
          refine lv_imul hx hb d_Rd_readNumber_30 ?_
          refine lv_aload_n hx hb d_Rd_readNumber_31 rfl (lv_at hl 1 rfl) ?_
          refine lv_iconst (v := 0) hx hb d_Rd_readNumber_32 (by decide) ?_
          refine gy_V B hl.1 hw (t_Rd_next G _ _ ow fu 0 (nn hno hF)) (kd_Rd_next T) (ki_Rd T) (km_Rd_76 T) (ka_Rd_next T) (ks_Rd_next T) ⟨by decide, by decide, by rfl⟩ (rv_Rd hK hw rfl) rfl (Nat.le_of_ble_eq_true rfl) ⟨by decide, by decide⟩ ⟨by decide, by decide⟩ d_Rd_readNumber_33 (fun v M22 r22 H locs hw hp => ?_) (fun x ek M22 r22 H locs hw hE hp => gr_t B hexc hw hE (by decide) (by decide) (hF.trans (bnd_ex hp)))
          obtain ⟨v22, rfl, hp⟩ := hp
          have hF := hF.trans (bnd_ok hp)
          refine lv_iload_n hx hb d_Rd_readNumber_36 rfl (lv_at hl 2 rfl) ?_
          refine gy_SN B hl.1 hw (t_MR_digit G _ _ ow fu v22 x1 (nn hno hF)) (kd_MR_digit T) (ki_MR T) (km_Rd_278 T) (kt_MR_digit T) ⟨by decide, by decide, by rfl⟩ rfl (Nat.le_of_ble_eq_true rfl) ⟨by decide, by decide⟩ ⟨by decide, by decide⟩ d_Rd_readNumber_37 (fun v M23 r23 H locs hw hp => ?_) (fun x ek M23 r23 H locs hw hE hp => gr_t B hexc hw hE (by decide) (by decide) (hF.trans (bnd_ex hp)))
          obtain ⟨v23, rfl, hp⟩ := hp
          have hF := hF.trans (bnd_ok hp)
          refine lv_iadd hx hb d_Rd_readNumber_40 ?_
          refine lv_bipush (v := 127) hx hb d_Rd_readNumber_41 (by decide) ?_
          refine gs_min (fu := fu) B hl.1 hw (km_Rd_282 T) ⟨by decide, by decide⟩ d_Rd_readNumber_43 (fun v M24 r24 H locs hw hp => ?_)
          obtain ⟨v24, rfl, hp⟩ := hp
          have hF := hF.trans (bnd_ok hp)
          refine lv_istore_n hx hb d_Rd_readNumber_46 rfl hl (by decide) rfl (fun ls hl => ?_)
          refine lv_aload_n hx hb d_Rd_readNumber_47 rfl (lv_at hl 1 rfl) ?_
          refine lv_dup hx hb d_Rd_readNumber_48 rfl ?_
          refine gf_Rd_at hx hb T hown hK hw rfl (kf_Rd_18 T) d_Rd_readNumber_49 ?_
          refine lv_iconst (v := 1) hx hb d_Rd_readNumber_52 (by decide) ?_
          refine lv_iadd hx hb d_Rd_readNumber_53 ?_
          refine pf_Rd_at hx hb T hown hK hw rfl (kf_Rd_18 T) d_Rd_readNumber_54 (fun H locs hw => ?_)
          refine lv_goto hx hb d_Rd_readNumber_57 rfl ?_
          exact ih v24 _ _ _ _ _ (gv_loc hl [0, 1, 2] rfl) hw hF
  have hF := F_Rd_readNumber.eq_1 fu x1 M r
  refine lv_iconst (v := 0) hx hb d_Rd_readNumber_0 (by decide) ?_
  refine lv_istore_n hx hb d_Rd_readNumber_1 rfl hl (by decide) rfl (fun ls hl => ?_)
  exact L2 fu 0 _ _ _ _ _ (gv_loc hl [0, 1, 2] rfl) hw hF
theorem d_Rd_readReference_0 : decode b_Rd_readReference 0 = .ok (.aload_n 0, 1) := by decide +kernel
theorem d_Rd_readReference_1 : decode b_Rd_readReference 1 = .ok (.getfield 18, 3) := by decide +kernel
theorem d_Rd_readReference_4 : decode b_Rd_readReference 4 = .ok (.istore_n 1, 1) := by decide +kernel
theorem d_Rd_readReference_5 : decode b_Rd_readReference 5 = .ok (.iconst 0, 1) := by decide +kernel
theorem d_Rd_readReference_6 : decode b_Rd_readReference 6 = .ok (.istore_n 2, 1) := by decide +kernel
theorem d_Rd_readReference_7 : decode b_Rd_readReference 7 = .ok (.aload_n 0, 1) := by decide +kernel
theorem d_Rd_readReference_8 : decode b_Rd_readReference 8 = .ok (.ldc_w 261, 3) := by decide +kernel
theorem d_Rd_readReference_11 : decode b_Rd_readReference 11 = .ok (.invokevirtual 196, 3) := by decide +kernel
theorem d_Rd_readReference_14 : decode b_Rd_readReference 14 = .ok (.ifCond .eq 9, 3) := by decide +kernel
theorem d_Rd_readReference_17 : decode b_Rd_readReference 17 = .ok (.bipush 60, 2) := by decide +kernel
theorem d_Rd_readReference_19 : decode b_Rd_readReference 19 = .ok (.istore_n 2, 1) := by decide +kernel
theorem d_Rd_readReference_20 : decode b_Rd_readReference 20 = .ok (.goto 104, 3) := by decide +kernel
theorem d_Rd_readReference_23 : decode b_Rd_readReference 23 = .ok (.aload_n 0, 1) := by decide +kernel
theorem d_Rd_readReference_24 : decode b_Rd_readReference 24 = .ok (.ldc_w 263, 3) := by decide +kernel
theorem d_Rd_readReference_27 : decode b_Rd_readReference 27 = .ok (.invokevirtual 196, 3) := by decide +kernel
theorem d_Rd_readReference_30 : decode b_Rd_readReference 30 = .ok (.ifCond .eq 9, 3) := by decide +kernel
theorem d_Rd_readReference_33 : decode b_Rd_readReference 33 = .ok (.bipush 62, 2) := by decide +kernel
theorem d_Rd_readReference_35 : decode b_Rd_readReference 35 = .ok (.istore_n 2, 1) := by decide +kernel
theorem d_Rd_readReference_36 : decode b_Rd_readReference 36 = .ok (.goto 88, 3) := by decide +kernel
theorem d_Rd_readReference_39 : decode b_Rd_readReference 39 = .ok (.aload_n 0, 1) := by decide +kernel
theorem d_Rd_readReference_40 : decode b_Rd_readReference 40 = .ok (.ldc_w 265, 3) := by decide +kernel
theorem d_Rd_readReference_43 : decode b_Rd_readReference 43 = .ok (.invokevirtual 196, 3) := by decide +kernel
theorem d_Rd_readReference_46 : decode b_Rd_readReference 46 = .ok (.ifCond .eq 9, 3) := by decide +kernel
theorem d_Rd_readReference_49 : decode b_Rd_readReference 49 = .ok (.bipush 38, 2) := by decide +kernel
theorem d_Rd_readReference_51 : decode b_Rd_readReference 51 = .ok (.istore_n 2, 1) := by decide +kernel
theorem d_Rd_readReference_52 : decode b_Rd_readReference 52 = .ok (.goto 72, 3) := by decide +kernel
theorem d_Rd_readReference_55 : decode b_Rd_readReference 55 = .ok (.aload_n 0, 1) := by decide +kernel
theorem d_Rd_readReference_56 : decode b_Rd_readReference 56 = .ok (.ldc_w 267, 3) := by decide +kernel
theorem d_Rd_readReference_59 : decode b_Rd_readReference 59 = .ok (.invokevirtual 196, 3) := by decide +kernel
theorem d_Rd_readReference_62 : decode b_Rd_readReference 62 = .ok (.ifCond .eq 9, 3) := by decide +kernel
theorem d_Rd_readReference_65 : decode b_Rd_readReference 65 = .ok (.bipush 34, 2) := by decide +kernel
theorem d_Rd_readReference_67 : decode b_Rd_readReference 67 = .ok (.istore_n 2, 1) := by decide +kernel
theorem d_Rd_readReference_68 : decode b_Rd_readReference 68 = .ok (.goto 56, 3) := by decide +kernel
theorem d_Rd_readReference_71 : decode b_Rd_readReference 71 = .ok (.aload_n 0, 1) := by decide +kernel
theorem d_Rd_readReference_72 : decode b_Rd_readReference 72 = .ok (.ldc_w 269, 3) := by decide +kernel
theorem d_Rd_readReference_75 : decode b_Rd_readReference 75 = .ok (.invokevirtual 196, 3) := by decide +kernel
theorem d_Rd_readReference_78 : decode b_Rd_readReference 78 = .ok (.ifCond .eq 9, 3) := by decide +kernel
theorem d_Rd_readReference_81 : decode b_Rd_readReference 81 = .ok (.bipush 39, 2) := by decide +kernel
theorem d_Rd_readReference_83 : decode b_Rd_readReference 83 = .ok (.istore_n 2, 1) := by decide +kernel
theorem d_Rd_readReference_84 : decode b_Rd_readReference 84 = .ok (.goto 40, 3) := by decide +kernel
theorem d_Rd_readReference_87 : decode b_Rd_readReference 87 = .ok (.aload_n 0, 1) := by decide +kernel
theorem d_Rd_readReference_88 : decode b_Rd_readReference 88 = .ok (.ldc_w 271, 3) := by decide +kernel
theorem d_Rd_readReference_91 : decode b_Rd_readReference 91 = .ok (.invokevirtual 196, 3) := by decide +kernel
theorem d_Rd_readReference_94 : decode b_Rd_readReference 94 = .ok (.ifCond .eq 13, 3) := by decide +kernel
theorem d_Rd_readReference_97 : decode b_Rd_readReference 97 = .ok (.aload_n 0, 1) := by decide +kernel
theorem d_Rd_readReference_98 : decode b_Rd_readReference 98 = .ok (.bipush 16, 2) := by decide +kernel
theorem d_Rd_readReference_100 : decode b_Rd_readReference 100 = .ok (.invokevirtual 273, 3) := by decide +kernel
theorem d_Rd_readReference_103 : decode b_Rd_readReference 103 = .ok (.istore_n 2, 1) := by decide +kernel
theorem d_Rd_readReference_104 : decode b_Rd_readReference 104 = .ok (.goto 20, 3) := by decide +kernel
theorem d_Rd_readReference_107 : decode b_Rd_readReference 107 = .ok (.aload_n 0, 1) := by decide +kernel
theorem d_Rd_readReference_108 : decode b_Rd_readReference 108 = .ok (.ldc_w 276, 3) := by decide +kernel
theorem d_Rd_readReference_111 : decode b_Rd_readReference 111 = .ok (.invokevirtual 196, 3) := by decide +kernel
theorem d_Rd_readReference_114 : decode b_Rd_readReference 114 = .ok (.ifCond .eq 10, 3) := by decide +kernel
theorem d_Rd_readReference_117 : decode b_Rd_readReference 117 = .ok (.aload_n 0, 1) := by decide +kernel
theorem d_Rd_readReference_118 : decode b_Rd_readReference 118 = .ok (.bipush 10, 2) := by decide +kernel
theorem d_Rd_readReference_120 : decode b_Rd_readReference 120 = .ok (.invokevirtual 273, 3) := by decide +kernel
theorem d_Rd_readReference_123 : decode b_Rd_readReference 123 = .ok (.istore_n 2, 1) := by decide +kernel
theorem d_Rd_readReference_124 : decode b_Rd_readReference 124 = .ok (.iload_n 2, 1) := by decide +kernel
theorem d_Rd_readReference_125 : decode b_Rd_readReference 125 = .ok (.ifCond .ne 9, 3) := by decide +kernel
theorem d_Rd_readReference_128 : decode b_Rd_readReference 128 = .ok (.aload_n 0, 1) := by decide +kernel
theorem d_Rd_readReference_129 : decode b_Rd_readReference 129 = .ok (.iconst 3, 1) := by decide +kernel
theorem d_Rd_readReference_130 : decode b_Rd_readReference 130 = .ok (.iload_n 1, 1) := by decide +kernel
theorem d_Rd_readReference_131 : decode b_Rd_readReference 131 = .ok (.invokevirtual 100, 3) := by decide +kernel
theorem d_Rd_readReference_134 : decode b_Rd_readReference 134 = .ok (.iload_n 2, 1) := by decide +kernel
theorem d_Rd_readReference_135 : decode b_Rd_readReference 135 = .ok (.ireturn, 1) := by decide +kernel
set_option maxHeartbeats 4000000 in
set_option maxRecDepth 100000 in
theorem t_Rd_readReference {l : Launch} {s0 : State} {D : va_G} {aC : Nat → ClassId} {a0 : Array Value} (G : gG l s0 D aC a0) (M : gMem) (r : gRef) (ow : Int64) (fu : Nat)  (hno : F_Rd_readReference fu M r ≠ .no) : gMet l s0 D aC y_Rd_readReference (Cond.code y_Rd_readReference b_Rd_readReference 3 (some .char)) 7 164 1 6 [.ref (s0.heap.size + 380)] M r ow (qI (F_Rd_readReference fu M r)) (qT (F_Rd_readReference fu M r)) := by
  refine gm_of G (by decide) (Nat.le_of_ble_eq_true rfl) ?_
  intro p e s m below meth c ls B hexc hl hw
  have hx := B.1
  have hb := B.2.1
  have hown := B.2.2.2.2.2.1
  have T := B.2.2.2.2.2.2.1
  have hK := B.2.2.2.2.2.2.2.1
  have hF := F_Rd_readReference.eq_1 fu M r
  refine lv_aload_n hx hb d_Rd_readReference_0 rfl (lv_at hl 0 rfl) ?_
  refine gf_Rd_at hx hb T hown hK hw rfl (kf_Rd_18 T) d_Rd_readReference_1 ?_
  refine lv_istore_n hx hb d_Rd_readReference_4 rfl hl (by decide) rfl (fun ls hl => ?_)
  refine lv_iconst (v := 0) hx hb d_Rd_readReference_5 (by decide) ?_
  refine lv_istore_n hx hb d_Rd_readReference_6 rfl hl (by decide) rfl (fun ls hl => ?_)
  refine lv_aload_n hx hb d_Rd_readReference_7 rfl (lv_at hl 2 rfl) ?_
  refine gl_Rd_261 B G d_Rd_readReference_8 ?_
  refine gy_V B hl.1 hw (t_Rd_passIfThere G _ _ ow fu 3 (by decide) (nn hno hF)) (kd_Rd_passIfThere T) (ki_Rd T) (km_Rd_196 T) (ka_Rd_passIfThere T) (ks_Rd_passIfThere T) ⟨by decide, by decide, by rfl⟩ (rv_Rd hK hw rfl) rfl (Nat.le_of_ble_eq_true rfl) ⟨by decide, by decide⟩ ⟨by decide, by decide⟩ d_Rd_readReference_11 (fun v M29 r29 H locs hw hp => ?_) (fun x ek M29 r29 H locs hw hE hp => gr_t B hexc hw hE (by decide) (by decide) (hF.trans (bnd_ex hp)))
  obtain ⟨v29, rfl, hp⟩ := hp
  have hF := hF.trans (bnd_ok hp)
  refine lv_if_eq hx hb d_Rd_readReference_14 rfl (fun h30 => ?_) (fun h30 => ?_)
  · skip
    have hF := hF.trans (if_pos h30)
    refine lv_aload_n hx hb d_Rd_readReference_23 rfl (lv_at hl 2 rfl) ?_
    refine gl_Rd_263 B G d_Rd_readReference_24 ?_
    refine gy_V B hl.1 hw (t_Rd_passIfThere G _ _ ow fu 4 (by decide) (nn hno hF)) (kd_Rd_passIfThere T) (ki_Rd T) (km_Rd_196 T) (ka_Rd_passIfThere T) (ks_Rd_passIfThere T) ⟨by decide, by decide, by rfl⟩ (rv_Rd hK hw rfl) rfl (Nat.le_of_ble_eq_true rfl) ⟨by decide, by decide⟩ ⟨by decide, by decide⟩ d_Rd_readReference_27 (fun v M31 r31 H locs hw hp => ?_) (fun x ek M31 r31 H locs hw hE hp => gr_t B hexc hw hE (by decide) (by decide) (hF.trans (bnd_ex hp)))
    obtain ⟨v31, rfl, hp⟩ := hp
    have hF := hF.trans (bnd_ok hp)
    refine lv_if_eq hx hb d_Rd_readReference_30 rfl (fun h32 => ?_) (fun h32 => ?_)
    · skip
      have hF := hF.trans (if_pos h32)
      refine lv_aload_n hx hb d_Rd_readReference_39 rfl (lv_at hl 2 rfl) ?_
      refine gl_Rd_265 B G d_Rd_readReference_40 ?_
      refine gy_V B hl.1 hw (t_Rd_passIfThere G _ _ ow fu 5 (by decide) (nn hno hF)) (kd_Rd_passIfThere T) (ki_Rd T) (km_Rd_196 T) (ka_Rd_passIfThere T) (ks_Rd_passIfThere T) ⟨by decide, by decide, by rfl⟩ (rv_Rd hK hw rfl) rfl (Nat.le_of_ble_eq_true rfl) ⟨by decide, by decide⟩ ⟨by decide, by decide⟩ d_Rd_readReference_43 (fun v M33 r33 H locs hw hp => ?_) (fun x ek M33 r33 H locs hw hE hp => gr_t B hexc hw hE (by decide) (by decide) (hF.trans (bnd_ex hp)))
      obtain ⟨v33, rfl, hp⟩ := hp
      have hF := hF.trans (bnd_ok hp)
      refine lv_if_eq hx hb d_Rd_readReference_46 rfl (fun h34 => ?_) (fun h34 => ?_)
      · skip
        have hF := hF.trans (if_pos h34)
        refine lv_aload_n hx hb d_Rd_readReference_55 rfl (lv_at hl 2 rfl) ?_
        refine gl_Rd_267 B G d_Rd_readReference_56 ?_
        refine gy_V B hl.1 hw (t_Rd_passIfThere G _ _ ow fu 6 (by decide) (nn hno hF)) (kd_Rd_passIfThere T) (ki_Rd T) (km_Rd_196 T) (ka_Rd_passIfThere T) (ks_Rd_passIfThere T) ⟨by decide, by decide, by rfl⟩ (rv_Rd hK hw rfl) rfl (Nat.le_of_ble_eq_true rfl) ⟨by decide, by decide⟩ ⟨by decide, by decide⟩ d_Rd_readReference_59 (fun v M35 r35 H locs hw hp => ?_) (fun x ek M35 r35 H locs hw hE hp => gr_t B hexc hw hE (by decide) (by decide) (hF.trans (bnd_ex hp)))
        obtain ⟨v35, rfl, hp⟩ := hp
        have hF := hF.trans (bnd_ok hp)
        refine lv_if_eq hx hb d_Rd_readReference_62 rfl (fun h36 => ?_) (fun h36 => ?_)
        · skip
          have hF := hF.trans (if_pos h36)
          refine lv_aload_n hx hb d_Rd_readReference_71 rfl (lv_at hl 2 rfl) ?_
          refine gl_Rd_269 B G d_Rd_readReference_72 ?_
          refine gy_V B hl.1 hw (t_Rd_passIfThere G _ _ ow fu 7 (by decide) (nn hno hF)) (kd_Rd_passIfThere T) (ki_Rd T) (km_Rd_196 T) (ka_Rd_passIfThere T) (ks_Rd_passIfThere T) ⟨by decide, by decide, by rfl⟩ (rv_Rd hK hw rfl) rfl (Nat.le_of_ble_eq_true rfl) ⟨by decide, by decide⟩ ⟨by decide, by decide⟩ d_Rd_readReference_75 (fun v M37 r37 H locs hw hp => ?_) (fun x ek M37 r37 H locs hw hE hp => gr_t B hexc hw hE (by decide) (by decide) (hF.trans (bnd_ex hp)))
          obtain ⟨v37, rfl, hp⟩ := hp
          have hF := hF.trans (bnd_ok hp)
          refine lv_if_eq hx hb d_Rd_readReference_78 rfl (fun h38 => ?_) (fun h38 => ?_)
          · skip
            have hF := hF.trans (if_pos h38)
            refine lv_aload_n hx hb d_Rd_readReference_87 rfl (lv_at hl 2 rfl) ?_
            refine gl_Rd_271 B G d_Rd_readReference_88 ?_
            refine gy_V B hl.1 hw (t_Rd_passIfThere G _ _ ow fu 8 (by decide) (nn hno hF)) (kd_Rd_passIfThere T) (ki_Rd T) (km_Rd_196 T) (ka_Rd_passIfThere T) (ks_Rd_passIfThere T) ⟨by decide, by decide, by rfl⟩ (rv_Rd hK hw rfl) rfl (Nat.le_of_ble_eq_true rfl) ⟨by decide, by decide⟩ ⟨by decide, by decide⟩ d_Rd_readReference_91 (fun v M39 r39 H locs hw hp => ?_) (fun x ek M39 r39 H locs hw hE hp => gr_t B hexc hw hE (by decide) (by decide) (hF.trans (bnd_ex hp)))
            obtain ⟨v39, rfl, hp⟩ := hp
            have hF := hF.trans (bnd_ok hp)
            refine lv_if_eq hx hb d_Rd_readReference_94 rfl (fun h40 => ?_) (fun h40 => ?_)
            · skip
              have hF := hF.trans (if_pos h40)
              refine lv_aload_n hx hb d_Rd_readReference_107 rfl (lv_at hl 2 rfl) ?_
              refine gl_Rd_276 B G d_Rd_readReference_108 ?_
              refine gy_V B hl.1 hw (t_Rd_passIfThere G _ _ ow fu 9 (by decide) (nn hno hF)) (kd_Rd_passIfThere T) (ki_Rd T) (km_Rd_196 T) (ka_Rd_passIfThere T) (ks_Rd_passIfThere T) ⟨by decide, by decide, by rfl⟩ (rv_Rd hK hw rfl) rfl (Nat.le_of_ble_eq_true rfl) ⟨by decide, by decide⟩ ⟨by decide, by decide⟩ d_Rd_readReference_111 (fun v M41 r41 H locs hw hp => ?_) (fun x ek M41 r41 H locs hw hE hp => gr_t B hexc hw hE (by decide) (by decide) (hF.trans (bnd_ex hp)))
              obtain ⟨v41, rfl, hp⟩ := hp
              have hF := hF.trans (bnd_ok hp)
              refine lv_if_eq hx hb d_Rd_readReference_114 rfl (fun h42 => ?_) (fun h42 => ?_)
              · skip
                have hF := hF.trans (if_pos h42)
                refine lv_iload_n hx hb d_Rd_readReference_124 rfl (lv_at hl 0 rfl) ?_
                refine lv_if_ne hx hb d_Rd_readReference_125 rfl (fun h => absurd h (by decide)) (fun _ => ?_)
                refine lv_aload_n hx hb d_Rd_readReference_128 rfl (lv_at hl 2 rfl) ?_
                refine lv_iconst (v := 3) hx hb d_Rd_readReference_129 (by decide) ?_
                refine lv_iload_n hx hb d_Rd_readReference_130 rfl (lv_at hl 1 rfl) ?_
                refine gy_V B hl.1 hw (t_Rd_fail G _ _ ow fu 3 (M 35 0) (nn hno hF)) (kd_Rd_fail T) (ki_Rd T) (km_Rd_100 T) (ka_Rd_fail T) (ks_Rd_fail T) ⟨by decide, by decide, by rfl⟩ (rv_Rd hK hw rfl) rfl (Nat.le_of_ble_eq_true rfl) ⟨by decide, by decide⟩ ⟨by decide, by decide⟩ d_Rd_readReference_131 (fun v M43 r43 H locs hw hp => ?_) (fun x ek M43 r43 H locs hw hE hp => gr_t B hexc hw hE (by decide) (by decide) (hF.trans (bnd_ex hp)))
                obtain ⟨rfl, hp⟩ := hp
                have hF := hF.trans (bnd_ok hp)
                exact absurd hF hno
              · skip
                have hF := hF.trans (if_neg h42)
                refine lv_aload_n hx hb d_Rd_readReference_117 rfl (lv_at hl 2 rfl) ?_
                refine lv_bipush (v := 10) hx hb d_Rd_readReference_118 (by decide) ?_
                refine gy_V B hl.1 hw (t_Rd_readNumber G _ _ ow fu 10 (nn hno hF)) (kd_Rd_readNumber T) (ki_Rd T) (km_Rd_273 T) (ka_Rd_readNumber T) (ks_Rd_readNumber T) ⟨by decide, by decide, by rfl⟩ (rv_Rd hK hw rfl) rfl (Nat.le_of_ble_eq_true rfl) ⟨by decide, by decide⟩ ⟨by decide, by decide⟩ d_Rd_readReference_120 (fun v M44 r44 H locs hw hp => ?_) (fun x ek M44 r44 H locs hw hE hp => gr_t B hexc hw hE (by decide) (by decide) (hF.trans (bnd_ex hp)))
                obtain ⟨v44, rfl, hp⟩ := hp
                have hF := hF.trans (bnd_ok hp)
                refine lv_istore_n hx hb d_Rd_readReference_123 rfl hl (by decide) rfl (fun ls hl => ?_)
                refine lv_iload_n hx hb d_Rd_readReference_124 rfl (lv_at hl 0 rfl) ?_
                refine lv_if_ne hx hb d_Rd_readReference_125 rfl (fun h45 => ?_) (fun h45 => ?_)
                · skip
                  have hF := hF.trans (if_neg h45)
                  refine lv_iload_n hx hb d_Rd_readReference_134 rfl (lv_at hl 0 rfl) ?_
                  have g46 := ng hno hF
                  have hF := hF.trans (gd_yes g46)
                  exact gr_z B hw g46 d_Rd_readReference_135 ⟨_, rfl, hF⟩
                · skip
                  have hF := hF.trans (if_pos h45)
                  refine lv_aload_n hx hb d_Rd_readReference_128 rfl (lv_at hl 2 rfl) ?_
                  refine lv_iconst (v := 3) hx hb d_Rd_readReference_129 (by decide) ?_
                  refine lv_iload_n hx hb d_Rd_readReference_130 rfl (lv_at hl 1 rfl) ?_
                  refine gy_V B hl.1 hw (t_Rd_fail G _ _ ow fu 3 (M 35 0) (nn hno hF)) (kd_Rd_fail T) (ki_Rd T) (km_Rd_100 T) (ka_Rd_fail T) (ks_Rd_fail T) ⟨by decide, by decide, by rfl⟩ (rv_Rd hK hw rfl) rfl (Nat.le_of_ble_eq_true rfl) ⟨by decide, by decide⟩ ⟨by decide, by decide⟩ d_Rd_readReference_131 (fun v M47 r47 H locs hw hp => ?_) (fun x ek M47 r47 H locs hw hE hp => gr_t B hexc hw hE (by decide) (by decide) (hF.trans (bnd_ex hp)))
                  obtain ⟨rfl, hp⟩ := hp
                  have hF := hF.trans (bnd_ok hp)
                  exact absurd hF hno
            · skip
              have hF := hF.trans (if_neg h40)
              refine lv_aload_n hx hb d_Rd_readReference_97 rfl (lv_at hl 2 rfl) ?_
              refine lv_bipush (v := 16) hx hb d_Rd_readReference_98 (by decide) ?_
              refine gy_V B hl.1 hw (t_Rd_readNumber G _ _ ow fu 16 (nn hno hF)) (kd_Rd_readNumber T) (ki_Rd T) (km_Rd_273 T) (ka_Rd_readNumber T) (ks_Rd_readNumber T) ⟨by decide, by decide, by rfl⟩ (rv_Rd hK hw rfl) rfl (Nat.le_of_ble_eq_true rfl) ⟨by decide, by decide⟩ ⟨by decide, by decide⟩ d_Rd_readReference_100 (fun v M48 r48 H locs hw hp => ?_) (fun x ek M48 r48 H locs hw hE hp => gr_t B hexc hw hE (by decide) (by decide) (hF.trans (bnd_ex hp)))
              obtain ⟨v48, rfl, hp⟩ := hp
              have hF := hF.trans (bnd_ok hp)
              refine lv_istore_n hx hb d_Rd_readReference_103 rfl hl (by decide) rfl (fun ls hl => ?_)
              refine lv_goto hx hb d_Rd_readReference_104 rfl ?_
              refine lv_iload_n hx hb d_Rd_readReference_124 rfl (lv_at hl 0 rfl) ?_
              refine lv_if_ne hx hb d_Rd_readReference_125 rfl (fun h49 => ?_) (fun h49 => ?_)
              · skip
                have hF := hF.trans (if_neg h49)
                refine lv_iload_n hx hb d_Rd_readReference_134 rfl (lv_at hl 0 rfl) ?_
                have g50 := ng hno hF
                have hF := hF.trans (gd_yes g50)
                exact gr_z B hw g50 d_Rd_readReference_135 ⟨_, rfl, hF⟩
              · skip
                have hF := hF.trans (if_pos h49)
                refine lv_aload_n hx hb d_Rd_readReference_128 rfl (lv_at hl 2 rfl) ?_
                refine lv_iconst (v := 3) hx hb d_Rd_readReference_129 (by decide) ?_
                refine lv_iload_n hx hb d_Rd_readReference_130 rfl (lv_at hl 1 rfl) ?_
                refine gy_V B hl.1 hw (t_Rd_fail G _ _ ow fu 3 (M 35 0) (nn hno hF)) (kd_Rd_fail T) (ki_Rd T) (km_Rd_100 T) (ka_Rd_fail T) (ks_Rd_fail T) ⟨by decide, by decide, by rfl⟩ (rv_Rd hK hw rfl) rfl (Nat.le_of_ble_eq_true rfl) ⟨by decide, by decide⟩ ⟨by decide, by decide⟩ d_Rd_readReference_131 (fun v M51 r51 H locs hw hp => ?_) (fun x ek M51 r51 H locs hw hE hp => gr_t B hexc hw hE (by decide) (by decide) (hF.trans (bnd_ex hp)))
                obtain ⟨rfl, hp⟩ := hp
                have hF := hF.trans (bnd_ok hp)
                exact absurd hF hno
          · skip
            have hF := hF.trans (if_neg h38)
            refine lv_bipush (v := 39) hx hb d_Rd_readReference_81 (by decide) ?_
            refine lv_istore_n hx hb d_Rd_readReference_83 rfl hl (by decide) rfl (fun ls hl => ?_)
            refine lv_goto hx hb d_Rd_readReference_84 rfl ?_
            refine lv_iload_n hx hb d_Rd_readReference_124 rfl (lv_at hl 0 rfl) ?_
            refine lv_if_ne hx hb d_Rd_readReference_125 rfl (fun _ => ?_) (fun h => absurd h (by decide))
            refine lv_iload_n hx hb d_Rd_readReference_134 rfl (lv_at hl 0 rfl) ?_
            have g52 := ng hno hF
            have hF := hF.trans (gd_yes g52)
            exact gr_z B hw g52 d_Rd_readReference_135 ⟨_, rfl, hF⟩
        · skip
          have hF := hF.trans (if_neg h36)
          refine lv_bipush (v := 34) hx hb d_Rd_readReference_65 (by decide) ?_
          refine lv_istore_n hx hb d_Rd_readReference_67 rfl hl (by decide) rfl (fun ls hl => ?_)
          refine lv_goto hx hb d_Rd_readReference_68 rfl ?_
          refine lv_iload_n hx hb d_Rd_readReference_124 rfl (lv_at hl 0 rfl) ?_
          refine lv_if_ne hx hb d_Rd_readReference_125 rfl (fun _ => ?_) (fun h => absurd h (by decide))
          refine lv_iload_n hx hb d_Rd_readReference_134 rfl (lv_at hl 0 rfl) ?_
          have g53 := ng hno hF
          have hF := hF.trans (gd_yes g53)
          exact gr_z B hw g53 d_Rd_readReference_135 ⟨_, rfl, hF⟩
      · skip
        have hF := hF.trans (if_neg h34)
        refine lv_bipush (v := 38) hx hb d_Rd_readReference_49 (by decide) ?_
        refine lv_istore_n hx hb d_Rd_readReference_51 rfl hl (by decide) rfl (fun ls hl => ?_)
        refine lv_goto hx hb d_Rd_readReference_52 rfl ?_
        refine lv_iload_n hx hb d_Rd_readReference_124 rfl (lv_at hl 0 rfl) ?_
        refine lv_if_ne hx hb d_Rd_readReference_125 rfl (fun _ => ?_) (fun h => absurd h (by decide))
        refine lv_iload_n hx hb d_Rd_readReference_134 rfl (lv_at hl 0 rfl) ?_
        have g54 := ng hno hF
        have hF := hF.trans (gd_yes g54)
        exact gr_z B hw g54 d_Rd_readReference_135 ⟨_, rfl, hF⟩
    · skip
      have hF := hF.trans (if_neg h32)
      refine lv_bipush (v := 62) hx hb d_Rd_readReference_33 (by decide) ?_
      refine lv_istore_n hx hb d_Rd_readReference_35 rfl hl (by decide) rfl (fun ls hl => ?_)
      refine lv_goto hx hb d_Rd_readReference_36 rfl ?_
      refine lv_iload_n hx hb d_Rd_readReference_124 rfl (lv_at hl 0 rfl) ?_
      refine lv_if_ne hx hb d_Rd_readReference_125 rfl (fun _ => ?_) (fun h => absurd h (by decide))
      refine lv_iload_n hx hb d_Rd_readReference_134 rfl (lv_at hl 0 rfl) ?_
      have g55 := ng hno hF
      have hF := hF.trans (gd_yes g55)
      exact gr_z B hw g55 d_Rd_readReference_135 ⟨_, rfl, hF⟩
  · skip
    have hF := hF.trans (if_neg h30)
    refine lv_bipush (v := 60) hx hb d_Rd_readReference_17 (by decide) ?_
    refine lv_istore_n hx hb d_Rd_readReference_19 rfl hl (by decide) rfl (fun ls hl => ?_)
    refine lv_goto hx hb d_Rd_readReference_20 rfl ?_
    refine lv_iload_n hx hb d_Rd_readReference_124 rfl (lv_at hl 0 rfl) ?_
    refine lv_if_ne hx hb d_Rd_readReference_125 rfl (fun _ => ?_) (fun h => absurd h (by decide))
    refine lv_iload_n hx hb d_Rd_readReference_134 rfl (lv_at hl 0 rfl) ?_
    have g56 := ng hno hF
    have hF := hF.trans (gd_yes g56)
    exact gr_z B hw g56 d_Rd_readReference_135 ⟨_, rfl, hF⟩
theorem d_Rd_readValue_0 : decode b_Rd_readValue 0 = .ok (.aload_n 0, 1) := by decide +kernel
theorem d_Rd_readValue_1 : decode b_Rd_readValue 1 = .ok (.iconst 0, 1) := by decide +kernel
theorem d_Rd_readValue_2 : decode b_Rd_readValue 2 = .ok (.invokevirtual 76, 3) := by decide +kernel
theorem d_Rd_readValue_5 : decode b_Rd_readValue 5 = .ok (.istore_n 2, 1) := by decide +kernel
theorem d_Rd_readValue_6 : decode b_Rd_readValue 6 = .ok (.iload_n 2, 1) := by decide +kernel
theorem d_Rd_readValue_7 : decode b_Rd_readValue 7 = .ok (.bipush 34, 2) := by decide +kernel
theorem d_Rd_readValue_9 : decode b_Rd_readValue 9 = .ok (.if_icmp .eq 18, 3) := by decide +kernel
theorem d_Rd_readValue_12 : decode b_Rd_readValue 12 = .ok (.iload_n 2, 1) := by decide +kernel
theorem d_Rd_readValue_13 : decode b_Rd_readValue 13 = .ok (.bipush 39, 2) := by decide +kernel
theorem d_Rd_readValue_15 : decode b_Rd_readValue 15 = .ok (.if_icmp .eq 12, 3) := by decide +kernel
theorem d_Rd_readValue_18 : decode b_Rd_readValue 18 = .ok (.aload_n 0, 1) := by decide +kernel
theorem d_Rd_readValue_19 : decode b_Rd_readValue 19 = .ok (.iconst 1, 1) := by decide +kernel
theorem d_Rd_readValue_20 : decode b_Rd_readValue 20 = .ok (.aload_n 0, 1) := by decide +kernel
theorem d_Rd_readValue_21 : decode b_Rd_readValue 21 = .ok (.getfield 18, 3) := by decide +kernel
theorem d_Rd_readValue_24 : decode b_Rd_readValue 24 = .ok (.invokevirtual 100, 3) := by decide +kernel
theorem d_Rd_readValue_27 : decode b_Rd_readValue 27 = .ok (.aload_n 0, 1) := by decide +kernel
theorem d_Rd_readValue_28 : decode b_Rd_readValue 28 = .ok (.dup, 1) := by decide +kernel
theorem d_Rd_readValue_29 : decode b_Rd_readValue 29 = .ok (.getfield 18, 3) := by decide +kernel
theorem d_Rd_readValue_32 : decode b_Rd_readValue 32 = .ok (.iconst 1, 1) := by decide +kernel
theorem d_Rd_readValue_33 : decode b_Rd_readValue 33 = .ok (.iadd, 1) := by decide +kernel
theorem d_Rd_readValue_34 : decode b_Rd_readValue 34 = .ok (.putfield 18, 3) := by decide +kernel
theorem d_Rd_readValue_37 : decode b_Rd_readValue 37 = .ok (.aload_n 1, 1) := by decide +kernel
theorem d_Rd_readValue_38 : decode b_Rd_readValue 38 = .ok (.aload_n 0, 1) := by decide +kernel
theorem d_Rd_readValue_39 : decode b_Rd_readValue 39 = .ok (.getfield 32, 3) := by decide +kernel
theorem d_Rd_readValue_42 : decode b_Rd_readValue 42 = .ok (.getfield 249, 3) := by decide +kernel
theorem d_Rd_readValue_45 : decode b_Rd_readValue 45 = .ok (.getfield 71, 3) := by decide +kernel
theorem d_Rd_readValue_48 : decode b_Rd_readValue 48 = .ok (.putfield 252, 3) := by decide +kernel
theorem d_Rd_readValue_51 : decode b_Rd_readValue 51 = .ok (.iconst 0, 1) := by decide +kernel
theorem d_Rd_readValue_52 : decode b_Rd_readValue 52 = .ok (.istore_n 3, 1) := by decide +kernel
theorem d_Rd_readValue_53 : decode b_Rd_readValue 53 = .ok (.iload_n 3, 1) := by decide +kernel
theorem d_Rd_readValue_54 : decode b_Rd_readValue 54 = .ok (.aload_n 0, 1) := by decide +kernel
theorem d_Rd_readValue_55 : decode b_Rd_readValue 55 = .ok (.getfield 55, 3) := by decide +kernel
theorem d_Rd_readValue_58 : decode b_Rd_readValue 58 = .ok (.getfield 71, 3) := by decide +kernel
theorem d_Rd_readValue_61 : decode b_Rd_readValue 61 = .ok (.if_icmp .ge 104, 3) := by decide +kernel
theorem d_Rd_readValue_64 : decode b_Rd_readValue 64 = .ok (.aload_n 0, 1) := by decide +kernel
theorem d_Rd_readValue_65 : decode b_Rd_readValue 65 = .ok (.iconst 0, 1) := by decide +kernel
theorem d_Rd_readValue_66 : decode b_Rd_readValue 66 = .ok (.invokevirtual 76, 3) := by decide +kernel
theorem d_Rd_readValue_69 : decode b_Rd_readValue 69 = .ok (.iload_n 2, 1) := by decide +kernel
theorem d_Rd_readValue_70 : decode b_Rd_readValue 70 = .ok (.if_icmp .eq 95, 3) := by decide +kernel
theorem d_Rd_readValue_73 : decode b_Rd_readValue 73 = .ok (.aload_n 0, 1) := by decide +kernel
theorem d_Rd_readValue_74 : decode b_Rd_readValue 74 = .ok (.iconst 0, 1) := by decide +kernel
theorem d_Rd_readValue_75 : decode b_Rd_readValue 75 = .ok (.invokevirtual 76, 3) := by decide +kernel
theorem d_Rd_readValue_78 : decode b_Rd_readValue 78 = .ok (.istore 4, 2) := by decide +kernel
theorem d_Rd_readValue_80 : decode b_Rd_readValue 80 = .ok (.iload 4, 2) := by decide +kernel
theorem d_Rd_readValue_82 : decode b_Rd_readValue 82 = .ok (.bipush 60, 2) := by decide +kernel
theorem d_Rd_readValue_84 : decode b_Rd_readValue 84 = .ok (.if_icmp .eq 8, 3) := by decide +kernel
theorem d_Rd_readValue_87 : decode b_Rd_readValue 87 = .ok (.iload 4, 2) := by decide +kernel
theorem d_Rd_readValue_89 : decode b_Rd_readValue 89 = .ok (.ifCond .ne 12, 3) := by decide +kernel
theorem d_Rd_readValue_92 : decode b_Rd_readValue 92 = .ok (.aload_n 0, 1) := by decide +kernel
theorem d_Rd_readValue_93 : decode b_Rd_readValue 93 = .ok (.iconst 1, 1) := by decide +kernel
theorem d_Rd_readValue_94 : decode b_Rd_readValue 94 = .ok (.aload_n 0, 1) := by decide +kernel
theorem d_Rd_readValue_95 : decode b_Rd_readValue 95 = .ok (.getfield 18, 3) := by decide +kernel
theorem d_Rd_readValue_98 : decode b_Rd_readValue 98 = .ok (.invokevirtual 100, 3) := by decide +kernel
theorem d_Rd_readValue_101 : decode b_Rd_readValue 101 = .ok (.iload 4, 2) := by decide +kernel
theorem d_Rd_readValue_103 : decode b_Rd_readValue 103 = .ok (.bipush 38, 2) := by decide +kernel
theorem d_Rd_readValue_105 : decode b_Rd_readValue 105 = .ok (.if_icmp .ne 20, 3) := by decide +kernel
theorem d_Rd_readValue_108 : decode b_Rd_readValue 108 = .ok (.aload_n 0, 1) := by decide +kernel
theorem d_Rd_readValue_109 : decode b_Rd_readValue 109 = .ok (.getfield 32, 3) := by decide +kernel
theorem d_Rd_readValue_112 : decode b_Rd_readValue 112 = .ok (.getfield 249, 3) := by decide +kernel
theorem d_Rd_readValue_115 : decode b_Rd_readValue 115 = .ok (.aload_n 0, 1) := by decide +kernel
theorem d_Rd_readValue_116 : decode b_Rd_readValue 116 = .ok (.invokevirtual 80, 3) := by decide +kernel
theorem d_Rd_readValue_119 : decode b_Rd_readValue 119 = .ok (.invokevirtual 255, 3) := by decide +kernel
theorem d_Rd_readValue_122 : decode b_Rd_readValue 122 = .ok (.goto 37, 3) := by decide +kernel
theorem d_Rd_readValue_125 : decode b_Rd_readValue 125 = .ok (.aload_n 0, 1) := by decide +kernel
theorem d_Rd_readValue_126 : decode b_Rd_readValue 126 = .ok (.getfield 32, 3) := by decide +kernel
theorem d_Rd_readValue_129 : decode b_Rd_readValue 129 = .ok (.getfield 249, 3) := by decide +kernel
theorem d_Rd_readValue_132 : decode b_Rd_readValue 132 = .ok (.iload 4, 2) := by decide +kernel
theorem d_Rd_readValue_134 : decode b_Rd_readValue 134 = .ok (.bipush 10, 2) := by decide +kernel
theorem d_Rd_readValue_136 : decode b_Rd_readValue 136 = .ok (.if_icmp .ne 8, 3) := by decide +kernel
theorem d_Rd_readValue_139 : decode b_Rd_readValue 139 = .ok (.bipush 32, 2) := by decide +kernel
theorem d_Rd_readValue_141 : decode b_Rd_readValue 141 = .ok (.goto 5, 3) := by decide +kernel
theorem d_Rd_readValue_144 : decode b_Rd_readValue 144 = .ok (.iload 4, 2) := by decide +kernel
theorem d_Rd_readValue_146 : decode b_Rd_readValue 146 = .ok (.invokevirtual 255, 3) := by decide +kernel
theorem d_Rd_readValue_149 : decode b_Rd_readValue 149 = .ok (.aload_n 0, 1) := by decide +kernel
theorem d_Rd_readValue_150 : decode b_Rd_readValue 150 = .ok (.dup, 1) := by decide +kernel
theorem d_Rd_readValue_151 : decode b_Rd_readValue 151 = .ok (.getfield 18, 3) := by decide +kernel
theorem d_Rd_readValue_154 : decode b_Rd_readValue 154 = .ok (.iconst 1, 1) := by decide +kernel
theorem d_Rd_readValue_155 : decode b_Rd_readValue 155 = .ok (.iadd, 1) := by decide +kernel
theorem d_Rd_readValue_156 : decode b_Rd_readValue 156 = .ok (.putfield 18, 3) := by decide +kernel
theorem d_Rd_readValue_159 : decode b_Rd_readValue 159 = .ok (.iinc 3 1, 3) := by decide +kernel
theorem d_Rd_readValue_162 : decode b_Rd_readValue 162 = .ok (.goto (-109), 3) := by decide +kernel
theorem d_Rd_readValue_165 : decode b_Rd_readValue 165 = .ok (.aload_n 0, 1) := by decide +kernel
theorem d_Rd_readValue_166 : decode b_Rd_readValue 166 = .ok (.iload_n 2, 1) := by decide +kernel
theorem d_Rd_readValue_167 : decode b_Rd_readValue 167 = .ok (.invokevirtual 131, 3) := by decide +kernel
theorem d_Rd_readValue_170 : decode b_Rd_readValue 170 = .ok (.aload_n 1, 1) := by decide +kernel
theorem d_Rd_readValue_171 : decode b_Rd_readValue 171 = .ok (.aload_n 0, 1) := by decide +kernel
theorem d_Rd_readValue_172 : decode b_Rd_readValue 172 = .ok (.getfield 32, 3) := by decide +kernel
theorem d_Rd_readValue_175 : decode b_Rd_readValue 175 = .ok (.getfield 249, 3) := by decide +kernel
theorem d_Rd_readValue_178 : decode b_Rd_readValue 178 = .ok (.getfield 71, 3) := by decide +kernel
theorem d_Rd_readValue_181 : decode b_Rd_readValue 181 = .ok (.putfield 258, 3) := by decide +kernel
theorem d_Rd_readValue_184 : decode b_Rd_readValue 184 = .ok (.return_, 1) := by decide +kernel
set_option maxHeartbeats 4000000 in
set_option maxRecDepth 100000 in
theorem t_Rd_readValue {l : Launch} {s0 : State} {D : va_G} {aC : Nat → ClassId} {a0 : Array Value} (G : gG l s0 D aC a0) (M : gMem) (r : gRef) (ow : Int64) (fu : Nat) (k1 : Nat) (b1 : k1 < 145) (hno : F_Rd_readValue fu k1 M r ≠ .no) : gMet l s0 D aC y_Rd_readValue (Cond.code y_Rd_readValue b_Rd_readValue 5 none) 8 186 1 6 [.ref (s0.heap.size + 380), .ref (s0.heap.size + oAt k1)] M r ow (qV (F_Rd_readValue fu k1 M r)) (qT (F_Rd_readValue fu k1 M r)) := by
  refine gm_of G (by decide) (Nat.le_of_ble_eq_true rfl) ?_
  intro p e s m below meth c ls B hexc hl hw
  have hx := B.1
  have hb := B.2.1
  have hown := B.2.2.2.2.2.1
  have T := B.2.2.2.2.2.2.1
  have hK := B.2.2.2.2.2.2.2.1
  have X165 : ∀ (x2 : Int32) (M1 : gMem) (r1 : gRef) (H : Heap) (locs : List Loc) (ls : Array Slot), lv_has ls 5 [(2, .int x2), (0, .ref (s0.heap.size + 380)), (1, .ref (s0.heap.size + oAt k1))] → gWd s0 D aC M1 r1 ow H locs → F_Rd_readValue fu k1 M r = F_Rd_readValue_B165 fu k1 x2 M1 r1 → W p l e (gRm 8 186 1 6) s m ([.ref (s0.heap.size + 380), .ref (s0.heap.size + oAt k1)] : List Value).toArray below meth c H locs 0 0 (gt_Q below (gQ s0 D aC ow (qV (F_Rd_readValue fu k1 M r)) (qT (F_Rd_readValue fu k1 M r))) s 0 0 1 6 (fun q => s0.heap.size ≤ q)) (F0 m 165 ls []) := by
    intro x2 M1 r1 H locs ls hl hw hF
    have hF := hF.trans (F_Rd_readValue_B165.eq_1 _ _ _ _ _)
    refine lv_aload_n hx hb d_Rd_readValue_165 rfl (lv_at hl 1 rfl) ?_
    refine lv_iload_n hx hb d_Rd_readValue_166 rfl (lv_at hl 0 rfl) ?_
    refine gy_V B hl.1 hw (t_Rd_pass G _ _ ow fu x2 (nn hno hF)) (kd_Rd_pass T) (ki_Rd T) (km_Rd_131 T) (ka_Rd_pass T) (ks_Rd_pass T) ⟨by decide, by decide, by rfl⟩ (rv_Rd hK hw rfl) rfl (Nat.le_of_ble_eq_true rfl) ⟨by decide, by decide⟩ ⟨by decide, by decide⟩ d_Rd_readValue_167 (fun v M20 r20 H locs hw hp => ?_) (fun x ek M20 r20 H locs hw hE hp => gr_t B hexc hw hE (by decide) (by decide) (hF.trans (bnd_ex hp)))
    obtain ⟨rfl, hp⟩ := hp
    have hF := hF.trans (bnd_ok hp)
    refine lv_aload_n hx hb d_Rd_readValue_170 rfl (lv_at hl 2 rfl) ?_
    refine lv_aload_n hx hb d_Rd_readValue_171 rfl (lv_at hl 1 rfl) ?_
    refine gf_Rd_tree hx hb T hown hK hw rfl (kf_Rd_32 T) d_Rd_readValue_172 ?_
    refine gf_Tr_values hx hb T hown hK hw rfl (kf_Rd_249 T) d_Rd_readValue_175 ?_
    refine gf_Row_size hx hb T hown hK hw (i := 3) (by decide) rfl (kf_Rd_71 T) d_Rd_readValue_178 ?_
    refine pf_At_valueEnd hx hb T hown hK hw (i := k1) b1 rfl (kf_Rd_258 T) d_Rd_readValue_181 (fun H locs hw => ?_)
    exact gr_v B hw d_Rd_readValue_184 ⟨rfl, hF⟩
  have L53 : ∀ (d : Nat) (x2 : Int32) (x3 : Int32) (M1 : gMem) (r1 : gRef) (H : Heap) (locs : List Loc) (ls : Array Slot), lv_has ls 5 [(2, .int x2), (3, .int x3), (0, .ref (s0.heap.size + 380)), (1, .ref (s0.heap.size + oAt k1))] → gWd s0 D aC M1 r1 ow H locs → F_Rd_readValue fu k1 M r = F_Rd_readValue_L53 fu k1 d x2 x3 M1 r1 → W p l e (gRm 8 186 1 6) s m ([.ref (s0.heap.size + 380), .ref (s0.heap.size + oAt k1)] : List Value).toArray below meth c H locs 0 0 (gt_Q below (gQ s0 D aC ow (qV (F_Rd_readValue fu k1 M r)) (qT (F_Rd_readValue fu k1 M r))) s 0 0 1 6 (fun q => s0.heap.size ≤ q)) (F0 m 53 ls []) := by
    intro d
    induction d with
    | zero => intro x2 x3 M1 r1 H locs ls hl hw hF; exact absurd hF hno
    | succ d ih =>
      intro x2 x3 M1 r1 H locs ls hl hw hF
      have hF := hF.trans (F_Rd_readValue_L53.eq_2 _ _ _ _ _ _ _)
      refine lv_iload_n hx hb d_Rd_readValue_53 rfl (lv_at hl 1 rfl) ?_
      refine lv_aload_n hx hb d_Rd_readValue_54 rfl (lv_at hl 2 rfl) ?_
      refine gf_Rd_text hx hb T hown hK hw rfl (kf_Rd_55 T) d_Rd_readValue_55 ?_
      refine gf_Row_size hx hb T hown hK hw (i := 2) (by decide) rfl (kf_Rd_71 T) d_Rd_readValue_58 ?_
      refine lv_icmp_ge hx hb d_Rd_readValue_61 rfl (fun h21 => ?_) (fun h21 => ?_)
      · skip
        have hF := hF.trans (if_pos h21)
        exact X165 x2 _ _ _ _ _ (gv_loc hl [0, 2, 3] rfl) hw hF
      · skip
        have hF := hF.trans (if_neg h21)
        refine lv_aload_n hx hb d_Rd_readValue_64 rfl (lv_at hl 2 rfl) ?_
        refine lv_iconst (v := 0) hx hb d_Rd_readValue_65 (by decide) ?_
        refine gy_V B hl.1 hw (t_Rd_next G _ _ ow fu 0 (nn hno hF)) (kd_Rd_next T) (ki_Rd T) (km_Rd_76 T) (ka_Rd_next T) (ks_Rd_next T) ⟨by decide, by decide, by rfl⟩ (rv_Rd hK hw rfl) rfl (Nat.le_of_ble_eq_true rfl) ⟨by decide, by decide⟩ ⟨by decide, by decide⟩ d_Rd_readValue_66 (fun v M22 r22 H locs hw hp => ?_) (fun x ek M22 r22 H locs hw hE hp => gr_t B hexc hw hE (by decide) (by decide) (hF.trans (bnd_ex hp)))
        obtain ⟨v22, rfl, hp⟩ := hp
        have hF := hF.trans (bnd_ok hp)
        refine lv_iload_n hx hb d_Rd_readValue_69 rfl (lv_at hl 0 rfl) ?_
        refine lv_icmp_eq hx hb d_Rd_readValue_70 rfl (fun h23 => ?_) (fun h23 => ?_)
        · skip
          have hF := hF.trans (if_pos h23)
          exact X165 x2 _ _ _ _ _ (gv_loc hl [0, 2, 3] rfl) hw hF
        · skip
          have hF := hF.trans (if_neg h23)
          refine lv_aload_n hx hb d_Rd_readValue_73 rfl (lv_at hl 2 rfl) ?_
          refine lv_iconst (v := 0) hx hb d_Rd_readValue_74 (by decide) ?_
          refine gy_V B hl.1 hw (t_Rd_next G _ _ ow fu 0 (nn hno hF)) (kd_Rd_next T) (ki_Rd T) (km_Rd_76 T) (ka_Rd_next T) (ks_Rd_next T) ⟨by decide, by decide, by rfl⟩ (rv_Rd hK hw rfl) rfl (Nat.le_of_ble_eq_true rfl) ⟨by decide, by decide⟩ ⟨by decide, by decide⟩ d_Rd_readValue_75 (fun v M24 r24 H locs hw hp => ?_) (fun x ek M24 r24 H locs hw hE hp => gr_t B hexc hw hE (by decide) (by decide) (hF.trans (bnd_ex hp)))
          obtain ⟨v24, rfl, hp⟩ := hp
          have hF := hF.trans (bnd_ok hp)
          refine lv_istore hx hb d_Rd_readValue_78 hl (by decide) rfl (fun ls hl => ?_)
          refine lv_iload hx hb d_Rd_readValue_80 (lv_at hl 0 rfl) ?_
          refine lv_bipush (v := 60) hx hb d_Rd_readValue_82 (by decide) ?_
          refine lv_icmp_eq hx hb d_Rd_readValue_84 rfl (fun h25 => ?_) (fun h25 => ?_)
          · skip
            have hF := hF.trans (if_pos h25)
            refine lv_aload_n hx hb d_Rd_readValue_92 rfl (lv_at hl 3 rfl) ?_
            refine lv_iconst (v := 1) hx hb d_Rd_readValue_93 (by decide) ?_
            refine lv_aload_n hx hb d_Rd_readValue_94 rfl (lv_at hl 3 rfl) ?_
            refine gf_Rd_at hx hb T hown hK hw rfl (kf_Rd_18 T) d_Rd_readValue_95 ?_
            refine gy_V B hl.1 hw (t_Rd_fail G _ _ ow fu 1 (M24 35 0) (nn hno hF)) (kd_Rd_fail T) (ki_Rd T) (km_Rd_100 T) (ka_Rd_fail T) (ks_Rd_fail T) ⟨by decide, by decide, by rfl⟩ (rv_Rd hK hw rfl) rfl (Nat.le_of_ble_eq_true rfl) ⟨by decide, by decide⟩ ⟨by decide, by decide⟩ d_Rd_readValue_98 (fun v M26 r26 H locs hw hp => ?_) (fun x ek M26 r26 H locs hw hE hp => gr_t B hexc hw hE (by decide) (by decide) (hF.trans (bnd_ex hp)))
            obtain ⟨rfl, hp⟩ := hp
            have hF := hF.trans (bnd_ok hp)
            exact absurd hF hno
          · skip
            have hF := hF.trans (if_neg h25)
            refine lv_iload hx hb d_Rd_readValue_87 (lv_at hl 0 rfl) ?_
            refine lv_if_ne hx hb d_Rd_readValue_89 rfl (fun h27 => ?_) (fun h27 => ?_)
            · skip
              have hF := hF.trans (if_neg h27)
              refine lv_iload hx hb d_Rd_readValue_101 (lv_at hl 0 rfl) ?_
              refine lv_bipush (v := 38) hx hb d_Rd_readValue_103 (by decide) ?_
              refine lv_icmp_ne hx hb d_Rd_readValue_105 rfl (fun h28 => ?_) (fun h28 => ?_)
              · skip
                have hF := hF.trans (if_neg h28)
                refine lv_aload_n hx hb d_Rd_readValue_125 rfl (lv_at hl 3 rfl) ?_
                refine gf_Rd_tree hx hb T hown hK hw rfl (kf_Rd_32 T) d_Rd_readValue_126 ?_
                refine gf_Tr_values hx hb T hown hK hw rfl (kf_Rd_249 T) d_Rd_readValue_129 ?_
                refine lv_iload hx hb d_Rd_readValue_132 (lv_at hl 0 rfl) ?_
                refine lv_bipush (v := 10) hx hb d_Rd_readValue_134 (by decide) ?_
                refine lv_icmp_ne hx hb d_Rd_readValue_136 rfl (fun h29 => ?_) (fun h29 => ?_)
                · skip
                  have hF := hF.trans (if_neg h29)
                  refine lv_iload hx hb d_Rd_readValue_144 (lv_at hl 0 rfl) ?_
                  refine gy_V B hl.1 hw (t_Row_put G _ _ ow fu 3 v24 (by decide) (nn hno hF)) (kd_Row_put T) (ki_Row T) (km_Rd_255 T) (ka_Row_put T) (ks_Row_put T) ⟨by decide, by decide, by rfl⟩ (rv_Row hK hw (i := 3) (by decide) rfl) rfl (Nat.le_of_ble_eq_true rfl) ⟨by decide, by decide⟩ ⟨by decide, by decide⟩ d_Rd_readValue_146 (fun v M30 r30 H locs hw hp => ?_) (fun x ek M30 r30 H locs hw hE hp => gr_t B hexc hw hE (by decide) (by decide) (hF.trans (bnd_ex hp)))
                  obtain ⟨rfl, hp⟩ := hp
                  have hF := hF.trans (bnd_ok hp)
                  refine lv_aload_n hx hb d_Rd_readValue_149 rfl (lv_at hl 3 rfl) ?_
                  refine lv_dup hx hb d_Rd_readValue_150 rfl ?_
                  refine gf_Rd_at hx hb T hown hK hw rfl (kf_Rd_18 T) d_Rd_readValue_151 ?_
                  refine lv_iconst (v := 1) hx hb d_Rd_readValue_154 (by decide) ?_
                  refine lv_iadd hx hb d_Rd_readValue_155 ?_
                  refine pf_Rd_at hx hb T hown hK hw rfl (kf_Rd_18 T) d_Rd_readValue_156 (fun H locs hw => ?_)
                  refine lv_iinc (k := 2) hx hb d_Rd_readValue_159 hl rfl (show _ + Int32.ofInt 1 = _ + 1 from rfl) (by decide) rfl (fun ls hl => ?_)
                  refine lv_goto hx hb d_Rd_readValue_162 rfl ?_
                  exact ih x2 (x3 + 1) _ _ _ _ _ (gv_loc hl [2, 0, 3, 4] rfl) hw hF
                · skip
                  have hF := hF.trans (if_pos h29)
                  refine lv_bipush (v := 32) hx hb d_Rd_readValue_139 (by decide) ?_
                  refine lv_goto hx hb d_Rd_readValue_141 rfl ?_
                  refine gy_V B hl.1 hw (t_Row_put G _ _ ow fu 3 32 (by decide) (nn hno hF)) (kd_Row_put T) (ki_Row T) (km_Rd_255 T) (ka_Row_put T) (ks_Row_put T) ⟨by decide, by decide, by rfl⟩ (rv_Row hK hw (i := 3) (by decide) rfl) rfl (Nat.le_of_ble_eq_true rfl) ⟨by decide, by decide⟩ ⟨by decide, by decide⟩ d_Rd_readValue_146 (fun v M31 r31 H locs hw hp => ?_) (fun x ek M31 r31 H locs hw hE hp => gr_t B hexc hw hE (by decide) (by decide) (hF.trans (bnd_ex hp)))
                  obtain ⟨rfl, hp⟩ := hp
                  have hF := hF.trans (bnd_ok hp)
                  refine lv_aload_n hx hb d_Rd_readValue_149 rfl (lv_at hl 3 rfl) ?_
                  refine lv_dup hx hb d_Rd_readValue_150 rfl ?_
                  refine gf_Rd_at hx hb T hown hK hw rfl (kf_Rd_18 T) d_Rd_readValue_151 ?_
                  refine lv_iconst (v := 1) hx hb d_Rd_readValue_154 (by decide) ?_
                  refine lv_iadd hx hb d_Rd_readValue_155 ?_
                  refine pf_Rd_at hx hb T hown hK hw rfl (kf_Rd_18 T) d_Rd_readValue_156 (fun H locs hw => ?_)
                  refine lv_iinc (k := 2) hx hb d_Rd_readValue_159 hl rfl (show _ + Int32.ofInt 1 = _ + 1 from rfl) (by decide) rfl (fun ls hl => ?_)
                  refine lv_goto hx hb d_Rd_readValue_162 rfl ?_
                  exact ih x2 (x3 + 1) _ _ _ _ _ (gv_loc hl [2, 0, 3, 4] rfl) hw hF
              · skip
                have hF := hF.trans (if_pos h28)
                refine lv_aload_n hx hb d_Rd_readValue_108 rfl (lv_at hl 3 rfl) ?_
                refine gf_Rd_tree hx hb T hown hK hw rfl (kf_Rd_32 T) d_Rd_readValue_109 ?_
                refine gf_Tr_values hx hb T hown hK hw rfl (kf_Rd_249 T) d_Rd_readValue_112 ?_
                refine lv_aload_n hx hb d_Rd_readValue_115 rfl (lv_at hl 3 rfl) ?_
                refine gy_V B hl.1 hw (t_Rd_readReference G _ _ ow fu (nn hno hF)) (kd_Rd_readReference T) (ki_Rd T) (km_Rd_80 T) (ka_Rd_readReference T) (ks_Rd_readReference T) ⟨by decide, by decide, by rfl⟩ (rv_Rd hK hw rfl) rfl (Nat.le_of_ble_eq_true rfl) ⟨by decide, by decide⟩ ⟨by decide, by decide⟩ d_Rd_readValue_116 (fun v M32 r32 H locs hw hp => ?_) (fun x ek M32 r32 H locs hw hE hp => gr_t B hexc hw hE (by decide) (by decide) (hF.trans (bnd_ex hp)))
                obtain ⟨v32, rfl, hp⟩ := hp
                have hF := hF.trans (bnd_ok hp)
                refine gy_V B hl.1 hw (t_Row_put G _ _ ow fu 3 v32 (by decide) (nn hno hF)) (kd_Row_put T) (ki_Row T) (km_Rd_255 T) (ka_Row_put T) (ks_Row_put T) ⟨by decide, by decide, by rfl⟩ (rv_Row hK hw (i := 3) (by decide) rfl) rfl (Nat.le_of_ble_eq_true rfl) ⟨by decide, by decide⟩ ⟨by decide, by decide⟩ d_Rd_readValue_119 (fun v M33 r33 H locs hw hp => ?_) (fun x ek M33 r33 H locs hw hE hp => gr_t B hexc hw hE (by decide) (by decide) (hF.trans (bnd_ex hp)))
                obtain ⟨rfl, hp⟩ := hp
                have hF := hF.trans (bnd_ok hp)
                refine lv_goto hx hb d_Rd_readValue_122 rfl ?_
                refine lv_iinc (k := 2) hx hb d_Rd_readValue_159 hl rfl (show _ + Int32.ofInt 1 = _ + 1 from rfl) (by decide) rfl (fun ls hl => ?_)
                refine lv_goto hx hb d_Rd_readValue_162 rfl ?_
                exact ih x2 (x3 + 1) _ _ _ _ _ (gv_loc hl [2, 0, 3, 4] rfl) hw hF
            · skip
              have hF := hF.trans (if_pos h27)
              refine lv_aload_n hx hb d_Rd_readValue_92 rfl (lv_at hl 3 rfl) ?_
              refine lv_iconst (v := 1) hx hb d_Rd_readValue_93 (by decide) ?_
              refine lv_aload_n hx hb d_Rd_readValue_94 rfl (lv_at hl 3 rfl) ?_
              refine gf_Rd_at hx hb T hown hK hw rfl (kf_Rd_18 T) d_Rd_readValue_95 ?_
              refine gy_V B hl.1 hw (t_Rd_fail G _ _ ow fu 1 (M24 35 0) (nn hno hF)) (kd_Rd_fail T) (ki_Rd T) (km_Rd_100 T) (ka_Rd_fail T) (ks_Rd_fail T) ⟨by decide, by decide, by rfl⟩ (rv_Rd hK hw rfl) rfl (Nat.le_of_ble_eq_true rfl) ⟨by decide, by decide⟩ ⟨by decide, by decide⟩ d_Rd_readValue_98 (fun v M34 r34 H locs hw hp => ?_) (fun x ek M34 r34 H locs hw hE hp => gr_t B hexc hw hE (by decide) (by decide) (hF.trans (bnd_ex hp)))
              obtain ⟨rfl, hp⟩ := hp
              have hF := hF.trans (bnd_ok hp)
              exact absurd hF hno
  have hF := F_Rd_readValue.eq_1 fu k1 M r
  refine lv_aload_n hx hb d_Rd_readValue_0 rfl (lv_at hl 0 rfl) ?_
  refine lv_iconst (v := 0) hx hb d_Rd_readValue_1 (by decide) ?_
  refine gy_V B hl.1 hw (t_Rd_next G _ _ ow fu 0 (nn hno hF)) (kd_Rd_next T) (ki_Rd T) (km_Rd_76 T) (ka_Rd_next T) (ks_Rd_next T) ⟨by decide, by decide, by rfl⟩ (rv_Rd hK hw rfl) rfl (Nat.le_of_ble_eq_true rfl) ⟨by decide, by decide⟩ ⟨by decide, by decide⟩ d_Rd_readValue_2 (fun v M35 r35 H locs hw hp => ?_) (fun x ek M35 r35 H locs hw hE hp => gr_t B hexc hw hE (by decide) (by decide) (hF.trans (bnd_ex hp)))
  obtain ⟨v35, rfl, hp⟩ := hp
  have hF := hF.trans (bnd_ok hp)
  refine lv_istore_n hx hb d_Rd_readValue_5 rfl hl (by decide) rfl (fun ls hl => ?_)
  refine lv_iload_n hx hb d_Rd_readValue_6 rfl (lv_at hl 0 rfl) ?_
  refine lv_bipush (v := 34) hx hb d_Rd_readValue_7 (by decide) ?_
  refine lv_icmp_eq hx hb d_Rd_readValue_9 rfl (fun h36 => ?_) (fun h36 => ?_)
  · skip
    have hF := hF.trans (if_pos h36)
    refine lv_aload_n hx hb d_Rd_readValue_27 rfl (lv_at hl 1 rfl) ?_
    refine lv_dup hx hb d_Rd_readValue_28 rfl ?_
    refine gf_Rd_at hx hb T hown hK hw rfl (kf_Rd_18 T) d_Rd_readValue_29 ?_
    refine lv_iconst (v := 1) hx hb d_Rd_readValue_32 (by decide) ?_
    refine lv_iadd hx hb d_Rd_readValue_33 ?_
    refine pf_Rd_at hx hb T hown hK hw rfl (kf_Rd_18 T) d_Rd_readValue_34 (fun H locs hw => ?_)
    refine lv_aload_n hx hb d_Rd_readValue_37 rfl (lv_at hl 2 rfl) ?_
    refine lv_aload_n hx hb d_Rd_readValue_38 rfl (lv_at hl 1 rfl) ?_
    refine gf_Rd_tree hx hb T hown hK hw rfl (kf_Rd_32 T) d_Rd_readValue_39 ?_
    refine gf_Tr_values hx hb T hown hK hw rfl (kf_Rd_249 T) d_Rd_readValue_42 ?_
    refine gf_Row_size hx hb T hown hK hw (i := 3) (by decide) rfl (kf_Rd_71 T) d_Rd_readValue_45 ?_
    refine pf_At_valueStart hx hb T hown hK hw (i := k1) b1 rfl (kf_Rd_252 T) d_Rd_readValue_48 (fun H locs hw => ?_)
    refine lv_iconst (v := 0) hx hb d_Rd_readValue_51 (by decide) ?_
    refine lv_istore_n hx hb d_Rd_readValue_52 rfl hl (by decide) rfl (fun ls hl => ?_)
    exact L53 fu v35 0 _ _ _ _ _ (gv_loc hl [1, 0, 2, 3] rfl) hw hF
  · skip
    have hF := hF.trans (if_neg h36)
    refine lv_iload_n hx hb d_Rd_readValue_12 rfl (lv_at hl 0 rfl) ?_
    refine lv_bipush (v := 39) hx hb d_Rd_readValue_13 (by decide) ?_
    refine lv_icmp_eq hx hb d_Rd_readValue_15 rfl (fun h37 => ?_) (fun h37 => ?_)
    · skip
      have hF := hF.trans (if_pos h37)
      refine lv_aload_n hx hb d_Rd_readValue_27 rfl (lv_at hl 1 rfl) ?_
      refine lv_dup hx hb d_Rd_readValue_28 rfl ?_
      refine gf_Rd_at hx hb T hown hK hw rfl (kf_Rd_18 T) d_Rd_readValue_29 ?_
      refine lv_iconst (v := 1) hx hb d_Rd_readValue_32 (by decide) ?_
      refine lv_iadd hx hb d_Rd_readValue_33 ?_
      refine pf_Rd_at hx hb T hown hK hw rfl (kf_Rd_18 T) d_Rd_readValue_34 (fun H locs hw => ?_)
      refine lv_aload_n hx hb d_Rd_readValue_37 rfl (lv_at hl 2 rfl) ?_
      refine lv_aload_n hx hb d_Rd_readValue_38 rfl (lv_at hl 1 rfl) ?_
      refine gf_Rd_tree hx hb T hown hK hw rfl (kf_Rd_32 T) d_Rd_readValue_39 ?_
      refine gf_Tr_values hx hb T hown hK hw rfl (kf_Rd_249 T) d_Rd_readValue_42 ?_
      refine gf_Row_size hx hb T hown hK hw (i := 3) (by decide) rfl (kf_Rd_71 T) d_Rd_readValue_45 ?_
      refine pf_At_valueStart hx hb T hown hK hw (i := k1) b1 rfl (kf_Rd_252 T) d_Rd_readValue_48 (fun H locs hw => ?_)
      refine lv_iconst (v := 0) hx hb d_Rd_readValue_51 (by decide) ?_
      refine lv_istore_n hx hb d_Rd_readValue_52 rfl hl (by decide) rfl (fun ls hl => ?_)
      exact L53 fu v35 0 _ _ _ _ _ (gv_loc hl [1, 0, 2, 3] rfl) hw hF
    · skip
      have hF := hF.trans (if_neg h37)
      refine lv_aload_n hx hb d_Rd_readValue_18 rfl (lv_at hl 1 rfl) ?_
      refine lv_iconst (v := 1) hx hb d_Rd_readValue_19 (by decide) ?_
      refine lv_aload_n hx hb d_Rd_readValue_20 rfl (lv_at hl 1 rfl) ?_
      refine gf_Rd_at hx hb T hown hK hw rfl (kf_Rd_18 T) d_Rd_readValue_21 ?_
      refine gy_V B hl.1 hw (t_Rd_fail G _ _ ow fu 1 (M35 35 0) (nn hno hF)) (kd_Rd_fail T) (ki_Rd T) (km_Rd_100 T) (ka_Rd_fail T) (ks_Rd_fail T) ⟨by decide, by decide, by rfl⟩ (rv_Rd hK hw rfl) rfl (Nat.le_of_ble_eq_true rfl) ⟨by decide, by decide⟩ ⟨by decide, by decide⟩ d_Rd_readValue_24 (fun v M38 r38 H locs hw hp => ?_) (fun x ek M38 r38 H locs hw hE hp => gr_t B hexc hw hE (by decide) (by decide) (hF.trans (bnd_ex hp)))
      obtain ⟨rfl, hp⟩ := hp
      have hF := hF.trans (bnd_ok hp)
      exact absurd hF hno
theorem d_Rd_readAttribute_0 : decode b_Rd_readAttribute 0 = .ok (.aload_n 1, 1) := by decide +kernel
theorem d_Rd_readAttribute_1 : decode b_Rd_readAttribute 1 = .ok (.getfield 229, 3) := by decide +kernel
theorem d_Rd_readAttribute_4 : decode b_Rd_readAttribute 4 = .ok (.aload_n 1, 1) := by decide +kernel
theorem d_Rd_readAttribute_5 : decode b_Rd_readAttribute 5 = .ok (.getfield 188, 3) := by decide +kernel
theorem d_Rd_readAttribute_8 : decode b_Rd_readAttribute 8 = .ok (.aaload, 1) := by decide +kernel
theorem d_Rd_readAttribute_9 : decode b_Rd_readAttribute 9 = .ok (.astore_n 2, 1) := by decide +kernel
theorem d_Rd_readAttribute_10 : decode b_Rd_readAttribute 10 = .ok (.aload_n 0, 1) := by decide +kernel
theorem d_Rd_readAttribute_11 : decode b_Rd_readAttribute 11 = .ok (.aload_n 2, 1) := by decide +kernel
theorem d_Rd_readAttribute_12 : decode b_Rd_readAttribute 12 = .ok (.getfield 233, 3) := by decide +kernel
theorem d_Rd_readAttribute_15 : decode b_Rd_readAttribute 15 = .ok (.invokevirtual 184, 3) := by decide +kernel
theorem d_Rd_readAttribute_18 : decode b_Rd_readAttribute 18 = .ok (.aload_n 2, 1) := by decide +kernel
theorem d_Rd_readAttribute_19 : decode b_Rd_readAttribute 19 = .ok (.aload_n 0, 1) := by decide +kernel
theorem d_Rd_readAttribute_20 : decode b_Rd_readAttribute 20 = .ok (.getfield 32, 3) := by decide +kernel
theorem d_Rd_readAttribute_23 : decode b_Rd_readAttribute 23 = .ok (.aload_n 2, 1) := by decide +kernel
theorem d_Rd_readAttribute_24 : decode b_Rd_readAttribute 24 = .ok (.getfield 233, 3) := by decide +kernel
theorem d_Rd_readAttribute_27 : decode b_Rd_readAttribute 27 = .ok (.invokevirtual 236, 3) := by decide +kernel
theorem d_Rd_readAttribute_30 : decode b_Rd_readAttribute 30 = .ok (.putfield 240, 3) := by decide +kernel
theorem d_Rd_readAttribute_33 : decode b_Rd_readAttribute 33 = .ok (.aload_n 0, 1) := by decide +kernel
theorem d_Rd_readAttribute_34 : decode b_Rd_readAttribute 34 = .ok (.invokevirtual 139, 3) := by decide +kernel
theorem d_Rd_readAttribute_37 : decode b_Rd_readAttribute 37 = .ok (.pop, 1) := by decide +kernel
theorem d_Rd_readAttribute_38 : decode b_Rd_readAttribute 38 = .ok (.aload_n 0, 1) := by decide +kernel
theorem d_Rd_readAttribute_39 : decode b_Rd_readAttribute 39 = .ok (.bipush 61, 2) := by decide +kernel
theorem d_Rd_readAttribute_41 : decode b_Rd_readAttribute 41 = .ok (.invokevirtual 131, 3) := by decide +kernel
theorem d_Rd_readAttribute_44 : decode b_Rd_readAttribute 44 = .ok (.aload_n 0, 1) := by decide +kernel
theorem d_Rd_readAttribute_45 : decode b_Rd_readAttribute 45 = .ok (.invokevirtual 139, 3) := by decide +kernel
theorem d_Rd_readAttribute_48 : decode b_Rd_readAttribute 48 = .ok (.pop, 1) := by decide +kernel
theorem d_Rd_readAttribute_49 : decode b_Rd_readAttribute 49 = .ok (.aload_n 0, 1) := by decide +kernel
theorem d_Rd_readAttribute_50 : decode b_Rd_readAttribute 50 = .ok (.aload_n 2, 1) := by decide +kernel
theorem d_Rd_readAttribute_51 : decode b_Rd_readAttribute 51 = .ok (.invokevirtual 242, 3) := by decide +kernel
theorem d_Rd_readAttribute_54 : decode b_Rd_readAttribute 54 = .ok (.aload_n 1, 1) := by decide +kernel
theorem d_Rd_readAttribute_55 : decode b_Rd_readAttribute 55 = .ok (.dup, 1) := by decide +kernel
theorem d_Rd_readAttribute_56 : decode b_Rd_readAttribute 56 = .ok (.getfield 188, 3) := by decide +kernel
theorem d_Rd_readAttribute_59 : decode b_Rd_readAttribute 59 = .ok (.iconst 1, 1) := by decide +kernel
theorem d_Rd_readAttribute_60 : decode b_Rd_readAttribute 60 = .ok (.iadd, 1) := by decide +kernel
theorem d_Rd_readAttribute_61 : decode b_Rd_readAttribute 61 = .ok (.putfield 188, 3) := by decide +kernel
theorem d_Rd_readAttribute_64 : decode b_Rd_readAttribute 64 = .ok (.aload_n 2, 1) := by decide +kernel
theorem d_Rd_readAttribute_65 : decode b_Rd_readAttribute 65 = .ok (.getfield 240, 3) := by decide +kernel
theorem d_Rd_readAttribute_68 : decode b_Rd_readAttribute 68 = .ok (.ifCond .eq 13, 3) := by decide +kernel
theorem d_Rd_readAttribute_71 : decode b_Rd_readAttribute 71 = .ok (.aload_n 1, 1) := by decide +kernel
theorem d_Rd_readAttribute_72 : decode b_Rd_readAttribute 72 = .ok (.dup, 1) := by decide +kernel
theorem d_Rd_readAttribute_73 : decode b_Rd_readAttribute 73 = .ok (.getfield 246, 3) := by decide +kernel
theorem d_Rd_readAttribute_76 : decode b_Rd_readAttribute 76 = .ok (.iconst 1, 1) := by decide +kernel
theorem d_Rd_readAttribute_77 : decode b_Rd_readAttribute 77 = .ok (.iadd, 1) := by decide +kernel
theorem d_Rd_readAttribute_78 : decode b_Rd_readAttribute 78 = .ok (.putfield 246, 3) := by decide +kernel
theorem d_Rd_readAttribute_81 : decode b_Rd_readAttribute 81 = .ok (.return_, 1) := by decide +kernel
set_option maxHeartbeats 4000000 in
set_option maxRecDepth 100000 in
theorem t_Rd_readAttribute {l : Launch} {s0 : State} {D : va_G} {aC : Nat → ClassId} {a0 : Array Value} (G : gG l s0 D aC a0) (M : gMem) (r : gRef) (ow : Int64) (fu : Nat) (k1 : Nat) (b1 : k1 < 24) (hno : F_Rd_readAttribute fu k1 M r ≠ .no) : gMet l s0 D aC y_Rd_readAttribute (Cond.code y_Rd_readAttribute b_Rd_readAttribute 3 none) 9 210 1 6 [.ref (s0.heap.size + 380), .ref (s0.heap.size + oEl k1)] M r ow (qV (F_Rd_readAttribute fu k1 M r)) (qT (F_Rd_readAttribute fu k1 M r)) := by
  refine gm_of G (by decide) (Nat.le_of_ble_eq_true rfl) ?_
  intro p e s m below meth c ls B hexc hl hw
  have hx := B.1
  have hb := B.2.1
  have hown := B.2.2.2.2.2.1
  have T := B.2.2.2.2.2.2.1
  have hK := B.2.2.2.2.2.2.2.1
  have hF := F_Rd_readAttribute.eq_1 fu k1 M r
  refine lv_aload_n hx hb d_Rd_readAttribute_0 rfl (lv_at hl 1 rfl) ?_
  refine gf_El_attributes hx hb T hown hK hw (i := k1) b1 rfl (kf_Rd_229 T) d_Rd_readAttribute_1 ?_
  refine lv_aload_n hx hb d_Rd_readAttribute_4 rfl (lv_at hl 1 rfl) ?_
  refine gf_El_attributeCount hx hb T hown hK hw (i := k1) b1 rfl (kf_Rd_188 T) d_Rd_readAttribute_5 ?_
  have g12 := ng hno hF
  have hF := hF.trans (gd_yes g12)
  refine ga_as hx hb hK hw (i := k1) b1 rfl g12 d_Rd_readAttribute_8 ?_
  have b112 : 6 * k1 + (M 29 k1).toNatClampNeg < 145 := by have := vin_lt g12; have := b1; omega
  refine lv_astore_n hx hb d_Rd_readAttribute_9 rfl hl (by decide) rfl (fun ls hl => ?_)
  refine lv_aload_n hx hb d_Rd_readAttribute_10 rfl (lv_at hl 1 rfl) ?_
  refine lv_aload_n hx hb d_Rd_readAttribute_11 rfl (lv_at hl 0 rfl) ?_
  refine gf_At_name hx hb T hown hK hw (i := (6 * k1 + (M 29 k1).toNatClampNeg)) b112 rfl (kf_Rd_233 T) d_Rd_readAttribute_12 ?_
  have n13 : 6 * k1 + (M 29 k1).toNatClampNeg < 170 := Nat.lt_trans b112 (by decide)
  refine gy_V B hl.1 hw (t_Rd_readName G _ _ ow fu (6 * k1 + (M 29 k1).toNatClampNeg) n13 (nn hno hF)) (kd_Rd_readName T) (ki_Rd T) (km_Rd_184 T) (ka_Rd_readName T) (ks_Rd_readName T) ⟨by decide, by decide, by rfl⟩ (rv_Rd hK hw rfl) rfl (Nat.le_of_ble_eq_true rfl) ⟨by decide, by decide⟩ ⟨by decide, by decide⟩ d_Rd_readAttribute_15 (fun v M14 r14 H locs hw hp => ?_) (fun x ek M14 r14 H locs hw hE hp => gr_t B hexc hw hE (by decide) (by decide) (hF.trans (bnd_ex hp)))
  obtain ⟨rfl, hp⟩ := hp
  have hF := hF.trans (bnd_ok hp)
  refine lv_aload_n hx hb d_Rd_readAttribute_18 rfl (lv_at hl 0 rfl) ?_
  refine lv_aload_n hx hb d_Rd_readAttribute_19 rfl (lv_at hl 1 rfl) ?_
  refine gf_Rd_tree hx hb T hown hK hw rfl (kf_Rd_32 T) d_Rd_readAttribute_20 ?_
  refine lv_aload_n hx hb d_Rd_readAttribute_23 rfl (lv_at hl 0 rfl) ?_
  refine gf_At_name hx hb T hown hK hw (i := (6 * k1 + (M 29 k1).toNatClampNeg)) b112 rfl (kf_Rd_233 T) d_Rd_readAttribute_24 ?_
  have n15 : 6 * k1 + (M 29 k1).toNatClampNeg < 170 := Nat.lt_trans b112 (by decide)
  refine gy_V B hl.1 hw (t_Tr_isDeclaration G _ _ ow fu (6 * k1 + (M 29 k1).toNatClampNeg) n15 (nn hno hF)) (kd_Tr_isDeclaration T) (ki_Tr T) (km_Rd_236 T) (ka_Tr_isDeclaration T) (ks_Tr_isDeclaration T) ⟨by decide, by decide, by rfl⟩ (rv_Tr hK hw rfl) rfl (Nat.le_of_ble_eq_true rfl) ⟨by decide, by decide⟩ ⟨by decide, by decide⟩ d_Rd_readAttribute_27 (fun v M16 r16 H locs hw hp => ?_) (fun x ek M16 r16 H locs hw hE hp => gr_t B hexc hw hE (by decide) (by decide) (hF.trans (bnd_ex hp)))
  obtain ⟨v16, rfl, hp⟩ := hp
  have hF := hF.trans (bnd_ok hp)
  have g17 := ng hno hF
  have hF := hF.trans (gd_yes g17)
  refine pf_At_isDeclaration hx hb T hown hK hw (i := (6 * k1 + (M 29 k1).toNatClampNeg)) b112 rfl g17 (kf_Rd_240 T) d_Rd_readAttribute_30 (fun H locs hw => ?_)
  refine lv_aload_n hx hb d_Rd_readAttribute_33 rfl (lv_at hl 1 rfl) ?_
  refine gy_V B hl.1 hw (t_Rd_passBlanks G _ _ ow fu (nn hno hF)) (kd_Rd_passBlanks T) (ki_Rd T) (km_Rd_139 T) (ka_Rd_passBlanks T) (ks_Rd_passBlanks T) ⟨by decide, by decide, by rfl⟩ (rv_Rd hK hw rfl) rfl (Nat.le_of_ble_eq_true rfl) ⟨by decide, by decide⟩ ⟨by decide, by decide⟩ d_Rd_readAttribute_34 (fun v M18 r18 H locs hw hp => ?_) (fun x ek M18 r18 H locs hw hE hp => gr_t B hexc hw hE (by decide) (by decide) (hF.trans (bnd_ex hp)))
  obtain ⟨v18, rfl, hp⟩ := hp
  have hF := hF.trans (bnd_ok hp)
  refine lv_pop hx hb d_Rd_readAttribute_37 rfl ?_
  refine lv_aload_n hx hb d_Rd_readAttribute_38 rfl (lv_at hl 1 rfl) ?_
  refine lv_bipush (v := 61) hx hb d_Rd_readAttribute_39 (by decide) ?_
  refine gy_V B hl.1 hw (t_Rd_pass G _ _ ow fu 61 (nn hno hF)) (kd_Rd_pass T) (ki_Rd T) (km_Rd_131 T) (ka_Rd_pass T) (ks_Rd_pass T) ⟨by decide, by decide, by rfl⟩ (rv_Rd hK hw rfl) rfl (Nat.le_of_ble_eq_true rfl) ⟨by decide, by decide⟩ ⟨by decide, by decide⟩ d_Rd_readAttribute_41 (fun v M19 r19 H locs hw hp => ?_) (fun x ek M19 r19 H locs hw hE hp => gr_t B hexc hw hE (by decide) (by decide) (hF.trans (bnd_ex hp)))
  obtain ⟨rfl, hp⟩ := hp
  have hF := hF.trans (bnd_ok hp)
  refine lv_aload_n hx hb d_Rd_readAttribute_44 rfl (lv_at hl 1 rfl) ?_
  refine gy_V B hl.1 hw (t_Rd_passBlanks G _ _ ow fu (nn hno hF)) (kd_Rd_passBlanks T) (ki_Rd T) (km_Rd_139 T) (ka_Rd_passBlanks T) (ks_Rd_passBlanks T) ⟨by decide, by decide, by rfl⟩ (rv_Rd hK hw rfl) rfl (Nat.le_of_ble_eq_true rfl) ⟨by decide, by decide⟩ ⟨by decide, by decide⟩ d_Rd_readAttribute_45 (fun v M20 r20 H locs hw hp => ?_) (fun x ek M20 r20 H locs hw hE hp => gr_t B hexc hw hE (by decide) (by decide) (hF.trans (bnd_ex hp)))
  obtain ⟨v20, rfl, hp⟩ := hp
  have hF := hF.trans (bnd_ok hp)
  refine lv_pop hx hb d_Rd_readAttribute_48 rfl ?_
  refine lv_aload_n hx hb d_Rd_readAttribute_49 rfl (lv_at hl 1 rfl) ?_
  refine lv_aload_n hx hb d_Rd_readAttribute_50 rfl (lv_at hl 0 rfl) ?_
  refine gy_V B hl.1 hw (t_Rd_readValue G _ _ ow fu (6 * k1 + (M 29 k1).toNatClampNeg) b112 (nn hno hF)) (kd_Rd_readValue T) (ki_Rd T) (km_Rd_242 T) (ka_Rd_readValue T) (ks_Rd_readValue T) ⟨by decide, by decide, by rfl⟩ (rv_Rd hK hw rfl) rfl (Nat.le_of_ble_eq_true rfl) ⟨by decide, by decide⟩ ⟨by decide, by decide⟩ d_Rd_readAttribute_51 (fun v M21 r21 H locs hw hp => ?_) (fun x ek M21 r21 H locs hw hE hp => gr_t B hexc hw hE (by decide) (by decide) (hF.trans (bnd_ex hp)))
  obtain ⟨rfl, hp⟩ := hp
  have hF := hF.trans (bnd_ok hp)
  refine lv_aload_n hx hb d_Rd_readAttribute_54 rfl (lv_at hl 2 rfl) ?_
  refine lv_dup hx hb d_Rd_readAttribute_55 rfl ?_
  refine gf_El_attributeCount hx hb T hown hK hw (i := k1) b1 rfl (kf_Rd_188 T) d_Rd_readAttribute_56 ?_
  refine lv_iconst (v := 1) hx hb d_Rd_readAttribute_59 (by decide) ?_
  refine lv_iadd hx hb d_Rd_readAttribute_60 ?_
  refine pf_El_attributeCount hx hb T hown hK hw (i := k1) b1 rfl (kf_Rd_188 T) d_Rd_readAttribute_61 (fun H locs hw => ?_)
  refine lv_aload_n hx hb d_Rd_readAttribute_64 rfl (lv_at hl 0 rfl) ?_
  refine gf_At_isDeclaration hx hb T hown hK hw (i := (6 * k1 + (M 29 k1).toNatClampNeg)) b112 rfl (kf_Rd_240 T) d_Rd_readAttribute_65 ?_
  refine lv_if_eq hx hb d_Rd_readAttribute_68 rfl (fun h22 => ?_) (fun h22 => ?_)
  · skip
    have hF := hF.trans (if_pos h22)
    exact gr_v B hw d_Rd_readAttribute_81 ⟨rfl, hF⟩
  · skip
    have hF := hF.trans (if_neg h22)
    refine lv_aload_n hx hb d_Rd_readAttribute_71 rfl (lv_at hl 2 rfl) ?_
    refine lv_dup hx hb d_Rd_readAttribute_72 rfl ?_
    refine gf_El_declarationCount hx hb T hown hK hw (i := k1) b1 rfl (kf_Rd_246 T) d_Rd_readAttribute_73 ?_
    refine lv_iconst (v := 1) hx hb d_Rd_readAttribute_76 (by decide) ?_
    refine lv_iadd hx hb d_Rd_readAttribute_77 ?_
    refine pf_El_declarationCount hx hb T hown hK hw (i := k1) b1 rfl (kf_Rd_246 T) d_Rd_readAttribute_78 (fun H locs hw => ?_)
    exact gr_v B hw d_Rd_readAttribute_81 ⟨rfl, hF⟩
set_option maxHeartbeats 4000000 in
set_option maxRecDepth 100000 in
theorem t_Rd_readTag {l : Launch} {s0 : State} {D : va_G} {aC : Nat → ClassId} {a0 : Array Value} (G : gG l s0 D aC a0) (M : gMem) (r : gRef) (ow : Int64) (fu : Nat)  (hno : F_Rd_readTag fu M r ≠ .no) : gMet l s0 D aC y_Rd_readTag (Cond.code y_Rd_readTag b_Rd_readTag 4 (some (.object "MarkupReader$Element"))) 10 232 1 6 [.ref (s0.heap.size + 380)] M r ow (qE s0.heap.size (F_Rd_readTag fu M r)) (qT (F_Rd_readTag fu M r)) := by
  refine gm_of G (by decide) (Nat.le_of_ble_eq_true rfl) ?_
  intro p e s m below meth c ls B hexc hl hw
  have hx := B.1
  have hb := B.2.1
  have hown := B.2.2.2.2.2.1
  have T := B.2.2.2.2.2.2.1
  have hK := B.2.2.2.2.2.2.2.1
  have X120 : ∀ (k2 : Nat) (b2 : k2 < 24) (M1 : gMem) (r1 : gRef) (H : Heap) (locs : List Loc) (ls : Array Slot), lv_has ls 4 [(2, .ref (s0.heap.size + oEl k2)), (0, .ref (s0.heap.size + 380))] → gWd s0 D aC M1 r1 ow H locs → F_Rd_readTag fu M r = F_Rd_readTag_B120 fu k2 M1 r1 → W p l e (gRm 10 232 1 6) s m ([.ref (s0.heap.size + 380)] : List Value).toArray below meth c H locs 0 0 (gt_Q below (gQ s0 D aC ow (qE s0.heap.size (F_Rd_readTag fu M r)) (qT (F_Rd_readTag fu M r))) s 0 0 1 6 (fun q => s0.heap.size ≤ q)) (F0 m 120 ls []) := by
    intro k2 b2 M1 r1 H locs ls hl hw hF
    have hF := hF.trans (F_Rd_readTag_B120.eq_1 _ _ _ _)
    refine lv_aload_n hx hb d_Rd_readTag_120 rfl (lv_at hl 0 rfl) ?_
    refine lv_aload_n hx hb d_Rd_readTag_121 rfl (lv_at hl 1 rfl) ?_
    refine gl_Rd_194 B G d_Rd_readTag_122 ?_
    refine gy_V B hl.1 hw (t_Rd_passIfThere G _ _ ow fu 10 (by decide) (nn hno hF)) (kd_Rd_passIfThere T) (ki_Rd T) (km_Rd_196 T) (ka_Rd_passIfThere T) (ks_Rd_passIfThere T) ⟨by decide, by decide, by rfl⟩ (rv_Rd hK hw rfl) rfl (Nat.le_of_ble_eq_true rfl) ⟨by decide, by decide⟩ ⟨by decide, by decide⟩ d_Rd_readTag_124 (fun v M29 r29 H locs hw hp => ?_) (fun x ek M29 r29 H locs hw hE hp => gr_t B hexc hw hE (by decide) (by decide) (hF.trans (bnd_ex hp)))
    obtain ⟨v29, rfl, hp⟩ := hp
    have hF := hF.trans (bnd_ok hp)
    have g30 := ng hno hF
    have hF := hF.trans (gd_yes g30)
    refine pf_El_isEmpty hx hb T hown hK hw (i := k2) b2 rfl g30 (kf_Rd_200 T) d_Rd_readTag_127 (fun H locs hw => ?_)
    refine lv_aload_n hx hb d_Rd_readTag_130 rfl (lv_at hl 1 rfl) ?_
    refine lv_bipush (v := 62) hx hb d_Rd_readTag_131 (by decide) ?_
    refine gy_V B hl.1 hw (t_Rd_pass G _ _ ow fu 62 (nn hno hF)) (kd_Rd_pass T) (ki_Rd T) (km_Rd_131 T) (ka_Rd_pass T) (ks_Rd_pass T) ⟨by decide, by decide, by rfl⟩ (rv_Rd hK hw rfl) rfl (Nat.le_of_ble_eq_true rfl) ⟨by decide, by decide⟩ ⟨by decide, by decide⟩ d_Rd_readTag_133 (fun v M31 r31 H locs hw hp => ?_) (fun x ek M31 r31 H locs hw hE hp => gr_t B hexc hw hE (by decide) (by decide) (hF.trans (bnd_ex hp)))
    obtain ⟨rfl, hp⟩ := hp
    have hF := hF.trans (bnd_ok hp)
    refine lv_aload_n hx hb d_Rd_readTag_136 rfl (lv_at hl 0 rfl) ?_
    exact gr_a (v := some (s0.heap.size + oEl k2)) B hw d_Rd_readTag_137 ⟨some k2, rfl, hF⟩
  have L65 : ∀ (d : Nat) (x1 : Int32) (k2 : Nat) (b2 : k2 < 24) (x3 : Int32) (M1 : gMem) (r1 : gRef) (H : Heap) (locs : List Loc) (ls : Array Slot), lv_has ls 4 [(1, .int x1), (2, .ref (s0.heap.size + oEl k2)), (3, .int x3), (0, .ref (s0.heap.size + 380))] → gWd s0 D aC M1 r1 ow H locs → F_Rd_readTag fu M r = F_Rd_readTag_L65 fu d x1 k2 x3 M1 r1 → W p l e (gRm 10 232 1 6) s m ([.ref (s0.heap.size + 380)] : List Value).toArray below meth c H locs 0 0 (gt_Q below (gQ s0 D aC ow (qE s0.heap.size (F_Rd_readTag fu M r)) (qT (F_Rd_readTag fu M r))) s 0 0 1 6 (fun q => s0.heap.size ≤ q)) (F0 m 65 ls []) := by
    intro d
    induction d with
    | zero => intro x1 k2 b2 x3 M1 r1 H locs ls hl hw hF; exact absurd hF hno
    | succ d ih =>
      intro x1 k2 b2 x3 M1 r1 H locs ls hl hw hF
      have hF := hF.trans (F_Rd_readTag_L65.eq_2 _ _ _ _ _ _ _)
      refine lv_iload_n hx hb d_Rd_readTag_65 rfl (lv_at hl 2 rfl) ?_
      refine lv_aload_n hx hb d_Rd_readTag_66 rfl (lv_at hl 3 rfl) ?_
      refine gf_Rd_text hx hb T hown hK hw rfl (kf_Rd_55 T) d_Rd_readTag_67 ?_
      refine gf_Row_size hx hb T hown hK hw (i := 2) (by decide) rfl (kf_Rd_71 T) d_Rd_readTag_70 ?_
      refine lv_icmp_ge hx hb d_Rd_readTag_73 rfl (fun h32 => ?_) (fun h32 => ?_)
      · skip
        have hF := hF.trans (if_pos h32)
        exact X120 k2 b2 _ _ _ _ _ (gv_loc hl [1, 3] rfl) hw hF
      · skip
        have hF := hF.trans (if_neg h32)
        refine lv_aload_n hx hb d_Rd_readTag_76 rfl (lv_at hl 3 rfl) ?_
        refine gy_V B hl.1 hw (t_Rd_passBlanks G _ _ ow fu (nn hno hF)) (kd_Rd_passBlanks T) (ki_Rd T) (km_Rd_139 T) (ka_Rd_passBlanks T) (ks_Rd_passBlanks T) ⟨by decide, by decide, by rfl⟩ (rv_Rd hK hw rfl) rfl (Nat.le_of_ble_eq_true rfl) ⟨by decide, by decide⟩ ⟨by decide, by decide⟩ d_Rd_readTag_77 (fun v M33 r33 H locs hw hp => ?_) (fun x ek M33 r33 H locs hw hE hp => gr_t B hexc hw hE (by decide) (by decide) (hF.trans (bnd_ex hp)))
        obtain ⟨v33, rfl, hp⟩ := hp
        have hF := hF.trans (bnd_ok hp)
        refine lv_if_eq hx hb d_Rd_readTag_80 rfl (fun h34 => ?_) (fun h34 => ?_)
        · skip
          have hF := hF.trans (if_pos h34)
          exact X120 k2 b2 _ _ _ _ _ (gv_loc hl [1, 3] rfl) hw hF
        · skip
          have hF := hF.trans (if_neg h34)
          refine lv_aload_n hx hb d_Rd_readTag_83 rfl (lv_at hl 3 rfl) ?_
          refine lv_iconst (v := 0) hx hb d_Rd_readTag_84 (by decide) ?_
          refine gy_V B hl.1 hw (t_Rd_next G _ _ ow fu 0 (nn hno hF)) (kd_Rd_next T) (ki_Rd T) (km_Rd_76 T) (ka_Rd_next T) (ks_Rd_next T) ⟨by decide, by decide, by rfl⟩ (rv_Rd hK hw rfl) rfl (Nat.le_of_ble_eq_true rfl) ⟨by decide, by decide⟩ ⟨by decide, by decide⟩ d_Rd_readTag_85 (fun v M35 r35 H locs hw hp => ?_) (fun x ek M35 r35 H locs hw hE hp => gr_t B hexc hw hE (by decide) (by decide) (hF.trans (bnd_ex hp)))
          obtain ⟨v35, rfl, hp⟩ := hp
          have hF := hF.trans (bnd_ok hp)
          refine gy_SN B hl.1 hw (t_MR_beginsPart G _ _ ow fu v35 (nn hno hF)) (kd_MR_beginsPart T) (ki_MR T) (km_Rd_150 T) (kt_MR_beginsPart T) ⟨by decide, by decide, by rfl⟩ rfl (Nat.le_of_ble_eq_true rfl) ⟨by decide, by decide⟩ ⟨by decide, by decide⟩ d_Rd_readTag_88 (fun v M36 r36 H locs hw hp => ?_) (fun x ek M36 r36 H locs hw hE hp => gr_t B hexc hw hE (by decide) (by decide) (hF.trans (bnd_ex hp)))
          obtain ⟨v36, rfl, hp⟩ := hp
          have hF := hF.trans (bnd_ok hp)
          refine lv_if_eq hx hb d_Rd_readTag_91 rfl (fun h37 => ?_) (fun h37 => ?_)
          · skip
            have hF := hF.trans (if_pos h37)
            exact X120 k2 b2 _ _ _ _ _ (gv_loc hl [1, 3] rfl) hw hF
          · skip
            have hF := hF.trans (if_neg h37)
            refine lv_aload_n hx hb d_Rd_readTag_94 rfl (lv_at hl 1 rfl) ?_
            refine gf_El_attributeCount hx hb T hown hK hw (i := k2) b2 rfl (kf_Rd_188 T) d_Rd_readTag_95 ?_
            refine lv_bipush (v := 6) hx hb d_Rd_readTag_98 (by decide) ?_
            refine lv_icmp_lt hx hb d_Rd_readTag_100 rfl (fun h38 => ?_) (fun h38 => ?_)
            · skip
              have hF := hF.trans (if_pos h38)
              refine lv_aload_n hx hb d_Rd_readTag_109 rfl (lv_at hl 3 rfl) ?_
              refine lv_aload_n hx hb d_Rd_readTag_110 rfl (lv_at hl 1 rfl) ?_
              refine gy_V B hl.1 hw (t_Rd_readAttribute G _ _ ow fu k2 b2 (nn hno hF)) (kd_Rd_readAttribute T) (ki_Rd T) (km_Rd_191 T) (ka_Rd_readAttribute T) (ks_Rd_readAttribute T) ⟨by decide, by decide, by rfl⟩ (rv_Rd hK hw rfl) rfl (Nat.le_of_ble_eq_true rfl) ⟨by decide, by decide⟩ ⟨by decide, by decide⟩ d_Rd_readTag_111 (fun v M39 r39 H locs hw hp => ?_) (fun x ek M39 r39 H locs hw hE hp => gr_t B hexc hw hE (by decide) (by decide) (hF.trans (bnd_ex hp)))
              obtain ⟨rfl, hp⟩ := hp
              have hF := hF.trans (bnd_ok hp)
              refine lv_iinc (k := 2) hx hb d_Rd_readTag_114 hl rfl (show _ + Int32.ofInt 1 = _ + 1 from rfl) (by decide) rfl (fun ls hl => ?_)
              refine lv_goto hx hb d_Rd_readTag_117 rfl ?_
              exact ih x1 k2 b2 (x3 + 1) _ _ _ _ _ (gv_loc hl [1, 2, 0, 3] rfl) hw hF
            · skip
              have hF := hF.trans (if_neg h38)
              refine lv_aload_n hx hb d_Rd_readTag_103 rfl (lv_at hl 3 rfl) ?_
              refine lv_iconst (v := 4) hx hb d_Rd_readTag_104 (by decide) ?_
              refine lv_iload_n hx hb d_Rd_readTag_105 rfl (lv_at hl 0 rfl) ?_
              refine gy_V B hl.1 hw (t_Rd_fail G _ _ ow fu 4 x1 (nn hno hF)) (kd_Rd_fail T) (ki_Rd T) (km_Rd_100 T) (ka_Rd_fail T) (ks_Rd_fail T) ⟨by decide, by decide, by rfl⟩ (rv_Rd hK hw rfl) rfl (Nat.le_of_ble_eq_true rfl) ⟨by decide, by decide⟩ ⟨by decide, by decide⟩ d_Rd_readTag_106 (fun v M40 r40 H locs hw hp => ?_) (fun x ek M40 r40 H locs hw hE hp => gr_t B hexc hw hE (by decide) (by decide) (hF.trans (bnd_ex hp)))
              obtain ⟨rfl, hp⟩ := hp
              have hF := hF.trans (bnd_ok hp)
              exact absurd hF hno
  have hF := F_Rd_readTag.eq_1 fu M r
  refine lv_aload_n hx hb d_Rd_readTag_0 rfl (lv_at hl 0 rfl) ?_
  refine gf_Rd_at hx hb T hown hK hw rfl (kf_Rd_18 T) d_Rd_readTag_1 ?_
  refine lv_istore_n hx hb d_Rd_readTag_4 rfl hl (by decide) rfl (fun ls hl => ?_)
  refine lv_aload_n hx hb d_Rd_readTag_5 rfl (lv_at hl 1 rfl) ?_
  refine lv_bipush (v := 60) hx hb d_Rd_readTag_6 (by decide) ?_
  refine gy_V B hl.1 hw (t_Rd_pass G _ _ ow fu 60 (nn hno hF)) (kd_Rd_pass T) (ki_Rd T) (km_Rd_131 T) (ka_Rd_pass T) (ks_Rd_pass T) ⟨by decide, by decide, by rfl⟩ (rv_Rd hK hw rfl) rfl (Nat.le_of_ble_eq_true rfl) ⟨by decide, by decide⟩ ⟨by decide, by decide⟩ d_Rd_readTag_8 (fun v M41 r41 H locs hw hp => ?_) (fun x ek M41 r41 H locs hw hE hp => gr_t B hexc hw hE (by decide) (by decide) (hF.trans (bnd_ex hp)))
  obtain ⟨rfl, hp⟩ := hp
  have hF := hF.trans (bnd_ok hp)
  refine lv_aload_n hx hb d_Rd_readTag_11 rfl (lv_at hl 1 rfl) ?_
  refine lv_iconst (v := 0) hx hb d_Rd_readTag_12 (by decide) ?_
  refine gy_V B hl.1 hw (t_Rd_next G _ _ ow fu 0 (nn hno hF)) (kd_Rd_next T) (ki_Rd T) (km_Rd_76 T) (ka_Rd_next T) (ks_Rd_next T) ⟨by decide, by decide, by rfl⟩ (rv_Rd hK hw rfl) rfl (Nat.le_of_ble_eq_true rfl) ⟨by decide, by decide⟩ ⟨by decide, by decide⟩ d_Rd_readTag_13 (fun v M42 r42 H locs hw hp => ?_) (fun x ek M42 r42 H locs hw hE hp => gr_t B hexc hw hE (by decide) (by decide) (hF.trans (bnd_ex hp)))
  obtain ⟨v42, rfl, hp⟩ := hp
  have hF := hF.trans (bnd_ok hp)
  refine gy_SN B hl.1 hw (t_MR_beginsPart G _ _ ow fu v42 (nn hno hF)) (kd_MR_beginsPart T) (ki_MR T) (km_Rd_150 T) (kt_MR_beginsPart T) ⟨by decide, by decide, by rfl⟩ rfl (Nat.le_of_ble_eq_true rfl) ⟨by decide, by decide⟩ ⟨by decide, by decide⟩ d_Rd_readTag_16 (fun v M43 r43 H locs hw hp => ?_) (fun x ek M43 r43 H locs hw hE hp => gr_t B hexc hw hE (by decide) (by decide) (hF.trans (bnd_ex hp)))
  obtain ⟨v43, rfl, hp⟩ := hp
  have hF := hF.trans (bnd_ok hp)
  refine lv_if_ne hx hb d_Rd_readTag_19 rfl (fun h44 => ?_) (fun h44 => ?_)
  · skip
    have hF := hF.trans (if_neg h44)
    refine lv_aload_n hx hb d_Rd_readTag_31 rfl (lv_at hl 1 rfl) ?_
    refine gf_Rd_tree hx hb T hown hK hw rfl (kf_Rd_32 T) d_Rd_readTag_32 ?_
    refine lv_aload_n hx hb d_Rd_readTag_35 rfl (lv_at hl 1 rfl) ?_
    refine gf_Rd_open hx hb T hown hK hw rfl (kf_Rd_22 T) d_Rd_readTag_36 ?_
    rcases hq45 : r43 3 0 with _ | k_45
    · skip
      have hF := hF.trans (gcs_none hq45)
      refine gy_V B hl.1 hw (t_Tr_add_n G _ _ ow fu (nn hno hF)) (kd_Tr_add T) (ki_Tr T) (km_Rd_175 T) (ka_Tr_add T) (ks_Tr_add T) ⟨by decide, by decide, by rfl⟩ (rv_Tr hK hw rfl) rfl (Nat.le_of_ble_eq_true rfl) ⟨by decide, by decide⟩ ⟨by decide, by decide⟩ d_Rd_readTag_39 (fun v M46 r46 H locs hw hp => ?_) (fun x ek M46 r46 H locs hw hE hp => gr_t B hexc hw hE (by decide) (by decide) (hF.trans (bnd_ex hp)))
      obtain ⟨v46, rfl, hp⟩ := hp
      have hF := hF.trans (bnd_ok hp)
      rcases hq47 : v46 with _ | k_47
      · skip
        have hF := hF.trans (gcs_none hq47)
        refine lv_astore_nN hx hb d_Rd_readTag_42 rfl hl (by decide) rfl (fun ls hl => ?_)
        refine lv_aload_nN hx hb d_Rd_readTag_43 rfl (lv_at hl 0 rfl) ?_
        refine lv_ifnonnullN hx hb d_Rd_readTag_44 ?_
        refine lv_aload_n hx hb d_Rd_readTag_47 rfl (lv_at hl 2 rfl) ?_
        refine lv_iconst (v := 4) hx hb d_Rd_readTag_48 (by decide) ?_
        refine lv_iload_n hx hb d_Rd_readTag_49 rfl (lv_at hl 1 rfl) ?_
        refine gy_V B hl.1 hw (t_Rd_fail G _ _ ow fu 4 (M 35 0) (nn hno hF)) (kd_Rd_fail T) (ki_Rd T) (km_Rd_100 T) (ka_Rd_fail T) (ks_Rd_fail T) ⟨by decide, by decide, by rfl⟩ (rv_Rd hK hw rfl) rfl (Nat.le_of_ble_eq_true rfl) ⟨by decide, by decide⟩ ⟨by decide, by decide⟩ d_Rd_readTag_50 (fun v M48 r48 H locs hw hp => ?_) (fun x ek M48 r48 H locs hw hE hp => gr_t B hexc hw hE (by decide) (by decide) (hF.trans (bnd_ex hp)))
        obtain ⟨rfl, hp⟩ := hp
        have hF := hF.trans (bnd_ok hp)
        exact absurd hF hno
      · skip
        have hF := hF.trans (gcs_some hq47)
        have b_47 := ng hno hF
        have hF := hF.trans (gd_yes b_47)
        refine lv_astore_n hx hb d_Rd_readTag_42 rfl hl (by decide) rfl (fun ls hl => ?_)
        refine lv_aload_n hx hb d_Rd_readTag_43 rfl (lv_at hl 0 rfl) ?_
        refine lv_ifnonnull hx hb d_Rd_readTag_44 rfl ?_
        refine lv_aload_n hx hb d_Rd_readTag_55 rfl (lv_at hl 2 rfl) ?_
        refine lv_aload_n hx hb d_Rd_readTag_56 rfl (lv_at hl 0 rfl) ?_
        refine gf_El_name hx hb T hown hK hw (i := k_47) b_47 rfl (kf_Rd_179 T) d_Rd_readTag_57 ?_
        have n49 : 145 + k_47 < 170 := by have := b_47; omega
        refine gy_V B hl.1 hw (t_Rd_readName G _ _ ow fu (145 + k_47) n49 (nn hno hF)) (kd_Rd_readName T) (ki_Rd T) (km_Rd_184 T) (ka_Rd_readName T) (ks_Rd_readName T) ⟨by decide, by decide, by rfl⟩ (rv_Rd hK hw rfl) rfl (Nat.le_of_ble_eq_true rfl) ⟨by decide, by decide⟩ ⟨by decide, by decide⟩ d_Rd_readTag_60 (fun v M50 r50 H locs hw hp => ?_) (fun x ek M50 r50 H locs hw hE hp => gr_t B hexc hw hE (by decide) (by decide) (hF.trans (bnd_ex hp)))
        obtain ⟨rfl, hp⟩ := hp
        have hF := hF.trans (bnd_ok hp)
        refine lv_iconst (v := 0) hx hb d_Rd_readTag_63 (by decide) ?_
        refine lv_istore_n hx hb d_Rd_readTag_64 rfl hl (by decide) rfl (fun ls hl => ?_)
        exact L65 fu (M 35 0) k_47 b_47 0 _ _ _ _ _ (gv_loc hl [2, 1, 0, 3] rfl) hw hF
    · skip
      have hF := hF.trans (gcs_some hq45)
      have b_45 := ng hno hF
      have hF := hF.trans (gd_yes b_45)
      refine gy_V B hl.1 hw (t_Tr_add G _ _ ow fu k_45 b_45 (nn hno hF)) (kd_Tr_add T) (ki_Tr T) (km_Rd_175 T) (ka_Tr_add T) (ks_Tr_add T) ⟨by decide, by decide, by rfl⟩ (rv_Tr hK hw rfl) rfl (Nat.le_of_ble_eq_true rfl) ⟨by decide, by decide⟩ ⟨by decide, by decide⟩ d_Rd_readTag_39 (fun v M51 r51 H locs hw hp => ?_) (fun x ek M51 r51 H locs hw hE hp => gr_t B hexc hw hE (by decide) (by decide) (hF.trans (bnd_ex hp)))
      obtain ⟨v51, rfl, hp⟩ := hp
      have hF := hF.trans (bnd_ok hp)
      rcases hq52 : v51 with _ | k_52
      · skip
        have hF := hF.trans (gcs_none hq52)
        refine lv_astore_nN hx hb d_Rd_readTag_42 rfl hl (by decide) rfl (fun ls hl => ?_)
        refine lv_aload_nN hx hb d_Rd_readTag_43 rfl (lv_at hl 0 rfl) ?_
        refine lv_ifnonnullN hx hb d_Rd_readTag_44 ?_
        refine lv_aload_n hx hb d_Rd_readTag_47 rfl (lv_at hl 2 rfl) ?_
        refine lv_iconst (v := 4) hx hb d_Rd_readTag_48 (by decide) ?_
        refine lv_iload_n hx hb d_Rd_readTag_49 rfl (lv_at hl 1 rfl) ?_
        refine gy_V B hl.1 hw (t_Rd_fail G _ _ ow fu 4 (M 35 0) (nn hno hF)) (kd_Rd_fail T) (ki_Rd T) (km_Rd_100 T) (ka_Rd_fail T) (ks_Rd_fail T) ⟨by decide, by decide, by rfl⟩ (rv_Rd hK hw rfl) rfl (Nat.le_of_ble_eq_true rfl) ⟨by decide, by decide⟩ ⟨by decide, by decide⟩ d_Rd_readTag_50 (fun v M53 r53 H locs hw hp => ?_) (fun x ek M53 r53 H locs hw hE hp => gr_t B hexc hw hE (by decide) (by decide) (hF.trans (bnd_ex hp)))
        obtain ⟨rfl, hp⟩ := hp
        have hF := hF.trans (bnd_ok hp)
        exact absurd hF hno
      · skip
        have hF := hF.trans (gcs_some hq52)
        have b_52 := ng hno hF
        have hF := hF.trans (gd_yes b_52)
        refine lv_astore_n hx hb d_Rd_readTag_42 rfl hl (by decide) rfl (fun ls hl => ?_)
        refine lv_aload_n hx hb d_Rd_readTag_43 rfl (lv_at hl 0 rfl) ?_
        refine lv_ifnonnull hx hb d_Rd_readTag_44 rfl ?_
        refine lv_aload_n hx hb d_Rd_readTag_55 rfl (lv_at hl 2 rfl) ?_
        refine lv_aload_n hx hb d_Rd_readTag_56 rfl (lv_at hl 0 rfl) ?_
        refine gf_El_name hx hb T hown hK hw (i := k_52) b_52 rfl (kf_Rd_179 T) d_Rd_readTag_57 ?_
        have n54 : 145 + k_52 < 170 := by have := b_52; omega
        refine gy_V B hl.1 hw (t_Rd_readName G _ _ ow fu (145 + k_52) n54 (nn hno hF)) (kd_Rd_readName T) (ki_Rd T) (km_Rd_184 T) (ka_Rd_readName T) (ks_Rd_readName T) ⟨by decide, by decide, by rfl⟩ (rv_Rd hK hw rfl) rfl (Nat.le_of_ble_eq_true rfl) ⟨by decide, by decide⟩ ⟨by decide, by decide⟩ d_Rd_readTag_60 (fun v M55 r55 H locs hw hp => ?_) (fun x ek M55 r55 H locs hw hE hp => gr_t B hexc hw hE (by decide) (by decide) (hF.trans (bnd_ex hp)))
        obtain ⟨rfl, hp⟩ := hp
        have hF := hF.trans (bnd_ok hp)
        refine lv_iconst (v := 0) hx hb d_Rd_readTag_63 (by decide) ?_
        refine lv_istore_n hx hb d_Rd_readTag_64 rfl hl (by decide) rfl (fun ls hl => ?_)
        exact L65 fu (M 35 0) k_52 b_52 0 _ _ _ _ _ (gv_loc hl [2, 1, 0, 3] rfl) hw hF
  · skip
    have hF := hF.trans (if_pos h44)
    refine lv_aload_n hx hb d_Rd_readTag_22 rfl (lv_at hl 1 rfl) ?_
    refine lv_iconst (v := 1) hx hb d_Rd_readTag_23 (by decide) ?_
    refine lv_aload_n hx hb d_Rd_readTag_24 rfl (lv_at hl 1 rfl) ?_
    refine gf_Rd_at hx hb T hown hK hw rfl (kf_Rd_18 T) d_Rd_readTag_25 ?_
    refine gy_V B hl.1 hw (t_Rd_fail G _ _ ow fu 1 (M43 35 0) (nn hno hF)) (kd_Rd_fail T) (ki_Rd T) (km_Rd_100 T) (ka_Rd_fail T) (ks_Rd_fail T) ⟨by decide, by decide, by rfl⟩ (rv_Rd hK hw rfl) rfl (Nat.le_of_ble_eq_true rfl) ⟨by decide, by decide⟩ ⟨by decide, by decide⟩ d_Rd_readTag_28 (fun v M56 r56 H locs hw hp => ?_) (fun x ek M56 r56 H locs hw hE hp => gr_t B hexc hw hE (by decide) (by decide) (hF.trans (bnd_ex hp)))
    obtain ⟨rfl, hp⟩ := hp
    have hF := hF.trans (bnd_ok hp)
    exact absurd hF hno
theorem d_Rd_enter_0 : decode b_Rd_enter 0 = .ok (.aload_n 1, 1) := by decide +kernel
theorem d_Rd_enter_1 : decode b_Rd_enter 1 = .ok (.ifnonnull 4, 3) := by decide +kernel
theorem d_Rd_enter_4 : decode b_Rd_enter 4 = .ok (.return_, 1) := by decide +kernel
theorem d_Rd_enter_5 : decode b_Rd_enter 5 = .ok (.aload_n 0, 1) := by decide +kernel
theorem d_Rd_enter_6 : decode b_Rd_enter 6 = .ok (.iconst 5, 1) := by decide +kernel
theorem d_Rd_enter_7 : decode b_Rd_enter 7 = .ok (.aload_n 0, 1) := by decide +kernel
theorem d_Rd_enter_8 : decode b_Rd_enter 8 = .ok (.getfield 45, 3) := by decide +kernel
theorem d_Rd_enter_11 : decode b_Rd_enter 11 = .ok (.aload_n 1, 1) := by decide +kernel
theorem d_Rd_enter_12 : decode b_Rd_enter 12 = .ok (.invokevirtual 204, 3) := by decide +kernel
theorem d_Rd_enter_15 : decode b_Rd_enter 15 = .ok (.invokevirtual 208, 3) := by decide +kernel
theorem d_Rd_enter_18 : decode b_Rd_enter 18 = .ok (.aload_n 0, 1) := by decide +kernel
theorem d_Rd_enter_19 : decode b_Rd_enter 19 = .ok (.bipush 6, 2) := by decide +kernel
theorem d_Rd_enter_21 : decode b_Rd_enter 21 = .ok (.aload_n 0, 1) := by decide +kernel
theorem d_Rd_enter_22 : decode b_Rd_enter 22 = .ok (.getfield 45, 3) := by decide +kernel
theorem d_Rd_enter_25 : decode b_Rd_enter 25 = .ok (.aload_n 1, 1) := by decide +kernel
theorem d_Rd_enter_26 : decode b_Rd_enter 26 = .ok (.invokevirtual 211, 3) := by decide +kernel
theorem d_Rd_enter_29 : decode b_Rd_enter 29 = .ok (.invokevirtual 208, 3) := by decide +kernel
theorem d_Rd_enter_32 : decode b_Rd_enter 32 = .ok (.aload_n 0, 1) := by decide +kernel
theorem d_Rd_enter_33 : decode b_Rd_enter 33 = .ok (.getfield 45, 3) := by decide +kernel
theorem d_Rd_enter_36 : decode b_Rd_enter 36 = .ok (.aload_n 1, 1) := by decide +kernel
theorem d_Rd_enter_37 : decode b_Rd_enter 37 = .ok (.invokevirtual 214, 3) := by decide +kernel
theorem d_Rd_enter_40 : decode b_Rd_enter 40 = .ok (.aload_n 0, 1) := by decide +kernel
theorem d_Rd_enter_41 : decode b_Rd_enter 41 = .ok (.bipush 7, 2) := by decide +kernel
theorem d_Rd_enter_43 : decode b_Rd_enter 43 = .ok (.aload_n 0, 1) := by decide +kernel
theorem d_Rd_enter_44 : decode b_Rd_enter 44 = .ok (.getfield 45, 3) := by decide +kernel
theorem d_Rd_enter_47 : decode b_Rd_enter 47 = .ok (.aload_n 1, 1) := by decide +kernel
theorem d_Rd_enter_48 : decode b_Rd_enter 48 = .ok (.invokevirtual 217, 3) := by decide +kernel
theorem d_Rd_enter_51 : decode b_Rd_enter 51 = .ok (.invokevirtual 208, 3) := by decide +kernel
theorem d_Rd_enter_54 : decode b_Rd_enter 54 = .ok (.aload_n 0, 1) := by decide +kernel
theorem d_Rd_enter_55 : decode b_Rd_enter 55 = .ok (.bipush 8, 2) := by decide +kernel
theorem d_Rd_enter_57 : decode b_Rd_enter 57 = .ok (.aload_n 0, 1) := by decide +kernel
theorem d_Rd_enter_58 : decode b_Rd_enter 58 = .ok (.getfield 45, 3) := by decide +kernel
theorem d_Rd_enter_61 : decode b_Rd_enter 61 = .ok (.aload_n 1, 1) := by decide +kernel
theorem d_Rd_enter_62 : decode b_Rd_enter 62 = .ok (.invokevirtual 220, 3) := by decide +kernel
theorem d_Rd_enter_65 : decode b_Rd_enter 65 = .ok (.invokevirtual 208, 3) := by decide +kernel
theorem d_Rd_enter_68 : decode b_Rd_enter 68 = .ok (.aload_n 0, 1) := by decide +kernel
theorem d_Rd_enter_69 : decode b_Rd_enter 69 = .ok (.getfield 36, 3) := by decide +kernel
theorem d_Rd_enter_72 : decode b_Rd_enter 72 = .ok (.aload_n 1, 1) := by decide +kernel
theorem d_Rd_enter_73 : decode b_Rd_enter 73 = .ok (.invokevirtual 223, 3) := by decide +kernel
theorem d_Rd_enter_76 : decode b_Rd_enter 76 = .ok (.aload_n 1, 1) := by decide +kernel
theorem d_Rd_enter_77 : decode b_Rd_enter 77 = .ok (.getfield 200, 3) := by decide +kernel
theorem d_Rd_enter_80 : decode b_Rd_enter 80 = .ok (.ifCond .eq 14, 3) := by decide +kernel
theorem d_Rd_enter_83 : decode b_Rd_enter 83 = .ok (.aload_n 0, 1) := by decide +kernel
theorem d_Rd_enter_84 : decode b_Rd_enter 84 = .ok (.getfield 36, 3) := by decide +kernel
theorem d_Rd_enter_87 : decode b_Rd_enter 87 = .ok (.aload_n 1, 1) := by decide +kernel
theorem d_Rd_enter_88 : decode b_Rd_enter 88 = .ok (.invokevirtual 226, 3) := by decide +kernel
theorem d_Rd_enter_91 : decode b_Rd_enter 91 = .ok (.goto 8, 3) := by decide +kernel
theorem d_Rd_enter_94 : decode b_Rd_enter 94 = .ok (.aload_n 0, 1) := by decide +kernel
theorem d_Rd_enter_95 : decode b_Rd_enter 95 = .ok (.aload_n 1, 1) := by decide +kernel
theorem d_Rd_enter_96 : decode b_Rd_enter 96 = .ok (.putfield 22, 3) := by decide +kernel
theorem d_Rd_enter_99 : decode b_Rd_enter 99 = .ok (.return_, 1) := by decide +kernel
set_option maxHeartbeats 4000000 in
set_option maxRecDepth 100000 in
theorem t_Rd_enter_n {l : Launch} {s0 : State} {D : va_G} {aC : Nat → ClassId} {a0 : Array Value} (G : gG l s0 D aC a0) (M : gMem) (r : gRef) (ow : Int64) (fu : Nat)  (hno : F_Rd_enter_n fu M r ≠ .no) : gMet l s0 D aC y_Rd_enter (Cond.code y_Rd_enter b_Rd_enter 2 none) 0 0 0 0 [.ref (s0.heap.size + 380), .null] M r ow (qV (F_Rd_enter_n fu M r)) (qT (F_Rd_enter_n fu M r)) := by
  refine gm_of G (by decide) (Nat.le_of_ble_eq_true rfl) ?_
  intro p e s m below meth c ls B hexc hl hw
  have hx := B.1
  have hb := B.2.1
  have hown := B.2.2.2.2.2.1
  have T := B.2.2.2.2.2.2.1
  have hK := B.2.2.2.2.2.2.2.1
  have hF := F_Rd_enter_n.eq_1 fu M r
  refine lv_aload_nN hx hb d_Rd_enter_0 rfl (lv_at hl 1 rfl) ?_
  refine lv_ifnonnullN hx hb d_Rd_enter_1 ?_
  exact gr_v B hw d_Rd_enter_4 ⟨rfl, hF⟩
theorem d_SF_declaresFixed_0 : decode b_SF_declaresFixed 0 = .ok (.aload_n 0, 1) := by decide +kernel
theorem d_SF_declaresFixed_1 : decode b_SF_declaresFixed 1 = .ok (.getfield 9, 3) := by decide +kernel
theorem d_SF_declaresFixed_4 : decode b_SF_declaresFixed 4 = .ok (.getfield 73, 3) := by decide +kernel
theorem d_SF_declaresFixed_7 : decode b_SF_declaresFixed 7 = .ok (.aload_n 1, 1) := by decide +kernel
theorem d_SF_declaresFixed_8 : decode b_SF_declaresFixed 8 = .ok (.getfield 77, 3) := by decide +kernel
theorem d_SF_declaresFixed_11 : decode b_SF_declaresFixed 11 = .ok (.aload_n 1, 1) := by decide +kernel
theorem d_SF_declaresFixed_12 : decode b_SF_declaresFixed 12 = .ok (.getfield 80, 3) := by decide +kernel
theorem d_SF_declaresFixed_15 : decode b_SF_declaresFixed 15 = .ok (.ldc 83, 2) := by decide +kernel
theorem d_SF_declaresFixed_17 : decode b_SF_declaresFixed 17 = .ok (.invokevirtual 85, 3) := by decide +kernel
theorem d_SF_declaresFixed_20 : decode b_SF_declaresFixed 20 = .ok (.ifCond .ne 26, 3) := by decide +kernel
theorem d_SF_declaresFixed_23 : decode b_SF_declaresFixed 23 = .ok (.aload_n 0, 1) := by decide +kernel
theorem d_SF_declaresFixed_24 : decode b_SF_declaresFixed 24 = .ok (.getfield 9, 3) := by decide +kernel
theorem d_SF_declaresFixed_27 : decode b_SF_declaresFixed 27 = .ok (.getfield 73, 3) := by decide +kernel
theorem d_SF_declaresFixed_30 : decode b_SF_declaresFixed 30 = .ok (.aload_n 1, 1) := by decide +kernel
theorem d_SF_declaresFixed_31 : decode b_SF_declaresFixed 31 = .ok (.getfield 77, 3) := by decide +kernel
theorem d_SF_declaresFixed_34 : decode b_SF_declaresFixed 34 = .ok (.aload_n 1, 1) := by decide +kernel
theorem d_SF_declaresFixed_35 : decode b_SF_declaresFixed 35 = .ok (.getfield 80, 3) := by decide +kernel
theorem d_SF_declaresFixed_38 : decode b_SF_declaresFixed 38 = .ok (.ldc 91, 2) := by decide +kernel
theorem d_SF_declaresFixed_40 : decode b_SF_declaresFixed 40 = .ok (.invokevirtual 85, 3) := by decide +kernel
theorem d_SF_declaresFixed_43 : decode b_SF_declaresFixed 43 = .ok (.ifCond .eq 7, 3) := by decide +kernel
theorem d_SF_declaresFixed_46 : decode b_SF_declaresFixed 46 = .ok (.iconst 1, 1) := by decide +kernel
theorem d_SF_declaresFixed_47 : decode b_SF_declaresFixed 47 = .ok (.goto 4, 3) := by decide +kernel
theorem d_SF_declaresFixed_50 : decode b_SF_declaresFixed 50 = .ok (.iconst 0, 1) := by decide +kernel
theorem d_SF_declaresFixed_51 : decode b_SF_declaresFixed 51 = .ok (.ireturn, 1) := by decide +kernel
set_option maxHeartbeats 4000000 in
set_option maxRecDepth 100000 in
theorem t_SF_declaresFixed {l : Launch} {s0 : State} {D : va_G} {aC : Nat → ClassId} {a0 : Array Value} (G : gG l s0 D aC a0) (M : gMem) (r : gRef) (ow : Int64) (fu : Nat) (k1 : Nat) (b1 : k1 < 170) (hno : F_SF_declaresFixed fu k1 M r ≠ .no) : gMet l s0 D aC y_SF_declaresFixed (Cond.code y_SF_declaresFixed b_SF_declaresFixed 2 (some .boolean)) 6 166 0 0 [.ref (s0.heap.size + 382), .ref (s0.heap.size + oNm k1)] M r ow (qI (F_SF_declaresFixed fu k1 M r)) (qT (F_SF_declaresFixed fu k1 M r)) := by
  refine gm_of G (by decide) (Nat.le_of_ble_eq_true rfl) ?_
  intro p e s m below meth c ls B hexc hl hw
  have hx := B.1
  have hb := B.2.1
  have hown := B.2.2.2.2.2.1
  have T := B.2.2.2.2.2.2.1
  have hK := B.2.2.2.2.2.2.2.1
  have hF := F_SF_declaresFixed.eq_1 fu k1 M r
  refine lv_aload_n hx hb d_SF_declaresFixed_0 rfl (lv_at hl 0 rfl) ?_
  refine gf_SF_tree hx hb T hown hK hw rfl (kf_SF_9 T) d_SF_declaresFixed_1 ?_
  refine gf_Tr_text hx hb T hown hK hw rfl (kf_SF_73 T) d_SF_declaresFixed_4 ?_
  refine lv_aload_n hx hb d_SF_declaresFixed_7 rfl (lv_at hl 1 rfl) ?_
  refine gf_Nm_local hx hb T hown hK hw (i := k1) b1 rfl (kf_SF_77 T) d_SF_declaresFixed_8 ?_
  refine lv_aload_n hx hb d_SF_declaresFixed_11 rfl (lv_at hl 1 rfl) ?_
  refine gf_Nm_end hx hb T hown hK hw (i := k1) b1 rfl (kf_SF_80 T) d_SF_declaresFixed_12 ?_
  refine gl_SF_83 B G d_SF_declaresFixed_15 ?_
  refine gy_V B hl.1 hw (t_Row_stretchIs G _ _ ow fu 2 (M 21 k1) (M 22 k1) 11 (by decide) (by decide) (nn hno hF)) (kd_Row_stretchIs T) (ki_Row T) (km_SF_85 T) (ka_Row_stretchIs T) (ks_Row_stretchIs T) ⟨by decide, by decide, by rfl⟩ (rv_Row hK hw (i := 2) (by decide) rfl) rfl (Nat.le_of_ble_eq_true rfl) ⟨by decide, by decide⟩ ⟨by decide, by decide⟩ d_SF_declaresFixed_17 (fun v M5 r5 H locs hw hp => ?_) (fun x ek M5 r5 H locs hw hE hp => gr_t B hexc hw hE (by decide) (by decide) (hF.trans (bnd_ex hp)))
  obtain ⟨v5, rfl, hp⟩ := hp
  have hF := hF.trans (bnd_ok hp)
  refine lv_if_ne hx hb d_SF_declaresFixed_20 rfl (fun h6 => ?_) (fun h6 => ?_)
  · skip
    have hF := hF.trans (if_neg h6)
    refine lv_iconst (v := 1) hx hb d_SF_declaresFixed_46 (by decide) ?_
    refine lv_goto hx hb d_SF_declaresFixed_47 rfl ?_
    exact gr_z B hw (by rfl) d_SF_declaresFixed_51 ⟨_, rfl, hF⟩
  · skip
    have hF := hF.trans (if_pos h6)
    refine lv_aload_n hx hb d_SF_declaresFixed_23 rfl (lv_at hl 0 rfl) ?_
    refine gf_SF_tree hx hb T hown hK hw rfl (kf_SF_9 T) d_SF_declaresFixed_24 ?_
    refine gf_Tr_text hx hb T hown hK hw rfl (kf_SF_73 T) d_SF_declaresFixed_27 ?_
    refine lv_aload_n hx hb d_SF_declaresFixed_30 rfl (lv_at hl 1 rfl) ?_
    refine gf_Nm_local hx hb T hown hK hw (i := k1) b1 rfl (kf_SF_77 T) d_SF_declaresFixed_31 ?_
    refine lv_aload_n hx hb d_SF_declaresFixed_34 rfl (lv_at hl 1 rfl) ?_
    refine gf_Nm_end hx hb T hown hK hw (i := k1) b1 rfl (kf_SF_80 T) d_SF_declaresFixed_35 ?_
    refine gl_SF_91 B G d_SF_declaresFixed_38 ?_
    refine gy_V B hl.1 hw (t_Row_stretchIs G _ _ ow fu 2 (M5 21 k1) (M5 22 k1) 17 (by decide) (by decide) (nn hno hF)) (kd_Row_stretchIs T) (ki_Row T) (km_SF_85 T) (ka_Row_stretchIs T) (ks_Row_stretchIs T) ⟨by decide, by decide, by rfl⟩ (rv_Row hK hw (i := 2) (by decide) rfl) rfl (Nat.le_of_ble_eq_true rfl) ⟨by decide, by decide⟩ ⟨by decide, by decide⟩ d_SF_declaresFixed_40 (fun v M7 r7 H locs hw hp => ?_) (fun x ek M7 r7 H locs hw hE hp => gr_t B hexc hw hE (by decide) (by decide) (hF.trans (bnd_ex hp)))
    obtain ⟨v7, rfl, hp⟩ := hp
    have hF := hF.trans (bnd_ok hp)
    refine lv_if_eq hx hb d_SF_declaresFixed_43 rfl (fun h8 => ?_) (fun h8 => ?_)
    · skip
      have hF := hF.trans (if_pos h8)
      refine lv_iconst (v := 0) hx hb d_SF_declaresFixed_50 (by decide) ?_
      exact gr_z B hw (by rfl) d_SF_declaresFixed_51 ⟨_, rfl, hF⟩
    · skip
      have hF := hF.trans (if_neg h8)
      refine lv_iconst (v := 1) hx hb d_SF_declaresFixed_46 (by decide) ?_
      refine lv_goto hx hb d_SF_declaresFixed_47 rfl ?_
      exact gr_z B hw (by rfl) d_SF_declaresFixed_51 ⟨_, rfl, hF⟩
theorem d_SF_firstWrongDeclaration_0 : decode b_SF_firstWrongDeclaration 0 = .ok (.iconst 0, 1) := by decide +kernel
theorem d_SF_firstWrongDeclaration_1 : decode b_SF_firstWrongDeclaration 1 = .ok (.istore_n 2, 1) := by decide +kernel
theorem d_SF_firstWrongDeclaration_2 : decode b_SF_firstWrongDeclaration 2 = .ok (.iload_n 2, 1) := by decide +kernel
theorem d_SF_firstWrongDeclaration_3 : decode b_SF_firstWrongDeclaration 3 = .ok (.aload_n 1, 1) := by decide +kernel
theorem d_SF_firstWrongDeclaration_4 : decode b_SF_firstWrongDeclaration 4 = .ok (.getfield 41, 3) := by decide +kernel
theorem d_SF_firstWrongDeclaration_7 : decode b_SF_firstWrongDeclaration 7 = .ok (.if_icmp .ge 59, 3) := by decide +kernel
theorem d_SF_firstWrongDeclaration_10 : decode b_SF_firstWrongDeclaration 10 = .ok (.aload_n 1, 1) := by decide +kernel
theorem d_SF_firstWrongDeclaration_11 : decode b_SF_firstWrongDeclaration 11 = .ok (.getfield 44, 3) := by decide +kernel
theorem d_SF_firstWrongDeclaration_14 : decode b_SF_firstWrongDeclaration 14 = .ok (.iload_n 2, 1) := by decide +kernel
theorem d_SF_firstWrongDeclaration_15 : decode b_SF_firstWrongDeclaration 15 = .ok (.aaload, 1) := by decide +kernel
theorem d_SF_firstWrongDeclaration_16 : decode b_SF_firstWrongDeclaration 16 = .ok (.astore_n 3, 1) := by decide +kernel
theorem d_SF_firstWrongDeclaration_17 : decode b_SF_firstWrongDeclaration 17 = .ok (.aload_n 3, 1) := by decide +kernel
theorem d_SF_firstWrongDeclaration_18 : decode b_SF_firstWrongDeclaration 18 = .ok (.getfield 62, 3) := by decide +kernel
theorem d_SF_firstWrongDeclaration_21 : decode b_SF_firstWrongDeclaration 21 = .ok (.ifCond .eq 39, 3) := by decide +kernel
theorem d_SF_firstWrongDeclaration_24 : decode b_SF_firstWrongDeclaration 24 = .ok (.aload_n 3, 1) := by decide +kernel
theorem d_SF_firstWrongDeclaration_25 : decode b_SF_firstWrongDeclaration 25 = .ok (.getfield 48, 3) := by decide +kernel
theorem d_SF_firstWrongDeclaration_28 : decode b_SF_firstWrongDeclaration 28 = .ok (.invokevirtual 51, 3) := by decide +kernel
theorem d_SF_firstWrongDeclaration_31 : decode b_SF_firstWrongDeclaration 31 = .ok (.ifCond .eq 29, 3) := by decide +kernel
theorem d_SF_firstWrongDeclaration_34 : decode b_SF_firstWrongDeclaration 34 = .ok (.aload_n 3, 1) := by decide +kernel
theorem d_SF_firstWrongDeclaration_35 : decode b_SF_firstWrongDeclaration 35 = .ok (.invokevirtual 66, 3) := by decide +kernel
theorem d_SF_firstWrongDeclaration_38 : decode b_SF_firstWrongDeclaration 38 = .ok (.ifCond .eq 14, 3) := by decide +kernel
theorem d_SF_firstWrongDeclaration_41 : decode b_SF_firstWrongDeclaration 41 = .ok (.aload_n 0, 1) := by decide +kernel
theorem d_SF_firstWrongDeclaration_42 : decode b_SF_firstWrongDeclaration 42 = .ok (.aload_n 3, 1) := by decide +kernel
theorem d_SF_firstWrongDeclaration_43 : decode b_SF_firstWrongDeclaration 43 = .ok (.getfield 48, 3) := by decide +kernel
theorem d_SF_firstWrongDeclaration_46 : decode b_SF_firstWrongDeclaration 46 = .ok (.invokevirtual 69, 3) := by decide +kernel
theorem d_SF_firstWrongDeclaration_49 : decode b_SF_firstWrongDeclaration 49 = .ok (.ifCond .eq 11, 3) := by decide +kernel
theorem d_SF_firstWrongDeclaration_52 : decode b_SF_firstWrongDeclaration 52 = .ok (.aload_n 3, 1) := by decide +kernel
theorem d_SF_firstWrongDeclaration_53 : decode b_SF_firstWrongDeclaration 53 = .ok (.getfield 48, 3) := by decide +kernel
theorem d_SF_firstWrongDeclaration_56 : decode b_SF_firstWrongDeclaration 56 = .ok (.getfield 21, 3) := by decide +kernel
theorem d_SF_firstWrongDeclaration_59 : decode b_SF_firstWrongDeclaration 59 = .ok (.ireturn, 1) := by decide +kernel
theorem d_SF_firstWrongDeclaration_60 : decode b_SF_firstWrongDeclaration 60 = .ok (.iinc 2 1, 3) := by decide +kernel
theorem d_SF_firstWrongDeclaration_63 : decode b_SF_firstWrongDeclaration 63 = .ok (.goto (-61), 3) := by decide +kernel
theorem d_SF_firstWrongDeclaration_66 : decode b_SF_firstWrongDeclaration 66 = .ok (.iconst (-1), 1) := by decide +kernel
theorem d_SF_firstWrongDeclaration_67 : decode b_SF_firstWrongDeclaration 67 = .ok (.ireturn, 1) := by decide +kernel
set_option maxHeartbeats 4000000 in
set_option maxRecDepth 100000 in
theorem t_SF_firstWrongDeclaration {l : Launch} {s0 : State} {D : va_G} {aC : Nat → ClassId} {a0 : Array Value} (G : gG l s0 D aC a0) (M : gMem) (r : gRef) (ow : Int64) (fu : Nat) (k1 : Nat) (b1 : k1 < 24) (hno : F_SF_firstWrongDeclaration fu k1 M r ≠ .no) : gMet l s0 D aC y_SF_firstWrongDeclaration (Cond.code y_SF_firstWrongDeclaration b_SF_firstWrongDeclaration 4 (some .int)) 7 187 0 0 [.ref (s0.heap.size + 382), .ref (s0.heap.size + oEl k1)] M r ow (qI (F_SF_firstWrongDeclaration fu k1 M r)) (qT (F_SF_firstWrongDeclaration fu k1 M r)) := by
  refine gm_of G (by decide) (Nat.le_of_ble_eq_true rfl) ?_
  intro p e s m below meth c ls B hexc hl hw
  have hx := B.1
  have hb := B.2.1
  have hown := B.2.2.2.2.2.1
  have T := B.2.2.2.2.2.2.1
  have hK := B.2.2.2.2.2.2.2.1
  have X66 : ∀ (M1 : gMem) (r1 : gRef) (H : Heap) (locs : List Loc) (ls : Array Slot), lv_has ls 4 [] → gWd s0 D aC M1 r1 ow H locs → F_SF_firstWrongDeclaration fu k1 M r = F_SF_firstWrongDeclaration_B66 fu k1 M1 r1 → W p l e (gRm 7 187 0 0) s m ([.ref (s0.heap.size + 382), .ref (s0.heap.size + oEl k1)] : List Value).toArray below meth c H locs 0 0 (gt_Q below (gQ s0 D aC ow (qI (F_SF_firstWrongDeclaration fu k1 M r)) (qT (F_SF_firstWrongDeclaration fu k1 M r))) s 0 0 0 0 (fun q => s0.heap.size ≤ q)) (F0 m 66 ls []) := by
    intro  M1 r1 H locs ls hl hw hF
    have hF := hF.trans (F_SF_firstWrongDeclaration_B66.eq_1 _ _ _ _)
    refine lv_iconst (v := -1) hx hb d_SF_firstWrongDeclaration_66 (by decide) ?_
    exact gr_i B hw d_SF_firstWrongDeclaration_67 ⟨_, rfl, hF⟩
  have L2 : ∀ (d : Nat) (x2 : Int32) (M1 : gMem) (r1 : gRef) (H : Heap) (locs : List Loc) (ls : Array Slot), lv_has ls 4 [(2, .int x2), (0, .ref (s0.heap.size + 382)), (1, .ref (s0.heap.size + oEl k1))] → gWd s0 D aC M1 r1 ow H locs → F_SF_firstWrongDeclaration fu k1 M r = F_SF_firstWrongDeclaration_L2 fu k1 d x2 M1 r1 → W p l e (gRm 7 187 0 0) s m ([.ref (s0.heap.size + 382), .ref (s0.heap.size + oEl k1)] : List Value).toArray below meth c H locs 0 0 (gt_Q below (gQ s0 D aC ow (qI (F_SF_firstWrongDeclaration fu k1 M r)) (qT (F_SF_firstWrongDeclaration fu k1 M r))) s 0 0 0 0 (fun q => s0.heap.size ≤ q)) (F0 m 2 ls []) := by
    intro d
    induction d with
    | zero => intro x2 M1 r1 H locs ls hl hw hF; exact absurd hF hno
    | succ d ih =>
      intro x2 M1 r1 H locs ls hl hw hF
      have hF := hF.trans (F_SF_firstWrongDeclaration_L2.eq_2 _ _ _ _ _ _)
      refine lv_iload_n hx hb d_SF_firstWrongDeclaration_2 rfl (lv_at hl 0 rfl) ?_
      refine lv_aload_n hx hb d_SF_firstWrongDeclaration_3 rfl (lv_at hl 2 rfl) ?_
      refine gf_El_attributeCount hx hb T hown hK hw (i := k1) b1 rfl (kf_SF_41 T) d_SF_firstWrongDeclaration_4 ?_
      refine lv_icmp_ge hx hb d_SF_firstWrongDeclaration_7 rfl (fun h14 => ?_) (fun h14 => ?_)
      · skip
        have hF := hF.trans (if_pos h14)
        exact X66  _ _ _ _ _ (gv_loc hl [] rfl) hw hF
      · skip
        have hF := hF.trans (if_neg h14)
        refine lv_aload_n hx hb d_SF_firstWrongDeclaration_10 rfl (lv_at hl 2 rfl) ?_
        refine gf_El_attributes hx hb T hown hK hw (i := k1) b1 rfl (kf_SF_44 T) d_SF_firstWrongDeclaration_11 ?_
        refine lv_iload_n hx hb d_SF_firstWrongDeclaration_14 rfl (lv_at hl 0 rfl) ?_
        have g15 := ng hno hF
        have hF := hF.trans (gd_yes g15)
        refine ga_as hx hb hK hw (i := k1) b1 rfl g15 d_SF_firstWrongDeclaration_15 ?_
        have b115 : 6 * k1 + x2.toNatClampNeg < 145 := by have := vin_lt g15; have := b1; omega
        refine lv_astore_n hx hb d_SF_firstWrongDeclaration_16 rfl hl (by decide) rfl (fun ls hl => ?_)
        refine lv_aload_n hx hb d_SF_firstWrongDeclaration_17 rfl (lv_at hl 0 rfl) ?_
        refine gf_At_isDeclaration hx hb T hown hK hw (i := (6 * k1 + x2.toNatClampNeg)) b115 rfl (kf_SF_62 T) d_SF_firstWrongDeclaration_18 ?_
        refine lv_if_eq hx hb d_SF_firstWrongDeclaration_21 rfl (fun h16 => ?_) (fun h16 => ?_)
        · skip
          have hF := hF.trans (if_pos h16)
          refine lv_iinc (k := 1) hx hb d_SF_firstWrongDeclaration_60 hl rfl (show _ + Int32.ofInt 1 = _ + 1 from rfl) (by decide) rfl (fun ls hl => ?_)
          refine lv_goto hx hb d_SF_firstWrongDeclaration_63 rfl ?_
          exact ih (x2 + 1) _ _ _ _ _ (gv_loc hl [0, 2, 3] rfl) hw hF
        · skip
          have hF := hF.trans (if_neg h16)
          refine lv_aload_n hx hb d_SF_firstWrongDeclaration_24 rfl (lv_at hl 0 rfl) ?_
          refine gf_At_name hx hb T hown hK hw (i := (6 * k1 + x2.toNatClampNeg)) b115 rfl (kf_SF_48 T) d_SF_firstWrongDeclaration_25 ?_
          have n17 : 6 * k1 + x2.toNatClampNeg < 170 := Nat.lt_trans b115 (by decide)
          refine gy_V B hl.1 hw (t_Nm_hasPrefix G _ _ ow fu (6 * k1 + x2.toNatClampNeg) n17 (nn hno hF)) (kd_Nm_hasPrefix T) (ki_Nm T) (km_SF_51 T) (ka_Nm_hasPrefix T) (ks_Nm_hasPrefix T) ⟨by decide, by decide, by rfl⟩ (rv_Nm hK hw (i := (6 * k1 + x2.toNatClampNeg)) n17 rfl) rfl (Nat.le_of_ble_eq_true rfl) ⟨by decide, by decide⟩ ⟨by decide, by decide⟩ d_SF_firstWrongDeclaration_28 (fun v M18 r18 H locs hw hp => ?_) (fun x ek M18 r18 H locs hw hE hp => gr_t B hexc hw hE (by decide) (by decide) (hF.trans (bnd_ex hp)))
          obtain ⟨v18, rfl, hp⟩ := hp
          have hF := hF.trans (bnd_ok hp)
          refine lv_if_eq hx hb d_SF_firstWrongDeclaration_31 rfl (fun h19 => ?_) (fun h19 => ?_)
          · skip
            have hF := hF.trans (if_pos h19)
            refine lv_iinc (k := 1) hx hb d_SF_firstWrongDeclaration_60 hl rfl (show _ + Int32.ofInt 1 = _ + 1 from rfl) (by decide) rfl (fun ls hl => ?_)
            refine lv_goto hx hb d_SF_firstWrongDeclaration_63 rfl ?_
            exact ih (x2 + 1) _ _ _ _ _ (gv_loc hl [0, 2, 3] rfl) hw hF
          · skip
            have hF := hF.trans (if_neg h19)
            refine lv_aload_n hx hb d_SF_firstWrongDeclaration_34 rfl (lv_at hl 0 rfl) ?_
            refine gy_V B hl.1 hw (t_At_valueLength G _ _ ow fu (6 * k1 + x2.toNatClampNeg) b115 (nn hno hF)) (kd_At_valueLength T) (ki_At T) (km_SF_66 T) (ka_At_valueLength T) (ks_At_valueLength T) ⟨by decide, by decide, by rfl⟩ (rv_At hK hw (i := (6 * k1 + x2.toNatClampNeg)) b115 rfl) rfl (Nat.le_of_ble_eq_true rfl) ⟨by decide, by decide⟩ ⟨by decide, by decide⟩ d_SF_firstWrongDeclaration_35 (fun v M20 r20 H locs hw hp => ?_) (fun x ek M20 r20 H locs hw hE hp => gr_t B hexc hw hE (by decide) (by decide) (hF.trans (bnd_ex hp)))
            obtain ⟨v20, rfl, hp⟩ := hp
            have hF := hF.trans (bnd_ok hp)
            refine lv_if_eq hx hb d_SF_firstWrongDeclaration_38 rfl (fun h21 => ?_) (fun h21 => ?_)
            · skip
              have hF := hF.trans (if_pos h21)
              refine lv_aload_n hx hb d_SF_firstWrongDeclaration_52 rfl (lv_at hl 0 rfl) ?_
              refine gf_At_name hx hb T hown hK hw (i := (6 * k1 + x2.toNatClampNeg)) b115 rfl (kf_SF_48 T) d_SF_firstWrongDeclaration_53 ?_
              have n22 : 6 * k1 + x2.toNatClampNeg < 170 := Nat.lt_trans b115 (by decide)
              refine gf_Nm_start hx hb T hown hK hw (i := (6 * k1 + x2.toNatClampNeg)) n22 rfl (kf_SF_21 T) d_SF_firstWrongDeclaration_56 ?_
              exact gr_i B hw d_SF_firstWrongDeclaration_59 ⟨_, rfl, hF⟩
            · skip
              have hF := hF.trans (if_neg h21)
              refine lv_aload_n hx hb d_SF_firstWrongDeclaration_41 rfl (lv_at hl 2 rfl) ?_
              refine lv_aload_n hx hb d_SF_firstWrongDeclaration_42 rfl (lv_at hl 0 rfl) ?_
              refine gf_At_name hx hb T hown hK hw (i := (6 * k1 + x2.toNatClampNeg)) b115 rfl (kf_SF_48 T) d_SF_firstWrongDeclaration_43 ?_
              have n23 : 6 * k1 + x2.toNatClampNeg < 170 := Nat.lt_trans b115 (by decide)
              refine gy_V B hl.1 hw (t_SF_declaresFixed G _ _ ow fu (6 * k1 + x2.toNatClampNeg) n23 (nn hno hF)) (kd_SF_declaresFixed T) (ki_SF T) (km_SF_69 T) (ka_SF_declaresFixed T) (ks_SF_declaresFixed T) ⟨by decide, by decide, by rfl⟩ (rv_SF hK hw rfl) rfl (Nat.le_of_ble_eq_true rfl) ⟨by decide, by decide⟩ ⟨by decide, by decide⟩ d_SF_firstWrongDeclaration_46 (fun v M24 r24 H locs hw hp => ?_) (fun x ek M24 r24 H locs hw hE hp => gr_t B hexc hw hE (by decide) (by decide) (hF.trans (bnd_ex hp)))
              obtain ⟨v24, rfl, hp⟩ := hp
              have hF := hF.trans (bnd_ok hp)
              refine lv_if_eq hx hb d_SF_firstWrongDeclaration_49 rfl (fun h25 => ?_) (fun h25 => ?_)
              · skip
                have hF := hF.trans (if_pos h25)
                refine lv_iinc (k := 1) hx hb d_SF_firstWrongDeclaration_60 hl rfl (show _ + Int32.ofInt 1 = _ + 1 from rfl) (by decide) rfl (fun ls hl => ?_)
                refine lv_goto hx hb d_SF_firstWrongDeclaration_63 rfl ?_
                exact ih (x2 + 1) _ _ _ _ _ (gv_loc hl [0, 2, 3] rfl) hw hF
              · skip
                have hF := hF.trans (if_neg h25)
                refine lv_aload_n hx hb d_SF_firstWrongDeclaration_52 rfl (lv_at hl 0 rfl) ?_
                refine gf_At_name hx hb T hown hK hw (i := (6 * k1 + x2.toNatClampNeg)) b115 rfl (kf_SF_48 T) d_SF_firstWrongDeclaration_53 ?_
                have n26 : 6 * k1 + x2.toNatClampNeg < 170 := Nat.lt_trans b115 (by decide)
                refine gf_Nm_start hx hb T hown hK hw (i := (6 * k1 + x2.toNatClampNeg)) n26 rfl (kf_SF_21 T) d_SF_firstWrongDeclaration_56 ?_
                exact gr_i B hw d_SF_firstWrongDeclaration_59 ⟨_, rfl, hF⟩
  have hF := F_SF_firstWrongDeclaration.eq_1 fu k1 M r
  refine lv_iconst (v := 0) hx hb d_SF_firstWrongDeclaration_0 (by decide) ?_
  refine lv_istore_n hx hb d_SF_firstWrongDeclaration_1 rfl hl (by decide) rfl (fun ls hl => ?_)
  exact L2 fu 0 _ _ _ _ _ (gv_loc hl [0, 1, 2] rfl) hw hF
