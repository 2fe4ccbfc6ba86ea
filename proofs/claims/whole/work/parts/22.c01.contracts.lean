/-! The contracts of the methods that reach strings -/
theorem d_Row_putText_0 : decode b_Row_putText 0 = .ok (.iconst 0, 1) := by decide +kernel
theorem d_Row_putText_1 : decode b_Row_putText 1 = .ok (.istore_n 2, 1) := by decide +kernel
theorem d_Row_putText_2 : decode b_Row_putText 2 = .ok (.iload_n 2, 1) := by decide +kernel
theorem d_Row_putText_3 : decode b_Row_putText 3 = .ok (.aload_n 1, 1) := by decide +kernel
theorem d_Row_putText_4 : decode b_Row_putText 4 = .ok (.invokevirtual 19, 3) := by decide +kernel
theorem d_Row_putText_7 : decode b_Row_putText 7 = .ok (.if_icmp .ge 18, 3) := by decide +kernel
theorem d_Row_putText_10 : decode b_Row_putText 10 = .ok (.aload_n 0, 1) := by decide +kernel
theorem d_Row_putText_11 : decode b_Row_putText 11 = .ok (.aload_n 1, 1) := by decide +kernel
theorem d_Row_putText_12 : decode b_Row_putText 12 = .ok (.iload_n 2, 1) := by decide +kernel
theorem d_Row_putText_13 : decode b_Row_putText 13 = .ok (.invokevirtual 25, 3) := by decide +kernel
theorem d_Row_putText_16 : decode b_Row_putText 16 = .ok (.invokevirtual 29, 3) := by decide +kernel
theorem d_Row_putText_19 : decode b_Row_putText 19 = .ok (.iinc 2 1, 3) := by decide +kernel
theorem d_Row_putText_22 : decode b_Row_putText 22 = .ok (.goto (-20), 3) := by decide +kernel
theorem d_Row_putText_25 : decode b_Row_putText 25 = .ok (.return_, 1) := by decide +kernel
set_option maxHeartbeats 4000000 in
set_option maxRecDepth 100000 in
theorem t_Row_putText {l : Launch} {s0 : State} {D : va_G} {aC : Nat → ClassId} {a0 : Array Value} (G : gG l s0 D aC a0) (M : gMem) (r : gRef) (ow : Int64) (fu : Nat) (k0 : Nat) (q1 : Nat) (b0 : k0 < 6) (b1 : q1 < gSn) (hno : F_Row_putText fu k0 q1 M r ≠ .no) : gMet l s0 D aC y_Row_putText (Cond.code y_Row_putText b_Row_putText 3 none) 5 142 0 0 [.ref (s0.heap.size + oRow k0), .ref (gSa s0 q1)] M r ow (qV (F_Row_putText fu k0 q1 M r)) (qT (F_Row_putText fu k0 q1 M r)) := by
  refine gm_of G (by decide) (Nat.le_of_ble_eq_true rfl) ?_
  intro p e s m below meth c ls B hexc hl hw
  have hx := B.1
  have hb := B.2.1
  have hown := B.2.2.2.2.2.1
  have T := B.2.2.2.2.2.2.1
  have hK := B.2.2.2.2.2.2.2.1
  have X25 : ∀ (M1 : gMem) (r1 : gRef) (H : Heap) (locs : List Loc) (ls : Array Slot), lv_has ls 3 [] → gWd s0 D aC M1 r1 ow H locs → F_Row_putText fu k0 q1 M r = F_Row_putText_B25 fu k0 q1 M1 r1 → W p l e (gRm 5 142 0 0) s m ([.ref (s0.heap.size + oRow k0), .ref (gSa s0 q1)] : List Value).toArray below meth c H locs 0 0 (gt_Q below (gQ s0 D aC ow (qV (F_Row_putText fu k0 q1 M r)) (qT (F_Row_putText fu k0 q1 M r))) s 0 0 0 0 (fun q => s0.heap.size ≤ q)) (F0 m 25 ls []) := by
    intro  M1 r1 H locs ls hl hw hF
    have hF := hF.trans (F_Row_putText_B25.eq_1 _ _ _ _ _)
    exact gr_v B hw d_Row_putText_25 ⟨rfl, hF⟩
  have L2 : ∀ (d : Nat) (x2 : Int32) (M1 : gMem) (r1 : gRef) (H : Heap) (locs : List Loc) (ls : Array Slot), lv_has ls 3 [(2, .int x2), (0, .ref (s0.heap.size + oRow k0)), (1, .ref (gSa s0 q1))] → gWd s0 D aC M1 r1 ow H locs → F_Row_putText fu k0 q1 M r = F_Row_putText_L2 fu k0 q1 d x2 M1 r1 → W p l e (gRm 5 142 0 0) s m ([.ref (s0.heap.size + oRow k0), .ref (gSa s0 q1)] : List Value).toArray below meth c H locs 0 0 (gt_Q below (gQ s0 D aC ow (qV (F_Row_putText fu k0 q1 M r)) (qT (F_Row_putText fu k0 q1 M r))) s 0 0 0 0 (fun q => s0.heap.size ≤ q)) (F0 m 2 ls []) := by
    intro d
    induction d with
    | zero => intro x2 M1 r1 H locs ls hl hw hF; exact absurd hF hno
    | succ d ih =>
      intro x2 M1 r1 H locs ls hl hw hF
      have hF := hF.trans (F_Row_putText_L2.eq_2 _ _ _ _ _ _ _)
      refine lv_iload_n hx hb d_Row_putText_2 rfl (lv_at hl 0 rfl) ?_
      refine lv_aload_n hx hb d_Row_putText_3 rfl (lv_at hl 2 rfl) ?_
      refine gy_V B hl.1 hw (t_St_length G _ _ ow fu q1 b1 (nn hno hF)) (kd_St_length T) (ki_St T) (km_Row_19 T) (ka_St_length T) (ks_St_length T) ⟨by decide, by decide, by rfl⟩ (rv_St G B hw b1) rfl (Nat.le_of_ble_eq_true rfl) ⟨by decide, by decide⟩ ⟨by decide, by decide⟩ d_Row_putText_4 (fun v M5 r5 H locs hw hp => ?_) (fun x ek M5 r5 H locs hw hE hp => gr_t B hexc hw hE (by decide) (by decide) (hF.trans (bnd_ex hp)))
      obtain ⟨v5, rfl, hp⟩ := hp
      have hF := hF.trans (bnd_ok hp)
      refine lv_icmp_ge hx hb d_Row_putText_7 rfl (fun h6 => ?_) (fun h6 => ?_)
      · skip
        have hF := hF.trans (if_pos h6)
        exact X25  _ _ _ _ _ (gv_loc hl [] rfl) hw hF
      · skip
        have hF := hF.trans (if_neg h6)
        refine lv_aload_n hx hb d_Row_putText_10 rfl (lv_at hl 1 rfl) ?_
        refine lv_aload_n hx hb d_Row_putText_11 rfl (lv_at hl 2 rfl) ?_
        refine lv_iload_n hx hb d_Row_putText_12 rfl (lv_at hl 0 rfl) ?_
        refine gy_V B hl.1 hw (t_St_charAt G _ _ ow fu q1 x2 b1 (nn hno hF)) (kd_St_charAt T) (ki_St T) (km_Row_25 T) (ka_St_charAt T) (ks_St_charAt T) ⟨by decide, by decide, by rfl⟩ (rv_St G B hw b1) rfl (Nat.le_of_ble_eq_true rfl) ⟨by decide, by decide⟩ ⟨by decide, by decide⟩ d_Row_putText_13 (fun v M7 r7 H locs hw hp => ?_) (fun x ek M7 r7 H locs hw hE hp => gr_t B hexc hw hE (by decide) (by decide) (hF.trans (bnd_ex hp)))
        obtain ⟨v7, rfl, hp⟩ := hp
        have hF := hF.trans (bnd_ok hp)
        refine gy_V B hl.1 hw (t_Row_put G _ _ ow fu k0 v7 b0 (nn hno hF)) (kd_Row_put T) (ki_Row T) (km_Row_29 T) (ka_Row_put T) (ks_Row_put T) ⟨by decide, by decide, by rfl⟩ (rv_Row hK hw (i := k0) b0 rfl) rfl (Nat.le_of_ble_eq_true rfl) ⟨by decide, by decide⟩ ⟨by decide, by decide⟩ d_Row_putText_16 (fun v M8 r8 H locs hw hp => ?_) (fun x ek M8 r8 H locs hw hE hp => gr_t B hexc hw hE (by decide) (by decide) (hF.trans (bnd_ex hp)))
        obtain ⟨rfl, hp⟩ := hp
        have hF := hF.trans (bnd_ok hp)
        refine lv_iinc (k := 0) hx hb d_Row_putText_19 hl rfl (show _ + Int32.ofInt 1 = _ + 1 from rfl) (by decide) rfl (fun ls hl => ?_)
        refine lv_goto hx hb d_Row_putText_22 rfl ?_
        exact ih (x2 + 1) _ _ _ _ _ (gv_loc hl [0, 1, 2] rfl) hw hF
  have hF := F_Row_putText.eq_1 fu k0 q1 M r
  refine lv_iconst (v := 0) hx hb d_Row_putText_0 (by decide) ?_
  refine lv_istore_n hx hb d_Row_putText_1 rfl hl (by decide) rfl (fun ls hl => ?_)
  exact L2 fu 0 _ _ _ _ _ (gv_loc hl [0, 1, 2] rfl) hw hF
theorem d_FW_putInValue_0 : decode b_FW_putInValue 0 = .ok (.iload_n 1, 1) := by decide +kernel
theorem d_FW_putInValue_1 : decode b_FW_putInValue 1 = .ok (.bipush 38, 2) := by decide +kernel
theorem d_FW_putInValue_3 : decode b_FW_putInValue 3 = .ok (.if_icmp .ne 15, 3) := by decide +kernel
theorem d_FW_putInValue_6 : decode b_FW_putInValue 6 = .ok (.aload_n 0, 1) := by decide +kernel
theorem d_FW_putInValue_7 : decode b_FW_putInValue 7 = .ok (.getfield 14, 3) := by decide +kernel
theorem d_FW_putInValue_10 : decode b_FW_putInValue 10 = .ok (.ldc 75, 2) := by decide +kernel
theorem d_FW_putInValue_12 : decode b_FW_putInValue 12 = .ok (.invokevirtual 71, 3) := by decide +kernel
theorem d_FW_putInValue_15 : decode b_FW_putInValue 15 = .ok (.goto 65, 3) := by decide +kernel
theorem d_FW_putInValue_18 : decode b_FW_putInValue 18 = .ok (.iload_n 1, 1) := by decide +kernel
theorem d_FW_putInValue_19 : decode b_FW_putInValue 19 = .ok (.bipush 60, 2) := by decide +kernel
theorem d_FW_putInValue_21 : decode b_FW_putInValue 21 = .ok (.if_icmp .ne 15, 3) := by decide +kernel
theorem d_FW_putInValue_24 : decode b_FW_putInValue 24 = .ok (.aload_n 0, 1) := by decide +kernel
theorem d_FW_putInValue_25 : decode b_FW_putInValue 25 = .ok (.getfield 14, 3) := by decide +kernel
theorem d_FW_putInValue_28 : decode b_FW_putInValue 28 = .ok (.ldc 77, 2) := by decide +kernel
theorem d_FW_putInValue_30 : decode b_FW_putInValue 30 = .ok (.invokevirtual 71, 3) := by decide +kernel
theorem d_FW_putInValue_33 : decode b_FW_putInValue 33 = .ok (.goto 47, 3) := by decide +kernel
theorem d_FW_putInValue_36 : decode b_FW_putInValue 36 = .ok (.iload_n 1, 1) := by decide +kernel
theorem d_FW_putInValue_37 : decode b_FW_putInValue 37 = .ok (.bipush 34, 2) := by decide +kernel
theorem d_FW_putInValue_39 : decode b_FW_putInValue 39 = .ok (.if_icmp .ne 15, 3) := by decide +kernel
theorem d_FW_putInValue_42 : decode b_FW_putInValue 42 = .ok (.aload_n 0, 1) := by decide +kernel
theorem d_FW_putInValue_43 : decode b_FW_putInValue 43 = .ok (.getfield 14, 3) := by decide +kernel
theorem d_FW_putInValue_46 : decode b_FW_putInValue 46 = .ok (.ldc 143, 2) := by decide +kernel
theorem d_FW_putInValue_48 : decode b_FW_putInValue 48 = .ok (.invokevirtual 71, 3) := by decide +kernel
theorem d_FW_putInValue_51 : decode b_FW_putInValue 51 = .ok (.goto 29, 3) := by decide +kernel
theorem d_FW_putInValue_54 : decode b_FW_putInValue 54 = .ok (.iload_n 1, 1) := by decide +kernel
theorem d_FW_putInValue_55 : decode b_FW_putInValue 55 = .ok (.bipush 10, 2) := by decide +kernel
theorem d_FW_putInValue_57 : decode b_FW_putInValue 57 = .ok (.if_icmp .ne 15, 3) := by decide +kernel
theorem d_FW_putInValue_60 : decode b_FW_putInValue 60 = .ok (.aload_n 0, 1) := by decide +kernel
theorem d_FW_putInValue_61 : decode b_FW_putInValue 61 = .ok (.getfield 14, 3) := by decide +kernel
theorem d_FW_putInValue_64 : decode b_FW_putInValue 64 = .ok (.ldc 145, 2) := by decide +kernel
theorem d_FW_putInValue_66 : decode b_FW_putInValue 66 = .ok (.invokevirtual 71, 3) := by decide +kernel
theorem d_FW_putInValue_69 : decode b_FW_putInValue 69 = .ok (.goto 11, 3) := by decide +kernel
theorem d_FW_putInValue_72 : decode b_FW_putInValue 72 = .ok (.aload_n 0, 1) := by decide +kernel
theorem d_FW_putInValue_73 : decode b_FW_putInValue 73 = .ok (.getfield 14, 3) := by decide +kernel
theorem d_FW_putInValue_76 : decode b_FW_putInValue 76 = .ok (.iload_n 1, 1) := by decide +kernel
theorem d_FW_putInValue_77 : decode b_FW_putInValue 77 = .ok (.invokevirtual 54, 3) := by decide +kernel
theorem d_FW_putInValue_80 : decode b_FW_putInValue 80 = .ok (.return_, 1) := by decide +kernel
set_option maxHeartbeats 4000000 in
set_option maxRecDepth 100000 in
theorem t_FW_putInValue {l : Launch} {s0 : State} {D : va_G} {aC : Nat → ClassId} {a0 : Array Value} (G : gG l s0 D aC a0) (M : gMem) (r : gRef) (ow : Int64) (fu : Nat) (x1 : Int32)  (hno : F_FW_putInValue fu x1 M r ≠ .no) : gMet l s0 D aC y_FW_putInValue (Cond.code y_FW_putInValue b_FW_putInValue 2 none) 6 164 0 0 [.ref (s0.heap.size + 376), .int x1] M r ow (qV (F_FW_putInValue fu x1 M r)) (qT (F_FW_putInValue fu x1 M r)) := by
  refine gm_of G (by decide) (Nat.le_of_ble_eq_true rfl) ?_
  intro p e s m below meth c ls B hexc hl hw
  have hx := B.1
  have hb := B.2.1
  have hown := B.2.2.2.2.2.1
  have T := B.2.2.2.2.2.2.1
  have hK := B.2.2.2.2.2.2.2.1
  have hF := F_FW_putInValue.eq_1 fu x1 M r
  refine lv_iload_n hx hb d_FW_putInValue_0 rfl (lv_at hl 1 rfl) ?_
  refine lv_bipush (v := 38) hx hb d_FW_putInValue_1 (by decide) ?_
  refine lv_icmp_ne hx hb d_FW_putInValue_3 rfl (fun h10 => ?_) (fun h10 => ?_)
  · skip
    have hF := hF.trans (if_neg h10)
    refine lv_iload_n hx hb d_FW_putInValue_18 rfl (lv_at hl 1 rfl) ?_
    refine lv_bipush (v := 60) hx hb d_FW_putInValue_19 (by decide) ?_
    refine lv_icmp_ne hx hb d_FW_putInValue_21 rfl (fun h11 => ?_) (fun h11 => ?_)
    · skip
      have hF := hF.trans (if_neg h11)
      refine lv_iload_n hx hb d_FW_putInValue_36 rfl (lv_at hl 1 rfl) ?_
      refine lv_bipush (v := 34) hx hb d_FW_putInValue_37 (by decide) ?_
      refine lv_icmp_ne hx hb d_FW_putInValue_39 rfl (fun h12 => ?_) (fun h12 => ?_)
      · skip
        have hF := hF.trans (if_neg h12)
        refine lv_iload_n hx hb d_FW_putInValue_54 rfl (lv_at hl 1 rfl) ?_
        refine lv_bipush (v := 10) hx hb d_FW_putInValue_55 (by decide) ?_
        refine lv_icmp_ne hx hb d_FW_putInValue_57 rfl (fun h13 => ?_) (fun h13 => ?_)
        · skip
          have hF := hF.trans (if_neg h13)
          refine lv_aload_n hx hb d_FW_putInValue_72 rfl (lv_at hl 0 rfl) ?_
          refine gf_FW_form hx hb T hown hK hw rfl (kf_FW_14 T) d_FW_putInValue_73 ?_
          refine lv_iload_n hx hb d_FW_putInValue_76 rfl (lv_at hl 1 rfl) ?_
          refine gy_V B hl.1 hw (t_Row_put G _ _ ow fu 5 x1 (by decide) (nn hno hF)) (kd_Row_put T) (ki_Row T) (km_FW_54 T) (ka_Row_put T) (ks_Row_put T) ⟨by decide, by decide, by rfl⟩ (rv_Row hK hw (i := 5) (by decide) rfl) rfl (Nat.le_of_ble_eq_true rfl) ⟨by decide, by decide⟩ ⟨by decide, by decide⟩ d_FW_putInValue_77 (fun v M14 r14 H locs hw hp => ?_) (fun x ek M14 r14 H locs hw hE hp => gr_t B hexc hw hE (by decide) (by decide) (hF.trans (bnd_ex hp)))
          obtain ⟨rfl, hp⟩ := hp
          have hF := hF.trans (bnd_ok hp)
          exact gr_v B hw d_FW_putInValue_80 ⟨rfl, hF⟩
        · skip
          have hF := hF.trans (if_pos h13)
          refine lv_aload_n hx hb d_FW_putInValue_60 rfl (lv_at hl 0 rfl) ?_
          refine gf_FW_form hx hb T hown hK hw rfl (kf_FW_14 T) d_FW_putInValue_61 ?_
          refine gl_FW_145 B G d_FW_putInValue_64 ?_
          refine gy_V B hl.1 hw (t_Row_putText G _ _ ow fu 5 13 (by decide) (by decide) (nn hno hF)) (kd_Row_putText T) (ki_Row T) (km_FW_71 T) (ka_Row_putText T) (ks_Row_putText T) ⟨by decide, by decide, by rfl⟩ (rv_Row hK hw (i := 5) (by decide) rfl) rfl (Nat.le_of_ble_eq_true rfl) ⟨by decide, by decide⟩ ⟨by decide, by decide⟩ d_FW_putInValue_66 (fun v M15 r15 H locs hw hp => ?_) (fun x ek M15 r15 H locs hw hE hp => gr_t B hexc hw hE (by decide) (by decide) (hF.trans (bnd_ex hp)))
          obtain ⟨rfl, hp⟩ := hp
          have hF := hF.trans (bnd_ok hp)
          refine lv_goto hx hb d_FW_putInValue_69 rfl ?_
          exact gr_v B hw d_FW_putInValue_80 ⟨rfl, hF⟩
      · skip
        have hF := hF.trans (if_pos h12)
        refine lv_aload_n hx hb d_FW_putInValue_42 rfl (lv_at hl 0 rfl) ?_
        refine gf_FW_form hx hb T hown hK hw rfl (kf_FW_14 T) d_FW_putInValue_43 ?_
        refine gl_FW_143 B G d_FW_putInValue_46 ?_
        refine gy_V B hl.1 hw (t_Row_putText G _ _ ow fu 5 21 (by decide) (by decide) (nn hno hF)) (kd_Row_putText T) (ki_Row T) (km_FW_71 T) (ka_Row_putText T) (ks_Row_putText T) ⟨by decide, by decide, by rfl⟩ (rv_Row hK hw (i := 5) (by decide) rfl) rfl (Nat.le_of_ble_eq_true rfl) ⟨by decide, by decide⟩ ⟨by decide, by decide⟩ d_FW_putInValue_48 (fun v M16 r16 H locs hw hp => ?_) (fun x ek M16 r16 H locs hw hE hp => gr_t B hexc hw hE (by decide) (by decide) (hF.trans (bnd_ex hp)))
        obtain ⟨rfl, hp⟩ := hp
        have hF := hF.trans (bnd_ok hp)
        refine lv_goto hx hb d_FW_putInValue_51 rfl ?_
        exact gr_v B hw d_FW_putInValue_80 ⟨rfl, hF⟩
    · skip
      have hF := hF.trans (if_pos h11)
      refine lv_aload_n hx hb d_FW_putInValue_24 rfl (lv_at hl 0 rfl) ?_
      refine gf_FW_form hx hb T hown hK hw rfl (kf_FW_14 T) d_FW_putInValue_25 ?_
      refine gl_FW_77 B G d_FW_putInValue_28 ?_
      refine gy_V B hl.1 hw (t_Row_putText G _ _ ow fu 5 19 (by decide) (by decide) (nn hno hF)) (kd_Row_putText T) (ki_Row T) (km_FW_71 T) (ka_Row_putText T) (ks_Row_putText T) ⟨by decide, by decide, by rfl⟩ (rv_Row hK hw (i := 5) (by decide) rfl) rfl (Nat.le_of_ble_eq_true rfl) ⟨by decide, by decide⟩ ⟨by decide, by decide⟩ d_FW_putInValue_30 (fun v M17 r17 H locs hw hp => ?_) (fun x ek M17 r17 H locs hw hE hp => gr_t B hexc hw hE (by decide) (by decide) (hF.trans (bnd_ex hp)))
      obtain ⟨rfl, hp⟩ := hp
      have hF := hF.trans (bnd_ok hp)
      refine lv_goto hx hb d_FW_putInValue_33 rfl ?_
      exact gr_v B hw d_FW_putInValue_80 ⟨rfl, hF⟩
  · skip
    have hF := hF.trans (if_pos h10)
    refine lv_aload_n hx hb d_FW_putInValue_6 rfl (lv_at hl 0 rfl) ?_
    refine gf_FW_form hx hb T hown hK hw rfl (kf_FW_14 T) d_FW_putInValue_7 ?_
    refine gl_FW_75 B G d_FW_putInValue_10 ?_
    refine gy_V B hl.1 hw (t_Row_putText G _ _ ow fu 5 18 (by decide) (by decide) (nn hno hF)) (kd_Row_putText T) (ki_Row T) (km_FW_71 T) (ka_Row_putText T) (ks_Row_putText T) ⟨by decide, by decide, by rfl⟩ (rv_Row hK hw (i := 5) (by decide) rfl) rfl (Nat.le_of_ble_eq_true rfl) ⟨by decide, by decide⟩ ⟨by decide, by decide⟩ d_FW_putInValue_12 (fun v M18 r18 H locs hw hp => ?_) (fun x ek M18 r18 H locs hw hE hp => gr_t B hexc hw hE (by decide) (by decide) (hF.trans (bnd_ex hp)))
    obtain ⟨rfl, hp⟩ := hp
    have hF := hF.trans (bnd_ok hp)
    refine lv_goto hx hb d_FW_putInValue_15 rfl ?_
    exact gr_v B hw d_FW_putInValue_80 ⟨rfl, hF⟩
theorem d_FW_putAttribute_0 : decode b_FW_putAttribute 0 = .ok (.aload_n 0, 1) := by decide +kernel
theorem d_FW_putAttribute_1 : decode b_FW_putAttribute 1 = .ok (.getfield 14, 3) := by decide +kernel
theorem d_FW_putAttribute_4 : decode b_FW_putAttribute 4 = .ok (.bipush 32, 2) := by decide +kernel
theorem d_FW_putAttribute_6 : decode b_FW_putAttribute 6 = .ok (.invokevirtual 54, 3) := by decide +kernel
theorem d_FW_putAttribute_9 : decode b_FW_putAttribute 9 = .ok (.aload_n 0, 1) := by decide +kernel
theorem d_FW_putAttribute_10 : decode b_FW_putAttribute 10 = .ok (.aload_n 1, 1) := by decide +kernel
theorem d_FW_putAttribute_11 : decode b_FW_putAttribute 11 = .ok (.getfield 89, 3) := by decide +kernel
theorem d_FW_putAttribute_14 : decode b_FW_putAttribute 14 = .ok (.invokevirtual 62, 3) := by decide +kernel
theorem d_FW_putAttribute_17 : decode b_FW_putAttribute 17 = .ok (.aload_n 0, 1) := by decide +kernel
theorem d_FW_putAttribute_18 : decode b_FW_putAttribute 18 = .ok (.getfield 14, 3) := by decide +kernel
theorem d_FW_putAttribute_21 : decode b_FW_putAttribute 21 = .ok (.ldc 138, 2) := by decide +kernel
theorem d_FW_putAttribute_23 : decode b_FW_putAttribute 23 = .ok (.invokevirtual 71, 3) := by decide +kernel
theorem d_FW_putAttribute_26 : decode b_FW_putAttribute 26 = .ok (.aload_n 1, 1) := by decide +kernel
theorem d_FW_putAttribute_27 : decode b_FW_putAttribute 27 = .ok (.getfield 122, 3) := by decide +kernel
theorem d_FW_putAttribute_30 : decode b_FW_putAttribute 30 = .ok (.istore_n 2, 1) := by decide +kernel
theorem d_FW_putAttribute_31 : decode b_FW_putAttribute 31 = .ok (.iload_n 2, 1) := by decide +kernel
theorem d_FW_putAttribute_32 : decode b_FW_putAttribute 32 = .ok (.aload_n 1, 1) := by decide +kernel
theorem d_FW_putAttribute_33 : decode b_FW_putAttribute 33 = .ok (.getfield 125, 3) := by decide +kernel
theorem d_FW_putAttribute_36 : decode b_FW_putAttribute 36 = .ok (.if_icmp .ge 24, 3) := by decide +kernel
theorem d_FW_putAttribute_39 : decode b_FW_putAttribute 39 = .ok (.aload_n 0, 1) := by decide +kernel
theorem d_FW_putAttribute_40 : decode b_FW_putAttribute 40 = .ok (.aload_n 0, 1) := by decide +kernel
theorem d_FW_putAttribute_41 : decode b_FW_putAttribute 41 = .ok (.getfield 30, 3) := by decide +kernel
theorem d_FW_putAttribute_44 : decode b_FW_putAttribute 44 = .ok (.getfield 119, 3) := by decide +kernel
theorem d_FW_putAttribute_47 : decode b_FW_putAttribute 47 = .ok (.iload_n 2, 1) := by decide +kernel
theorem d_FW_putAttribute_48 : decode b_FW_putAttribute 48 = .ok (.invokevirtual 134, 3) := by decide +kernel
theorem d_FW_putAttribute_51 : decode b_FW_putAttribute 51 = .ok (.invokevirtual 140, 3) := by decide +kernel
theorem d_FW_putAttribute_54 : decode b_FW_putAttribute 54 = .ok (.iinc 2 1, 3) := by decide +kernel
theorem d_FW_putAttribute_57 : decode b_FW_putAttribute 57 = .ok (.goto (-26), 3) := by decide +kernel
theorem d_FW_putAttribute_60 : decode b_FW_putAttribute 60 = .ok (.aload_n 0, 1) := by decide +kernel
theorem d_FW_putAttribute_61 : decode b_FW_putAttribute 61 = .ok (.getfield 14, 3) := by decide +kernel
theorem d_FW_putAttribute_64 : decode b_FW_putAttribute 64 = .ok (.bipush 34, 2) := by decide +kernel
theorem d_FW_putAttribute_66 : decode b_FW_putAttribute 66 = .ok (.invokevirtual 54, 3) := by decide +kernel
theorem d_FW_putAttribute_69 : decode b_FW_putAttribute 69 = .ok (.return_, 1) := by decide +kernel
set_option maxHeartbeats 4000000 in
set_option maxRecDepth 100000 in
theorem t_FW_putAttribute {l : Launch} {s0 : State} {D : va_G} {aC : Nat → ClassId} {a0 : Array Value} (G : gG l s0 D aC a0) (M : gMem) (r : gRef) (ow : Int64) (fu : Nat) (k1 : Nat) (b1 : k1 < 145) (hno : F_FW_putAttribute fu k1 M r ≠ .no) : gMet l s0 D aC y_FW_putAttribute (Cond.code y_FW_putAttribute b_FW_putAttribute 3 none) 7 185 0 0 [.ref (s0.heap.size + 376), .ref (s0.heap.size + oAt k1)] M r ow (qV (F_FW_putAttribute fu k1 M r)) (qT (F_FW_putAttribute fu k1 M r)) := by
  refine gm_of G (by decide) (Nat.le_of_ble_eq_true rfl) ?_
  intro p e s m below meth c ls B hexc hl hw
  have hx := B.1
  have hb := B.2.1
  have hown := B.2.2.2.2.2.1
  have T := B.2.2.2.2.2.2.1
  have hK := B.2.2.2.2.2.2.2.1
  have X60 : ∀ (M1 : gMem) (r1 : gRef) (H : Heap) (locs : List Loc) (ls : Array Slot), lv_has ls 3 [(0, .ref (s0.heap.size + 376))] → gWd s0 D aC M1 r1 ow H locs → F_FW_putAttribute fu k1 M r = F_FW_putAttribute_B60 fu k1 M1 r1 → W p l e (gRm 7 185 0 0) s m ([.ref (s0.heap.size + 376), .ref (s0.heap.size + oAt k1)] : List Value).toArray below meth c H locs 0 0 (gt_Q below (gQ s0 D aC ow (qV (F_FW_putAttribute fu k1 M r)) (qT (F_FW_putAttribute fu k1 M r))) s 0 0 0 0 (fun q => s0.heap.size ≤ q)) (F0 m 60 ls []) := by
    intro  M1 r1 H locs ls hl hw hF
    have hF := hF.trans (F_FW_putAttribute_B60.eq_1 _ _ _ _)
    refine lv_aload_n hx hb d_FW_putAttribute_60 rfl (lv_at hl 0 rfl) ?_
    refine gf_FW_form hx hb T hown hK hw rfl (kf_FW_14 T) d_FW_putAttribute_61 ?_
    refine lv_bipush (v := 34) hx hb d_FW_putAttribute_64 (by decide) ?_
    refine gy_V B hl.1 hw (t_Row_put G _ _ ow fu 5 34 (by decide) (nn hno hF)) (kd_Row_put T) (ki_Row T) (km_FW_54 T) (ka_Row_put T) (ks_Row_put T) ⟨by decide, by decide, by rfl⟩ (rv_Row hK hw (i := 5) (by decide) rfl) rfl (Nat.le_of_ble_eq_true rfl) ⟨by decide, by decide⟩ ⟨by decide, by decide⟩ d_FW_putAttribute_66 (fun v M9 r9 H locs hw hp => ?_) (fun x ek M9 r9 H locs hw hE hp => gr_t B hexc hw hE (by decide) (by decide) (hF.trans (bnd_ex hp)))
    obtain ⟨rfl, hp⟩ := hp
    have hF := hF.trans (bnd_ok hp)
    exact gr_v B hw d_FW_putAttribute_69 ⟨rfl, hF⟩
  have L31 : ∀ (d : Nat) (x2 : Int32) (M1 : gMem) (r1 : gRef) (H : Heap) (locs : List Loc) (ls : Array Slot), lv_has ls 3 [(2, .int x2), (0, .ref (s0.heap.size + 376)), (1, .ref (s0.heap.size + oAt k1))] → gWd s0 D aC M1 r1 ow H locs → F_FW_putAttribute fu k1 M r = F_FW_putAttribute_L31 fu k1 d x2 M1 r1 → W p l e (gRm 7 185 0 0) s m ([.ref (s0.heap.size + 376), .ref (s0.heap.size + oAt k1)] : List Value).toArray below meth c H locs 0 0 (gt_Q below (gQ s0 D aC ow (qV (F_FW_putAttribute fu k1 M r)) (qT (F_FW_putAttribute fu k1 M r))) s 0 0 0 0 (fun q => s0.heap.size ≤ q)) (F0 m 31 ls []) := by
    intro d
    induction d with
    | zero => intro x2 M1 r1 H locs ls hl hw hF; exact absurd hF hno
    | succ d ih =>
      intro x2 M1 r1 H locs ls hl hw hF
      have hF := hF.trans (F_FW_putAttribute_L31.eq_2 _ _ _ _ _ _)
      refine lv_iload_n hx hb d_FW_putAttribute_31 rfl (lv_at hl 0 rfl) ?_
      refine lv_aload_n hx hb d_FW_putAttribute_32 rfl (lv_at hl 2 rfl) ?_
      refine gf_At_valueEnd hx hb T hown hK hw (i := k1) b1 rfl (kf_FW_125 T) d_FW_putAttribute_33 ?_
      refine lv_icmp_ge hx hb d_FW_putAttribute_36 rfl (fun h10 => ?_) (fun h10 => ?_)
      · skip
        have hF := hF.trans (if_pos h10)
        exact X60  _ _ _ _ _ (gv_loc hl [1] rfl) hw hF
      · skip
        have hF := hF.trans (if_neg h10)
        refine lv_aload_n hx hb d_FW_putAttribute_39 rfl (lv_at hl 1 rfl) ?_
        refine lv_aload_n hx hb d_FW_putAttribute_40 rfl (lv_at hl 1 rfl) ?_
        refine gf_FW_tree hx hb T hown hK hw rfl (kf_FW_30 T) d_FW_putAttribute_41 ?_
        refine gf_Tr_values hx hb T hown hK hw rfl (kf_FW_119 T) d_FW_putAttribute_44 ?_
        refine lv_iload_n hx hb d_FW_putAttribute_47 rfl (lv_at hl 0 rfl) ?_
        refine gy_V B hl.1 hw (t_Row_at G _ _ ow fu 3 x2 (by decide) (nn hno hF)) (kd_Row_at T) (ki_Row T) (km_FW_134 T) (ka_Row_at T) (ks_Row_at T) ⟨by decide, by decide, by rfl⟩ (rv_Row hK hw (i := 3) (by decide) rfl) rfl (Nat.le_of_ble_eq_true rfl) ⟨by decide, by decide⟩ ⟨by decide, by decide⟩ d_FW_putAttribute_48 (fun v M11 r11 H locs hw hp => ?_) (fun x ek M11 r11 H locs hw hE hp => gr_t B hexc hw hE (by decide) (by decide) (hF.trans (bnd_ex hp)))
        obtain ⟨v11, rfl, hp⟩ := hp
        have hF := hF.trans (bnd_ok hp)
        refine gy_V B hl.1 hw (t_FW_putInValue G _ _ ow fu v11 (nn hno hF)) (kd_FW_putInValue T) (ki_FW T) (km_FW_140 T) (ka_FW_putInValue T) (ks_FW_putInValue T) ⟨by decide, by decide, by rfl⟩ (rv_FW hK hw rfl) rfl (Nat.le_of_ble_eq_true rfl) ⟨by decide, by decide⟩ ⟨by decide, by decide⟩ d_FW_putAttribute_51 (fun v M12 r12 H locs hw hp => ?_) (fun x ek M12 r12 H locs hw hE hp => gr_t B hexc hw hE (by decide) (by decide) (hF.trans (bnd_ex hp)))
        obtain ⟨rfl, hp⟩ := hp
        have hF := hF.trans (bnd_ok hp)
        refine lv_iinc (k := 0) hx hb d_FW_putAttribute_54 hl rfl (show _ + Int32.ofInt 1 = _ + 1 from rfl) (by decide) rfl (fun ls hl => ?_)
        refine lv_goto hx hb d_FW_putAttribute_57 rfl ?_
        exact ih (x2 + 1) _ _ _ _ _ (gv_loc hl [0, 1, 2] rfl) hw hF
  have hF := F_FW_putAttribute.eq_1 fu k1 M r
  refine lv_aload_n hx hb d_FW_putAttribute_0 rfl (lv_at hl 0 rfl) ?_
  refine gf_FW_form hx hb T hown hK hw rfl (kf_FW_14 T) d_FW_putAttribute_1 ?_
  refine lv_bipush (v := 32) hx hb d_FW_putAttribute_4 (by decide) ?_
  refine gy_V B hl.1 hw (t_Row_put G _ _ ow fu 5 32 (by decide) (nn hno hF)) (kd_Row_put T) (ki_Row T) (km_FW_54 T) (ka_Row_put T) (ks_Row_put T) ⟨by decide, by decide, by rfl⟩ (rv_Row hK hw (i := 5) (by decide) rfl) rfl (Nat.le_of_ble_eq_true rfl) ⟨by decide, by decide⟩ ⟨by decide, by decide⟩ d_FW_putAttribute_6 (fun v M13 r13 H locs hw hp => ?_) (fun x ek M13 r13 H locs hw hE hp => gr_t B hexc hw hE (by decide) (by decide) (hF.trans (bnd_ex hp)))
  obtain ⟨rfl, hp⟩ := hp
  have hF := hF.trans (bnd_ok hp)
  refine lv_aload_n hx hb d_FW_putAttribute_9 rfl (lv_at hl 0 rfl) ?_
  refine lv_aload_n hx hb d_FW_putAttribute_10 rfl (lv_at hl 1 rfl) ?_
  refine gf_At_name hx hb T hown hK hw (i := k1) b1 rfl (kf_FW_89 T) d_FW_putAttribute_11 ?_
  have n14 : k1 < 170 := Nat.lt_trans b1 (by decide)
  refine gy_V B hl.1 hw (t_FW_putName G _ _ ow fu k1 n14 (nn hno hF)) (kd_FW_putName T) (ki_FW T) (km_FW_62 T) (ka_FW_putName T) (ks_FW_putName T) ⟨by decide, by decide, by rfl⟩ (rv_FW hK hw rfl) rfl (Nat.le_of_ble_eq_true rfl) ⟨by decide, by decide⟩ ⟨by decide, by decide⟩ d_FW_putAttribute_14 (fun v M15 r15 H locs hw hp => ?_) (fun x ek M15 r15 H locs hw hE hp => gr_t B hexc hw hE (by decide) (by decide) (hF.trans (bnd_ex hp)))
  obtain ⟨rfl, hp⟩ := hp
  have hF := hF.trans (bnd_ok hp)
  refine lv_aload_n hx hb d_FW_putAttribute_17 rfl (lv_at hl 0 rfl) ?_
  refine gf_FW_form hx hb T hown hK hw rfl (kf_FW_14 T) d_FW_putAttribute_18 ?_
  refine gl_FW_138 B G d_FW_putAttribute_21 ?_
  refine gy_V B hl.1 hw (t_Row_putText G _ _ ow fu 5 12 (by decide) (by decide) (nn hno hF)) (kd_Row_putText T) (ki_Row T) (km_FW_71 T) (ka_Row_putText T) (ks_Row_putText T) ⟨by decide, by decide, by rfl⟩ (rv_Row hK hw (i := 5) (by decide) rfl) rfl (Nat.le_of_ble_eq_true rfl) ⟨by decide, by decide⟩ ⟨by decide, by decide⟩ d_FW_putAttribute_23 (fun v M16 r16 H locs hw hp => ?_) (fun x ek M16 r16 H locs hw hE hp => gr_t B hexc hw hE (by decide) (by decide) (hF.trans (bnd_ex hp)))
  obtain ⟨rfl, hp⟩ := hp
  have hF := hF.trans (bnd_ok hp)
  refine lv_aload_n hx hb d_FW_putAttribute_26 rfl (lv_at hl 1 rfl) ?_
  refine gf_At_valueStart hx hb T hown hK hw (i := k1) b1 rfl (kf_FW_122 T) d_FW_putAttribute_27 ?_
  refine lv_istore_n hx hb d_FW_putAttribute_30 rfl hl (by decide) rfl (fun ls hl => ?_)
  exact L31 fu (M16 23 k1) _ _ _ _ _ (gv_loc hl [0, 1, 2] rfl) hw hF
theorem d_FW_beginElement_0 : decode b_FW_beginElement 0 = .ok (.aload_n 0, 1) := by decide +kernel
theorem d_FW_beginElement_1 : decode b_FW_beginElement 1 = .ok (.iconst 0, 1) := by decide +kernel
theorem d_FW_beginElement_2 : decode b_FW_beginElement 2 = .ok (.putfield 26, 3) := by decide +kernel
theorem d_FW_beginElement_5 : decode b_FW_beginElement 5 = .ok (.iconst 0, 1) := by decide +kernel
theorem d_FW_beginElement_6 : decode b_FW_beginElement 6 = .ok (.istore_n 2, 1) := by decide +kernel
theorem d_FW_beginElement_7 : decode b_FW_beginElement 7 = .ok (.iload_n 2, 1) := by decide +kernel
theorem d_FW_beginElement_8 : decode b_FW_beginElement 8 = .ok (.aload_n 1, 1) := by decide +kernel
theorem d_FW_beginElement_9 : decode b_FW_beginElement 9 = .ok (.getfield 34, 3) := by decide +kernel
theorem d_FW_beginElement_12 : decode b_FW_beginElement 12 = .ok (.if_icmp .ge 37, 3) := by decide +kernel
theorem d_FW_beginElement_15 : decode b_FW_beginElement 15 = .ok (.aload_n 1, 1) := by decide +kernel
theorem d_FW_beginElement_16 : decode b_FW_beginElement 16 = .ok (.getfield 39, 3) := by decide +kernel
theorem d_FW_beginElement_19 : decode b_FW_beginElement 19 = .ok (.iload_n 2, 1) := by decide +kernel
theorem d_FW_beginElement_20 : decode b_FW_beginElement 20 = .ok (.aaload, 1) := by decide +kernel
theorem d_FW_beginElement_21 : decode b_FW_beginElement 21 = .ok (.astore_n 3, 1) := by decide +kernel
theorem d_FW_beginElement_22 : decode b_FW_beginElement 22 = .ok (.aload_n 3, 1) := by decide +kernel
theorem d_FW_beginElement_23 : decode b_FW_beginElement 23 = .ok (.getfield 42, 3) := by decide +kernel
theorem d_FW_beginElement_26 : decode b_FW_beginElement 26 = .ok (.ifCond .eq 12, 3) := by decide +kernel
theorem d_FW_beginElement_29 : decode b_FW_beginElement 29 = .ok (.aload_n 0, 1) := by decide +kernel
theorem d_FW_beginElement_30 : decode b_FW_beginElement 30 = .ok (.aload_n 1, 1) := by decide +kernel
theorem d_FW_beginElement_31 : decode b_FW_beginElement 31 = .ok (.aload_n 3, 1) := by decide +kernel
theorem d_FW_beginElement_32 : decode b_FW_beginElement 32 = .ok (.invokevirtual 46, 3) := by decide +kernel
theorem d_FW_beginElement_35 : decode b_FW_beginElement 35 = .ok (.ifCond .eq 8, 3) := by decide +kernel
theorem d_FW_beginElement_38 : decode b_FW_beginElement 38 = .ok (.aload_n 0, 1) := by decide +kernel
theorem d_FW_beginElement_39 : decode b_FW_beginElement 39 = .ok (.aload_n 3, 1) := by decide +kernel
theorem d_FW_beginElement_40 : decode b_FW_beginElement 40 = .ok (.invokevirtual 50, 3) := by decide +kernel
theorem d_FW_beginElement_43 : decode b_FW_beginElement 43 = .ok (.iinc 2 1, 3) := by decide +kernel
theorem d_FW_beginElement_46 : decode b_FW_beginElement 46 = .ok (.goto (-39), 3) := by decide +kernel
theorem d_FW_beginElement_49 : decode b_FW_beginElement 49 = .ok (.aload_n 0, 1) := by decide +kernel
theorem d_FW_beginElement_50 : decode b_FW_beginElement 50 = .ok (.getfield 14, 3) := by decide +kernel
theorem d_FW_beginElement_53 : decode b_FW_beginElement 53 = .ok (.bipush 60, 2) := by decide +kernel
theorem d_FW_beginElement_55 : decode b_FW_beginElement 55 = .ok (.invokevirtual 54, 3) := by decide +kernel
theorem d_FW_beginElement_58 : decode b_FW_beginElement 58 = .ok (.aload_n 0, 1) := by decide +kernel
theorem d_FW_beginElement_59 : decode b_FW_beginElement 59 = .ok (.aload_n 1, 1) := by decide +kernel
theorem d_FW_beginElement_60 : decode b_FW_beginElement 60 = .ok (.getfield 58, 3) := by decide +kernel
theorem d_FW_beginElement_63 : decode b_FW_beginElement 63 = .ok (.invokevirtual 62, 3) := by decide +kernel
theorem d_FW_beginElement_66 : decode b_FW_beginElement 66 = .ok (.iconst 0, 1) := by decide +kernel
theorem d_FW_beginElement_67 : decode b_FW_beginElement 67 = .ok (.istore_n 2, 1) := by decide +kernel
theorem d_FW_beginElement_68 : decode b_FW_beginElement 68 = .ok (.iload_n 2, 1) := by decide +kernel
theorem d_FW_beginElement_69 : decode b_FW_beginElement 69 = .ok (.aload_n 0, 1) := by decide +kernel
theorem d_FW_beginElement_70 : decode b_FW_beginElement 70 = .ok (.getfield 26, 3) := by decide +kernel
theorem d_FW_beginElement_73 : decode b_FW_beginElement 73 = .ok (.if_icmp .ge 19, 3) := by decide +kernel
theorem d_FW_beginElement_76 : decode b_FW_beginElement 76 = .ok (.aload_n 0, 1) := by decide +kernel
theorem d_FW_beginElement_77 : decode b_FW_beginElement 77 = .ok (.aload_n 0, 1) := by decide +kernel
theorem d_FW_beginElement_78 : decode b_FW_beginElement 78 = .ok (.getfield 22, 3) := by decide +kernel
theorem d_FW_beginElement_81 : decode b_FW_beginElement 81 = .ok (.iload_n 2, 1) := by decide +kernel
theorem d_FW_beginElement_82 : decode b_FW_beginElement 82 = .ok (.aaload, 1) := by decide +kernel
theorem d_FW_beginElement_83 : decode b_FW_beginElement 83 = .ok (.invokevirtual 66, 3) := by decide +kernel
theorem d_FW_beginElement_86 : decode b_FW_beginElement 86 = .ok (.iinc 2 1, 3) := by decide +kernel
theorem d_FW_beginElement_89 : decode b_FW_beginElement 89 = .ok (.goto (-21), 3) := by decide +kernel
theorem d_FW_beginElement_92 : decode b_FW_beginElement 92 = .ok (.aload_n 0, 1) := by decide +kernel
theorem d_FW_beginElement_93 : decode b_FW_beginElement 93 = .ok (.getfield 14, 3) := by decide +kernel
theorem d_FW_beginElement_96 : decode b_FW_beginElement 96 = .ok (.bipush 62, 2) := by decide +kernel
theorem d_FW_beginElement_98 : decode b_FW_beginElement 98 = .ok (.invokevirtual 54, 3) := by decide +kernel
theorem d_FW_beginElement_101 : decode b_FW_beginElement 101 = .ok (.return_, 1) := by decide +kernel
set_option maxHeartbeats 4000000 in
set_option maxRecDepth 100000 in
theorem t_FW_beginElement {l : Launch} {s0 : State} {D : va_G} {aC : Nat → ClassId} {a0 : Array Value} (G : gG l s0 D aC a0) (M : gMem) (r : gRef) (ow : Int64) (fu : Nat) (k1 : Nat) (b1 : k1 < 24) (hno : F_FW_beginElement fu k1 M r ≠ .no) : gMet l s0 D aC y_FW_beginElement (Cond.code y_FW_beginElement b_FW_beginElement 4 none) 8 207 0 0 [.ref (s0.heap.size + 376), .ref (s0.heap.size + oEl k1)] M r ow (qV (F_FW_beginElement fu k1 M r)) (qT (F_FW_beginElement fu k1 M r)) := by
  refine gm_of G (by decide) (Nat.le_of_ble_eq_true rfl) ?_
  intro p e s m below meth c ls B hexc hl hw
  have hx := B.1
  have hb := B.2.1
  have hown := B.2.2.2.2.2.1
  have T := B.2.2.2.2.2.2.1
  have hK := B.2.2.2.2.2.2.2.1
  have X92 : ∀ (M1 : gMem) (r1 : gRef) (H : Heap) (locs : List Loc) (ls : Array Slot), lv_has ls 4 [(0, .ref (s0.heap.size + 376))] → gWd s0 D aC M1 r1 ow H locs → F_FW_beginElement fu k1 M r = F_FW_beginElement_B92 fu k1 M1 r1 → W p l e (gRm 8 207 0 0) s m ([.ref (s0.heap.size + 376), .ref (s0.heap.size + oEl k1)] : List Value).toArray below meth c H locs 0 0 (gt_Q below (gQ s0 D aC ow (qV (F_FW_beginElement fu k1 M r)) (qT (F_FW_beginElement fu k1 M r))) s 0 0 0 0 (fun q => s0.heap.size ≤ q)) (F0 m 92 ls []) := by
    intro  M1 r1 H locs ls hl hw hF
    have hF := hF.trans (F_FW_beginElement_B92.eq_1 _ _ _ _)
    refine lv_aload_n hx hb d_FW_beginElement_92 rfl (lv_at hl 0 rfl) ?_
    refine gf_FW_form hx hb T hown hK hw rfl (kf_FW_14 T) d_FW_beginElement_93 ?_
    refine lv_bipush (v := 62) hx hb d_FW_beginElement_96 (by decide) ?_
    refine gy_V B hl.1 hw (t_Row_put G _ _ ow fu 5 62 (by decide) (nn hno hF)) (kd_Row_put T) (ki_Row T) (km_FW_54 T) (ka_Row_put T) (ks_Row_put T) ⟨by decide, by decide, by rfl⟩ (rv_Row hK hw (i := 5) (by decide) rfl) rfl (Nat.le_of_ble_eq_true rfl) ⟨by decide, by decide⟩ ⟨by decide, by decide⟩ d_FW_beginElement_98 (fun v M16 r16 H locs hw hp => ?_) (fun x ek M16 r16 H locs hw hE hp => gr_t B hexc hw hE (by decide) (by decide) (hF.trans (bnd_ex hp)))
    obtain ⟨rfl, hp⟩ := hp
    have hF := hF.trans (bnd_ok hp)
    exact gr_v B hw d_FW_beginElement_101 ⟨rfl, hF⟩
  have L68 : ∀ (d : Nat) (x2 : Int32) (M1 : gMem) (r1 : gRef) (H : Heap) (locs : List Loc) (ls : Array Slot), lv_has ls 4 [(2, .int x2), (0, .ref (s0.heap.size + 376))] → gWd s0 D aC M1 r1 ow H locs → F_FW_beginElement fu k1 M r = F_FW_beginElement_L68 fu k1 d x2 M1 r1 → W p l e (gRm 8 207 0 0) s m ([.ref (s0.heap.size + 376), .ref (s0.heap.size + oEl k1)] : List Value).toArray below meth c H locs 0 0 (gt_Q below (gQ s0 D aC ow (qV (F_FW_beginElement fu k1 M r)) (qT (F_FW_beginElement fu k1 M r))) s 0 0 0 0 (fun q => s0.heap.size ≤ q)) (F0 m 68 ls []) := by
    intro d
    induction d with
    | zero => intro x2 M1 r1 H locs ls hl hw hF; exact absurd hF hno
    | succ d ih =>
      intro x2 M1 r1 H locs ls hl hw hF
      have hF := hF.trans (F_FW_beginElement_L68.eq_2 _ _ _ _ _ _)
      refine lv_iload_n hx hb d_FW_beginElement_68 rfl (lv_at hl 0 rfl) ?_
      refine lv_aload_n hx hb d_FW_beginElement_69 rfl (lv_at hl 1 rfl) ?_
      refine gf_FW_sortedCount hx hb T hown hK hw rfl (kf_FW_26 T) d_FW_beginElement_70 ?_
      refine lv_icmp_ge hx hb d_FW_beginElement_73 rfl (fun h17 => ?_) (fun h17 => ?_)
      · skip
        have hF := hF.trans (if_pos h17)
        exact X92  _ _ _ _ _ (gv_loc hl [1] rfl) hw hF
      · skip
        have hF := hF.trans (if_neg h17)
        refine lv_aload_n hx hb d_FW_beginElement_76 rfl (lv_at hl 1 rfl) ?_
        refine lv_aload_n hx hb d_FW_beginElement_77 rfl (lv_at hl 1 rfl) ?_
        refine gf_FW_sorted hx hb T hown hK hw rfl (kf_FW_22 T) d_FW_beginElement_78 ?_
        refine lv_iload_n hx hb d_FW_beginElement_81 rfl (lv_at hl 0 rfl) ?_
        have g18 := ng hno hF
        have hF := hF.trans (gd_yes g18)
        refine ga_so hx hb hK hw rfl g18 d_FW_beginElement_82 ?_
        rcases hq19 : r1 2 x2.toNatClampNeg with _ | k_19
        · skip
          have hF := hF.trans (gcs_none hq19)
          exact absurd hF hno
        · skip
          have hF := hF.trans (gcs_some hq19)
          have b_19 := ng hno hF
          have hF := hF.trans (gd_yes b_19)
          refine gy_V B hl.1 hw (t_FW_putAttribute G _ _ ow fu k_19 b_19 (nn hno hF)) (kd_FW_putAttribute T) (ki_FW T) (km_FW_66 T) (ka_FW_putAttribute T) (ks_FW_putAttribute T) ⟨by decide, by decide, by rfl⟩ (rv_FW hK hw rfl) rfl (Nat.le_of_ble_eq_true rfl) ⟨by decide, by decide⟩ ⟨by decide, by decide⟩ d_FW_beginElement_83 (fun v M20 r20 H locs hw hp => ?_) (fun x ek M20 r20 H locs hw hE hp => gr_t B hexc hw hE (by decide) (by decide) (hF.trans (bnd_ex hp)))
          obtain ⟨rfl, hp⟩ := hp
          have hF := hF.trans (bnd_ok hp)
          refine lv_iinc (k := 0) hx hb d_FW_beginElement_86 hl rfl (show _ + Int32.ofInt 1 = _ + 1 from rfl) (by decide) rfl (fun ls hl => ?_)
          refine lv_goto hx hb d_FW_beginElement_89 rfl ?_
          exact ih (x2 + 1) _ _ _ _ _ (gv_loc hl [0, 1] rfl) hw hF
  have X49 : ∀ (M1 : gMem) (r1 : gRef) (H : Heap) (locs : List Loc) (ls : Array Slot), lv_has ls 4 [(0, .ref (s0.heap.size + 376)), (1, .ref (s0.heap.size + oEl k1))] → gWd s0 D aC M1 r1 ow H locs → F_FW_beginElement fu k1 M r = F_FW_beginElement_B49 fu k1 M1 r1 → W p l e (gRm 8 207 0 0) s m ([.ref (s0.heap.size + 376), .ref (s0.heap.size + oEl k1)] : List Value).toArray below meth c H locs 0 0 (gt_Q below (gQ s0 D aC ow (qV (F_FW_beginElement fu k1 M r)) (qT (F_FW_beginElement fu k1 M r))) s 0 0 0 0 (fun q => s0.heap.size ≤ q)) (F0 m 49 ls []) := by
    intro  M1 r1 H locs ls hl hw hF
    have hF := hF.trans (F_FW_beginElement_B49.eq_1 _ _ _ _)
    refine lv_aload_n hx hb d_FW_beginElement_49 rfl (lv_at hl 0 rfl) ?_
    refine gf_FW_form hx hb T hown hK hw rfl (kf_FW_14 T) d_FW_beginElement_50 ?_
    refine lv_bipush (v := 60) hx hb d_FW_beginElement_53 (by decide) ?_
    refine gy_V B hl.1 hw (t_Row_put G _ _ ow fu 5 60 (by decide) (nn hno hF)) (kd_Row_put T) (ki_Row T) (km_FW_54 T) (ka_Row_put T) (ks_Row_put T) ⟨by decide, by decide, by rfl⟩ (rv_Row hK hw (i := 5) (by decide) rfl) rfl (Nat.le_of_ble_eq_true rfl) ⟨by decide, by decide⟩ ⟨by decide, by decide⟩ d_FW_beginElement_55 (fun v M21 r21 H locs hw hp => ?_) (fun x ek M21 r21 H locs hw hE hp => gr_t B hexc hw hE (by decide) (by decide) (hF.trans (bnd_ex hp)))
    obtain ⟨rfl, hp⟩ := hp
    have hF := hF.trans (bnd_ok hp)
    refine lv_aload_n hx hb d_FW_beginElement_58 rfl (lv_at hl 0 rfl) ?_
    refine lv_aload_n hx hb d_FW_beginElement_59 rfl (lv_at hl 1 rfl) ?_
    refine gf_El_name hx hb T hown hK hw (i := k1) b1 rfl (kf_FW_58 T) d_FW_beginElement_60 ?_
    have n22 : 145 + k1 < 170 := by have := b1; omega
    refine gy_V B hl.1 hw (t_FW_putName G _ _ ow fu (145 + k1) n22 (nn hno hF)) (kd_FW_putName T) (ki_FW T) (km_FW_62 T) (ka_FW_putName T) (ks_FW_putName T) ⟨by decide, by decide, by rfl⟩ (rv_FW hK hw rfl) rfl (Nat.le_of_ble_eq_true rfl) ⟨by decide, by decide⟩ ⟨by decide, by decide⟩ d_FW_beginElement_63 (fun v M23 r23 H locs hw hp => ?_) (fun x ek M23 r23 H locs hw hE hp => gr_t B hexc hw hE (by decide) (by decide) (hF.trans (bnd_ex hp)))
    obtain ⟨rfl, hp⟩ := hp
    have hF := hF.trans (bnd_ok hp)
    refine lv_iconst (v := 0) hx hb d_FW_beginElement_66 (by decide) ?_
    refine lv_istore_n hx hb d_FW_beginElement_67 rfl hl (by decide) rfl (fun ls hl => ?_)
    exact L68 fu 0 _ _ _ _ _ (gv_loc hl [0, 1] rfl) hw hF
  have L7 : ∀ (d : Nat) (x2 : Int32) (M1 : gMem) (r1 : gRef) (H : Heap) (locs : List Loc) (ls : Array Slot), lv_has ls 4 [(2, .int x2), (0, .ref (s0.heap.size + 376)), (1, .ref (s0.heap.size + oEl k1))] → gWd s0 D aC M1 r1 ow H locs → F_FW_beginElement fu k1 M r = F_FW_beginElement_L7 fu k1 d x2 M1 r1 → W p l e (gRm 8 207 0 0) s m ([.ref (s0.heap.size + 376), .ref (s0.heap.size + oEl k1)] : List Value).toArray below meth c H locs 0 0 (gt_Q below (gQ s0 D aC ow (qV (F_FW_beginElement fu k1 M r)) (qT (F_FW_beginElement fu k1 M r))) s 0 0 0 0 (fun q => s0.heap.size ≤ q)) (F0 m 7 ls []) := by
    intro d
    induction d with
    | zero => intro x2 M1 r1 H locs ls hl hw hF; exact absurd hF hno
    | succ d ih =>
      intro x2 M1 r1 H locs ls hl hw hF
      have hF := hF.trans (F_FW_beginElement_L7.eq_2 _ _ _ _ _ _)
      refine lv_iload_n hx hb d_FW_beginElement_7 rfl (lv_at hl 0 rfl) ?_
      refine lv_aload_n hx hb d_FW_beginElement_8 rfl (lv_at hl 2 rfl) ?_
      refine gf_El_attributeCount hx hb T hown hK hw (i := k1) b1 rfl (kf_FW_34 T) d_FW_beginElement_9 ?_
      refine lv_icmp_ge hx hb d_FW_beginElement_12 rfl (fun h24 => ?_) (fun h24 => ?_)
      · skip
        have hF := hF.trans (if_pos h24)
        exact X49  _ _ _ _ _ (gv_loc hl [1, 2] rfl) hw hF
      · skip
        have hF := hF.trans (if_neg h24)
        refine lv_aload_n hx hb d_FW_beginElement_15 rfl (lv_at hl 2 rfl) ?_
        refine gf_El_attributes hx hb T hown hK hw (i := k1) b1 rfl (kf_FW_39 T) d_FW_beginElement_16 ?_
        refine lv_iload_n hx hb d_FW_beginElement_19 rfl (lv_at hl 0 rfl) ?_
        have g25 := ng hno hF
        have hF := hF.trans (gd_yes g25)
        refine ga_as hx hb hK hw (i := k1) b1 rfl g25 d_FW_beginElement_20 ?_
        have b125 : 6 * k1 + x2.toNatClampNeg < 145 := by have := vin_lt g25; have := b1; omega
        refine lv_astore_n hx hb d_FW_beginElement_21 rfl hl (by decide) rfl (fun ls hl => ?_)
        refine lv_aload_n hx hb d_FW_beginElement_22 rfl (lv_at hl 0 rfl) ?_
        refine gf_At_isDeclaration hx hb T hown hK hw (i := (6 * k1 + x2.toNatClampNeg)) b125 rfl (kf_FW_42 T) d_FW_beginElement_23 ?_
        refine lv_if_eq hx hb d_FW_beginElement_26 rfl (fun h26 => ?_) (fun h26 => ?_)
        · skip
          have hF := hF.trans (if_pos h26)
          refine lv_aload_n hx hb d_FW_beginElement_38 rfl (lv_at hl 2 rfl) ?_
          refine lv_aload_n hx hb d_FW_beginElement_39 rfl (lv_at hl 0 rfl) ?_
          refine gy_V B hl.1 hw (t_FW_insertSorted G _ _ ow fu (6 * k1 + x2.toNatClampNeg) b125 (nn hno hF)) (kd_FW_insertSorted T) (ki_FW T) (km_FW_50 T) (ka_FW_insertSorted T) (ks_FW_insertSorted T) ⟨by decide, by decide, by rfl⟩ (rv_FW hK hw rfl) rfl (Nat.le_of_ble_eq_true rfl) ⟨by decide, by decide⟩ ⟨by decide, by decide⟩ d_FW_beginElement_40 (fun v M27 r27 H locs hw hp => ?_) (fun x ek M27 r27 H locs hw hE hp => gr_t B hexc hw hE (by decide) (by decide) (hF.trans (bnd_ex hp)))
          obtain ⟨rfl, hp⟩ := hp
          have hF := hF.trans (bnd_ok hp)
          refine lv_iinc (k := 1) hx hb d_FW_beginElement_43 hl rfl (show _ + Int32.ofInt 1 = _ + 1 from rfl) (by decide) rfl (fun ls hl => ?_)
          refine lv_goto hx hb d_FW_beginElement_46 rfl ?_
          exact ih (x2 + 1) _ _ _ _ _ (gv_loc hl [0, 2, 3] rfl) hw hF
        · skip
          have hF := hF.trans (if_neg h26)
          refine lv_aload_n hx hb d_FW_beginElement_29 rfl (lv_at hl 2 rfl) ?_
          refine lv_aload_n hx hb d_FW_beginElement_30 rfl (lv_at hl 3 rfl) ?_
          refine lv_aload_n hx hb d_FW_beginElement_31 rfl (lv_at hl 0 rfl) ?_
          refine gy_V B hl.1 hw (t_FW_saysSomethingElse G _ _ ow fu k1 (6 * k1 + x2.toNatClampNeg) b1 b125 (nn hno hF)) (kd_FW_saysSomethingElse T) (ki_FW T) (km_FW_46 T) (ka_FW_saysSomethingElse T) (ks_FW_saysSomethingElse T) ⟨by decide, by decide, by rfl⟩ (rv_FW hK hw rfl) rfl (Nat.le_of_ble_eq_true rfl) ⟨by decide, by decide⟩ ⟨by decide, by decide⟩ d_FW_beginElement_32 (fun v M28 r28 H locs hw hp => ?_) (fun x ek M28 r28 H locs hw hE hp => gr_t B hexc hw hE (by decide) (by decide) (hF.trans (bnd_ex hp)))
          obtain ⟨v28, rfl, hp⟩ := hp
          have hF := hF.trans (bnd_ok hp)
          refine lv_if_eq hx hb d_FW_beginElement_35 rfl (fun h29 => ?_) (fun h29 => ?_)
          · skip
            have hF := hF.trans (if_pos h29)
            refine lv_iinc (k := 1) hx hb d_FW_beginElement_43 hl rfl (show _ + Int32.ofInt 1 = _ + 1 from rfl) (by decide) rfl (fun ls hl => ?_)
            refine lv_goto hx hb d_FW_beginElement_46 rfl ?_
            exact ih (x2 + 1) _ _ _ _ _ (gv_loc hl [0, 2, 3] rfl) hw hF
          · skip
            have hF := hF.trans (if_neg h29)
            refine lv_aload_n hx hb d_FW_beginElement_38 rfl (lv_at hl 2 rfl) ?_
            refine lv_aload_n hx hb d_FW_beginElement_39 rfl (lv_at hl 0 rfl) ?_
            refine gy_V B hl.1 hw (t_FW_insertSorted G _ _ ow fu (6 * k1 + x2.toNatClampNeg) b125 (nn hno hF)) (kd_FW_insertSorted T) (ki_FW T) (km_FW_50 T) (ka_FW_insertSorted T) (ks_FW_insertSorted T) ⟨by decide, by decide, by rfl⟩ (rv_FW hK hw rfl) rfl (Nat.le_of_ble_eq_true rfl) ⟨by decide, by decide⟩ ⟨by decide, by decide⟩ d_FW_beginElement_40 (fun v M30 r30 H locs hw hp => ?_) (fun x ek M30 r30 H locs hw hE hp => gr_t B hexc hw hE (by decide) (by decide) (hF.trans (bnd_ex hp)))
            obtain ⟨rfl, hp⟩ := hp
            have hF := hF.trans (bnd_ok hp)
            refine lv_iinc (k := 1) hx hb d_FW_beginElement_43 hl rfl (show _ + Int32.ofInt 1 = _ + 1 from rfl) (by decide) rfl (fun ls hl => ?_)
            refine lv_goto hx hb d_FW_beginElement_46 rfl ?_
            exact ih (x2 + 1) _ _ _ _ _ (gv_loc hl [0, 2, 3] rfl) hw hF
  have hF := F_FW_beginElement.eq_1 fu k1 M r
  refine lv_aload_n hx hb d_FW_beginElement_0 rfl (lv_at hl 0 rfl) ?_
  refine lv_iconst (v := 0) hx hb d_FW_beginElement_1 (by decide) ?_
  refine pf_FW_sortedCount hx hb T hown hK hw rfl (kf_FW_26 T) d_FW_beginElement_2 (fun H locs hw => ?_)
  refine lv_iconst (v := 0) hx hb d_FW_beginElement_5 (by decide) ?_
  refine lv_istore_n hx hb d_FW_beginElement_6 rfl hl (by decide) rfl (fun ls hl => ?_)
  exact L7 fu 0 _ _ _ _ _ (gv_loc hl [0, 1, 2] rfl) hw hF
theorem d_FW_endElement_0 : decode b_FW_endElement 0 = .ok (.aload_n 0, 1) := by decide +kernel
theorem d_FW_endElement_1 : decode b_FW_endElement 1 = .ok (.getfield 14, 3) := by decide +kernel
theorem d_FW_endElement_4 : decode b_FW_endElement 4 = .ok (.ldc 69, 2) := by decide +kernel
theorem d_FW_endElement_6 : decode b_FW_endElement 6 = .ok (.invokevirtual 71, 3) := by decide +kernel
theorem d_FW_endElement_9 : decode b_FW_endElement 9 = .ok (.aload_n 0, 1) := by decide +kernel
theorem d_FW_endElement_10 : decode b_FW_endElement 10 = .ok (.aload_n 1, 1) := by decide +kernel
theorem d_FW_endElement_11 : decode b_FW_endElement 11 = .ok (.getfield 58, 3) := by decide +kernel
theorem d_FW_endElement_14 : decode b_FW_endElement 14 = .ok (.invokevirtual 62, 3) := by decide +kernel
theorem d_FW_endElement_17 : decode b_FW_endElement 17 = .ok (.aload_n 0, 1) := by decide +kernel
theorem d_FW_endElement_18 : decode b_FW_endElement 18 = .ok (.getfield 14, 3) := by decide +kernel
theorem d_FW_endElement_21 : decode b_FW_endElement 21 = .ok (.bipush 62, 2) := by decide +kernel
theorem d_FW_endElement_23 : decode b_FW_endElement 23 = .ok (.invokevirtual 54, 3) := by decide +kernel
theorem d_FW_endElement_26 : decode b_FW_endElement 26 = .ok (.return_, 1) := by decide +kernel
set_option maxHeartbeats 4000000 in
set_option maxRecDepth 100000 in
theorem t_FW_endElement {l : Launch} {s0 : State} {D : va_G} {aC : Nat → ClassId} {a0 : Array Value} (G : gG l s0 D aC a0) (M : gMem) (r : gRef) (ow : Int64) (fu : Nat) (k1 : Nat) (b1 : k1 < 24) (hno : F_FW_endElement fu k1 M r ≠ .no) : gMet l s0 D aC y_FW_endElement (Cond.code y_FW_endElement b_FW_endElement 2 none) 6 164 0 0 [.ref (s0.heap.size + 376), .ref (s0.heap.size + oEl k1)] M r ow (qV (F_FW_endElement fu k1 M r)) (qT (F_FW_endElement fu k1 M r)) := by
  refine gm_of G (by decide) (Nat.le_of_ble_eq_true rfl) ?_
  intro p e s m below meth c ls B hexc hl hw
  have hx := B.1
  have hb := B.2.1
  have hown := B.2.2.2.2.2.1
  have T := B.2.2.2.2.2.2.1
  have hK := B.2.2.2.2.2.2.2.1
  have hF := F_FW_endElement.eq_1 fu k1 M r
  refine lv_aload_n hx hb d_FW_endElement_0 rfl (lv_at hl 0 rfl) ?_
  refine gf_FW_form hx hb T hown hK hw rfl (kf_FW_14 T) d_FW_endElement_1 ?_
  refine gl_FW_69 B G d_FW_endElement_4 ?_
  refine gy_V B hl.1 hw (t_Row_putText G _ _ ow fu 5 22 (by decide) (by decide) (nn hno hF)) (kd_Row_putText T) (ki_Row T) (km_FW_71 T) (ka_Row_putText T) (ks_Row_putText T) ⟨by decide, by decide, by rfl⟩ (rv_Row hK hw (i := 5) (by decide) rfl) rfl (Nat.le_of_ble_eq_true rfl) ⟨by decide, by decide⟩ ⟨by decide, by decide⟩ d_FW_endElement_6 (fun v M5 r5 H locs hw hp => ?_) (fun x ek M5 r5 H locs hw hE hp => gr_t B hexc hw hE (by decide) (by decide) (hF.trans (bnd_ex hp)))
  obtain ⟨rfl, hp⟩ := hp
  have hF := hF.trans (bnd_ok hp)
  refine lv_aload_n hx hb d_FW_endElement_9 rfl (lv_at hl 0 rfl) ?_
  refine lv_aload_n hx hb d_FW_endElement_10 rfl (lv_at hl 1 rfl) ?_
  refine gf_El_name hx hb T hown hK hw (i := k1) b1 rfl (kf_FW_58 T) d_FW_endElement_11 ?_
  have n6 : 145 + k1 < 170 := by have := b1; omega
  refine gy_V B hl.1 hw (t_FW_putName G _ _ ow fu (145 + k1) n6 (nn hno hF)) (kd_FW_putName T) (ki_FW T) (km_FW_62 T) (ka_FW_putName T) (ks_FW_putName T) ⟨by decide, by decide, by rfl⟩ (rv_FW hK hw rfl) rfl (Nat.le_of_ble_eq_true rfl) ⟨by decide, by decide⟩ ⟨by decide, by decide⟩ d_FW_endElement_14 (fun v M7 r7 H locs hw hp => ?_) (fun x ek M7 r7 H locs hw hE hp => gr_t B hexc hw hE (by decide) (by decide) (hF.trans (bnd_ex hp)))
  obtain ⟨rfl, hp⟩ := hp
  have hF := hF.trans (bnd_ok hp)
  refine lv_aload_n hx hb d_FW_endElement_17 rfl (lv_at hl 0 rfl) ?_
  refine gf_FW_form hx hb T hown hK hw rfl (kf_FW_14 T) d_FW_endElement_18 ?_
  refine lv_bipush (v := 62) hx hb d_FW_endElement_21 (by decide) ?_
  refine gy_V B hl.1 hw (t_Row_put G _ _ ow fu 5 62 (by decide) (nn hno hF)) (kd_Row_put T) (ki_Row T) (km_FW_54 T) (ka_Row_put T) (ks_Row_put T) ⟨by decide, by decide, by rfl⟩ (rv_Row hK hw (i := 5) (by decide) rfl) rfl (Nat.le_of_ble_eq_true rfl) ⟨by decide, by decide⟩ ⟨by decide, by decide⟩ d_FW_endElement_23 (fun v M8 r8 H locs hw hp => ?_) (fun x ek M8 r8 H locs hw hE hp => gr_t B hexc hw hE (by decide) (by decide) (hF.trans (bnd_ex hp)))
  obtain ⟨rfl, hp⟩ := hp
  have hF := hF.trans (bnd_ok hp)
  exact gr_v B hw d_FW_endElement_26 ⟨rfl, hF⟩
set_option maxHeartbeats 4000000 in
set_option maxRecDepth 100000 in
theorem t_Rd_enter {l : Launch} {s0 : State} {D : va_G} {aC : Nat → ClassId} {a0 : Array Value} (G : gG l s0 D aC a0) (M : gMem) (r : gRef) (ow : Int64) (fu : Nat) (k1 : Nat) (b1 : k1 < 24) (hno : F_Rd_enter fu k1 M r ≠ .no) : gMet l s0 D aC y_Rd_enter (Cond.code y_Rd_enter b_Rd_enter 2 none) 9 230 1 6 [.ref (s0.heap.size + 380), .ref (s0.heap.size + oEl k1)] M r ow (qV (F_Rd_enter fu k1 M r)) (qT (F_Rd_enter fu k1 M r)) := by
  refine gm_of G (by decide) (Nat.le_of_ble_eq_true rfl) ?_
  intro p e s m below meth c ls B hexc hl hw
  have hx := B.1
  have hb := B.2.1
  have hown := B.2.2.2.2.2.1
  have T := B.2.2.2.2.2.2.1
  have hK := B.2.2.2.2.2.2.2.1
  have hF := F_Rd_enter.eq_1 fu k1 M r
  refine lv_aload_n hx hb d_Rd_enter_0 rfl (lv_at hl 1 rfl) ?_
  refine lv_ifnonnull hx hb d_Rd_enter_1 rfl ?_
  refine lv_aload_n hx hb d_Rd_enter_5 rfl (lv_at hl 0 rfl) ?_
  refine lv_iconst (v := 5) hx hb d_Rd_enter_6 (by decide) ?_
  refine lv_aload_n hx hb d_Rd_enter_7 rfl (lv_at hl 0 rfl) ?_
  refine gf_Rd_finder hx hb T hown hK hw rfl (kf_Rd_45 T) d_Rd_enter_8 ?_
  refine lv_aload_n hx hb d_Rd_enter_11 rfl (lv_at hl 1 rfl) ?_
  refine gy_V B hl.1 hw (t_SF_firstNameTwice G _ _ ow fu k1 b1 (nn hno hF)) (kd_SF_firstNameTwice T) (ki_SF T) (km_Rd_204 T) (ka_SF_firstNameTwice T) (ks_SF_firstNameTwice T) ⟨by decide, by decide, by rfl⟩ (rv_SF hK hw rfl) rfl (Nat.le_of_ble_eq_true rfl) ⟨by decide, by decide⟩ ⟨by decide, by decide⟩ d_Rd_enter_12 (fun v M13 r13 H locs hw hp => ?_) (fun x ek M13 r13 H locs hw hE hp => gr_t B hexc hw hE (by decide) (by decide) (hF.trans (bnd_ex hp)))
  obtain ⟨v13, rfl, hp⟩ := hp
  have hF := hF.trans (bnd_ok hp)
  refine gy_V B hl.1 hw (t_Rd_failUnlessNowhere G _ _ ow fu 5 v13 (nn hno hF)) (kd_Rd_failUnlessNowhere T) (ki_Rd T) (km_Rd_208 T) (ka_Rd_failUnlessNowhere T) (ks_Rd_failUnlessNowhere T) ⟨by decide, by decide, by rfl⟩ (rv_Rd hK hw rfl) rfl (Nat.le_of_ble_eq_true rfl) ⟨by decide, by decide⟩ ⟨by decide, by decide⟩ d_Rd_enter_15 (fun v M14 r14 H locs hw hp => ?_) (fun x ek M14 r14 H locs hw hE hp => gr_t B hexc hw hE (by decide) (by decide) (hF.trans (bnd_ex hp)))
  obtain ⟨rfl, hp⟩ := hp
  have hF := hF.trans (bnd_ok hp)
  refine lv_aload_n hx hb d_Rd_enter_18 rfl (lv_at hl 0 rfl) ?_
  refine lv_bipush (v := 6) hx hb d_Rd_enter_19 (by decide) ?_
  refine lv_aload_n hx hb d_Rd_enter_21 rfl (lv_at hl 0 rfl) ?_
  refine gf_Rd_finder hx hb T hown hK hw rfl (kf_Rd_45 T) d_Rd_enter_22 ?_
  refine lv_aload_n hx hb d_Rd_enter_25 rfl (lv_at hl 1 rfl) ?_
  refine gy_V B hl.1 hw (t_SF_firstWrongDeclaration G _ _ ow fu k1 b1 (nn hno hF)) (kd_SF_firstWrongDeclaration T) (ki_SF T) (km_Rd_211 T) (ka_SF_firstWrongDeclaration T) (ks_SF_firstWrongDeclaration T) ⟨by decide, by decide, by rfl⟩ (rv_SF hK hw rfl) rfl (Nat.le_of_ble_eq_true rfl) ⟨by decide, by decide⟩ ⟨by decide, by decide⟩ d_Rd_enter_26 (fun v M15 r15 H locs hw hp => ?_) (fun x ek M15 r15 H locs hw hE hp => gr_t B hexc hw hE (by decide) (by decide) (hF.trans (bnd_ex hp)))
  obtain ⟨v15, rfl, hp⟩ := hp
  have hF := hF.trans (bnd_ok hp)
  refine gy_V B hl.1 hw (t_Rd_failUnlessNowhere G _ _ ow fu 6 v15 (nn hno hF)) (kd_Rd_failUnlessNowhere T) (ki_Rd T) (km_Rd_208 T) (ka_Rd_failUnlessNowhere T) (ks_Rd_failUnlessNowhere T) ⟨by decide, by decide, by rfl⟩ (rv_Rd hK hw rfl) rfl (Nat.le_of_ble_eq_true rfl) ⟨by decide, by decide⟩ ⟨by decide, by decide⟩ d_Rd_enter_29 (fun v M16 r16 H locs hw hp => ?_) (fun x ek M16 r16 H locs hw hE hp => gr_t B hexc hw hE (by decide) (by decide) (hF.trans (bnd_ex hp)))
  obtain ⟨rfl, hp⟩ := hp
  have hF := hF.trans (bnd_ok hp)
  refine lv_aload_n hx hb d_Rd_enter_32 rfl (lv_at hl 0 rfl) ?_
  refine gf_Rd_finder hx hb T hown hK hw rfl (kf_Rd_45 T) d_Rd_enter_33 ?_
  refine lv_aload_n hx hb d_Rd_enter_36 rfl (lv_at hl 1 rfl) ?_
  refine gy_V B hl.1 hw (t_SF_findSpaces G _ _ ow fu k1 b1 (nn hno hF)) (kd_SF_findSpaces T) (ki_SF T) (km_Rd_214 T) (ka_SF_findSpaces T) (ks_SF_findSpaces T) ⟨by decide, by decide, by rfl⟩ (rv_SF hK hw rfl) rfl (Nat.le_of_ble_eq_true rfl) ⟨by decide, by decide⟩ ⟨by decide, by decide⟩ d_Rd_enter_37 (fun v M17 r17 H locs hw hp => ?_) (fun x ek M17 r17 H locs hw hE hp => gr_t B hexc hw hE (by decide) (by decide) (hF.trans (bnd_ex hp)))
  obtain ⟨rfl, hp⟩ := hp
  have hF := hF.trans (bnd_ok hp)
  refine lv_aload_n hx hb d_Rd_enter_40 rfl (lv_at hl 0 rfl) ?_
  refine lv_bipush (v := 7) hx hb d_Rd_enter_41 (by decide) ?_
  refine lv_aload_n hx hb d_Rd_enter_43 rfl (lv_at hl 0 rfl) ?_
  refine gf_Rd_finder hx hb T hown hK hw rfl (kf_Rd_45 T) d_Rd_enter_44 ?_
  refine lv_aload_n hx hb d_Rd_enter_47 rfl (lv_at hl 1 rfl) ?_
  refine gy_V B hl.1 hw (t_SF_firstNotDeclared G _ _ ow fu k1 b1 (nn hno hF)) (kd_SF_firstNotDeclared T) (ki_SF T) (km_Rd_217 T) (ka_SF_firstNotDeclared T) (ks_SF_firstNotDeclared T) ⟨by decide, by decide, by rfl⟩ (rv_SF hK hw rfl) rfl (Nat.le_of_ble_eq_true rfl) ⟨by decide, by decide⟩ ⟨by decide, by decide⟩ d_Rd_enter_48 (fun v M18 r18 H locs hw hp => ?_) (fun x ek M18 r18 H locs hw hE hp => gr_t B hexc hw hE (by decide) (by decide) (hF.trans (bnd_ex hp)))
  obtain ⟨v18, rfl, hp⟩ := hp
  have hF := hF.trans (bnd_ok hp)
  refine gy_V B hl.1 hw (t_Rd_failUnlessNowhere G _ _ ow fu 7 v18 (nn hno hF)) (kd_Rd_failUnlessNowhere T) (ki_Rd T) (km_Rd_208 T) (ka_Rd_failUnlessNowhere T) (ks_Rd_failUnlessNowhere T) ⟨by decide, by decide, by rfl⟩ (rv_Rd hK hw rfl) rfl (Nat.le_of_ble_eq_true rfl) ⟨by decide, by decide⟩ ⟨by decide, by decide⟩ d_Rd_enter_51 (fun v M19 r19 H locs hw hp => ?_) (fun x ek M19 r19 H locs hw hE hp => gr_t B hexc hw hE (by decide) (by decide) (hF.trans (bnd_ex hp)))
  obtain ⟨rfl, hp⟩ := hp
  have hF := hF.trans (bnd_ok hp)
  refine lv_aload_n hx hb d_Rd_enter_54 rfl (lv_at hl 0 rfl) ?_
  refine lv_bipush (v := 8) hx hb d_Rd_enter_55 (by decide) ?_
  refine lv_aload_n hx hb d_Rd_enter_57 rfl (lv_at hl 0 rfl) ?_
  refine gf_Rd_finder hx hb T hown hK hw rfl (kf_Rd_45 T) d_Rd_enter_58 ?_
  refine lv_aload_n hx hb d_Rd_enter_61 rfl (lv_at hl 1 rfl) ?_
  refine gy_V B hl.1 hw (t_SF_firstTwiceInSpace G _ _ ow fu k1 b1 (nn hno hF)) (kd_SF_firstTwiceInSpace T) (ki_SF T) (km_Rd_220 T) (ka_SF_firstTwiceInSpace T) (ks_SF_firstTwiceInSpace T) ⟨by decide, by decide, by rfl⟩ (rv_SF hK hw rfl) rfl (Nat.le_of_ble_eq_true rfl) ⟨by decide, by decide⟩ ⟨by decide, by decide⟩ d_Rd_enter_62 (fun v M20 r20 H locs hw hp => ?_) (fun x ek M20 r20 H locs hw hE hp => gr_t B hexc hw hE (by decide) (by decide) (hF.trans (bnd_ex hp)))
  obtain ⟨v20, rfl, hp⟩ := hp
  have hF := hF.trans (bnd_ok hp)
  refine gy_V B hl.1 hw (t_Rd_failUnlessNowhere G _ _ ow fu 8 v20 (nn hno hF)) (kd_Rd_failUnlessNowhere T) (ki_Rd T) (km_Rd_208 T) (ka_Rd_failUnlessNowhere T) (ks_Rd_failUnlessNowhere T) ⟨by decide, by decide, by rfl⟩ (rv_Rd hK hw rfl) rfl (Nat.le_of_ble_eq_true rfl) ⟨by decide, by decide⟩ ⟨by decide, by decide⟩ d_Rd_enter_65 (fun v M21 r21 H locs hw hp => ?_) (fun x ek M21 r21 H locs hw hE hp => gr_t B hexc hw hE (by decide) (by decide) (hF.trans (bnd_ex hp)))
  obtain ⟨rfl, hp⟩ := hp
  have hF := hF.trans (bnd_ok hp)
  refine lv_aload_n hx hb d_Rd_enter_68 rfl (lv_at hl 0 rfl) ?_
  refine gf_Rd_writer hx hb T hown hK hw rfl (kf_Rd_36 T) d_Rd_enter_69 ?_
  refine lv_aload_n hx hb d_Rd_enter_72 rfl (lv_at hl 1 rfl) ?_
  refine gy_V B hl.1 hw (t_FW_beginElement G _ _ ow fu k1 b1 (nn hno hF)) (kd_FW_beginElement T) (ki_FW T) (km_Rd_223 T) (ka_FW_beginElement T) (ks_FW_beginElement T) ⟨by decide, by decide, by rfl⟩ (rv_FW hK hw rfl) rfl (Nat.le_of_ble_eq_true rfl) ⟨by decide, by decide⟩ ⟨by decide, by decide⟩ d_Rd_enter_73 (fun v M22 r22 H locs hw hp => ?_) (fun x ek M22 r22 H locs hw hE hp => gr_t B hexc hw hE (by decide) (by decide) (hF.trans (bnd_ex hp)))
  obtain ⟨rfl, hp⟩ := hp
  have hF := hF.trans (bnd_ok hp)
  refine lv_aload_n hx hb d_Rd_enter_76 rfl (lv_at hl 1 rfl) ?_
  refine gf_El_isEmpty hx hb T hown hK hw (i := k1) b1 rfl (kf_Rd_200 T) d_Rd_enter_77 ?_
  refine lv_if_eq hx hb d_Rd_enter_80 rfl (fun h23 => ?_) (fun h23 => ?_)
  · skip
    have hF := hF.trans (if_pos h23)
    refine lv_aload_n hx hb d_Rd_enter_94 rfl (lv_at hl 0 rfl) ?_
    refine lv_aload_n hx hb d_Rd_enter_95 rfl (lv_at hl 1 rfl) ?_
    refine pf_Rd_open (y := (some k1)) hx hb T hown hK hw rfl (kf_Rd_22 T) d_Rd_enter_96 (fun H locs hw => ?_)
    exact gr_v B hw d_Rd_enter_99 ⟨rfl, hF⟩
  · skip
    have hF := hF.trans (if_neg h23)
    refine lv_aload_n hx hb d_Rd_enter_83 rfl (lv_at hl 0 rfl) ?_
    refine gf_Rd_writer hx hb T hown hK hw rfl (kf_Rd_36 T) d_Rd_enter_84 ?_
    refine lv_aload_n hx hb d_Rd_enter_87 rfl (lv_at hl 1 rfl) ?_
    refine gy_V B hl.1 hw (t_FW_endElement G _ _ ow fu k1 b1 (nn hno hF)) (kd_FW_endElement T) (ki_FW T) (km_Rd_226 T) (ka_FW_endElement T) (ks_FW_endElement T) ⟨by decide, by decide, by rfl⟩ (rv_FW hK hw rfl) rfl (Nat.le_of_ble_eq_true rfl) ⟨by decide, by decide⟩ ⟨by decide, by decide⟩ d_Rd_enter_88 (fun v M24 r24 H locs hw hp => ?_) (fun x ek M24 r24 H locs hw hE hp => gr_t B hexc hw hE (by decide) (by decide) (hF.trans (bnd_ex hp)))
    obtain ⟨rfl, hp⟩ := hp
    have hF := hF.trans (bnd_ok hp)
    refine lv_goto hx hb d_Rd_enter_91 rfl ?_
    exact gr_v B hw d_Rd_enter_99 ⟨rfl, hF⟩
theorem d_FW_putContent_0 : decode b_FW_putContent 0 = .ok (.iload_n 1, 1) := by decide +kernel
theorem d_FW_putContent_1 : decode b_FW_putContent 1 = .ok (.bipush 38, 2) := by decide +kernel
theorem d_FW_putContent_3 : decode b_FW_putContent 3 = .ok (.if_icmp .ne 15, 3) := by decide +kernel
theorem d_FW_putContent_6 : decode b_FW_putContent 6 = .ok (.aload_n 0, 1) := by decide +kernel
theorem d_FW_putContent_7 : decode b_FW_putContent 7 = .ok (.getfield 14, 3) := by decide +kernel
theorem d_FW_putContent_10 : decode b_FW_putContent 10 = .ok (.ldc 75, 2) := by decide +kernel
theorem d_FW_putContent_12 : decode b_FW_putContent 12 = .ok (.invokevirtual 71, 3) := by decide +kernel
theorem d_FW_putContent_15 : decode b_FW_putContent 15 = .ok (.goto 47, 3) := by decide +kernel
theorem d_FW_putContent_18 : decode b_FW_putContent 18 = .ok (.iload_n 1, 1) := by decide +kernel
theorem d_FW_putContent_19 : decode b_FW_putContent 19 = .ok (.bipush 60, 2) := by decide +kernel
theorem d_FW_putContent_21 : decode b_FW_putContent 21 = .ok (.if_icmp .ne 15, 3) := by decide +kernel
theorem d_FW_putContent_24 : decode b_FW_putContent 24 = .ok (.aload_n 0, 1) := by decide +kernel
theorem d_FW_putContent_25 : decode b_FW_putContent 25 = .ok (.getfield 14, 3) := by decide +kernel
theorem d_FW_putContent_28 : decode b_FW_putContent 28 = .ok (.ldc 77, 2) := by decide +kernel
theorem d_FW_putContent_30 : decode b_FW_putContent 30 = .ok (.invokevirtual 71, 3) := by decide +kernel
theorem d_FW_putContent_33 : decode b_FW_putContent 33 = .ok (.goto 29, 3) := by decide +kernel
theorem d_FW_putContent_36 : decode b_FW_putContent 36 = .ok (.iload_n 1, 1) := by decide +kernel
theorem d_FW_putContent_37 : decode b_FW_putContent 37 = .ok (.bipush 62, 2) := by decide +kernel
theorem d_FW_putContent_39 : decode b_FW_putContent 39 = .ok (.if_icmp .ne 15, 3) := by decide +kernel
theorem d_FW_putContent_42 : decode b_FW_putContent 42 = .ok (.aload_n 0, 1) := by decide +kernel
theorem d_FW_putContent_43 : decode b_FW_putContent 43 = .ok (.getfield 14, 3) := by decide +kernel
theorem d_FW_putContent_46 : decode b_FW_putContent 46 = .ok (.ldc 79, 2) := by decide +kernel
theorem d_FW_putContent_48 : decode b_FW_putContent 48 = .ok (.invokevirtual 71, 3) := by decide +kernel
theorem d_FW_putContent_51 : decode b_FW_putContent 51 = .ok (.goto 11, 3) := by decide +kernel
theorem d_FW_putContent_54 : decode b_FW_putContent 54 = .ok (.aload_n 0, 1) := by decide +kernel
theorem d_FW_putContent_55 : decode b_FW_putContent 55 = .ok (.getfield 14, 3) := by decide +kernel
theorem d_FW_putContent_58 : decode b_FW_putContent 58 = .ok (.iload_n 1, 1) := by decide +kernel
theorem d_FW_putContent_59 : decode b_FW_putContent 59 = .ok (.invokevirtual 54, 3) := by decide +kernel
theorem d_FW_putContent_62 : decode b_FW_putContent 62 = .ok (.return_, 1) := by decide +kernel
set_option maxHeartbeats 4000000 in
set_option maxRecDepth 100000 in
theorem t_FW_putContent {l : Launch} {s0 : State} {D : va_G} {aC : Nat → ClassId} {a0 : Array Value} (G : gG l s0 D aC a0) (M : gMem) (r : gRef) (ow : Int64) (fu : Nat) (x1 : Int32)  (hno : F_FW_putContent fu x1 M r ≠ .no) : gMet l s0 D aC y_FW_putContent (Cond.code y_FW_putContent b_FW_putContent 2 none) 6 164 0 0 [.ref (s0.heap.size + 376), .int x1] M r ow (qV (F_FW_putContent fu x1 M r)) (qT (F_FW_putContent fu x1 M r)) := by
  refine gm_of G (by decide) (Nat.le_of_ble_eq_true rfl) ?_
  intro p e s m below meth c ls B hexc hl hw
  have hx := B.1
  have hb := B.2.1
  have hown := B.2.2.2.2.2.1
  have T := B.2.2.2.2.2.2.1
  have hK := B.2.2.2.2.2.2.2.1
  have hF := F_FW_putContent.eq_1 fu x1 M r
  refine lv_iload_n hx hb d_FW_putContent_0 rfl (lv_at hl 1 rfl) ?_
  refine lv_bipush (v := 38) hx hb d_FW_putContent_1 (by decide) ?_
  refine lv_icmp_ne hx hb d_FW_putContent_3 rfl (fun h8 => ?_) (fun h8 => ?_)
  · skip
    have hF := hF.trans (if_neg h8)
    refine lv_iload_n hx hb d_FW_putContent_18 rfl (lv_at hl 1 rfl) ?_
    refine lv_bipush (v := 60) hx hb d_FW_putContent_19 (by decide) ?_
    refine lv_icmp_ne hx hb d_FW_putContent_21 rfl (fun h9 => ?_) (fun h9 => ?_)
    · skip
      have hF := hF.trans (if_neg h9)
      refine lv_iload_n hx hb d_FW_putContent_36 rfl (lv_at hl 1 rfl) ?_
      refine lv_bipush (v := 62) hx hb d_FW_putContent_37 (by decide) ?_
      refine lv_icmp_ne hx hb d_FW_putContent_39 rfl (fun h10 => ?_) (fun h10 => ?_)
      · skip
        have hF := hF.trans (if_neg h10)
        refine lv_aload_n hx hb d_FW_putContent_54 rfl (lv_at hl 0 rfl) ?_
        refine gf_FW_form hx hb T hown hK hw rfl (kf_FW_14 T) d_FW_putContent_55 ?_
        refine lv_iload_n hx hb d_FW_putContent_58 rfl (lv_at hl 1 rfl) ?_
        refine gy_V B hl.1 hw (t_Row_put G _ _ ow fu 5 x1 (by decide) (nn hno hF)) (kd_Row_put T) (ki_Row T) (km_FW_54 T) (ka_Row_put T) (ks_Row_put T) ⟨by decide, by decide, by rfl⟩ (rv_Row hK hw (i := 5) (by decide) rfl) rfl (Nat.le_of_ble_eq_true rfl) ⟨by decide, by decide⟩ ⟨by decide, by decide⟩ d_FW_putContent_59 (fun v M11 r11 H locs hw hp => ?_) (fun x ek M11 r11 H locs hw hE hp => gr_t B hexc hw hE (by decide) (by decide) (hF.trans (bnd_ex hp)))
        obtain ⟨rfl, hp⟩ := hp
        have hF := hF.trans (bnd_ok hp)
        exact gr_v B hw d_FW_putContent_62 ⟨rfl, hF⟩
      · skip
        have hF := hF.trans (if_pos h10)
        refine lv_aload_n hx hb d_FW_putContent_42 rfl (lv_at hl 0 rfl) ?_
        refine gf_FW_form hx hb T hown hK hw rfl (kf_FW_14 T) d_FW_putContent_43 ?_
        refine gl_FW_79 B G d_FW_putContent_46 ?_
        refine gy_V B hl.1 hw (t_Row_putText G _ _ ow fu 5 20 (by decide) (by decide) (nn hno hF)) (kd_Row_putText T) (ki_Row T) (km_FW_71 T) (ka_Row_putText T) (ks_Row_putText T) ⟨by decide, by decide, by rfl⟩ (rv_Row hK hw (i := 5) (by decide) rfl) rfl (Nat.le_of_ble_eq_true rfl) ⟨by decide, by decide⟩ ⟨by decide, by decide⟩ d_FW_putContent_48 (fun v M12 r12 H locs hw hp => ?_) (fun x ek M12 r12 H locs hw hE hp => gr_t B hexc hw hE (by decide) (by decide) (hF.trans (bnd_ex hp)))
        obtain ⟨rfl, hp⟩ := hp
        have hF := hF.trans (bnd_ok hp)
        refine lv_goto hx hb d_FW_putContent_51 rfl ?_
        exact gr_v B hw d_FW_putContent_62 ⟨rfl, hF⟩
    · skip
      have hF := hF.trans (if_pos h9)
      refine lv_aload_n hx hb d_FW_putContent_24 rfl (lv_at hl 0 rfl) ?_
      refine gf_FW_form hx hb T hown hK hw rfl (kf_FW_14 T) d_FW_putContent_25 ?_
      refine gl_FW_77 B G d_FW_putContent_28 ?_
      refine gy_V B hl.1 hw (t_Row_putText G _ _ ow fu 5 19 (by decide) (by decide) (nn hno hF)) (kd_Row_putText T) (ki_Row T) (km_FW_71 T) (ka_Row_putText T) (ks_Row_putText T) ⟨by decide, by decide, by rfl⟩ (rv_Row hK hw (i := 5) (by decide) rfl) rfl (Nat.le_of_ble_eq_true rfl) ⟨by decide, by decide⟩ ⟨by decide, by decide⟩ d_FW_putContent_30 (fun v M13 r13 H locs hw hp => ?_) (fun x ek M13 r13 H locs hw hE hp => gr_t B hexc hw hE (by decide) (by decide) (hF.trans (bnd_ex hp)))
      obtain ⟨rfl, hp⟩ := hp
      have hF := hF.trans (bnd_ok hp)
      refine lv_goto hx hb d_FW_putContent_33 rfl ?_
      exact gr_v B hw d_FW_putContent_62 ⟨rfl, hF⟩
  · skip
    have hF := hF.trans (if_pos h8)
    refine lv_aload_n hx hb d_FW_putContent_6 rfl (lv_at hl 0 rfl) ?_
    refine gf_FW_form hx hb T hown hK hw rfl (kf_FW_14 T) d_FW_putContent_7 ?_
    refine gl_FW_75 B G d_FW_putContent_10 ?_
    refine gy_V B hl.1 hw (t_Row_putText G _ _ ow fu 5 18 (by decide) (by decide) (nn hno hF)) (kd_Row_putText T) (ki_Row T) (km_FW_71 T) (ka_Row_putText T) (ks_Row_putText T) ⟨by decide, by decide, by rfl⟩ (rv_Row hK hw (i := 5) (by decide) rfl) rfl (Nat.le_of_ble_eq_true rfl) ⟨by decide, by decide⟩ ⟨by decide, by decide⟩ d_FW_putContent_12 (fun v M14 r14 H locs hw hp => ?_) (fun x ek M14 r14 H locs hw hE hp => gr_t B hexc hw hE (by decide) (by decide) (hF.trans (bnd_ex hp)))
    obtain ⟨rfl, hp⟩ := hp
    have hF := hF.trans (bnd_ok hp)
    refine lv_goto hx hb d_FW_putContent_15 rfl ?_
    exact gr_v B hw d_FW_putContent_62 ⟨rfl, hF⟩
theorem d_Rd_addContent_0 : decode b_Rd_addContent 0 = .ok (.aload_n 0, 1) := by decide +kernel
theorem d_Rd_addContent_1 : decode b_Rd_addContent 1 = .ok (.getfield 32, 3) := by decide +kernel
theorem d_Rd_addContent_4 : decode b_Rd_addContent 4 = .ok (.aload_n 1, 1) := by decide +kernel
theorem d_Rd_addContent_5 : decode b_Rd_addContent 5 = .ok (.iload_n 2, 1) := by decide +kernel
theorem d_Rd_addContent_6 : decode b_Rd_addContent 6 = .ok (.invokevirtual 305, 3) := by decide +kernel
theorem d_Rd_addContent_9 : decode b_Rd_addContent 9 = .ok (.aload_n 0, 1) := by decide +kernel
theorem d_Rd_addContent_10 : decode b_Rd_addContent 10 = .ok (.getfield 36, 3) := by decide +kernel
theorem d_Rd_addContent_13 : decode b_Rd_addContent 13 = .ok (.iload_n 2, 1) := by decide +kernel
theorem d_Rd_addContent_14 : decode b_Rd_addContent 14 = .ok (.invokevirtual 306, 3) := by decide +kernel
theorem d_Rd_addContent_17 : decode b_Rd_addContent 17 = .ok (.return_, 1) := by decide +kernel
set_option maxHeartbeats 4000000 in
set_option maxRecDepth 100000 in
theorem t_Rd_addContent_n {l : Launch} {s0 : State} {D : va_G} {aC : Nat → ClassId} {a0 : Array Value} (G : gG l s0 D aC a0) (M : gMem) (r : gRef) (ow : Int64) (fu : Nat) (x2 : Int32)  (hno : F_Rd_addContent_n fu x2 M r ≠ .no) : gMet l s0 D aC y_Rd_addContent (Cond.code y_Rd_addContent b_Rd_addContent 3 none) 7 185 0 0 [.ref (s0.heap.size + 380), .null, .int x2] M r ow (qV (F_Rd_addContent_n fu x2 M r)) (qT (F_Rd_addContent_n fu x2 M r)) := by
  refine gm_of G (by decide) (Nat.le_of_ble_eq_true rfl) ?_
  intro p e s m below meth c ls B hexc hl hw
  have hx := B.1
  have hb := B.2.1
  have hown := B.2.2.2.2.2.1
  have T := B.2.2.2.2.2.2.1
  have hK := B.2.2.2.2.2.2.2.1
  have hF := F_Rd_addContent_n.eq_1 fu x2 M r
  refine lv_aload_n hx hb d_Rd_addContent_0 rfl (lv_at hl 0 rfl) ?_
  refine gf_Rd_tree hx hb T hown hK hw rfl (kf_Rd_32 T) d_Rd_addContent_1 ?_
  refine lv_aload_nN hx hb d_Rd_addContent_4 rfl (lv_at hl 1 rfl) ?_
  refine lv_iload_n hx hb d_Rd_addContent_5 rfl (lv_at hl 2 rfl) ?_
  refine gy_V B hl.1 hw (t_Tr_addContent_n G _ _ ow fu x2 (nn hno hF)) (kd_Tr_addContent T) (ki_Tr T) (km_Rd_305 T) (ka_Tr_addContent T) (ks_Tr_addContent T) ⟨by decide, by decide, by rfl⟩ (rv_Tr hK hw rfl) rfl (Nat.le_of_ble_eq_true rfl) ⟨by decide, by decide⟩ ⟨by decide, by decide⟩ d_Rd_addContent_6 (fun v M3 r3 H locs hw hp => ?_) (fun x ek M3 r3 H locs hw hE hp => gr_t B hexc hw hE (by decide) (by decide) (hF.trans (bnd_ex hp)))
  obtain ⟨rfl, hp⟩ := hp
  have hF := hF.trans (bnd_ok hp)
  refine lv_aload_n hx hb d_Rd_addContent_9 rfl (lv_at hl 0 rfl) ?_
  refine gf_Rd_writer hx hb T hown hK hw rfl (kf_Rd_36 T) d_Rd_addContent_10 ?_
  refine lv_iload_n hx hb d_Rd_addContent_13 rfl (lv_at hl 2 rfl) ?_
  refine gy_V B hl.1 hw (t_FW_putContent G _ _ ow fu x2 (nn hno hF)) (kd_FW_putContent T) (ki_FW T) (km_Rd_306 T) (ka_FW_putContent T) (ks_FW_putContent T) ⟨by decide, by decide, by rfl⟩ (rv_FW hK hw rfl) rfl (Nat.le_of_ble_eq_true rfl) ⟨by decide, by decide⟩ ⟨by decide, by decide⟩ d_Rd_addContent_14 (fun v M4 r4 H locs hw hp => ?_) (fun x ek M4 r4 H locs hw hE hp => gr_t B hexc hw hE (by decide) (by decide) (hF.trans (bnd_ex hp)))
  obtain ⟨rfl, hp⟩ := hp
  have hF := hF.trans (bnd_ok hp)
  exact gr_v B hw d_Rd_addContent_17 ⟨rfl, hF⟩
theorem d_Rd_readSection_0 : decode b_Rd_readSection 0 = .ok (.aload_n 0, 1) := by decide +kernel
theorem d_Rd_readSection_1 : decode b_Rd_readSection 1 = .ok (.ldc_w 301, 3) := by decide +kernel
theorem d_Rd_readSection_4 : decode b_Rd_readSection 4 = .ok (.invokevirtual 145, 3) := by decide +kernel
theorem d_Rd_readSection_7 : decode b_Rd_readSection 7 = .ok (.aload_n 0, 1) := by decide +kernel
theorem d_Rd_readSection_8 : decode b_Rd_readSection 8 = .ok (.getfield 18, 3) := by decide +kernel
theorem d_Rd_readSection_11 : decode b_Rd_readSection 11 = .ok (.aload_n 0, 1) := by decide +kernel
theorem d_Rd_readSection_12 : decode b_Rd_readSection 12 = .ok (.getfield 55, 3) := by decide +kernel
theorem d_Rd_readSection_15 : decode b_Rd_readSection 15 = .ok (.getfield 71, 3) := by decide +kernel
theorem d_Rd_readSection_18 : decode b_Rd_readSection 18 = .ok (.if_icmp .ge 56, 3) := by decide +kernel
theorem d_Rd_readSection_21 : decode b_Rd_readSection 21 = .ok (.aload_n 0, 1) := by decide +kernel
theorem d_Rd_readSection_22 : decode b_Rd_readSection 22 = .ok (.iconst 0, 1) := by decide +kernel
theorem d_Rd_readSection_23 : decode b_Rd_readSection 23 = .ok (.invokevirtual 76, 3) := by decide +kernel
theorem d_Rd_readSection_26 : decode b_Rd_readSection 26 = .ok (.bipush 93, 2) := by decide +kernel
theorem d_Rd_readSection_28 : decode b_Rd_readSection 28 = .ok (.if_icmp .ne 23, 3) := by decide +kernel
theorem d_Rd_readSection_31 : decode b_Rd_readSection 31 = .ok (.aload_n 0, 1) := by decide +kernel
theorem d_Rd_readSection_32 : decode b_Rd_readSection 32 = .ok (.iconst 1, 1) := by decide +kernel
theorem d_Rd_readSection_33 : decode b_Rd_readSection 33 = .ok (.invokevirtual 76, 3) := by decide +kernel
theorem d_Rd_readSection_36 : decode b_Rd_readSection 36 = .ok (.bipush 93, 2) := by decide +kernel
theorem d_Rd_readSection_38 : decode b_Rd_readSection 38 = .ok (.if_icmp .ne 13, 3) := by decide +kernel
theorem d_Rd_readSection_41 : decode b_Rd_readSection 41 = .ok (.aload_n 0, 1) := by decide +kernel
theorem d_Rd_readSection_42 : decode b_Rd_readSection 42 = .ok (.iconst 2, 1) := by decide +kernel
theorem d_Rd_readSection_43 : decode b_Rd_readSection 43 = .ok (.invokevirtual 76, 3) := by decide +kernel
theorem d_Rd_readSection_46 : decode b_Rd_readSection 46 = .ok (.bipush 62, 2) := by decide +kernel
theorem d_Rd_readSection_48 : decode b_Rd_readSection 48 = .ok (.if_icmp .eq 26, 3) := by decide +kernel
theorem d_Rd_readSection_51 : decode b_Rd_readSection 51 = .ok (.aload_n 0, 1) := by decide +kernel
theorem d_Rd_readSection_52 : decode b_Rd_readSection 52 = .ok (.aload_n 1, 1) := by decide +kernel
theorem d_Rd_readSection_53 : decode b_Rd_readSection 53 = .ok (.aload_n 0, 1) := by decide +kernel
theorem d_Rd_readSection_54 : decode b_Rd_readSection 54 = .ok (.iconst 0, 1) := by decide +kernel
theorem d_Rd_readSection_55 : decode b_Rd_readSection 55 = .ok (.invokevirtual 76, 3) := by decide +kernel
theorem d_Rd_readSection_58 : decode b_Rd_readSection 58 = .ok (.invokevirtual 84, 3) := by decide +kernel
theorem d_Rd_readSection_61 : decode b_Rd_readSection 61 = .ok (.aload_n 0, 1) := by decide +kernel
theorem d_Rd_readSection_62 : decode b_Rd_readSection 62 = .ok (.dup, 1) := by decide +kernel
theorem d_Rd_readSection_63 : decode b_Rd_readSection 63 = .ok (.getfield 18, 3) := by decide +kernel
theorem d_Rd_readSection_66 : decode b_Rd_readSection 66 = .ok (.iconst 1, 1) := by decide +kernel
theorem d_Rd_readSection_67 : decode b_Rd_readSection 67 = .ok (.iadd, 1) := by decide +kernel
theorem d_Rd_readSection_68 : decode b_Rd_readSection 68 = .ok (.putfield 18, 3) := by decide +kernel
theorem d_Rd_readSection_71 : decode b_Rd_readSection 71 = .ok (.goto (-64), 3) := by decide +kernel
theorem d_Rd_readSection_74 : decode b_Rd_readSection 74 = .ok (.aload_n 0, 1) := by decide +kernel
theorem d_Rd_readSection_75 : decode b_Rd_readSection 75 = .ok (.ldc_w 303, 3) := by decide +kernel
theorem d_Rd_readSection_78 : decode b_Rd_readSection 78 = .ok (.invokevirtual 145, 3) := by decide +kernel
theorem d_Rd_readSection_81 : decode b_Rd_readSection 81 = .ok (.return_, 1) := by decide +kernel
set_option maxHeartbeats 4000000 in
set_option maxRecDepth 100000 in
theorem t_Rd_readSection_n {l : Launch} {s0 : State} {D : va_G} {aC : Nat → ClassId} {a0 : Array Value} (G : gG l s0 D aC a0) (M : gMem) (r : gRef) (ow : Int64) (fu : Nat)  (hno : F_Rd_readSection_n fu M r ≠ .no) : gMet l s0 D aC y_Rd_readSection (Cond.code y_Rd_readSection b_Rd_readSection 2 none) 9 207 1 6 [.ref (s0.heap.size + 380), .null] M r ow (qV (F_Rd_readSection_n fu M r)) (qT (F_Rd_readSection_n fu M r)) := by
  refine gm_of G (by decide) (Nat.le_of_ble_eq_true rfl) ?_
  intro p e s m below meth c ls B hexc hl hw
  have hx := B.1
  have hb := B.2.1
  have hown := B.2.2.2.2.2.1
  have T := B.2.2.2.2.2.2.1
  have hK := B.2.2.2.2.2.2.2.1
  have X74 : ∀ (M1 : gMem) (r1 : gRef) (H : Heap) (locs : List Loc) (ls : Array Slot), lv_has ls 2 [(0, .ref (s0.heap.size + 380))] → gWd s0 D aC M1 r1 ow H locs → F_Rd_readSection_n fu M r = F_Rd_readSection_n_B74 fu M1 r1 → W p l e (gRm 9 207 1 6) s m ([.ref (s0.heap.size + 380), .null] : List Value).toArray below meth c H locs 0 0 (gt_Q below (gQ s0 D aC ow (qV (F_Rd_readSection_n fu M r)) (qT (F_Rd_readSection_n fu M r))) s 0 0 1 6 (fun q => s0.heap.size ≤ q)) (F0 m 74 ls []) := by
    intro  M1 r1 H locs ls hl hw hF
    have hF := hF.trans (F_Rd_readSection_n_B74.eq_1 _ _ _)
    refine lv_aload_n hx hb d_Rd_readSection_74 rfl (lv_at hl 0 rfl) ?_
    refine gl_Rd_303 B G d_Rd_readSection_75 ?_
    refine gy_V B hl.1 hw (t_Rd_passAll G _ _ ow fu 16 (by decide) (nn hno hF)) (kd_Rd_passAll T) (ki_Rd T) (km_Rd_145 T) (ka_Rd_passAll T) (ks_Rd_passAll T) ⟨by decide, by decide, by rfl⟩ (rv_Rd hK hw rfl) rfl (Nat.le_of_ble_eq_true rfl) ⟨by decide, by decide⟩ ⟨by decide, by decide⟩ d_Rd_readSection_78 (fun v M16 r16 H locs hw hp => ?_) (fun x ek M16 r16 H locs hw hE hp => gr_t B hexc hw hE (by decide) (by decide) (hF.trans (bnd_ex hp)))
    obtain ⟨rfl, hp⟩ := hp
    have hF := hF.trans (bnd_ok hp)
    exact gr_v B hw d_Rd_readSection_81 ⟨rfl, hF⟩
  have L7 : ∀ (d : Nat) (M1 : gMem) (r1 : gRef) (H : Heap) (locs : List Loc) (ls : Array Slot), lv_has ls 2 [(0, .ref (s0.heap.size + 380)), (1, .null)] → gWd s0 D aC M1 r1 ow H locs → F_Rd_readSection_n fu M r = F_Rd_readSection_n_L7 fu d M1 r1 → W p l e (gRm 9 207 1 6) s m ([.ref (s0.heap.size + 380), .null] : List Value).toArray below meth c H locs 0 0 (gt_Q below (gQ s0 D aC ow (qV (F_Rd_readSection_n fu M r)) (qT (F_Rd_readSection_n fu M r))) s 0 0 1 6 (fun q => s0.heap.size ≤ q)) (F0 m 7 ls []) := by
    intro d
    induction d with
    | zero => intro  M1 r1 H locs ls hl hw hF; exact absurd hF hno
    | succ d ih =>
      intro  M1 r1 H locs ls hl hw hF
      have hF := hF.trans (F_Rd_readSection_n_L7.eq_2 _ _ _ _)
      refine lv_aload_n hx hb d_Rd_readSection_7 rfl (lv_at hl 0 rfl) ?_
      refine gf_Rd_at hx hb T hown hK hw rfl (kf_Rd_18 T) d_Rd_readSection_8 ?_
      refine lv_aload_n hx hb d_Rd_readSection_11 rfl (lv_at hl 0 rfl) ?_
      refine gf_Rd_text hx hb T hown hK hw rfl (kf_Rd_55 T) d_Rd_readSection_12 ?_
      refine gf_Row_size hx hb T hown hK hw (i := 2) (by decide) rfl (kf_Rd_71 T) d_Rd_readSection_15 ?_
      refine lv_icmp_ge hx hb d_Rd_readSection_18 rfl (fun h17 => ?_) (fun h17 => ?_)
      · skip
        have hF := hF.trans (if_pos h17)
        exact X74  _ _ _ _ _ (gv_loc hl [0] rfl) hw hF
      · skip
        have hF := hF.trans (if_neg h17)
        refine lv_aload_n hx hb d_Rd_readSection_21 rfl (lv_at hl 0 rfl) ?_
        refine lv_iconst (v := 0) hx hb d_Rd_readSection_22 (by decide) ?_
        refine gy_V B hl.1 hw (t_Rd_next G _ _ ow fu 0 (nn hno hF)) (kd_Rd_next T) (ki_Rd T) (km_Rd_76 T) (ka_Rd_next T) (ks_Rd_next T) ⟨by decide, by decide, by rfl⟩ (rv_Rd hK hw rfl) rfl (Nat.le_of_ble_eq_true rfl) ⟨by decide, by decide⟩ ⟨by decide, by decide⟩ d_Rd_readSection_23 (fun v M18 r18 H locs hw hp => ?_) (fun x ek M18 r18 H locs hw hE hp => gr_t B hexc hw hE (by decide) (by decide) (hF.trans (bnd_ex hp)))
        obtain ⟨v18, rfl, hp⟩ := hp
        have hF := hF.trans (bnd_ok hp)
        refine lv_bipush (v := 93) hx hb d_Rd_readSection_26 (by decide) ?_
        refine lv_icmp_ne hx hb d_Rd_readSection_28 rfl (fun h19 => ?_) (fun h19 => ?_)
        · skip
          have hF := hF.trans (if_neg h19)
          refine lv_aload_n hx hb d_Rd_readSection_51 rfl (lv_at hl 0 rfl) ?_
          refine lv_aload_nN hx hb d_Rd_readSection_52 rfl (lv_at hl 1 rfl) ?_
          refine lv_aload_n hx hb d_Rd_readSection_53 rfl (lv_at hl 0 rfl) ?_
          refine lv_iconst (v := 0) hx hb d_Rd_readSection_54 (by decide) ?_
          refine gy_V B hl.1 hw (t_Rd_next G _ _ ow fu 0 (nn hno hF)) (kd_Rd_next T) (ki_Rd T) (km_Rd_76 T) (ka_Rd_next T) (ks_Rd_next T) ⟨by decide, by decide, by rfl⟩ (rv_Rd hK hw rfl) rfl (Nat.le_of_ble_eq_true rfl) ⟨by decide, by decide⟩ ⟨by decide, by decide⟩ d_Rd_readSection_55 (fun v M20 r20 H locs hw hp => ?_) (fun x ek M20 r20 H locs hw hE hp => gr_t B hexc hw hE (by decide) (by decide) (hF.trans (bnd_ex hp)))
          obtain ⟨v20, rfl, hp⟩ := hp
          have hF := hF.trans (bnd_ok hp)
          refine gy_V B hl.1 hw (t_Rd_addContent_n G _ _ ow fu v20 (nn hno hF)) (kd_Rd_addContent T) (ki_Rd T) (km_Rd_84 T) (ka_Rd_addContent T) (ks_Rd_addContent T) ⟨by decide, by decide, by rfl⟩ (rv_Rd hK hw rfl) rfl (Nat.le_of_ble_eq_true rfl) ⟨by decide, by decide⟩ ⟨by decide, by decide⟩ d_Rd_readSection_58 (fun v M21 r21 H locs hw hp => ?_) (fun x ek M21 r21 H locs hw hE hp => gr_t B hexc hw hE (by decide) (by decide) (hF.trans (bnd_ex hp)))
          obtain ⟨rfl, hp⟩ := hp
          have hF := hF.trans (bnd_ok hp)
          refine lv_aload_n hx hb d_Rd_readSection_61 rfl (lv_at hl 0 rfl) ?_
          refine lv_dup hx hb d_Rd_readSection_62 rfl ?_
          refine gf_Rd_at hx hb T hown hK hw rfl (kf_Rd_18 T) d_Rd_readSection_63 ?_
          refine lv_iconst (v := 1) hx hb d_Rd_readSection_66 (by decide) ?_
          refine lv_iadd hx hb d_Rd_readSection_67 ?_
          refine pf_Rd_at hx hb T hown hK hw rfl (kf_Rd_18 T) d_Rd_readSection_68 (fun H locs hw => ?_)
          refine lv_goto hx hb d_Rd_readSection_71 rfl ?_
          exact ih  _ _ _ _ _ (gv_loc hl [0, 1] rfl) hw hF
        · skip
          have hF := hF.trans (if_pos h19)
          refine lv_aload_n hx hb d_Rd_readSection_31 rfl (lv_at hl 0 rfl) ?_
          refine lv_iconst (v := 1) hx hb d_Rd_readSection_32 (by decide) ?_
          refine gy_V B hl.1 hw (t_Rd_next G _ _ ow fu 1 (nn hno hF)) (kd_Rd_next T) (ki_Rd T) (km_Rd_76 T) (ka_Rd_next T) (ks_Rd_next T) ⟨by decide, by decide, by rfl⟩ (rv_Rd hK hw rfl) rfl (Nat.le_of_ble_eq_true rfl) ⟨by decide, by decide⟩ ⟨by decide, by decide⟩ d_Rd_readSection_33 (fun v M22 r22 H locs hw hp => ?_) (fun x ek M22 r22 H locs hw hE hp => gr_t B hexc hw hE (by decide) (by decide) (hF.trans (bnd_ex hp)))
          obtain ⟨v22, rfl, hp⟩ := hp
          have hF := hF.trans (bnd_ok hp)
          refine lv_bipush (v := 93) hx hb d_Rd_readSection_36 (by decide) ?_
          refine lv_icmp_ne hx hb d_Rd_readSection_38 rfl (fun h23 => ?_) (fun h23 => ?_)
          · skip
            have hF := hF.trans (if_neg h23)
            refine lv_aload_n hx hb d_Rd_readSection_51 rfl (lv_at hl 0 rfl) ?_
            refine lv_aload_nN hx hb d_Rd_readSection_52 rfl (lv_at hl 1 rfl) ?_
            refine lv_aload_n hx hb d_Rd_readSection_53 rfl (lv_at hl 0 rfl) ?_
            refine lv_iconst (v := 0) hx hb d_Rd_readSection_54 (by decide) ?_
            refine gy_V B hl.1 hw (t_Rd_next G _ _ ow fu 0 (nn hno hF)) (kd_Rd_next T) (ki_Rd T) (km_Rd_76 T) (ka_Rd_next T) (ks_Rd_next T) ⟨by decide, by decide, by rfl⟩ (rv_Rd hK hw rfl) rfl (Nat.le_of_ble_eq_true rfl) ⟨by decide, by decide⟩ ⟨by decide, by decide⟩ d_Rd_readSection_55 (fun v M24 r24 H locs hw hp => ?_) (fun x ek M24 r24 H locs hw hE hp => gr_t B hexc hw hE (by decide) (by decide) (hF.trans (bnd_ex hp)))
            obtain ⟨v24, rfl, hp⟩ := hp
            have hF := hF.trans (bnd_ok hp)
            refine gy_V B hl.1 hw (t_Rd_addContent_n G _ _ ow fu v24 (nn hno hF)) (kd_Rd_addContent T) (ki_Rd T) (km_Rd_84 T) (ka_Rd_addContent T) (ks_Rd_addContent T) ⟨by decide, by decide, by rfl⟩ (rv_Rd hK hw rfl) rfl (Nat.le_of_ble_eq_true rfl) ⟨by decide, by decide⟩ ⟨by decide, by decide⟩ d_Rd_readSection_58 (fun v M25 r25 H locs hw hp => ?_) (fun x ek M25 r25 H locs hw hE hp => gr_t B hexc hw hE (by decide) (by decide) (hF.trans (bnd_ex hp)))
            obtain ⟨rfl, hp⟩ := hp
            have hF := hF.trans (bnd_ok hp)
            refine lv_aload_n hx hb d_Rd_readSection_61 rfl (lv_at hl 0 rfl) ?_
            refine lv_dup hx hb d_Rd_readSection_62 rfl ?_
            refine gf_Rd_at hx hb T hown hK hw rfl (kf_Rd_18 T) d_Rd_readSection_63 ?_
            refine lv_iconst (v := 1) hx hb d_Rd_readSection_66 (by decide) ?_
            refine lv_iadd hx hb d_Rd_readSection_67 ?_
            refine pf_Rd_at hx hb T hown hK hw rfl (kf_Rd_18 T) d_Rd_readSection_68 (fun H locs hw => ?_)
            refine lv_goto hx hb d_Rd_readSection_71 rfl ?_
            exact ih  _ _ _ _ _ (gv_loc hl [0, 1] rfl) hw hF
          · skip
            have hF := hF.trans (if_pos h23)
            refine lv_aload_n hx hb d_Rd_readSection_41 rfl (lv_at hl 0 rfl) ?_
            refine lv_iconst (v := 2) hx hb d_Rd_readSection_42 (by decide) ?_
            refine gy_V B hl.1 hw (t_Rd_next G _ _ ow fu 2 (nn hno hF)) (kd_Rd_next T) (ki_Rd T) (km_Rd_76 T) (ka_Rd_next T) (ks_Rd_next T) ⟨by decide, by decide, by rfl⟩ (rv_Rd hK hw rfl) rfl (Nat.le_of_ble_eq_true rfl) ⟨by decide, by decide⟩ ⟨by decide, by decide⟩ d_Rd_readSection_43 (fun v M26 r26 H locs hw hp => ?_) (fun x ek M26 r26 H locs hw hE hp => gr_t B hexc hw hE (by decide) (by decide) (hF.trans (bnd_ex hp)))
            obtain ⟨v26, rfl, hp⟩ := hp
            have hF := hF.trans (bnd_ok hp)
            refine lv_bipush (v := 62) hx hb d_Rd_readSection_46 (by decide) ?_
            refine lv_icmp_eq hx hb d_Rd_readSection_48 rfl (fun h27 => ?_) (fun h27 => ?_)
            · skip
              have hF := hF.trans (if_pos h27)
              exact X74  _ _ _ _ _ (gv_loc hl [0] rfl) hw hF
            · skip
              have hF := hF.trans (if_neg h27)
              refine lv_aload_n hx hb d_Rd_readSection_51 rfl (lv_at hl 0 rfl) ?_
              refine lv_aload_nN hx hb d_Rd_readSection_52 rfl (lv_at hl 1 rfl) ?_
              refine lv_aload_n hx hb d_Rd_readSection_53 rfl (lv_at hl 0 rfl) ?_
              refine lv_iconst (v := 0) hx hb d_Rd_readSection_54 (by decide) ?_
              refine gy_V B hl.1 hw (t_Rd_next G _ _ ow fu 0 (nn hno hF)) (kd_Rd_next T) (ki_Rd T) (km_Rd_76 T) (ka_Rd_next T) (ks_Rd_next T) ⟨by decide, by decide, by rfl⟩ (rv_Rd hK hw rfl) rfl (Nat.le_of_ble_eq_true rfl) ⟨by decide, by decide⟩ ⟨by decide, by decide⟩ d_Rd_readSection_55 (fun v M28 r28 H locs hw hp => ?_) (fun x ek M28 r28 H locs hw hE hp => gr_t B hexc hw hE (by decide) (by decide) (hF.trans (bnd_ex hp)))
              obtain ⟨v28, rfl, hp⟩ := hp
              have hF := hF.trans (bnd_ok hp)
              refine gy_V B hl.1 hw (t_Rd_addContent_n G _ _ ow fu v28 (nn hno hF)) (kd_Rd_addContent T) (ki_Rd T) (km_Rd_84 T) (ka_Rd_addContent T) (ks_Rd_addContent T) ⟨by decide, by decide, by rfl⟩ (rv_Rd hK hw rfl) rfl (Nat.le_of_ble_eq_true rfl) ⟨by decide, by decide⟩ ⟨by decide, by decide⟩ d_Rd_readSection_58 (fun v M29 r29 H locs hw hp => ?_) (fun x ek M29 r29 H locs hw hE hp => gr_t B hexc hw hE (by decide) (by decide) (hF.trans (bnd_ex hp)))
              obtain ⟨rfl, hp⟩ := hp
              have hF := hF.trans (bnd_ok hp)
              refine lv_aload_n hx hb d_Rd_readSection_61 rfl (lv_at hl 0 rfl) ?_
              refine lv_dup hx hb d_Rd_readSection_62 rfl ?_
              refine gf_Rd_at hx hb T hown hK hw rfl (kf_Rd_18 T) d_Rd_readSection_63 ?_
              refine lv_iconst (v := 1) hx hb d_Rd_readSection_66 (by decide) ?_
              refine lv_iadd hx hb d_Rd_readSection_67 ?_
              refine pf_Rd_at hx hb T hown hK hw rfl (kf_Rd_18 T) d_Rd_readSection_68 (fun H locs hw => ?_)
              refine lv_goto hx hb d_Rd_readSection_71 rfl ?_
              exact ih  _ _ _ _ _ (gv_loc hl [0, 1] rfl) hw hF
  have hF := F_Rd_readSection_n.eq_1 fu M r
  refine lv_aload_n hx hb d_Rd_readSection_0 rfl (lv_at hl 0 rfl) ?_
  refine gl_Rd_301 B G d_Rd_readSection_1 ?_
  refine gy_V B hl.1 hw (t_Rd_passAll G _ _ ow fu 15 (by decide) (nn hno hF)) (kd_Rd_passAll T) (ki_Rd T) (km_Rd_145 T) (ka_Rd_passAll T) (ks_Rd_passAll T) ⟨by decide, by decide, by rfl⟩ (rv_Rd hK hw rfl) rfl (Nat.le_of_ble_eq_true rfl) ⟨by decide, by decide⟩ ⟨by decide, by decide⟩ d_Rd_readSection_4 (fun v M30 r30 H locs hw hp => ?_) (fun x ek M30 r30 H locs hw hE hp => gr_t B hexc hw hE (by decide) (by decide) (hF.trans (bnd_ex hp)))
  obtain ⟨rfl, hp⟩ := hp
  have hF := hF.trans (bnd_ok hp)
  exact L7 fu  _ _ _ _ _ (gv_loc hl [0, 1] rfl) hw hF
set_option maxHeartbeats 4000000 in
set_option maxRecDepth 100000 in
theorem t_Rd_addContent {l : Launch} {s0 : State} {D : va_G} {aC : Nat → ClassId} {a0 : Array Value} (G : gG l s0 D aC a0) (M : gMem) (r : gRef) (ow : Int64) (fu : Nat) (k1 : Nat) (x2 : Int32) (b1 : k1 < 24) (hno : F_Rd_addContent fu k1 x2 M r ≠ .no) : gMet l s0 D aC y_Rd_addContent (Cond.code y_Rd_addContent b_Rd_addContent 3 none) 7 185 0 0 [.ref (s0.heap.size + 380), .ref (s0.heap.size + oEl k1), .int x2] M r ow (qV (F_Rd_addContent fu k1 x2 M r)) (qT (F_Rd_addContent fu k1 x2 M r)) := by
  refine gm_of G (by decide) (Nat.le_of_ble_eq_true rfl) ?_
  intro p e s m below meth c ls B hexc hl hw
  have hx := B.1
  have hb := B.2.1
  have hown := B.2.2.2.2.2.1
  have T := B.2.2.2.2.2.2.1
  have hK := B.2.2.2.2.2.2.2.1
  have hF := F_Rd_addContent.eq_1 fu k1 x2 M r
  refine lv_aload_n hx hb d_Rd_addContent_0 rfl (lv_at hl 0 rfl) ?_
  refine gf_Rd_tree hx hb T hown hK hw rfl (kf_Rd_32 T) d_Rd_addContent_1 ?_
  refine lv_aload_n hx hb d_Rd_addContent_4 rfl (lv_at hl 1 rfl) ?_
  refine lv_iload_n hx hb d_Rd_addContent_5 rfl (lv_at hl 2 rfl) ?_
  refine gy_V B hl.1 hw (t_Tr_addContent G _ _ ow fu k1 x2 b1 (nn hno hF)) (kd_Tr_addContent T) (ki_Tr T) (km_Rd_305 T) (ka_Tr_addContent T) (ks_Tr_addContent T) ⟨by decide, by decide, by rfl⟩ (rv_Tr hK hw rfl) rfl (Nat.le_of_ble_eq_true rfl) ⟨by decide, by decide⟩ ⟨by decide, by decide⟩ d_Rd_addContent_6 (fun v M3 r3 H locs hw hp => ?_) (fun x ek M3 r3 H locs hw hE hp => gr_t B hexc hw hE (by decide) (by decide) (hF.trans (bnd_ex hp)))
  obtain ⟨rfl, hp⟩ := hp
  have hF := hF.trans (bnd_ok hp)
  refine lv_aload_n hx hb d_Rd_addContent_9 rfl (lv_at hl 0 rfl) ?_
  refine gf_Rd_writer hx hb T hown hK hw rfl (kf_Rd_36 T) d_Rd_addContent_10 ?_
  refine lv_iload_n hx hb d_Rd_addContent_13 rfl (lv_at hl 2 rfl) ?_
  refine gy_V B hl.1 hw (t_FW_putContent G _ _ ow fu x2 (nn hno hF)) (kd_FW_putContent T) (ki_FW T) (km_Rd_306 T) (ka_FW_putContent T) (ks_FW_putContent T) ⟨by decide, by decide, by rfl⟩ (rv_FW hK hw rfl) rfl (Nat.le_of_ble_eq_true rfl) ⟨by decide, by decide⟩ ⟨by decide, by decide⟩ d_Rd_addContent_14 (fun v M4 r4 H locs hw hp => ?_) (fun x ek M4 r4 H locs hw hE hp => gr_t B hexc hw hE (by decide) (by decide) (hF.trans (bnd_ex hp)))
  obtain ⟨rfl, hp⟩ := hp
  have hF := hF.trans (bnd_ok hp)
  exact gr_v B hw d_Rd_addContent_17 ⟨rfl, hF⟩
set_option maxHeartbeats 4000000 in
set_option maxRecDepth 100000 in
theorem t_Rd_readSection {l : Launch} {s0 : State} {D : va_G} {aC : Nat → ClassId} {a0 : Array Value} (G : gG l s0 D aC a0) (M : gMem) (r : gRef) (ow : Int64) (fu : Nat) (k1 : Nat) (b1 : k1 < 24) (hno : F_Rd_readSection fu k1 M r ≠ .no) : gMet l s0 D aC y_Rd_readSection (Cond.code y_Rd_readSection b_Rd_readSection 2 none) 9 207 1 6 [.ref (s0.heap.size + 380), .ref (s0.heap.size + oEl k1)] M r ow (qV (F_Rd_readSection fu k1 M r)) (qT (F_Rd_readSection fu k1 M r)) := by
  refine gm_of G (by decide) (Nat.le_of_ble_eq_true rfl) ?_
  intro p e s m below meth c ls B hexc hl hw
  have hx := B.1
  have hb := B.2.1
  have hown := B.2.2.2.2.2.1
  have T := B.2.2.2.2.2.2.1
  have hK := B.2.2.2.2.2.2.2.1
  have X74 : ∀ (M1 : gMem) (r1 : gRef) (H : Heap) (locs : List Loc) (ls : Array Slot), lv_has ls 2 [(0, .ref (s0.heap.size + 380))] → gWd s0 D aC M1 r1 ow H locs → F_Rd_readSection fu k1 M r = F_Rd_readSection_B74 fu k1 M1 r1 → W p l e (gRm 9 207 1 6) s m ([.ref (s0.heap.size + 380), .ref (s0.heap.size + oEl k1)] : List Value).toArray below meth c H locs 0 0 (gt_Q below (gQ s0 D aC ow (qV (F_Rd_readSection fu k1 M r)) (qT (F_Rd_readSection fu k1 M r))) s 0 0 1 6 (fun q => s0.heap.size ≤ q)) (F0 m 74 ls []) := by
    intro  M1 r1 H locs ls hl hw hF
    have hF := hF.trans (F_Rd_readSection_B74.eq_1 _ _ _ _)
    refine lv_aload_n hx hb d_Rd_readSection_74 rfl (lv_at hl 0 rfl) ?_
    refine gl_Rd_303 B G d_Rd_readSection_75 ?_
    refine gy_V B hl.1 hw (t_Rd_passAll G _ _ ow fu 16 (by decide) (nn hno hF)) (kd_Rd_passAll T) (ki_Rd T) (km_Rd_145 T) (ka_Rd_passAll T) (ks_Rd_passAll T) ⟨by decide, by decide, by rfl⟩ (rv_Rd hK hw rfl) rfl (Nat.le_of_ble_eq_true rfl) ⟨by decide, by decide⟩ ⟨by decide, by decide⟩ d_Rd_readSection_78 (fun v M16 r16 H locs hw hp => ?_) (fun x ek M16 r16 H locs hw hE hp => gr_t B hexc hw hE (by decide) (by decide) (hF.trans (bnd_ex hp)))
    obtain ⟨rfl, hp⟩ := hp
    have hF := hF.trans (bnd_ok hp)
    exact gr_v B hw d_Rd_readSection_81 ⟨rfl, hF⟩
  have L7 : ∀ (d : Nat) (M1 : gMem) (r1 : gRef) (H : Heap) (locs : List Loc) (ls : Array Slot), lv_has ls 2 [(0, .ref (s0.heap.size + 380)), (1, .ref (s0.heap.size + oEl k1))] → gWd s0 D aC M1 r1 ow H locs → F_Rd_readSection fu k1 M r = F_Rd_readSection_L7 fu k1 d M1 r1 → W p l e (gRm 9 207 1 6) s m ([.ref (s0.heap.size + 380), .ref (s0.heap.size + oEl k1)] : List Value).toArray below meth c H locs 0 0 (gt_Q below (gQ s0 D aC ow (qV (F_Rd_readSection fu k1 M r)) (qT (F_Rd_readSection fu k1 M r))) s 0 0 1 6 (fun q => s0.heap.size ≤ q)) (F0 m 7 ls []) := by
    intro d
    induction d with
    | zero => intro  M1 r1 H locs ls hl hw hF; exact absurd hF hno
    | succ d ih =>
      intro  M1 r1 H locs ls hl hw hF
      have hF := hF.trans (F_Rd_readSection_L7.eq_2 _ _ _ _ _)
      refine lv_aload_n hx hb d_Rd_readSection_7 rfl (lv_at hl 0 rfl) ?_
      refine gf_Rd_at hx hb T hown hK hw rfl (kf_Rd_18 T) d_Rd_readSection_8 ?_
      refine lv_aload_n hx hb d_Rd_readSection_11 rfl (lv_at hl 0 rfl) ?_
      refine gf_Rd_text hx hb T hown hK hw rfl (kf_Rd_55 T) d_Rd_readSection_12 ?_
      refine gf_Row_size hx hb T hown hK hw (i := 2) (by decide) rfl (kf_Rd_71 T) d_Rd_readSection_15 ?_
      refine lv_icmp_ge hx hb d_Rd_readSection_18 rfl (fun h17 => ?_) (fun h17 => ?_)
      · skip
        have hF := hF.trans (if_pos h17)
        exact X74  _ _ _ _ _ (gv_loc hl [0] rfl) hw hF
      · skip
        have hF := hF.trans (if_neg h17)
        refine lv_aload_n hx hb d_Rd_readSection_21 rfl (lv_at hl 0 rfl) ?_
        refine lv_iconst (v := 0) hx hb d_Rd_readSection_22 (by decide) ?_
        refine gy_V B hl.1 hw (t_Rd_next G _ _ ow fu 0 (nn hno hF)) (kd_Rd_next T) (ki_Rd T) (km_Rd_76 T) (ka_Rd_next T) (ks_Rd_next T) ⟨by decide, by decide, by rfl⟩ (rv_Rd hK hw rfl) rfl (Nat.le_of_ble_eq_true rfl) ⟨by decide, by decide⟩ ⟨by decide, by decide⟩ d_Rd_readSection_23 (fun v M18 r18 H locs hw hp => ?_) (fun x ek M18 r18 H locs hw hE hp => gr_t B hexc hw hE (by decide) (by decide) (hF.trans (bnd_ex hp)))
        obtain ⟨v18, rfl, hp⟩ := hp
        have hF := hF.trans (bnd_ok hp)
        refine lv_bipush (v := 93) hx hb d_Rd_readSection_26 (by decide) ?_
        refine lv_icmp_ne hx hb d_Rd_readSection_28 rfl (fun h19 => ?_) (fun h19 => ?_)
        · skip
          have hF := hF.trans (if_neg h19)
          refine lv_aload_n hx hb d_Rd_readSection_51 rfl (lv_at hl 0 rfl) ?_
          refine lv_aload_n hx hb d_Rd_readSection_52 rfl (lv_at hl 1 rfl) ?_
          refine lv_aload_n hx hb d_Rd_readSection_53 rfl (lv_at hl 0 rfl) ?_
          refine lv_iconst (v := 0) hx hb d_Rd_readSection_54 (by decide) ?_
          refine gy_V B hl.1 hw (t_Rd_next G _ _ ow fu 0 (nn hno hF)) (kd_Rd_next T) (ki_Rd T) (km_Rd_76 T) (ka_Rd_next T) (ks_Rd_next T) ⟨by decide, by decide, by rfl⟩ (rv_Rd hK hw rfl) rfl (Nat.le_of_ble_eq_true rfl) ⟨by decide, by decide⟩ ⟨by decide, by decide⟩ d_Rd_readSection_55 (fun v M20 r20 H locs hw hp => ?_) (fun x ek M20 r20 H locs hw hE hp => gr_t B hexc hw hE (by decide) (by decide) (hF.trans (bnd_ex hp)))
          obtain ⟨v20, rfl, hp⟩ := hp
          have hF := hF.trans (bnd_ok hp)
          refine gy_V B hl.1 hw (t_Rd_addContent G _ _ ow fu k1 v20 b1 (nn hno hF)) (kd_Rd_addContent T) (ki_Rd T) (km_Rd_84 T) (ka_Rd_addContent T) (ks_Rd_addContent T) ⟨by decide, by decide, by rfl⟩ (rv_Rd hK hw rfl) rfl (Nat.le_of_ble_eq_true rfl) ⟨by decide, by decide⟩ ⟨by decide, by decide⟩ d_Rd_readSection_58 (fun v M21 r21 H locs hw hp => ?_) (fun x ek M21 r21 H locs hw hE hp => gr_t B hexc hw hE (by decide) (by decide) (hF.trans (bnd_ex hp)))
          obtain ⟨rfl, hp⟩ := hp
          have hF := hF.trans (bnd_ok hp)
          refine lv_aload_n hx hb d_Rd_readSection_61 rfl (lv_at hl 0 rfl) ?_
          refine lv_dup hx hb d_Rd_readSection_62 rfl ?_
          refine gf_Rd_at hx hb T hown hK hw rfl (kf_Rd_18 T) d_Rd_readSection_63 ?_
          refine lv_iconst (v := 1) hx hb d_Rd_readSection_66 (by decide) ?_
          refine lv_iadd hx hb d_Rd_readSection_67 ?_
          refine pf_Rd_at hx hb T hown hK hw rfl (kf_Rd_18 T) d_Rd_readSection_68 (fun H locs hw => ?_)
          refine lv_goto hx hb d_Rd_readSection_71 rfl ?_
          exact ih  _ _ _ _ _ (gv_loc hl [0, 1] rfl) hw hF
        · skip
          have hF := hF.trans (if_pos h19)
          refine lv_aload_n hx hb d_Rd_readSection_31 rfl (lv_at hl 0 rfl) ?_
          refine lv_iconst (v := 1) hx hb d_Rd_readSection_32 (by decide) ?_
          refine gy_V B hl.1 hw (t_Rd_next G _ _ ow fu 1 (nn hno hF)) (kd_Rd_next T) (ki_Rd T) (km_Rd_76 T) (ka_Rd_next T) (ks_Rd_next T) ⟨by decide, by decide, by rfl⟩ (rv_Rd hK hw rfl) rfl (Nat.le_of_ble_eq_true rfl) ⟨by decide, by decide⟩ ⟨by decide, by decide⟩ d_Rd_readSection_33 (fun v M22 r22 H locs hw hp => ?_) (fun x ek M22 r22 H locs hw hE hp => gr_t B hexc hw hE (by decide) (by decide) (hF.trans (bnd_ex hp)))
          obtain ⟨v22, rfl, hp⟩ := hp
          have hF := hF.trans (bnd_ok hp)
          refine lv_bipush (v := 93) hx hb d_Rd_readSection_36 (by decide) ?_
          refine lv_icmp_ne hx hb d_Rd_readSection_38 rfl (fun h23 => ?_) (fun h23 => ?_)
          · skip
            have hF := hF.trans (if_neg h23)
            refine lv_aload_n hx hb d_Rd_readSection_51 rfl (lv_at hl 0 rfl) ?_
            refine lv_aload_n hx hb d_Rd_readSection_52 rfl (lv_at hl 1 rfl) ?_
            refine lv_aload_n hx hb d_Rd_readSection_53 rfl (lv_at hl 0 rfl) ?_
            refine lv_iconst (v := 0) hx hb d_Rd_readSection_54 (by decide) ?_
            refine gy_V B hl.1 hw (t_Rd_next G _ _ ow fu 0 (nn hno hF)) (kd_Rd_next T) (ki_Rd T) (km_Rd_76 T) (ka_Rd_next T) (ks_Rd_next T) ⟨by decide, by decide, by rfl⟩ (rv_Rd hK hw rfl) rfl (Nat.le_of_ble_eq_true rfl) ⟨by decide, by decide⟩ ⟨by decide, by decide⟩ d_Rd_readSection_55 (fun v M24 r24 H locs hw hp => ?_) (fun x ek M24 r24 H locs hw hE hp => gr_t B hexc hw hE (by decide) (by decide) (hF.trans (bnd_ex hp)))
            obtain ⟨v24, rfl, hp⟩ := hp
            have hF := hF.trans (bnd_ok hp)
            refine gy_V B hl.1 hw (t_Rd_addContent G _ _ ow fu k1 v24 b1 (nn hno hF)) (kd_Rd_addContent T) (ki_Rd T) (km_Rd_84 T) (ka_Rd_addContent T) (ks_Rd_addContent T) ⟨by decide, by decide, by rfl⟩ (rv_Rd hK hw rfl) rfl (Nat.le_of_ble_eq_true rfl) ⟨by decide, by decide⟩ ⟨by decide, by decide⟩ d_Rd_readSection_58 (fun v M25 r25 H locs hw hp => ?_) (fun x ek M25 r25 H locs hw hE hp => gr_t B hexc hw hE (by decide) (by decide) (hF.trans (bnd_ex hp)))
            obtain ⟨rfl, hp⟩ := hp
            have hF := hF.trans (bnd_ok hp)
            refine lv_aload_n hx hb d_Rd_readSection_61 rfl (lv_at hl 0 rfl) ?_
            refine lv_dup hx hb d_Rd_readSection_62 rfl ?_
            refine gf_Rd_at hx hb T hown hK hw rfl (kf_Rd_18 T) d_Rd_readSection_63 ?_
            refine lv_iconst (v := 1) hx hb d_Rd_readSection_66 (by decide) ?_
            refine lv_iadd hx hb d_Rd_readSection_67 ?_
            refine pf_Rd_at hx hb T hown hK hw rfl (kf_Rd_18 T) d_Rd_readSection_68 (fun H locs hw => ?_)
            refine lv_goto hx hb d_Rd_readSection_71 rfl ?_
            exact ih  _ _ _ _ _ (gv_loc hl [0, 1] rfl) hw hF
          · skip
            have hF := hF.trans (if_pos h23)
            refine lv_aload_n hx hb d_Rd_readSection_41 rfl (lv_at hl 0 rfl) ?_
            refine lv_iconst (v := 2) hx hb d_Rd_readSection_42 (by decide) ?_
            refine gy_V B hl.1 hw (t_Rd_next G _ _ ow fu 2 (nn hno hF)) (kd_Rd_next T) (ki_Rd T) (km_Rd_76 T) (ka_Rd_next T) (ks_Rd_next T) ⟨by decide, by decide, by rfl⟩ (rv_Rd hK hw rfl) rfl (Nat.le_of_ble_eq_true rfl) ⟨by decide, by decide⟩ ⟨by decide, by decide⟩ d_Rd_readSection_43 (fun v M26 r26 H locs hw hp => ?_) (fun x ek M26 r26 H locs hw hE hp => gr_t B hexc hw hE (by decide) (by decide) (hF.trans (bnd_ex hp)))
            obtain ⟨v26, rfl, hp⟩ := hp
            have hF := hF.trans (bnd_ok hp)
            refine lv_bipush (v := 62) hx hb d_Rd_readSection_46 (by decide) ?_
            refine lv_icmp_eq hx hb d_Rd_readSection_48 rfl (fun h27 => ?_) (fun h27 => ?_)
            · skip
              have hF := hF.trans (if_pos h27)
              exact X74  _ _ _ _ _ (gv_loc hl [0] rfl) hw hF
            · skip
              have hF := hF.trans (if_neg h27)
              refine lv_aload_n hx hb d_Rd_readSection_51 rfl (lv_at hl 0 rfl) ?_
              refine lv_aload_n hx hb d_Rd_readSection_52 rfl (lv_at hl 1 rfl) ?_
              refine lv_aload_n hx hb d_Rd_readSection_53 rfl (lv_at hl 0 rfl) ?_
              refine lv_iconst (v := 0) hx hb d_Rd_readSection_54 (by decide) ?_
              refine gy_V B hl.1 hw (t_Rd_next G _ _ ow fu 0 (nn hno hF)) (kd_Rd_next T) (ki_Rd T) (km_Rd_76 T) (ka_Rd_next T) (ks_Rd_next T) ⟨by decide, by decide, by rfl⟩ (rv_Rd hK hw rfl) rfl (Nat.le_of_ble_eq_true rfl) ⟨by decide, by decide⟩ ⟨by decide, by decide⟩ d_Rd_readSection_55 (fun v M28 r28 H locs hw hp => ?_) (fun x ek M28 r28 H locs hw hE hp => gr_t B hexc hw hE (by decide) (by decide) (hF.trans (bnd_ex hp)))
              obtain ⟨v28, rfl, hp⟩ := hp
              have hF := hF.trans (bnd_ok hp)
              refine gy_V B hl.1 hw (t_Rd_addContent G _ _ ow fu k1 v28 b1 (nn hno hF)) (kd_Rd_addContent T) (ki_Rd T) (km_Rd_84 T) (ka_Rd_addContent T) (ks_Rd_addContent T) ⟨by decide, by decide, by rfl⟩ (rv_Rd hK hw rfl) rfl (Nat.le_of_ble_eq_true rfl) ⟨by decide, by decide⟩ ⟨by decide, by decide⟩ d_Rd_readSection_58 (fun v M29 r29 H locs hw hp => ?_) (fun x ek M29 r29 H locs hw hE hp => gr_t B hexc hw hE (by decide) (by decide) (hF.trans (bnd_ex hp)))
              obtain ⟨rfl, hp⟩ := hp
              have hF := hF.trans (bnd_ok hp)
              refine lv_aload_n hx hb d_Rd_readSection_61 rfl (lv_at hl 0 rfl) ?_
              refine lv_dup hx hb d_Rd_readSection_62 rfl ?_
              refine gf_Rd_at hx hb T hown hK hw rfl (kf_Rd_18 T) d_Rd_readSection_63 ?_
              refine lv_iconst (v := 1) hx hb d_Rd_readSection_66 (by decide) ?_
              refine lv_iadd hx hb d_Rd_readSection_67 ?_
              refine pf_Rd_at hx hb T hown hK hw rfl (kf_Rd_18 T) d_Rd_readSection_68 (fun H locs hw => ?_)
              refine lv_goto hx hb d_Rd_readSection_71 rfl ?_
              exact ih  _ _ _ _ _ (gv_loc hl [0, 1] rfl) hw hF
  have hF := F_Rd_readSection.eq_1 fu k1 M r
  refine lv_aload_n hx hb d_Rd_readSection_0 rfl (lv_at hl 0 rfl) ?_
  refine gl_Rd_301 B G d_Rd_readSection_1 ?_
  refine gy_V B hl.1 hw (t_Rd_passAll G _ _ ow fu 15 (by decide) (nn hno hF)) (kd_Rd_passAll T) (ki_Rd T) (km_Rd_145 T) (ka_Rd_passAll T) (ks_Rd_passAll T) ⟨by decide, by decide, by rfl⟩ (rv_Rd hK hw rfl) rfl (Nat.le_of_ble_eq_true rfl) ⟨by decide, by decide⟩ ⟨by decide, by decide⟩ d_Rd_readSection_4 (fun v M30 r30 H locs hw hp => ?_) (fun x ek M30 r30 H locs hw hE hp => gr_t B hexc hw hE (by decide) (by decide) (hF.trans (bnd_ex hp)))
  obtain ⟨rfl, hp⟩ := hp
  have hF := hF.trans (bnd_ok hp)
  exact L7 fu  _ _ _ _ _ (gv_loc hl [0, 1] rfl) hw hF
theorem d_Rd_readEndTag_0 : decode b_Rd_readEndTag 0 = .ok (.aload_n 0, 1) := by decide +kernel
theorem d_Rd_readEndTag_1 : decode b_Rd_readEndTag 1 = .ok (.ldc_w 292, 3) := by decide +kernel
theorem d_Rd_readEndTag_4 : decode b_Rd_readEndTag 4 = .ok (.invokevirtual 145, 3) := by decide +kernel
theorem d_Rd_readEndTag_7 : decode b_Rd_readEndTag 7 = .ok (.aload_n 0, 1) := by decide +kernel
theorem d_Rd_readEndTag_8 : decode b_Rd_readEndTag 8 = .ok (.aload_n 0, 1) := by decide +kernel
theorem d_Rd_readEndTag_9 : decode b_Rd_readEndTag 9 = .ok (.getfield 12, 3) := by decide +kernel
theorem d_Rd_readEndTag_12 : decode b_Rd_readEndTag 12 = .ok (.invokevirtual 184, 3) := by decide +kernel
theorem d_Rd_readEndTag_15 : decode b_Rd_readEndTag 15 = .ok (.aload_n 0, 1) := by decide +kernel
theorem d_Rd_readEndTag_16 : decode b_Rd_readEndTag 16 = .ok (.getfield 32, 3) := by decide +kernel
theorem d_Rd_readEndTag_19 : decode b_Rd_readEndTag 19 = .ok (.aload_n 1, 1) := by decide +kernel
theorem d_Rd_readEndTag_20 : decode b_Rd_readEndTag 20 = .ok (.getfield 179, 3) := by decide +kernel
theorem d_Rd_readEndTag_23 : decode b_Rd_readEndTag 23 = .ok (.aload_n 0, 1) := by decide +kernel
theorem d_Rd_readEndTag_24 : decode b_Rd_readEndTag 24 = .ok (.getfield 12, 3) := by decide +kernel
theorem d_Rd_readEndTag_27 : decode b_Rd_readEndTag 27 = .ok (.invokevirtual 294, 3) := by decide +kernel
theorem d_Rd_readEndTag_30 : decode b_Rd_readEndTag 30 = .ok (.ifCond .ne 15, 3) := by decide +kernel
theorem d_Rd_readEndTag_33 : decode b_Rd_readEndTag 33 = .ok (.aload_n 0, 1) := by decide +kernel
theorem d_Rd_readEndTag_34 : decode b_Rd_readEndTag 34 = .ok (.iconst 2, 1) := by decide +kernel
theorem d_Rd_readEndTag_35 : decode b_Rd_readEndTag 35 = .ok (.aload_n 0, 1) := by decide +kernel
theorem d_Rd_readEndTag_36 : decode b_Rd_readEndTag 36 = .ok (.getfield 12, 3) := by decide +kernel
theorem d_Rd_readEndTag_39 : decode b_Rd_readEndTag 39 = .ok (.getfield 156, 3) := by decide +kernel
theorem d_Rd_readEndTag_42 : decode b_Rd_readEndTag 42 = .ok (.invokevirtual 100, 3) := by decide +kernel
theorem d_Rd_readEndTag_45 : decode b_Rd_readEndTag 45 = .ok (.aload_n 0, 1) := by decide +kernel
theorem d_Rd_readEndTag_46 : decode b_Rd_readEndTag 46 = .ok (.invokevirtual 139, 3) := by decide +kernel
theorem d_Rd_readEndTag_49 : decode b_Rd_readEndTag 49 = .ok (.pop, 1) := by decide +kernel
theorem d_Rd_readEndTag_50 : decode b_Rd_readEndTag 50 = .ok (.aload_n 0, 1) := by decide +kernel
theorem d_Rd_readEndTag_51 : decode b_Rd_readEndTag 51 = .ok (.bipush 62, 2) := by decide +kernel
theorem d_Rd_readEndTag_53 : decode b_Rd_readEndTag 53 = .ok (.invokevirtual 131, 3) := by decide +kernel
theorem d_Rd_readEndTag_56 : decode b_Rd_readEndTag 56 = .ok (.aload_n 0, 1) := by decide +kernel
theorem d_Rd_readEndTag_57 : decode b_Rd_readEndTag 57 = .ok (.getfield 36, 3) := by decide +kernel
theorem d_Rd_readEndTag_60 : decode b_Rd_readEndTag 60 = .ok (.aload_n 1, 1) := by decide +kernel
theorem d_Rd_readEndTag_61 : decode b_Rd_readEndTag 61 = .ok (.invokevirtual 226, 3) := by decide +kernel
theorem d_Rd_readEndTag_64 : decode b_Rd_readEndTag 64 = .ok (.aload_n 0, 1) := by decide +kernel
theorem d_Rd_readEndTag_65 : decode b_Rd_readEndTag 65 = .ok (.aload_n 1, 1) := by decide +kernel
theorem d_Rd_readEndTag_66 : decode b_Rd_readEndTag 66 = .ok (.getfield 298, 3) := by decide +kernel
theorem d_Rd_readEndTag_69 : decode b_Rd_readEndTag 69 = .ok (.putfield 22, 3) := by decide +kernel
theorem d_Rd_readEndTag_72 : decode b_Rd_readEndTag 72 = .ok (.return_, 1) := by decide +kernel
set_option maxHeartbeats 4000000 in
set_option maxRecDepth 100000 in
theorem t_Rd_readEndTag_n {l : Launch} {s0 : State} {D : va_G} {aC : Nat → ClassId} {a0 : Array Value} (G : gG l s0 D aC a0) (M : gMem) (r : gRef) (ow : Int64) (fu : Nat)  (hno : F_Rd_readEndTag_n fu M r ≠ .no) : gMet l s0 D aC y_Rd_readEndTag (Cond.code y_Rd_readEndTag b_Rd_readEndTag 2 none) 9 164 1 6 [.ref (s0.heap.size + 380), .null] M r ow (qV (F_Rd_readEndTag_n fu M r)) (qT (F_Rd_readEndTag_n fu M r)) := by
  refine gm_of G (by decide) (Nat.le_of_ble_eq_true rfl) ?_
  intro p e s m below meth c ls B hexc hl hw
  have hx := B.1
  have hb := B.2.1
  have hown := B.2.2.2.2.2.1
  have T := B.2.2.2.2.2.2.1
  have hK := B.2.2.2.2.2.2.2.1
  have hF := F_Rd_readEndTag_n.eq_1 fu M r
  refine lv_aload_n hx hb d_Rd_readEndTag_0 rfl (lv_at hl 0 rfl) ?_
  refine gl_Rd_292 B G d_Rd_readEndTag_1 ?_
  refine gy_V B hl.1 hw (t_Rd_passAll G _ _ ow fu 14 (by decide) (nn hno hF)) (kd_Rd_passAll T) (ki_Rd T) (km_Rd_145 T) (ka_Rd_passAll T) (ks_Rd_passAll T) ⟨by decide, by decide, by rfl⟩ (rv_Rd hK hw rfl) rfl (Nat.le_of_ble_eq_true rfl) ⟨by decide, by decide⟩ ⟨by decide, by decide⟩ d_Rd_readEndTag_4 (fun v M3 r3 H locs hw hp => ?_) (fun x ek M3 r3 H locs hw hE hp => gr_t B hexc hw hE (by decide) (by decide) (hF.trans (bnd_ex hp)))
  obtain ⟨rfl, hp⟩ := hp
  have hF := hF.trans (bnd_ok hp)
  refine lv_aload_n hx hb d_Rd_readEndTag_7 rfl (lv_at hl 0 rfl) ?_
  refine lv_aload_n hx hb d_Rd_readEndTag_8 rfl (lv_at hl 0 rfl) ?_
  refine gf_Rd_endName hx hb T hown hK hw rfl (kf_Rd_12 T) d_Rd_readEndTag_9 ?_
  refine gy_V B hl.1 hw (t_Rd_readName G _ _ ow fu 169 (by decide) (nn hno hF)) (kd_Rd_readName T) (ki_Rd T) (km_Rd_184 T) (ka_Rd_readName T) (ks_Rd_readName T) ⟨by decide, by decide, by rfl⟩ (rv_Rd hK hw rfl) rfl (Nat.le_of_ble_eq_true rfl) ⟨by decide, by decide⟩ ⟨by decide, by decide⟩ d_Rd_readEndTag_12 (fun v M4 r4 H locs hw hp => ?_) (fun x ek M4 r4 H locs hw hE hp => gr_t B hexc hw hE (by decide) (by decide) (hF.trans (bnd_ex hp)))
  obtain ⟨rfl, hp⟩ := hp
  have hF := hF.trans (bnd_ok hp)
  refine lv_aload_n hx hb d_Rd_readEndTag_15 rfl (lv_at hl 0 rfl) ?_
  refine gf_Rd_tree hx hb T hown hK hw rfl (kf_Rd_32 T) d_Rd_readEndTag_16 ?_
  refine lv_aload_nN hx hb d_Rd_readEndTag_19 rfl (lv_at hl 1 rfl) ?_
  exact absurd hF hno
set_option maxHeartbeats 4000000 in
set_option maxRecDepth 100000 in
theorem t_Rd_readEndTag {l : Launch} {s0 : State} {D : va_G} {aC : Nat → ClassId} {a0 : Array Value} (G : gG l s0 D aC a0) (M : gMem) (r : gRef) (ow : Int64) (fu : Nat) (k1 : Nat) (b1 : k1 < 24) (hno : F_Rd_readEndTag fu k1 M r ≠ .no) : gMet l s0 D aC y_Rd_readEndTag (Cond.code y_Rd_readEndTag b_Rd_readEndTag 2 none) 9 185 1 6 [.ref (s0.heap.size + 380), .ref (s0.heap.size + oEl k1)] M r ow (qV (F_Rd_readEndTag fu k1 M r)) (qT (F_Rd_readEndTag fu k1 M r)) := by
  refine gm_of G (by decide) (Nat.le_of_ble_eq_true rfl) ?_
  intro p e s m below meth c ls B hexc hl hw
  have hx := B.1
  have hb := B.2.1
  have hown := B.2.2.2.2.2.1
  have T := B.2.2.2.2.2.2.1
  have hK := B.2.2.2.2.2.2.2.1
  have hF := F_Rd_readEndTag.eq_1 fu k1 M r
  refine lv_aload_n hx hb d_Rd_readEndTag_0 rfl (lv_at hl 0 rfl) ?_
  refine gl_Rd_292 B G d_Rd_readEndTag_1 ?_
  refine gy_V B hl.1 hw (t_Rd_passAll G _ _ ow fu 14 (by decide) (nn hno hF)) (kd_Rd_passAll T) (ki_Rd T) (km_Rd_145 T) (ka_Rd_passAll T) (ks_Rd_passAll T) ⟨by decide, by decide, by rfl⟩ (rv_Rd hK hw rfl) rfl (Nat.le_of_ble_eq_true rfl) ⟨by decide, by decide⟩ ⟨by decide, by decide⟩ d_Rd_readEndTag_4 (fun v M11 r11 H locs hw hp => ?_) (fun x ek M11 r11 H locs hw hE hp => gr_t B hexc hw hE (by decide) (by decide) (hF.trans (bnd_ex hp)))
  obtain ⟨rfl, hp⟩ := hp
  have hF := hF.trans (bnd_ok hp)
  refine lv_aload_n hx hb d_Rd_readEndTag_7 rfl (lv_at hl 0 rfl) ?_
  refine lv_aload_n hx hb d_Rd_readEndTag_8 rfl (lv_at hl 0 rfl) ?_
  refine gf_Rd_endName hx hb T hown hK hw rfl (kf_Rd_12 T) d_Rd_readEndTag_9 ?_
  refine gy_V B hl.1 hw (t_Rd_readName G _ _ ow fu 169 (by decide) (nn hno hF)) (kd_Rd_readName T) (ki_Rd T) (km_Rd_184 T) (ka_Rd_readName T) (ks_Rd_readName T) ⟨by decide, by decide, by rfl⟩ (rv_Rd hK hw rfl) rfl (Nat.le_of_ble_eq_true rfl) ⟨by decide, by decide⟩ ⟨by decide, by decide⟩ d_Rd_readEndTag_12 (fun v M12 r12 H locs hw hp => ?_) (fun x ek M12 r12 H locs hw hE hp => gr_t B hexc hw hE (by decide) (by decide) (hF.trans (bnd_ex hp)))
  obtain ⟨rfl, hp⟩ := hp
  have hF := hF.trans (bnd_ok hp)
  refine lv_aload_n hx hb d_Rd_readEndTag_15 rfl (lv_at hl 0 rfl) ?_
  refine gf_Rd_tree hx hb T hown hK hw rfl (kf_Rd_32 T) d_Rd_readEndTag_16 ?_
  refine lv_aload_n hx hb d_Rd_readEndTag_19 rfl (lv_at hl 1 rfl) ?_
  refine gf_El_name hx hb T hown hK hw (i := k1) b1 rfl (kf_Rd_179 T) d_Rd_readEndTag_20 ?_
  have n13 : 145 + k1 < 170 := by have := b1; omega
  refine lv_aload_n hx hb d_Rd_readEndTag_23 rfl (lv_at hl 0 rfl) ?_
  refine gf_Rd_endName hx hb T hown hK hw rfl (kf_Rd_12 T) d_Rd_readEndTag_24 ?_
  refine gy_V B hl.1 hw (t_Tr_sameName G _ _ ow fu (145 + k1) 169 n13 (by decide) (nn hno hF)) (kd_Tr_sameName T) (ki_Tr T) (km_Rd_294 T) (ka_Tr_sameName T) (ks_Tr_sameName T) ⟨by decide, by decide, by rfl⟩ (rv_Tr hK hw rfl) rfl (Nat.le_of_ble_eq_true rfl) ⟨by decide, by decide⟩ ⟨by decide, by decide⟩ d_Rd_readEndTag_27 (fun v M14 r14 H locs hw hp => ?_) (fun x ek M14 r14 H locs hw hE hp => gr_t B hexc hw hE (by decide) (by decide) (hF.trans (bnd_ex hp)))
  obtain ⟨v14, rfl, hp⟩ := hp
  have hF := hF.trans (bnd_ok hp)
  refine lv_if_ne hx hb d_Rd_readEndTag_30 rfl (fun h15 => ?_) (fun h15 => ?_)
  · skip
    have hF := hF.trans (if_neg h15)
    refine lv_aload_n hx hb d_Rd_readEndTag_45 rfl (lv_at hl 0 rfl) ?_
    refine gy_V B hl.1 hw (t_Rd_passBlanks G _ _ ow fu (nn hno hF)) (kd_Rd_passBlanks T) (ki_Rd T) (km_Rd_139 T) (ka_Rd_passBlanks T) (ks_Rd_passBlanks T) ⟨by decide, by decide, by rfl⟩ (rv_Rd hK hw rfl) rfl (Nat.le_of_ble_eq_true rfl) ⟨by decide, by decide⟩ ⟨by decide, by decide⟩ d_Rd_readEndTag_46 (fun v M16 r16 H locs hw hp => ?_) (fun x ek M16 r16 H locs hw hE hp => gr_t B hexc hw hE (by decide) (by decide) (hF.trans (bnd_ex hp)))
    obtain ⟨v16, rfl, hp⟩ := hp
    have hF := hF.trans (bnd_ok hp)
    refine lv_pop hx hb d_Rd_readEndTag_49 rfl ?_
    refine lv_aload_n hx hb d_Rd_readEndTag_50 rfl (lv_at hl 0 rfl) ?_
    refine lv_bipush (v := 62) hx hb d_Rd_readEndTag_51 (by decide) ?_
    refine gy_V B hl.1 hw (t_Rd_pass G _ _ ow fu 62 (nn hno hF)) (kd_Rd_pass T) (ki_Rd T) (km_Rd_131 T) (ka_Rd_pass T) (ks_Rd_pass T) ⟨by decide, by decide, by rfl⟩ (rv_Rd hK hw rfl) rfl (Nat.le_of_ble_eq_true rfl) ⟨by decide, by decide⟩ ⟨by decide, by decide⟩ d_Rd_readEndTag_53 (fun v M17 r17 H locs hw hp => ?_) (fun x ek M17 r17 H locs hw hE hp => gr_t B hexc hw hE (by decide) (by decide) (hF.trans (bnd_ex hp)))
    obtain ⟨rfl, hp⟩ := hp
    have hF := hF.trans (bnd_ok hp)
    refine lv_aload_n hx hb d_Rd_readEndTag_56 rfl (lv_at hl 0 rfl) ?_
    refine gf_Rd_writer hx hb T hown hK hw rfl (kf_Rd_36 T) d_Rd_readEndTag_57 ?_
    refine lv_aload_n hx hb d_Rd_readEndTag_60 rfl (lv_at hl 1 rfl) ?_
    refine gy_V B hl.1 hw (t_FW_endElement G _ _ ow fu k1 b1 (nn hno hF)) (kd_FW_endElement T) (ki_FW T) (km_Rd_226 T) (ka_FW_endElement T) (ks_FW_endElement T) ⟨by decide, by decide, by rfl⟩ (rv_FW hK hw rfl) rfl (Nat.le_of_ble_eq_true rfl) ⟨by decide, by decide⟩ ⟨by decide, by decide⟩ d_Rd_readEndTag_61 (fun v M18 r18 H locs hw hp => ?_) (fun x ek M18 r18 H locs hw hE hp => gr_t B hexc hw hE (by decide) (by decide) (hF.trans (bnd_ex hp)))
    obtain ⟨rfl, hp⟩ := hp
    have hF := hF.trans (bnd_ok hp)
    refine lv_aload_n hx hb d_Rd_readEndTag_64 rfl (lv_at hl 0 rfl) ?_
    refine lv_aload_n hx hb d_Rd_readEndTag_65 rfl (lv_at hl 1 rfl) ?_
    refine gf_El_around hx hb T hown hK hw (i := k1) b1 rfl (kf_Rd_298 T) d_Rd_readEndTag_66 ?_
    rcases hq19 : r18 1 k1 with _ | k_19
    · skip
      have hF := hF.trans (gcs_none hq19)
      refine pf_Rd_open (y := none) hx hb T hown hK hw rfl (kf_Rd_22 T) d_Rd_readEndTag_69 (fun H locs hw => ?_)
      exact gr_v B hw d_Rd_readEndTag_72 ⟨rfl, hF⟩
    · skip
      have hF := hF.trans (gcs_some hq19)
      have b_19 := ng hno hF
      have hF := hF.trans (gd_yes b_19)
      refine pf_Rd_open (y := (some k_19)) hx hb T hown hK hw rfl (kf_Rd_22 T) d_Rd_readEndTag_69 (fun H locs hw => ?_)
      exact gr_v B hw d_Rd_readEndTag_72 ⟨rfl, hF⟩
  · skip
    have hF := hF.trans (if_pos h15)
    refine lv_aload_n hx hb d_Rd_readEndTag_33 rfl (lv_at hl 0 rfl) ?_
    refine lv_iconst (v := 2) hx hb d_Rd_readEndTag_34 (by decide) ?_
    refine lv_aload_n hx hb d_Rd_readEndTag_35 rfl (lv_at hl 0 rfl) ?_
    refine gf_Rd_endName hx hb T hown hK hw rfl (kf_Rd_12 T) d_Rd_readEndTag_36 ?_
    refine gf_Nm_start hx hb T hown hK hw (i := 169) (by decide) rfl (kf_Rd_156 T) d_Rd_readEndTag_39 ?_
    refine gy_V B hl.1 hw (t_Rd_fail G _ _ ow fu 2 (M14 20 169) (nn hno hF)) (kd_Rd_fail T) (ki_Rd T) (km_Rd_100 T) (ka_Rd_fail T) (ks_Rd_fail T) ⟨by decide, by decide, by rfl⟩ (rv_Rd hK hw rfl) rfl (Nat.le_of_ble_eq_true rfl) ⟨by decide, by decide⟩ ⟨by decide, by decide⟩ d_Rd_readEndTag_42 (fun v M20 r20 H locs hw hp => ?_) (fun x ek M20 r20 H locs hw hE hp => gr_t B hexc hw hE (by decide) (by decide) (hF.trans (bnd_ex hp)))
    obtain ⟨rfl, hp⟩ := hp
    have hF := hF.trans (bnd_ok hp)
    exact absurd hF hno
theorem d_Rd_readPlain_0 : decode b_Rd_readPlain 0 = .ok (.aload_n 0, 1) := by decide +kernel
theorem d_Rd_readPlain_1 : decode b_Rd_readPlain 1 = .ok (.iconst 0, 1) := by decide +kernel
theorem d_Rd_readPlain_2 : decode b_Rd_readPlain 2 = .ok (.invokevirtual 76, 3) := by decide +kernel
theorem d_Rd_readPlain_5 : decode b_Rd_readPlain 5 = .ok (.istore_n 2, 1) := by decide +kernel
theorem d_Rd_readPlain_6 : decode b_Rd_readPlain 6 = .ok (.iload_n 2, 1) := by decide +kernel
theorem d_Rd_readPlain_7 : decode b_Rd_readPlain 7 = .ok (.bipush 62, 2) := by decide +kernel
theorem d_Rd_readPlain_9 : decode b_Rd_readPlain 9 = .ok (.if_icmp .ne 28, 3) := by decide +kernel
theorem d_Rd_readPlain_12 : decode b_Rd_readPlain 12 = .ok (.aload_n 0, 1) := by decide +kernel
theorem d_Rd_readPlain_13 : decode b_Rd_readPlain 13 = .ok (.iconst (-1), 1) := by decide +kernel
theorem d_Rd_readPlain_14 : decode b_Rd_readPlain 14 = .ok (.invokevirtual 76, 3) := by decide +kernel
theorem d_Rd_readPlain_17 : decode b_Rd_readPlain 17 = .ok (.bipush 93, 2) := by decide +kernel
theorem d_Rd_readPlain_19 : decode b_Rd_readPlain 19 = .ok (.if_icmp .ne 18, 3) := by decide +kernel
theorem d_Rd_readPlain_22 : decode b_Rd_readPlain 22 = .ok (.aload_n 0, 1) := by decide +kernel
theorem d_Rd_readPlain_23 : decode b_Rd_readPlain 23 = .ok (.bipush (-2), 2) := by decide +kernel
theorem d_Rd_readPlain_25 : decode b_Rd_readPlain 25 = .ok (.invokevirtual 76, 3) := by decide +kernel
theorem d_Rd_readPlain_28 : decode b_Rd_readPlain 28 = .ok (.bipush 93, 2) := by decide +kernel
theorem d_Rd_readPlain_30 : decode b_Rd_readPlain 30 = .ok (.if_icmp .ne 7, 3) := by decide +kernel
theorem d_Rd_readPlain_33 : decode b_Rd_readPlain 33 = .ok (.iconst 1, 1) := by decide +kernel
theorem d_Rd_readPlain_34 : decode b_Rd_readPlain 34 = .ok (.goto 4, 3) := by decide +kernel
theorem d_Rd_readPlain_37 : decode b_Rd_readPlain 37 = .ok (.iconst 0, 1) := by decide +kernel
theorem d_Rd_readPlain_38 : decode b_Rd_readPlain 38 = .ok (.istore_n 3, 1) := by decide +kernel
theorem d_Rd_readPlain_39 : decode b_Rd_readPlain 39 = .ok (.iload_n 2, 1) := by decide +kernel
theorem d_Rd_readPlain_40 : decode b_Rd_readPlain 40 = .ok (.ifCond .eq 7, 3) := by decide +kernel
theorem d_Rd_readPlain_43 : decode b_Rd_readPlain 43 = .ok (.iload_n 3, 1) := by decide +kernel
theorem d_Rd_readPlain_44 : decode b_Rd_readPlain 44 = .ok (.ifCond .eq 12, 3) := by decide +kernel
theorem d_Rd_readPlain_47 : decode b_Rd_readPlain 47 = .ok (.aload_n 0, 1) := by decide +kernel
theorem d_Rd_readPlain_48 : decode b_Rd_readPlain 48 = .ok (.iconst 1, 1) := by decide +kernel
theorem d_Rd_readPlain_49 : decode b_Rd_readPlain 49 = .ok (.aload_n 0, 1) := by decide +kernel
theorem d_Rd_readPlain_50 : decode b_Rd_readPlain 50 = .ok (.getfield 18, 3) := by decide +kernel
theorem d_Rd_readPlain_53 : decode b_Rd_readPlain 53 = .ok (.invokevirtual 100, 3) := by decide +kernel
theorem d_Rd_readPlain_56 : decode b_Rd_readPlain 56 = .ok (.aload_n 0, 1) := by decide +kernel
theorem d_Rd_readPlain_57 : decode b_Rd_readPlain 57 = .ok (.aload_n 1, 1) := by decide +kernel
theorem d_Rd_readPlain_58 : decode b_Rd_readPlain 58 = .ok (.iload_n 2, 1) := by decide +kernel
theorem d_Rd_readPlain_59 : decode b_Rd_readPlain 59 = .ok (.invokevirtual 84, 3) := by decide +kernel
theorem d_Rd_readPlain_62 : decode b_Rd_readPlain 62 = .ok (.aload_n 0, 1) := by decide +kernel
theorem d_Rd_readPlain_63 : decode b_Rd_readPlain 63 = .ok (.dup, 1) := by decide +kernel
theorem d_Rd_readPlain_64 : decode b_Rd_readPlain 64 = .ok (.getfield 18, 3) := by decide +kernel
theorem d_Rd_readPlain_67 : decode b_Rd_readPlain 67 = .ok (.iconst 1, 1) := by decide +kernel
theorem d_Rd_readPlain_68 : decode b_Rd_readPlain 68 = .ok (.iadd, 1) := by decide +kernel
theorem d_Rd_readPlain_69 : decode b_Rd_readPlain 69 = .ok (.putfield 18, 3) := by decide +kernel
theorem d_Rd_readPlain_72 : decode b_Rd_readPlain 72 = .ok (.return_, 1) := by decide +kernel
set_option maxHeartbeats 4000000 in
set_option maxRecDepth 100000 in
theorem t_Rd_readPlain_n {l : Launch} {s0 : State} {D : va_G} {aC : Nat → ClassId} {a0 : Array Value} (G : gG l s0 D aC a0) (M : gMem) (r : gRef) (ow : Int64) (fu : Nat)  (hno : F_Rd_readPlain_n fu M r ≠ .no) : gMet l s0 D aC y_Rd_readPlain (Cond.code y_Rd_readPlain b_Rd_readPlain 4 none) 8 207 1 6 [.ref (s0.heap.size + 380), .null] M r ow (qV (F_Rd_readPlain_n fu M r)) (qT (F_Rd_readPlain_n fu M r)) := by
  refine gm_of G (by decide) (Nat.le_of_ble_eq_true rfl) ?_
  intro p e s m below meth c ls B hexc hl hw
  have hx := B.1
  have hb := B.2.1
  have hown := B.2.2.2.2.2.1
  have T := B.2.2.2.2.2.2.1
  have hK := B.2.2.2.2.2.2.2.1
  have hF := F_Rd_readPlain_n.eq_1 fu M r
  refine lv_aload_n hx hb d_Rd_readPlain_0 rfl (lv_at hl 0 rfl) ?_
  refine lv_iconst (v := 0) hx hb d_Rd_readPlain_1 (by decide) ?_
  refine gy_V B hl.1 hw (t_Rd_next G _ _ ow fu 0 (nn hno hF)) (kd_Rd_next T) (ki_Rd T) (km_Rd_76 T) (ka_Rd_next T) (ks_Rd_next T) ⟨by decide, by decide, by rfl⟩ (rv_Rd hK hw rfl) rfl (Nat.le_of_ble_eq_true rfl) ⟨by decide, by decide⟩ ⟨by decide, by decide⟩ d_Rd_readPlain_2 (fun v M19 r19 H locs hw hp => ?_) (fun x ek M19 r19 H locs hw hE hp => gr_t B hexc hw hE (by decide) (by decide) (hF.trans (bnd_ex hp)))
  obtain ⟨v19, rfl, hp⟩ := hp
  have hF := hF.trans (bnd_ok hp)
  refine lv_istore_n hx hb d_Rd_readPlain_5 rfl hl (by decide) rfl (fun ls hl => ?_)
  refine lv_iload_n hx hb d_Rd_readPlain_6 rfl (lv_at hl 0 rfl) ?_
  refine lv_bipush (v := 62) hx hb d_Rd_readPlain_7 (by decide) ?_
  refine lv_icmp_ne hx hb d_Rd_readPlain_9 rfl (fun h20 => ?_) (fun h20 => ?_)
  · skip
    have hF := hF.trans (if_neg h20)
    refine lv_iconst (v := 0) hx hb d_Rd_readPlain_37 (by decide) ?_
    refine lv_istore_n hx hb d_Rd_readPlain_38 rfl hl (by decide) rfl (fun ls hl => ?_)
    refine lv_iload_n hx hb d_Rd_readPlain_39 rfl (lv_at hl 1 rfl) ?_
    refine lv_if_eq hx hb d_Rd_readPlain_40 rfl (fun h21 => ?_) (fun h21 => ?_)
    · skip
      have hF := hF.trans (if_pos h21)
      refine lv_aload_n hx hb d_Rd_readPlain_47 rfl (lv_at hl 2 rfl) ?_
      refine lv_iconst (v := 1) hx hb d_Rd_readPlain_48 (by decide) ?_
      refine lv_aload_n hx hb d_Rd_readPlain_49 rfl (lv_at hl 2 rfl) ?_
      refine gf_Rd_at hx hb T hown hK hw rfl (kf_Rd_18 T) d_Rd_readPlain_50 ?_
      refine gy_V B hl.1 hw (t_Rd_fail G _ _ ow fu 1 (M19 35 0) (nn hno hF)) (kd_Rd_fail T) (ki_Rd T) (km_Rd_100 T) (ka_Rd_fail T) (ks_Rd_fail T) ⟨by decide, by decide, by rfl⟩ (rv_Rd hK hw rfl) rfl (Nat.le_of_ble_eq_true rfl) ⟨by decide, by decide⟩ ⟨by decide, by decide⟩ d_Rd_readPlain_53 (fun v M22 r22 H locs hw hp => ?_) (fun x ek M22 r22 H locs hw hE hp => gr_t B hexc hw hE (by decide) (by decide) (hF.trans (bnd_ex hp)))
      obtain ⟨rfl, hp⟩ := hp
      have hF := hF.trans (bnd_ok hp)
      exact absurd hF hno
    · skip
      have hF := hF.trans (if_neg h21)
      refine lv_iload_n hx hb d_Rd_readPlain_43 rfl (lv_at hl 0 rfl) ?_
      refine lv_if_eq hx hb d_Rd_readPlain_44 rfl (fun _ => ?_) (fun h => absurd h (by decide))
      refine lv_aload_n hx hb d_Rd_readPlain_56 rfl (lv_at hl 2 rfl) ?_
      refine lv_aload_nN hx hb d_Rd_readPlain_57 rfl (lv_at hl 3 rfl) ?_
      refine lv_iload_n hx hb d_Rd_readPlain_58 rfl (lv_at hl 1 rfl) ?_
      refine gy_V B hl.1 hw (t_Rd_addContent_n G _ _ ow fu v19 (nn hno hF)) (kd_Rd_addContent T) (ki_Rd T) (km_Rd_84 T) (ka_Rd_addContent T) (ks_Rd_addContent T) ⟨by decide, by decide, by rfl⟩ (rv_Rd hK hw rfl) rfl (Nat.le_of_ble_eq_true rfl) ⟨by decide, by decide⟩ ⟨by decide, by decide⟩ d_Rd_readPlain_59 (fun v M23 r23 H locs hw hp => ?_) (fun x ek M23 r23 H locs hw hE hp => gr_t B hexc hw hE (by decide) (by decide) (hF.trans (bnd_ex hp)))
      obtain ⟨rfl, hp⟩ := hp
      have hF := hF.trans (bnd_ok hp)
      refine lv_aload_n hx hb d_Rd_readPlain_62 rfl (lv_at hl 2 rfl) ?_
      refine lv_dup hx hb d_Rd_readPlain_63 rfl ?_
      refine gf_Rd_at hx hb T hown hK hw rfl (kf_Rd_18 T) d_Rd_readPlain_64 ?_
      refine lv_iconst (v := 1) hx hb d_Rd_readPlain_67 (by decide) ?_
      refine lv_iadd hx hb d_Rd_readPlain_68 ?_
      refine pf_Rd_at hx hb T hown hK hw rfl (kf_Rd_18 T) d_Rd_readPlain_69 (fun H locs hw => ?_)
      exact gr_v B hw d_Rd_readPlain_72 ⟨rfl, hF⟩
  · skip
    have hF := hF.trans (if_pos h20)
    refine lv_aload_n hx hb d_Rd_readPlain_12 rfl (lv_at hl 1 rfl) ?_
    refine lv_iconst (v := -1) hx hb d_Rd_readPlain_13 (by decide) ?_
    refine gy_V B hl.1 hw (t_Rd_next G _ _ ow fu (-1) (nn hno hF)) (kd_Rd_next T) (ki_Rd T) (km_Rd_76 T) (ka_Rd_next T) (ks_Rd_next T) ⟨by decide, by decide, by rfl⟩ (rv_Rd hK hw rfl) rfl (Nat.le_of_ble_eq_true rfl) ⟨by decide, by decide⟩ ⟨by decide, by decide⟩ d_Rd_readPlain_14 (fun v M24 r24 H locs hw hp => ?_) (fun x ek M24 r24 H locs hw hE hp => gr_t B hexc hw hE (by decide) (by decide) (hF.trans (bnd_ex hp)))
    obtain ⟨v24, rfl, hp⟩ := hp
    have hF := hF.trans (bnd_ok hp)
    refine lv_bipush (v := 93) hx hb d_Rd_readPlain_17 (by decide) ?_
    refine lv_icmp_ne hx hb d_Rd_readPlain_19 rfl (fun h25 => ?_) (fun h25 => ?_)
    · skip
      have hF := hF.trans (if_neg h25)
      refine lv_iconst (v := 0) hx hb d_Rd_readPlain_37 (by decide) ?_
      refine lv_istore_n hx hb d_Rd_readPlain_38 rfl hl (by decide) rfl (fun ls hl => ?_)
      refine lv_iload_n hx hb d_Rd_readPlain_39 rfl (lv_at hl 1 rfl) ?_
      refine lv_if_eq hx hb d_Rd_readPlain_40 rfl (fun h26 => ?_) (fun h26 => ?_)
      · skip
        have hF := hF.trans (if_pos h26)
        refine lv_aload_n hx hb d_Rd_readPlain_47 rfl (lv_at hl 2 rfl) ?_
        refine lv_iconst (v := 1) hx hb d_Rd_readPlain_48 (by decide) ?_
        refine lv_aload_n hx hb d_Rd_readPlain_49 rfl (lv_at hl 2 rfl) ?_
        refine gf_Rd_at hx hb T hown hK hw rfl (kf_Rd_18 T) d_Rd_readPlain_50 ?_
        refine gy_V B hl.1 hw (t_Rd_fail G _ _ ow fu 1 (M24 35 0) (nn hno hF)) (kd_Rd_fail T) (ki_Rd T) (km_Rd_100 T) (ka_Rd_fail T) (ks_Rd_fail T) ⟨by decide, by decide, by rfl⟩ (rv_Rd hK hw rfl) rfl (Nat.le_of_ble_eq_true rfl) ⟨by decide, by decide⟩ ⟨by decide, by decide⟩ d_Rd_readPlain_53 (fun v M27 r27 H locs hw hp => ?_) (fun x ek M27 r27 H locs hw hE hp => gr_t B hexc hw hE (by decide) (by decide) (hF.trans (bnd_ex hp)))
        obtain ⟨rfl, hp⟩ := hp
        have hF := hF.trans (bnd_ok hp)
        exact absurd hF hno
      · skip
        have hF := hF.trans (if_neg h26)
        refine lv_iload_n hx hb d_Rd_readPlain_43 rfl (lv_at hl 0 rfl) ?_
        refine lv_if_eq hx hb d_Rd_readPlain_44 rfl (fun _ => ?_) (fun h => absurd h (by decide))
        refine lv_aload_n hx hb d_Rd_readPlain_56 rfl (lv_at hl 2 rfl) ?_
        refine lv_aload_nN hx hb d_Rd_readPlain_57 rfl (lv_at hl 3 rfl) ?_
        refine lv_iload_n hx hb d_Rd_readPlain_58 rfl (lv_at hl 1 rfl) ?_
        refine gy_V B hl.1 hw (t_Rd_addContent_n G _ _ ow fu v19 (nn hno hF)) (kd_Rd_addContent T) (ki_Rd T) (km_Rd_84 T) (ka_Rd_addContent T) (ks_Rd_addContent T) ⟨by decide, by decide, by rfl⟩ (rv_Rd hK hw rfl) rfl (Nat.le_of_ble_eq_true rfl) ⟨by decide, by decide⟩ ⟨by decide, by decide⟩ d_Rd_readPlain_59 (fun v M28 r28 H locs hw hp => ?_) (fun x ek M28 r28 H locs hw hE hp => gr_t B hexc hw hE (by decide) (by decide) (hF.trans (bnd_ex hp)))
        obtain ⟨rfl, hp⟩ := hp
        have hF := hF.trans (bnd_ok hp)
        refine lv_aload_n hx hb d_Rd_readPlain_62 rfl (lv_at hl 2 rfl) ?_
        refine lv_dup hx hb d_Rd_readPlain_63 rfl ?_
        refine gf_Rd_at hx hb T hown hK hw rfl (kf_Rd_18 T) d_Rd_readPlain_64 ?_
        refine lv_iconst (v := 1) hx hb d_Rd_readPlain_67 (by decide) ?_
        refine lv_iadd hx hb d_Rd_readPlain_68 ?_
        refine pf_Rd_at hx hb T hown hK hw rfl (kf_Rd_18 T) d_Rd_readPlain_69 (fun H locs hw => ?_)
        exact gr_v B hw d_Rd_readPlain_72 ⟨rfl, hF⟩
    · skip
      have hF := hF.trans (if_pos h25)
      refine lv_aload_n hx hb d_Rd_readPlain_22 rfl (lv_at hl 1 rfl) ?_
      refine lv_bipush (v := -2) hx hb d_Rd_readPlain_23 (by decide) ?_
      refine gy_V B hl.1 hw (t_Rd_next G _ _ ow fu (-2) (nn hno hF)) (kd_Rd_next T) (ki_Rd T) (km_Rd_76 T) (ka_Rd_next T) (ks_Rd_next T) ⟨by decide, by decide, by rfl⟩ (rv_Rd hK hw rfl) rfl (Nat.le_of_ble_eq_true rfl) ⟨by decide, by decide⟩ ⟨by decide, by decide⟩ d_Rd_readPlain_25 (fun v M29 r29 H locs hw hp => ?_) (fun x ek M29 r29 H locs hw hE hp => gr_t B hexc hw hE (by decide) (by decide) (hF.trans (bnd_ex hp)))
      obtain ⟨v29, rfl, hp⟩ := hp
      have hF := hF.trans (bnd_ok hp)
      refine lv_bipush (v := 93) hx hb d_Rd_readPlain_28 (by decide) ?_
      refine lv_icmp_ne hx hb d_Rd_readPlain_30 rfl (fun h30 => ?_) (fun h30 => ?_)
      · skip
        have hF := hF.trans (if_neg h30)
        refine lv_iconst (v := 0) hx hb d_Rd_readPlain_37 (by decide) ?_
        refine lv_istore_n hx hb d_Rd_readPlain_38 rfl hl (by decide) rfl (fun ls hl => ?_)
        refine lv_iload_n hx hb d_Rd_readPlain_39 rfl (lv_at hl 1 rfl) ?_
        refine lv_if_eq hx hb d_Rd_readPlain_40 rfl (fun h31 => ?_) (fun h31 => ?_)
        · skip
          have hF := hF.trans (if_pos h31)
          refine lv_aload_n hx hb d_Rd_readPlain_47 rfl (lv_at hl 2 rfl) ?_
          refine lv_iconst (v := 1) hx hb d_Rd_readPlain_48 (by decide) ?_
          refine lv_aload_n hx hb d_Rd_readPlain_49 rfl (lv_at hl 2 rfl) ?_
          refine gf_Rd_at hx hb T hown hK hw rfl (kf_Rd_18 T) d_Rd_readPlain_50 ?_
          refine gy_V B hl.1 hw (t_Rd_fail G _ _ ow fu 1 (M29 35 0) (nn hno hF)) (kd_Rd_fail T) (ki_Rd T) (km_Rd_100 T) (ka_Rd_fail T) (ks_Rd_fail T) ⟨by decide, by decide, by rfl⟩ (rv_Rd hK hw rfl) rfl (Nat.le_of_ble_eq_true rfl) ⟨by decide, by decide⟩ ⟨by decide, by decide⟩ d_Rd_readPlain_53 (fun v M32 r32 H locs hw hp => ?_) (fun x ek M32 r32 H locs hw hE hp => gr_t B hexc hw hE (by decide) (by decide) (hF.trans (bnd_ex hp)))
          obtain ⟨rfl, hp⟩ := hp
          have hF := hF.trans (bnd_ok hp)
          exact absurd hF hno
        · skip
          have hF := hF.trans (if_neg h31)
          refine lv_iload_n hx hb d_Rd_readPlain_43 rfl (lv_at hl 0 rfl) ?_
          refine lv_if_eq hx hb d_Rd_readPlain_44 rfl (fun _ => ?_) (fun h => absurd h (by decide))
          refine lv_aload_n hx hb d_Rd_readPlain_56 rfl (lv_at hl 2 rfl) ?_
          refine lv_aload_nN hx hb d_Rd_readPlain_57 rfl (lv_at hl 3 rfl) ?_
          refine lv_iload_n hx hb d_Rd_readPlain_58 rfl (lv_at hl 1 rfl) ?_
          refine gy_V B hl.1 hw (t_Rd_addContent_n G _ _ ow fu v19 (nn hno hF)) (kd_Rd_addContent T) (ki_Rd T) (km_Rd_84 T) (ka_Rd_addContent T) (ks_Rd_addContent T) ⟨by decide, by decide, by rfl⟩ (rv_Rd hK hw rfl) rfl (Nat.le_of_ble_eq_true rfl) ⟨by decide, by decide⟩ ⟨by decide, by decide⟩ d_Rd_readPlain_59 (fun v M33 r33 H locs hw hp => ?_) (fun x ek M33 r33 H locs hw hE hp => gr_t B hexc hw hE (by decide) (by decide) (hF.trans (bnd_ex hp)))
          obtain ⟨rfl, hp⟩ := hp
          have hF := hF.trans (bnd_ok hp)
          refine lv_aload_n hx hb d_Rd_readPlain_62 rfl (lv_at hl 2 rfl) ?_
          refine lv_dup hx hb d_Rd_readPlain_63 rfl ?_
          refine gf_Rd_at hx hb T hown hK hw rfl (kf_Rd_18 T) d_Rd_readPlain_64 ?_
          refine lv_iconst (v := 1) hx hb d_Rd_readPlain_67 (by decide) ?_
          refine lv_iadd hx hb d_Rd_readPlain_68 ?_
          refine pf_Rd_at hx hb T hown hK hw rfl (kf_Rd_18 T) d_Rd_readPlain_69 (fun H locs hw => ?_)
          exact gr_v B hw d_Rd_readPlain_72 ⟨rfl, hF⟩
      · skip
        have hF := hF.trans (if_pos h30)
        refine lv_iconst (v := 1) hx hb d_Rd_readPlain_33 (by decide) ?_
        refine lv_goto hx hb d_Rd_readPlain_34 rfl ?_
        refine lv_istore_n hx hb d_Rd_readPlain_38 rfl hl (by decide) rfl (fun ls hl => ?_)
        refine lv_iload_n hx hb d_Rd_readPlain_39 rfl (lv_at hl 1 rfl) ?_
        refine lv_if_eq hx hb d_Rd_readPlain_40 rfl (fun h34 => ?_) (fun h34 => ?_)
        · skip
          have hF := hF.trans (if_pos h34)
          refine lv_aload_n hx hb d_Rd_readPlain_47 rfl (lv_at hl 2 rfl) ?_
          refine lv_iconst (v := 1) hx hb d_Rd_readPlain_48 (by decide) ?_
          refine lv_aload_n hx hb d_Rd_readPlain_49 rfl (lv_at hl 2 rfl) ?_
          refine gf_Rd_at hx hb T hown hK hw rfl (kf_Rd_18 T) d_Rd_readPlain_50 ?_
          refine gy_V B hl.1 hw (t_Rd_fail G _ _ ow fu 1 (M29 35 0) (nn hno hF)) (kd_Rd_fail T) (ki_Rd T) (km_Rd_100 T) (ka_Rd_fail T) (ks_Rd_fail T) ⟨by decide, by decide, by rfl⟩ (rv_Rd hK hw rfl) rfl (Nat.le_of_ble_eq_true rfl) ⟨by decide, by decide⟩ ⟨by decide, by decide⟩ d_Rd_readPlain_53 (fun v M35 r35 H locs hw hp => ?_) (fun x ek M35 r35 H locs hw hE hp => gr_t B hexc hw hE (by decide) (by decide) (hF.trans (bnd_ex hp)))
          obtain ⟨rfl, hp⟩ := hp
          have hF := hF.trans (bnd_ok hp)
          exact absurd hF hno
        · skip
          have hF := hF.trans (if_neg h34)
          refine lv_iload_n hx hb d_Rd_readPlain_43 rfl (lv_at hl 0 rfl) ?_
          refine lv_if_eq hx hb d_Rd_readPlain_44 rfl (fun h => absurd h (by decide)) (fun _ => ?_)
          refine lv_aload_n hx hb d_Rd_readPlain_47 rfl (lv_at hl 2 rfl) ?_
          refine lv_iconst (v := 1) hx hb d_Rd_readPlain_48 (by decide) ?_
          refine lv_aload_n hx hb d_Rd_readPlain_49 rfl (lv_at hl 2 rfl) ?_
          refine gf_Rd_at hx hb T hown hK hw rfl (kf_Rd_18 T) d_Rd_readPlain_50 ?_
          refine gy_V B hl.1 hw (t_Rd_fail G _ _ ow fu 1 (M29 35 0) (nn hno hF)) (kd_Rd_fail T) (ki_Rd T) (km_Rd_100 T) (ka_Rd_fail T) (ks_Rd_fail T) ⟨by decide, by decide, by rfl⟩ (rv_Rd hK hw rfl) rfl (Nat.le_of_ble_eq_true rfl) ⟨by decide, by decide⟩ ⟨by decide, by decide⟩ d_Rd_readPlain_53 (fun v M36 r36 H locs hw hp => ?_) (fun x ek M36 r36 H locs hw hE hp => gr_t B hexc hw hE (by decide) (by decide) (hF.trans (bnd_ex hp)))
          obtain ⟨rfl, hp⟩ := hp
          have hF := hF.trans (bnd_ok hp)
          exact absurd hF hno
set_option maxHeartbeats 4000000 in
set_option maxRecDepth 100000 in
theorem t_Rd_readPlain {l : Launch} {s0 : State} {D : va_G} {aC : Nat → ClassId} {a0 : Array Value} (G : gG l s0 D aC a0) (M : gMem) (r : gRef) (ow : Int64) (fu : Nat) (k1 : Nat) (b1 : k1 < 24) (hno : F_Rd_readPlain fu k1 M r ≠ .no) : gMet l s0 D aC y_Rd_readPlain (Cond.code y_Rd_readPlain b_Rd_readPlain 4 none) 8 207 1 6 [.ref (s0.heap.size + 380), .ref (s0.heap.size + oEl k1)] M r ow (qV (F_Rd_readPlain fu k1 M r)) (qT (F_Rd_readPlain fu k1 M r)) := by
  refine gm_of G (by decide) (Nat.le_of_ble_eq_true rfl) ?_
  intro p e s m below meth c ls B hexc hl hw
  have hx := B.1
  have hb := B.2.1
  have hown := B.2.2.2.2.2.1
  have T := B.2.2.2.2.2.2.1
  have hK := B.2.2.2.2.2.2.2.1
  have hF := F_Rd_readPlain.eq_1 fu k1 M r
  refine lv_aload_n hx hb d_Rd_readPlain_0 rfl (lv_at hl 0 rfl) ?_
  refine lv_iconst (v := 0) hx hb d_Rd_readPlain_1 (by decide) ?_
  refine gy_V B hl.1 hw (t_Rd_next G _ _ ow fu 0 (nn hno hF)) (kd_Rd_next T) (ki_Rd T) (km_Rd_76 T) (ka_Rd_next T) (ks_Rd_next T) ⟨by decide, by decide, by rfl⟩ (rv_Rd hK hw rfl) rfl (Nat.le_of_ble_eq_true rfl) ⟨by decide, by decide⟩ ⟨by decide, by decide⟩ d_Rd_readPlain_2 (fun v M19 r19 H locs hw hp => ?_) (fun x ek M19 r19 H locs hw hE hp => gr_t B hexc hw hE (by decide) (by decide) (hF.trans (bnd_ex hp)))
  obtain ⟨v19, rfl, hp⟩ := hp
  have hF := hF.trans (bnd_ok hp)
  refine lv_istore_n hx hb d_Rd_readPlain_5 rfl hl (by decide) rfl (fun ls hl => ?_)
  refine lv_iload_n hx hb d_Rd_readPlain_6 rfl (lv_at hl 0 rfl) ?_
  refine lv_bipush (v := 62) hx hb d_Rd_readPlain_7 (by decide) ?_
  refine lv_icmp_ne hx hb d_Rd_readPlain_9 rfl (fun h20 => ?_) (fun h20 => ?_)
  · skip
    have hF := hF.trans (if_neg h20)
    refine lv_iconst (v := 0) hx hb d_Rd_readPlain_37 (by decide) ?_
    refine lv_istore_n hx hb d_Rd_readPlain_38 rfl hl (by decide) rfl (fun ls hl => ?_)
    refine lv_iload_n hx hb d_Rd_readPlain_39 rfl (lv_at hl 1 rfl) ?_
    refine lv_if_eq hx hb d_Rd_readPlain_40 rfl (fun h21 => ?_) (fun h21 => ?_)
    · skip
      have hF := hF.trans (if_pos h21)
      refine lv_aload_n hx hb d_Rd_readPlain_47 rfl (lv_at hl 2 rfl) ?_
      refine lv_iconst (v := 1) hx hb d_Rd_readPlain_48 (by decide) ?_
      refine lv_aload_n hx hb d_Rd_readPlain_49 rfl (lv_at hl 2 rfl) ?_
      refine gf_Rd_at hx hb T hown hK hw rfl (kf_Rd_18 T) d_Rd_readPlain_50 ?_
      refine gy_V B hl.1 hw (t_Rd_fail G _ _ ow fu 1 (M19 35 0) (nn hno hF)) (kd_Rd_fail T) (ki_Rd T) (km_Rd_100 T) (ka_Rd_fail T) (ks_Rd_fail T) ⟨by decide, by decide, by rfl⟩ (rv_Rd hK hw rfl) rfl (Nat.le_of_ble_eq_true rfl) ⟨by decide, by decide⟩ ⟨by decide, by decide⟩ d_Rd_readPlain_53 (fun v M22 r22 H locs hw hp => ?_) (fun x ek M22 r22 H locs hw hE hp => gr_t B hexc hw hE (by decide) (by decide) (hF.trans (bnd_ex hp)))
      obtain ⟨rfl, hp⟩ := hp
      have hF := hF.trans (bnd_ok hp)
      exact absurd hF hno
    · skip
      have hF := hF.trans (if_neg h21)
      refine lv_iload_n hx hb d_Rd_readPlain_43 rfl (lv_at hl 0 rfl) ?_
      refine lv_if_eq hx hb d_Rd_readPlain_44 rfl (fun _ => ?_) (fun h => absurd h (by decide))
      refine lv_aload_n hx hb d_Rd_readPlain_56 rfl (lv_at hl 2 rfl) ?_
      refine lv_aload_n hx hb d_Rd_readPlain_57 rfl (lv_at hl 3 rfl) ?_
      refine lv_iload_n hx hb d_Rd_readPlain_58 rfl (lv_at hl 1 rfl) ?_
      refine gy_V B hl.1 hw (t_Rd_addContent G _ _ ow fu k1 v19 b1 (nn hno hF)) (kd_Rd_addContent T) (ki_Rd T) (km_Rd_84 T) (ka_Rd_addContent T) (ks_Rd_addContent T) ⟨by decide, by decide, by rfl⟩ (rv_Rd hK hw rfl) rfl (Nat.le_of_ble_eq_true rfl) ⟨by decide, by decide⟩ ⟨by decide, by decide⟩ d_Rd_readPlain_59 (fun v M23 r23 H locs hw hp => ?_) (fun x ek M23 r23 H locs hw hE hp => gr_t B hexc hw hE (by decide) (by decide) (hF.trans (bnd_ex hp)))
      obtain ⟨rfl, hp⟩ := hp
      have hF := hF.trans (bnd_ok hp)
      refine lv_aload_n hx hb d_Rd_readPlain_62 rfl (lv_at hl 2 rfl) ?_
      refine lv_dup hx hb d_Rd_readPlain_63 rfl ?_
      refine gf_Rd_at hx hb T hown hK hw rfl (kf_Rd_18 T) d_Rd_readPlain_64 ?_
      refine lv_iconst (v := 1) hx hb d_Rd_readPlain_67 (by decide) ?_
      refine lv_iadd hx hb d_Rd_readPlain_68 ?_
      refine pf_Rd_at hx hb T hown hK hw rfl (kf_Rd_18 T) d_Rd_readPlain_69 (fun H locs hw => ?_)
      exact gr_v B hw d_Rd_readPlain_72 ⟨rfl, hF⟩
  · skip
    have hF := hF.trans (if_pos h20)
    refine lv_aload_n hx hb d_Rd_readPlain_12 rfl (lv_at hl 1 rfl) ?_
    refine lv_iconst (v := -1) hx hb d_Rd_readPlain_13 (by decide) ?_
    refine gy_V B hl.1 hw (t_Rd_next G _ _ ow fu (-1) (nn hno hF)) (kd_Rd_next T) (ki_Rd T) (km_Rd_76 T) (ka_Rd_next T) (ks_Rd_next T) ⟨by decide, by decide, by rfl⟩ (rv_Rd hK hw rfl) rfl (Nat.le_of_ble_eq_true rfl) ⟨by decide, by decide⟩ ⟨by decide, by decide⟩ d_Rd_readPlain_14 (fun v M24 r24 H locs hw hp => ?_) (fun x ek M24 r24 H locs hw hE hp => gr_t B hexc hw hE (by decide) (by decide) (hF.trans (bnd_ex hp)))
    obtain ⟨v24, rfl, hp⟩ := hp
    have hF := hF.trans (bnd_ok hp)
    refine lv_bipush (v := 93) hx hb d_Rd_readPlain_17 (by decide) ?_
    refine lv_icmp_ne hx hb d_Rd_readPlain_19 rfl (fun h25 => ?_) (fun h25 => ?_)
    · skip
      have hF := hF.trans (if_neg h25)
      refine lv_iconst (v := 0) hx hb d_Rd_readPlain_37 (by decide) ?_
      refine lv_istore_n hx hb d_Rd_readPlain_38 rfl hl (by decide) rfl (fun ls hl => ?_)
      refine lv_iload_n hx hb d_Rd_readPlain_39 rfl (lv_at hl 1 rfl) ?_
      refine lv_if_eq hx hb d_Rd_readPlain_40 rfl (fun h26 => ?_) (fun h26 => ?_)
      · skip
        have hF := hF.trans (if_pos h26)
        refine lv_aload_n hx hb d_Rd_readPlain_47 rfl (lv_at hl 2 rfl) ?_
        refine lv_iconst (v := 1) hx hb d_Rd_readPlain_48 (by decide) ?_
        refine lv_aload_n hx hb d_Rd_readPlain_49 rfl (lv_at hl 2 rfl) ?_
        refine gf_Rd_at hx hb T hown hK hw rfl (kf_Rd_18 T) d_Rd_readPlain_50 ?_
        refine gy_V B hl.1 hw (t_Rd_fail G _ _ ow fu 1 (M24 35 0) (nn hno hF)) (kd_Rd_fail T) (ki_Rd T) (km_Rd_100 T) (ka_Rd_fail T) (ks_Rd_fail T) ⟨by decide, by decide, by rfl⟩ (rv_Rd hK hw rfl) rfl (Nat.le_of_ble_eq_true rfl) ⟨by decide, by decide⟩ ⟨by decide, by decide⟩ d_Rd_readPlain_53 (fun v M27 r27 H locs hw hp => ?_) (fun x ek M27 r27 H locs hw hE hp => gr_t B hexc hw hE (by decide) (by decide) (hF.trans (bnd_ex hp)))
        obtain ⟨rfl, hp⟩ := hp
        have hF := hF.trans (bnd_ok hp)
        exact absurd hF hno
      · skip
        have hF := hF.trans (if_neg h26)
        refine lv_iload_n hx hb d_Rd_readPlain_43 rfl (lv_at hl 0 rfl) ?_
        refine lv_if_eq hx hb d_Rd_readPlain_44 rfl (fun _ => ?_) (fun h => absurd h (by decide))
        refine lv_aload_n hx hb d_Rd_readPlain_56 rfl (lv_at hl 2 rfl) ?_
        refine lv_aload_n hx hb d_Rd_readPlain_57 rfl (lv_at hl 3 rfl) ?_
        refine lv_iload_n hx hb d_Rd_readPlain_58 rfl (lv_at hl 1 rfl) ?_
        refine gy_V B hl.1 hw (t_Rd_addContent G _ _ ow fu k1 v19 b1 (nn hno hF)) (kd_Rd_addContent T) (ki_Rd T) (km_Rd_84 T) (ka_Rd_addContent T) (ks_Rd_addContent T) ⟨by decide, by decide, by rfl⟩ (rv_Rd hK hw rfl) rfl (Nat.le_of_ble_eq_true rfl) ⟨by decide, by decide⟩ ⟨by decide, by decide⟩ d_Rd_readPlain_59 (fun v M28 r28 H locs hw hp => ?_) (fun x ek M28 r28 H locs hw hE hp => gr_t B hexc hw hE (by decide) (by decide) (hF.trans (bnd_ex hp)))
        obtain ⟨rfl, hp⟩ := hp
        have hF := hF.trans (bnd_ok hp)
        refine lv_aload_n hx hb d_Rd_readPlain_62 rfl (lv_at hl 2 rfl) ?_
        refine lv_dup hx hb d_Rd_readPlain_63 rfl ?_
        refine gf_Rd_at hx hb T hown hK hw rfl (kf_Rd_18 T) d_Rd_readPlain_64 ?_
        refine lv_iconst (v := 1) hx hb d_Rd_readPlain_67 (by decide) ?_
        refine lv_iadd hx hb d_Rd_readPlain_68 ?_
        refine pf_Rd_at hx hb T hown hK hw rfl (kf_Rd_18 T) d_Rd_readPlain_69 (fun H locs hw => ?_)
        exact gr_v B hw d_Rd_readPlain_72 ⟨rfl, hF⟩
    · skip
      have hF := hF.trans (if_pos h25)
      refine lv_aload_n hx hb d_Rd_readPlain_22 rfl (lv_at hl 1 rfl) ?_
      refine lv_bipush (v := -2) hx hb d_Rd_readPlain_23 (by decide) ?_
      refine gy_V B hl.1 hw (t_Rd_next G _ _ ow fu (-2) (nn hno hF)) (kd_Rd_next T) (ki_Rd T) (km_Rd_76 T) (ka_Rd_next T) (ks_Rd_next T) ⟨by decide, by decide, by rfl⟩ (rv_Rd hK hw rfl) rfl (Nat.le_of_ble_eq_true rfl) ⟨by decide, by decide⟩ ⟨by decide, by decide⟩ d_Rd_readPlain_25 (fun v M29 r29 H locs hw hp => ?_) (fun x ek M29 r29 H locs hw hE hp => gr_t B hexc hw hE (by decide) (by decide) (hF.trans (bnd_ex hp)))
      obtain ⟨v29, rfl, hp⟩ := hp
      have hF := hF.trans (bnd_ok hp)
      refine lv_bipush (v := 93) hx hb d_Rd_readPlain_28 (by decide) ?_
      refine lv_icmp_ne hx hb d_Rd_readPlain_30 rfl (fun h30 => ?_) (fun h30 => ?_)
      · skip
        have hF := hF.trans (if_neg h30)
        refine lv_iconst (v := 0) hx hb d_Rd_readPlain_37 (by decide) ?_
        refine lv_istore_n hx hb d_Rd_readPlain_38 rfl hl (by decide) rfl (fun ls hl => ?_)
        refine lv_iload_n hx hb d_Rd_readPlain_39 rfl (lv_at hl 1 rfl) ?_
        refine lv_if_eq hx hb d_Rd_readPlain_40 rfl (fun h31 => ?_) (fun h31 => ?_)
        · skip
          have hF := hF.trans (if_pos h31)
          refine lv_aload_n hx hb d_Rd_readPlain_47 rfl (lv_at hl 2 rfl) ?_
          refine lv_iconst (v := 1) hx hb d_Rd_readPlain_48 (by decide) ?_
          refine lv_aload_n hx hb d_Rd_readPlain_49 rfl (lv_at hl 2 rfl) ?_
          refine gf_Rd_at hx hb T hown hK hw rfl (kf_Rd_18 T) d_Rd_readPlain_50 ?_
          refine gy_V B hl.1 hw (t_Rd_fail G _ _ ow fu 1 (M29 35 0) (nn hno hF)) (kd_Rd_fail T) (ki_Rd T) (km_Rd_100 T) (ka_Rd_fail T) (ks_Rd_fail T) ⟨by decide, by decide, by rfl⟩ (rv_Rd hK hw rfl) rfl (Nat.le_of_ble_eq_true rfl) ⟨by decide, by decide⟩ ⟨by decide, by decide⟩ d_Rd_readPlain_53 (fun v M32 r32 H locs hw hp => ?_) (fun x ek M32 r32 H locs hw hE hp => gr_t B hexc hw hE (by decide) (by decide) (hF.trans (bnd_ex hp)))
          obtain ⟨rfl, hp⟩ := hp
          have hF := hF.trans (bnd_ok hp)
          exact absurd hF hno
        · skip
          have hF := hF.trans (if_neg h31)
          refine lv_iload_n hx hb d_Rd_readPlain_43 rfl (lv_at hl 0 rfl) ?_
          refine lv_if_eq hx hb d_Rd_readPlain_44 rfl (fun _ => ?_) (fun h => absurd h (by decide))
          refine lv_aload_n hx hb d_Rd_readPlain_56 rfl (lv_at hl 2 rfl) ?_
          refine lv_aload_n hx hb d_Rd_readPlain_57 rfl (lv_at hl 3 rfl) ?_
          refine lv_iload_n hx hb d_Rd_readPlain_58 rfl (lv_at hl 1 rfl) ?_
          refine gy_V B hl.1 hw (t_Rd_addContent G _ _ ow fu k1 v19 b1 (nn hno hF)) (kd_Rd_addContent T) (ki_Rd T) (km_Rd_84 T) (ka_Rd_addContent T) (ks_Rd_addContent T) ⟨by decide, by decide, by rfl⟩ (rv_Rd hK hw rfl) rfl (Nat.le_of_ble_eq_true rfl) ⟨by decide, by decide⟩ ⟨by decide, by decide⟩ d_Rd_readPlain_59 (fun v M33 r33 H locs hw hp => ?_) (fun x ek M33 r33 H locs hw hE hp => gr_t B hexc hw hE (by decide) (by decide) (hF.trans (bnd_ex hp)))
          obtain ⟨rfl, hp⟩ := hp
          have hF := hF.trans (bnd_ok hp)
          refine lv_aload_n hx hb d_Rd_readPlain_62 rfl (lv_at hl 2 rfl) ?_
          refine lv_dup hx hb d_Rd_readPlain_63 rfl ?_
          refine gf_Rd_at hx hb T hown hK hw rfl (kf_Rd_18 T) d_Rd_readPlain_64 ?_
          refine lv_iconst (v := 1) hx hb d_Rd_readPlain_67 (by decide) ?_
          refine lv_iadd hx hb d_Rd_readPlain_68 ?_
          refine pf_Rd_at hx hb T hown hK hw rfl (kf_Rd_18 T) d_Rd_readPlain_69 (fun H locs hw => ?_)
          exact gr_v B hw d_Rd_readPlain_72 ⟨rfl, hF⟩
      · skip
        have hF := hF.trans (if_pos h30)
        refine lv_iconst (v := 1) hx hb d_Rd_readPlain_33 (by decide) ?_
        refine lv_goto hx hb d_Rd_readPlain_34 rfl ?_
        refine lv_istore_n hx hb d_Rd_readPlain_38 rfl hl (by decide) rfl (fun ls hl => ?_)
        refine lv_iload_n hx hb d_Rd_readPlain_39 rfl (lv_at hl 1 rfl) ?_
        refine lv_if_eq hx hb d_Rd_readPlain_40 rfl (fun h34 => ?_) (fun h34 => ?_)
        · skip
          have hF := hF.trans (if_pos h34)
          refine lv_aload_n hx hb d_Rd_readPlain_47 rfl (lv_at hl 2 rfl) ?_
          refine lv_iconst (v := 1) hx hb d_Rd_readPlain_48 (by decide) ?_
          refine lv_aload_n hx hb d_Rd_readPlain_49 rfl (lv_at hl 2 rfl) ?_
          refine gf_Rd_at hx hb T hown hK hw rfl (kf_Rd_18 T) d_Rd_readPlain_50 ?_
          refine gy_V B hl.1 hw (t_Rd_fail G _ _ ow fu 1 (M29 35 0) (nn hno hF)) (kd_Rd_fail T) (ki_Rd T) (km_Rd_100 T) (ka_Rd_fail T) (ks_Rd_fail T) ⟨by decide, by decide, by rfl⟩ (rv_Rd hK hw rfl) rfl (Nat.le_of_ble_eq_true rfl) ⟨by decide, by decide⟩ ⟨by decide, by decide⟩ d_Rd_readPlain_53 (fun v M35 r35 H locs hw hp => ?_) (fun x ek M35 r35 H locs hw hE hp => gr_t B hexc hw hE (by decide) (by decide) (hF.trans (bnd_ex hp)))
          obtain ⟨rfl, hp⟩ := hp
          have hF := hF.trans (bnd_ok hp)
          exact absurd hF hno
        · skip
          have hF := hF.trans (if_neg h34)
          refine lv_iload_n hx hb d_Rd_readPlain_43 rfl (lv_at hl 0 rfl) ?_
          refine lv_if_eq hx hb d_Rd_readPlain_44 rfl (fun h => absurd h (by decide)) (fun _ => ?_)
          refine lv_aload_n hx hb d_Rd_readPlain_47 rfl (lv_at hl 2 rfl) ?_
          refine lv_iconst (v := 1) hx hb d_Rd_readPlain_48 (by decide) ?_
          refine lv_aload_n hx hb d_Rd_readPlain_49 rfl (lv_at hl 2 rfl) ?_
          refine gf_Rd_at hx hb T hown hK hw rfl (kf_Rd_18 T) d_Rd_readPlain_50 ?_
          refine gy_V B hl.1 hw (t_Rd_fail G _ _ ow fu 1 (M29 35 0) (nn hno hF)) (kd_Rd_fail T) (ki_Rd T) (km_Rd_100 T) (ka_Rd_fail T) (ks_Rd_fail T) ⟨by decide, by decide, by rfl⟩ (rv_Rd hK hw rfl) rfl (Nat.le_of_ble_eq_true rfl) ⟨by decide, by decide⟩ ⟨by decide, by decide⟩ d_Rd_readPlain_53 (fun v M36 r36 H locs hw hp => ?_) (fun x ek M36 r36 H locs hw hE hp => gr_t B hexc hw hE (by decide) (by decide) (hF.trans (bnd_ex hp)))
          obtain ⟨rfl, hp⟩ := hp
          have hF := hF.trans (bnd_ok hp)
          exact absurd hF hno
set_option maxHeartbeats 4000000 in
set_option maxRecDepth 100000 in
theorem t_Rd_readText {l : Launch} {s0 : State} {D : va_G} {aC : Nat → ClassId} {a0 : Array Value} (G : gG l s0 D aC a0) (M : gMem) (r : gRef) (ow : Int64) (fu : Nat) (k1 : Nat) (b1 : k1 < 6) (hno : F_Rd_readText fu k1 M r ≠ .no) : gMet l s0 D aC y_Rd_readText (Cond.code y_Rd_readText b_Rd_readText 3 none) 11 255 1 6 [.ref (s0.heap.size + 380), .ref (s0.heap.size + oRow k1)] M r ow (qV (F_Rd_readText fu k1 M r)) (qT (F_Rd_readText fu k1 M r)) := by
  refine gm_of G (by decide) (Nat.le_of_ble_eq_true rfl) ?_
  intro p e s m below meth c ls B hexc hl hw
  have hx := B.1
  have hb := B.2.1
  have hown := B.2.2.2.2.2.1
  have T := B.2.2.2.2.2.2.1
  have hK := B.2.2.2.2.2.2.2.1
  have X156 : ∀ (M1 : gMem) (r1 : gRef) (H : Heap) (locs : List Loc) (ls : Array Slot), lv_has ls 3 [(0, .ref (s0.heap.size + 380))] → gWd s0 D aC M1 r1 ow H locs → F_Rd_readText fu k1 M r = F_Rd_readText_B156 fu k1 M1 r1 → W p l e (gRm 11 255 1 6) s m ([.ref (s0.heap.size + 380), .ref (s0.heap.size + oRow k1)] : List Value).toArray below meth c H locs 0 0 (gt_Q below (gQ s0 D aC ow (qV (F_Rd_readText fu k1 M r)) (qT (F_Rd_readText fu k1 M r))) s 0 0 1 6 (fun q => s0.heap.size ≤ q)) (F0 m 156 ls []) := by
    intro  M1 r1 H locs ls hl hw hF
    have hF := hF.trans (F_Rd_readText_B156.eq_1 _ _ _ _)
    refine lv_aload_n hx hb d_Rd_readText_156 rfl (lv_at hl 0 rfl) ?_
    refine gy_V B hl.1 hw (t_Rd_passBlanksAndComments G _ _ ow fu (nn hno hF)) (kd_Rd_passBlanksAndComments T) (ki_Rd T) (km_Rd_60 T) (ka_Rd_passBlanksAndComments T) (ks_Rd_passBlanksAndComments T) ⟨by decide, by decide, by rfl⟩ (rv_Rd hK hw rfl) rfl (Nat.le_of_ble_eq_true rfl) ⟨by decide, by decide⟩ ⟨by decide, by decide⟩ d_Rd_readText_157 (fun v M44 r44 H locs hw hp => ?_) (fun x ek M44 r44 H locs hw hE hp => gr_t B hexc hw hE (by decide) (by decide) (hF.trans (bnd_ex hp)))
    obtain ⟨rfl, hp⟩ := hp
    have hF := hF.trans (bnd_ok hp)
    refine lv_aload_n hx hb d_Rd_readText_160 rfl (lv_at hl 0 rfl) ?_
    refine gf_Rd_at hx hb T hown hK hw rfl (kf_Rd_18 T) d_Rd_readText_161 ?_
    refine lv_aload_n hx hb d_Rd_readText_164 rfl (lv_at hl 0 rfl) ?_
    refine gf_Rd_text hx hb T hown hK hw rfl (kf_Rd_55 T) d_Rd_readText_165 ?_
    refine gf_Row_size hx hb T hown hK hw (i := 2) (by decide) rfl (kf_Rd_71 T) d_Rd_readText_168 ?_
    refine lv_icmp_ge hx hb d_Rd_readText_171 rfl (fun h45 => ?_) (fun h45 => ?_)
    · skip
      have hF := hF.trans (if_pos h45)
      exact gr_v B hw d_Rd_readText_202 ⟨rfl, hF⟩
    · skip
      have hF := hF.trans (if_neg h45)
      refine lv_aload_n hx hb d_Rd_readText_174 rfl (lv_at hl 0 rfl) ?_
      refine lv_iconst (v := 1) hx hb d_Rd_readText_175 (by decide) ?_
      refine lv_aload_n hx hb d_Rd_readText_176 rfl (lv_at hl 0 rfl) ?_
      refine lv_iconst (v := 0) hx hb d_Rd_readText_177 (by decide) ?_
      refine gy_V B hl.1 hw (t_Rd_next G _ _ ow fu 0 (nn hno hF)) (kd_Rd_next T) (ki_Rd T) (km_Rd_76 T) (ka_Rd_next T) (ks_Rd_next T) ⟨by decide, by decide, by rfl⟩ (rv_Rd hK hw rfl) rfl (Nat.le_of_ble_eq_true rfl) ⟨by decide, by decide⟩ ⟨by decide, by decide⟩ d_Rd_readText_178 (fun v M46 r46 H locs hw hp => ?_) (fun x ek M46 r46 H locs hw hE hp => gr_t B hexc hw hE (by decide) (by decide) (hF.trans (bnd_ex hp)))
      obtain ⟨v46, rfl, hp⟩ := hp
      have hF := hF.trans (bnd_ok hp)
      refine lv_bipush (v := 60) hx hb d_Rd_readText_181 (by decide) ?_
      refine lv_icmp_ne hx hb d_Rd_readText_183 rfl (fun h47 => ?_) (fun h47 => ?_)
      · skip
        have hF := hF.trans (if_neg h47)
        refine lv_aload_n hx hb d_Rd_readText_195 rfl (lv_at hl 0 rfl) ?_
        refine gf_Rd_at hx hb T hown hK hw rfl (kf_Rd_18 T) d_Rd_readText_196 ?_
        refine gy_V B hl.1 hw (t_Rd_fail G _ _ ow fu 1 (M46 35 0) (nn hno hF)) (kd_Rd_fail T) (ki_Rd T) (km_Rd_100 T) (ka_Rd_fail T) (ks_Rd_fail T) ⟨by decide, by decide, by rfl⟩ (rv_Rd hK hw rfl) rfl (Nat.le_of_ble_eq_true rfl) ⟨by decide, by decide⟩ ⟨by decide, by decide⟩ d_Rd_readText_199 (fun v M48 r48 H locs hw hp => ?_) (fun x ek M48 r48 H locs hw hE hp => gr_t B hexc hw hE (by decide) (by decide) (hF.trans (bnd_ex hp)))
        obtain ⟨rfl, hp⟩ := hp
        have hF := hF.trans (bnd_ok hp)
        exact absurd hF hno
      · skip
        have hF := hF.trans (if_pos h47)
        refine lv_aload_n hx hb d_Rd_readText_186 rfl (lv_at hl 0 rfl) ?_
        refine gf_Rd_at hx hb T hown hK hw rfl (kf_Rd_18 T) d_Rd_readText_187 ?_
        refine lv_iconst (v := 1) hx hb d_Rd_readText_190 (by decide) ?_
        refine lv_iadd hx hb d_Rd_readText_191 ?_
        refine lv_goto hx hb d_Rd_readText_192 rfl ?_
        refine gy_V B hl.1 hw (t_Rd_fail G _ _ ow fu 1 ((M46 35 0) + 1) (nn hno hF)) (kd_Rd_fail T) (ki_Rd T) (km_Rd_100 T) (ka_Rd_fail T) (ks_Rd_fail T) ⟨by decide, by decide, by rfl⟩ (rv_Rd hK hw rfl) rfl (Nat.le_of_ble_eq_true rfl) ⟨by decide, by decide⟩ ⟨by decide, by decide⟩ d_Rd_readText_199 (fun v M49 r49 H locs hw hp => ?_) (fun x ek M49 r49 H locs hw hE hp => gr_t B hexc hw hE (by decide) (by decide) (hF.trans (bnd_ex hp)))
        obtain ⟨rfl, hp⟩ := hp
        have hF := hF.trans (bnd_ok hp)
        exact absurd hF hno
  have L19 : ∀ (d : Nat) (x2 : Int32) (M1 : gMem) (r1 : gRef) (H : Heap) (locs : List Loc) (ls : Array Slot), lv_has ls 3 [(2, .int x2), (0, .ref (s0.heap.size + 380))] → gWd s0 D aC M1 r1 ow H locs → F_Rd_readText fu k1 M r = F_Rd_readText_L19 fu k1 d x2 M1 r1 → W p l e (gRm 11 255 1 6) s m ([.ref (s0.heap.size + 380), .ref (s0.heap.size + oRow k1)] : List Value).toArray below meth c H locs 0 0 (gt_Q below (gQ s0 D aC ow (qV (F_Rd_readText fu k1 M r)) (qT (F_Rd_readText fu k1 M r))) s 0 0 1 6 (fun q => s0.heap.size ≤ q)) (F0 m 19 ls []) := by
    intro d
    induction d with
    | zero => intro x2 M1 r1 H locs ls hl hw hF; exact absurd hF hno
    | succ d ih =>
      intro x2 M1 r1 H locs ls hl hw hF
      have hF := hF.trans (F_Rd_readText_L19.eq_2 _ _ _ _ _ _)
      refine lv_iload_n hx hb d_Rd_readText_19 rfl (lv_at hl 0 rfl) ?_
      refine lv_aload_n hx hb d_Rd_readText_20 rfl (lv_at hl 1 rfl) ?_
      refine gf_Rd_text hx hb T hown hK hw rfl (kf_Rd_55 T) d_Rd_readText_21 ?_
      refine gf_Row_size hx hb T hown hK hw (i := 2) (by decide) rfl (kf_Rd_71 T) d_Rd_readText_24 ?_
      refine lv_icmp_ge hx hb d_Rd_readText_27 rfl (fun h50 => ?_) (fun h50 => ?_)
      · skip
        have hF := hF.trans (if_pos h50)
        exact X156  _ _ _ _ _ (gv_loc hl [1] rfl) hw hF
      · skip
        have hF := hF.trans (if_neg h50)
        refine lv_aload_n hx hb d_Rd_readText_30 rfl (lv_at hl 1 rfl) ?_
        refine gf_Rd_open hx hb T hown hK hw rfl (kf_Rd_22 T) d_Rd_readText_31 ?_
        rcases hq51 : r1 3 0 with _ | k_51
        · skip
          have hF := hF.trans (gcs_none hq51)
          refine lv_ifnullN hx hb d_Rd_readText_34 rfl ?_
          exact X156  _ _ _ _ _ (gv_loc hl [1] rfl) hw hF
        · skip
          have hF := hF.trans (gcs_some hq51)
          have b_51 := ng hno hF
          have hF := hF.trans (gd_yes b_51)
          refine lv_ifnull hx hb d_Rd_readText_34 ?_
          refine lv_aload_n hx hb d_Rd_readText_37 rfl (lv_at hl 1 rfl) ?_
          refine lv_iconst (v := 0) hx hb d_Rd_readText_38 (by decide) ?_
          refine gy_V B hl.1 hw (t_Rd_next G _ _ ow fu 0 (nn hno hF)) (kd_Rd_next T) (ki_Rd T) (km_Rd_76 T) (ka_Rd_next T) (ks_Rd_next T) ⟨by decide, by decide, by rfl⟩ (rv_Rd hK hw rfl) rfl (Nat.le_of_ble_eq_true rfl) ⟨by decide, by decide⟩ ⟨by decide, by decide⟩ d_Rd_readText_39 (fun v M52 r52 H locs hw hp => ?_) (fun x ek M52 r52 H locs hw hE hp => gr_t B hexc hw hE (by decide) (by decide) (hF.trans (bnd_ex hp)))
          obtain ⟨v52, rfl, hp⟩ := hp
          have hF := hF.trans (bnd_ok hp)
          refine lv_bipush (v := 38) hx hb d_Rd_readText_42 (by decide) ?_
          refine lv_icmp_ne hx hb d_Rd_readText_44 rfl (fun h53 => ?_) (fun h53 => ?_)
          · skip
            have hF := hF.trans (if_neg h53)
            refine lv_aload_n hx hb d_Rd_readText_62 rfl (lv_at hl 1 rfl) ?_
            refine lv_iconst (v := 0) hx hb d_Rd_readText_63 (by decide) ?_
            refine gy_V B hl.1 hw (t_Rd_next G _ _ ow fu 0 (nn hno hF)) (kd_Rd_next T) (ki_Rd T) (km_Rd_76 T) (ka_Rd_next T) (ks_Rd_next T) ⟨by decide, by decide, by rfl⟩ (rv_Rd hK hw rfl) rfl (Nat.le_of_ble_eq_true rfl) ⟨by decide, by decide⟩ ⟨by decide, by decide⟩ d_Rd_readText_64 (fun v M54 r54 H locs hw hp => ?_) (fun x ek M54 r54 H locs hw hE hp => gr_t B hexc hw hE (by decide) (by decide) (hF.trans (bnd_ex hp)))
            obtain ⟨v54, rfl, hp⟩ := hp
            have hF := hF.trans (bnd_ok hp)
            refine lv_bipush (v := 60) hx hb d_Rd_readText_67 (by decide) ?_
            refine lv_icmp_eq hx hb d_Rd_readText_69 rfl (fun h55 => ?_) (fun h55 => ?_)
            · skip
              have hF := hF.trans (if_pos h55)
              refine lv_aload_n hx hb d_Rd_readText_83 rfl (lv_at hl 1 rfl) ?_
              refine lv_iconst (v := 1) hx hb d_Rd_readText_84 (by decide) ?_
              refine gy_V B hl.1 hw (t_Rd_next G _ _ ow fu 1 (nn hno hF)) (kd_Rd_next T) (ki_Rd T) (km_Rd_76 T) (ka_Rd_next T) (ks_Rd_next T) ⟨by decide, by decide, by rfl⟩ (rv_Rd hK hw rfl) rfl (Nat.le_of_ble_eq_true rfl) ⟨by decide, by decide⟩ ⟨by decide, by decide⟩ d_Rd_readText_85 (fun v M56 r56 H locs hw hp => ?_) (fun x ek M56 r56 H locs hw hE hp => gr_t B hexc hw hE (by decide) (by decide) (hF.trans (bnd_ex hp)))
              obtain ⟨v56, rfl, hp⟩ := hp
              have hF := hF.trans (bnd_ok hp)
              refine lv_bipush (v := 47) hx hb d_Rd_readText_88 (by decide) ?_
              refine lv_icmp_ne hx hb d_Rd_readText_90 rfl (fun h57 => ?_) (fun h57 => ?_)
              · skip
                have hF := hF.trans (if_neg h57)
                refine lv_aload_n hx hb d_Rd_readText_104 rfl (lv_at hl 1 rfl) ?_
                refine lv_iconst (v := 1) hx hb d_Rd_readText_105 (by decide) ?_
                refine gy_V B hl.1 hw (t_Rd_next G _ _ ow fu 1 (nn hno hF)) (kd_Rd_next T) (ki_Rd T) (km_Rd_76 T) (ka_Rd_next T) (ks_Rd_next T) ⟨by decide, by decide, by rfl⟩ (rv_Rd hK hw rfl) rfl (Nat.le_of_ble_eq_true rfl) ⟨by decide, by decide⟩ ⟨by decide, by decide⟩ d_Rd_readText_106 (fun v M58 r58 H locs hw hp => ?_) (fun x ek M58 r58 H locs hw hE hp => gr_t B hexc hw hE (by decide) (by decide) (hF.trans (bnd_ex hp)))
                obtain ⟨v58, rfl, hp⟩ := hp
                have hF := hF.trans (bnd_ok hp)
                refine lv_bipush (v := 33) hx hb d_Rd_readText_109 (by decide) ?_
                refine lv_icmp_eq hx hb d_Rd_readText_111 rfl (fun h59 => ?_) (fun h59 => ?_)
                · skip
                  have hF := hF.trans (if_pos h59)
                  refine lv_aload_n hx hb d_Rd_readText_125 rfl (lv_at hl 1 rfl) ?_
                  refine lv_iconst (v := 2) hx hb d_Rd_readText_126 (by decide) ?_
                  refine gy_V B hl.1 hw (t_Rd_next G _ _ ow fu 2 (nn hno hF)) (kd_Rd_next T) (ki_Rd T) (km_Rd_76 T) (ka_Rd_next T) (ks_Rd_next T) ⟨by decide, by decide, by rfl⟩ (rv_Rd hK hw rfl) rfl (Nat.le_of_ble_eq_true rfl) ⟨by decide, by decide⟩ ⟨by decide, by decide⟩ d_Rd_readText_127 (fun v M60 r60 H locs hw hp => ?_) (fun x ek M60 r60 H locs hw hE hp => gr_t B hexc hw hE (by decide) (by decide) (hF.trans (bnd_ex hp)))
                  obtain ⟨v60, rfl, hp⟩ := hp
                  have hF := hF.trans (bnd_ok hp)
                  refine lv_bipush (v := 91) hx hb d_Rd_readText_130 (by decide) ?_
                  refine lv_icmp_ne hx hb d_Rd_readText_132 rfl (fun h61 => ?_) (fun h61 => ?_)
                  · skip
                    have hF := hF.trans (if_neg h61)
                    refine lv_aload_n hx hb d_Rd_readText_146 rfl (lv_at hl 1 rfl) ?_
                    refine gy_V B hl.1 hw (t_Rd_passComment G _ _ ow fu (nn hno hF)) (kd_Rd_passComment T) (ki_Rd T) (km_Rd_97 T) (ka_Rd_passComment T) (ks_Rd_passComment T) ⟨by decide, by decide, by rfl⟩ (rv_Rd hK hw rfl) rfl (Nat.le_of_ble_eq_true rfl) ⟨by decide, by decide⟩ ⟨by decide, by decide⟩ d_Rd_readText_147 (fun v M62 r62 H locs hw hp => ?_) (fun x ek M62 r62 H locs hw hE hp => gr_t B hexc hw hE (by decide) (by decide) (hF.trans (bnd_ex hp)))
                    obtain ⟨rfl, hp⟩ := hp
                    have hF := hF.trans (bnd_ok hp)
                    refine lv_iinc (k := 0) hx hb d_Rd_readText_150 hl rfl (show _ + Int32.ofInt 1 = _ + 1 from rfl) (by decide) rfl (fun ls hl => ?_)
                    refine lv_goto hx hb d_Rd_readText_153 rfl ?_
                    exact ih (x2 + 1) _ _ _ _ _ (gv_loc hl [0, 1] rfl) hw hF
                  · skip
                    have hF := hF.trans (if_pos h61)
                    refine lv_aload_n hx hb d_Rd_readText_135 rfl (lv_at hl 1 rfl) ?_
                    refine lv_aload_n hx hb d_Rd_readText_136 rfl (lv_at hl 1 rfl) ?_
                    refine gf_Rd_open hx hb T hown hK hw rfl (kf_Rd_22 T) d_Rd_readText_137 ?_
                    rcases hq63 : r60 3 0 with _ | k_63
                    · skip
                      have hF := hF.trans (gcs_none hq63)
                      refine gy_V B hl.1 hw (t_Rd_readSection_n G _ _ ow fu (nn hno hF)) (kd_Rd_readSection T) (ki_Rd T) (km_Rd_94 T) (ka_Rd_readSection T) (ks_Rd_readSection T) ⟨by decide, by decide, by rfl⟩ (rv_Rd hK hw rfl) rfl (Nat.le_of_ble_eq_true rfl) ⟨by decide, by decide⟩ ⟨by decide, by decide⟩ d_Rd_readText_140 (fun v M64 r64 H locs hw hp => ?_) (fun x ek M64 r64 H locs hw hE hp => gr_t B hexc hw hE (by decide) (by decide) (hF.trans (bnd_ex hp)))
                      obtain ⟨rfl, hp⟩ := hp
                      have hF := hF.trans (bnd_ok hp)
                      refine lv_goto hx hb d_Rd_readText_143 rfl ?_
                      refine lv_iinc (k := 0) hx hb d_Rd_readText_150 hl rfl (show _ + Int32.ofInt 1 = _ + 1 from rfl) (by decide) rfl (fun ls hl => ?_)
                      refine lv_goto hx hb d_Rd_readText_153 rfl ?_
                      exact ih (x2 + 1) _ _ _ _ _ (gv_loc hl [0, 1] rfl) hw hF
                    · skip
                      have hF := hF.trans (gcs_some hq63)
                      have b_63 := ng hno hF
                      have hF := hF.trans (gd_yes b_63)
                      refine gy_V B hl.1 hw (t_Rd_readSection G _ _ ow fu k_63 b_63 (nn hno hF)) (kd_Rd_readSection T) (ki_Rd T) (km_Rd_94 T) (ka_Rd_readSection T) (ks_Rd_readSection T) ⟨by decide, by decide, by rfl⟩ (rv_Rd hK hw rfl) rfl (Nat.le_of_ble_eq_true rfl) ⟨by decide, by decide⟩ ⟨by decide, by decide⟩ d_Rd_readText_140 (fun v M65 r65 H locs hw hp => ?_) (fun x ek M65 r65 H locs hw hE hp => gr_t B hexc hw hE (by decide) (by decide) (hF.trans (bnd_ex hp)))
                      obtain ⟨rfl, hp⟩ := hp
                      have hF := hF.trans (bnd_ok hp)
                      refine lv_goto hx hb d_Rd_readText_143 rfl ?_
                      refine lv_iinc (k := 0) hx hb d_Rd_readText_150 hl rfl (show _ + Int32.ofInt 1 = _ + 1 from rfl) (by decide) rfl (fun ls hl => ?_)
                      refine lv_goto hx hb d_Rd_readText_153 rfl ?_
                      exact ih (x2 + 1) _ _ _ _ _ (gv_loc hl [0, 1] rfl) hw hF
                · skip
                  have hF := hF.trans (if_neg h59)
                  refine lv_aload_n hx hb d_Rd_readText_114 rfl (lv_at hl 1 rfl) ?_
                  refine lv_aload_n hx hb d_Rd_readText_115 rfl (lv_at hl 1 rfl) ?_
                  refine gy_V B hl.1 hw (t_Rd_readTag G _ _ ow fu (nn hno hF)) (kd_Rd_readTag T) (ki_Rd T) (km_Rd_63 T) (ka_Rd_readTag T) (ks_Rd_readTag T) ⟨by decide, by decide, by rfl⟩ (rv_Rd hK hw rfl) rfl (Nat.le_of_ble_eq_true rfl) ⟨by decide, by decide⟩ ⟨by decide, by decide⟩ d_Rd_readText_116 (fun v M66 r66 H locs hw hp => ?_) (fun x ek M66 r66 H locs hw hE hp => gr_t B hexc hw hE (by decide) (by decide) (hF.trans (bnd_ex hp)))
                  obtain ⟨v66, rfl, hp⟩ := hp
                  have hF := hF.trans (bnd_ok hp)
                  rcases hq67 : v66 with _ | k_67
                  · skip
                    have hF := hF.trans (gcs_none hq67)
                    refine gy_V B hl.1 hw (t_Rd_enter_n G _ _ ow fu (nn hno hF)) (kd_Rd_enter T) (ki_Rd T) (km_Rd_67 T) (ka_Rd_enter T) (ks_Rd_enter T) ⟨by decide, by decide, by rfl⟩ (rv_Rd hK hw rfl) rfl (Nat.le_of_ble_eq_true rfl) ⟨by decide, by decide⟩ ⟨by decide, by decide⟩ d_Rd_readText_119 (fun v M68 r68 H locs hw hp => ?_) (fun x ek M68 r68 H locs hw hE hp => gr_t B hexc hw hE (by decide) (by decide) (hF.trans (bnd_ex hp)))
                    obtain ⟨rfl, hp⟩ := hp
                    have hF := hF.trans (bnd_ok hp)
                    refine lv_goto hx hb d_Rd_readText_122 rfl ?_
                    refine lv_iinc (k := 0) hx hb d_Rd_readText_150 hl rfl (show _ + Int32.ofInt 1 = _ + 1 from rfl) (by decide) rfl (fun ls hl => ?_)
                    refine lv_goto hx hb d_Rd_readText_153 rfl ?_
                    exact ih (x2 + 1) _ _ _ _ _ (gv_loc hl [0, 1] rfl) hw hF
                  · skip
                    have hF := hF.trans (gcs_some hq67)
                    have b_67 := ng hno hF
                    have hF := hF.trans (gd_yes b_67)
                    refine gy_V B hl.1 hw (t_Rd_enter G _ _ ow fu k_67 b_67 (nn hno hF)) (kd_Rd_enter T) (ki_Rd T) (km_Rd_67 T) (ka_Rd_enter T) (ks_Rd_enter T) ⟨by decide, by decide, by rfl⟩ (rv_Rd hK hw rfl) rfl (Nat.le_of_ble_eq_true rfl) ⟨by decide, by decide⟩ ⟨by decide, by decide⟩ d_Rd_readText_119 (fun v M69 r69 H locs hw hp => ?_) (fun x ek M69 r69 H locs hw hE hp => gr_t B hexc hw hE (by decide) (by decide) (hF.trans (bnd_ex hp)))
                    obtain ⟨rfl, hp⟩ := hp
                    have hF := hF.trans (bnd_ok hp)
                    refine lv_goto hx hb d_Rd_readText_122 rfl ?_
                    refine lv_iinc (k := 0) hx hb d_Rd_readText_150 hl rfl (show _ + Int32.ofInt 1 = _ + 1 from rfl) (by decide) rfl (fun ls hl => ?_)
                    refine lv_goto hx hb d_Rd_readText_153 rfl ?_
                    exact ih (x2 + 1) _ _ _ _ _ (gv_loc hl [0, 1] rfl) hw hF
              · skip
                have hF := hF.trans (if_pos h57)
                refine lv_aload_n hx hb d_Rd_readText_93 rfl (lv_at hl 1 rfl) ?_
                refine lv_aload_n hx hb d_Rd_readText_94 rfl (lv_at hl 1 rfl) ?_
                refine gf_Rd_open hx hb T hown hK hw rfl (kf_Rd_22 T) d_Rd_readText_95 ?_
                rcases hq70 : r56 3 0 with _ | k_70
                · skip
                  have hF := hF.trans (gcs_none hq70)
                  refine gy_V B hl.1 hw (t_Rd_readEndTag_n G _ _ ow fu (nn hno hF)) (kd_Rd_readEndTag T) (ki_Rd T) (km_Rd_91 T) (ka_Rd_readEndTag T) (ks_Rd_readEndTag T) ⟨by decide, by decide, by rfl⟩ (rv_Rd hK hw rfl) rfl (Nat.le_of_ble_eq_true rfl) ⟨by decide, by decide⟩ ⟨by decide, by decide⟩ d_Rd_readText_98 (fun v M71 r71 H locs hw hp => ?_) (fun x ek M71 r71 H locs hw hE hp => gr_t B hexc hw hE (by decide) (by decide) (hF.trans (bnd_ex hp)))
                  obtain ⟨rfl, hp⟩ := hp
                  have hF := hF.trans (bnd_ok hp)
                  refine lv_goto hx hb d_Rd_readText_101 rfl ?_
                  refine lv_iinc (k := 0) hx hb d_Rd_readText_150 hl rfl (show _ + Int32.ofInt 1 = _ + 1 from rfl) (by decide) rfl (fun ls hl => ?_)
                  refine lv_goto hx hb d_Rd_readText_153 rfl ?_
                  exact ih (x2 + 1) _ _ _ _ _ (gv_loc hl [0, 1] rfl) hw hF
                · skip
                  have hF := hF.trans (gcs_some hq70)
                  have b_70 := ng hno hF
                  have hF := hF.trans (gd_yes b_70)
                  refine gy_V B hl.1 hw (t_Rd_readEndTag G _ _ ow fu k_70 b_70 (nn hno hF)) (kd_Rd_readEndTag T) (ki_Rd T) (km_Rd_91 T) (ka_Rd_readEndTag T) (ks_Rd_readEndTag T) ⟨by decide, by decide, by rfl⟩ (rv_Rd hK hw rfl) rfl (Nat.le_of_ble_eq_true rfl) ⟨by decide, by decide⟩ ⟨by decide, by decide⟩ d_Rd_readText_98 (fun v M72 r72 H locs hw hp => ?_) (fun x ek M72 r72 H locs hw hE hp => gr_t B hexc hw hE (by decide) (by decide) (hF.trans (bnd_ex hp)))
                  obtain ⟨rfl, hp⟩ := hp
                  have hF := hF.trans (bnd_ok hp)
                  refine lv_goto hx hb d_Rd_readText_101 rfl ?_
                  refine lv_iinc (k := 0) hx hb d_Rd_readText_150 hl rfl (show _ + Int32.ofInt 1 = _ + 1 from rfl) (by decide) rfl (fun ls hl => ?_)
                  refine lv_goto hx hb d_Rd_readText_153 rfl ?_
                  exact ih (x2 + 1) _ _ _ _ _ (gv_loc hl [0, 1] rfl) hw hF
            · skip
              have hF := hF.trans (if_neg h55)
              refine lv_aload_n hx hb d_Rd_readText_72 rfl (lv_at hl 1 rfl) ?_
              refine lv_aload_n hx hb d_Rd_readText_73 rfl (lv_at hl 1 rfl) ?_
              refine gf_Rd_open hx hb T hown hK hw rfl (kf_Rd_22 T) d_Rd_readText_74 ?_
              rcases hq73 : r54 3 0 with _ | k_73
              · skip
                have hF := hF.trans (gcs_none hq73)
                refine gy_V B hl.1 hw (t_Rd_readPlain_n G _ _ ow fu (nn hno hF)) (kd_Rd_readPlain T) (ki_Rd T) (km_Rd_88 T) (ka_Rd_readPlain T) (ks_Rd_readPlain T) ⟨by decide, by decide, by rfl⟩ (rv_Rd hK hw rfl) rfl (Nat.le_of_ble_eq_true rfl) ⟨by decide, by decide⟩ ⟨by decide, by decide⟩ d_Rd_readText_77 (fun v M74 r74 H locs hw hp => ?_) (fun x ek M74 r74 H locs hw hE hp => gr_t B hexc hw hE (by decide) (by decide) (hF.trans (bnd_ex hp)))
                obtain ⟨rfl, hp⟩ := hp
                have hF := hF.trans (bnd_ok hp)
                refine lv_goto hx hb d_Rd_readText_80 rfl ?_
                refine lv_iinc (k := 0) hx hb d_Rd_readText_150 hl rfl (show _ + Int32.ofInt 1 = _ + 1 from rfl) (by decide) rfl (fun ls hl => ?_)
                refine lv_goto hx hb d_Rd_readText_153 rfl ?_
                exact ih (x2 + 1) _ _ _ _ _ (gv_loc hl [0, 1] rfl) hw hF
              · skip
                have hF := hF.trans (gcs_some hq73)
                have b_73 := ng hno hF
                have hF := hF.trans (gd_yes b_73)
                refine gy_V B hl.1 hw (t_Rd_readPlain G _ _ ow fu k_73 b_73 (nn hno hF)) (kd_Rd_readPlain T) (ki_Rd T) (km_Rd_88 T) (ka_Rd_readPlain T) (ks_Rd_readPlain T) ⟨by decide, by decide, by rfl⟩ (rv_Rd hK hw rfl) rfl (Nat.le_of_ble_eq_true rfl) ⟨by decide, by decide⟩ ⟨by decide, by decide⟩ d_Rd_readText_77 (fun v M75 r75 H locs hw hp => ?_) (fun x ek M75 r75 H locs hw hE hp => gr_t B hexc hw hE (by decide) (by decide) (hF.trans (bnd_ex hp)))
                obtain ⟨rfl, hp⟩ := hp
                have hF := hF.trans (bnd_ok hp)
                refine lv_goto hx hb d_Rd_readText_80 rfl ?_
                refine lv_iinc (k := 0) hx hb d_Rd_readText_150 hl rfl (show _ + Int32.ofInt 1 = _ + 1 from rfl) (by decide) rfl (fun ls hl => ?_)
                refine lv_goto hx hb d_Rd_readText_153 rfl ?_
                exact ih (x2 + 1) _ _ _ _ _ (gv_loc hl [0, 1] rfl) hw hF
          · skip
            have hF := hF.trans (if_pos h53)
            refine lv_aload_n hx hb d_Rd_readText_47 rfl (lv_at hl 1 rfl) ?_
            refine lv_aload_n hx hb d_Rd_readText_48 rfl (lv_at hl 1 rfl) ?_
            refine gf_Rd_open hx hb T hown hK hw rfl (kf_Rd_22 T) d_Rd_readText_49 ?_
            rcases hq76 : r52 3 0 with _ | k_76
            · skip
              have hF := hF.trans (gcs_none hq76)
              refine lv_aload_n hx hb d_Rd_readText_52 rfl (lv_at hl 1 rfl) ?_
              refine gy_V B hl.1 hw (t_Rd_readReference G _ _ ow fu (nn hno hF)) (kd_Rd_readReference T) (ki_Rd T) (km_Rd_80 T) (ka_Rd_readReference T) (ks_Rd_readReference T) ⟨by decide, by decide, by rfl⟩ (rv_Rd hK hw rfl) rfl (Nat.le_of_ble_eq_true rfl) ⟨by decide, by decide⟩ ⟨by decide, by decide⟩ d_Rd_readText_53 (fun v M77 r77 H locs hw hp => ?_) (fun x ek M77 r77 H locs hw hE hp => gr_t B hexc hw hE (by decide) (by decide) (hF.trans (bnd_ex hp)))
              obtain ⟨v77, rfl, hp⟩ := hp
              have hF := hF.trans (bnd_ok hp)
              refine gy_V B hl.1 hw (t_Rd_addContent_n G _ _ ow fu v77 (nn hno hF)) (kd_Rd_addContent T) (ki_Rd T) (km_Rd_84 T) (ka_Rd_addContent T) (ks_Rd_addContent T) ⟨by decide, by decide, by rfl⟩ (rv_Rd hK hw rfl) rfl (Nat.le_of_ble_eq_true rfl) ⟨by decide, by decide⟩ ⟨by decide, by decide⟩ d_Rd_readText_56 (fun v M78 r78 H locs hw hp => ?_) (fun x ek M78 r78 H locs hw hE hp => gr_t B hexc hw hE (by decide) (by decide) (hF.trans (bnd_ex hp)))
              obtain ⟨rfl, hp⟩ := hp
              have hF := hF.trans (bnd_ok hp)
              refine lv_goto hx hb d_Rd_readText_59 rfl ?_
              refine lv_iinc (k := 0) hx hb d_Rd_readText_150 hl rfl (show _ + Int32.ofInt 1 = _ + 1 from rfl) (by decide) rfl (fun ls hl => ?_)
              refine lv_goto hx hb d_Rd_readText_153 rfl ?_
              exact ih (x2 + 1) _ _ _ _ _ (gv_loc hl [0, 1] rfl) hw hF
            · skip
              have hF := hF.trans (gcs_some hq76)
              have b_76 := ng hno hF
              have hF := hF.trans (gd_yes b_76)
              refine lv_aload_n hx hb d_Rd_readText_52 rfl (lv_at hl 1 rfl) ?_
              refine gy_V B hl.1 hw (t_Rd_readReference G _ _ ow fu (nn hno hF)) (kd_Rd_readReference T) (ki_Rd T) (km_Rd_80 T) (ka_Rd_readReference T) (ks_Rd_readReference T) ⟨by decide, by decide, by rfl⟩ (rv_Rd hK hw rfl) rfl (Nat.le_of_ble_eq_true rfl) ⟨by decide, by decide⟩ ⟨by decide, by decide⟩ d_Rd_readText_53 (fun v M79 r79 H locs hw hp => ?_) (fun x ek M79 r79 H locs hw hE hp => gr_t B hexc hw hE (by decide) (by decide) (hF.trans (bnd_ex hp)))
              obtain ⟨v79, rfl, hp⟩ := hp
              have hF := hF.trans (bnd_ok hp)
              refine gy_V B hl.1 hw (t_Rd_addContent G _ _ ow fu k_76 v79 b_76 (nn hno hF)) (kd_Rd_addContent T) (ki_Rd T) (km_Rd_84 T) (ka_Rd_addContent T) (ks_Rd_addContent T) ⟨by decide, by decide, by rfl⟩ (rv_Rd hK hw rfl) rfl (Nat.le_of_ble_eq_true rfl) ⟨by decide, by decide⟩ ⟨by decide, by decide⟩ d_Rd_readText_56 (fun v M80 r80 H locs hw hp => ?_) (fun x ek M80 r80 H locs hw hE hp => gr_t B hexc hw hE (by decide) (by decide) (hF.trans (bnd_ex hp)))
              obtain ⟨rfl, hp⟩ := hp
              have hF := hF.trans (bnd_ok hp)
              refine lv_goto hx hb d_Rd_readText_59 rfl ?_
              refine lv_iinc (k := 0) hx hb d_Rd_readText_150 hl rfl (show _ + Int32.ofInt 1 = _ + 1 from rfl) (by decide) rfl (fun ls hl => ?_)
              refine lv_goto hx hb d_Rd_readText_153 rfl ?_
              exact ih (x2 + 1) _ _ _ _ _ (gv_loc hl [0, 1] rfl) hw hF
  have hF := F_Rd_readText.eq_1 fu k1 M r
  refine lv_aload_n hx hb d_Rd_readText_0 rfl (lv_at hl 0 rfl) ?_
  refine lv_aload_n hx hb d_Rd_readText_1 rfl (lv_at hl 1 rfl) ?_
  refine gy_V B hl.1 hw (t_Rd_beginWith G _ _ ow fu k1 b1 (nn hno hF)) (kd_Rd_beginWith T) (ki_Rd T) (km_Rd_56 T) (ka_Rd_beginWith T) (ks_Rd_beginWith T) ⟨by decide, by decide, by rfl⟩ (rv_Rd hK hw rfl) rfl (Nat.le_of_ble_eq_true rfl) ⟨by decide, by decide⟩ ⟨by decide, by decide⟩ d_Rd_readText_2 (fun v M81 r81 H locs hw hp => ?_) (fun x ek M81 r81 H locs hw hE hp => gr_t B hexc hw hE (by decide) (by decide) (hF.trans (bnd_ex hp)))
  obtain ⟨rfl, hp⟩ := hp
  have hF := hF.trans (bnd_ok hp)
  refine lv_aload_n hx hb d_Rd_readText_5 rfl (lv_at hl 0 rfl) ?_
  refine gy_V B hl.1 hw (t_Rd_passBlanksAndComments G _ _ ow fu (nn hno hF)) (kd_Rd_passBlanksAndComments T) (ki_Rd T) (km_Rd_60 T) (ka_Rd_passBlanksAndComments T) (ks_Rd_passBlanksAndComments T) ⟨by decide, by decide, by rfl⟩ (rv_Rd hK hw rfl) rfl (Nat.le_of_ble_eq_true rfl) ⟨by decide, by decide⟩ ⟨by decide, by decide⟩ d_Rd_readText_6 (fun v M82 r82 H locs hw hp => ?_) (fun x ek M82 r82 H locs hw hE hp => gr_t B hexc hw hE (by decide) (by decide) (hF.trans (bnd_ex hp)))
  obtain ⟨rfl, hp⟩ := hp
  have hF := hF.trans (bnd_ok hp)
  refine lv_aload_n hx hb d_Rd_readText_9 rfl (lv_at hl 0 rfl) ?_
  refine lv_aload_n hx hb d_Rd_readText_10 rfl (lv_at hl 0 rfl) ?_
  refine gy_V B hl.1 hw (t_Rd_readTag G _ _ ow fu (nn hno hF)) (kd_Rd_readTag T) (ki_Rd T) (km_Rd_63 T) (ka_Rd_readTag T) (ks_Rd_readTag T) ⟨by decide, by decide, by rfl⟩ (rv_Rd hK hw rfl) rfl (Nat.le_of_ble_eq_true rfl) ⟨by decide, by decide⟩ ⟨by decide, by decide⟩ d_Rd_readText_11 (fun v M83 r83 H locs hw hp => ?_) (fun x ek M83 r83 H locs hw hE hp => gr_t B hexc hw hE (by decide) (by decide) (hF.trans (bnd_ex hp)))
  obtain ⟨v83, rfl, hp⟩ := hp
  have hF := hF.trans (bnd_ok hp)
  rcases hq84 : v83 with _ | k_84
  · skip
    have hF := hF.trans (gcs_none hq84)
    refine gy_V B hl.1 hw (t_Rd_enter_n G _ _ ow fu (nn hno hF)) (kd_Rd_enter T) (ki_Rd T) (km_Rd_67 T) (ka_Rd_enter T) (ks_Rd_enter T) ⟨by decide, by decide, by rfl⟩ (rv_Rd hK hw rfl) rfl (Nat.le_of_ble_eq_true rfl) ⟨by decide, by decide⟩ ⟨by decide, by decide⟩ d_Rd_readText_14 (fun v M85 r85 H locs hw hp => ?_) (fun x ek M85 r85 H locs hw hE hp => gr_t B hexc hw hE (by decide) (by decide) (hF.trans (bnd_ex hp)))
    obtain ⟨rfl, hp⟩ := hp
    have hF := hF.trans (bnd_ok hp)
    refine lv_iconst (v := 0) hx hb d_Rd_readText_17 (by decide) ?_
    refine lv_istore_n hx hb d_Rd_readText_18 rfl hl (by decide) rfl (fun ls hl => ?_)
    exact L19 fu 0 _ _ _ _ _ (gv_loc hl [0, 1] rfl) hw hF
  · skip
    have hF := hF.trans (gcs_some hq84)
    have b_84 := ng hno hF
    have hF := hF.trans (gd_yes b_84)
    refine gy_V B hl.1 hw (t_Rd_enter G _ _ ow fu k_84 b_84 (nn hno hF)) (kd_Rd_enter T) (ki_Rd T) (km_Rd_67 T) (ka_Rd_enter T) (ks_Rd_enter T) ⟨by decide, by decide, by rfl⟩ (rv_Rd hK hw rfl) rfl (Nat.le_of_ble_eq_true rfl) ⟨by decide, by decide⟩ ⟨by decide, by decide⟩ d_Rd_readText_14 (fun v M86 r86 H locs hw hp => ?_) (fun x ek M86 r86 H locs hw hE hp => gr_t B hexc hw hE (by decide) (by decide) (hF.trans (bnd_ex hp)))
    obtain ⟨rfl, hp⟩ := hp
    have hF := hF.trans (bnd_ok hp)
    refine lv_iconst (v := 0) hx hb d_Rd_readText_17 (by decide) ?_
    refine lv_istore_n hx hb d_Rd_readText_18 rfl hl (by decide) rfl (fun ls hl => ?_)
    exact L19 fu 0 _ _ _ _ _ (gv_loc hl [0, 1] rfl) hw hF
