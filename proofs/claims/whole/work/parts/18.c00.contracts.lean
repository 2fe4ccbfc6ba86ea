/-! The contracts of methods, as their functions say -/
set_option maxHeartbeats 4000000 in
set_option maxRecDepth 100000 in
theorem t_MR_isCharacter {l : Launch} {s0 : State} {D : va_G} {aC : Nat → ClassId} {a0 : Array Value} (G : gG l s0 D aC a0) (M : gMem) (r : gRef) (ow : Int64) (fu : Nat) (x0 : Int32)  (hno : F_MR_isCharacter fu x0 M r ≠ .no) : gMet l s0 D aC y_MR_isCharacter (Cond.code y_MR_isCharacter b_MR_isCharacter 1 (some .boolean)) 0 0 0 0 [.int x0] M r ow (qI (F_MR_isCharacter fu x0 M r)) (qT (F_MR_isCharacter fu x0 M r)) := by
  refine gm_of G (by decide) (Nat.le_of_ble_eq_true rfl) ?_
  intro p e s m below meth c ls B hexc hl hw
  have hx := B.1
  have hb := B.2.1
  have hown := B.2.2.2.2.2.1
  have T := B.2.2.2.2.2.2.1
  have hK := B.2.2.2.2.2.2.2.1
  have hF := F_MR_isCharacter.eq_1 fu x0 M r
  refine lv_iload_n hx hb d_MR_isCharacter_0 rfl (lv_at hl 0 rfl) ?_
  refine lv_bipush (v := 10) hx hb d_MR_isCharacter_1 (by decide) ?_
  refine lv_icmp_eq hx hb d_MR_isCharacter_3 rfl (fun h4 => ?_) (fun h4 => ?_)
  · skip
    have hF := hF.trans (if_pos h4)
    refine lv_iconst (v := 1) hx hb d_MR_isCharacter_18 (by decide) ?_
    refine lv_goto hx hb d_MR_isCharacter_19 rfl ?_
    exact gr_z B hw (by rfl) d_MR_isCharacter_23 ⟨_, rfl, hF⟩
  · skip
    have hF := hF.trans (if_neg h4)
    refine lv_iload_n hx hb d_MR_isCharacter_6 rfl (lv_at hl 0 rfl) ?_
    refine lv_bipush (v := 32) hx hb d_MR_isCharacter_7 (by decide) ?_
    refine lv_icmp_lt hx hb d_MR_isCharacter_9 rfl (fun h5 => ?_) (fun h5 => ?_)
    · skip
      have hF := hF.trans (if_pos h5)
      refine lv_iconst (v := 0) hx hb d_MR_isCharacter_22 (by decide) ?_
      exact gr_z B hw (by rfl) d_MR_isCharacter_23 ⟨_, rfl, hF⟩
    · skip
      have hF := hF.trans (if_neg h5)
      refine lv_iload_n hx hb d_MR_isCharacter_12 rfl (lv_at hl 0 rfl) ?_
      refine lv_bipush (v := 126) hx hb d_MR_isCharacter_13 (by decide) ?_
      refine lv_icmp_gt hx hb d_MR_isCharacter_15 rfl (fun h6 => ?_) (fun h6 => ?_)
      · skip
        have hF := hF.trans (if_pos h6)
        refine lv_iconst (v := 0) hx hb d_MR_isCharacter_22 (by decide) ?_
        exact gr_z B hw (by rfl) d_MR_isCharacter_23 ⟨_, rfl, hF⟩
      · skip
        have hF := hF.trans (if_neg h6)
        refine lv_iconst (v := 1) hx hb d_MR_isCharacter_18 (by decide) ?_
        refine lv_goto hx hb d_MR_isCharacter_19 rfl ?_
        exact gr_z B hw (by rfl) d_MR_isCharacter_23 ⟨_, rfl, hF⟩
set_option maxHeartbeats 4000000 in
set_option maxRecDepth 100000 in
theorem t_Row_put {l : Launch} {s0 : State} {D : va_G} {aC : Nat → ClassId} {a0 : Array Value} (G : gG l s0 D aC a0) (M : gMem) (r : gRef) (ow : Int64) (fu : Nat) (k0 : Nat) (x1 : Int32) (b0 : k0 < 6) (hno : F_Row_put fu k0 x1 M r ≠ .no) : gMet l s0 D aC y_Row_put (Cond.code y_Row_put b_Row_put 2 none) 0 0 0 0 [.ref (s0.heap.size + oRow k0), .int x1] M r ow (qV (F_Row_put fu k0 x1 M r)) (qT (F_Row_put fu k0 x1 M r)) := by
  refine gm_of G (by decide) (Nat.le_of_ble_eq_true rfl) ?_
  intro p e s m below meth c ls B hexc hl hw
  have hx := B.1
  have hb := B.2.1
  have hown := B.2.2.2.2.2.1
  have T := B.2.2.2.2.2.2.1
  have hK := B.2.2.2.2.2.2.2.1
  have hF := F_Row_put.eq_1 fu k0 x1 M r
  refine lv_aload_n hx hb d_Row_put_0 rfl (lv_at hl 0 rfl) ?_
  refine gf_Row_size hx hb T hown hK hw (i := k0) b0 rfl (kf_Row_9 T) d_Row_put_1 ?_
  refine lv_aload_n hx hb d_Row_put_4 rfl (lv_at hl 0 rfl) ?_
  refine gf_Row_chars hx hb T hown hK hw (i := k0) b0 rfl (kf_Row_15 T) d_Row_put_5 ?_
  refine gn_ch hx hb hK hw (i := k0) b0 rfl d_Row_put_8 ?_
  refine lv_icmp_ge hx hb d_Row_put_9 rfl (fun h3 => ?_) (fun h3 => ?_)
  · skip
    have hF := hF.trans (if_pos h3)
    exact gr_v B hw d_Row_put_32 ⟨rfl, hF⟩
  · skip
    have hF := hF.trans (if_neg h3)
    refine lv_aload_n hx hb d_Row_put_12 rfl (lv_at hl 0 rfl) ?_
    refine gf_Row_chars hx hb T hown hK hw (i := k0) b0 rfl (kf_Row_15 T) d_Row_put_13 ?_
    refine lv_aload_n hx hb d_Row_put_16 rfl (lv_at hl 0 rfl) ?_
    refine gf_Row_size hx hb T hown hK hw (i := k0) b0 rfl (kf_Row_9 T) d_Row_put_17 ?_
    refine lv_iload_n hx hb d_Row_put_20 rfl (lv_at hl 1 rfl) ?_
    have g4 := ng hno hF
    have hF := hF.trans (gd_yes g4)
    refine gs_ch hx hb hK hw (i := k0) b0 rfl g4 d_Row_put_21 (fun H locs hw => ?_)
    refine lv_aload_n hx hb d_Row_put_22 rfl (lv_at hl 0 rfl) ?_
    refine lv_dup hx hb d_Row_put_23 rfl ?_
    refine gf_Row_size hx hb T hown hK hw (i := k0) b0 rfl (kf_Row_9 T) d_Row_put_24 ?_
    refine lv_iconst (v := 1) hx hb d_Row_put_27 (by decide) ?_
    refine lv_iadd hx hb d_Row_put_28 ?_
    refine pf_Row_size hx hb T hown hK hw (i := k0) b0 rfl (kf_Row_9 T) d_Row_put_29 (fun H locs hw => ?_)
    exact gr_v B hw d_Row_put_32 ⟨rfl, hF⟩
set_option maxHeartbeats 4000000 in
set_option maxRecDepth 100000 in
theorem t_MR_type {l : Launch} {s0 : State} {D : va_G} {aC : Nat → ClassId} {a0 : Array Value} (G : gG l s0 D aC a0) (M : gMem) (r : gRef) (ow : Int64) (fu : Nat) (x1 : Int32)  (hno : F_MR_type fu x1 M r ≠ .no) : gMet l s0 D aC y_MR_type (Cond.code y_MR_type b_MR_type 2 (some .int)) 6 82 1 6 [.ref (s0.heap.size + 0), .int x1] M r ow (qI (F_MR_type fu x1 M r)) (qT (F_MR_type fu x1 M r)) := by
  refine gm_of G (by decide) (Nat.le_of_ble_eq_true rfl) ?_
  intro p e s m below meth c ls B hexc hl hw
  have hx := B.1
  have hb := B.2.1
  have hown := B.2.2.2.2.2.1
  have T := B.2.2.2.2.2.2.1
  have hK := B.2.2.2.2.2.2.2.1
  have hF := F_MR_type.eq_1 fu x1 M r
  refine lv_iload_n hx hb d_MR_type_0 rfl (lv_at hl 1 rfl) ?_
  refine gy_S B hl.1 hw (t_MR_isCharacter G _ _ ow fu x1 (nn hno hF)) (kd_MR_isCharacter T) (ki_MR T) (km_MR_46 T) (kt_MR_isCharacter T) ⟨by decide, by decide, by rfl⟩ rfl (Nat.le_of_ble_eq_true rfl) ⟨by decide, by decide⟩ ⟨by decide, by decide⟩ d_MR_type_1 (fun v M5 r5 H locs hw hp => ?_) (fun x ek M5 r5 H locs hw hE hp => gr_t B hexc hw hE (by decide) (by decide) (hF.trans (bnd_ex hp)))
  obtain ⟨v5, rfl, hp⟩ := hp
  have hF := hF.trans (bnd_ok hp)
  refine lv_if_ne hx hb d_MR_type_4 rfl (fun h6 => ?_) (fun h6 => ?_)
  · skip
    have hF := hF.trans (if_neg h6)
    refine lv_aload_n hx hb d_MR_type_17 rfl (lv_at hl 0 rfl) ?_
    refine gf_MR_typed hx hb T hown hK hw rfl (kf_MR_14 T) d_MR_type_18 ?_
    refine gf_Row_size hx hb T hown hK hw (i := 0) (by decide) rfl (kf_MR_57 T) d_MR_type_21 ?_
    refine lv_sipush (v := 240) hx hb d_MR_type_24 (by decide) ?_
    refine lv_icmp_lt hx hb d_MR_type_27 rfl (fun h7 => ?_) (fun h7 => ?_)
    · skip
      have hF := hF.trans (if_pos h7)
      refine lv_aload_n hx hb d_MR_type_40 rfl (lv_at hl 0 rfl) ?_
      refine gf_MR_typed hx hb T hown hK hw rfl (kf_MR_14 T) d_MR_type_41 ?_
      refine lv_iload_n hx hb d_MR_type_44 rfl (lv_at hl 1 rfl) ?_
      refine gy_V B hl.1 hw (t_Row_put G _ _ ow fu 0 x1 (by decide) (nn hno hF)) (kd_Row_put T) (ki_Row T) (km_MR_66 T) (ka_Row_put T) (ks_Row_put T) ⟨by decide, by decide, by rfl⟩ (rv_Row hK hw (i := 0) (by decide) rfl) rfl (Nat.le_of_ble_eq_true rfl) ⟨by decide, by decide⟩ ⟨by decide, by decide⟩ d_MR_type_45 (fun v M8 r8 H locs hw hp => ?_) (fun x ek M8 r8 H locs hw hE hp => gr_t B hexc hw hE (by decide) (by decide) (hF.trans (bnd_ex hp)))
      obtain ⟨rfl, hp⟩ := hp
      have hF := hF.trans (bnd_ok hp)
      refine lv_aload_n hx hb d_MR_type_48 rfl (lv_at hl 0 rfl) ?_
      refine gf_MR_typed hx hb T hown hK hw rfl (kf_MR_14 T) d_MR_type_49 ?_
      refine gf_Row_size hx hb T hown hK hw (i := 0) (by decide) rfl (kf_MR_57 T) d_MR_type_52 ?_
      exact gr_i B hw d_MR_type_55 ⟨_, rfl, hF⟩
    · skip
      have hF := hF.trans (if_neg h7)
      exact gx_IS B G.2.1 hexc hl.1 hw (kc_MR_61 T) (km_MR_65 T) (sx_MR_63 G.2.1) d_MR_type_30 d_MR_type_33 d_MR_type_34 d_MR_type_36 d_MR_type_39 (by decide) (by decide) (by decide) (Nat.le_of_ble_eq_true rfl) hF
  · skip
    have hF := hF.trans (if_pos h6)
    exact gx_IA B G.2.1 hexc hl.1 hw (kc_MR_50 T) (km_MR_54 T) (sx_MR_52 G.2.1) d_MR_type_7 d_MR_type_10 d_MR_type_11 d_MR_type_13 d_MR_type_16 (by decide) (by decide) (by decide) (Nat.le_of_ble_eq_true rfl) hF
set_option maxHeartbeats 4000000 in
set_option maxRecDepth 100000 in
theorem t_MR_wipe {l : Launch} {s0 : State} {D : va_G} {aC : Nat → ClassId} {a0 : Array Value} (G : gG l s0 D aC a0) (M : gMem) (r : gRef) (ow : Int64) (fu : Nat)  (hno : F_MR_wipe fu M r ≠ .no) : gMet l s0 D aC y_MR_wipe (Cond.code y_MR_wipe b_MR_wipe 1 none) 0 0 0 0 [.ref (s0.heap.size + 0)] M r ow (qV (F_MR_wipe fu M r)) (qT (F_MR_wipe fu M r)) := by
  refine gm_of G (by decide) (Nat.le_of_ble_eq_true rfl) ?_
  intro p e s m below meth c ls B hexc hl hw
  have hx := B.1
  have hb := B.2.1
  have hown := B.2.2.2.2.2.1
  have T := B.2.2.2.2.2.2.1
  have hK := B.2.2.2.2.2.2.2.1
  have hF := F_MR_wipe.eq_1 fu M r
  refine lv_aload_n hx hb d_MR_wipe_0 rfl (lv_at hl 0 rfl) ?_
  refine gf_MR_typed hx hb T hown hK hw rfl (kf_MR_14 T) d_MR_wipe_1 ?_
  refine lv_iconst (v := 0) hx hb d_MR_wipe_4 (by decide) ?_
  refine pf_Row_size hx hb T hown hK hw (i := 0) (by decide) rfl (kf_MR_57 T) d_MR_wipe_5 (fun H locs hw => ?_)
  exact gr_v B hw d_MR_wipe_8 ⟨rfl, hF⟩
set_option maxHeartbeats 4000000 in
set_option maxRecDepth 100000 in
theorem t_Row_at {l : Launch} {s0 : State} {D : va_G} {aC : Nat → ClassId} {a0 : Array Value} (G : gG l s0 D aC a0) (M : gMem) (r : gRef) (ow : Int64) (fu : Nat) (k0 : Nat) (x1 : Int32) (b0 : k0 < 6) (hno : F_Row_at fu k0 x1 M r ≠ .no) : gMet l s0 D aC y_Row_at (Cond.code y_Row_at b_Row_at 2 (some .char)) 0 0 0 0 [.ref (s0.heap.size + oRow k0), .int x1] M r ow (qI (F_Row_at fu k0 x1 M r)) (qT (F_Row_at fu k0 x1 M r)) := by
  refine gm_of G (by decide) (Nat.le_of_ble_eq_true rfl) ?_
  intro p e s m below meth c ls B hexc hl hw
  have hx := B.1
  have hb := B.2.1
  have hown := B.2.2.2.2.2.1
  have T := B.2.2.2.2.2.2.1
  have hK := B.2.2.2.2.2.2.2.1
  have hF := F_Row_at.eq_1 fu k0 x1 M r
  refine lv_iload_n hx hb d_Row_at_0 rfl (lv_at hl 1 rfl) ?_
  refine lv_if_lt hx hb d_Row_at_1 rfl (fun h5 => ?_) (fun h5 => ?_)
  · skip
    have hF := hF.trans (if_pos h5)
    refine lv_iconst (v := 0) hx hb d_Row_at_21 (by decide) ?_
    exact gr_z B hw (by rfl) d_Row_at_22 ⟨_, rfl, hF⟩
  · skip
    have hF := hF.trans (if_neg h5)
    refine lv_iload_n hx hb d_Row_at_4 rfl (lv_at hl 1 rfl) ?_
    refine lv_aload_n hx hb d_Row_at_5 rfl (lv_at hl 0 rfl) ?_
    refine gf_Row_size hx hb T hown hK hw (i := k0) b0 rfl (kf_Row_9 T) d_Row_at_6 ?_
    refine lv_icmp_ge hx hb d_Row_at_9 rfl (fun h6 => ?_) (fun h6 => ?_)
    · skip
      have hF := hF.trans (if_pos h6)
      refine lv_iconst (v := 0) hx hb d_Row_at_21 (by decide) ?_
      exact gr_z B hw (by rfl) d_Row_at_22 ⟨_, rfl, hF⟩
    · skip
      have hF := hF.trans (if_neg h6)
      refine lv_aload_n hx hb d_Row_at_12 rfl (lv_at hl 0 rfl) ?_
      refine gf_Row_chars hx hb T hown hK hw (i := k0) b0 rfl (kf_Row_15 T) d_Row_at_13 ?_
      refine lv_iload_n hx hb d_Row_at_16 rfl (lv_at hl 1 rfl) ?_
      have g7 := ng hno hF
      have hF := hF.trans (gd_yes g7)
      refine ga_ch hx hb hK hw (i := k0) b0 rfl g7 d_Row_at_17 ?_
      refine lv_goto hx hb d_Row_at_18 rfl ?_
      have g8 := ng hno hF
      have hF := hF.trans (gd_yes g8)
      exact gr_z B hw g8 d_Row_at_22 ⟨_, rfl, hF⟩
set_option maxHeartbeats 4000000 in
set_option maxRecDepth 100000 in
theorem t_Row_copyOf {l : Launch} {s0 : State} {D : va_G} {aC : Nat → ClassId} {a0 : Array Value} (G : gG l s0 D aC a0) (M : gMem) (r : gRef) (ow : Int64) (fu : Nat) (k0 : Nat) (k1 : Nat) (b0 : k0 < 6) (b1 : k1 < 6) (hno : F_Row_copyOf fu k0 k1 M r ≠ .no) : gMet l s0 D aC y_Row_copyOf (Cond.code y_Row_copyOf b_Row_copyOf 3 none) 1 21 0 0 [.ref (s0.heap.size + oRow k0), .ref (s0.heap.size + oRow k1)] M r ow (qV (F_Row_copyOf fu k0 k1 M r)) (qT (F_Row_copyOf fu k0 k1 M r)) := by
  refine gm_of G (by decide) (Nat.le_of_ble_eq_true rfl) ?_
  intro p e s m below meth c ls B hexc hl hw
  have hx := B.1
  have hb := B.2.1
  have hown := B.2.2.2.2.2.1
  have T := B.2.2.2.2.2.2.1
  have hK := B.2.2.2.2.2.2.2.1
  have X30 : ∀ (M1 : gMem) (r1 : gRef) (H : Heap) (locs : List Loc) (ls : Array Slot), lv_has ls 3 [] → gWd s0 D aC M1 r1 ow H locs → F_Row_copyOf fu k0 k1 M r = F_Row_copyOf_B30 fu k0 k1 M1 r1 → W p l e (gRm 1 21 0 0) s m ([.ref (s0.heap.size + oRow k0), .ref (s0.heap.size + oRow k1)] : List Value).toArray below meth c H locs 0 0 (gt_Q below (gQ s0 D aC ow (qV (F_Row_copyOf fu k0 k1 M r)) (qT (F_Row_copyOf fu k0 k1 M r))) s 0 0 0 0 (fun q => s0.heap.size ≤ q)) (F0 m 30 ls []) := by
    intro  M1 r1 H locs ls hl hw hF
    have hF := hF.trans (F_Row_copyOf_B30.eq_1 _ _ _ _ _)
    exact gr_v B hw d_Row_copyOf_30 ⟨rfl, hF⟩
  have L7 : ∀ (d : Nat) (x2 : Int32) (M1 : gMem) (r1 : gRef) (H : Heap) (locs : List Loc) (ls : Array Slot), lv_has ls 3 [(2, .int x2), (0, .ref (s0.heap.size + oRow k0)), (1, .ref (s0.heap.size + oRow k1))] → gWd s0 D aC M1 r1 ow H locs → F_Row_copyOf fu k0 k1 M r = F_Row_copyOf_L7 fu k0 k1 d x2 M1 r1 → W p l e (gRm 1 21 0 0) s m ([.ref (s0.heap.size + oRow k0), .ref (s0.heap.size + oRow k1)] : List Value).toArray below meth c H locs 0 0 (gt_Q below (gQ s0 D aC ow (qV (F_Row_copyOf fu k0 k1 M r)) (qT (F_Row_copyOf fu k0 k1 M r))) s 0 0 0 0 (fun q => s0.heap.size ≤ q)) (F0 m 7 ls []) := by
    intro d
    induction d with
    | zero => intro x2 M1 r1 H locs ls hl hw hF; exact absurd hF hno
    | succ d ih =>
      intro x2 M1 r1 H locs ls hl hw hF
      have hF := hF.trans (F_Row_copyOf_L7.eq_2 _ _ _ _ _ _ _)
      refine lv_iload_n hx hb d_Row_copyOf_7 rfl (lv_at hl 0 rfl) ?_
      refine lv_aload_n hx hb d_Row_copyOf_8 rfl (lv_at hl 2 rfl) ?_
      refine gf_Row_size hx hb T hown hK hw (i := k1) b1 rfl (kf_Row_9 T) d_Row_copyOf_9 ?_
      refine lv_icmp_ge hx hb d_Row_copyOf_12 rfl (fun h4 => ?_) (fun h4 => ?_)
      · skip
        have hF := hF.trans (if_pos h4)
        exact X30  _ _ _ _ _ (gv_loc hl [] rfl) hw hF
      · skip
        have hF := hF.trans (if_neg h4)
        refine lv_aload_n hx hb d_Row_copyOf_15 rfl (lv_at hl 1 rfl) ?_
        refine lv_aload_n hx hb d_Row_copyOf_16 rfl (lv_at hl 2 rfl) ?_
        refine lv_iload_n hx hb d_Row_copyOf_17 rfl (lv_at hl 0 rfl) ?_
        refine gy_V B hl.1 hw (t_Row_at G _ _ ow fu k1 x2 b1 (nn hno hF)) (kd_Row_at T) (ki_Row T) (km_Row_33 T) (ka_Row_at T) (ks_Row_at T) ⟨by decide, by decide, by rfl⟩ (rv_Row hK hw (i := k1) b1 rfl) rfl (Nat.le_of_ble_eq_true rfl) ⟨by decide, by decide⟩ ⟨by decide, by decide⟩ d_Row_copyOf_18 (fun v M5 r5 H locs hw hp => ?_) (fun x ek M5 r5 H locs hw hE hp => gr_t B hexc hw hE (by decide) (by decide) (hF.trans (bnd_ex hp)))
        obtain ⟨v5, rfl, hp⟩ := hp
        have hF := hF.trans (bnd_ok hp)
        refine gy_V B hl.1 hw (t_Row_put G _ _ ow fu k0 v5 b0 (nn hno hF)) (kd_Row_put T) (ki_Row T) (km_Row_29 T) (ka_Row_put T) (ks_Row_put T) ⟨by decide, by decide, by rfl⟩ (rv_Row hK hw (i := k0) b0 rfl) rfl (Nat.le_of_ble_eq_true rfl) ⟨by decide, by decide⟩ ⟨by decide, by decide⟩ d_Row_copyOf_21 (fun v M6 r6 H locs hw hp => ?_) (fun x ek M6 r6 H locs hw hE hp => gr_t B hexc hw hE (by decide) (by decide) (hF.trans (bnd_ex hp)))
        obtain ⟨rfl, hp⟩ := hp
        have hF := hF.trans (bnd_ok hp)
        refine lv_iinc (k := 0) hx hb d_Row_copyOf_24 hl rfl (show _ + Int32.ofInt 1 = _ + 1 from rfl) (by decide) rfl (fun ls hl => ?_)
        refine lv_goto hx hb d_Row_copyOf_27 rfl ?_
        exact ih (x2 + 1) _ _ _ _ _ (gv_loc hl [0, 1, 2] rfl) hw hF
  have hF := F_Row_copyOf.eq_1 fu k0 k1 M r
  refine lv_aload_n hx hb d_Row_copyOf_0 rfl (lv_at hl 0 rfl) ?_
  refine lv_iconst (v := 0) hx hb d_Row_copyOf_1 (by decide) ?_
  refine pf_Row_size hx hb T hown hK hw (i := k0) b0 rfl (kf_Row_9 T) d_Row_copyOf_2 (fun H locs hw => ?_)
  refine lv_iconst (v := 0) hx hb d_Row_copyOf_5 (by decide) ?_
  refine lv_istore_n hx hb d_Row_copyOf_6 rfl hl (by decide) rfl (fun ls hl => ?_)
  exact L7 fu 0 _ _ _ _ _ (gv_loc hl [0, 1, 2] rfl) hw hF
set_option maxHeartbeats 4000000 in
set_option maxRecDepth 100000 in
theorem t_Tr_beginWith {l : Launch} {s0 : State} {D : va_G} {aC : Nat → ClassId} {a0 : Array Value} (G : gG l s0 D aC a0) (M : gMem) (r : gRef) (ow : Int64) (fu : Nat) (k1 : Nat) (b1 : k1 < 6) (hno : F_Tr_beginWith fu k1 M r ≠ .no) : gMet l s0 D aC y_Tr_beginWith (Cond.code y_Tr_beginWith b_Tr_beginWith 2 none) 2 43 0 0 [.ref (s0.heap.size + 5), .ref (s0.heap.size + oRow k1)] M r ow (qV (F_Tr_beginWith fu k1 M r)) (qT (F_Tr_beginWith fu k1 M r)) := by
  refine gm_of G (by decide) (Nat.le_of_ble_eq_true rfl) ?_
  intro p e s m below meth c ls B hexc hl hw
  have hx := B.1
  have hb := B.2.1
  have hown := B.2.2.2.2.2.1
  have T := B.2.2.2.2.2.2.1
  have hK := B.2.2.2.2.2.2.2.1
  have hF := F_Tr_beginWith.eq_1 fu k1 M r
  refine lv_aload_n hx hb d_Tr_beginWith_0 rfl (lv_at hl 0 rfl) ?_
  refine gf_Tr_text hx hb T hown hK hw rfl (kf_Tr_14 T) d_Tr_beginWith_1 ?_
  refine lv_aload_n hx hb d_Tr_beginWith_4 rfl (lv_at hl 1 rfl) ?_
  refine gy_V B hl.1 hw (t_Row_copyOf G _ _ ow fu 2 k1 (by decide) b1 (nn hno hF)) (kd_Row_copyOf T) (ki_Row T) (km_Tr_48 T) (ka_Row_copyOf T) (ks_Row_copyOf T) ⟨by decide, by decide, by rfl⟩ (rv_Row hK hw (i := 2) (by decide) rfl) rfl (Nat.le_of_ble_eq_true rfl) ⟨by decide, by decide⟩ ⟨by decide, by decide⟩ d_Tr_beginWith_5 (fun v M2 r2 H locs hw hp => ?_) (fun x ek M2 r2 H locs hw hE hp => gr_t B hexc hw hE (by decide) (by decide) (hF.trans (bnd_ex hp)))
  obtain ⟨rfl, hp⟩ := hp
  have hF := hF.trans (bnd_ok hp)
  refine lv_aload_n hx hb d_Tr_beginWith_8 rfl (lv_at hl 0 rfl) ?_
  refine gf_Tr_values hx hb T hown hK hw rfl (kf_Tr_20 T) d_Tr_beginWith_9 ?_
  refine lv_iconst (v := 0) hx hb d_Tr_beginWith_12 (by decide) ?_
  refine pf_Row_size hx hb T hown hK hw (i := 3) (by decide) rfl (kf_Tr_52 T) d_Tr_beginWith_13 (fun H locs hw => ?_)
  refine lv_aload_n hx hb d_Tr_beginWith_16 rfl (lv_at hl 0 rfl) ?_
  refine gf_Tr_content hx hb T hown hK hw rfl (kf_Tr_23 T) d_Tr_beginWith_17 ?_
  refine lv_iconst (v := 0) hx hb d_Tr_beginWith_20 (by decide) ?_
  refine pf_Row_size hx hb T hown hK hw (i := 4) (by decide) rfl (kf_Tr_52 T) d_Tr_beginWith_21 (fun H locs hw => ?_)
  refine lv_aload_n hx hb d_Tr_beginWith_24 rfl (lv_at hl 0 rfl) ?_
  refine lv_iconst (v := 0) hx hb d_Tr_beginWith_25 (by decide) ?_
  refine pf_Tr_size hx hb T hown hK hw rfl (kf_Tr_43 T) d_Tr_beginWith_26 (fun H locs hw => ?_)
  exact gr_v B hw d_Tr_beginWith_29 ⟨rfl, hF⟩
set_option maxHeartbeats 4000000 in
set_option maxRecDepth 100000 in
theorem t_Rd_beginWith {l : Launch} {s0 : State} {D : va_G} {aC : Nat → ClassId} {a0 : Array Value} (G : gG l s0 D aC a0) (M : gMem) (r : gRef) (ow : Int64) (fu : Nat) (k1 : Nat) (b1 : k1 < 6) (hno : F_Rd_beginWith fu k1 M r ≠ .no) : gMet l s0 D aC y_Rd_beginWith (Cond.code y_Rd_beginWith b_Rd_beginWith 2 none) 3 64 0 0 [.ref (s0.heap.size + 380), .ref (s0.heap.size + oRow k1)] M r ow (qV (F_Rd_beginWith fu k1 M r)) (qT (F_Rd_beginWith fu k1 M r)) := by
  refine gm_of G (by decide) (Nat.le_of_ble_eq_true rfl) ?_
  intro p e s m below meth c ls B hexc hl hw
  have hx := B.1
  have hb := B.2.1
  have hown := B.2.2.2.2.2.1
  have T := B.2.2.2.2.2.2.1
  have hK := B.2.2.2.2.2.2.2.1
  have hF := F_Rd_beginWith.eq_1 fu k1 M r
  refine lv_aload_n hx hb d_Rd_beginWith_0 rfl (lv_at hl 0 rfl) ?_
  refine gf_Rd_tree hx hb T hown hK hw rfl (kf_Rd_32 T) d_Rd_beginWith_1 ?_
  refine lv_aload_n hx hb d_Rd_beginWith_4 rfl (lv_at hl 1 rfl) ?_
  refine gy_V B hl.1 hw (t_Tr_beginWith G _ _ ow fu k1 b1 (nn hno hF)) (kd_Tr_beginWith T) (ki_Tr T) (km_Rd_104 T) (ka_Tr_beginWith T) (ks_Tr_beginWith T) ⟨by decide, by decide, by rfl⟩ (rv_Tr hK hw rfl) rfl (Nat.le_of_ble_eq_true rfl) ⟨by decide, by decide⟩ ⟨by decide, by decide⟩ d_Rd_beginWith_5 (fun v M2 r2 H locs hw hp => ?_) (fun x ek M2 r2 H locs hw hE hp => gr_t B hexc hw hE (by decide) (by decide) (hF.trans (bnd_ex hp)))
  obtain ⟨rfl, hp⟩ := hp
  have hF := hF.trans (bnd_ok hp)
  refine lv_aload_n hx hb d_Rd_beginWith_8 rfl (lv_at hl 0 rfl) ?_
  refine gf_Rd_writer hx hb T hown hK hw rfl (kf_Rd_36 T) d_Rd_beginWith_9 ?_
  refine gf_FW_form hx hb T hown hK hw rfl (kf_Rd_105 T) d_Rd_beginWith_12 ?_
  refine lv_iconst (v := 0) hx hb d_Rd_beginWith_15 (by decide) ?_
  refine pf_Row_size hx hb T hown hK hw (i := 5) (by decide) rfl (kf_Rd_71 T) d_Rd_beginWith_16 (fun H locs hw => ?_)
  refine lv_aload_n hx hb d_Rd_beginWith_19 rfl (lv_at hl 0 rfl) ?_
  refine lv_iconst (v := 0) hx hb d_Rd_beginWith_20 (by decide) ?_
  refine pf_Rd_at hx hb T hown hK hw rfl (kf_Rd_18 T) d_Rd_beginWith_21 (fun H locs hw => ?_)
  refine lv_aload_n hx hb d_Rd_beginWith_24 rfl (lv_at hl 0 rfl) ?_
  refine lv_null hx hb d_Rd_beginWith_25 ?_
  refine pf_Rd_open (y := none) hx hb T hown hK hw rfl (kf_Rd_22 T) d_Rd_beginWith_26 (fun H locs hw => ?_)
  refine lv_aload_n hx hb d_Rd_beginWith_29 rfl (lv_at hl 0 rfl) ?_
  refine lv_iconst (v := 0) hx hb d_Rd_beginWith_30 (by decide) ?_
  refine pf_Rd_wrongReason hx hb T hown hK hw rfl (kf_Rd_26 T) d_Rd_beginWith_31 (fun H locs hw => ?_)
  refine lv_aload_n hx hb d_Rd_beginWith_34 rfl (lv_at hl 0 rfl) ?_
  refine lv_iconst (v := -1) hx hb d_Rd_beginWith_35 (by decide) ?_
  refine pf_Rd_wrongPlace hx hb T hown hK hw rfl (kf_Rd_29 T) d_Rd_beginWith_36 (fun H locs hw => ?_)
  exact gr_v B hw d_Rd_beginWith_39 ⟨rfl, hF⟩
set_option maxHeartbeats 4000000 in
set_option maxRecDepth 100000 in
theorem t_Rd_next {l : Launch} {s0 : State} {D : va_G} {aC : Nat → ClassId} {a0 : Array Value} (G : gG l s0 D aC a0) (M : gMem) (r : gRef) (ow : Int64) (fu : Nat) (x1 : Int32)  (hno : F_Rd_next fu x1 M r ≠ .no) : gMet l s0 D aC y_Rd_next (Cond.code y_Rd_next b_Rd_next 3 (some .char)) 0 0 0 0 [.ref (s0.heap.size + 380), .int x1] M r ow (qI (F_Rd_next fu x1 M r)) (qT (F_Rd_next fu x1 M r)) := by
  refine gm_of G (by decide) (Nat.le_of_ble_eq_true rfl) ?_
  intro p e s m below meth c ls B hexc hl hw
  have hx := B.1
  have hb := B.2.1
  have hown := B.2.2.2.2.2.1
  have T := B.2.2.2.2.2.2.1
  have hK := B.2.2.2.2.2.2.2.1
  have hF := F_Rd_next.eq_1 fu x1 M r
  refine lv_aload_n hx hb d_Rd_next_0 rfl (lv_at hl 0 rfl) ?_
  refine gf_Rd_at hx hb T hown hK hw rfl (kf_Rd_18 T) d_Rd_next_1 ?_
  refine lv_iload_n hx hb d_Rd_next_4 rfl (lv_at hl 1 rfl) ?_
  refine lv_iadd hx hb d_Rd_next_5 ?_
  refine lv_istore_n hx hb d_Rd_next_6 rfl hl (by decide) rfl (fun ls hl => ?_)
  refine lv_iload_n hx hb d_Rd_next_7 rfl (lv_at hl 0 rfl) ?_
  refine lv_if_lt hx hb d_Rd_next_8 rfl (fun h5 => ?_) (fun h5 => ?_)
  · skip
    have hF := hF.trans (if_pos h5)
    refine lv_iconst (v := 0) hx hb d_Rd_next_34 (by decide) ?_
    exact gr_z B hw (by rfl) d_Rd_next_35 ⟨_, rfl, hF⟩
  · skip
    have hF := hF.trans (if_neg h5)
    refine lv_iload_n hx hb d_Rd_next_11 rfl (lv_at hl 0 rfl) ?_
    refine lv_aload_n hx hb d_Rd_next_12 rfl (lv_at hl 1 rfl) ?_
    refine gf_Rd_text hx hb T hown hK hw rfl (kf_Rd_55 T) d_Rd_next_13 ?_
    refine gf_Row_size hx hb T hown hK hw (i := 2) (by decide) rfl (kf_Rd_71 T) d_Rd_next_16 ?_
    refine lv_icmp_ge hx hb d_Rd_next_19 rfl (fun h6 => ?_) (fun h6 => ?_)
    · skip
      have hF := hF.trans (if_pos h6)
      refine lv_iconst (v := 0) hx hb d_Rd_next_34 (by decide) ?_
      exact gr_z B hw (by rfl) d_Rd_next_35 ⟨_, rfl, hF⟩
    · skip
      have hF := hF.trans (if_neg h6)
      refine lv_aload_n hx hb d_Rd_next_22 rfl (lv_at hl 1 rfl) ?_
      refine gf_Rd_text hx hb T hown hK hw rfl (kf_Rd_55 T) d_Rd_next_23 ?_
      refine gf_Row_chars hx hb T hown hK hw (i := 2) (by decide) rfl (kf_Rd_118 T) d_Rd_next_26 ?_
      refine lv_iload_n hx hb d_Rd_next_29 rfl (lv_at hl 0 rfl) ?_
      have g7 := ng hno hF
      have hF := hF.trans (gd_yes g7)
      refine ga_ch hx hb hK hw (i := 2) (by decide) rfl g7 d_Rd_next_30 ?_
      refine lv_goto hx hb d_Rd_next_31 rfl ?_
      have g8 := ng hno hF
      have hF := hF.trans (gd_yes g8)
      exact gr_z B hw g8 d_Rd_next_35 ⟨_, rfl, hF⟩
set_option maxHeartbeats 4000000 in
set_option maxRecDepth 100000 in
theorem t_MR_isBlank {l : Launch} {s0 : State} {D : va_G} {aC : Nat → ClassId} {a0 : Array Value} (G : gG l s0 D aC a0) (M : gMem) (r : gRef) (ow : Int64) (fu : Nat) (x0 : Int32)  (hno : F_MR_isBlank fu x0 M r ≠ .no) : gMet l s0 D aC y_MR_isBlank (Cond.code y_MR_isBlank b_MR_isBlank 1 (some .boolean)) 0 0 0 0 [.int x0] M r ow (qI (F_MR_isBlank fu x0 M r)) (qT (F_MR_isBlank fu x0 M r)) := by
  refine gm_of G (by decide) (Nat.le_of_ble_eq_true rfl) ?_
  intro p e s m below meth c ls B hexc hl hw
  have hx := B.1
  have hb := B.2.1
  have hown := B.2.2.2.2.2.1
  have T := B.2.2.2.2.2.2.1
  have hK := B.2.2.2.2.2.2.2.1
  have hF := F_MR_isBlank.eq_1 fu x0 M r
  refine lv_iload_n hx hb d_MR_isBlank_0 rfl (lv_at hl 0 rfl) ?_
  refine lv_bipush (v := 32) hx hb d_MR_isBlank_1 (by decide) ?_
  refine lv_icmp_eq hx hb d_MR_isBlank_3 rfl (fun h3 => ?_) (fun h3 => ?_)
  · skip
    have hF := hF.trans (if_pos h3)
    refine lv_iconst (v := 1) hx hb d_MR_isBlank_12 (by decide) ?_
    refine lv_goto hx hb d_MR_isBlank_13 rfl ?_
    exact gr_z B hw (by rfl) d_MR_isBlank_17 ⟨_, rfl, hF⟩
  · skip
    have hF := hF.trans (if_neg h3)
    refine lv_iload_n hx hb d_MR_isBlank_6 rfl (lv_at hl 0 rfl) ?_
    refine lv_bipush (v := 10) hx hb d_MR_isBlank_7 (by decide) ?_
    refine lv_icmp_ne hx hb d_MR_isBlank_9 rfl (fun h4 => ?_) (fun h4 => ?_)
    · skip
      have hF := hF.trans (if_neg h4)
      refine lv_iconst (v := 0) hx hb d_MR_isBlank_16 (by decide) ?_
      exact gr_z B hw (by rfl) d_MR_isBlank_17 ⟨_, rfl, hF⟩
    · skip
      have hF := hF.trans (if_pos h4)
      refine lv_iconst (v := 1) hx hb d_MR_isBlank_12 (by decide) ?_
      refine lv_goto hx hb d_MR_isBlank_13 rfl ?_
      exact gr_z B hw (by rfl) d_MR_isBlank_17 ⟨_, rfl, hF⟩
set_option maxHeartbeats 4000000 in
set_option maxRecDepth 100000 in
theorem t_Rd_passBlanks {l : Launch} {s0 : State} {D : va_G} {aC : Nat → ClassId} {a0 : Array Value} (G : gG l s0 D aC a0) (M : gMem) (r : gRef) (ow : Int64) (fu : Nat)  (hno : F_Rd_passBlanks fu M r ≠ .no) : gMet l s0 D aC y_Rd_passBlanks (Cond.code y_Rd_passBlanks b_Rd_passBlanks 2 (some .boolean)) 1 22 0 0 [.ref (s0.heap.size + 380)] M r ow (qI (F_Rd_passBlanks fu M r)) (qT (F_Rd_passBlanks fu M r)) := by
  refine gm_of G (by decide) (Nat.le_of_ble_eq_true rfl) ?_
  intro p e s m below meth c ls B hexc hl hw
  have hx := B.1
  have hb := B.2.1
  have hown := B.2.2.2.2.2.1
  have T := B.2.2.2.2.2.2.1
  have hK := B.2.2.2.2.2.2.2.1
  have X43 : ∀ (x1 : Int32) (M1 : gMem) (r1 : gRef) (H : Heap) (locs : List Loc) (ls : Array Slot), lv_has ls 2 [(1, .int x1), (0, .ref (s0.heap.size + 380))] → gWd s0 D aC M1 r1 ow H locs → F_Rd_passBlanks fu M r = F_Rd_passBlanks_B43 fu x1 M1 r1 → W p l e (gRm 1 22 0 0) s m ([.ref (s0.heap.size + 380)] : List Value).toArray below meth c H locs 0 0 (gt_Q below (gQ s0 D aC ow (qI (F_Rd_passBlanks fu M r)) (qT (F_Rd_passBlanks fu M r))) s 0 0 0 0 (fun q => s0.heap.size ≤ q)) (F0 m 43 ls []) := by
    intro x1 M1 r1 H locs ls hl hw hF
    have hF := hF.trans (F_Rd_passBlanks_B43.eq_1 _ _ _ _)
    refine lv_aload_n hx hb d_Rd_passBlanks_43 rfl (lv_at hl 1 rfl) ?_
    refine gf_Rd_at hx hb T hown hK hw rfl (kf_Rd_18 T) d_Rd_passBlanks_44 ?_
    refine lv_iload_n hx hb d_Rd_passBlanks_47 rfl (lv_at hl 0 rfl) ?_
    refine lv_icmp_le hx hb d_Rd_passBlanks_48 rfl (fun h6 => ?_) (fun h6 => ?_)
    · skip
      have hF := hF.trans (if_pos h6)
      refine lv_iconst (v := 0) hx hb d_Rd_passBlanks_55 (by decide) ?_
      exact gr_z B hw (by rfl) d_Rd_passBlanks_56 ⟨_, rfl, hF⟩
    · skip
      have hF := hF.trans (if_neg h6)
      refine lv_iconst (v := 1) hx hb d_Rd_passBlanks_51 (by decide) ?_
      refine lv_goto hx hb d_Rd_passBlanks_52 rfl ?_
      exact gr_z B hw (by rfl) d_Rd_passBlanks_56 ⟨_, rfl, hF⟩
  have L5 : ∀ (d : Nat) (x1 : Int32) (M1 : gMem) (r1 : gRef) (H : Heap) (locs : List Loc) (ls : Array Slot), lv_has ls 2 [(1, .int x1), (0, .ref (s0.heap.size + 380))] → gWd s0 D aC M1 r1 ow H locs → F_Rd_passBlanks fu M r = F_Rd_passBlanks_L5 fu d x1 M1 r1 → W p l e (gRm 1 22 0 0) s m ([.ref (s0.heap.size + 380)] : List Value).toArray below meth c H locs 0 0 (gt_Q below (gQ s0 D aC ow (qI (F_Rd_passBlanks fu M r)) (qT (F_Rd_passBlanks fu M r))) s 0 0 0 0 (fun q => s0.heap.size ≤ q)) (F0 m 5 ls []) := by
    intro d
    induction d with
    | zero => intro x1 M1 r1 H locs ls hl hw hF; exact absurd hF hno
    | succ d ih =>
      intro x1 M1 r1 H locs ls hl hw hF
      have hF := hF.trans (F_Rd_passBlanks_L5.eq_2 _ _ _ _ _)
      refine lv_aload_n hx hb d_Rd_passBlanks_5 rfl (lv_at hl 1 rfl) ?_
      refine gf_Rd_at hx hb T hown hK hw rfl (kf_Rd_18 T) d_Rd_passBlanks_6 ?_
      refine lv_aload_n hx hb d_Rd_passBlanks_9 rfl (lv_at hl 1 rfl) ?_
      refine gf_Rd_text hx hb T hown hK hw rfl (kf_Rd_55 T) d_Rd_passBlanks_10 ?_
      refine gf_Row_size hx hb T hown hK hw (i := 2) (by decide) rfl (kf_Rd_71 T) d_Rd_passBlanks_13 ?_
      refine lv_icmp_ge hx hb d_Rd_passBlanks_16 rfl (fun h7 => ?_) (fun h7 => ?_)
      · skip
        have hF := hF.trans (if_pos h7)
        exact X43 x1 _ _ _ _ _ (gv_loc hl [0, 1] rfl) hw hF
      · skip
        have hF := hF.trans (if_neg h7)
        refine lv_aload_n hx hb d_Rd_passBlanks_19 rfl (lv_at hl 1 rfl) ?_
        refine lv_iconst (v := 0) hx hb d_Rd_passBlanks_20 (by decide) ?_
        refine gy_V B hl.1 hw (t_Rd_next G _ _ ow fu 0 (nn hno hF)) (kd_Rd_next T) (ki_Rd T) (km_Rd_76 T) (ka_Rd_next T) (ks_Rd_next T) ⟨by decide, by decide, by rfl⟩ (rv_Rd hK hw rfl) rfl (Nat.le_of_ble_eq_true rfl) ⟨by decide, by decide⟩ ⟨by decide, by decide⟩ d_Rd_passBlanks_21 (fun v M8 r8 H locs hw hp => ?_) (fun x ek M8 r8 H locs hw hE hp => gr_t B hexc hw hE (by decide) (by decide) (hF.trans (bnd_ex hp)))
        obtain ⟨v8, rfl, hp⟩ := hp
        have hF := hF.trans (bnd_ok hp)
        refine gy_SN B hl.1 hw (t_MR_isBlank G _ _ ow fu v8 (nn hno hF)) (kd_MR_isBlank T) (ki_MR T) (km_Rd_135 T) (kt_MR_isBlank T) ⟨by decide, by decide, by rfl⟩ rfl (Nat.le_of_ble_eq_true rfl) ⟨by decide, by decide⟩ ⟨by decide, by decide⟩ d_Rd_passBlanks_24 (fun v M9 r9 H locs hw hp => ?_) (fun x ek M9 r9 H locs hw hE hp => gr_t B hexc hw hE (by decide) (by decide) (hF.trans (bnd_ex hp)))
        obtain ⟨v9, rfl, hp⟩ := hp
        have hF := hF.trans (bnd_ok hp)
        refine lv_if_eq hx hb d_Rd_passBlanks_27 rfl (fun h10 => ?_) (fun h10 => ?_)
        · skip
          have hF := hF.trans (if_pos h10)
          exact X43 x1 _ _ _ _ _ (gv_loc hl [0, 1] rfl) hw hF
        · skip
          have hF := hF.trans (if_neg h10)
          refine lv_aload_n hx hb d_Rd_passBlanks_30 rfl (lv_at hl 1 rfl) ?_
          refine lv_dup hx hb d_Rd_passBlanks_31 rfl ?_
          refine gf_Rd_at hx hb T hown hK hw rfl (kf_Rd_18 T) d_Rd_passBlanks_32 ?_
          refine lv_iconst (v := 1) hx hb d_Rd_passBlanks_35 (by decide) ?_
          refine lv_iadd hx hb d_Rd_passBlanks_36 ?_
          refine pf_Rd_at hx hb T hown hK hw rfl (kf_Rd_18 T) d_Rd_passBlanks_37 (fun H locs hw => ?_)
          refine lv_goto hx hb d_Rd_passBlanks_40 rfl ?_
          exact ih x1 _ _ _ _ _ (gv_loc hl [0, 1] rfl) hw hF
  have hF := F_Rd_passBlanks.eq_1 fu M r
  refine lv_aload_n hx hb d_Rd_passBlanks_0 rfl (lv_at hl 0 rfl) ?_
  refine gf_Rd_at hx hb T hown hK hw rfl (kf_Rd_18 T) d_Rd_passBlanks_1 ?_
  refine lv_istore_n hx hb d_Rd_passBlanks_4 rfl hl (by decide) rfl (fun ls hl => ?_)
  exact L5 fu (M 35 0) _ _ _ _ _ (gv_loc hl [0, 1] rfl) hw hF
set_option maxHeartbeats 4000000 in
set_option maxRecDepth 100000 in
theorem t_Rd_fail {l : Launch} {s0 : State} {D : va_G} {aC : Nat → ClassId} {a0 : Array Value} (G : gG l s0 D aC a0) (M : gMem) (r : gRef) (ow : Int64) (fu : Nat) (x1 : Int32) (x2 : Int32)  (hno : F_Rd_fail fu x1 x2 M r ≠ .no) : gMet l s0 D aC y_Rd_fail (Cond.code y_Rd_fail b_Rd_fail 3 none) 6 82 1 6 [.ref (s0.heap.size + 380), .int x1, .int x2] M r ow (qV (F_Rd_fail fu x1 x2 M r)) (qT (F_Rd_fail fu x1 x2 M r)) := by
  refine gm_of G (by decide) (Nat.le_of_ble_eq_true rfl) ?_
  intro p e s m below meth c ls B hexc hl hw
  have hx := B.1
  have hb := B.2.1
  have hown := B.2.2.2.2.2.1
  have T := B.2.2.2.2.2.2.1
  have hK := B.2.2.2.2.2.2.2.1
  have hF := F_Rd_fail.eq_1 fu x1 x2 M r
  refine lv_aload_n hx hb d_Rd_fail_0 rfl (lv_at hl 0 rfl) ?_
  refine gf_Rd_tree hx hb T hown hK hw rfl (kf_Rd_32 T) d_Rd_fail_1 ?_
  refine lv_iconst (v := 0) hx hb d_Rd_fail_4 (by decide) ?_
  refine pf_Tr_size hx hb T hown hK hw rfl (kf_Rd_110 T) d_Rd_fail_5 (fun H locs hw => ?_)
  refine lv_aload_n hx hb d_Rd_fail_8 rfl (lv_at hl 0 rfl) ?_
  refine gf_Rd_writer hx hb T hown hK hw rfl (kf_Rd_36 T) d_Rd_fail_9 ?_
  refine gf_FW_form hx hb T hown hK hw rfl (kf_Rd_105 T) d_Rd_fail_12 ?_
  refine lv_iconst (v := 0) hx hb d_Rd_fail_15 (by decide) ?_
  refine pf_Row_size hx hb T hown hK hw (i := 5) (by decide) rfl (kf_Rd_71 T) d_Rd_fail_16 (fun H locs hw => ?_)
  refine lv_aload_n hx hb d_Rd_fail_19 rfl (lv_at hl 0 rfl) ?_
  refine lv_iload_n hx hb d_Rd_fail_20 rfl (lv_at hl 1 rfl) ?_
  refine pf_Rd_wrongReason hx hb T hown hK hw rfl (kf_Rd_26 T) d_Rd_fail_21 (fun H locs hw => ?_)
  refine lv_aload_n hx hb d_Rd_fail_24 rfl (lv_at hl 0 rfl) ?_
  refine lv_iload_n hx hb d_Rd_fail_25 rfl (lv_at hl 2 rfl) ?_
  refine pf_Rd_wrongPlace hx hb T hown hK hw rfl (kf_Rd_29 T) d_Rd_fail_26 (fun H locs hw => ?_)
  exact gx_IA B G.2.1 hexc hl.1 hw (kc_Rd_111 T) (km_Rd_115 T) (sx_Rd_113 G.2.1) d_Rd_fail_29 d_Rd_fail_32 d_Rd_fail_33 d_Rd_fail_35 d_Rd_fail_38 (by decide) (by decide) (by decide) (Nat.le_of_ble_eq_true rfl) hF
set_option maxHeartbeats 4000000 in
set_option maxRecDepth 100000 in
theorem t_Rd_pass {l : Launch} {s0 : State} {D : va_G} {aC : Nat → ClassId} {a0 : Array Value} (G : gG l s0 D aC a0) (M : gMem) (r : gRef) (ow : Int64) (fu : Nat) (x1 : Int32)  (hno : F_Rd_pass fu x1 M r ≠ .no) : gMet l s0 D aC y_Rd_pass (Cond.code y_Rd_pass b_Rd_pass 2 none) 7 104 1 6 [.ref (s0.heap.size + 380), .int x1] M r ow (qV (F_Rd_pass fu x1 M r)) (qT (F_Rd_pass fu x1 M r)) := by
  refine gm_of G (by decide) (Nat.le_of_ble_eq_true rfl) ?_
  intro p e s m below meth c ls B hexc hl hw
  have hx := B.1
  have hb := B.2.1
  have hown := B.2.2.2.2.2.1
  have T := B.2.2.2.2.2.2.1
  have hK := B.2.2.2.2.2.2.2.1
  have hF := F_Rd_pass.eq_1 fu x1 M r
  refine lv_aload_n hx hb d_Rd_pass_0 rfl (lv_at hl 0 rfl) ?_
  refine lv_iconst (v := 0) hx hb d_Rd_pass_1 (by decide) ?_
  refine gy_V B hl.1 hw (t_Rd_next G _ _ ow fu 0 (nn hno hF)) (kd_Rd_next T) (ki_Rd T) (km_Rd_76 T) (ka_Rd_next T) (ks_Rd_next T) ⟨by decide, by decide, by rfl⟩ (rv_Rd hK hw rfl) rfl (Nat.le_of_ble_eq_true rfl) ⟨by decide, by decide⟩ ⟨by decide, by decide⟩ d_Rd_pass_2 (fun v M4 r4 H locs hw hp => ?_) (fun x ek M4 r4 H locs hw hE hp => gr_t B hexc hw hE (by decide) (by decide) (hF.trans (bnd_ex hp)))
  obtain ⟨v4, rfl, hp⟩ := hp
  have hF := hF.trans (bnd_ok hp)
  refine lv_iload_n hx hb d_Rd_pass_5 rfl (lv_at hl 1 rfl) ?_
  refine lv_icmp_eq hx hb d_Rd_pass_6 rfl (fun h5 => ?_) (fun h5 => ?_)
  · skip
    have hF := hF.trans (if_pos h5)
    refine lv_aload_n hx hb d_Rd_pass_18 rfl (lv_at hl 0 rfl) ?_
    refine lv_dup hx hb d_Rd_pass_19 rfl ?_
    refine gf_Rd_at hx hb T hown hK hw rfl (kf_Rd_18 T) d_Rd_pass_20 ?_
    refine lv_iconst (v := 1) hx hb d_Rd_pass_23 (by decide) ?_
    refine lv_iadd hx hb d_Rd_pass_24 ?_
    refine pf_Rd_at hx hb T hown hK hw rfl (kf_Rd_18 T) d_Rd_pass_25 (fun H locs hw => ?_)
    exact gr_v B hw d_Rd_pass_28 ⟨rfl, hF⟩
  · skip
    have hF := hF.trans (if_neg h5)
    refine lv_aload_n hx hb d_Rd_pass_9 rfl (lv_at hl 0 rfl) ?_
    refine lv_iconst (v := 1) hx hb d_Rd_pass_10 (by decide) ?_
    refine lv_aload_n hx hb d_Rd_pass_11 rfl (lv_at hl 0 rfl) ?_
    refine gf_Rd_at hx hb T hown hK hw rfl (kf_Rd_18 T) d_Rd_pass_12 ?_
    refine gy_V B hl.1 hw (t_Rd_fail G _ _ ow fu 1 (M4 35 0) (nn hno hF)) (kd_Rd_fail T) (ki_Rd T) (km_Rd_100 T) (ka_Rd_fail T) (ks_Rd_fail T) ⟨by decide, by decide, by rfl⟩ (rv_Rd hK hw rfl) rfl (Nat.le_of_ble_eq_true rfl) ⟨by decide, by decide⟩ ⟨by decide, by decide⟩ d_Rd_pass_15 (fun v M6 r6 H locs hw hp => ?_) (fun x ek M6 r6 H locs hw hE hp => gr_t B hexc hw hE (by decide) (by decide) (hF.trans (bnd_ex hp)))
    obtain ⟨rfl, hp⟩ := hp
    have hF := hF.trans (bnd_ok hp)
    exact absurd hF hno
set_option maxHeartbeats 4000000 in
set_option maxRecDepth 100000 in
theorem t_MR_beginsPart {l : Launch} {s0 : State} {D : va_G} {aC : Nat → ClassId} {a0 : Array Value} (G : gG l s0 D aC a0) (M : gMem) (r : gRef) (ow : Int64) (fu : Nat) (x0 : Int32)  (hno : F_MR_beginsPart fu x0 M r ≠ .no) : gMet l s0 D aC y_MR_beginsPart (Cond.code y_MR_beginsPart b_MR_beginsPart 1 (some .boolean)) 0 0 0 0 [.int x0] M r ow (qI (F_MR_beginsPart fu x0 M r)) (qT (F_MR_beginsPart fu x0 M r)) := by
  refine gm_of G (by decide) (Nat.le_of_ble_eq_true rfl) ?_
  intro p e s m below meth c ls B hexc hl hw
  have hx := B.1
  have hb := B.2.1
  have hown := B.2.2.2.2.2.1
  have T := B.2.2.2.2.2.2.1
  have hK := B.2.2.2.2.2.2.2.1
  have hF := F_MR_beginsPart.eq_1 fu x0 M r
  refine lv_iload_n hx hb d_MR_beginsPart_0 rfl (lv_at hl 0 rfl) ?_
  refine lv_bipush (v := 97) hx hb d_MR_beginsPart_1 (by decide) ?_
  refine lv_icmp_lt hx hb d_MR_beginsPart_3 rfl (fun h11 => ?_) (fun h11 => ?_)
  · skip
    have hF := hF.trans (if_pos h11)
    refine lv_iload_n hx hb d_MR_beginsPart_12 rfl (lv_at hl 0 rfl) ?_
    refine lv_bipush (v := 65) hx hb d_MR_beginsPart_13 (by decide) ?_
    refine lv_icmp_lt hx hb d_MR_beginsPart_15 rfl (fun h12 => ?_) (fun h12 => ?_)
    · skip
      have hF := hF.trans (if_pos h12)
      refine lv_iload_n hx hb d_MR_beginsPart_24 rfl (lv_at hl 0 rfl) ?_
      refine lv_bipush (v := 95) hx hb d_MR_beginsPart_25 (by decide) ?_
      refine lv_icmp_ne hx hb d_MR_beginsPart_27 rfl (fun h13 => ?_) (fun h13 => ?_)
      · skip
        have hF := hF.trans (if_neg h13)
        refine lv_iconst (v := 0) hx hb d_MR_beginsPart_34 (by decide) ?_
        exact gr_z B hw (by rfl) d_MR_beginsPart_35 ⟨_, rfl, hF⟩
      · skip
        have hF := hF.trans (if_pos h13)
        refine lv_iconst (v := 1) hx hb d_MR_beginsPart_30 (by decide) ?_
        refine lv_goto hx hb d_MR_beginsPart_31 rfl ?_
        exact gr_z B hw (by rfl) d_MR_beginsPart_35 ⟨_, rfl, hF⟩
    · skip
      have hF := hF.trans (if_neg h12)
      refine lv_iload_n hx hb d_MR_beginsPart_18 rfl (lv_at hl 0 rfl) ?_
      refine lv_bipush (v := 90) hx hb d_MR_beginsPart_19 (by decide) ?_
      refine lv_icmp_le hx hb d_MR_beginsPart_21 rfl (fun h14 => ?_) (fun h14 => ?_)
      · skip
        have hF := hF.trans (if_pos h14)
        refine lv_iconst (v := 1) hx hb d_MR_beginsPart_30 (by decide) ?_
        refine lv_goto hx hb d_MR_beginsPart_31 rfl ?_
        exact gr_z B hw (by rfl) d_MR_beginsPart_35 ⟨_, rfl, hF⟩
      · skip
        have hF := hF.trans (if_neg h14)
        refine lv_iload_n hx hb d_MR_beginsPart_24 rfl (lv_at hl 0 rfl) ?_
        refine lv_bipush (v := 95) hx hb d_MR_beginsPart_25 (by decide) ?_
        refine lv_icmp_ne hx hb d_MR_beginsPart_27 rfl (fun h15 => ?_) (fun h15 => ?_)
        · skip
          have hF := hF.trans (if_neg h15)
          refine lv_iconst (v := 0) hx hb d_MR_beginsPart_34 (by decide) ?_
          exact gr_z B hw (by rfl) d_MR_beginsPart_35 ⟨_, rfl, hF⟩
        · skip
          have hF := hF.trans (if_pos h15)
          refine lv_iconst (v := 1) hx hb d_MR_beginsPart_30 (by decide) ?_
          refine lv_goto hx hb d_MR_beginsPart_31 rfl ?_
          exact gr_z B hw (by rfl) d_MR_beginsPart_35 ⟨_, rfl, hF⟩
  · skip
    have hF := hF.trans (if_neg h11)
    refine lv_iload_n hx hb d_MR_beginsPart_6 rfl (lv_at hl 0 rfl) ?_
    refine lv_bipush (v := 122) hx hb d_MR_beginsPart_7 (by decide) ?_
    refine lv_icmp_le hx hb d_MR_beginsPart_9 rfl (fun h16 => ?_) (fun h16 => ?_)
    · skip
      have hF := hF.trans (if_pos h16)
      refine lv_iconst (v := 1) hx hb d_MR_beginsPart_30 (by decide) ?_
      refine lv_goto hx hb d_MR_beginsPart_31 rfl ?_
      exact gr_z B hw (by rfl) d_MR_beginsPart_35 ⟨_, rfl, hF⟩
    · skip
      have hF := hF.trans (if_neg h16)
      refine lv_iload_n hx hb d_MR_beginsPart_12 rfl (lv_at hl 0 rfl) ?_
      refine lv_bipush (v := 65) hx hb d_MR_beginsPart_13 (by decide) ?_
      refine lv_icmp_lt hx hb d_MR_beginsPart_15 rfl (fun h17 => ?_) (fun h17 => ?_)
      · skip
        have hF := hF.trans (if_pos h17)
        refine lv_iload_n hx hb d_MR_beginsPart_24 rfl (lv_at hl 0 rfl) ?_
        refine lv_bipush (v := 95) hx hb d_MR_beginsPart_25 (by decide) ?_
        refine lv_icmp_ne hx hb d_MR_beginsPart_27 rfl (fun h18 => ?_) (fun h18 => ?_)
        · skip
          have hF := hF.trans (if_neg h18)
          refine lv_iconst (v := 0) hx hb d_MR_beginsPart_34 (by decide) ?_
          exact gr_z B hw (by rfl) d_MR_beginsPart_35 ⟨_, rfl, hF⟩
        · skip
          have hF := hF.trans (if_pos h18)
          refine lv_iconst (v := 1) hx hb d_MR_beginsPart_30 (by decide) ?_
          refine lv_goto hx hb d_MR_beginsPart_31 rfl ?_
          exact gr_z B hw (by rfl) d_MR_beginsPart_35 ⟨_, rfl, hF⟩
      · skip
        have hF := hF.trans (if_neg h17)
        refine lv_iload_n hx hb d_MR_beginsPart_18 rfl (lv_at hl 0 rfl) ?_
        refine lv_bipush (v := 90) hx hb d_MR_beginsPart_19 (by decide) ?_
        refine lv_icmp_le hx hb d_MR_beginsPart_21 rfl (fun h19 => ?_) (fun h19 => ?_)
        · skip
          have hF := hF.trans (if_pos h19)
          refine lv_iconst (v := 1) hx hb d_MR_beginsPart_30 (by decide) ?_
          refine lv_goto hx hb d_MR_beginsPart_31 rfl ?_
          exact gr_z B hw (by rfl) d_MR_beginsPart_35 ⟨_, rfl, hF⟩
        · skip
          have hF := hF.trans (if_neg h19)
          refine lv_iload_n hx hb d_MR_beginsPart_24 rfl (lv_at hl 0 rfl) ?_
          refine lv_bipush (v := 95) hx hb d_MR_beginsPart_25 (by decide) ?_
          refine lv_icmp_ne hx hb d_MR_beginsPart_27 rfl (fun h20 => ?_) (fun h20 => ?_)
          · skip
            have hF := hF.trans (if_neg h20)
            refine lv_iconst (v := 0) hx hb d_MR_beginsPart_34 (by decide) ?_
            exact gr_z B hw (by rfl) d_MR_beginsPart_35 ⟨_, rfl, hF⟩
          · skip
            have hF := hF.trans (if_pos h20)
            refine lv_iconst (v := 1) hx hb d_MR_beginsPart_30 (by decide) ?_
            refine lv_goto hx hb d_MR_beginsPart_31 rfl ?_
            exact gr_z B hw (by rfl) d_MR_beginsPart_35 ⟨_, rfl, hF⟩
set_option maxHeartbeats 4000000 in
set_option maxRecDepth 100000 in
theorem t_El_begin_n {l : Launch} {s0 : State} {D : va_G} {aC : Nat → ClassId} {a0 : Array Value} (G : gG l s0 D aC a0) (M : gMem) (r : gRef) (ow : Int64) (fu : Nat) (k0 : Nat) (b0 : k0 < 24) (hno : F_El_begin_n fu k0 M r ≠ .no) : gMet l s0 D aC y_El_begin (Cond.code y_El_begin b_El_begin 2 none) 0 0 0 0 [.ref (s0.heap.size + oEl k0), .null] M r ow (qV (F_El_begin_n fu k0 M r)) (qT (F_El_begin_n fu k0 M r)) := by
  refine gm_of G (by decide) (Nat.le_of_ble_eq_true rfl) ?_
  intro p e s m below meth c ls B hexc hl hw
  have hx := B.1
  have hb := B.2.1
  have hown := B.2.2.2.2.2.1
  have T := B.2.2.2.2.2.2.1
  have hK := B.2.2.2.2.2.2.2.1
  have hF := F_El_begin_n.eq_1 fu k0 M r
  refine lv_aload_n hx hb d_El_begin_0 rfl (lv_at hl 0 rfl) ?_
  refine lv_aload_nN hx hb d_El_begin_1 rfl (lv_at hl 1 rfl) ?_
  refine pf_El_around (y := none) hx hb T hown hK hw (i := k0) b0 rfl (kf_El_29 T) d_El_begin_2 (fun H locs hw => ?_)
  refine lv_aload_n hx hb d_El_begin_5 rfl (lv_at hl 0 rfl) ?_
  refine lv_aload_nN hx hb d_El_begin_6 rfl (lv_at hl 1 rfl) ?_
  refine lv_ifnonnullN hx hb d_El_begin_7 ?_
  refine lv_iconst (v := 1) hx hb d_El_begin_10 (by decide) ?_
  refine lv_goto hx hb d_El_begin_11 rfl ?_
  refine pf_El_depth hx hb T hown hK hw (i := k0) b0 rfl (kf_El_33 T) d_El_begin_20 (fun H locs hw => ?_)
  refine lv_aload_n hx hb d_El_begin_23 rfl (lv_at hl 0 rfl) ?_
  refine lv_iconst (v := 0) hx hb d_El_begin_24 (by decide) ?_
  refine pf_El_elementsInside hx hb T hown hK hw (i := k0) b0 rfl (kf_El_36 T) d_El_begin_25 (fun H locs hw => ?_)
  refine lv_aload_n hx hb d_El_begin_28 rfl (lv_at hl 0 rfl) ?_
  refine lv_iconst (v := 0) hx hb d_El_begin_29 (by decide) ?_
  refine pf_El_attributeCount hx hb T hown hK hw (i := k0) b0 rfl (kf_El_39 T) d_El_begin_30 (fun H locs hw => ?_)
  refine lv_aload_n hx hb d_El_begin_33 rfl (lv_at hl 0 rfl) ?_
  refine lv_iconst (v := 0) hx hb d_El_begin_34 (by decide) ?_
  refine pf_El_declarationCount hx hb T hown hK hw (i := k0) b0 rfl (kf_El_42 T) d_El_begin_35 (fun H locs hw => ?_)
  refine lv_aload_n hx hb d_El_begin_38 rfl (lv_at hl 0 rfl) ?_
  refine lv_iconst (v := 0) hx hb d_El_begin_39 (by decide) ?_
  refine pf_El_ownCharacters hx hb T hown hK hw (i := k0) b0 rfl (kf_El_45 T) d_El_begin_40 (fun H locs hw => ?_)
  refine lv_aload_nN hx hb d_El_begin_43 rfl (lv_at hl 1 rfl) ?_
  refine lv_ifnullN hx hb d_El_begin_44 rfl ?_
  exact gr_v B hw d_El_begin_57 ⟨rfl, hF⟩
theorem d_Tr_add_0 : decode b_Tr_add 0 = .ok (.aload_n 0, 1) := by decide +kernel
theorem d_Tr_add_1 : decode b_Tr_add 1 = .ok (.getfield 43, 3) := by decide +kernel
theorem d_Tr_add_4 : decode b_Tr_add 4 = .ok (.bipush 24, 2) := by decide +kernel
theorem d_Tr_add_6 : decode b_Tr_add 6 = .ok (.if_icmp .ge 16, 3) := by decide +kernel
theorem d_Tr_add_9 : decode b_Tr_add 9 = .ok (.aload_n 1, 1) := by decide +kernel
theorem d_Tr_add_10 : decode b_Tr_add 10 = .ok (.ifnull 14, 3) := by decide +kernel
theorem d_Tr_add_13 : decode b_Tr_add 13 = .ok (.aload_n 1, 1) := by decide +kernel
theorem d_Tr_add_14 : decode b_Tr_add 14 = .ok (.getfield 53, 3) := by decide +kernel
theorem d_Tr_add_17 : decode b_Tr_add 17 = .ok (.bipush 12, 2) := by decide +kernel
theorem d_Tr_add_19 : decode b_Tr_add 19 = .ok (.if_icmp .lt 5, 3) := by decide +kernel
theorem d_Tr_add_22 : decode b_Tr_add 22 = .ok (.aconst_null, 1) := by decide +kernel
theorem d_Tr_add_23 : decode b_Tr_add 23 = .ok (.areturn, 1) := by decide +kernel
theorem d_Tr_add_24 : decode b_Tr_add 24 = .ok (.aload_n 0, 1) := by decide +kernel
theorem d_Tr_add_25 : decode b_Tr_add 25 = .ok (.getfield 32, 3) := by decide +kernel
theorem d_Tr_add_28 : decode b_Tr_add 28 = .ok (.aload_n 0, 1) := by decide +kernel
theorem d_Tr_add_29 : decode b_Tr_add 29 = .ok (.getfield 43, 3) := by decide +kernel
theorem d_Tr_add_32 : decode b_Tr_add 32 = .ok (.aaload, 1) := by decide +kernel
theorem d_Tr_add_33 : decode b_Tr_add 33 = .ok (.astore_n 2, 1) := by decide +kernel
theorem d_Tr_add_34 : decode b_Tr_add 34 = .ok (.aload_n 0, 1) := by decide +kernel
theorem d_Tr_add_35 : decode b_Tr_add 35 = .ok (.dup, 1) := by decide +kernel
theorem d_Tr_add_36 : decode b_Tr_add 36 = .ok (.getfield 43, 3) := by decide +kernel
theorem d_Tr_add_39 : decode b_Tr_add 39 = .ok (.iconst 1, 1) := by decide +kernel
theorem d_Tr_add_40 : decode b_Tr_add 40 = .ok (.iadd, 1) := by decide +kernel
theorem d_Tr_add_41 : decode b_Tr_add 41 = .ok (.putfield 43, 3) := by decide +kernel
theorem d_Tr_add_44 : decode b_Tr_add 44 = .ok (.aload_n 2, 1) := by decide +kernel
theorem d_Tr_add_45 : decode b_Tr_add 45 = .ok (.aload_n 1, 1) := by decide +kernel
theorem d_Tr_add_46 : decode b_Tr_add 46 = .ok (.invokevirtual 56, 3) := by decide +kernel
theorem d_Tr_add_49 : decode b_Tr_add 49 = .ok (.aload_n 2, 1) := by decide +kernel
theorem d_Tr_add_50 : decode b_Tr_add 50 = .ok (.areturn, 1) := by decide +kernel
set_option maxHeartbeats 4000000 in
set_option maxRecDepth 100000 in
theorem t_Tr_add_n {l : Launch} {s0 : State} {D : va_G} {aC : Nat → ClassId} {a0 : Array Value} (G : gG l s0 D aC a0) (M : gMem) (r : gRef) (ow : Int64) (fu : Nat)  (hno : F_Tr_add_n fu M r ≠ .no) : gMet l s0 D aC y_Tr_add (Cond.code y_Tr_add b_Tr_add 3 (some (.object "MarkupReader$Element"))) 1 21 0 0 [.ref (s0.heap.size + 5), .null] M r ow (qE s0.heap.size (F_Tr_add_n fu M r)) (qT (F_Tr_add_n fu M r)) := by
  refine gm_of G (by decide) (Nat.le_of_ble_eq_true rfl) ?_
  intro p e s m below meth c ls B hexc hl hw
  have hx := B.1
  have hb := B.2.1
  have hown := B.2.2.2.2.2.1
  have T := B.2.2.2.2.2.2.1
  have hK := B.2.2.2.2.2.2.2.1
  have hF := F_Tr_add_n.eq_1 fu M r
  refine lv_aload_n hx hb d_Tr_add_0 rfl (lv_at hl 0 rfl) ?_
  refine gf_Tr_size hx hb T hown hK hw rfl (kf_Tr_43 T) d_Tr_add_1 ?_
  refine lv_bipush (v := 24) hx hb d_Tr_add_4 (by decide) ?_
  refine lv_icmp_ge hx hb d_Tr_add_6 rfl (fun h4 => ?_) (fun h4 => ?_)
  · skip
    have hF := hF.trans (if_pos h4)
    refine lv_null hx hb d_Tr_add_22 ?_
    exact gr_a (v := none) B hw d_Tr_add_23 ⟨none, rfl, hF⟩
  · skip
    have hF := hF.trans (if_neg h4)
    refine lv_aload_nN hx hb d_Tr_add_9 rfl (lv_at hl 1 rfl) ?_
    refine lv_ifnullN hx hb d_Tr_add_10 rfl ?_
    refine lv_aload_n hx hb d_Tr_add_24 rfl (lv_at hl 0 rfl) ?_
    refine gf_Tr_elements hx hb T hown hK hw rfl (kf_Tr_32 T) d_Tr_add_25 ?_
    refine lv_aload_n hx hb d_Tr_add_28 rfl (lv_at hl 0 rfl) ?_
    refine gf_Tr_size hx hb T hown hK hw rfl (kf_Tr_43 T) d_Tr_add_29 ?_
    have g5 := ng hno hF
    have hF := hF.trans (gd_yes g5)
    refine ga_es hx hb hK hw rfl g5 d_Tr_add_32 ?_
    have b105 := vin_lt g5
    refine lv_astore_n hx hb d_Tr_add_33 rfl hl (by decide) rfl (fun ls hl => ?_)
    refine lv_aload_n hx hb d_Tr_add_34 rfl (lv_at hl 1 rfl) ?_
    refine lv_dup hx hb d_Tr_add_35 rfl ?_
    refine gf_Tr_size hx hb T hown hK hw rfl (kf_Tr_43 T) d_Tr_add_36 ?_
    refine lv_iconst (v := 1) hx hb d_Tr_add_39 (by decide) ?_
    refine lv_iadd hx hb d_Tr_add_40 ?_
    refine pf_Tr_size hx hb T hown hK hw rfl (kf_Tr_43 T) d_Tr_add_41 (fun H locs hw => ?_)
    refine lv_aload_n hx hb d_Tr_add_44 rfl (lv_at hl 0 rfl) ?_
    refine lv_aload_nN hx hb d_Tr_add_45 rfl (lv_at hl 2 rfl) ?_
    refine gy_V B hl.1 hw (t_El_begin_n G _ _ ow fu ((M 2 0).toNatClampNeg) b105 (nn hno hF)) (kd_El_begin T) (ki_El T) (km_Tr_56 T) (ka_El_begin T) (ks_El_begin T) ⟨by decide, by decide, by rfl⟩ (rv_El hK hw (i := ((M 2 0).toNatClampNeg)) b105 rfl) rfl (Nat.le_of_ble_eq_true rfl) ⟨by decide, by decide⟩ ⟨by decide, by decide⟩ d_Tr_add_46 (fun v M6 r6 H locs hw hp => ?_) (fun x ek M6 r6 H locs hw hE hp => gr_t B hexc hw hE (by decide) (by decide) (hF.trans (bnd_ex hp)))
    obtain ⟨rfl, hp⟩ := hp
    have hF := hF.trans (bnd_ok hp)
    refine lv_aload_n hx hb d_Tr_add_49 rfl (lv_at hl 0 rfl) ?_
    exact gr_a (v := some (s0.heap.size + oEl ((M 2 0).toNatClampNeg))) B hw d_Tr_add_50 ⟨some ((M 2 0).toNatClampNeg), rfl, hF⟩
set_option maxHeartbeats 4000000 in
set_option maxRecDepth 100000 in
theorem t_MR_goesOnPart {l : Launch} {s0 : State} {D : va_G} {aC : Nat → ClassId} {a0 : Array Value} (G : gG l s0 D aC a0) (M : gMem) (r : gRef) (ow : Int64) (fu : Nat) (x0 : Int32)  (hno : F_MR_goesOnPart fu x0 M r ≠ .no) : gMet l s0 D aC y_MR_goesOnPart (Cond.code y_MR_goesOnPart b_MR_goesOnPart 1 (some .boolean)) 1 20 0 0 [.int x0] M r ow (qI (F_MR_goesOnPart fu x0 M r)) (qT (F_MR_goesOnPart fu x0 M r)) := by
  refine gm_of G (by decide) (Nat.le_of_ble_eq_true rfl) ?_
  intro p e s m below meth c ls B hexc hl hw
  have hx := B.1
  have hb := B.2.1
  have hown := B.2.2.2.2.2.1
  have T := B.2.2.2.2.2.2.1
  have hK := B.2.2.2.2.2.2.2.1
  have hF := F_MR_goesOnPart.eq_1 fu x0 M r
  refine lv_iload_n hx hb d_MR_goesOnPart_0 rfl (lv_at hl 0 rfl) ?_
  refine gy_S B hl.1 hw (t_MR_beginsPart G _ _ ow fu x0 (nn hno hF)) (kd_MR_beginsPart T) (ki_MR T) (km_MR_181 T) (kt_MR_beginsPart T) ⟨by decide, by decide, by rfl⟩ rfl (Nat.le_of_ble_eq_true rfl) ⟨by decide, by decide⟩ ⟨by decide, by decide⟩ d_MR_goesOnPart_1 (fun v M9 r9 H locs hw hp => ?_) (fun x ek M9 r9 H locs hw hE hp => gr_t B hexc hw hE (by decide) (by decide) (hF.trans (bnd_ex hp)))
  obtain ⟨v9, rfl, hp⟩ := hp
  have hF := hF.trans (bnd_ok hp)
  refine lv_if_ne hx hb d_MR_goesOnPart_4 rfl (fun h10 => ?_) (fun h10 => ?_)
  · skip
    have hF := hF.trans (if_neg h10)
    refine lv_iconst (v := 1) hx hb d_MR_goesOnPart_31 (by decide) ?_
    refine lv_goto hx hb d_MR_goesOnPart_32 rfl ?_
    exact gr_z B hw (by rfl) d_MR_goesOnPart_36 ⟨_, rfl, hF⟩
  · skip
    have hF := hF.trans (if_pos h10)
    refine lv_iload_n hx hb d_MR_goesOnPart_7 rfl (lv_at hl 0 rfl) ?_
    refine lv_bipush (v := 48) hx hb d_MR_goesOnPart_8 (by decide) ?_
    refine lv_icmp_lt hx hb d_MR_goesOnPart_10 rfl (fun h11 => ?_) (fun h11 => ?_)
    · skip
      have hF := hF.trans (if_pos h11)
      refine lv_iload_n hx hb d_MR_goesOnPart_19 rfl (lv_at hl 0 rfl) ?_
      refine lv_bipush (v := 45) hx hb d_MR_goesOnPart_20 (by decide) ?_
      refine lv_icmp_eq hx hb d_MR_goesOnPart_22 rfl (fun h12 => ?_) (fun h12 => ?_)
      · skip
        have hF := hF.trans (if_pos h12)
        refine lv_iconst (v := 1) hx hb d_MR_goesOnPart_31 (by decide) ?_
        refine lv_goto hx hb d_MR_goesOnPart_32 rfl ?_
        exact gr_z B hw (by rfl) d_MR_goesOnPart_36 ⟨_, rfl, hF⟩
      · skip
        have hF := hF.trans (if_neg h12)
        refine lv_iload_n hx hb d_MR_goesOnPart_25 rfl (lv_at hl 0 rfl) ?_
        refine lv_bipush (v := 46) hx hb d_MR_goesOnPart_26 (by decide) ?_
        refine lv_icmp_ne hx hb d_MR_goesOnPart_28 rfl (fun h13 => ?_) (fun h13 => ?_)
        · skip
          have hF := hF.trans (if_neg h13)
          refine lv_iconst (v := 0) hx hb d_MR_goesOnPart_35 (by decide) ?_
          exact gr_z B hw (by rfl) d_MR_goesOnPart_36 ⟨_, rfl, hF⟩
        · skip
          have hF := hF.trans (if_pos h13)
          refine lv_iconst (v := 1) hx hb d_MR_goesOnPart_31 (by decide) ?_
          refine lv_goto hx hb d_MR_goesOnPart_32 rfl ?_
          exact gr_z B hw (by rfl) d_MR_goesOnPart_36 ⟨_, rfl, hF⟩
    · skip
      have hF := hF.trans (if_neg h11)
      refine lv_iload_n hx hb d_MR_goesOnPart_13 rfl (lv_at hl 0 rfl) ?_
      refine lv_bipush (v := 57) hx hb d_MR_goesOnPart_14 (by decide) ?_
      refine lv_icmp_le hx hb d_MR_goesOnPart_16 rfl (fun h14 => ?_) (fun h14 => ?_)
      · skip
        have hF := hF.trans (if_pos h14)
        refine lv_iconst (v := 1) hx hb d_MR_goesOnPart_31 (by decide) ?_
        refine lv_goto hx hb d_MR_goesOnPart_32 rfl ?_
        exact gr_z B hw (by rfl) d_MR_goesOnPart_36 ⟨_, rfl, hF⟩
      · skip
        have hF := hF.trans (if_neg h14)
        refine lv_iload_n hx hb d_MR_goesOnPart_19 rfl (lv_at hl 0 rfl) ?_
        refine lv_bipush (v := 45) hx hb d_MR_goesOnPart_20 (by decide) ?_
        refine lv_icmp_eq hx hb d_MR_goesOnPart_22 rfl (fun h15 => ?_) (fun h15 => ?_)
        · skip
          have hF := hF.trans (if_pos h15)
          refine lv_iconst (v := 1) hx hb d_MR_goesOnPart_31 (by decide) ?_
          refine lv_goto hx hb d_MR_goesOnPart_32 rfl ?_
          exact gr_z B hw (by rfl) d_MR_goesOnPart_36 ⟨_, rfl, hF⟩
        · skip
          have hF := hF.trans (if_neg h15)
          refine lv_iload_n hx hb d_MR_goesOnPart_25 rfl (lv_at hl 0 rfl) ?_
          refine lv_bipush (v := 46) hx hb d_MR_goesOnPart_26 (by decide) ?_
          refine lv_icmp_ne hx hb d_MR_goesOnPart_28 rfl (fun h16 => ?_) (fun h16 => ?_)
          · skip
            have hF := hF.trans (if_neg h16)
            refine lv_iconst (v := 0) hx hb d_MR_goesOnPart_35 (by decide) ?_
            exact gr_z B hw (by rfl) d_MR_goesOnPart_36 ⟨_, rfl, hF⟩
          · skip
            have hF := hF.trans (if_pos h16)
            refine lv_iconst (v := 1) hx hb d_MR_goesOnPart_31 (by decide) ?_
            refine lv_goto hx hb d_MR_goesOnPart_32 rfl ?_
            exact gr_z B hw (by rfl) d_MR_goesOnPart_36 ⟨_, rfl, hF⟩
set_option maxHeartbeats 4000000 in
set_option maxRecDepth 100000 in
theorem t_Rd_passPart {l : Launch} {s0 : State} {D : va_G} {aC : Nat → ClassId} {a0 : Array Value} (G : gG l s0 D aC a0) (M : gMem) (r : gRef) (ow : Int64) (fu : Nat)  (hno : F_Rd_passPart fu M r ≠ .no) : gMet l s0 D aC y_Rd_passPart (Cond.code y_Rd_passPart b_Rd_passPart 1 none) 7 104 1 6 [.ref (s0.heap.size + 380)] M r ow (qV (F_Rd_passPart fu M r)) (qT (F_Rd_passPart fu M r)) := by
  refine gm_of G (by decide) (Nat.le_of_ble_eq_true rfl) ?_
  intro p e s m below meth c ls B hexc hl hw
  have hx := B.1
  have hb := B.2.1
  have hown := B.2.2.2.2.2.1
  have T := B.2.2.2.2.2.2.1
  have hK := B.2.2.2.2.2.2.2.1
  have X58 : ∀ (M1 : gMem) (r1 : gRef) (H : Heap) (locs : List Loc) (ls : Array Slot), lv_has ls 1 [] → gWd s0 D aC M1 r1 ow H locs → F_Rd_passPart fu M r = F_Rd_passPart_B58 fu M1 r1 → W p l e (gRm 7 104 1 6) s m ([.ref (s0.heap.size + 380)] : List Value).toArray below meth c H locs 0 0 (gt_Q below (gQ s0 D aC ow (qV (F_Rd_passPart fu M r)) (qT (F_Rd_passPart fu M r))) s 0 0 1 6 (fun q => s0.heap.size ≤ q)) (F0 m 58 ls []) := by
    intro  M1 r1 H locs ls hl hw hF
    have hF := hF.trans (F_Rd_passPart_B58.eq_1 _ _ _)
    exact gr_v B hw d_Rd_passPart_58 ⟨rfl, hF⟩
  have L20 : ∀ (d : Nat) (M1 : gMem) (r1 : gRef) (H : Heap) (locs : List Loc) (ls : Array Slot), lv_has ls 1 [(0, .ref (s0.heap.size + 380))] → gWd s0 D aC M1 r1 ow H locs → F_Rd_passPart fu M r = F_Rd_passPart_L20 fu d M1 r1 → W p l e (gRm 7 104 1 6) s m ([.ref (s0.heap.size + 380)] : List Value).toArray below meth c H locs 0 0 (gt_Q below (gQ s0 D aC ow (qV (F_Rd_passPart fu M r)) (qT (F_Rd_passPart fu M r))) s 0 0 1 6 (fun q => s0.heap.size ≤ q)) (F0 m 20 ls []) := by
    intro d
    induction d with
    | zero => intro  M1 r1 H locs ls hl hw hF; exact absurd hF hno
    | succ d ih =>
      intro  M1 r1 H locs ls hl hw hF
      have hF := hF.trans (F_Rd_passPart_L20.eq_2 _ _ _ _)
      refine lv_aload_n hx hb d_Rd_passPart_20 rfl (lv_at hl 0 rfl) ?_
      refine gf_Rd_at hx hb T hown hK hw rfl (kf_Rd_18 T) d_Rd_passPart_21 ?_
      refine lv_aload_n hx hb d_Rd_passPart_24 rfl (lv_at hl 0 rfl) ?_
      refine gf_Rd_text hx hb T hown hK hw rfl (kf_Rd_55 T) d_Rd_passPart_25 ?_
      refine gf_Row_size hx hb T hown hK hw (i := 2) (by decide) rfl (kf_Rd_71 T) d_Rd_passPart_28 ?_
      refine lv_icmp_ge hx hb d_Rd_passPart_31 rfl (fun h9 => ?_) (fun h9 => ?_)
      · skip
        have hF := hF.trans (if_pos h9)
        exact X58  _ _ _ _ _ (gv_loc hl [] rfl) hw hF
      · skip
        have hF := hF.trans (if_neg h9)
        refine lv_aload_n hx hb d_Rd_passPart_34 rfl (lv_at hl 0 rfl) ?_
        refine lv_iconst (v := 0) hx hb d_Rd_passPart_35 (by decide) ?_
        refine gy_V B hl.1 hw (t_Rd_next G _ _ ow fu 0 (nn hno hF)) (kd_Rd_next T) (ki_Rd T) (km_Rd_76 T) (ka_Rd_next T) (ks_Rd_next T) ⟨by decide, by decide, by rfl⟩ (rv_Rd hK hw rfl) rfl (Nat.le_of_ble_eq_true rfl) ⟨by decide, by decide⟩ ⟨by decide, by decide⟩ d_Rd_passPart_36 (fun v M10 r10 H locs hw hp => ?_) (fun x ek M10 r10 H locs hw hE hp => gr_t B hexc hw hE (by decide) (by decide) (hF.trans (bnd_ex hp)))
        obtain ⟨v10, rfl, hp⟩ := hp
        have hF := hF.trans (bnd_ok hp)
        refine gy_SN B hl.1 hw (t_MR_goesOnPart G _ _ ow fu v10 (nn hno hF)) (kd_MR_goesOnPart T) (ki_MR T) (km_Rd_153 T) (kt_MR_goesOnPart T) ⟨by decide, by decide, by rfl⟩ rfl (Nat.le_of_ble_eq_true rfl) ⟨by decide, by decide⟩ ⟨by decide, by decide⟩ d_Rd_passPart_39 (fun v M11 r11 H locs hw hp => ?_) (fun x ek M11 r11 H locs hw hE hp => gr_t B hexc hw hE (by decide) (by decide) (hF.trans (bnd_ex hp)))
        obtain ⟨v11, rfl, hp⟩ := hp
        have hF := hF.trans (bnd_ok hp)
        refine lv_if_eq hx hb d_Rd_passPart_42 rfl (fun h12 => ?_) (fun h12 => ?_)
        · skip
          have hF := hF.trans (if_pos h12)
          exact X58  _ _ _ _ _ (gv_loc hl [] rfl) hw hF
        · skip
          have hF := hF.trans (if_neg h12)
          refine lv_aload_n hx hb d_Rd_passPart_45 rfl (lv_at hl 0 rfl) ?_
          refine lv_dup hx hb d_Rd_passPart_46 rfl ?_
          refine gf_Rd_at hx hb T hown hK hw rfl (kf_Rd_18 T) d_Rd_passPart_47 ?_
          refine lv_iconst (v := 1) hx hb d_Rd_passPart_50 (by decide) ?_
          refine lv_iadd hx hb d_Rd_passPart_51 ?_
          refine pf_Rd_at hx hb T hown hK hw rfl (kf_Rd_18 T) d_Rd_passPart_52 (fun H locs hw => ?_)
          refine lv_goto hx hb d_Rd_passPart_55 rfl ?_
          exact ih  _ _ _ _ _ (gv_loc hl [0] rfl) hw hF
  have hF := F_Rd_passPart.eq_1 fu M r
  refine lv_aload_n hx hb d_Rd_passPart_0 rfl (lv_at hl 0 rfl) ?_
  refine lv_iconst (v := 0) hx hb d_Rd_passPart_1 (by decide) ?_
  refine gy_V B hl.1 hw (t_Rd_next G _ _ ow fu 0 (nn hno hF)) (kd_Rd_next T) (ki_Rd T) (km_Rd_76 T) (ka_Rd_next T) (ks_Rd_next T) ⟨by decide, by decide, by rfl⟩ (rv_Rd hK hw rfl) rfl (Nat.le_of_ble_eq_true rfl) ⟨by decide, by decide⟩ ⟨by decide, by decide⟩ d_Rd_passPart_2 (fun v M13 r13 H locs hw hp => ?_) (fun x ek M13 r13 H locs hw hE hp => gr_t B hexc hw hE (by decide) (by decide) (hF.trans (bnd_ex hp)))
  obtain ⟨v13, rfl, hp⟩ := hp
  have hF := hF.trans (bnd_ok hp)
  refine gy_SN B hl.1 hw (t_MR_beginsPart G _ _ ow fu v13 (nn hno hF)) (kd_MR_beginsPart T) (ki_MR T) (km_Rd_150 T) (kt_MR_beginsPart T) ⟨by decide, by decide, by rfl⟩ rfl (Nat.le_of_ble_eq_true rfl) ⟨by decide, by decide⟩ ⟨by decide, by decide⟩ d_Rd_passPart_5 (fun v M14 r14 H locs hw hp => ?_) (fun x ek M14 r14 H locs hw hE hp => gr_t B hexc hw hE (by decide) (by decide) (hF.trans (bnd_ex hp)))
  obtain ⟨v14, rfl, hp⟩ := hp
  have hF := hF.trans (bnd_ok hp)
  refine lv_if_ne hx hb d_Rd_passPart_8 rfl (fun h15 => ?_) (fun h15 => ?_)
  · skip
    have hF := hF.trans (if_neg h15)
    exact L20 fu  _ _ _ _ _ (gv_loc hl [0] rfl) hw hF
  · skip
    have hF := hF.trans (if_pos h15)
    refine lv_aload_n hx hb d_Rd_passPart_11 rfl (lv_at hl 0 rfl) ?_
    refine lv_iconst (v := 1) hx hb d_Rd_passPart_12 (by decide) ?_
    refine lv_aload_n hx hb d_Rd_passPart_13 rfl (lv_at hl 0 rfl) ?_
    refine gf_Rd_at hx hb T hown hK hw rfl (kf_Rd_18 T) d_Rd_passPart_14 ?_
    refine gy_V B hl.1 hw (t_Rd_fail G _ _ ow fu 1 (M14 35 0) (nn hno hF)) (kd_Rd_fail T) (ki_Rd T) (km_Rd_100 T) (ka_Rd_fail T) (ks_Rd_fail T) ⟨by decide, by decide, by rfl⟩ (rv_Rd hK hw rfl) rfl (Nat.le_of_ble_eq_true rfl) ⟨by decide, by decide⟩ ⟨by decide, by decide⟩ d_Rd_passPart_17 (fun v M16 r16 H locs hw hp => ?_) (fun x ek M16 r16 H locs hw hE hp => gr_t B hexc hw hE (by decide) (by decide) (hF.trans (bnd_ex hp)))
    obtain ⟨rfl, hp⟩ := hp
    have hF := hF.trans (bnd_ok hp)
    exact absurd hF hno
theorem d_Rd_readName_0 : decode b_Rd_readName 0 = .ok (.aload_n 1, 1) := by decide +kernel
theorem d_Rd_readName_1 : decode b_Rd_readName 1 = .ok (.aload_n 0, 1) := by decide +kernel
theorem d_Rd_readName_2 : decode b_Rd_readName 2 = .ok (.getfield 18, 3) := by decide +kernel
theorem d_Rd_readName_5 : decode b_Rd_readName 5 = .ok (.putfield 156, 3) := by decide +kernel
theorem d_Rd_readName_8 : decode b_Rd_readName 8 = .ok (.aload_n 1, 1) := by decide +kernel
theorem d_Rd_readName_9 : decode b_Rd_readName 9 = .ok (.aload_n 0, 1) := by decide +kernel
theorem d_Rd_readName_10 : decode b_Rd_readName 10 = .ok (.getfield 18, 3) := by decide +kernel
theorem d_Rd_readName_13 : decode b_Rd_readName 13 = .ok (.putfield 159, 3) := by decide +kernel
theorem d_Rd_readName_16 : decode b_Rd_readName 16 = .ok (.aload_n 1, 1) := by decide +kernel
theorem d_Rd_readName_17 : decode b_Rd_readName 17 = .ok (.aload_n 0, 1) := by decide +kernel
theorem d_Rd_readName_18 : decode b_Rd_readName 18 = .ok (.getfield 32, 3) := by decide +kernel
theorem d_Rd_readName_21 : decode b_Rd_readName 21 = .ok (.getfield 162, 3) := by decide +kernel
theorem d_Rd_readName_24 : decode b_Rd_readName 24 = .ok (.putfield 166, 3) := by decide +kernel
theorem d_Rd_readName_27 : decode b_Rd_readName 27 = .ok (.aload_n 0, 1) := by decide +kernel
theorem d_Rd_readName_28 : decode b_Rd_readName 28 = .ok (.invokevirtual 169, 3) := by decide +kernel
theorem d_Rd_readName_31 : decode b_Rd_readName 31 = .ok (.aload_n 0, 1) := by decide +kernel
theorem d_Rd_readName_32 : decode b_Rd_readName 32 = .ok (.iconst 0, 1) := by decide +kernel
theorem d_Rd_readName_33 : decode b_Rd_readName 33 = .ok (.invokevirtual 76, 3) := by decide +kernel
theorem d_Rd_readName_36 : decode b_Rd_readName 36 = .ok (.bipush 58, 2) := by decide +kernel
theorem d_Rd_readName_38 : decode b_Rd_readName 38 = .ok (.if_icmp .ne 25, 3) := by decide +kernel
theorem d_Rd_readName_41 : decode b_Rd_readName 41 = .ok (.aload_n 0, 1) := by decide +kernel
theorem d_Rd_readName_42 : decode b_Rd_readName 42 = .ok (.dup, 1) := by decide +kernel
theorem d_Rd_readName_43 : decode b_Rd_readName 43 = .ok (.getfield 18, 3) := by decide +kernel
theorem d_Rd_readName_46 : decode b_Rd_readName 46 = .ok (.iconst 1, 1) := by decide +kernel
theorem d_Rd_readName_47 : decode b_Rd_readName 47 = .ok (.iadd, 1) := by decide +kernel
theorem d_Rd_readName_48 : decode b_Rd_readName 48 = .ok (.putfield 18, 3) := by decide +kernel
theorem d_Rd_readName_51 : decode b_Rd_readName 51 = .ok (.aload_n 1, 1) := by decide +kernel
theorem d_Rd_readName_52 : decode b_Rd_readName 52 = .ok (.aload_n 0, 1) := by decide +kernel
theorem d_Rd_readName_53 : decode b_Rd_readName 53 = .ok (.getfield 18, 3) := by decide +kernel
theorem d_Rd_readName_56 : decode b_Rd_readName 56 = .ok (.putfield 159, 3) := by decide +kernel
theorem d_Rd_readName_59 : decode b_Rd_readName 59 = .ok (.aload_n 0, 1) := by decide +kernel
theorem d_Rd_readName_60 : decode b_Rd_readName 60 = .ok (.invokevirtual 169, 3) := by decide +kernel
theorem d_Rd_readName_63 : decode b_Rd_readName 63 = .ok (.aload_n 1, 1) := by decide +kernel
theorem d_Rd_readName_64 : decode b_Rd_readName 64 = .ok (.aload_n 0, 1) := by decide +kernel
theorem d_Rd_readName_65 : decode b_Rd_readName 65 = .ok (.getfield 18, 3) := by decide +kernel
theorem d_Rd_readName_68 : decode b_Rd_readName 68 = .ok (.putfield 172, 3) := by decide +kernel
theorem d_Rd_readName_71 : decode b_Rd_readName 71 = .ok (.return_, 1) := by decide +kernel
set_option maxHeartbeats 4000000 in
set_option maxRecDepth 100000 in
theorem t_Rd_readName {l : Launch} {s0 : State} {D : va_G} {aC : Nat → ClassId} {a0 : Array Value} (G : gG l s0 D aC a0) (M : gMem) (r : gRef) (ow : Int64) (fu : Nat) (k1 : Nat) (b1 : k1 < 170) (hno : F_Rd_readName fu k1 M r ≠ .no) : gMet l s0 D aC y_Rd_readName (Cond.code y_Rd_readName b_Rd_readName 2 none) 8 124 1 6 [.ref (s0.heap.size + 380), .ref (s0.heap.size + oNm k1)] M r ow (qV (F_Rd_readName fu k1 M r)) (qT (F_Rd_readName fu k1 M r)) := by
  refine gm_of G (by decide) (Nat.le_of_ble_eq_true rfl) ?_
  intro p e s m below meth c ls B hexc hl hw
  have hx := B.1
  have hb := B.2.1
  have hown := B.2.2.2.2.2.1
  have T := B.2.2.2.2.2.2.1
  have hK := B.2.2.2.2.2.2.2.1
  have hF := F_Rd_readName.eq_1 fu k1 M r
  refine lv_aload_n hx hb d_Rd_readName_0 rfl (lv_at hl 1 rfl) ?_
  refine lv_aload_n hx hb d_Rd_readName_1 rfl (lv_at hl 0 rfl) ?_
  refine gf_Rd_at hx hb T hown hK hw rfl (kf_Rd_18 T) d_Rd_readName_2 ?_
  refine pf_Nm_start hx hb T hown hK hw (i := k1) b1 rfl (kf_Rd_156 T) d_Rd_readName_5 (fun H locs hw => ?_)
  refine lv_aload_n hx hb d_Rd_readName_8 rfl (lv_at hl 1 rfl) ?_
  refine lv_aload_n hx hb d_Rd_readName_9 rfl (lv_at hl 0 rfl) ?_
  refine gf_Rd_at hx hb T hown hK hw rfl (kf_Rd_18 T) d_Rd_readName_10 ?_
  refine pf_Nm_local hx hb T hown hK hw (i := k1) b1 rfl (kf_Rd_159 T) d_Rd_readName_13 (fun H locs hw => ?_)
  refine lv_aload_n hx hb d_Rd_readName_16 rfl (lv_at hl 1 rfl) ?_
  refine lv_aload_n hx hb d_Rd_readName_17 rfl (lv_at hl 0 rfl) ?_
  refine gf_Rd_tree hx hb T hown hK hw rfl (kf_Rd_32 T) d_Rd_readName_18 ?_
  refine gf_Tr_noDeclaration hx hb T hown hK hw rfl (kf_Rd_162 T) d_Rd_readName_21 ?_
  refine pf_Nm_space (y := (some 144)) hx hb T hown hK hw (i := k1) b1 rfl (kf_Rd_166 T) d_Rd_readName_24 (fun H locs hw => ?_)
  refine lv_aload_n hx hb d_Rd_readName_27 rfl (lv_at hl 0 rfl) ?_
  refine gy_V B hl.1 hw (t_Rd_passPart G _ _ ow fu (nn hno hF)) (kd_Rd_passPart T) (ki_Rd T) (km_Rd_169 T) (ka_Rd_passPart T) (ks_Rd_passPart T) ⟨by decide, by decide, by rfl⟩ (rv_Rd hK hw rfl) rfl (Nat.le_of_ble_eq_true rfl) ⟨by decide, by decide⟩ ⟨by decide, by decide⟩ d_Rd_readName_28 (fun v M5 r5 H locs hw hp => ?_) (fun x ek M5 r5 H locs hw hE hp => gr_t B hexc hw hE (by decide) (by decide) (hF.trans (bnd_ex hp)))
  obtain ⟨rfl, hp⟩ := hp
  have hF := hF.trans (bnd_ok hp)
  refine lv_aload_n hx hb d_Rd_readName_31 rfl (lv_at hl 0 rfl) ?_
  refine lv_iconst (v := 0) hx hb d_Rd_readName_32 (by decide) ?_
  refine gy_V B hl.1 hw (t_Rd_next G _ _ ow fu 0 (nn hno hF)) (kd_Rd_next T) (ki_Rd T) (km_Rd_76 T) (ka_Rd_next T) (ks_Rd_next T) ⟨by decide, by decide, by rfl⟩ (rv_Rd hK hw rfl) rfl (Nat.le_of_ble_eq_true rfl) ⟨by decide, by decide⟩ ⟨by decide, by decide⟩ d_Rd_readName_33 (fun v M6 r6 H locs hw hp => ?_) (fun x ek M6 r6 H locs hw hE hp => gr_t B hexc hw hE (by decide) (by decide) (hF.trans (bnd_ex hp)))
  obtain ⟨v6, rfl, hp⟩ := hp
  have hF := hF.trans (bnd_ok hp)
  refine lv_bipush (v := 58) hx hb d_Rd_readName_36 (by decide) ?_
  refine lv_icmp_ne hx hb d_Rd_readName_38 rfl (fun h7 => ?_) (fun h7 => ?_)
  · skip
    have hF := hF.trans (if_neg h7)
    refine lv_aload_n hx hb d_Rd_readName_63 rfl (lv_at hl 1 rfl) ?_
    refine lv_aload_n hx hb d_Rd_readName_64 rfl (lv_at hl 0 rfl) ?_
    refine gf_Rd_at hx hb T hown hK hw rfl (kf_Rd_18 T) d_Rd_readName_65 ?_
    refine pf_Nm_end hx hb T hown hK hw (i := k1) b1 rfl (kf_Rd_172 T) d_Rd_readName_68 (fun H locs hw => ?_)
    exact gr_v B hw d_Rd_readName_71 ⟨rfl, hF⟩
  · skip
    have hF := hF.trans (if_pos h7)
    refine lv_aload_n hx hb d_Rd_readName_41 rfl (lv_at hl 0 rfl) ?_
    refine lv_dup hx hb d_Rd_readName_42 rfl ?_
    refine gf_Rd_at hx hb T hown hK hw rfl (kf_Rd_18 T) d_Rd_readName_43 ?_
    refine lv_iconst (v := 1) hx hb d_Rd_readName_46 (by decide) ?_
    refine lv_iadd hx hb d_Rd_readName_47 ?_
    refine pf_Rd_at hx hb T hown hK hw rfl (kf_Rd_18 T) d_Rd_readName_48 (fun H locs hw => ?_)
    refine lv_aload_n hx hb d_Rd_readName_51 rfl (lv_at hl 1 rfl) ?_
    refine lv_aload_n hx hb d_Rd_readName_52 rfl (lv_at hl 0 rfl) ?_
    refine gf_Rd_at hx hb T hown hK hw rfl (kf_Rd_18 T) d_Rd_readName_53 ?_
    refine pf_Nm_local hx hb T hown hK hw (i := k1) b1 rfl (kf_Rd_159 T) d_Rd_readName_56 (fun H locs hw => ?_)
    refine lv_aload_n hx hb d_Rd_readName_59 rfl (lv_at hl 0 rfl) ?_
    refine gy_V B hl.1 hw (t_Rd_passPart G _ _ ow fu (nn hno hF)) (kd_Rd_passPart T) (ki_Rd T) (km_Rd_169 T) (ka_Rd_passPart T) (ks_Rd_passPart T) ⟨by decide, by decide, by rfl⟩ (rv_Rd hK hw rfl) rfl (Nat.le_of_ble_eq_true rfl) ⟨by decide, by decide⟩ ⟨by decide, by decide⟩ d_Rd_readName_60 (fun v M8 r8 H locs hw hp => ?_) (fun x ek M8 r8 H locs hw hE hp => gr_t B hexc hw hE (by decide) (by decide) (hF.trans (bnd_ex hp)))
    obtain ⟨rfl, hp⟩ := hp
    have hF := hF.trans (bnd_ok hp)
    refine lv_aload_n hx hb d_Rd_readName_63 rfl (lv_at hl 1 rfl) ?_
    refine lv_aload_n hx hb d_Rd_readName_64 rfl (lv_at hl 0 rfl) ?_
    refine gf_Rd_at hx hb T hown hK hw rfl (kf_Rd_18 T) d_Rd_readName_65 ?_
    refine pf_Nm_end hx hb T hown hK hw (i := k1) b1 rfl (kf_Rd_172 T) d_Rd_readName_68 (fun H locs hw => ?_)
    exact gr_v B hw d_Rd_readName_71 ⟨rfl, hF⟩
set_option maxHeartbeats 4000000 in
set_option maxRecDepth 100000 in
theorem t_El_begin {l : Launch} {s0 : State} {D : va_G} {aC : Nat → ClassId} {a0 : Array Value} (G : gG l s0 D aC a0) (M : gMem) (r : gRef) (ow : Int64) (fu : Nat) (k0 : Nat) (k1 : Nat) (b0 : k0 < 24) (b1 : k1 < 24) (hno : F_El_begin fu k0 k1 M r ≠ .no) : gMet l s0 D aC y_El_begin (Cond.code y_El_begin b_El_begin 2 none) 0 0 0 0 [.ref (s0.heap.size + oEl k0), .ref (s0.heap.size + oEl k1)] M r ow (qV (F_El_begin fu k0 k1 M r)) (qT (F_El_begin fu k0 k1 M r)) := by
  refine gm_of G (by decide) (Nat.le_of_ble_eq_true rfl) ?_
  intro p e s m below meth c ls B hexc hl hw
  have hx := B.1
  have hb := B.2.1
  have hown := B.2.2.2.2.2.1
  have T := B.2.2.2.2.2.2.1
  have hK := B.2.2.2.2.2.2.2.1
  have hF := F_El_begin.eq_1 fu k0 k1 M r
  refine lv_aload_n hx hb d_El_begin_0 rfl (lv_at hl 0 rfl) ?_
  refine lv_aload_n hx hb d_El_begin_1 rfl (lv_at hl 1 rfl) ?_
  refine pf_El_around (y := (some k1)) hx hb T hown hK hw (i := k0) b0 rfl (kf_El_29 T) d_El_begin_2 (fun H locs hw => ?_)
  refine lv_aload_n hx hb d_El_begin_5 rfl (lv_at hl 0 rfl) ?_
  refine lv_aload_n hx hb d_El_begin_6 rfl (lv_at hl 1 rfl) ?_
  refine lv_ifnonnull hx hb d_El_begin_7 rfl ?_
  refine lv_aload_n hx hb d_El_begin_14 rfl (lv_at hl 1 rfl) ?_
  refine gf_El_depth hx hb T hown hK hw (i := k1) b1 rfl (kf_El_33 T) d_El_begin_15 ?_
  refine lv_iconst (v := 1) hx hb d_El_begin_18 (by decide) ?_
  refine lv_iadd hx hb d_El_begin_19 ?_
  refine pf_El_depth hx hb T hown hK hw (i := k0) b0 rfl (kf_El_33 T) d_El_begin_20 (fun H locs hw => ?_)
  refine lv_aload_n hx hb d_El_begin_23 rfl (lv_at hl 0 rfl) ?_
  refine lv_iconst (v := 0) hx hb d_El_begin_24 (by decide) ?_
  refine pf_El_elementsInside hx hb T hown hK hw (i := k0) b0 rfl (kf_El_36 T) d_El_begin_25 (fun H locs hw => ?_)
  refine lv_aload_n hx hb d_El_begin_28 rfl (lv_at hl 0 rfl) ?_
  refine lv_iconst (v := 0) hx hb d_El_begin_29 (by decide) ?_
  refine pf_El_attributeCount hx hb T hown hK hw (i := k0) b0 rfl (kf_El_39 T) d_El_begin_30 (fun H locs hw => ?_)
  refine lv_aload_n hx hb d_El_begin_33 rfl (lv_at hl 0 rfl) ?_
  refine lv_iconst (v := 0) hx hb d_El_begin_34 (by decide) ?_
  refine pf_El_declarationCount hx hb T hown hK hw (i := k0) b0 rfl (kf_El_42 T) d_El_begin_35 (fun H locs hw => ?_)
  refine lv_aload_n hx hb d_El_begin_38 rfl (lv_at hl 0 rfl) ?_
  refine lv_iconst (v := 0) hx hb d_El_begin_39 (by decide) ?_
  refine pf_El_ownCharacters hx hb T hown hK hw (i := k0) b0 rfl (kf_El_45 T) d_El_begin_40 (fun H locs hw => ?_)
  refine lv_aload_n hx hb d_El_begin_43 rfl (lv_at hl 1 rfl) ?_
  refine lv_ifnull hx hb d_El_begin_44 ?_
  refine lv_aload_n hx hb d_El_begin_47 rfl (lv_at hl 1 rfl) ?_
  refine lv_dup hx hb d_El_begin_48 rfl ?_
  refine gf_El_elementsInside hx hb T hown hK hw (i := k1) b1 rfl (kf_El_36 T) d_El_begin_49 ?_
  refine lv_iconst (v := 1) hx hb d_El_begin_52 (by decide) ?_
  refine lv_iadd hx hb d_El_begin_53 ?_
  refine pf_El_elementsInside hx hb T hown hK hw (i := k1) b1 rfl (kf_El_36 T) d_El_begin_54 (fun H locs hw => ?_)
  exact gr_v B hw d_El_begin_57 ⟨rfl, hF⟩
set_option maxHeartbeats 4000000 in
set_option maxRecDepth 100000 in
theorem t_Tr_add {l : Launch} {s0 : State} {D : va_G} {aC : Nat → ClassId} {a0 : Array Value} (G : gG l s0 D aC a0) (M : gMem) (r : gRef) (ow : Int64) (fu : Nat) (k1 : Nat) (b1 : k1 < 24) (hno : F_Tr_add fu k1 M r ≠ .no) : gMet l s0 D aC y_Tr_add (Cond.code y_Tr_add b_Tr_add 3 (some (.object "MarkupReader$Element"))) 1 21 0 0 [.ref (s0.heap.size + 5), .ref (s0.heap.size + oEl k1)] M r ow (qE s0.heap.size (F_Tr_add fu k1 M r)) (qT (F_Tr_add fu k1 M r)) := by
  refine gm_of G (by decide) (Nat.le_of_ble_eq_true rfl) ?_
  intro p e s m below meth c ls B hexc hl hw
  have hx := B.1
  have hb := B.2.1
  have hown := B.2.2.2.2.2.1
  have T := B.2.2.2.2.2.2.1
  have hK := B.2.2.2.2.2.2.2.1
  have hF := F_Tr_add.eq_1 fu k1 M r
  refine lv_aload_n hx hb d_Tr_add_0 rfl (lv_at hl 0 rfl) ?_
  refine gf_Tr_size hx hb T hown hK hw rfl (kf_Tr_43 T) d_Tr_add_1 ?_
  refine lv_bipush (v := 24) hx hb d_Tr_add_4 (by decide) ?_
  refine lv_icmp_ge hx hb d_Tr_add_6 rfl (fun h5 => ?_) (fun h5 => ?_)
  · skip
    have hF := hF.trans (if_pos h5)
    refine lv_null hx hb d_Tr_add_22 ?_
    exact gr_a (v := none) B hw d_Tr_add_23 ⟨none, rfl, hF⟩
  · skip
    have hF := hF.trans (if_neg h5)
    refine lv_aload_n hx hb d_Tr_add_9 rfl (lv_at hl 1 rfl) ?_
    refine lv_ifnull hx hb d_Tr_add_10 ?_
    refine lv_aload_n hx hb d_Tr_add_13 rfl (lv_at hl 1 rfl) ?_
    refine gf_El_depth hx hb T hown hK hw (i := k1) b1 rfl (kf_Tr_53 T) d_Tr_add_14 ?_
    refine lv_bipush (v := 12) hx hb d_Tr_add_17 (by decide) ?_
    refine lv_icmp_lt hx hb d_Tr_add_19 rfl (fun h6 => ?_) (fun h6 => ?_)
    · skip
      have hF := hF.trans (if_pos h6)
      refine lv_aload_n hx hb d_Tr_add_24 rfl (lv_at hl 0 rfl) ?_
      refine gf_Tr_elements hx hb T hown hK hw rfl (kf_Tr_32 T) d_Tr_add_25 ?_
      refine lv_aload_n hx hb d_Tr_add_28 rfl (lv_at hl 0 rfl) ?_
      refine gf_Tr_size hx hb T hown hK hw rfl (kf_Tr_43 T) d_Tr_add_29 ?_
      have g7 := ng hno hF
      have hF := hF.trans (gd_yes g7)
      refine ga_es hx hb hK hw rfl g7 d_Tr_add_32 ?_
      have b107 := vin_lt g7
      refine lv_astore_n hx hb d_Tr_add_33 rfl hl (by decide) rfl (fun ls hl => ?_)
      refine lv_aload_n hx hb d_Tr_add_34 rfl (lv_at hl 1 rfl) ?_
      refine lv_dup hx hb d_Tr_add_35 rfl ?_
      refine gf_Tr_size hx hb T hown hK hw rfl (kf_Tr_43 T) d_Tr_add_36 ?_
      refine lv_iconst (v := 1) hx hb d_Tr_add_39 (by decide) ?_
      refine lv_iadd hx hb d_Tr_add_40 ?_
      refine pf_Tr_size hx hb T hown hK hw rfl (kf_Tr_43 T) d_Tr_add_41 (fun H locs hw => ?_)
      refine lv_aload_n hx hb d_Tr_add_44 rfl (lv_at hl 0 rfl) ?_
      refine lv_aload_n hx hb d_Tr_add_45 rfl (lv_at hl 2 rfl) ?_
      refine gy_V B hl.1 hw (t_El_begin G _ _ ow fu ((M 2 0).toNatClampNeg) k1 b107 b1 (nn hno hF)) (kd_El_begin T) (ki_El T) (km_Tr_56 T) (ka_El_begin T) (ks_El_begin T) ⟨by decide, by decide, by rfl⟩ (rv_El hK hw (i := ((M 2 0).toNatClampNeg)) b107 rfl) rfl (Nat.le_of_ble_eq_true rfl) ⟨by decide, by decide⟩ ⟨by decide, by decide⟩ d_Tr_add_46 (fun v M8 r8 H locs hw hp => ?_) (fun x ek M8 r8 H locs hw hE hp => gr_t B hexc hw hE (by decide) (by decide) (hF.trans (bnd_ex hp)))
      obtain ⟨rfl, hp⟩ := hp
      have hF := hF.trans (bnd_ok hp)
      refine lv_aload_n hx hb d_Tr_add_49 rfl (lv_at hl 0 rfl) ?_
      exact gr_a (v := some (s0.heap.size + oEl ((M 2 0).toNatClampNeg))) B hw d_Tr_add_50 ⟨some ((M 2 0).toNatClampNeg), rfl, hF⟩
    · skip
      have hF := hF.trans (if_neg h6)
      refine lv_null hx hb d_Tr_add_22 ?_
      exact gr_a (v := none) B hw d_Tr_add_23 ⟨none, rfl, hF⟩
set_option maxHeartbeats 4000000 in
set_option maxRecDepth 100000 in
theorem t_Nm_hasPrefix {l : Launch} {s0 : State} {D : va_G} {aC : Nat → ClassId} {a0 : Array Value} (G : gG l s0 D aC a0) (M : gMem) (r : gRef) (ow : Int64) (fu : Nat) (k0 : Nat) (b0 : k0 < 170) (hno : F_Nm_hasPrefix fu k0 M r ≠ .no) : gMet l s0 D aC y_Nm_hasPrefix (Cond.code y_Nm_hasPrefix b_Nm_hasPrefix 1 (some .boolean)) 0 0 0 0 [.ref (s0.heap.size + oNm k0)] M r ow (qI (F_Nm_hasPrefix fu k0 M r)) (qT (F_Nm_hasPrefix fu k0 M r)) := by
  refine gm_of G (by decide) (Nat.le_of_ble_eq_true rfl) ?_
  intro p e s m below meth c ls B hexc hl hw
  have hx := B.1
  have hb := B.2.1
  have hown := B.2.2.2.2.2.1
  have T := B.2.2.2.2.2.2.1
  have hK := B.2.2.2.2.2.2.2.1
  have hF := F_Nm_hasPrefix.eq_1 fu k0 M r
  refine lv_aload_n hx hb d_Nm_hasPrefix_0 rfl (lv_at hl 0 rfl) ?_
  refine gf_Nm_local hx hb T hown hK hw (i := k0) b0 rfl (kf_Nm_7 T) d_Nm_hasPrefix_1 ?_
  refine lv_aload_n hx hb d_Nm_hasPrefix_4 rfl (lv_at hl 0 rfl) ?_
  refine gf_Nm_start hx hb T hown hK hw (i := k0) b0 rfl (kf_Nm_13 T) d_Nm_hasPrefix_5 ?_
  refine lv_icmp_le hx hb d_Nm_hasPrefix_8 rfl (fun h2 => ?_) (fun h2 => ?_)
  · skip
    have hF := hF.trans (if_pos h2)
    refine lv_iconst (v := 0) hx hb d_Nm_hasPrefix_15 (by decide) ?_
    exact gr_z B hw (by rfl) d_Nm_hasPrefix_16 ⟨_, rfl, hF⟩
  · skip
    have hF := hF.trans (if_neg h2)
    refine lv_iconst (v := 1) hx hb d_Nm_hasPrefix_11 (by decide) ?_
    refine lv_goto hx hb d_Nm_hasPrefix_12 rfl ?_
    exact gr_z B hw (by rfl) d_Nm_hasPrefix_16 ⟨_, rfl, hF⟩
set_option maxHeartbeats 4000000 in
set_option maxRecDepth 100000 in
theorem t_Nm_prefixEnd {l : Launch} {s0 : State} {D : va_G} {aC : Nat → ClassId} {a0 : Array Value} (G : gG l s0 D aC a0) (M : gMem) (r : gRef) (ow : Int64) (fu : Nat) (k0 : Nat) (b0 : k0 < 170) (hno : F_Nm_prefixEnd fu k0 M r ≠ .no) : gMet l s0 D aC y_Nm_prefixEnd (Cond.code y_Nm_prefixEnd b_Nm_prefixEnd 1 (some .int)) 1 20 0 0 [.ref (s0.heap.size + oNm k0)] M r ow (qI (F_Nm_prefixEnd fu k0 M r)) (qT (F_Nm_prefixEnd fu k0 M r)) := by
  refine gm_of G (by decide) (Nat.le_of_ble_eq_true rfl) ?_
  intro p e s m below meth c ls B hexc hl hw
  have hx := B.1
  have hb := B.2.1
  have hown := B.2.2.2.2.2.1
  have T := B.2.2.2.2.2.2.1
  have hK := B.2.2.2.2.2.2.2.1
  have hF := F_Nm_prefixEnd.eq_1 fu k0 M r
  refine lv_aload_n hx hb d_Nm_prefixEnd_0 rfl (lv_at hl 0 rfl) ?_
  refine gy_V B hl.1 hw (t_Nm_hasPrefix G _ _ ow fu k0 b0 (nn hno hF)) (kd_Nm_hasPrefix T) (ki_Nm T) (km_Nm_26 T) (ka_Nm_hasPrefix T) (ks_Nm_hasPrefix T) ⟨by decide, by decide, by rfl⟩ (rv_Nm hK hw (i := k0) b0 rfl) rfl (Nat.le_of_ble_eq_true rfl) ⟨by decide, by decide⟩ ⟨by decide, by decide⟩ d_Nm_prefixEnd_1 (fun v M3 r3 H locs hw hp => ?_) (fun x ek M3 r3 H locs hw hE hp => gr_t B hexc hw hE (by decide) (by decide) (hF.trans (bnd_ex hp)))
  obtain ⟨v3, rfl, hp⟩ := hp
  have hF := hF.trans (bnd_ok hp)
  refine lv_if_eq hx hb d_Nm_prefixEnd_4 rfl (fun h4 => ?_) (fun h4 => ?_)
  · skip
    have hF := hF.trans (if_pos h4)
    refine lv_aload_n hx hb d_Nm_prefixEnd_16 rfl (lv_at hl 0 rfl) ?_
    refine gf_Nm_start hx hb T hown hK hw (i := k0) b0 rfl (kf_Nm_13 T) d_Nm_prefixEnd_17 ?_
    exact gr_i B hw d_Nm_prefixEnd_20 ⟨_, rfl, hF⟩
  · skip
    have hF := hF.trans (if_neg h4)
    refine lv_aload_n hx hb d_Nm_prefixEnd_7 rfl (lv_at hl 0 rfl) ?_
    refine gf_Nm_local hx hb T hown hK hw (i := k0) b0 rfl (kf_Nm_7 T) d_Nm_prefixEnd_8 ?_
    refine lv_iconst (v := 1) hx hb d_Nm_prefixEnd_11 (by decide) ?_
    refine lv_isub hx hb d_Nm_prefixEnd_12 ?_
    refine lv_goto hx hb d_Nm_prefixEnd_13 rfl ?_
    exact gr_i B hw d_Nm_prefixEnd_20 ⟨_, rfl, hF⟩
set_option maxHeartbeats 4000000 in
set_option maxRecDepth 100000 in
theorem t_MR_digit {l : Launch} {s0 : State} {D : va_G} {aC : Nat → ClassId} {a0 : Array Value} (G : gG l s0 D aC a0) (M : gMem) (r : gRef) (ow : Int64) (fu : Nat) (x0 : Int32) (x1 : Int32)  (hno : F_MR_digit fu x0 x1 M r ≠ .no) : gMet l s0 D aC y_MR_digit (Cond.code y_MR_digit b_MR_digit 2 (some .int)) 0 0 0 0 [.int x0, .int x1] M r ow (qI (F_MR_digit fu x0 x1 M r)) (qT (F_MR_digit fu x0 x1 M r)) := by
  refine gm_of G (by decide) (Nat.le_of_ble_eq_true rfl) ?_
  intro p e s m below meth c ls B hexc hl hw
  have hx := B.1
  have hb := B.2.1
  have hown := B.2.2.2.2.2.1
  have T := B.2.2.2.2.2.2.1
  have hK := B.2.2.2.2.2.2.2.1
  have hF := F_MR_digit.eq_1 fu x0 x1 M r
  refine lv_iload_n hx hb d_MR_digit_0 rfl (lv_at hl 0 rfl) ?_
  refine lv_bipush (v := 48) hx hb d_MR_digit_1 (by decide) ?_
  refine lv_icmp_lt hx hb d_MR_digit_3 rfl (fun h27 => ?_) (fun h27 => ?_)
  · skip
    have hF := hF.trans (if_pos h27)
    refine lv_iload_n hx hb d_MR_digit_17 rfl (lv_at hl 1 rfl) ?_
    refine lv_bipush (v := 16) hx hb d_MR_digit_18 (by decide) ?_
    refine lv_icmp_ne hx hb d_MR_digit_20 rfl (fun h28 => ?_) (fun h28 => ?_)
    · skip
      have hF := hF.trans (if_neg h28)
      refine lv_iload_n hx hb d_MR_digit_43 rfl (lv_at hl 1 rfl) ?_
      refine lv_bipush (v := 16) hx hb d_MR_digit_44 (by decide) ?_
      refine lv_icmp_ne hx hb d_MR_digit_46 rfl (fun h29 => ?_) (fun h29 => ?_)
      · skip
        have hF := hF.trans (if_neg h29)
        refine lv_iconst (v := -1) hx hb d_MR_digit_69 (by decide) ?_
        exact gr_i B hw d_MR_digit_70 ⟨_, rfl, hF⟩
      · skip
        have hF := hF.trans (if_pos h29)
        refine lv_iload_n hx hb d_MR_digit_49 rfl (lv_at hl 0 rfl) ?_
        refine lv_bipush (v := 65) hx hb d_MR_digit_50 (by decide) ?_
        refine lv_icmp_lt hx hb d_MR_digit_52 rfl (fun h30 => ?_) (fun h30 => ?_)
        · skip
          have hF := hF.trans (if_pos h30)
          refine lv_iconst (v := -1) hx hb d_MR_digit_69 (by decide) ?_
          exact gr_i B hw d_MR_digit_70 ⟨_, rfl, hF⟩
        · skip
          have hF := hF.trans (if_neg h30)
          refine lv_iload_n hx hb d_MR_digit_55 rfl (lv_at hl 0 rfl) ?_
          refine lv_bipush (v := 70) hx hb d_MR_digit_56 (by decide) ?_
          refine lv_icmp_gt hx hb d_MR_digit_58 rfl (fun h31 => ?_) (fun h31 => ?_)
          · skip
            have hF := hF.trans (if_pos h31)
            refine lv_iconst (v := -1) hx hb d_MR_digit_69 (by decide) ?_
            exact gr_i B hw d_MR_digit_70 ⟨_, rfl, hF⟩
          · skip
            have hF := hF.trans (if_neg h31)
            refine lv_iload_n hx hb d_MR_digit_61 rfl (lv_at hl 0 rfl) ?_
            refine lv_bipush (v := 65) hx hb d_MR_digit_62 (by decide) ?_
            refine lv_isub hx hb d_MR_digit_64 ?_
            refine lv_bipush (v := 10) hx hb d_MR_digit_65 (by decide) ?_
            refine lv_iadd hx hb d_MR_digit_67 ?_
            exact gr_i B hw d_MR_digit_68 ⟨_, rfl, hF⟩
    · skip
      have hF := hF.trans (if_pos h28)
      refine lv_iload_n hx hb d_MR_digit_23 rfl (lv_at hl 0 rfl) ?_
      refine lv_bipush (v := 97) hx hb d_MR_digit_24 (by decide) ?_
      refine lv_icmp_lt hx hb d_MR_digit_26 rfl (fun h32 => ?_) (fun h32 => ?_)
      · skip
        have hF := hF.trans (if_pos h32)
        refine lv_iload_n hx hb d_MR_digit_43 rfl (lv_at hl 1 rfl) ?_
        refine lv_bipush (v := 16) hx hb d_MR_digit_44 (by decide) ?_
        refine lv_icmp_ne hx hb d_MR_digit_46 rfl (fun h33 => ?_) (fun h33 => ?_)
        · skip
          have hF := hF.trans (if_neg h33)
          refine lv_iconst (v := -1) hx hb d_MR_digit_69 (by decide) ?_
          exact gr_i B hw d_MR_digit_70 ⟨_, rfl, hF⟩
        · skip
          have hF := hF.trans (if_pos h33)
          refine lv_iload_n hx hb d_MR_digit_49 rfl (lv_at hl 0 rfl) ?_
          refine lv_bipush (v := 65) hx hb d_MR_digit_50 (by decide) ?_
          refine lv_icmp_lt hx hb d_MR_digit_52 rfl (fun h34 => ?_) (fun h34 => ?_)
          · skip
            have hF := hF.trans (if_pos h34)
            refine lv_iconst (v := -1) hx hb d_MR_digit_69 (by decide) ?_
            exact gr_i B hw d_MR_digit_70 ⟨_, rfl, hF⟩
          · skip
            have hF := hF.trans (if_neg h34)
            refine lv_iload_n hx hb d_MR_digit_55 rfl (lv_at hl 0 rfl) ?_
            refine lv_bipush (v := 70) hx hb d_MR_digit_56 (by decide) ?_
            refine lv_icmp_gt hx hb d_MR_digit_58 rfl (fun h35 => ?_) (fun h35 => ?_)
            · skip
              have hF := hF.trans (if_pos h35)
              refine lv_iconst (v := -1) hx hb d_MR_digit_69 (by decide) ?_
              exact gr_i B hw d_MR_digit_70 ⟨_, rfl, hF⟩
            · skip
              have hF := hF.trans (if_neg h35)
              refine lv_iload_n hx hb d_MR_digit_61 rfl (lv_at hl 0 rfl) ?_
              refine lv_bipush (v := 65) hx hb d_MR_digit_62 (by decide) ?_
              refine lv_isub hx hb d_MR_digit_64 ?_
              refine lv_bipush (v := 10) hx hb d_MR_digit_65 (by decide) ?_
              refine lv_iadd hx hb d_MR_digit_67 ?_
              exact gr_i B hw d_MR_digit_68 ⟨_, rfl, hF⟩
      · skip
        have hF := hF.trans (if_neg h32)
        refine lv_iload_n hx hb d_MR_digit_29 rfl (lv_at hl 0 rfl) ?_
        refine lv_bipush (v := 102) hx hb d_MR_digit_30 (by decide) ?_
        refine lv_icmp_gt hx hb d_MR_digit_32 rfl (fun h36 => ?_) (fun h36 => ?_)
        · skip
          have hF := hF.trans (if_pos h36)
          refine lv_iload_n hx hb d_MR_digit_43 rfl (lv_at hl 1 rfl) ?_
          refine lv_bipush (v := 16) hx hb d_MR_digit_44 (by decide) ?_
          refine lv_icmp_ne hx hb d_MR_digit_46 rfl (fun h37 => ?_) (fun h37 => ?_)
          · skip
            have hF := hF.trans (if_neg h37)
            refine lv_iconst (v := -1) hx hb d_MR_digit_69 (by decide) ?_
            exact gr_i B hw d_MR_digit_70 ⟨_, rfl, hF⟩
          · skip
            have hF := hF.trans (if_pos h37)
            refine lv_iload_n hx hb d_MR_digit_49 rfl (lv_at hl 0 rfl) ?_
            refine lv_bipush (v := 65) hx hb d_MR_digit_50 (by decide) ?_
            refine lv_icmp_lt hx hb d_MR_digit_52 rfl (fun h38 => ?_) (fun h38 => ?_)
            · skip
              have hF := hF.trans (if_pos h38)
              refine lv_iconst (v := -1) hx hb d_MR_digit_69 (by decide) ?_
              exact gr_i B hw d_MR_digit_70 ⟨_, rfl, hF⟩
            · skip
              have hF := hF.trans (if_neg h38)
              refine lv_iload_n hx hb d_MR_digit_55 rfl (lv_at hl 0 rfl) ?_
              refine lv_bipush (v := 70) hx hb d_MR_digit_56 (by decide) ?_
              refine lv_icmp_gt hx hb d_MR_digit_58 rfl (fun h39 => ?_) (fun h39 => ?_)
              · skip
                have hF := hF.trans (if_pos h39)
                refine lv_iconst (v := -1) hx hb d_MR_digit_69 (by decide) ?_
                exact gr_i B hw d_MR_digit_70 ⟨_, rfl, hF⟩
              · skip
                have hF := hF.trans (if_neg h39)
                refine lv_iload_n hx hb d_MR_digit_61 rfl (lv_at hl 0 rfl) ?_
                refine lv_bipush (v := 65) hx hb d_MR_digit_62 (by decide) ?_
                refine lv_isub hx hb d_MR_digit_64 ?_
                refine lv_bipush (v := 10) hx hb d_MR_digit_65 (by decide) ?_
                refine lv_iadd hx hb d_MR_digit_67 ?_
                exact gr_i B hw d_MR_digit_68 ⟨_, rfl, hF⟩
        · skip
          have hF := hF.trans (if_neg h36)
          refine lv_iload_n hx hb d_MR_digit_35 rfl (lv_at hl 0 rfl) ?_
          refine lv_bipush (v := 97) hx hb d_MR_digit_36 (by decide) ?_
          refine lv_isub hx hb d_MR_digit_38 ?_
          refine lv_bipush (v := 10) hx hb d_MR_digit_39 (by decide) ?_
          refine lv_iadd hx hb d_MR_digit_41 ?_
          exact gr_i B hw d_MR_digit_42 ⟨_, rfl, hF⟩
  · skip
    have hF := hF.trans (if_neg h27)
    refine lv_iload_n hx hb d_MR_digit_6 rfl (lv_at hl 0 rfl) ?_
    refine lv_bipush (v := 57) hx hb d_MR_digit_7 (by decide) ?_
    refine lv_icmp_gt hx hb d_MR_digit_9 rfl (fun h40 => ?_) (fun h40 => ?_)
    · skip
      have hF := hF.trans (if_pos h40)
      refine lv_iload_n hx hb d_MR_digit_17 rfl (lv_at hl 1 rfl) ?_
      refine lv_bipush (v := 16) hx hb d_MR_digit_18 (by decide) ?_
      refine lv_icmp_ne hx hb d_MR_digit_20 rfl (fun h41 => ?_) (fun h41 => ?_)
      · skip
        have hF := hF.trans (if_neg h41)
        refine lv_iload_n hx hb d_MR_digit_43 rfl (lv_at hl 1 rfl) ?_
        refine lv_bipush (v := 16) hx hb d_MR_digit_44 (by decide) ?_
        refine lv_icmp_ne hx hb d_MR_digit_46 rfl (fun h42 => ?_) (fun h42 => ?_)
        · skip
          have hF := hF.trans (if_neg h42)
          refine lv_iconst (v := -1) hx hb d_MR_digit_69 (by decide) ?_
          exact gr_i B hw d_MR_digit_70 ⟨_, rfl, hF⟩
        · skip
          have hF := hF.trans (if_pos h42)
          refine lv_iload_n hx hb d_MR_digit_49 rfl (lv_at hl 0 rfl) ?_
          refine lv_bipush (v := 65) hx hb d_MR_digit_50 (by decide) ?_
          refine lv_icmp_lt hx hb d_MR_digit_52 rfl (fun h43 => ?_) (fun h43 => ?_)
          · skip
            have hF := hF.trans (if_pos h43)
            refine lv_iconst (v := -1) hx hb d_MR_digit_69 (by decide) ?_
            exact gr_i B hw d_MR_digit_70 ⟨_, rfl, hF⟩
          · skip
            have hF := hF.trans (if_neg h43)
            refine lv_iload_n hx hb d_MR_digit_55 rfl (lv_at hl 0 rfl) ?_
            refine lv_bipush (v := 70) hx hb d_MR_digit_56 (by decide) ?_
            refine lv_icmp_gt hx hb d_MR_digit_58 rfl (fun h44 => ?_) (fun h44 => ?_)
            · skip
              have hF := hF.trans (if_pos h44)
              refine lv_iconst (v := -1) hx hb d_MR_digit_69 (by decide) ?_
              exact gr_i B hw d_MR_digit_70 ⟨_, rfl, hF⟩
            · skip
              have hF := hF.trans (if_neg h44)
              refine lv_iload_n hx hb d_MR_digit_61 rfl (lv_at hl 0 rfl) ?_
              refine lv_bipush (v := 65) hx hb d_MR_digit_62 (by decide) ?_
              refine lv_isub hx hb d_MR_digit_64 ?_
              refine lv_bipush (v := 10) hx hb d_MR_digit_65 (by decide) ?_
              refine lv_iadd hx hb d_MR_digit_67 ?_
              exact gr_i B hw d_MR_digit_68 ⟨_, rfl, hF⟩
      · skip
        have hF := hF.trans (if_pos h41)
        refine lv_iload_n hx hb d_MR_digit_23 rfl (lv_at hl 0 rfl) ?_
        refine lv_bipush (v := 97) hx hb d_MR_digit_24 (by decide) ?_
        refine lv_icmp_lt hx hb d_MR_digit_26 rfl (fun h45 => ?_) (fun h45 => ?_)
        · skip
          have hF := hF.trans (if_pos h45)
          refine lv_iload_n hx hb d_MR_digit_43 rfl (lv_at hl 1 rfl) ?_
          refine lv_bipush (v := 16) hx hb d_MR_digit_44 (by decide) ?_
          refine lv_icmp_ne hx hb d_MR_digit_46 rfl (fun h46 => ?_) (fun h46 => ?_)
          · skip
            have hF := hF.trans (if_neg h46)
            refine lv_iconst (v := -1) hx hb d_MR_digit_69 (by decide) ?_
            exact gr_i B hw d_MR_digit_70 ⟨_, rfl, hF⟩
          · skip
            have hF := hF.trans (if_pos h46)
            refine lv_iload_n hx hb d_MR_digit_49 rfl (lv_at hl 0 rfl) ?_
            refine lv_bipush (v := 65) hx hb d_MR_digit_50 (by decide) ?_
            refine lv_icmp_lt hx hb d_MR_digit_52 rfl (fun h47 => ?_) (fun h47 => ?_)
            · skip
              have hF := hF.trans (if_pos h47)
              refine lv_iconst (v := -1) hx hb d_MR_digit_69 (by decide) ?_
              exact gr_i B hw d_MR_digit_70 ⟨_, rfl, hF⟩
            · skip
              have hF := hF.trans (if_neg h47)
              refine lv_iload_n hx hb d_MR_digit_55 rfl (lv_at hl 0 rfl) ?_
              refine lv_bipush (v := 70) hx hb d_MR_digit_56 (by decide) ?_
              refine lv_icmp_gt hx hb d_MR_digit_58 rfl (fun h48 => ?_) (fun h48 => ?_)
              · skip
                have hF := hF.trans (if_pos h48)
                refine lv_iconst (v := -1) hx hb d_MR_digit_69 (by decide) ?_
                exact gr_i B hw d_MR_digit_70 ⟨_, rfl, hF⟩
              · skip
                have hF := hF.trans (if_neg h48)
                refine lv_iload_n hx hb d_MR_digit_61 rfl (lv_at hl 0 rfl) ?_
                refine lv_bipush (v := 65) hx hb d_MR_digit_62 (by decide) ?_
                refine lv_isub hx hb d_MR_digit_64 ?_
                refine lv_bipush (v := 10) hx hb d_MR_digit_65 (by decide) ?_
                refine lv_iadd hx hb d_MR_digit_67 ?_
                exact gr_i B hw d_MR_digit_68 ⟨_, rfl, hF⟩
        · skip
          have hF := hF.trans (if_neg h45)
          refine lv_iload_n hx hb d_MR_digit_29 rfl (lv_at hl 0 rfl) ?_
          refine lv_bipush (v := 102) hx hb d_MR_digit_30 (by decide) ?_
          refine lv_icmp_gt hx hb d_MR_digit_32 rfl (fun h49 => ?_) (fun h49 => ?_)
          · skip
            have hF := hF.trans (if_pos h49)
            refine lv_iload_n hx hb d_MR_digit_43 rfl (lv_at hl 1 rfl) ?_
            refine lv_bipush (v := 16) hx hb d_MR_digit_44 (by decide) ?_
            refine lv_icmp_ne hx hb d_MR_digit_46 rfl (fun h50 => ?_) (fun h50 => ?_)
            · skip
              have hF := hF.trans (if_neg h50)
              refine lv_iconst (v := -1) hx hb d_MR_digit_69 (by decide) ?_
              exact gr_i B hw d_MR_digit_70 ⟨_, rfl, hF⟩
            · skip
              have hF := hF.trans (if_pos h50)
              refine lv_iload_n hx hb d_MR_digit_49 rfl (lv_at hl 0 rfl) ?_
              refine lv_bipush (v := 65) hx hb d_MR_digit_50 (by decide) ?_
              refine lv_icmp_lt hx hb d_MR_digit_52 rfl (fun h51 => ?_) (fun h51 => ?_)
              · skip
                have hF := hF.trans (if_pos h51)
                refine lv_iconst (v := -1) hx hb d_MR_digit_69 (by decide) ?_
                exact gr_i B hw d_MR_digit_70 ⟨_, rfl, hF⟩
              · skip
                have hF := hF.trans (if_neg h51)
                refine lv_iload_n hx hb d_MR_digit_55 rfl (lv_at hl 0 rfl) ?_
                refine lv_bipush (v := 70) hx hb d_MR_digit_56 (by decide) ?_
                refine lv_icmp_gt hx hb d_MR_digit_58 rfl (fun h52 => ?_) (fun h52 => ?_)
                · skip
                  have hF := hF.trans (if_pos h52)
                  refine lv_iconst (v := -1) hx hb d_MR_digit_69 (by decide) ?_
                  exact gr_i B hw d_MR_digit_70 ⟨_, rfl, hF⟩
                · skip
                  have hF := hF.trans (if_neg h52)
                  refine lv_iload_n hx hb d_MR_digit_61 rfl (lv_at hl 0 rfl) ?_
                  refine lv_bipush (v := 65) hx hb d_MR_digit_62 (by decide) ?_
                  refine lv_isub hx hb d_MR_digit_64 ?_
                  refine lv_bipush (v := 10) hx hb d_MR_digit_65 (by decide) ?_
                  refine lv_iadd hx hb d_MR_digit_67 ?_
                  exact gr_i B hw d_MR_digit_68 ⟨_, rfl, hF⟩
          · skip
            have hF := hF.trans (if_neg h49)
            refine lv_iload_n hx hb d_MR_digit_35 rfl (lv_at hl 0 rfl) ?_
            refine lv_bipush (v := 97) hx hb d_MR_digit_36 (by decide) ?_
            refine lv_isub hx hb d_MR_digit_38 ?_
            refine lv_bipush (v := 10) hx hb d_MR_digit_39 (by decide) ?_
            refine lv_iadd hx hb d_MR_digit_41 ?_
            exact gr_i B hw d_MR_digit_42 ⟨_, rfl, hF⟩
    · skip
      have hF := hF.trans (if_neg h40)
      refine lv_iload_n hx hb d_MR_digit_12 rfl (lv_at hl 0 rfl) ?_
      refine lv_bipush (v := 48) hx hb d_MR_digit_13 (by decide) ?_
      refine lv_isub hx hb d_MR_digit_15 ?_
      exact gr_i B hw d_MR_digit_16 ⟨_, rfl, hF⟩
set_option maxHeartbeats 4000000 in
set_option maxRecDepth 100000 in
theorem t_Row_order {l : Launch} {s0 : State} {D : va_G} {aC : Nat → ClassId} {a0 : Array Value} (G : gG l s0 D aC a0) (M : gMem) (r : gRef) (ow : Int64) (fu : Nat) (k0 : Nat) (x1 : Int32) (x2 : Int32) (x3 : Int32) (x4 : Int32) (b0 : k0 < 6) (hno : F_Row_order fu k0 x1 x2 x3 x4 M r ≠ .no) : gMet l s0 D aC y_Row_order (Cond.code y_Row_order b_Row_order 9 (some .int)) 1 21 0 0 [.ref (s0.heap.size + oRow k0), .int x1, .int x2, .int x3, .int x4] M r ow (qI (F_Row_order fu k0 x1 x2 x3 x4 M r)) (qT (F_Row_order fu k0 x1 x2 x3 x4 M r)) := by
  refine gm_of G (by decide) (Nat.le_of_ble_eq_true rfl) ?_
  intro p e s m below meth c ls B hexc hl hw
  have hx := B.1
  have hb := B.2.1
  have hown := B.2.2.2.2.2.1
  have T := B.2.2.2.2.2.2.1
  have hK := B.2.2.2.2.2.2.2.1
  have X61 : ∀ (x5 : Int32) (x6 : Int32) (M1 : gMem) (r1 : gRef) (H : Heap) (locs : List Loc) (ls : Array Slot), lv_has ls 9 [(5, .int x5), (6, .int x6)] → gWd s0 D aC M1 r1 ow H locs → F_Row_order fu k0 x1 x2 x3 x4 M r = F_Row_order_B61 fu k0 x1 x2 x3 x4 x5 x6 M1 r1 → W p l e (gRm 1 21 0 0) s m ([.ref (s0.heap.size + oRow k0), .int x1, .int x2, .int x3, .int x4] : List Value).toArray below meth c H locs 0 0 (gt_Q below (gQ s0 D aC ow (qI (F_Row_order fu k0 x1 x2 x3 x4 M r)) (qT (F_Row_order fu k0 x1 x2 x3 x4 M r))) s 0 0 0 0 (fun q => s0.heap.size ≤ q)) (F0 m 61 ls []) := by
    intro x5 x6 M1 r1 H locs ls hl hw hF
    have hF := hF.trans (F_Row_order_B61.eq_1 _ _ _ _ _ _ _ _ _ _)
    refine lv_iload hx hb d_Row_order_61 (lv_at hl 0 rfl) ?_
    refine lv_iload hx hb d_Row_order_63 (lv_at hl 1 rfl) ?_
    refine lv_isub hx hb d_Row_order_65 ?_
    exact gr_i B hw d_Row_order_66 ⟨_, rfl, hF⟩
  have L14 : ∀ (d : Nat) (x5 : Int32) (x6 : Int32) (x7 : Int32) (M1 : gMem) (r1 : gRef) (H : Heap) (locs : List Loc) (ls : Array Slot), lv_has ls 9 [(5, .int x5), (6, .int x6), (7, .int x7), (0, .ref (s0.heap.size + oRow k0)), (1, .int x1), (3, .int x3)] → gWd s0 D aC M1 r1 ow H locs → F_Row_order fu k0 x1 x2 x3 x4 M r = F_Row_order_L14 fu k0 x1 x2 x3 x4 d x5 x6 x7 M1 r1 → W p l e (gRm 1 21 0 0) s m ([.ref (s0.heap.size + oRow k0), .int x1, .int x2, .int x3, .int x4] : List Value).toArray below meth c H locs 0 0 (gt_Q below (gQ s0 D aC ow (qI (F_Row_order fu k0 x1 x2 x3 x4 M r)) (qT (F_Row_order fu k0 x1 x2 x3 x4 M r))) s 0 0 0 0 (fun q => s0.heap.size ≤ q)) (F0 m 14 ls []) := by
    intro d
    induction d with
    | zero => intro x5 x6 x7 M1 r1 H locs ls hl hw hF; exact absurd hF hno
    | succ d ih =>
      intro x5 x6 x7 M1 r1 H locs ls hl hw hF
      have hF := hF.trans (F_Row_order_L14.eq_2 _ _ _ _ _ _ _ _ _ _ _ _)
      refine lv_iload hx hb d_Row_order_14 (lv_at hl 2 rfl) ?_
      refine lv_iload hx hb d_Row_order_16 (lv_at hl 0 rfl) ?_
      refine lv_icmp_ge hx hb d_Row_order_18 rfl (fun h6 => ?_) (fun h6 => ?_)
      · skip
        have hF := hF.trans (if_pos h6)
        exact X61 x5 x6 _ _ _ _ _ (gv_loc hl [0, 1] rfl) hw hF
      · skip
        have hF := hF.trans (if_neg h6)
        refine lv_iload hx hb d_Row_order_21 (lv_at hl 2 rfl) ?_
        refine lv_iload hx hb d_Row_order_23 (lv_at hl 1 rfl) ?_
        refine lv_icmp_ge hx hb d_Row_order_25 rfl (fun h7 => ?_) (fun h7 => ?_)
        · skip
          have hF := hF.trans (if_pos h7)
          exact X61 x5 x6 _ _ _ _ _ (gv_loc hl [0, 1] rfl) hw hF
        · skip
          have hF := hF.trans (if_neg h7)
          refine lv_aload_n hx hb d_Row_order_28 rfl (lv_at hl 3 rfl) ?_
          refine lv_iload_n hx hb d_Row_order_29 rfl (lv_at hl 4 rfl) ?_
          refine lv_iload hx hb d_Row_order_30 (lv_at hl 2 rfl) ?_
          refine lv_iadd hx hb d_Row_order_32 ?_
          refine gy_V B hl.1 hw (t_Row_at G _ _ ow fu k0 (x1 + x7) b0 (nn hno hF)) (kd_Row_at T) (ki_Row T) (km_Row_33 T) (ka_Row_at T) (ks_Row_at T) ⟨by decide, by decide, by rfl⟩ (rv_Row hK hw (i := k0) b0 rfl) rfl (Nat.le_of_ble_eq_true rfl) ⟨by decide, by decide⟩ ⟨by decide, by decide⟩ d_Row_order_33 (fun v M8 r8 H locs hw hp => ?_) (fun x ek M8 r8 H locs hw hE hp => gr_t B hexc hw hE (by decide) (by decide) (hF.trans (bnd_ex hp)))
          obtain ⟨v8, rfl, hp⟩ := hp
          have hF := hF.trans (bnd_ok hp)
          refine lv_aload_n hx hb d_Row_order_36 rfl (lv_at hl 3 rfl) ?_
          refine lv_iload_n hx hb d_Row_order_37 rfl (lv_at hl 5 rfl) ?_
          refine lv_iload hx hb d_Row_order_38 (lv_at hl 2 rfl) ?_
          refine lv_iadd hx hb d_Row_order_40 ?_
          refine gy_V B hl.1 hw (t_Row_at G _ _ ow fu k0 (x3 + x7) b0 (nn hno hF)) (kd_Row_at T) (ki_Row T) (km_Row_33 T) (ka_Row_at T) (ks_Row_at T) ⟨by decide, by decide, by rfl⟩ (rv_Row hK hw (i := k0) b0 rfl) rfl (Nat.le_of_ble_eq_true rfl) ⟨by decide, by decide⟩ ⟨by decide, by decide⟩ d_Row_order_41 (fun v M9 r9 H locs hw hp => ?_) (fun x ek M9 r9 H locs hw hE hp => gr_t B hexc hw hE (by decide) (by decide) (hF.trans (bnd_ex hp)))
          obtain ⟨v9, rfl, hp⟩ := hp
          have hF := hF.trans (bnd_ok hp)
          refine lv_isub hx hb d_Row_order_44 ?_
          refine lv_istore hx hb d_Row_order_45 hl (by decide) rfl (fun ls hl => ?_)
          refine lv_iload hx hb d_Row_order_47 (lv_at hl 0 rfl) ?_
          refine lv_if_eq hx hb d_Row_order_49 rfl (fun h10 => ?_) (fun h10 => ?_)
          · skip
            have hF := hF.trans (if_pos h10)
            refine lv_iinc (k := 3) hx hb d_Row_order_55 hl rfl (show _ + Int32.ofInt 1 = _ + 1 from rfl) (by decide) rfl (fun ls hl => ?_)
            refine lv_goto hx hb d_Row_order_58 rfl ?_
            exact ih x5 x6 (x7 + 1) _ _ _ _ _ (gv_loc hl [2, 3, 0, 4, 5, 6] rfl) hw hF
          · skip
            have hF := hF.trans (if_neg h10)
            refine lv_iload hx hb d_Row_order_52 (lv_at hl 0 rfl) ?_
            exact gr_i B hw d_Row_order_54 ⟨_, rfl, hF⟩
  have hF := F_Row_order.eq_1 fu k0 x1 x2 x3 x4 M r
  refine lv_iload_n hx hb d_Row_order_0 rfl (lv_at hl 2 rfl) ?_
  refine lv_iload_n hx hb d_Row_order_1 rfl (lv_at hl 1 rfl) ?_
  refine lv_isub hx hb d_Row_order_2 ?_
  refine lv_istore hx hb d_Row_order_3 hl (by decide) rfl (fun ls hl => ?_)
  refine lv_iload hx hb d_Row_order_5 (lv_at hl 5 rfl) ?_
  refine lv_iload_n hx hb d_Row_order_7 rfl (lv_at hl 4 rfl) ?_
  refine lv_isub hx hb d_Row_order_8 ?_
  refine lv_istore hx hb d_Row_order_9 hl (by decide) rfl (fun ls hl => ?_)
  refine lv_iconst (v := 0) hx hb d_Row_order_11 (by decide) ?_
  refine lv_istore hx hb d_Row_order_12 hl (by decide) rfl (fun ls hl => ?_)
  exact L14 fu (x2 - x1) (x4 - x3) 0 _ _ _ _ _ (gv_loc hl [2, 1, 0, 3, 4, 6] rfl) hw hF
set_option maxHeartbeats 4000000 in
set_option maxRecDepth 100000 in
theorem t_Tr_sameName {l : Launch} {s0 : State} {D : va_G} {aC : Nat → ClassId} {a0 : Array Value} (G : gG l s0 D aC a0) (M : gMem) (r : gRef) (ow : Int64) (fu : Nat) (k1 : Nat) (k2 : Nat) (b1 : k1 < 170) (b2 : k2 < 170) (hno : F_Tr_sameName fu k1 k2 M r ≠ .no) : gMet l s0 D aC y_Tr_sameName (Cond.code y_Tr_sameName b_Tr_sameName 3 (some .boolean)) 2 49 0 0 [.ref (s0.heap.size + 5), .ref (s0.heap.size + oNm k1), .ref (s0.heap.size + oNm k2)] M r ow (qI (F_Tr_sameName fu k1 k2 M r)) (qT (F_Tr_sameName fu k1 k2 M r)) := by
  refine gm_of G (by decide) (Nat.le_of_ble_eq_true rfl) ?_
  intro p e s m below meth c ls B hexc hl hw
  have hx := B.1
  have hb := B.2.1
  have hown := B.2.2.2.2.2.1
  have T := B.2.2.2.2.2.2.1
  have hK := B.2.2.2.2.2.2.2.1
  have hF := F_Tr_sameName.eq_1 fu k1 k2 M r
  refine lv_aload_n hx hb d_Tr_sameName_0 rfl (lv_at hl 0 rfl) ?_
  refine gf_Tr_text hx hb T hown hK hw rfl (kf_Tr_14 T) d_Tr_sameName_1 ?_
  refine lv_aload_n hx hb d_Tr_sameName_4 rfl (lv_at hl 1 rfl) ?_
  refine gf_Nm_start hx hb T hown hK hw (i := k1) b1 rfl (kf_Tr_83 T) d_Tr_sameName_5 ?_
  refine lv_aload_n hx hb d_Tr_sameName_8 rfl (lv_at hl 1 rfl) ?_
  refine gf_Nm_end hx hb T hown hK hw (i := k1) b1 rfl (kf_Tr_80 T) d_Tr_sameName_9 ?_
  refine lv_aload_n hx hb d_Tr_sameName_12 rfl (lv_at hl 2 rfl) ?_
  refine gf_Nm_start hx hb T hown hK hw (i := k2) b2 rfl (kf_Tr_83 T) d_Tr_sameName_13 ?_
  refine lv_aload_n hx hb d_Tr_sameName_16 rfl (lv_at hl 2 rfl) ?_
  refine gf_Nm_end hx hb T hown hK hw (i := k2) b2 rfl (kf_Tr_80 T) d_Tr_sameName_17 ?_
  refine gy_V B hl.1 hw (t_Row_order G _ _ ow fu 2 (M 20 k1) (M 22 k1) (M 20 k2) (M 22 k2) (by decide) (nn hno hF)) (kd_Row_order T) (ki_Row T) (km_Tr_110 T) (ka_Row_order T) (ks_Row_order T) ⟨by decide, by decide, by rfl⟩ (rv_Row hK hw (i := 2) (by decide) rfl) rfl (Nat.le_of_ble_eq_true rfl) ⟨by decide, by decide⟩ ⟨by decide, by decide⟩ d_Tr_sameName_20 (fun v M3 r3 H locs hw hp => ?_) (fun x ek M3 r3 H locs hw hE hp => gr_t B hexc hw hE (by decide) (by decide) (hF.trans (bnd_ex hp)))
  obtain ⟨v3, rfl, hp⟩ := hp
  have hF := hF.trans (bnd_ok hp)
  refine lv_if_ne hx hb d_Tr_sameName_23 rfl (fun h4 => ?_) (fun h4 => ?_)
  · skip
    have hF := hF.trans (if_neg h4)
    refine lv_iconst (v := 0) hx hb d_Tr_sameName_30 (by decide) ?_
    exact gr_z B hw (by rfl) d_Tr_sameName_31 ⟨_, rfl, hF⟩
  · skip
    have hF := hF.trans (if_pos h4)
    refine lv_iconst (v := 1) hx hb d_Tr_sameName_26 (by decide) ?_
    refine lv_goto hx hb d_Tr_sameName_27 rfl ?_
    exact gr_z B hw (by rfl) d_Tr_sameName_31 ⟨_, rfl, hF⟩
theorem d_SF_firstNameTwice_0 : decode b_SF_firstNameTwice 0 = .ok (.iconst 0, 1) := by decide +kernel
theorem d_SF_firstNameTwice_1 : decode b_SF_firstNameTwice 1 = .ok (.istore_n 2, 1) := by decide +kernel
theorem d_SF_firstNameTwice_2 : decode b_SF_firstNameTwice 2 = .ok (.iload_n 2, 1) := by decide +kernel
theorem d_SF_firstNameTwice_3 : decode b_SF_firstNameTwice 3 = .ok (.aload_n 1, 1) := by decide +kernel
theorem d_SF_firstNameTwice_4 : decode b_SF_firstNameTwice 4 = .ok (.getfield 41, 3) := by decide +kernel
theorem d_SF_firstNameTwice_7 : decode b_SF_firstNameTwice 7 = .ok (.if_icmp .ge 60, 3) := by decide +kernel
theorem d_SF_firstNameTwice_10 : decode b_SF_firstNameTwice 10 = .ok (.aload_n 1, 1) := by decide +kernel
theorem d_SF_firstNameTwice_11 : decode b_SF_firstNameTwice 11 = .ok (.getfield 44, 3) := by decide +kernel
theorem d_SF_firstNameTwice_14 : decode b_SF_firstNameTwice 14 = .ok (.iload_n 2, 1) := by decide +kernel
theorem d_SF_firstNameTwice_15 : decode b_SF_firstNameTwice 15 = .ok (.aaload, 1) := by decide +kernel
theorem d_SF_firstNameTwice_16 : decode b_SF_firstNameTwice 16 = .ok (.getfield 48, 3) := by decide +kernel
theorem d_SF_firstNameTwice_19 : decode b_SF_firstNameTwice 19 = .ok (.astore_n 3, 1) := by decide +kernel
theorem d_SF_firstNameTwice_20 : decode b_SF_firstNameTwice 20 = .ok (.iconst 0, 1) := by decide +kernel
theorem d_SF_firstNameTwice_21 : decode b_SF_firstNameTwice 21 = .ok (.istore 4, 2) := by decide +kernel
theorem d_SF_firstNameTwice_23 : decode b_SF_firstNameTwice 23 = .ok (.iload 4, 2) := by decide +kernel
theorem d_SF_firstNameTwice_25 : decode b_SF_firstNameTwice 25 = .ok (.iload_n 2, 1) := by decide +kernel
theorem d_SF_firstNameTwice_26 : decode b_SF_firstNameTwice 26 = .ok (.if_icmp .ge 35, 3) := by decide +kernel
theorem d_SF_firstNameTwice_29 : decode b_SF_firstNameTwice 29 = .ok (.aload_n 0, 1) := by decide +kernel
theorem d_SF_firstNameTwice_30 : decode b_SF_firstNameTwice 30 = .ok (.getfield 9, 3) := by decide +kernel
theorem d_SF_firstNameTwice_33 : decode b_SF_firstNameTwice 33 = .ok (.aload_n 1, 1) := by decide +kernel
theorem d_SF_firstNameTwice_34 : decode b_SF_firstNameTwice 34 = .ok (.getfield 44, 3) := by decide +kernel
theorem d_SF_firstNameTwice_37 : decode b_SF_firstNameTwice 37 = .ok (.iload 4, 2) := by decide +kernel
theorem d_SF_firstNameTwice_39 : decode b_SF_firstNameTwice 39 = .ok (.aaload, 1) := by decide +kernel
theorem d_SF_firstNameTwice_40 : decode b_SF_firstNameTwice 40 = .ok (.getfield 48, 3) := by decide +kernel
theorem d_SF_firstNameTwice_43 : decode b_SF_firstNameTwice 43 = .ok (.aload_n 3, 1) := by decide +kernel
theorem d_SF_firstNameTwice_44 : decode b_SF_firstNameTwice 44 = .ok (.invokevirtual 58, 3) := by decide +kernel
theorem d_SF_firstNameTwice_47 : decode b_SF_firstNameTwice 47 = .ok (.ifCond .eq 8, 3) := by decide +kernel
theorem d_SF_firstNameTwice_50 : decode b_SF_firstNameTwice 50 = .ok (.aload_n 3, 1) := by decide +kernel
theorem d_SF_firstNameTwice_51 : decode b_SF_firstNameTwice 51 = .ok (.getfield 21, 3) := by decide +kernel
theorem d_SF_firstNameTwice_54 : decode b_SF_firstNameTwice 54 = .ok (.ireturn, 1) := by decide +kernel
theorem d_SF_firstNameTwice_55 : decode b_SF_firstNameTwice 55 = .ok (.iinc 4 1, 3) := by decide +kernel
theorem d_SF_firstNameTwice_58 : decode b_SF_firstNameTwice 58 = .ok (.goto (-35), 3) := by decide +kernel
theorem d_SF_firstNameTwice_61 : decode b_SF_firstNameTwice 61 = .ok (.iinc 2 1, 3) := by decide +kernel
theorem d_SF_firstNameTwice_64 : decode b_SF_firstNameTwice 64 = .ok (.goto (-62), 3) := by decide +kernel
theorem d_SF_firstNameTwice_67 : decode b_SF_firstNameTwice 67 = .ok (.iconst (-1), 1) := by decide +kernel
theorem d_SF_firstNameTwice_68 : decode b_SF_firstNameTwice 68 = .ok (.ireturn, 1) := by decide +kernel
set_option maxHeartbeats 4000000 in
set_option maxRecDepth 100000 in
theorem t_SF_firstNameTwice {l : Launch} {s0 : State} {D : va_G} {aC : Nat → ClassId} {a0 : Array Value} (G : gG l s0 D aC a0) (M : gMem) (r : gRef) (ow : Int64) (fu : Nat) (k1 : Nat) (b1 : k1 < 24) (hno : F_SF_firstNameTwice fu k1 M r ≠ .no) : gMet l s0 D aC y_SF_firstNameTwice (Cond.code y_SF_firstNameTwice b_SF_firstNameTwice 5 (some .int)) 3 71 0 0 [.ref (s0.heap.size + 382), .ref (s0.heap.size + oEl k1)] M r ow (qI (F_SF_firstNameTwice fu k1 M r)) (qT (F_SF_firstNameTwice fu k1 M r)) := by
  refine gm_of G (by decide) (Nat.le_of_ble_eq_true rfl) ?_
  intro p e s m below meth c ls B hexc hl hw
  have hx := B.1
  have hb := B.2.1
  have hown := B.2.2.2.2.2.1
  have T := B.2.2.2.2.2.2.1
  have hK := B.2.2.2.2.2.2.2.1
  have X67 : ∀ (M1 : gMem) (r1 : gRef) (H : Heap) (locs : List Loc) (ls : Array Slot), lv_has ls 5 [] → gWd s0 D aC M1 r1 ow H locs → F_SF_firstNameTwice fu k1 M r = F_SF_firstNameTwice_B67 fu k1 M1 r1 → W p l e (gRm 3 71 0 0) s m ([.ref (s0.heap.size + 382), .ref (s0.heap.size + oEl k1)] : List Value).toArray below meth c H locs 0 0 (gt_Q below (gQ s0 D aC ow (qI (F_SF_firstNameTwice fu k1 M r)) (qT (F_SF_firstNameTwice fu k1 M r))) s 0 0 0 0 (fun q => s0.heap.size ≤ q)) (F0 m 67 ls []) := by
    intro  M1 r1 H locs ls hl hw hF
    have hF := hF.trans (F_SF_firstNameTwice_B67.eq_1 _ _ _ _)
    refine lv_iconst (v := -1) hx hb d_SF_firstNameTwice_67 (by decide) ?_
    exact gr_i B hw d_SF_firstNameTwice_68 ⟨_, rfl, hF⟩
  have L2 : ∀ (d : Nat) (x2 : Int32) (M1 : gMem) (r1 : gRef) (H : Heap) (locs : List Loc) (ls : Array Slot), lv_has ls 5 [(2, .int x2), (0, .ref (s0.heap.size + 382)), (1, .ref (s0.heap.size + oEl k1))] → gWd s0 D aC M1 r1 ow H locs → F_SF_firstNameTwice fu k1 M r = F_SF_firstNameTwice_L2 fu k1 d x2 M1 r1 → W p l e (gRm 3 71 0 0) s m ([.ref (s0.heap.size + 382), .ref (s0.heap.size + oEl k1)] : List Value).toArray below meth c H locs 0 0 (gt_Q below (gQ s0 D aC ow (qI (F_SF_firstNameTwice fu k1 M r)) (qT (F_SF_firstNameTwice fu k1 M r))) s 0 0 0 0 (fun q => s0.heap.size ≤ q)) (F0 m 2 ls []) := by
    intro d
    induction d with
    | zero => intro x2 M1 r1 H locs ls hl hw hF; exact absurd hF hno
    | succ d ih =>
      intro x2 M1 r1 H locs ls hl hw hF
      have hF := hF.trans (F_SF_firstNameTwice_L2.eq_2 _ _ _ _ _ _)
      refine lv_iload_n hx hb d_SF_firstNameTwice_2 rfl (lv_at hl 0 rfl) ?_
      refine lv_aload_n hx hb d_SF_firstNameTwice_3 rfl (lv_at hl 2 rfl) ?_
      refine gf_El_attributeCount hx hb T hown hK hw (i := k1) b1 rfl (kf_SF_41 T) d_SF_firstNameTwice_4 ?_
      refine lv_icmp_ge hx hb d_SF_firstNameTwice_7 rfl (fun h10 => ?_) (fun h10 => ?_)
      · skip
        have hF := hF.trans (if_pos h10)
        exact X67  _ _ _ _ _ (gv_loc hl [] rfl) hw hF
      · skip
        have hF := hF.trans (if_neg h10)
        refine lv_aload_n hx hb d_SF_firstNameTwice_10 rfl (lv_at hl 2 rfl) ?_
        refine gf_El_attributes hx hb T hown hK hw (i := k1) b1 rfl (kf_SF_44 T) d_SF_firstNameTwice_11 ?_
        refine lv_iload_n hx hb d_SF_firstNameTwice_14 rfl (lv_at hl 0 rfl) ?_
        have g11 := ng hno hF
        have hF := hF.trans (gd_yes g11)
        refine ga_as hx hb hK hw (i := k1) b1 rfl g11 d_SF_firstNameTwice_15 ?_
        have b111 : 6 * k1 + x2.toNatClampNeg < 145 := by have := vin_lt g11; have := b1; omega
        refine gf_At_name hx hb T hown hK hw (i := (6 * k1 + x2.toNatClampNeg)) b111 rfl (kf_SF_48 T) d_SF_firstNameTwice_16 ?_
        have n12 : 6 * k1 + x2.toNatClampNeg < 170 := Nat.lt_trans b111 (by decide)
        refine lv_astore_n hx hb d_SF_firstNameTwice_19 rfl hl (by decide) rfl (fun ls hl => ?_)
        refine lv_iconst (v := 0) hx hb d_SF_firstNameTwice_20 (by decide) ?_
        refine lv_istore hx hb d_SF_firstNameTwice_21 hl (by decide) rfl (fun ls hl => ?_)
        have I23 : ∀ (d2 : Nat) (x4 : Int32) (M1 : gMem) (r1 : gRef) (H : Heap) (locs : List Loc) (ls : Array Slot), lv_has ls 5 [(0, .ref (s0.heap.size + 382)), (1, .ref (s0.heap.size + oEl k1)), (2, .int x2), (3, .ref (s0.heap.size + oNm (6 * k1 + x2.toNatClampNeg))), (4, .int x4)] → gWd s0 D aC M1 r1 ow H locs → F_SF_firstNameTwice fu k1 M r = gO.bnd (F_SF_firstNameTwice_I23 fu k1 d2 x2 (6 * k1 + x2.toNatClampNeg) x4 M1 r1) (fun s18 M18 r18 => gsm s18 (fun v => .ok v M18 r18) (fun _ => F_SF_firstNameTwice_L2 fu k1 d (x2 + 1) M18 r18)) → W p l e (gRm 3 71 0 0) s m ([.ref (s0.heap.size + 382), .ref (s0.heap.size + oEl k1)] : List Value).toArray below meth c H locs 0 0 (gt_Q below (gQ s0 D aC ow (qI (F_SF_firstNameTwice fu k1 M r)) (qT (F_SF_firstNameTwice fu k1 M r))) s 0 0 0 0 (fun q => s0.heap.size ≤ q)) (F0 m 23 ls []) := by
          intro d2
          induction d2 with
          | zero => intro x4 M1 r1 H locs ls hl hw hF; exact absurd hF hno
          | succ d2 ih2 =>
            intro x4 M1 r1 H locs ls hl hw hF
            have hF := hF.trans (bnc (F_SF_firstNameTwice_I23.eq_2 _ _ _ _ _ _ _ _))
            refine lv_iload hx hb d_SF_firstNameTwice_23 (lv_at hl 4 rfl) ?_
            refine lv_iload_n hx hb d_SF_firstNameTwice_25 rfl (lv_at hl 2 rfl) ?_
            refine lv_icmp_ge hx hb d_SF_firstNameTwice_26 rfl (fun h19 => ?_) (fun h19 => ?_)
            · skip
              have hF := hF.trans (bnc (if_pos h19))
              have hF := hF.trans (show _ = F_SF_firstNameTwice_L2 fu k1 d (x2 + 1) M1 r1 from rfl)
              refine lv_iinc (k := 2) hx hb d_SF_firstNameTwice_61 hl rfl (show _ + Int32.ofInt 1 = _ + 1 from rfl) (by decide) rfl (fun ls hl => ?_)
              refine lv_goto hx hb d_SF_firstNameTwice_64 rfl ?_
              exact ih (x2 + 1) _ _ _ _ _ (gv_loc hl [0, 1, 2] rfl) hw hF
            · skip
              have hF := hF.trans (bnc (if_neg h19))
              refine lv_aload_n hx hb d_SF_firstNameTwice_29 rfl (lv_at hl 0 rfl) ?_
              refine gf_SF_tree hx hb T hown hK hw rfl (kf_SF_9 T) d_SF_firstNameTwice_30 ?_
              refine lv_aload_n hx hb d_SF_firstNameTwice_33 rfl (lv_at hl 1 rfl) ?_
              refine gf_El_attributes hx hb T hown hK hw (i := k1) b1 rfl (kf_SF_44 T) d_SF_firstNameTwice_34 ?_
              refine lv_iload hx hb d_SF_firstNameTwice_37 (lv_at hl 4 rfl) ?_
              have g20 := ng2 hno hF
              have hF := hF.trans (bnc (gd_yes g20))
              refine ga_as hx hb hK hw (i := k1) b1 rfl g20 d_SF_firstNameTwice_39 ?_
              have b120 : 6 * k1 + x4.toNatClampNeg < 145 := by have := vin_lt g20; have := b1; omega
              refine gf_At_name hx hb T hown hK hw (i := (6 * k1 + x4.toNatClampNeg)) b120 rfl (kf_SF_48 T) d_SF_firstNameTwice_40 ?_
              have n21 : 6 * k1 + x4.toNatClampNeg < 170 := Nat.lt_trans b120 (by decide)
              refine lv_aload_n hx hb d_SF_firstNameTwice_43 rfl (lv_at hl 3 rfl) ?_
              refine gy_V B hl.1 hw (t_Tr_sameName G _ _ ow fu (6 * k1 + x4.toNatClampNeg) (6 * k1 + x2.toNatClampNeg) n21 n12 (nn2 hno hF)) (kd_Tr_sameName T) (ki_Tr T) (km_SF_58 T) (ka_Tr_sameName T) (ks_Tr_sameName T) ⟨by decide, by decide, by rfl⟩ (rv_Tr hK hw rfl) rfl (Nat.le_of_ble_eq_true rfl) ⟨by decide, by decide⟩ ⟨by decide, by decide⟩ d_SF_firstNameTwice_44 (fun v M22 r22 H locs hw hp => ?_) (fun x ek M22 r22 H locs hw hE hp => gr_t B hexc hw hE (by decide) (by decide) (hF.trans (bnc (bnd_ex hp))))
              obtain ⟨v22, rfl, hp⟩ := hp
              have hF := hF.trans (bnc (bnd_ok hp))
              refine lv_if_eq hx hb d_SF_firstNameTwice_47 rfl (fun h23 => ?_) (fun h23 => ?_)
              · skip
                have hF := hF.trans (bnc (if_pos h23))
                refine lv_iinc (k := 4) hx hb d_SF_firstNameTwice_55 hl rfl (show _ + Int32.ofInt 1 = _ + 1 from rfl) (by decide) rfl (fun ls hl => ?_)
                refine lv_goto hx hb d_SF_firstNameTwice_58 rfl ?_
                exact ih2 (x4 + 1) _ _ _ _ _ (gv_loc hl [1, 2, 3, 4, 0] rfl) hw hF
              · skip
                have hF := hF.trans (bnc (if_neg h23))
                refine lv_aload_n hx hb d_SF_firstNameTwice_50 rfl (lv_at hl 3 rfl) ?_
                refine gf_Nm_start hx hb T hown hK hw (i := (6 * k1 + x2.toNatClampNeg)) n12 rfl (kf_SF_21 T) d_SF_firstNameTwice_51 ?_
                exact gr_i B hw d_SF_firstNameTwice_54 ⟨_, rfl, hF⟩
        exact I23 fu 0 _ _ _ _ _ (gv_loc hl [3, 4, 2, 1, 0] rfl) hw hF
  have hF := F_SF_firstNameTwice.eq_1 fu k1 M r
  refine lv_iconst (v := 0) hx hb d_SF_firstNameTwice_0 (by decide) ?_
  refine lv_istore_n hx hb d_SF_firstNameTwice_1 rfl hl (by decide) rfl (fun ls hl => ?_)
  exact L2 fu 0 _ _ _ _ _ (gv_loc hl [0, 1, 2] rfl) hw hF
set_option maxHeartbeats 4000000 in
set_option maxRecDepth 100000 in
theorem t_Rd_failUnlessNowhere {l : Launch} {s0 : State} {D : va_G} {aC : Nat → ClassId} {a0 : Array Value} (G : gG l s0 D aC a0) (M : gMem) (r : gRef) (ow : Int64) (fu : Nat) (x1 : Int32) (x2 : Int32)  (hno : F_Rd_failUnlessNowhere fu x1 x2 M r ≠ .no) : gMet l s0 D aC y_Rd_failUnlessNowhere (Cond.code y_Rd_failUnlessNowhere b_Rd_failUnlessNowhere 3 none) 7 104 1 6 [.ref (s0.heap.size + 380), .int x1, .int x2] M r ow (qV (F_Rd_failUnlessNowhere fu x1 x2 M r)) (qT (F_Rd_failUnlessNowhere fu x1 x2 M r)) := by
  refine gm_of G (by decide) (Nat.le_of_ble_eq_true rfl) ?_
  intro p e s m below meth c ls B hexc hl hw
  have hx := B.1
  have hb := B.2.1
  have hown := B.2.2.2.2.2.1
  have T := B.2.2.2.2.2.2.1
  have hK := B.2.2.2.2.2.2.2.1
  have hF := F_Rd_failUnlessNowhere.eq_1 fu x1 x2 M r
  refine lv_iload_n hx hb d_Rd_failUnlessNowhere_0 rfl (lv_at hl 2 rfl) ?_
  refine lv_iconst (v := -1) hx hb d_Rd_failUnlessNowhere_1 (by decide) ?_
  refine lv_icmp_eq hx hb d_Rd_failUnlessNowhere_2 rfl (fun h3 => ?_) (fun h3 => ?_)
  · skip
    have hF := hF.trans (if_pos h3)
    exact gr_v B hw d_Rd_failUnlessNowhere_11 ⟨rfl, hF⟩
  · skip
    have hF := hF.trans (if_neg h3)
    refine lv_aload_n hx hb d_Rd_failUnlessNowhere_5 rfl (lv_at hl 0 rfl) ?_
    refine lv_iload_n hx hb d_Rd_failUnlessNowhere_6 rfl (lv_at hl 1 rfl) ?_
    refine lv_iload_n hx hb d_Rd_failUnlessNowhere_7 rfl (lv_at hl 2 rfl) ?_
    refine gy_V B hl.1 hw (t_Rd_fail G _ _ ow fu x1 x2 (nn hno hF)) (kd_Rd_fail T) (ki_Rd T) (km_Rd_100 T) (ka_Rd_fail T) (ks_Rd_fail T) ⟨by decide, by decide, by rfl⟩ (rv_Rd hK hw rfl) rfl (Nat.le_of_ble_eq_true rfl) ⟨by decide, by decide⟩ ⟨by decide, by decide⟩ d_Rd_failUnlessNowhere_8 (fun v M4 r4 H locs hw hp => ?_) (fun x ek M4 r4 H locs hw hE hp => gr_t B hexc hw hE (by decide) (by decide) (hF.trans (bnd_ex hp)))
    obtain ⟨rfl, hp⟩ := hp
    have hF := hF.trans (bnd_ok hp)
    exact absurd hF hno
set_option maxHeartbeats 4000000 in
set_option maxRecDepth 100000 in
theorem t_At_valueLength {l : Launch} {s0 : State} {D : va_G} {aC : Nat → ClassId} {a0 : Array Value} (G : gG l s0 D aC a0) (M : gMem) (r : gRef) (ow : Int64) (fu : Nat) (k0 : Nat) (b0 : k0 < 145) (hno : F_At_valueLength fu k0 M r ≠ .no) : gMet l s0 D aC y_At_valueLength (Cond.code y_At_valueLength b_At_valueLength 1 (some .int)) 0 0 0 0 [.ref (s0.heap.size + oAt k0)] M r ow (qI (F_At_valueLength fu k0 M r)) (qT (F_At_valueLength fu k0 M r)) := by
  refine gm_of G (by decide) (Nat.le_of_ble_eq_true rfl) ?_
  intro p e s m below meth c ls B hexc hl hw
  have hx := B.1
  have hb := B.2.1
  have hown := B.2.2.2.2.2.1
  have T := B.2.2.2.2.2.2.1
  have hK := B.2.2.2.2.2.2.2.1
  have hF := F_At_valueLength.eq_1 fu k0 M r
  refine lv_aload_n hx hb d_At_valueLength_0 rfl (lv_at hl 0 rfl) ?_
  refine gf_At_valueEnd hx hb T hown hK hw (i := k0) b0 rfl (kf_At_16 T) d_At_valueLength_1 ?_
  refine lv_aload_n hx hb d_At_valueLength_4 rfl (lv_at hl 0 rfl) ?_
  refine gf_At_valueStart hx hb T hown hK hw (i := k0) b0 rfl (kf_At_20 T) d_At_valueLength_5 ?_
  refine lv_isub hx hb d_At_valueLength_8 ?_
  exact gr_i B hw d_At_valueLength_9 ⟨_, rfl, hF⟩
set_option maxHeartbeats 4000000 in
set_option maxRecDepth 100000 in
theorem t_At_declaredStart {l : Launch} {s0 : State} {D : va_G} {aC : Nat → ClassId} {a0 : Array Value} (G : gG l s0 D aC a0) (M : gMem) (r : gRef) (ow : Int64) (fu : Nat) (k0 : Nat) (b0 : k0 < 145) (hno : F_At_declaredStart fu k0 M r ≠ .no) : gMet l s0 D aC y_At_declaredStart (Cond.code y_At_declaredStart b_At_declaredStart 1 (some .int)) 1 20 0 0 [.ref (s0.heap.size + oAt k0)] M r ow (qI (F_At_declaredStart fu k0 M r)) (qT (F_At_declaredStart fu k0 M r)) := by
  refine gm_of G (by decide) (Nat.le_of_ble_eq_true rfl) ?_
  intro p e s m below meth c ls B hexc hl hw
  have hx := B.1
  have hb := B.2.1
  have hown := B.2.2.2.2.2.1
  have T := B.2.2.2.2.2.2.1
  have hK := B.2.2.2.2.2.2.2.1
  have hF := F_At_declaredStart.eq_1 fu k0 M r
  refine lv_aload_n hx hb d_At_declaredStart_0 rfl (lv_at hl 0 rfl) ?_
  refine gf_At_name hx hb T hown hK hw (i := k0) b0 rfl (kf_At_10 T) d_At_declaredStart_1 ?_
  have n6 : k0 < 170 := Nat.lt_trans b0 (by decide)
  refine gy_V B hl.1 hw (t_Nm_hasPrefix G _ _ ow fu k0 n6 (nn hno hF)) (kd_Nm_hasPrefix T) (ki_Nm T) (km_At_23 T) (ka_Nm_hasPrefix T) (ks_Nm_hasPrefix T) ⟨by decide, by decide, by rfl⟩ (rv_Nm hK hw (i := k0) n6 rfl) rfl (Nat.le_of_ble_eq_true rfl) ⟨by decide, by decide⟩ ⟨by decide, by decide⟩ d_At_declaredStart_4 (fun v M7 r7 H locs hw hp => ?_) (fun x ek M7 r7 H locs hw hE hp => gr_t B hexc hw hE (by decide) (by decide) (hF.trans (bnd_ex hp)))
  obtain ⟨v7, rfl, hp⟩ := hp
  have hF := hF.trans (bnd_ok hp)
  refine lv_if_eq hx hb d_At_declaredStart_7 rfl (fun h8 => ?_) (fun h8 => ?_)
  · skip
    have hF := hF.trans (if_pos h8)
    refine lv_aload_n hx hb d_At_declaredStart_20 rfl (lv_at hl 0 rfl) ?_
    refine gf_At_name hx hb T hown hK hw (i := k0) b0 rfl (kf_At_10 T) d_At_declaredStart_21 ?_
    have n9 : k0 < 170 := Nat.lt_trans b0 (by decide)
    refine gf_Nm_end hx hb T hown hK hw (i := k0) n9 rfl (kf_At_30 T) d_At_declaredStart_24 ?_
    exact gr_i B hw d_At_declaredStart_27 ⟨_, rfl, hF⟩
  · skip
    have hF := hF.trans (if_neg h8)
    refine lv_aload_n hx hb d_At_declaredStart_10 rfl (lv_at hl 0 rfl) ?_
    refine gf_At_name hx hb T hown hK hw (i := k0) b0 rfl (kf_At_10 T) d_At_declaredStart_11 ?_
    have n10 : k0 < 170 := Nat.lt_trans b0 (by decide)
    refine gf_Nm_local hx hb T hown hK hw (i := k0) n10 rfl (kf_At_27 T) d_At_declaredStart_14 ?_
    refine lv_goto hx hb d_At_declaredStart_17 rfl ?_
    exact gr_i B hw d_At_declaredStart_27 ⟨_, rfl, hF⟩
theorem d_Tr_declarationFor_0 : decode b_Tr_declarationFor 0 = .ok (.aload_n 1, 1) := by decide +kernel
theorem d_Tr_declarationFor_1 : decode b_Tr_declarationFor 1 = .ok (.astore 4, 2) := by decide +kernel
theorem d_Tr_declarationFor_3 : decode b_Tr_declarationFor 3 = .ok (.aload 4, 2) := by decide +kernel
theorem d_Tr_declarationFor_5 : decode b_Tr_declarationFor 5 = .ok (.ifnull 78, 3) := by decide +kernel
theorem d_Tr_declarationFor_8 : decode b_Tr_declarationFor 8 = .ok (.iconst 0, 1) := by decide +kernel
theorem d_Tr_declarationFor_9 : decode b_Tr_declarationFor 9 = .ok (.istore 5, 2) := by decide +kernel
theorem d_Tr_declarationFor_11 : decode b_Tr_declarationFor 11 = .ok (.iload 5, 2) := by decide +kernel
theorem d_Tr_declarationFor_13 : decode b_Tr_declarationFor 13 = .ok (.aload 4, 2) := by decide +kernel
theorem d_Tr_declarationFor_15 : decode b_Tr_declarationFor 15 = .ok (.getfield 92, 3) := by decide +kernel
theorem d_Tr_declarationFor_18 : decode b_Tr_declarationFor 18 = .ok (.if_icmp .ge 55, 3) := by decide +kernel
theorem d_Tr_declarationFor_21 : decode b_Tr_declarationFor 21 = .ok (.aload 4, 2) := by decide +kernel
theorem d_Tr_declarationFor_23 : decode b_Tr_declarationFor 23 = .ok (.getfield 95, 3) := by decide +kernel
theorem d_Tr_declarationFor_26 : decode b_Tr_declarationFor 26 = .ok (.iload 5, 2) := by decide +kernel
theorem d_Tr_declarationFor_28 : decode b_Tr_declarationFor 28 = .ok (.aaload, 1) := by decide +kernel
theorem d_Tr_declarationFor_29 : decode b_Tr_declarationFor 29 = .ok (.astore 6, 2) := by decide +kernel
theorem d_Tr_declarationFor_31 : decode b_Tr_declarationFor 31 = .ok (.aload 6, 2) := by decide +kernel
theorem d_Tr_declarationFor_33 : decode b_Tr_declarationFor 33 = .ok (.getfield 99, 3) := by decide +kernel
theorem d_Tr_declarationFor_36 : decode b_Tr_declarationFor 36 = .ok (.ifCond .eq 31, 3) := by decide +kernel
theorem d_Tr_declarationFor_39 : decode b_Tr_declarationFor 39 = .ok (.aload_n 0, 1) := by decide +kernel
theorem d_Tr_declarationFor_40 : decode b_Tr_declarationFor 40 = .ok (.getfield 14, 3) := by decide +kernel
theorem d_Tr_declarationFor_43 : decode b_Tr_declarationFor 43 = .ok (.aload 6, 2) := by decide +kernel
theorem d_Tr_declarationFor_45 : decode b_Tr_declarationFor 45 = .ok (.invokevirtual 103, 3) := by decide +kernel
theorem d_Tr_declarationFor_48 : decode b_Tr_declarationFor 48 = .ok (.aload 6, 2) := by decide +kernel
theorem d_Tr_declarationFor_50 : decode b_Tr_declarationFor 50 = .ok (.getfield 106, 3) := by decide +kernel
theorem d_Tr_declarationFor_53 : decode b_Tr_declarationFor 53 = .ok (.getfield 80, 3) := by decide +kernel
theorem d_Tr_declarationFor_56 : decode b_Tr_declarationFor 56 = .ok (.iload_n 2, 1) := by decide +kernel
theorem d_Tr_declarationFor_57 : decode b_Tr_declarationFor 57 = .ok (.iload_n 3, 1) := by decide +kernel
theorem d_Tr_declarationFor_58 : decode b_Tr_declarationFor 58 = .ok (.invokevirtual 110, 3) := by decide +kernel
theorem d_Tr_declarationFor_61 : decode b_Tr_declarationFor 61 = .ok (.ifCond .ne 6, 3) := by decide +kernel
theorem d_Tr_declarationFor_64 : decode b_Tr_declarationFor 64 = .ok (.aload 6, 2) := by decide +kernel
theorem d_Tr_declarationFor_66 : decode b_Tr_declarationFor 66 = .ok (.areturn, 1) := by decide +kernel
theorem d_Tr_declarationFor_67 : decode b_Tr_declarationFor 67 = .ok (.iinc 5 1, 3) := by decide +kernel
theorem d_Tr_declarationFor_70 : decode b_Tr_declarationFor 70 = .ok (.goto (-59), 3) := by decide +kernel
theorem d_Tr_declarationFor_73 : decode b_Tr_declarationFor 73 = .ok (.aload 4, 2) := by decide +kernel
theorem d_Tr_declarationFor_75 : decode b_Tr_declarationFor 75 = .ok (.getfield 114, 3) := by decide +kernel
theorem d_Tr_declarationFor_78 : decode b_Tr_declarationFor 78 = .ok (.astore 4, 2) := by decide +kernel
theorem d_Tr_declarationFor_80 : decode b_Tr_declarationFor 80 = .ok (.goto (-77), 3) := by decide +kernel
theorem d_Tr_declarationFor_83 : decode b_Tr_declarationFor 83 = .ok (.aload_n 0, 1) := by decide +kernel
theorem d_Tr_declarationFor_84 : decode b_Tr_declarationFor 84 = .ok (.getfield 39, 3) := by decide +kernel
theorem d_Tr_declarationFor_87 : decode b_Tr_declarationFor 87 = .ok (.areturn, 1) := by decide +kernel
set_option maxHeartbeats 4000000 in
set_option maxRecDepth 100000 in
theorem t_Tr_declarationFor {l : Launch} {s0 : State} {D : va_G} {aC : Nat → ClassId} {a0 : Array Value} (G : gG l s0 D aC a0) (M : gMem) (r : gRef) (ow : Int64) (fu : Nat) (k1 : Nat) (x2 : Int32) (x3 : Int32) (b1 : k1 < 24) (hno : F_Tr_declarationFor fu k1 x2 x3 M r ≠ .no) : gMet l s0 D aC y_Tr_declarationFor (Cond.code y_Tr_declarationFor b_Tr_declarationFor 7 (some (.object "MarkupReader$Attribute"))) 2 49 0 0 [.ref (s0.heap.size + 5), .ref (s0.heap.size + oEl k1), .int x2, .int x3] M r ow (qA s0.heap.size (F_Tr_declarationFor fu k1 x2 x3 M r)) (qT (F_Tr_declarationFor fu k1 x2 x3 M r)) := by
  refine gm_of G (by decide) (Nat.le_of_ble_eq_true rfl) ?_
  intro p e s m below meth c ls B hexc hl hw
  have hx := B.1
  have hb := B.2.1
  have hown := B.2.2.2.2.2.1
  have T := B.2.2.2.2.2.2.1
  have hK := B.2.2.2.2.2.2.2.1
  have X83 : ∀ (M1 : gMem) (r1 : gRef) (H : Heap) (locs : List Loc) (ls : Array Slot), lv_has ls 7 [(0, .ref (s0.heap.size + 5))] → gWd s0 D aC M1 r1 ow H locs → F_Tr_declarationFor fu k1 x2 x3 M r = F_Tr_declarationFor_B83 fu k1 x2 x3 M1 r1 → W p l e (gRm 2 49 0 0) s m ([.ref (s0.heap.size + 5), .ref (s0.heap.size + oEl k1), .int x2, .int x3] : List Value).toArray below meth c H locs 0 0 (gt_Q below (gQ s0 D aC ow (qA s0.heap.size (F_Tr_declarationFor fu k1 x2 x3 M r)) (qT (F_Tr_declarationFor fu k1 x2 x3 M r))) s 0 0 0 0 (fun q => s0.heap.size ≤ q)) (F0 m 83 ls []) := by
    intro  M1 r1 H locs ls hl hw hF
    have hF := hF.trans (F_Tr_declarationFor_B83.eq_1 _ _ _ _ _ _)
    refine lv_aload_n hx hb d_Tr_declarationFor_83 rfl (lv_at hl 0 rfl) ?_
    refine gf_Tr_noDeclaration hx hb T hown hK hw rfl (kf_Tr_39 T) d_Tr_declarationFor_84 ?_
    exact gr_a (v := some (s0.heap.size + oAt 144)) B hw d_Tr_declarationFor_87 ⟨some 144, rfl, hF⟩
  have L3 : ∀ (d : Nat) (o4 : (Option Nat)) (M1 : gMem) (r1 : gRef) (H : Heap) (locs : List Loc) (ls : Array Slot), lv_has ls 7 [(4, va_rf (gq s0.heap.size oEl o4)), (0, .ref (s0.heap.size + 5)), (2, .int x2), (3, .int x3)] → gWd s0 D aC M1 r1 ow H locs → F_Tr_declarationFor fu k1 x2 x3 M r = F_Tr_declarationFor_L3 fu k1 x2 x3 d o4 M1 r1 → W p l e (gRm 2 49 0 0) s m ([.ref (s0.heap.size + 5), .ref (s0.heap.size + oEl k1), .int x2, .int x3] : List Value).toArray below meth c H locs 0 0 (gt_Q below (gQ s0 D aC ow (qA s0.heap.size (F_Tr_declarationFor fu k1 x2 x3 M r)) (qT (F_Tr_declarationFor fu k1 x2 x3 M r))) s 0 0 0 0 (fun q => s0.heap.size ≤ q)) (F0 m 3 ls []) := by
    intro d
    induction d with
    | zero => intro o4 M1 r1 H locs ls hl hw hF; exact absurd hF hno
    | succ d ih =>
      intro o4 M1 r1 H locs ls hl hw hF
      have hF := hF.trans (F_Tr_declarationFor_L3.eq_2 _ _ _ _ _ _ _ _)
      rcases hq11 : o4 with _ | k_11
      · subst hq11
        have hF := hF.trans (gcs_none rfl)
        replace hl : lv_has ls 7 [(4, .null), (0, .ref (s0.heap.size + 5)), (2, .int x2), (3, .int x3)] := hl
        refine lv_aloadN hx hb d_Tr_declarationFor_3 (lv_at hl 0 rfl) ?_
        refine lv_ifnullN hx hb d_Tr_declarationFor_5 rfl ?_
        exact X83  _ _ _ _ _ (gv_loc hl [1] rfl) hw hF
      · subst hq11
        have hF := hF.trans (gcs_some rfl)
        have b_11 := ng hno hF
        have hF := hF.trans (gd_yes b_11)
        replace hl : lv_has ls 7 [(4, .ref (s0.heap.size + oEl k_11)), (0, .ref (s0.heap.size + 5)), (2, .int x2), (3, .int x3)] := hl
        refine lv_aload hx hb d_Tr_declarationFor_3 (lv_at hl 0 rfl) ?_
        refine lv_ifnull hx hb d_Tr_declarationFor_5 ?_
        refine lv_iconst (v := 0) hx hb d_Tr_declarationFor_8 (by decide) ?_
        refine lv_istore hx hb d_Tr_declarationFor_9 hl (by decide) rfl (fun ls hl => ?_)
        have I11 : ∀ (d2 : Nat) (x5 : Int32) (M1 : gMem) (r1 : gRef) (H : Heap) (locs : List Loc) (ls : Array Slot), lv_has ls 7 [(0, .ref (s0.heap.size + 5)), (2, .int x2), (3, .int x3), (4, .ref (s0.heap.size + oEl k_11)), (5, .int x5)] → gWd s0 D aC M1 r1 ow H locs → F_Tr_declarationFor fu k1 x2 x3 M r = gO.bnd (F_Tr_declarationFor_I11 fu k1 x2 x3 d2 k_11 x5 M1 r1) (fun s19 M19 r19 => gsm s19 (fun v => .ok v M19 r19) (fun _ => gcs (r19 1 k_11) (F_Tr_declarationFor_L3 fu k1 x2 x3 d none M19 r19) (fun k_20 => gd (k_20 < 24) (F_Tr_declarationFor_L3 fu k1 x2 x3 d (some k_20) M19 r19)))) → W p l e (gRm 2 49 0 0) s m ([.ref (s0.heap.size + 5), .ref (s0.heap.size + oEl k1), .int x2, .int x3] : List Value).toArray below meth c H locs 0 0 (gt_Q below (gQ s0 D aC ow (qA s0.heap.size (F_Tr_declarationFor fu k1 x2 x3 M r)) (qT (F_Tr_declarationFor fu k1 x2 x3 M r))) s 0 0 0 0 (fun q => s0.heap.size ≤ q)) (F0 m 11 ls []) := by
          intro d2
          induction d2 with
          | zero => intro x5 M1 r1 H locs ls hl hw hF; exact absurd hF hno
          | succ d2 ih2 =>
            intro x5 M1 r1 H locs ls hl hw hF
            have hF := hF.trans (bnc (F_Tr_declarationFor_I11.eq_2 _ _ _ _ _ _ _ _ _))
            refine lv_iload hx hb d_Tr_declarationFor_11 (lv_at hl 4 rfl) ?_
            refine lv_aload hx hb d_Tr_declarationFor_13 (lv_at hl 3 rfl) ?_
            refine gf_El_attributeCount hx hb T hown hK hw (i := k_11) b_11 rfl (kf_Tr_92 T) d_Tr_declarationFor_15 ?_
            refine lv_icmp_ge hx hb d_Tr_declarationFor_18 rfl (fun h21 => ?_) (fun h21 => ?_)
            · skip
              have hF := hF.trans (bnc (if_pos h21))
              have hF := hF.trans (show _ = gcs (r1 1 k_11) (F_Tr_declarationFor_L3 fu k1 x2 x3 d none M1 r1) (fun k_22 => gd (k_22 < 24) (F_Tr_declarationFor_L3 fu k1 x2 x3 d (some k_22) M1 r1)) from rfl)
              refine lv_aload hx hb d_Tr_declarationFor_73 (lv_at hl 3 rfl) ?_
              refine gf_El_around hx hb T hown hK hw (i := k_11) b_11 rfl (kf_Tr_114 T) d_Tr_declarationFor_75 ?_
              rcases hq22 : r1 1 k_11 with _ | k_22
              · skip
                have hF := hF.trans (gcs_none hq22)
                refine lv_astoreN hx hb d_Tr_declarationFor_78 hl (by decide) rfl (fun ls hl => ?_)
                refine lv_goto hx hb d_Tr_declarationFor_80 rfl ?_
                exact ih none _ _ _ _ _ (gv_loc hl [0, 1, 2, 3] rfl) hw hF
              · skip
                have hF := hF.trans (gcs_some hq22)
                have b_22 := ng hno hF
                have hF := hF.trans (gd_yes b_22)
                refine lv_astore hx hb d_Tr_declarationFor_78 hl (by decide) rfl (fun ls hl => ?_)
                refine lv_goto hx hb d_Tr_declarationFor_80 rfl ?_
                exact ih (some k_22) _ _ _ _ _ (gv_loc hl [0, 1, 2, 3] rfl) hw hF
            · skip
              have hF := hF.trans (bnc (if_neg h21))
              refine lv_aload hx hb d_Tr_declarationFor_21 (lv_at hl 3 rfl) ?_
              refine gf_El_attributes hx hb T hown hK hw (i := k_11) b_11 rfl (kf_Tr_95 T) d_Tr_declarationFor_23 ?_
              refine lv_iload hx hb d_Tr_declarationFor_26 (lv_at hl 4 rfl) ?_
              have g23 := ng2 hno hF
              have hF := hF.trans (bnc (gd_yes g23))
              refine ga_as hx hb hK hw (i := k_11) b_11 rfl g23 d_Tr_declarationFor_28 ?_
              have b123 : 6 * k_11 + x5.toNatClampNeg < 145 := by have := vin_lt g23; have := b_11; omega
              refine lv_astore hx hb d_Tr_declarationFor_29 hl (by decide) rfl (fun ls hl => ?_)
              refine lv_aload hx hb d_Tr_declarationFor_31 (lv_at hl 0 rfl) ?_
              refine gf_At_isDeclaration hx hb T hown hK hw (i := (6 * k_11 + x5.toNatClampNeg)) b123 rfl (kf_Tr_99 T) d_Tr_declarationFor_33 ?_
              refine lv_if_eq hx hb d_Tr_declarationFor_36 rfl (fun h24 => ?_) (fun h24 => ?_)
              · skip
                have hF := hF.trans (bnc (if_pos h24))
                refine lv_iinc (k := 5) hx hb d_Tr_declarationFor_67 hl rfl (show _ + Int32.ofInt 1 = _ + 1 from rfl) (by decide) rfl (fun ls hl => ?_)
                refine lv_goto hx hb d_Tr_declarationFor_70 rfl ?_
                exact ih2 (x5 + 1) _ _ _ _ _ (gv_loc hl [2, 3, 4, 5, 0] rfl) hw hF
              · skip
                have hF := hF.trans (bnc (if_neg h24))
                refine lv_aload_n hx hb d_Tr_declarationFor_39 rfl (lv_at hl 1 rfl) ?_
                refine gf_Tr_text hx hb T hown hK hw rfl (kf_Tr_14 T) d_Tr_declarationFor_40 ?_
                refine lv_aload hx hb d_Tr_declarationFor_43 (lv_at hl 0 rfl) ?_
                refine gy_V B hl.1 hw (t_At_declaredStart G _ _ ow fu (6 * k_11 + x5.toNatClampNeg) b123 (nn2 hno hF)) (kd_At_declaredStart T) (ki_At T) (km_Tr_103 T) (ka_At_declaredStart T) (ks_At_declaredStart T) ⟨by decide, by decide, by rfl⟩ (rv_At hK hw (i := (6 * k_11 + x5.toNatClampNeg)) b123 rfl) rfl (Nat.le_of_ble_eq_true rfl) ⟨by decide, by decide⟩ ⟨by decide, by decide⟩ d_Tr_declarationFor_45 (fun v M25 r25 H locs hw hp => ?_) (fun x ek M25 r25 H locs hw hE hp => gr_t B hexc hw hE (by decide) (by decide) (hF.trans (bnc (bnd_ex hp))))
                obtain ⟨v25, rfl, hp⟩ := hp
                have hF := hF.trans (bnc (bnd_ok hp))
                refine lv_aload hx hb d_Tr_declarationFor_48 (lv_at hl 0 rfl) ?_
                refine gf_At_name hx hb T hown hK hw (i := (6 * k_11 + x5.toNatClampNeg)) b123 rfl (kf_Tr_106 T) d_Tr_declarationFor_50 ?_
                have n26 : 6 * k_11 + x5.toNatClampNeg < 170 := Nat.lt_trans b123 (by decide)
                refine gf_Nm_end hx hb T hown hK hw (i := (6 * k_11 + x5.toNatClampNeg)) n26 rfl (kf_Tr_80 T) d_Tr_declarationFor_53 ?_
                refine lv_iload_n hx hb d_Tr_declarationFor_56 rfl (lv_at hl 2 rfl) ?_
                refine lv_iload_n hx hb d_Tr_declarationFor_57 rfl (lv_at hl 3 rfl) ?_
                refine gy_V B hl.1 hw (t_Row_order G _ _ ow fu 2 v25 (M25 22 (6 * k_11 + x5.toNatClampNeg)) x2 x3 (by decide) (nn2 hno hF)) (kd_Row_order T) (ki_Row T) (km_Tr_110 T) (ka_Row_order T) (ks_Row_order T) ⟨by decide, by decide, by rfl⟩ (rv_Row hK hw (i := 2) (by decide) rfl) rfl (Nat.le_of_ble_eq_true rfl) ⟨by decide, by decide⟩ ⟨by decide, by decide⟩ d_Tr_declarationFor_58 (fun v M27 r27 H locs hw hp => ?_) (fun x ek M27 r27 H locs hw hE hp => gr_t B hexc hw hE (by decide) (by decide) (hF.trans (bnc (bnd_ex hp))))
                obtain ⟨v27, rfl, hp⟩ := hp
                have hF := hF.trans (bnc (bnd_ok hp))
                refine lv_if_ne hx hb d_Tr_declarationFor_61 rfl (fun h28 => ?_) (fun h28 => ?_)
                · skip
                  have hF := hF.trans (bnc (if_neg h28))
                  refine lv_iinc (k := 5) hx hb d_Tr_declarationFor_67 hl rfl (show _ + Int32.ofInt 1 = _ + 1 from rfl) (by decide) rfl (fun ls hl => ?_)
                  refine lv_goto hx hb d_Tr_declarationFor_70 rfl ?_
                  exact ih2 (x5 + 1) _ _ _ _ _ (gv_loc hl [2, 3, 4, 5, 0] rfl) hw hF
                · skip
                  have hF := hF.trans (bnc (if_pos h28))
                  refine lv_aload hx hb d_Tr_declarationFor_64 (lv_at hl 0 rfl) ?_
                  exact gr_a (v := some (s0.heap.size + oAt (6 * k_11 + x5.toNatClampNeg))) B hw d_Tr_declarationFor_66 ⟨some (6 * k_11 + x5.toNatClampNeg), rfl, hF⟩
        exact I11 fu 0 _ _ _ _ _ (gv_loc hl [2, 3, 4, 1, 0] rfl) hw hF
  have hF := F_Tr_declarationFor.eq_1 fu k1 x2 x3 M r
  refine lv_aload_n hx hb d_Tr_declarationFor_0 rfl (lv_at hl 1 rfl) ?_
  refine lv_astore hx hb d_Tr_declarationFor_1 hl (by decide) rfl (fun ls hl => ?_)
  exact L3 fu (some k1) _ _ _ _ _ (gv_loc hl [0, 1, 3, 4] rfl) hw hF
theorem d_SF_findSpaces_0 : decode b_SF_findSpaces 0 = .ok (.aload_n 1, 1) := by decide +kernel
theorem d_SF_findSpaces_1 : decode b_SF_findSpaces 1 = .ok (.getfield 15, 3) := by decide +kernel
theorem d_SF_findSpaces_4 : decode b_SF_findSpaces 4 = .ok (.astore_n 2, 1) := by decide +kernel
theorem d_SF_findSpaces_5 : decode b_SF_findSpaces 5 = .ok (.aload_n 2, 1) := by decide +kernel
theorem d_SF_findSpaces_6 : decode b_SF_findSpaces 6 = .ok (.aload_n 0, 1) := by decide +kernel
theorem d_SF_findSpaces_7 : decode b_SF_findSpaces 7 = .ok (.getfield 9, 3) := by decide +kernel
theorem d_SF_findSpaces_10 : decode b_SF_findSpaces 10 = .ok (.aload_n 1, 1) := by decide +kernel
theorem d_SF_findSpaces_11 : decode b_SF_findSpaces 11 = .ok (.aload_n 2, 1) := by decide +kernel
theorem d_SF_findSpaces_12 : decode b_SF_findSpaces 12 = .ok (.getfield 21, 3) := by decide +kernel
theorem d_SF_findSpaces_15 : decode b_SF_findSpaces 15 = .ok (.aload_n 2, 1) := by decide +kernel
theorem d_SF_findSpaces_16 : decode b_SF_findSpaces 16 = .ok (.invokevirtual 27, 3) := by decide +kernel
theorem d_SF_findSpaces_19 : decode b_SF_findSpaces 19 = .ok (.invokevirtual 31, 3) := by decide +kernel
theorem d_SF_findSpaces_22 : decode b_SF_findSpaces 22 = .ok (.putfield 37, 3) := by decide +kernel
theorem d_SF_findSpaces_25 : decode b_SF_findSpaces 25 = .ok (.iconst 0, 1) := by decide +kernel
theorem d_SF_findSpaces_26 : decode b_SF_findSpaces 26 = .ok (.istore_n 3, 1) := by decide +kernel
theorem d_SF_findSpaces_27 : decode b_SF_findSpaces 27 = .ok (.iload_n 3, 1) := by decide +kernel
theorem d_SF_findSpaces_28 : decode b_SF_findSpaces 28 = .ok (.aload_n 1, 1) := by decide +kernel
theorem d_SF_findSpaces_29 : decode b_SF_findSpaces 29 = .ok (.getfield 41, 3) := by decide +kernel
theorem d_SF_findSpaces_32 : decode b_SF_findSpaces 32 = .ok (.if_icmp .ge 61, 3) := by decide +kernel
theorem d_SF_findSpaces_35 : decode b_SF_findSpaces 35 = .ok (.aload_n 1, 1) := by decide +kernel
theorem d_SF_findSpaces_36 : decode b_SF_findSpaces 36 = .ok (.getfield 44, 3) := by decide +kernel
theorem d_SF_findSpaces_39 : decode b_SF_findSpaces 39 = .ok (.iload_n 3, 1) := by decide +kernel
theorem d_SF_findSpaces_40 : decode b_SF_findSpaces 40 = .ok (.aaload, 1) := by decide +kernel
theorem d_SF_findSpaces_41 : decode b_SF_findSpaces 41 = .ok (.getfield 48, 3) := by decide +kernel
theorem d_SF_findSpaces_44 : decode b_SF_findSpaces 44 = .ok (.astore 4, 2) := by decide +kernel
theorem d_SF_findSpaces_46 : decode b_SF_findSpaces 46 = .ok (.aload 4, 2) := by decide +kernel
theorem d_SF_findSpaces_48 : decode b_SF_findSpaces 48 = .ok (.aload 4, 2) := by decide +kernel
theorem d_SF_findSpaces_50 : decode b_SF_findSpaces 50 = .ok (.invokevirtual 51, 3) := by decide +kernel
theorem d_SF_findSpaces_53 : decode b_SF_findSpaces 53 = .ok (.ifCond .eq 24, 3) := by decide +kernel
theorem d_SF_findSpaces_56 : decode b_SF_findSpaces 56 = .ok (.aload_n 0, 1) := by decide +kernel
theorem d_SF_findSpaces_57 : decode b_SF_findSpaces 57 = .ok (.getfield 9, 3) := by decide +kernel
theorem d_SF_findSpaces_60 : decode b_SF_findSpaces 60 = .ok (.aload_n 1, 1) := by decide +kernel
theorem d_SF_findSpaces_61 : decode b_SF_findSpaces 61 = .ok (.aload 4, 2) := by decide +kernel
theorem d_SF_findSpaces_63 : decode b_SF_findSpaces 63 = .ok (.getfield 21, 3) := by decide +kernel
theorem d_SF_findSpaces_66 : decode b_SF_findSpaces 66 = .ok (.aload 4, 2) := by decide +kernel
theorem d_SF_findSpaces_68 : decode b_SF_findSpaces 68 = .ok (.invokevirtual 27, 3) := by decide +kernel
theorem d_SF_findSpaces_71 : decode b_SF_findSpaces 71 = .ok (.invokevirtual 31, 3) := by decide +kernel
theorem d_SF_findSpaces_74 : decode b_SF_findSpaces 74 = .ok (.goto 10, 3) := by decide +kernel
theorem d_SF_findSpaces_77 : decode b_SF_findSpaces 77 = .ok (.aload_n 0, 1) := by decide +kernel
theorem d_SF_findSpaces_78 : decode b_SF_findSpaces 78 = .ok (.getfield 9, 3) := by decide +kernel
theorem d_SF_findSpaces_81 : decode b_SF_findSpaces 81 = .ok (.getfield 55, 3) := by decide +kernel
theorem d_SF_findSpaces_84 : decode b_SF_findSpaces 84 = .ok (.putfield 37, 3) := by decide +kernel
theorem d_SF_findSpaces_87 : decode b_SF_findSpaces 87 = .ok (.iinc 3 1, 3) := by decide +kernel
theorem d_SF_findSpaces_90 : decode b_SF_findSpaces 90 = .ok (.goto (-63), 3) := by decide +kernel
theorem d_SF_findSpaces_93 : decode b_SF_findSpaces 93 = .ok (.return_, 1) := by decide +kernel
set_option maxHeartbeats 4000000 in
set_option maxRecDepth 100000 in
theorem t_SF_findSpaces {l : Launch} {s0 : State} {D : va_G} {aC : Nat → ClassId} {a0 : Array Value} (G : gG l s0 D aC a0) (M : gMem) (r : gRef) (ow : Int64) (fu : Nat) (k1 : Nat) (b1 : k1 < 24) (hno : F_SF_findSpaces fu k1 M r ≠ .no) : gMet l s0 D aC y_SF_findSpaces (Cond.code y_SF_findSpaces b_SF_findSpaces 5 none) 3 75 0 0 [.ref (s0.heap.size + 382), .ref (s0.heap.size + oEl k1)] M r ow (qV (F_SF_findSpaces fu k1 M r)) (qT (F_SF_findSpaces fu k1 M r)) := by
  refine gm_of G (by decide) (Nat.le_of_ble_eq_true rfl) ?_
  intro p e s m below meth c ls B hexc hl hw
  have hx := B.1
  have hb := B.2.1
  have hown := B.2.2.2.2.2.1
  have T := B.2.2.2.2.2.2.1
  have hK := B.2.2.2.2.2.2.2.1
  have X93 : ∀ (M1 : gMem) (r1 : gRef) (H : Heap) (locs : List Loc) (ls : Array Slot), lv_has ls 5 [] → gWd s0 D aC M1 r1 ow H locs → F_SF_findSpaces fu k1 M r = F_SF_findSpaces_B93 fu k1 M1 r1 → W p l e (gRm 3 75 0 0) s m ([.ref (s0.heap.size + 382), .ref (s0.heap.size + oEl k1)] : List Value).toArray below meth c H locs 0 0 (gt_Q below (gQ s0 D aC ow (qV (F_SF_findSpaces fu k1 M r)) (qT (F_SF_findSpaces fu k1 M r))) s 0 0 0 0 (fun q => s0.heap.size ≤ q)) (F0 m 93 ls []) := by
    intro  M1 r1 H locs ls hl hw hF
    have hF := hF.trans (F_SF_findSpaces_B93.eq_1 _ _ _ _)
    exact gr_v B hw d_SF_findSpaces_93 ⟨rfl, hF⟩
  have L27 : ∀ (d : Nat) (x3 : Int32) (M1 : gMem) (r1 : gRef) (H : Heap) (locs : List Loc) (ls : Array Slot), lv_has ls 5 [(3, .int x3), (0, .ref (s0.heap.size + 382)), (1, .ref (s0.heap.size + oEl k1))] → gWd s0 D aC M1 r1 ow H locs → F_SF_findSpaces fu k1 M r = F_SF_findSpaces_L27 fu k1 d x3 M1 r1 → W p l e (gRm 3 75 0 0) s m ([.ref (s0.heap.size + 382), .ref (s0.heap.size + oEl k1)] : List Value).toArray below meth c H locs 0 0 (gt_Q below (gQ s0 D aC ow (qV (F_SF_findSpaces fu k1 M r)) (qT (F_SF_findSpaces fu k1 M r))) s 0 0 0 0 (fun q => s0.heap.size ≤ q)) (F0 m 27 ls []) := by
    intro d
    induction d with
    | zero => intro x3 M1 r1 H locs ls hl hw hF; exact absurd hF hno
    | succ d ih =>
      intro x3 M1 r1 H locs ls hl hw hF
      have hF := hF.trans (F_SF_findSpaces_L27.eq_2 _ _ _ _ _ _)
      refine lv_iload_n hx hb d_SF_findSpaces_27 rfl (lv_at hl 0 rfl) ?_
      refine lv_aload_n hx hb d_SF_findSpaces_28 rfl (lv_at hl 2 rfl) ?_
      refine gf_El_attributeCount hx hb T hown hK hw (i := k1) b1 rfl (kf_SF_41 T) d_SF_findSpaces_29 ?_
      refine lv_icmp_ge hx hb d_SF_findSpaces_32 rfl (fun h13 => ?_) (fun h13 => ?_)
      · skip
        have hF := hF.trans (if_pos h13)
        exact X93  _ _ _ _ _ (gv_loc hl [] rfl) hw hF
      · skip
        have hF := hF.trans (if_neg h13)
        refine lv_aload_n hx hb d_SF_findSpaces_35 rfl (lv_at hl 2 rfl) ?_
        refine gf_El_attributes hx hb T hown hK hw (i := k1) b1 rfl (kf_SF_44 T) d_SF_findSpaces_36 ?_
        refine lv_iload_n hx hb d_SF_findSpaces_39 rfl (lv_at hl 0 rfl) ?_
        have g14 := ng hno hF
        have hF := hF.trans (gd_yes g14)
        refine ga_as hx hb hK hw (i := k1) b1 rfl g14 d_SF_findSpaces_40 ?_
        have b114 : 6 * k1 + x3.toNatClampNeg < 145 := by have := vin_lt g14; have := b1; omega
        refine gf_At_name hx hb T hown hK hw (i := (6 * k1 + x3.toNatClampNeg)) b114 rfl (kf_SF_48 T) d_SF_findSpaces_41 ?_
        have n15 : 6 * k1 + x3.toNatClampNeg < 170 := Nat.lt_trans b114 (by decide)
        refine lv_astore hx hb d_SF_findSpaces_44 hl (by decide) rfl (fun ls hl => ?_)
        refine lv_aload hx hb d_SF_findSpaces_46 (lv_at hl 0 rfl) ?_
        refine lv_aload hx hb d_SF_findSpaces_48 (lv_at hl 0 rfl) ?_
        refine gy_V B hl.1 hw (t_Nm_hasPrefix G _ _ ow fu (6 * k1 + x3.toNatClampNeg) n15 (nn hno hF)) (kd_Nm_hasPrefix T) (ki_Nm T) (km_SF_51 T) (ka_Nm_hasPrefix T) (ks_Nm_hasPrefix T) ⟨by decide, by decide, by rfl⟩ (rv_Nm hK hw (i := (6 * k1 + x3.toNatClampNeg)) n15 rfl) rfl (Nat.le_of_ble_eq_true rfl) ⟨by decide, by decide⟩ ⟨by decide, by decide⟩ d_SF_findSpaces_50 (fun v M16 r16 H locs hw hp => ?_) (fun x ek M16 r16 H locs hw hE hp => gr_t B hexc hw hE (by decide) (by decide) (hF.trans (bnd_ex hp)))
        obtain ⟨v16, rfl, hp⟩ := hp
        have hF := hF.trans (bnd_ok hp)
        refine lv_if_eq hx hb d_SF_findSpaces_53 rfl (fun h17 => ?_) (fun h17 => ?_)
        · skip
          have hF := hF.trans (if_pos h17)
          refine lv_aload_n hx hb d_SF_findSpaces_77 rfl (lv_at hl 2 rfl) ?_
          refine gf_SF_tree hx hb T hown hK hw rfl (kf_SF_9 T) d_SF_findSpaces_78 ?_
          refine gf_Tr_noDeclaration hx hb T hown hK hw rfl (kf_SF_55 T) d_SF_findSpaces_81 ?_
          refine pf_Nm_space (y := (some 144)) hx hb T hown hK hw (i := (6 * k1 + x3.toNatClampNeg)) n15 rfl (kf_SF_37 T) d_SF_findSpaces_84 (fun H locs hw => ?_)
          refine lv_iinc (k := 1) hx hb d_SF_findSpaces_87 hl rfl (show _ + Int32.ofInt 1 = _ + 1 from rfl) (by decide) rfl (fun ls hl => ?_)
          refine lv_goto hx hb d_SF_findSpaces_90 rfl ?_
          exact ih (x3 + 1) _ _ _ _ _ (gv_loc hl [0, 2, 3] rfl) hw hF
        · skip
          have hF := hF.trans (if_neg h17)
          refine lv_aload_n hx hb d_SF_findSpaces_56 rfl (lv_at hl 2 rfl) ?_
          refine gf_SF_tree hx hb T hown hK hw rfl (kf_SF_9 T) d_SF_findSpaces_57 ?_
          refine lv_aload_n hx hb d_SF_findSpaces_60 rfl (lv_at hl 3 rfl) ?_
          refine lv_aload hx hb d_SF_findSpaces_61 (lv_at hl 0 rfl) ?_
          refine gf_Nm_start hx hb T hown hK hw (i := (6 * k1 + x3.toNatClampNeg)) n15 rfl (kf_SF_21 T) d_SF_findSpaces_63 ?_
          refine lv_aload hx hb d_SF_findSpaces_66 (lv_at hl 0 rfl) ?_
          refine gy_V B hl.1 hw (t_Nm_prefixEnd G _ _ ow fu (6 * k1 + x3.toNatClampNeg) n15 (nn hno hF)) (kd_Nm_prefixEnd T) (ki_Nm T) (km_SF_27 T) (ka_Nm_prefixEnd T) (ks_Nm_prefixEnd T) ⟨by decide, by decide, by rfl⟩ (rv_Nm hK hw (i := (6 * k1 + x3.toNatClampNeg)) n15 rfl) rfl (Nat.le_of_ble_eq_true rfl) ⟨by decide, by decide⟩ ⟨by decide, by decide⟩ d_SF_findSpaces_68 (fun v M18 r18 H locs hw hp => ?_) (fun x ek M18 r18 H locs hw hE hp => gr_t B hexc hw hE (by decide) (by decide) (hF.trans (bnd_ex hp)))
          obtain ⟨v18, rfl, hp⟩ := hp
          have hF := hF.trans (bnd_ok hp)
          refine gy_V B hl.1 hw (t_Tr_declarationFor G _ _ ow fu k1 (M16 20 (6 * k1 + x3.toNatClampNeg)) v18 b1 (nn hno hF)) (kd_Tr_declarationFor T) (ki_Tr T) (km_SF_31 T) (ka_Tr_declarationFor T) (ks_Tr_declarationFor T) ⟨by decide, by decide, by rfl⟩ (rv_Tr hK hw rfl) rfl (Nat.le_of_ble_eq_true rfl) ⟨by decide, by decide⟩ ⟨by decide, by decide⟩ d_SF_findSpaces_71 (fun v M19 r19 H locs hw hp => ?_) (fun x ek M19 r19 H locs hw hE hp => gr_t B hexc hw hE (by decide) (by decide) (hF.trans (bnd_ex hp)))
          obtain ⟨v19, rfl, hp⟩ := hp
          have hF := hF.trans (bnd_ok hp)
          rcases hq20 : v19 with _ | k_20
          · skip
            have hF := hF.trans (gcs_none hq20)
            refine lv_goto hx hb d_SF_findSpaces_74 rfl ?_
            refine pf_Nm_space (y := none) hx hb T hown hK hw (i := (6 * k1 + x3.toNatClampNeg)) n15 rfl (kf_SF_37 T) d_SF_findSpaces_84 (fun H locs hw => ?_)
            refine lv_iinc (k := 1) hx hb d_SF_findSpaces_87 hl rfl (show _ + Int32.ofInt 1 = _ + 1 from rfl) (by decide) rfl (fun ls hl => ?_)
            refine lv_goto hx hb d_SF_findSpaces_90 rfl ?_
            exact ih (x3 + 1) _ _ _ _ _ (gv_loc hl [0, 2, 3] rfl) hw hF
          · skip
            have hF := hF.trans (gcs_some hq20)
            have b_20 := ng hno hF
            have hF := hF.trans (gd_yes b_20)
            refine lv_goto hx hb d_SF_findSpaces_74 rfl ?_
            refine pf_Nm_space (y := (some k_20)) hx hb T hown hK hw (i := (6 * k1 + x3.toNatClampNeg)) n15 rfl (kf_SF_37 T) d_SF_findSpaces_84 (fun H locs hw => ?_)
            refine lv_iinc (k := 1) hx hb d_SF_findSpaces_87 hl rfl (show _ + Int32.ofInt 1 = _ + 1 from rfl) (by decide) rfl (fun ls hl => ?_)
            refine lv_goto hx hb d_SF_findSpaces_90 rfl ?_
            exact ih (x3 + 1) _ _ _ _ _ (gv_loc hl [0, 2, 3] rfl) hw hF
  have hF := F_SF_findSpaces.eq_1 fu k1 M r
  refine lv_aload_n hx hb d_SF_findSpaces_0 rfl (lv_at hl 1 rfl) ?_
  refine gf_El_name hx hb T hown hK hw (i := k1) b1 rfl (kf_SF_15 T) d_SF_findSpaces_1 ?_
  have n21 : 145 + k1 < 170 := by have := b1; omega
  refine lv_astore_n hx hb d_SF_findSpaces_4 rfl hl (by decide) rfl (fun ls hl => ?_)
  refine lv_aload_n hx hb d_SF_findSpaces_5 rfl (lv_at hl 0 rfl) ?_
  refine lv_aload_n hx hb d_SF_findSpaces_6 rfl (lv_at hl 1 rfl) ?_
  refine gf_SF_tree hx hb T hown hK hw rfl (kf_SF_9 T) d_SF_findSpaces_7 ?_
  refine lv_aload_n hx hb d_SF_findSpaces_10 rfl (lv_at hl 2 rfl) ?_
  refine lv_aload_n hx hb d_SF_findSpaces_11 rfl (lv_at hl 0 rfl) ?_
  refine gf_Nm_start hx hb T hown hK hw (i := (145 + k1)) n21 rfl (kf_SF_21 T) d_SF_findSpaces_12 ?_
  refine lv_aload_n hx hb d_SF_findSpaces_15 rfl (lv_at hl 0 rfl) ?_
  refine gy_V B hl.1 hw (t_Nm_prefixEnd G _ _ ow fu (145 + k1) n21 (nn hno hF)) (kd_Nm_prefixEnd T) (ki_Nm T) (km_SF_27 T) (ka_Nm_prefixEnd T) (ks_Nm_prefixEnd T) ⟨by decide, by decide, by rfl⟩ (rv_Nm hK hw (i := (145 + k1)) n21 rfl) rfl (Nat.le_of_ble_eq_true rfl) ⟨by decide, by decide⟩ ⟨by decide, by decide⟩ d_SF_findSpaces_16 (fun v M22 r22 H locs hw hp => ?_) (fun x ek M22 r22 H locs hw hE hp => gr_t B hexc hw hE (by decide) (by decide) (hF.trans (bnd_ex hp)))
  obtain ⟨v22, rfl, hp⟩ := hp
  have hF := hF.trans (bnd_ok hp)
  refine gy_V B hl.1 hw (t_Tr_declarationFor G _ _ ow fu k1 (M 20 (145 + k1)) v22 b1 (nn hno hF)) (kd_Tr_declarationFor T) (ki_Tr T) (km_SF_31 T) (ka_Tr_declarationFor T) (ks_Tr_declarationFor T) ⟨by decide, by decide, by rfl⟩ (rv_Tr hK hw rfl) rfl (Nat.le_of_ble_eq_true rfl) ⟨by decide, by decide⟩ ⟨by decide, by decide⟩ d_SF_findSpaces_19 (fun v M23 r23 H locs hw hp => ?_) (fun x ek M23 r23 H locs hw hE hp => gr_t B hexc hw hE (by decide) (by decide) (hF.trans (bnd_ex hp)))
  obtain ⟨v23, rfl, hp⟩ := hp
  have hF := hF.trans (bnd_ok hp)
  rcases hq24 : v23 with _ | k_24
  · skip
    have hF := hF.trans (gcs_none hq24)
    refine pf_Nm_space (y := none) hx hb T hown hK hw (i := (145 + k1)) n21 rfl (kf_SF_37 T) d_SF_findSpaces_22 (fun H locs hw => ?_)
    refine lv_iconst (v := 0) hx hb d_SF_findSpaces_25 (by decide) ?_
    refine lv_istore_n hx hb d_SF_findSpaces_26 rfl hl (by decide) rfl (fun ls hl => ?_)
    exact L27 fu 0 _ _ _ _ _ (gv_loc hl [0, 2, 3] rfl) hw hF
  · skip
    have hF := hF.trans (gcs_some hq24)
    have b_24 := ng hno hF
    have hF := hF.trans (gd_yes b_24)
    refine pf_Nm_space (y := (some k_24)) hx hb T hown hK hw (i := (145 + k1)) n21 rfl (kf_SF_37 T) d_SF_findSpaces_22 (fun H locs hw => ?_)
    refine lv_iconst (v := 0) hx hb d_SF_findSpaces_25 (by decide) ?_
    refine lv_istore_n hx hb d_SF_findSpaces_26 rfl hl (by decide) rfl (fun ls hl => ?_)
    exact L27 fu 0 _ _ _ _ _ (gv_loc hl [0, 2, 3] rfl) hw hF
