/-! the class's own calls, but read -/
theorem d_MR_type_0 : decode b_MR_type 0 = .ok (.iload_n 1, 1) := by decide +kernel
theorem d_MR_type_1 : decode b_MR_type 1 = .ok (.invokestatic 46, 3) := by decide +kernel
theorem d_MR_type_4 : decode b_MR_type 4 = .ok (.ifCond .ne 13, 3) := by decide +kernel
theorem d_MR_type_7 : decode b_MR_type 7 = .ok (.new 50, 3) := by decide +kernel
theorem d_MR_type_10 : decode b_MR_type 10 = .ok (.dup, 1) := by decide +kernel
theorem d_MR_type_11 : decode b_MR_type 11 = .ok (.ldc 52, 2) := by decide +kernel
theorem d_MR_type_13 : decode b_MR_type 13 = .ok (.invokespecial 54, 3) := by decide +kernel
theorem d_MR_type_16 : decode b_MR_type 16 = .ok (.athrow, 1) := by decide +kernel
theorem d_MR_type_17 : decode b_MR_type 17 = .ok (.aload_n 0, 1) := by decide +kernel
theorem d_MR_type_18 : decode b_MR_type 18 = .ok (.getfield 14, 3) := by decide +kernel
theorem d_MR_type_21 : decode b_MR_type 21 = .ok (.getfield 57, 3) := by decide +kernel
theorem d_MR_type_24 : decode b_MR_type 24 = .ok (.sipush 240, 3) := by decide +kernel
theorem d_MR_type_27 : decode b_MR_type 27 = .ok (.if_icmp .lt 13, 3) := by decide +kernel
theorem d_MR_type_30 : decode b_MR_type 30 = .ok (.new 61, 3) := by decide +kernel
theorem d_MR_type_33 : decode b_MR_type 33 = .ok (.dup, 1) := by decide +kernel
theorem d_MR_type_34 : decode b_MR_type 34 = .ok (.ldc 63, 2) := by decide +kernel
theorem d_MR_type_36 : decode b_MR_type 36 = .ok (.invokespecial 65, 3) := by decide +kernel
theorem d_MR_type_39 : decode b_MR_type 39 = .ok (.athrow, 1) := by decide +kernel
theorem d_MR_type_40 : decode b_MR_type 40 = .ok (.aload_n 0, 1) := by decide +kernel
theorem d_MR_type_41 : decode b_MR_type 41 = .ok (.getfield 14, 3) := by decide +kernel
theorem d_MR_type_44 : decode b_MR_type 44 = .ok (.iload_n 1, 1) := by decide +kernel
theorem d_MR_type_45 : decode b_MR_type 45 = .ok (.invokevirtual 66, 3) := by decide +kernel
theorem d_MR_type_48 : decode b_MR_type 48 = .ok (.aload_n 0, 1) := by decide +kernel
theorem d_MR_type_49 : decode b_MR_type 49 = .ok (.getfield 14, 3) := by decide +kernel
theorem d_MR_type_52 : decode b_MR_type 52 = .ok (.getfield 57, 3) := by decide +kernel
theorem d_MR_type_55 : decode b_MR_type 55 = .ok (.ireturn, 1) := by decide +kernel
theorem d_MR_wipe_0 : decode b_MR_wipe 0 = .ok (.aload_n 0, 1) := by decide +kernel
theorem d_MR_wipe_1 : decode b_MR_wipe 1 = .ok (.getfield 14, 3) := by decide +kernel
theorem d_MR_wipe_4 : decode b_MR_wipe 4 = .ok (.iconst 0, 1) := by decide +kernel
theorem d_MR_wipe_5 : decode b_MR_wipe 5 = .ok (.putfield 57, 3) := by decide +kernel
theorem d_MR_wipe_8 : decode b_MR_wipe 8 = .ok (.return_, 1) := by decide +kernel
theorem d_MR_reason_0 : decode b_MR_reason 0 = .ok (.aload_n 0, 1) := by decide +kernel
theorem d_MR_reason_1 : decode b_MR_reason 1 = .ok (.getfield 42, 3) := by decide +kernel
theorem d_MR_reason_4 : decode b_MR_reason 4 = .ok (.getfield 75, 3) := by decide +kernel
theorem d_MR_reason_7 : decode b_MR_reason 7 = .ok (.ireturn, 1) := by decide +kernel
theorem d_MR_place_0 : decode b_MR_place 0 = .ok (.aload_n 0, 1) := by decide +kernel
theorem d_MR_place_1 : decode b_MR_place 1 = .ok (.getfield 42, 3) := by decide +kernel
theorem d_MR_place_4 : decode b_MR_place 4 = .ok (.getfield 78, 3) := by decide +kernel
theorem d_MR_place_7 : decode b_MR_place 7 = .ok (.ireturn, 1) := by decide +kernel
theorem d_MR_form_0 : decode b_MR_form 0 = .ok (.aload_n 0, 1) := by decide +kernel
theorem d_MR_form_1 : decode b_MR_form 1 = .ok (.getfield 33, 3) := by decide +kernel
theorem d_MR_form_4 : decode b_MR_form 4 = .ok (.getfield 165, 3) := by decide +kernel
theorem d_MR_form_7 : decode b_MR_form 7 = .ok (.getfield 57, 3) := by decide +kernel
theorem d_MR_form_10 : decode b_MR_form 10 = .ok (.ireturn, 1) := by decide +kernel
theorem d_MR_formAt_0 : decode b_MR_formAt 0 = .ok (.iload_n 1, 1) := by decide +kernel
theorem d_MR_formAt_1 : decode b_MR_formAt 1 = .ok (.ifCond .lt 17, 3) := by decide +kernel
theorem d_MR_formAt_4 : decode b_MR_formAt 4 = .ok (.iload_n 1, 1) := by decide +kernel
theorem d_MR_formAt_5 : decode b_MR_formAt 5 = .ok (.aload_n 0, 1) := by decide +kernel
theorem d_MR_formAt_6 : decode b_MR_formAt 6 = .ok (.getfield 33, 3) := by decide +kernel
theorem d_MR_formAt_9 : decode b_MR_formAt 9 = .ok (.getfield 165, 3) := by decide +kernel
theorem d_MR_formAt_12 : decode b_MR_formAt 12 = .ok (.getfield 57, 3) := by decide +kernel
theorem d_MR_formAt_15 : decode b_MR_formAt 15 = .ok (.if_icmp .lt 13, 3) := by decide +kernel
theorem d_MR_formAt_18 : decode b_MR_formAt 18 = .ok (.new 85, 3) := by decide +kernel
theorem d_MR_formAt_21 : decode b_MR_formAt 21 = .ok (.dup, 1) := by decide +kernel
theorem d_MR_formAt_22 : decode b_MR_formAt 22 = .ok (.ldc 168, 2) := by decide +kernel
theorem d_MR_formAt_24 : decode b_MR_formAt 24 = .ok (.invokespecial 89, 3) := by decide +kernel
theorem d_MR_formAt_27 : decode b_MR_formAt 27 = .ok (.athrow, 1) := by decide +kernel
theorem d_MR_formAt_28 : decode b_MR_formAt 28 = .ok (.aload_n 0, 1) := by decide +kernel
theorem d_MR_formAt_29 : decode b_MR_formAt 29 = .ok (.getfield 33, 3) := by decide +kernel
theorem d_MR_formAt_32 : decode b_MR_formAt 32 = .ok (.getfield 165, 3) := by decide +kernel
theorem d_MR_formAt_35 : decode b_MR_formAt 35 = .ok (.iload_n 1, 1) := by decide +kernel
theorem d_MR_formAt_36 : decode b_MR_formAt 36 = .ok (.invokevirtual 144, 3) := by decide +kernel
theorem d_MR_formAt_39 : decode b_MR_formAt 39 = .ok (.ireturn, 1) := by decide +kernel
set_option maxHeartbeats 4000000 in
set_option maxRecDepth 100000 in
theorem c_MR_type {l : Launch} {s0 : State} {D : va_G} {aC : Nat → ClassId} {a0 : Array Value} (G : gG l s0 D aC a0) (M : gMem) (r : gRef) (ow : Int64) (n : Nat) (hn : n ≤ 240) (hs : M 0 0 = nI n) (x : Int32) (hc : cOK x) : gMet l s0 D aC y_MR_type (Cond.code y_MR_type b_MR_type 2 (some .int)) 6 90 1 6 [.ref (s0.heap.size + 0), .int x] M r ow (fun v M1 r1 => cIs x ≠ 0 ∧ n < 240 ∧ v = some (.int (nI (n + 1))) ∧ M1 = mS (mS M 10 n x) 0 0 (nI (n + 1)) ∧ r1 = r) (fun ek M1 r1 => ((ek = 0 ∧ cIs x = 0) ∨ (ek = 1 ∧ cIs x ≠ 0 ∧ n = 240)) ∧ M1 = M ∧ r1 = r) := by
  refine gm_of G (by decide) (Nat.le_of_ble_eq_true rfl) ?_
  intro p e s m below meth c ls B hexc hl hw
  have hx := B.1
  have hb := B.2.1
  have hown := B.2.2.2.2.2.1
  have T := B.2.2.2.2.2.2.1
  have hK := B.2.2.2.2.2.2.2.1
  refine lv_iload_n hx hb d_MR_type_0 rfl (lv_at hl 1 rfl) ?_
  refine gy_S (As := [.int x]) B hl.1 hw (c_MR_isCharacter G M r ow x) (kd_MR_isCharacter T) (ki_MR T) (km_MR_46 T) (kt_MR_isCharacter T) ⟨by decide, by decide, by rfl⟩ rfl (Nat.le_of_ble_eq_true rfl) ⟨by decide, by decide⟩ ⟨by decide, by decide⟩ d_MR_type_1 (fun v M1 r1 H locs hw hp => ?_) (fun x ek M1 r1 H locs hw hE hp => hp.elim)
  obtain ⟨rfl, hM1, hr1⟩ := hp
  rw [hM1, hr1] at hw
  clear hM1 hr1
  refine lv_if_ne hx hb d_MR_type_4 rfl (fun h4 => ?_) (fun h4 => ?_)
  · skip
    refine lv_aload_n hx hb d_MR_type_17 rfl (lv_at hl 0 rfl) ?_
    refine gf_MR_typed hx hb T hown hK hw rfl (kf_MR_14 T) d_MR_type_18 ?_
    refine gf_Row_size hx hb T hown hK hw (i := 0) (by decide) rfl (kf_MR_57 T) d_MR_type_21 ?_
    refine lv_sipush (v := 240) hx hb d_MR_type_24 (by decide) ?_
    refine lv_icmp_lt hx hb d_MR_type_27 rfl (fun h27 => ?_) (fun h27 => ?_)
    · skip
      have hlt : n < 240 := by rw [hs] at h27; exact (nI_ltI (by omega) (by decide)).mp h27
      refine lv_aload_n hx hb d_MR_type_40 rfl (lv_at hl 0 rfl) ?_
      refine gf_MR_typed hx hb T hown hK hw rfl (kf_MR_14 T) d_MR_type_41 ?_
      refine lv_iload_n hx hb d_MR_type_44 rfl (lv_at hl 1 rfl) ?_
      refine gy_V (As := [.int x]) B hl.1 hw (c_Row_put G M r ow 0 (by decide) n hn hs x hc) (kd_Row_put T) (ki_Row T) (km_MR_66 T) (ka_Row_put T) (ks_Row_put T) ⟨by decide, by decide, by rfl⟩ (rv_Row hK hw (i := 0) (by decide) rfl) rfl (Nat.le_of_ble_eq_true rfl) ⟨by decide, by decide⟩ ⟨by decide, by decide⟩ d_MR_type_45 (fun v M1 r1 H locs hw hp => ?_) (fun x ek M1 r1 H locs hw hE hp => hp.elim)
      obtain ⟨rfl, hM1, hr1⟩ := hp
      rw [hM1, hr1] at hw
      clear hM1 hr1
      rw [show mPut M 0 n x = mS (mS M (10 + 0) n x) 0 0 (nI (n + 1)) from if_pos hlt] at hw
      refine lv_aload_n hx hb d_MR_type_48 rfl (lv_at hl 0 rfl) ?_
      refine gf_MR_typed hx hb T hown hK hw rfl (kf_MR_14 T) d_MR_type_49 ?_
      refine gf_Row_size hx hb T hown hK hw (i := 0) (by decide) rfl (kf_MR_57 T) d_MR_type_52 ?_
      exact gr_i B hw d_MR_type_55 ⟨h4, hlt, by rw [mS_same], rfl, rfl⟩
    · skip
      have hge : n = 240 := by
        rw [hs] at h27
        have : ¬ n < 240 := fun q => h27 ((nI_ltI (by omega) (by decide)).mpr q)
        omega
      exact gx_IS B G.2.1 hexc hl.1 hw (kc_MR_61 T) (km_MR_65 T) (sx_MR_63 G.2.1) d_MR_type_30 d_MR_type_33 d_MR_type_34 d_MR_type_36 d_MR_type_39 (by decide) (by decide) (by decide) (Nat.le_of_ble_eq_true rfl) ⟨Or.inr ⟨rfl, h4, hge⟩, rfl, rfl⟩
  · skip
    exact gx_IA B G.2.1 hexc hl.1 hw (kc_MR_50 T) (km_MR_54 T) (sx_MR_52 G.2.1) d_MR_type_7 d_MR_type_10 d_MR_type_11 d_MR_type_13 d_MR_type_16 (by decide) (by decide) (by decide) (Nat.le_of_ble_eq_true rfl) ⟨Or.inl ⟨rfl, by simp_all⟩, rfl, rfl⟩
set_option maxHeartbeats 4000000 in
set_option maxRecDepth 100000 in
theorem c_MR_wipe {l : Launch} {s0 : State} {D : va_G} {aC : Nat → ClassId} {a0 : Array Value} (G : gG l s0 D aC a0) (M : gMem) (r : gRef) (ow : Int64)  : gMet l s0 D aC y_MR_wipe (Cond.code y_MR_wipe b_MR_wipe 1 none) 0 0 0 0 [.ref (s0.heap.size + 0)] M r ow (fun v M1 r1 => v = none ∧ M1 = mS M 0 0 0 ∧ r1 = r) (fun _ _ _ => False) := by
  refine gm_of G (by decide) (Nat.le_of_ble_eq_true rfl) ?_
  intro p e s m below meth c ls B hexc hl hw
  have hx := B.1
  have hb := B.2.1
  have hown := B.2.2.2.2.2.1
  have T := B.2.2.2.2.2.2.1
  have hK := B.2.2.2.2.2.2.2.1
  refine lv_aload_n hx hb d_MR_wipe_0 rfl (lv_at hl 0 rfl) ?_
  refine gf_MR_typed hx hb T hown hK hw rfl (kf_MR_14 T) d_MR_wipe_1 ?_
  refine lv_iconst (v := 0) hx hb d_MR_wipe_4 (by decide) ?_
  refine pf_Row_size hx hb T hown hK hw (i := 0) (by decide) rfl (kf_MR_57 T) d_MR_wipe_5 (fun H locs hw => ?_)
  exact gr_v B hw d_MR_wipe_8 ⟨rfl, rfl, rfl⟩
set_option maxHeartbeats 4000000 in
set_option maxRecDepth 100000 in
theorem c_MR_reason {l : Launch} {s0 : State} {D : va_G} {aC : Nat → ClassId} {a0 : Array Value} (G : gG l s0 D aC a0) (M : gMem) (r : gRef) (ow : Int64)  : gMet l s0 D aC y_MR_reason (Cond.code y_MR_reason b_MR_reason 1 (some .int)) 0 0 0 0 [.ref (s0.heap.size + 0)] M r ow (fun v M1 r1 => v = some (.int (M 36 0)) ∧ M1 = M ∧ r1 = r) (fun _ _ _ => False) := by
  refine gm_of G (by decide) (Nat.le_of_ble_eq_true rfl) ?_
  intro p e s m below meth c ls B hexc hl hw
  have hx := B.1
  have hb := B.2.1
  have hown := B.2.2.2.2.2.1
  have T := B.2.2.2.2.2.2.1
  have hK := B.2.2.2.2.2.2.2.1
  refine lv_aload_n hx hb d_MR_reason_0 rfl (lv_at hl 0 rfl) ?_
  refine gf_MR_reading hx hb T hown hK hw rfl (kf_MR_42 T) d_MR_reason_1 ?_
  refine gf_Rd_wrongReason hx hb T hown hK hw rfl (kf_MR_75 T) d_MR_reason_4 ?_
  exact gr_i B hw d_MR_reason_7 ⟨rfl, rfl, rfl⟩
set_option maxHeartbeats 4000000 in
set_option maxRecDepth 100000 in
theorem c_MR_place {l : Launch} {s0 : State} {D : va_G} {aC : Nat → ClassId} {a0 : Array Value} (G : gG l s0 D aC a0) (M : gMem) (r : gRef) (ow : Int64)  : gMet l s0 D aC y_MR_place (Cond.code y_MR_place b_MR_place 1 (some .int)) 0 0 0 0 [.ref (s0.heap.size + 0)] M r ow (fun v M1 r1 => v = some (.int (M 37 0)) ∧ M1 = M ∧ r1 = r) (fun _ _ _ => False) := by
  refine gm_of G (by decide) (Nat.le_of_ble_eq_true rfl) ?_
  intro p e s m below meth c ls B hexc hl hw
  have hx := B.1
  have hb := B.2.1
  have hown := B.2.2.2.2.2.1
  have T := B.2.2.2.2.2.2.1
  have hK := B.2.2.2.2.2.2.2.1
  refine lv_aload_n hx hb d_MR_place_0 rfl (lv_at hl 0 rfl) ?_
  refine gf_MR_reading hx hb T hown hK hw rfl (kf_MR_42 T) d_MR_place_1 ?_
  refine gf_Rd_wrongPlace hx hb T hown hK hw rfl (kf_MR_78 T) d_MR_place_4 ?_
  exact gr_i B hw d_MR_place_7 ⟨rfl, rfl, rfl⟩
set_option maxHeartbeats 4000000 in
set_option maxRecDepth 100000 in
theorem c_MR_form {l : Launch} {s0 : State} {D : va_G} {aC : Nat → ClassId} {a0 : Array Value} (G : gG l s0 D aC a0) (M : gMem) (r : gRef) (ow : Int64)  : gMet l s0 D aC y_MR_form (Cond.code y_MR_form b_MR_form 1 (some .int)) 0 0 0 0 [.ref (s0.heap.size + 0)] M r ow (fun v M1 r1 => v = some (.int (M 0 5)) ∧ M1 = M ∧ r1 = r) (fun _ _ _ => False) := by
  refine gm_of G (by decide) (Nat.le_of_ble_eq_true rfl) ?_
  intro p e s m below meth c ls B hexc hl hw
  have hx := B.1
  have hb := B.2.1
  have hown := B.2.2.2.2.2.1
  have T := B.2.2.2.2.2.2.1
  have hK := B.2.2.2.2.2.2.2.1
  refine lv_aload_n hx hb d_MR_form_0 rfl (lv_at hl 0 rfl) ?_
  refine gf_MR_writer hx hb T hown hK hw rfl (kf_MR_33 T) d_MR_form_1 ?_
  refine gf_FW_form hx hb T hown hK hw rfl (kf_MR_165 T) d_MR_form_4 ?_
  refine gf_Row_size hx hb T hown hK hw (i := 5) (by decide) rfl (kf_MR_57 T) d_MR_form_7 ?_
  exact gr_i B hw d_MR_form_10 ⟨rfl, rfl, rfl⟩
set_option maxHeartbeats 4000000 in
set_option maxRecDepth 100000 in
theorem c_MR_formAt {l : Launch} {s0 : State} {D : va_G} {aC : Nat → ClassId} {a0 : Array Value} (G : gG l s0 D aC a0) (M : gMem) (r : gRef) (ow : Int64) (n : Nat) (hn : n ≤ 1440) (hs : M 0 5 = nI n) (hc : ∀ j, cOK (M 15 j)) (x : Int32) : gMet l s0 D aC y_MR_formAt (Cond.code y_MR_formAt b_MR_formAt 2 (some .char)) 6 90 1 6 [.ref (s0.heap.size + 0), .int x] M r ow (fun v M1 r1 => ¬ x < 0 ∧ x < nI n ∧ v = some (.int (M 15 x.toNatClampNeg)) ∧ M1 = M ∧ r1 = r) (fun ek M1 r1 => ek = 2 ∧ (x < 0 ∨ ¬ x < nI n) ∧ M1 = M ∧ r1 = r) := by
  refine gm_of G (by decide) (Nat.le_of_ble_eq_true rfl) ?_
  intro p e s m below meth c ls B hexc hl hw
  have hx := B.1
  have hb := B.2.1
  have hown := B.2.2.2.2.2.1
  have T := B.2.2.2.2.2.2.1
  have hK := B.2.2.2.2.2.2.2.1
  refine lv_iload_n hx hb d_MR_formAt_0 rfl (lv_at hl 1 rfl) ?_
  refine lv_if_lt hx hb d_MR_formAt_1 rfl (fun h1 => ?_) (fun h1 => ?_)
  · skip
    exact gx_IO B G.2.1 hexc hl.1 hw (kc_MR_85 T) (km_MR_89 T) (sx_MR_168 G.2.1) d_MR_formAt_18 d_MR_formAt_21 d_MR_formAt_22 d_MR_formAt_24 d_MR_formAt_27 (by decide) (by decide) (by decide) (Nat.le_of_ble_eq_true rfl) ⟨rfl, by first | exact Or.inl h1 | exact Or.inr h15, rfl, rfl⟩
  · skip
    refine lv_iload_n hx hb d_MR_formAt_4 rfl (lv_at hl 1 rfl) ?_
    refine lv_aload_n hx hb d_MR_formAt_5 rfl (lv_at hl 0 rfl) ?_
    refine gf_MR_writer hx hb T hown hK hw rfl (kf_MR_33 T) d_MR_formAt_6 ?_
    refine gf_FW_form hx hb T hown hK hw rfl (kf_MR_165 T) d_MR_formAt_9 ?_
    refine gf_Row_size hx hb T hown hK hw (i := 5) (by decide) rfl (kf_MR_57 T) d_MR_formAt_12 ?_
    refine lv_icmp_lt hx hb d_MR_formAt_15 rfl (fun h15 => ?_) (fun h15 => ?_)
    · skip
      rw [hs] at h15
      refine lv_aload_n hx hb d_MR_formAt_28 rfl (lv_at hl 0 rfl) ?_
      refine gf_MR_writer hx hb T hown hK hw rfl (kf_MR_33 T) d_MR_formAt_29 ?_
      refine gf_FW_form hx hb T hown hK hw rfl (kf_MR_165 T) d_MR_formAt_32 ?_
      refine lv_iload_n hx hb d_MR_formAt_35 rfl (lv_at hl 1 rfl) ?_
      refine gy_V (As := [.int x]) B hl.1 hw (c_Row_at G M r ow 5 (by decide) n hn hs hc x) (kd_Row_at T) (ki_Row T) (km_MR_144 T) (ka_Row_at T) (ks_Row_at T) ⟨by decide, by decide, by rfl⟩ (rv_Row hK hw (i := 5) (by decide) rfl) rfl (Nat.le_of_ble_eq_true rfl) ⟨by decide, by decide⟩ ⟨by decide, by decide⟩ d_MR_formAt_36 (fun v M1 r1 H locs hw hp => ?_) (fun x ek M1 r1 H locs hw hE hp => hp.elim)
      obtain ⟨rfl, hM1, hr1⟩ := hp
      rw [hM1, hr1] at hw
      clear hM1 hr1
      exact gr_z B hw (by have h9 : cAt M 5 x = M 15 x.toNatClampNeg := (if_neg h1).trans (if_neg (by rw [hs]; exact Int32.not_le.mpr h15)); rw [h9]; exact (hc _).nar) d_MR_formAt_39 ⟨h1, h15, by rw [show cAt M 5 x = M 15 x.toNatClampNeg from (if_neg h1).trans (if_neg (by rw [hs]; exact Int32.not_le.mpr h15))], rfl, rfl⟩
    · skip
      rw [hs] at h15
      exact gx_IO B G.2.1 hexc hl.1 hw (kc_MR_85 T) (km_MR_89 T) (sx_MR_168 G.2.1) d_MR_formAt_18 d_MR_formAt_21 d_MR_formAt_22 d_MR_formAt_24 d_MR_formAt_27 (by decide) (by decide) (by decide) (Nat.le_of_ble_eq_true rfl) ⟨rfl, by first | exact Or.inl h1 | exact Or.inr h15, rfl, rfl⟩
