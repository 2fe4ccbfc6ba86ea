theorem d_La_type_0 : decode b_La_type 0 = .ok (.aload_n 2, 1) := by decide +kernel
theorem d_La_type_1 : decode b_La_type 1 = .ok (.iconst 0, 1) := by decide +kernel
theorem d_La_type_2 : decode b_La_type 2 = .ok (.aload_n 0, 1) := by decide +kernel
theorem d_La_type_3 : decode b_La_type 3 = .ok (.iload_n 1, 1) := by decide +kernel
theorem d_La_type_4 : decode b_La_type 4 = .ok (.invokevirtual 7, 3) := by decide +kernel
theorem d_La_type_7 : decode b_La_type 7 = .ok (.i2l, 1) := by decide +kernel
theorem d_La_type_8 : decode b_La_type 8 = .ok (.lastore, 1) := by decide +kernel
theorem d_La_type_9 : decode b_La_type 9 = .ok (.goto 9, 3) := by decide +kernel
theorem d_La_type_12 : decode b_La_type 12 = .ok (.astore_n 3, 1) := by decide +kernel
theorem d_La_type_13 : decode b_La_type 13 = .ok (.iconst 1, 1) := by decide +kernel
theorem d_La_type_14 : decode b_La_type 14 = .ok (.ireturn, 1) := by decide +kernel
theorem d_La_type_15 : decode b_La_type 15 = .ok (.astore_n 3, 1) := by decide +kernel
theorem d_La_type_16 : decode b_La_type 16 = .ok (.iconst 2, 1) := by decide +kernel
theorem d_La_type_17 : decode b_La_type 17 = .ok (.ireturn, 1) := by decide +kernel
theorem d_La_type_18 : decode b_La_type 18 = .ok (.iconst 0, 1) := by decide +kernel
theorem d_La_type_19 : decode b_La_type 19 = .ok (.ireturn, 1) := by decide +kernel
theorem d_La_read_0 : decode b_La_read 0 = .ok (.aload_n 1, 1) := by decide +kernel
theorem d_La_read_1 : decode b_La_read 1 = .ok (.iconst 0, 1) := by decide +kernel
theorem d_La_read_2 : decode b_La_read 2 = .ok (.aload_n 0, 1) := by decide +kernel
theorem d_La_read_3 : decode b_La_read 3 = .ok (.invokevirtual 17, 3) := by decide +kernel
theorem d_La_read_6 : decode b_La_read 6 = .ok (.i2l, 1) := by decide +kernel
theorem d_La_read_7 : decode b_La_read 7 = .ok (.lastore, 1) := by decide +kernel
theorem d_La_read_8 : decode b_La_read 8 = .ok (.goto 6, 3) := by decide +kernel
theorem d_La_read_11 : decode b_La_read 11 = .ok (.astore_n 2, 1) := by decide +kernel
theorem d_La_read_12 : decode b_La_read 12 = .ok (.iconst 1, 1) := by decide +kernel
theorem d_La_read_13 : decode b_La_read 13 = .ok (.ireturn, 1) := by decide +kernel
theorem d_La_read_14 : decode b_La_read 14 = .ok (.iconst 0, 1) := by decide +kernel
theorem d_La_read_15 : decode b_La_read 15 = .ok (.ireturn, 1) := by decide +kernel
theorem d_La_element_0 : decode b_La_element 0 = .ok (.aload_n 3, 1) := by decide +kernel
theorem d_La_element_1 : decode b_La_element 1 = .ok (.iconst 0, 1) := by decide +kernel
theorem d_La_element_2 : decode b_La_element 2 = .ok (.aload_n 0, 1) := by decide +kernel
theorem d_La_element_3 : decode b_La_element 3 = .ok (.iload_n 1, 1) := by decide +kernel
theorem d_La_element_4 : decode b_La_element 4 = .ok (.iload_n 2, 1) := by decide +kernel
theorem d_La_element_5 : decode b_La_element 5 = .ok (.invokevirtual 21, 3) := by decide +kernel
theorem d_La_element_8 : decode b_La_element 8 = .ok (.i2l, 1) := by decide +kernel
theorem d_La_element_9 : decode b_La_element 9 = .ok (.lastore, 1) := by decide +kernel
theorem d_La_element_10 : decode b_La_element 10 = .ok (.goto 11, 3) := by decide +kernel
theorem d_La_element_13 : decode b_La_element 13 = .ok (.astore 4, 2) := by decide +kernel
theorem d_La_element_15 : decode b_La_element 15 = .ok (.iconst 1, 1) := by decide +kernel
theorem d_La_element_16 : decode b_La_element 16 = .ok (.ireturn, 1) := by decide +kernel
theorem d_La_element_17 : decode b_La_element 17 = .ok (.astore 4, 2) := by decide +kernel
theorem d_La_element_19 : decode b_La_element 19 = .ok (.iconst 2, 1) := by decide +kernel
theorem d_La_element_20 : decode b_La_element 20 = .ok (.ireturn, 1) := by decide +kernel
theorem d_La_element_21 : decode b_La_element 21 = .ok (.iconst 0, 1) := by decide +kernel
theorem d_La_element_22 : decode b_La_element 22 = .ok (.ireturn, 1) := by decide +kernel
theorem d_La_name_0 : decode b_La_name 0 = .ok (.aload_n 3, 1) := by decide +kernel
theorem d_La_name_1 : decode b_La_name 1 = .ok (.iconst 0, 1) := by decide +kernel
theorem d_La_name_2 : decode b_La_name 2 = .ok (.aload_n 0, 1) := by decide +kernel
theorem d_La_name_3 : decode b_La_name 3 = .ok (.iload_n 1, 1) := by decide +kernel
theorem d_La_name_4 : decode b_La_name 4 = .ok (.iload_n 2, 1) := by decide +kernel
theorem d_La_name_5 : decode b_La_name 5 = .ok (.invokevirtual 27, 3) := by decide +kernel
theorem d_La_name_8 : decode b_La_name 8 = .ok (.i2l, 1) := by decide +kernel
theorem d_La_name_9 : decode b_La_name 9 = .ok (.lastore, 1) := by decide +kernel
theorem d_La_name_10 : decode b_La_name 10 = .ok (.goto 7, 3) := by decide +kernel
theorem d_La_name_13 : decode b_La_name 13 = .ok (.astore 4, 2) := by decide +kernel
theorem d_La_name_15 : decode b_La_name 15 = .ok (.iconst 1, 1) := by decide +kernel
theorem d_La_name_16 : decode b_La_name 16 = .ok (.ireturn, 1) := by decide +kernel
theorem d_La_name_17 : decode b_La_name 17 = .ok (.iconst 0, 1) := by decide +kernel
theorem d_La_name_18 : decode b_La_name 18 = .ok (.ireturn, 1) := by decide +kernel
theorem d_La_content_0 : decode b_La_content 0 = .ok (.aload_n 3, 1) := by decide +kernel
theorem d_La_content_1 : decode b_La_content 1 = .ok (.iconst 0, 1) := by decide +kernel
theorem d_La_content_2 : decode b_La_content 2 = .ok (.aload_n 0, 1) := by decide +kernel
theorem d_La_content_3 : decode b_La_content 3 = .ok (.iload_n 1, 1) := by decide +kernel
theorem d_La_content_4 : decode b_La_content 4 = .ok (.iload_n 2, 1) := by decide +kernel
theorem d_La_content_5 : decode b_La_content 5 = .ok (.invokevirtual 31, 3) := by decide +kernel
theorem d_La_content_8 : decode b_La_content 8 = .ok (.i2l, 1) := by decide +kernel
theorem d_La_content_9 : decode b_La_content 9 = .ok (.lastore, 1) := by decide +kernel
theorem d_La_content_10 : decode b_La_content 10 = .ok (.goto 7, 3) := by decide +kernel
theorem d_La_content_13 : decode b_La_content 13 = .ok (.astore 4, 2) := by decide +kernel
theorem d_La_content_15 : decode b_La_content 15 = .ok (.iconst 1, 1) := by decide +kernel
theorem d_La_content_16 : decode b_La_content 16 = .ok (.ireturn, 1) := by decide +kernel
theorem d_La_content_17 : decode b_La_content 17 = .ok (.iconst 0, 1) := by decide +kernel
theorem d_La_content_18 : decode b_La_content 18 = .ok (.ireturn, 1) := by decide +kernel
theorem d_La_space_0 : decode b_La_space 0 = .ok (.aload_n 3, 1) := by decide +kernel
theorem d_La_space_1 : decode b_La_space 1 = .ok (.iconst 0, 1) := by decide +kernel
theorem d_La_space_2 : decode b_La_space 2 = .ok (.aload_n 0, 1) := by decide +kernel
theorem d_La_space_3 : decode b_La_space 3 = .ok (.iload_n 1, 1) := by decide +kernel
theorem d_La_space_4 : decode b_La_space 4 = .ok (.iload_n 2, 1) := by decide +kernel
theorem d_La_space_5 : decode b_La_space 5 = .ok (.invokevirtual 34, 3) := by decide +kernel
theorem d_La_space_8 : decode b_La_space 8 = .ok (.i2l, 1) := by decide +kernel
theorem d_La_space_9 : decode b_La_space 9 = .ok (.lastore, 1) := by decide +kernel
theorem d_La_space_10 : decode b_La_space 10 = .ok (.goto 7, 3) := by decide +kernel
theorem d_La_space_13 : decode b_La_space 13 = .ok (.astore 4, 2) := by decide +kernel
theorem d_La_space_15 : decode b_La_space 15 = .ok (.iconst 1, 1) := by decide +kernel
theorem d_La_space_16 : decode b_La_space 16 = .ok (.ireturn, 1) := by decide +kernel
theorem d_La_space_17 : decode b_La_space 17 = .ok (.iconst 0, 1) := by decide +kernel
theorem d_La_space_18 : decode b_La_space 18 = .ok (.ireturn, 1) := by decide +kernel
theorem d_La_formAt_0 : decode b_La_formAt 0 = .ok (.aload_n 2, 1) := by decide +kernel
theorem d_La_formAt_1 : decode b_La_formAt 1 = .ok (.iconst 0, 1) := by decide +kernel
theorem d_La_formAt_2 : decode b_La_formAt 2 = .ok (.aload_n 0, 1) := by decide +kernel
theorem d_La_formAt_3 : decode b_La_formAt 3 = .ok (.iload_n 1, 1) := by decide +kernel
theorem d_La_formAt_4 : decode b_La_formAt 4 = .ok (.invokevirtual 37, 3) := by decide +kernel
theorem d_La_formAt_7 : decode b_La_formAt 7 = .ok (.i2l, 1) := by decide +kernel
theorem d_La_formAt_8 : decode b_La_formAt 8 = .ok (.lastore, 1) := by decide +kernel
theorem d_La_formAt_9 : decode b_La_formAt 9 = .ok (.goto 6, 3) := by decide +kernel
theorem d_La_formAt_12 : decode b_La_formAt 12 = .ok (.astore_n 3, 1) := by decide +kernel
theorem d_La_formAt_13 : decode b_La_formAt 13 = .ok (.iconst 1, 1) := by decide +kernel
theorem d_La_formAt_14 : decode b_La_formAt 14 = .ok (.ireturn, 1) := by decide +kernel
theorem d_La_formAt_15 : decode b_La_formAt 15 = .ok (.iconst 0, 1) := by decide +kernel
theorem d_La_formAt_16 : decode b_La_formAt 16 = .ok (.ireturn, 1) := by decide +kernel
theorem d_La_retype_0 : decode b_La_retype 0 = .ok (.aload_n 1, 1) := by decide +kernel
theorem d_La_retype_1 : decode b_La_retype 1 = .ok (.iconst 0, 1) := by decide +kernel
theorem d_La_retype_2 : decode b_La_retype 2 = .ok (.aload_n 0, 1) := by decide +kernel
theorem d_La_retype_3 : decode b_La_retype 3 = .ok (.invokevirtual 41, 3) := by decide +kernel
theorem d_La_retype_6 : decode b_La_retype 6 = .ok (.i2l, 1) := by decide +kernel
theorem d_La_retype_7 : decode b_La_retype 7 = .ok (.lastore, 1) := by decide +kernel
theorem d_La_retype_8 : decode b_La_retype 8 = .ok (.goto 6, 3) := by decide +kernel
theorem d_La_retype_11 : decode b_La_retype 11 = .ok (.astore_n 2, 1) := by decide +kernel
theorem d_La_retype_12 : decode b_La_retype 12 = .ok (.iconst 1, 1) := by decide +kernel
theorem d_La_retype_13 : decode b_La_retype 13 = .ok (.ireturn, 1) := by decide +kernel
theorem d_La_retype_14 : decode b_La_retype 14 = .ok (.iconst 0, 1) := by decide +kernel
theorem d_La_retype_15 : decode b_La_retype 15 = .ok (.ireturn, 1) := by decide +kernel
theorem d_La_keep_0 : decode b_La_keep 0 = .ok (.aload_n 0, 1) := by decide +kernel
theorem d_La_keep_1 : decode b_La_keep 1 = .ok (.invokevirtual 44, 3) := by decide +kernel
theorem d_La_keep_4 : decode b_La_keep 4 = .ok (.goto 6, 3) := by decide +kernel
theorem d_La_keep_7 : decode b_La_keep 7 = .ok (.astore_n 1, 1) := by decide +kernel
theorem d_La_keep_8 : decode b_La_keep 8 = .ok (.iconst 1, 1) := by decide +kernel
theorem d_La_keep_9 : decode b_La_keep 9 = .ok (.ireturn, 1) := by decide +kernel
theorem d_La_keep_10 : decode b_La_keep 10 = .ok (.iconst 0, 1) := by decide +kernel
theorem d_La_keep_11 : decode b_La_keep 11 = .ok (.ireturn, 1) := by decide +kernel
set_option maxHeartbeats 4000000 in
set_option maxRecDepth 100000 in
theorem c_La_type {l : Launch} {s0 : State} {D : va_G} {aC : Nat → ClassId} {a0 : Array Value} (G : gG l s0 D aC a0) (M : gMem) (r : gRef) (ow : Int64) (x : Int32) {fr lo : Nat} {pr : Option Value → gMem → gRef → Prop} {pt : Nat → gMem → gRef → Prop} (hR : fr + 1 ≤ 15 ∧ 8 + (2 + 11) + lo ≤ 580) (hM : gMet l s0 D aC y_MR_type (Cond.code y_MR_type b_MR_type 2 (some .int)) fr lo 1 6 [.ref (s0.heap.size + 0), .int x] M r ow pr pt) (hpr : ∀ v M1 r1, pr v M1 r1 → ∃ a, v = some (.int a)) (hpt : ∀ ek M1 r1, pt ek M1 r1 → ek = 0 ∨ ek = 1) : gLt l s0 D aC y_La_type (Cond.codeWith y_La_type b_La_type 4 (some .int) [(0, 9, 12, 13), (0, 9, 15, 15)]) 15 580 [.ref (s0.heap.size + 0), .int x, .ref (s0.heap.size + 401)] M r ow (fun v M1 r1 ow1 => (v = 0 ∧ ∃ a, pr (some (.int a)) M1 r1 ∧ ow1 = a.toInt64) ∨ (v = 1 ∧ ow1 = ow ∧ pt 0 M1 r1) ∨ (v = 2 ∧ ow1 = ow ∧ pt 1 M1 r1)) := by
  refine gl_of G (by decide) (Nat.le_of_ble_eq_true rfl) ?_
  intro p e s m below meth c ls B htab hl hw
  have hx := B.1
  have hb := B.2.1
  have hown := B.2.2.2.2.2.1
  have T := B.2.2.2.2.2.2.1
  have hK := B.2.2.2.2.2.2.2.1
  have hX : gX s0 s := ⟨B.2.2.2.2.2.2.2.2.1, fun q hq => hw.2.2.1 q hq (fun h => absurd hq (Nat.not_lt.mpr h))⟩
  have htab := gh_tab2 htab
  refine lv_aload_n hx hb d_La_type_0 rfl (lv_at hl 2 rfl) ?_
  refine lv_iconst (v := 0) hx hb d_La_type_1 (by decide) ?_
  refine lv_aload_n hx hb d_La_type_2 rfl (lv_at hl 0 rfl) ?_
  refine lv_iload_n hx hb d_La_type_3 rfl (lv_at hl 1 rfl) ?_
  refine gy_V (As := [.int x]) B hl.1 hw hM (kd_MR_type T) (ki_MR T) (km_La_7 T) (ka_MR_type T) (ks_MR_type T) ⟨by decide, by decide, by rfl⟩ (rv_MR hK hw rfl) rfl (Nat.le_of_ble_eq_true rfl) hR ⟨by decide, by decide⟩ d_La_type_4 (fun v M1 r1 H locs hw hp => ?_) (fun x9 ek M1 r1 H locs hw hE hp => ?_)
  · skip
    obtain ⟨av9, rfl⟩ := hpr _ _ _ hp
    refine lv_i2l hx hb d_La_type_7 rfl ?_
    refine gs_out (x := 0) hx hb hK hw rfl (gi_in0 (n := 0) (by decide) (by decide)) d_La_type_8 (fun H locs hw => ?_)
    refine lv_goto hx hb d_La_type_9 rfl ?_
    refine lv_iconst (v := 0) hx hb d_La_type_18 (by decide) ?_
    exact gl_ret B hw (by decide) (by decide) d_La_type_19 (Or.inl ⟨rfl, av9, hp, rfl⟩)
  · skip
    have hek := hpt _ _ _ hp
    obtain ⟨ce, hc1, hc2, hc3⟩ := gh_find B hE
    rcases hek with rfl | rfl
    · skip
      refine gh_catch1 (own := R_La) (nm := R_IA) (cT := ce.cls) htab (by decide) (by decide) hown (kc_La_13 T) hc3 hc1 hc2 hc3 (gh_self (ek := 0) T rfl hc3) ?_
      refine lv_astore_n hx hb d_La_type_12 rfl hl (by decide) rfl (fun ls hl => ?_)
      refine lv_iconst (v := 1) hx hb d_La_type_13 (by decide) ?_
      exact gl_ret B hw (by decide) (by decide) d_La_type_14 (Or.inr (Or.inl ⟨rfl, rfl, hp⟩))
    · skip
      obtain ⟨c0, k0, hc0, -⟩ := Cond.instantiable_spec (kn_IA (a := #[]) T)
      refine gh_catch2 (own := R_La) (nm := R_IA) (nm2 := R_IS) (cT := c0) htab (by decide) (by decide) (by decide) (by decide) hown (kc_La_13 T) hc0 (kc_La_15 T) hc1 hc2 hc3 (gX_notCast hX (G.2.1.2 (Cond.not (Cond.castable "java/lang/IllegalStateException" "java/lang/IllegalArgumentException")) (by decide +kernel)) _ _ hc3 hc0) (gh_self (ek := 1) T rfl hc3) ?_
      refine lv_astore_n hx hb d_La_type_15 rfl hl (by decide) rfl (fun ls hl => ?_)
      refine lv_iconst (v := 2) hx hb d_La_type_16 (by decide) ?_
      exact gl_ret B hw (by decide) (by decide) d_La_type_17 (Or.inr (Or.inr ⟨rfl, rfl, hp⟩))
set_option maxHeartbeats 4000000 in
set_option maxRecDepth 100000 in
theorem c_La_read {l : Launch} {s0 : State} {D : va_G} {aC : Nat → ClassId} {a0 : Array Value} (G : gG l s0 D aC a0) (M : gMem) (r : gRef) (ow : Int64) {fr lo : Nat} {pr : Option Value → gMem → gRef → Prop} {pt : Nat → gMem → gRef → Prop} (hR : fr + 1 ≤ 15 ∧ 8 + (1 + 11) + lo ≤ 580) (hM : gMet l s0 D aC y_MR_read (Cond.code y_MR_read b_MR_read 1 (some .int)) fr lo 1 6 [.ref (s0.heap.size + 0)] M r ow pr pt) (hpr : ∀ v M1 r1, pr v M1 r1 → ∃ a, v = some (.int a)) (hpt : ∀ ek M1 r1, pt ek M1 r1 → ek = 0) : gLt l s0 D aC y_La_read (Cond.codeWith y_La_read b_La_read 3 (some .int) [(0, 8, 11, 13)]) 15 580 [.ref (s0.heap.size + 0), .ref (s0.heap.size + 401)] M r ow (fun v M1 r1 ow1 => (v = 0 ∧ ∃ a, pr (some (.int a)) M1 r1 ∧ ow1 = a.toInt64) ∨ (v = 1 ∧ ow1 = ow ∧ pt 0 M1 r1)) := by
  refine gl_of G (by decide) (Nat.le_of_ble_eq_true rfl) ?_
  intro p e s m below meth c ls B htab hl hw
  have hx := B.1
  have hb := B.2.1
  have hown := B.2.2.2.2.2.1
  have T := B.2.2.2.2.2.2.1
  have hK := B.2.2.2.2.2.2.2.1
  have hX : gX s0 s := ⟨B.2.2.2.2.2.2.2.2.1, fun q hq => hw.2.2.1 q hq (fun h => absurd hq (Nat.not_lt.mpr h))⟩
  have htab := gh_tab1 htab
  refine lv_aload_n hx hb d_La_read_0 rfl (lv_at hl 1 rfl) ?_
  refine lv_iconst (v := 0) hx hb d_La_read_1 (by decide) ?_
  refine lv_aload_n hx hb d_La_read_2 rfl (lv_at hl 0 rfl) ?_
  refine gy_V (As := []) B hl.1 hw hM (kd_MR_read T) (ki_MR T) (km_La_17 T) (ka_MR_read T) (ks_MR_read T) ⟨by decide, by decide, by rfl⟩ (rv_MR hK hw rfl) rfl (Nat.le_of_ble_eq_true rfl) hR ⟨by decide, by decide⟩ d_La_read_3 (fun v M1 r1 H locs hw hp => ?_) (fun x9 ek M1 r1 H locs hw hE hp => ?_)
  · skip
    obtain ⟨av9, rfl⟩ := hpr _ _ _ hp
    refine lv_i2l hx hb d_La_read_6 rfl ?_
    refine gs_out (x := 0) hx hb hK hw rfl (gi_in0 (n := 0) (by decide) (by decide)) d_La_read_7 (fun H locs hw => ?_)
    refine lv_goto hx hb d_La_read_8 rfl ?_
    refine lv_iconst (v := 0) hx hb d_La_read_14 (by decide) ?_
    exact gl_ret B hw (by decide) (by decide) d_La_read_15 (Or.inl ⟨rfl, av9, hp, rfl⟩)
  · skip
    have hek := hpt _ _ _ hp
    obtain ⟨ce, hc1, hc2, hc3⟩ := gh_find B hE
    subst hek
    refine gh_catch1 (own := R_La) (nm := R_IA) (cT := ce.cls) htab (by decide) (by decide) hown (kc_La_13 T) hc3 hc1 hc2 hc3 (gh_self (ek := 0) T rfl hc3) ?_
    refine lv_astore_n hx hb d_La_read_11 rfl hl (by decide) rfl (fun ls hl => ?_)
    refine lv_iconst (v := 1) hx hb d_La_read_12 (by decide) ?_
    exact gl_ret B hw (by decide) (by decide) d_La_read_13 (Or.inr ⟨rfl, rfl, hp⟩)
set_option maxHeartbeats 4000000 in
set_option maxRecDepth 100000 in
theorem c_La_element {l : Launch} {s0 : State} {D : va_G} {aC : Nat → ClassId} {a0 : Array Value} (G : gG l s0 D aC a0) (M : gMem) (r : gRef) (ow : Int64) (x z : Int32) {fr lo : Nat} {pr : Option Value → gMem → gRef → Prop} {pt : Nat → gMem → gRef → Prop} (hR : fr + 1 ≤ 15 ∧ 8 + (4 + 11) + lo ≤ 580) (hM : gMet l s0 D aC y_MR_element (Cond.code y_MR_element b_MR_element 4 (some .int)) fr lo 1 6 [.ref (s0.heap.size + 0), .int x, .int z] M r ow pr pt) (hpr : ∀ v M1 r1, pr v M1 r1 → ∃ a, v = some (.int a)) (hpt : ∀ ek M1 r1, pt ek M1 r1 → ek = 2 ∨ ek = 0) : gLt l s0 D aC y_La_element (Cond.codeWith y_La_element b_La_element 5 (some .int) [(0, 10, 13, 25), (0, 10, 17, 13)]) 15 580 [.ref (s0.heap.size + 0), .int x, .int z, .ref (s0.heap.size + 401)] M r ow (fun v M1 r1 ow1 => (v = 0 ∧ ∃ a, pr (some (.int a)) M1 r1 ∧ ow1 = a.toInt64) ∨ (v = 1 ∧ ow1 = ow ∧ pt 2 M1 r1) ∨ (v = 2 ∧ ow1 = ow ∧ pt 0 M1 r1)) := by
  refine gl_of G (by decide) (Nat.le_of_ble_eq_true rfl) ?_
  intro p e s m below meth c ls B htab hl hw
  have hx := B.1
  have hb := B.2.1
  have hown := B.2.2.2.2.2.1
  have T := B.2.2.2.2.2.2.1
  have hK := B.2.2.2.2.2.2.2.1
  have hX : gX s0 s := ⟨B.2.2.2.2.2.2.2.2.1, fun q hq => hw.2.2.1 q hq (fun h => absurd hq (Nat.not_lt.mpr h))⟩
  have htab := gh_tab2 htab
  refine lv_aload_n hx hb d_La_element_0 rfl (lv_at hl 3 rfl) ?_
  refine lv_iconst (v := 0) hx hb d_La_element_1 (by decide) ?_
  refine lv_aload_n hx hb d_La_element_2 rfl (lv_at hl 0 rfl) ?_
  refine lv_iload_n hx hb d_La_element_3 rfl (lv_at hl 1 rfl) ?_
  refine lv_iload_n hx hb d_La_element_4 rfl (lv_at hl 2 rfl) ?_
  refine gy_V (As := [.int x, .int z]) B hl.1 hw hM (kd_MR_element T) (ki_MR T) (km_La_21 T) (ka_MR_element T) (ks_MR_element T) ⟨by decide, by decide, by rfl⟩ (rv_MR hK hw rfl) rfl (Nat.le_of_ble_eq_true rfl) hR ⟨by decide, by decide⟩ d_La_element_5 (fun v M1 r1 H locs hw hp => ?_) (fun x9 ek M1 r1 H locs hw hE hp => ?_)
  · skip
    obtain ⟨av9, rfl⟩ := hpr _ _ _ hp
    refine lv_i2l hx hb d_La_element_8 rfl ?_
    refine gs_out (x := 0) hx hb hK hw rfl (gi_in0 (n := 0) (by decide) (by decide)) d_La_element_9 (fun H locs hw => ?_)
    refine lv_goto hx hb d_La_element_10 rfl ?_
    refine lv_iconst (v := 0) hx hb d_La_element_21 (by decide) ?_
    exact gl_ret B hw (by decide) (by decide) d_La_element_22 (Or.inl ⟨rfl, av9, hp, rfl⟩)
  · skip
    have hek := hpt _ _ _ hp
    obtain ⟨ce, hc1, hc2, hc3⟩ := gh_find B hE
    rcases hek with rfl | rfl
    · skip
      refine gh_catch1 (own := R_La) (nm := R_IO) (cT := ce.cls) htab (by decide) (by decide) hown (kc_La_25 T) hc3 hc1 hc2 hc3 (gh_self (ek := 2) T rfl hc3) ?_
      refine lv_astore hx hb d_La_element_13 hl (by decide) rfl (fun ls hl => ?_)
      refine lv_iconst (v := 1) hx hb d_La_element_15 (by decide) ?_
      exact gl_ret B hw (by decide) (by decide) d_La_element_16 (Or.inr (Or.inl ⟨rfl, rfl, hp⟩))
    · skip
      obtain ⟨c0, k0, hc0, -⟩ := Cond.instantiable_spec (kn_IO (a := #[]) T)
      refine gh_catch2 (own := R_La) (nm := R_IO) (nm2 := R_IA) (cT := c0) htab (by decide) (by decide) (by decide) (by decide) hown (kc_La_25 T) hc0 (kc_La_13 T) hc1 hc2 hc3 (gX_notCast hX (G.2.1.2 (Cond.not (Cond.castable "java/lang/IllegalArgumentException" "java/lang/IndexOutOfBoundsException")) (by decide +kernel)) _ _ hc3 hc0) (gh_self (ek := 0) T rfl hc3) ?_
      refine lv_astore hx hb d_La_element_17 hl (by decide) rfl (fun ls hl => ?_)
      refine lv_iconst (v := 2) hx hb d_La_element_19 (by decide) ?_
      exact gl_ret B hw (by decide) (by decide) d_La_element_20 (Or.inr (Or.inr ⟨rfl, rfl, hp⟩))
set_option maxHeartbeats 4000000 in
set_option maxRecDepth 100000 in
theorem c_La_name {l : Launch} {s0 : State} {D : va_G} {aC : Nat → ClassId} {a0 : Array Value} (G : gG l s0 D aC a0) (M : gMem) (r : gRef) (ow : Int64) (x z : Int32) {fr lo : Nat} {pr : Option Value → gMem → gRef → Prop} {pt : Nat → gMem → gRef → Prop} (hR : fr + 1 ≤ 15 ∧ 8 + (4 + 11) + lo ≤ 580) (hM : gMet l s0 D aC y_MR_name (Cond.code y_MR_name b_MR_name 4 (some .char)) fr lo 1 6 [.ref (s0.heap.size + 0), .int x, .int z] M r ow pr pt) (hpr : ∀ v M1 r1, pr v M1 r1 → ∃ a, v = some (.int a)) (hpt : ∀ ek M1 r1, pt ek M1 r1 → ek = 2) : gLt l s0 D aC y_La_name (Cond.codeWith y_La_name b_La_name 5 (some .int) [(0, 10, 13, 25)]) 15 580 [.ref (s0.heap.size + 0), .int x, .int z, .ref (s0.heap.size + 401)] M r ow (fun v M1 r1 ow1 => (v = 0 ∧ ∃ a, pr (some (.int a)) M1 r1 ∧ ow1 = a.toInt64) ∨ (v = 1 ∧ ow1 = ow ∧ pt 2 M1 r1)) := by
  refine gl_of G (by decide) (Nat.le_of_ble_eq_true rfl) ?_
  intro p e s m below meth c ls B htab hl hw
  have hx := B.1
  have hb := B.2.1
  have hown := B.2.2.2.2.2.1
  have T := B.2.2.2.2.2.2.1
  have hK := B.2.2.2.2.2.2.2.1
  have hX : gX s0 s := ⟨B.2.2.2.2.2.2.2.2.1, fun q hq => hw.2.2.1 q hq (fun h => absurd hq (Nat.not_lt.mpr h))⟩
  have htab := gh_tab1 htab
  refine lv_aload_n hx hb d_La_name_0 rfl (lv_at hl 3 rfl) ?_
  refine lv_iconst (v := 0) hx hb d_La_name_1 (by decide) ?_
  refine lv_aload_n hx hb d_La_name_2 rfl (lv_at hl 0 rfl) ?_
  refine lv_iload_n hx hb d_La_name_3 rfl (lv_at hl 1 rfl) ?_
  refine lv_iload_n hx hb d_La_name_4 rfl (lv_at hl 2 rfl) ?_
  refine gy_V (As := [.int x, .int z]) B hl.1 hw hM (kd_MR_name T) (ki_MR T) (km_La_27 T) (ka_MR_name T) (ks_MR_name T) ⟨by decide, by decide, by rfl⟩ (rv_MR hK hw rfl) rfl (Nat.le_of_ble_eq_true rfl) hR ⟨by decide, by decide⟩ d_La_name_5 (fun v M1 r1 H locs hw hp => ?_) (fun x9 ek M1 r1 H locs hw hE hp => ?_)
  · skip
    obtain ⟨av9, rfl⟩ := hpr _ _ _ hp
    refine lv_i2l hx hb d_La_name_8 rfl ?_
    refine gs_out (x := 0) hx hb hK hw rfl (gi_in0 (n := 0) (by decide) (by decide)) d_La_name_9 (fun H locs hw => ?_)
    refine lv_goto hx hb d_La_name_10 rfl ?_
    refine lv_iconst (v := 0) hx hb d_La_name_17 (by decide) ?_
    exact gl_ret B hw (by decide) (by decide) d_La_name_18 (Or.inl ⟨rfl, av9, hp, rfl⟩)
  · skip
    have hek := hpt _ _ _ hp
    obtain ⟨ce, hc1, hc2, hc3⟩ := gh_find B hE
    subst hek
    refine gh_catch1 (own := R_La) (nm := R_IO) (cT := ce.cls) htab (by decide) (by decide) hown (kc_La_25 T) hc3 hc1 hc2 hc3 (gh_self (ek := 2) T rfl hc3) ?_
    refine lv_astore hx hb d_La_name_13 hl (by decide) rfl (fun ls hl => ?_)
    refine lv_iconst (v := 1) hx hb d_La_name_15 (by decide) ?_
    exact gl_ret B hw (by decide) (by decide) d_La_name_16 (Or.inr ⟨rfl, rfl, hp⟩)
set_option maxHeartbeats 4000000 in
set_option maxRecDepth 100000 in
theorem c_La_content {l : Launch} {s0 : State} {D : va_G} {aC : Nat → ClassId} {a0 : Array Value} (G : gG l s0 D aC a0) (M : gMem) (r : gRef) (ow : Int64) (x z : Int32) {fr lo : Nat} {pr : Option Value → gMem → gRef → Prop} {pt : Nat → gMem → gRef → Prop} (hR : fr + 1 ≤ 15 ∧ 8 + (5 + 11) + lo ≤ 580) (hM : gMet l s0 D aC y_MR_content (Cond.code y_MR_content b_MR_content 5 (some .char)) fr lo 1 6 [.ref (s0.heap.size + 0), .int x, .int z] M r ow pr pt) (hpr : ∀ v M1 r1, pr v M1 r1 → ∃ a, v = some (.int a)) (hpt : ∀ ek M1 r1, pt ek M1 r1 → ek = 2) : gLt l s0 D aC y_La_content (Cond.codeWith y_La_content b_La_content 5 (some .int) [(0, 10, 13, 25)]) 15 580 [.ref (s0.heap.size + 0), .int x, .int z, .ref (s0.heap.size + 401)] M r ow (fun v M1 r1 ow1 => (v = 0 ∧ ∃ a, pr (some (.int a)) M1 r1 ∧ ow1 = a.toInt64) ∨ (v = 1 ∧ ow1 = ow ∧ pt 2 M1 r1)) := by
  refine gl_of G (by decide) (Nat.le_of_ble_eq_true rfl) ?_
  intro p e s m below meth c ls B htab hl hw
  have hx := B.1
  have hb := B.2.1
  have hown := B.2.2.2.2.2.1
  have T := B.2.2.2.2.2.2.1
  have hK := B.2.2.2.2.2.2.2.1
  have hX : gX s0 s := ⟨B.2.2.2.2.2.2.2.2.1, fun q hq => hw.2.2.1 q hq (fun h => absurd hq (Nat.not_lt.mpr h))⟩
  have htab := gh_tab1 htab
  refine lv_aload_n hx hb d_La_content_0 rfl (lv_at hl 3 rfl) ?_
  refine lv_iconst (v := 0) hx hb d_La_content_1 (by decide) ?_
  refine lv_aload_n hx hb d_La_content_2 rfl (lv_at hl 0 rfl) ?_
  refine lv_iload_n hx hb d_La_content_3 rfl (lv_at hl 1 rfl) ?_
  refine lv_iload_n hx hb d_La_content_4 rfl (lv_at hl 2 rfl) ?_
  refine gy_V (As := [.int x, .int z]) B hl.1 hw hM (kd_MR_content T) (ki_MR T) (km_La_31 T) (ka_MR_content T) (ks_MR_content T) ⟨by decide, by decide, by rfl⟩ (rv_MR hK hw rfl) rfl (Nat.le_of_ble_eq_true rfl) hR ⟨by decide, by decide⟩ d_La_content_5 (fun v M1 r1 H locs hw hp => ?_) (fun x9 ek M1 r1 H locs hw hE hp => ?_)
  · skip
    obtain ⟨av9, rfl⟩ := hpr _ _ _ hp
    refine lv_i2l hx hb d_La_content_8 rfl ?_
    refine gs_out (x := 0) hx hb hK hw rfl (gi_in0 (n := 0) (by decide) (by decide)) d_La_content_9 (fun H locs hw => ?_)
    refine lv_goto hx hb d_La_content_10 rfl ?_
    refine lv_iconst (v := 0) hx hb d_La_content_17 (by decide) ?_
    exact gl_ret B hw (by decide) (by decide) d_La_content_18 (Or.inl ⟨rfl, av9, hp, rfl⟩)
  · skip
    have hek := hpt _ _ _ hp
    obtain ⟨ce, hc1, hc2, hc3⟩ := gh_find B hE
    subst hek
    refine gh_catch1 (own := R_La) (nm := R_IO) (cT := ce.cls) htab (by decide) (by decide) hown (kc_La_25 T) hc3 hc1 hc2 hc3 (gh_self (ek := 2) T rfl hc3) ?_
    refine lv_astore hx hb d_La_content_13 hl (by decide) rfl (fun ls hl => ?_)
    refine lv_iconst (v := 1) hx hb d_La_content_15 (by decide) ?_
    exact gl_ret B hw (by decide) (by decide) d_La_content_16 (Or.inr ⟨rfl, rfl, hp⟩)
set_option maxHeartbeats 4000000 in
set_option maxRecDepth 100000 in
theorem c_La_space {l : Launch} {s0 : State} {D : va_G} {aC : Nat → ClassId} {a0 : Array Value} (G : gG l s0 D aC a0) (M : gMem) (r : gRef) (ow : Int64) (x z : Int32) {fr lo : Nat} {pr : Option Value → gMem → gRef → Prop} {pt : Nat → gMem → gRef → Prop} (hR : fr + 1 ≤ 15 ∧ 8 + (4 + 11) + lo ≤ 580) (hM : gMet l s0 D aC y_MR_space (Cond.code y_MR_space b_MR_space 4 (some .char)) fr lo 1 6 [.ref (s0.heap.size + 0), .int x, .int z] M r ow pr pt) (hpr : ∀ v M1 r1, pr v M1 r1 → ∃ a, v = some (.int a)) (hpt : ∀ ek M1 r1, pt ek M1 r1 → ek = 2) : gLt l s0 D aC y_La_space (Cond.codeWith y_La_space b_La_space 5 (some .int) [(0, 10, 13, 25)]) 15 580 [.ref (s0.heap.size + 0), .int x, .int z, .ref (s0.heap.size + 401)] M r ow (fun v M1 r1 ow1 => (v = 0 ∧ ∃ a, pr (some (.int a)) M1 r1 ∧ ow1 = a.toInt64) ∨ (v = 1 ∧ ow1 = ow ∧ pt 2 M1 r1)) := by
  refine gl_of G (by decide) (Nat.le_of_ble_eq_true rfl) ?_
  intro p e s m below meth c ls B htab hl hw
  have hx := B.1
  have hb := B.2.1
  have hown := B.2.2.2.2.2.1
  have T := B.2.2.2.2.2.2.1
  have hK := B.2.2.2.2.2.2.2.1
  have hX : gX s0 s := ⟨B.2.2.2.2.2.2.2.2.1, fun q hq => hw.2.2.1 q hq (fun h => absurd hq (Nat.not_lt.mpr h))⟩
  have htab := gh_tab1 htab
  refine lv_aload_n hx hb d_La_space_0 rfl (lv_at hl 3 rfl) ?_
  refine lv_iconst (v := 0) hx hb d_La_space_1 (by decide) ?_
  refine lv_aload_n hx hb d_La_space_2 rfl (lv_at hl 0 rfl) ?_
  refine lv_iload_n hx hb d_La_space_3 rfl (lv_at hl 1 rfl) ?_
  refine lv_iload_n hx hb d_La_space_4 rfl (lv_at hl 2 rfl) ?_
  refine gy_V (As := [.int x, .int z]) B hl.1 hw hM (kd_MR_space T) (ki_MR T) (km_La_34 T) (ka_MR_space T) (ks_MR_space T) ⟨by decide, by decide, by rfl⟩ (rv_MR hK hw rfl) rfl (Nat.le_of_ble_eq_true rfl) hR ⟨by decide, by decide⟩ d_La_space_5 (fun v M1 r1 H locs hw hp => ?_) (fun x9 ek M1 r1 H locs hw hE hp => ?_)
  · skip
    obtain ⟨av9, rfl⟩ := hpr _ _ _ hp
    refine lv_i2l hx hb d_La_space_8 rfl ?_
    refine gs_out (x := 0) hx hb hK hw rfl (gi_in0 (n := 0) (by decide) (by decide)) d_La_space_9 (fun H locs hw => ?_)
    refine lv_goto hx hb d_La_space_10 rfl ?_
    refine lv_iconst (v := 0) hx hb d_La_space_17 (by decide) ?_
    exact gl_ret B hw (by decide) (by decide) d_La_space_18 (Or.inl ⟨rfl, av9, hp, rfl⟩)
  · skip
    have hek := hpt _ _ _ hp
    obtain ⟨ce, hc1, hc2, hc3⟩ := gh_find B hE
    subst hek
    refine gh_catch1 (own := R_La) (nm := R_IO) (cT := ce.cls) htab (by decide) (by decide) hown (kc_La_25 T) hc3 hc1 hc2 hc3 (gh_self (ek := 2) T rfl hc3) ?_
    refine lv_astore hx hb d_La_space_13 hl (by decide) rfl (fun ls hl => ?_)
    refine lv_iconst (v := 1) hx hb d_La_space_15 (by decide) ?_
    exact gl_ret B hw (by decide) (by decide) d_La_space_16 (Or.inr ⟨rfl, rfl, hp⟩)
set_option maxHeartbeats 4000000 in
set_option maxRecDepth 100000 in
theorem c_La_formAt {l : Launch} {s0 : State} {D : va_G} {aC : Nat → ClassId} {a0 : Array Value} (G : gG l s0 D aC a0) (M : gMem) (r : gRef) (ow : Int64) (x : Int32) {fr lo : Nat} {pr : Option Value → gMem → gRef → Prop} {pt : Nat → gMem → gRef → Prop} (hR : fr + 1 ≤ 15 ∧ 8 + (2 + 11) + lo ≤ 580) (hM : gMet l s0 D aC y_MR_formAt (Cond.code y_MR_formAt b_MR_formAt 2 (some .char)) fr lo 1 6 [.ref (s0.heap.size + 0), .int x] M r ow pr pt) (hpr : ∀ v M1 r1, pr v M1 r1 → ∃ a, v = some (.int a)) (hpt : ∀ ek M1 r1, pt ek M1 r1 → ek = 2) : gLt l s0 D aC y_La_formAt (Cond.codeWith y_La_formAt b_La_formAt 4 (some .int) [(0, 9, 12, 25)]) 15 580 [.ref (s0.heap.size + 0), .int x, .ref (s0.heap.size + 401)] M r ow (fun v M1 r1 ow1 => (v = 0 ∧ ∃ a, pr (some (.int a)) M1 r1 ∧ ow1 = a.toInt64) ∨ (v = 1 ∧ ow1 = ow ∧ pt 2 M1 r1)) := by
  refine gl_of G (by decide) (Nat.le_of_ble_eq_true rfl) ?_
  intro p e s m below meth c ls B htab hl hw
  have hx := B.1
  have hb := B.2.1
  have hown := B.2.2.2.2.2.1
  have T := B.2.2.2.2.2.2.1
  have hK := B.2.2.2.2.2.2.2.1
  have hX : gX s0 s := ⟨B.2.2.2.2.2.2.2.2.1, fun q hq => hw.2.2.1 q hq (fun h => absurd hq (Nat.not_lt.mpr h))⟩
  have htab := gh_tab1 htab
  refine lv_aload_n hx hb d_La_formAt_0 rfl (lv_at hl 2 rfl) ?_
  refine lv_iconst (v := 0) hx hb d_La_formAt_1 (by decide) ?_
  refine lv_aload_n hx hb d_La_formAt_2 rfl (lv_at hl 0 rfl) ?_
  refine lv_iload_n hx hb d_La_formAt_3 rfl (lv_at hl 1 rfl) ?_
  refine gy_V (As := [.int x]) B hl.1 hw hM (kd_MR_formAt T) (ki_MR T) (km_La_37 T) (ka_MR_formAt T) (ks_MR_formAt T) ⟨by decide, by decide, by rfl⟩ (rv_MR hK hw rfl) rfl (Nat.le_of_ble_eq_true rfl) hR ⟨by decide, by decide⟩ d_La_formAt_4 (fun v M1 r1 H locs hw hp => ?_) (fun x9 ek M1 r1 H locs hw hE hp => ?_)
  · skip
    obtain ⟨av9, rfl⟩ := hpr _ _ _ hp
    refine lv_i2l hx hb d_La_formAt_7 rfl ?_
    refine gs_out (x := 0) hx hb hK hw rfl (gi_in0 (n := 0) (by decide) (by decide)) d_La_formAt_8 (fun H locs hw => ?_)
    refine lv_goto hx hb d_La_formAt_9 rfl ?_
    refine lv_iconst (v := 0) hx hb d_La_formAt_15 (by decide) ?_
    exact gl_ret B hw (by decide) (by decide) d_La_formAt_16 (Or.inl ⟨rfl, av9, hp, rfl⟩)
  · skip
    have hek := hpt _ _ _ hp
    obtain ⟨ce, hc1, hc2, hc3⟩ := gh_find B hE
    subst hek
    refine gh_catch1 (own := R_La) (nm := R_IO) (cT := ce.cls) htab (by decide) (by decide) hown (kc_La_25 T) hc3 hc1 hc2 hc3 (gh_self (ek := 2) T rfl hc3) ?_
    refine lv_astore_n hx hb d_La_formAt_12 rfl hl (by decide) rfl (fun ls hl => ?_)
    refine lv_iconst (v := 1) hx hb d_La_formAt_13 (by decide) ?_
    exact gl_ret B hw (by decide) (by decide) d_La_formAt_14 (Or.inr ⟨rfl, rfl, hp⟩)
set_option maxHeartbeats 4000000 in
set_option maxRecDepth 100000 in
theorem c_La_retype {l : Launch} {s0 : State} {D : va_G} {aC : Nat → ClassId} {a0 : Array Value} (G : gG l s0 D aC a0) (M : gMem) (r : gRef) (ow : Int64) {fr lo : Nat} {pr : Option Value → gMem → gRef → Prop} {pt : Nat → gMem → gRef → Prop} (hR : fr + 1 ≤ 15 ∧ 8 + (1 + 11) + lo ≤ 580) (hM : gMet l s0 D aC y_MR_retype (Cond.code y_MR_retype b_MR_retype 1 (some .int)) fr lo 1 6 [.ref (s0.heap.size + 0)] M r ow pr pt) (hpr : ∀ v M1 r1, pr v M1 r1 → ∃ a, v = some (.int a)) (hpt : ∀ ek M1 r1, pt ek M1 r1 → ek = 1) : gLt l s0 D aC y_La_retype (Cond.codeWith y_La_retype b_La_retype 3 (some .int) [(0, 8, 11, 15)]) 15 580 [.ref (s0.heap.size + 0), .ref (s0.heap.size + 401)] M r ow (fun v M1 r1 ow1 => (v = 0 ∧ ∃ a, pr (some (.int a)) M1 r1 ∧ ow1 = a.toInt64) ∨ (v = 1 ∧ ow1 = ow ∧ pt 1 M1 r1)) := by
  refine gl_of G (by decide) (Nat.le_of_ble_eq_true rfl) ?_
  intro p e s m below meth c ls B htab hl hw
  have hx := B.1
  have hb := B.2.1
  have hown := B.2.2.2.2.2.1
  have T := B.2.2.2.2.2.2.1
  have hK := B.2.2.2.2.2.2.2.1
  have hX : gX s0 s := ⟨B.2.2.2.2.2.2.2.2.1, fun q hq => hw.2.2.1 q hq (fun h => absurd hq (Nat.not_lt.mpr h))⟩
  have htab := gh_tab1 htab
  refine lv_aload_n hx hb d_La_retype_0 rfl (lv_at hl 1 rfl) ?_
  refine lv_iconst (v := 0) hx hb d_La_retype_1 (by decide) ?_
  refine lv_aload_n hx hb d_La_retype_2 rfl (lv_at hl 0 rfl) ?_
  refine gy_V (As := []) B hl.1 hw hM (kd_MR_retype T) (ki_MR T) (km_La_41 T) (ka_MR_retype T) (ks_MR_retype T) ⟨by decide, by decide, by rfl⟩ (rv_MR hK hw rfl) rfl (Nat.le_of_ble_eq_true rfl) hR ⟨by decide, by decide⟩ d_La_retype_3 (fun v M1 r1 H locs hw hp => ?_) (fun x9 ek M1 r1 H locs hw hE hp => ?_)
  · skip
    obtain ⟨av9, rfl⟩ := hpr _ _ _ hp
    refine lv_i2l hx hb d_La_retype_6 rfl ?_
    refine gs_out (x := 0) hx hb hK hw rfl (gi_in0 (n := 0) (by decide) (by decide)) d_La_retype_7 (fun H locs hw => ?_)
    refine lv_goto hx hb d_La_retype_8 rfl ?_
    refine lv_iconst (v := 0) hx hb d_La_retype_14 (by decide) ?_
    exact gl_ret B hw (by decide) (by decide) d_La_retype_15 (Or.inl ⟨rfl, av9, hp, rfl⟩)
  · skip
    have hek := hpt _ _ _ hp
    obtain ⟨ce, hc1, hc2, hc3⟩ := gh_find B hE
    subst hek
    refine gh_catch1 (own := R_La) (nm := R_IS) (cT := ce.cls) htab (by decide) (by decide) hown (kc_La_15 T) hc3 hc1 hc2 hc3 (gh_self (ek := 1) T rfl hc3) ?_
    refine lv_astore_n hx hb d_La_retype_11 rfl hl (by decide) rfl (fun ls hl => ?_)
    refine lv_iconst (v := 1) hx hb d_La_retype_12 (by decide) ?_
    exact gl_ret B hw (by decide) (by decide) d_La_retype_13 (Or.inr ⟨rfl, rfl, hp⟩)
set_option maxHeartbeats 4000000 in
set_option maxRecDepth 100000 in
theorem c_La_keep {l : Launch} {s0 : State} {D : va_G} {aC : Nat → ClassId} {a0 : Array Value} (G : gG l s0 D aC a0) (M : gMem) (r : gRef) (ow : Int64) {fr lo : Nat} {pr : Option Value → gMem → gRef → Prop} {pt : Nat → gMem → gRef → Prop} (hR : fr + 1 ≤ 15 ∧ 8 + (1 + 11) + lo ≤ 580) (hM : gMet l s0 D aC y_MR_keep (Cond.code y_MR_keep b_MR_keep 1 none) fr lo 1 6 [.ref (s0.heap.size + 0)] M r ow pr pt) (hpr : ∀ v M1 r1, pr v M1 r1 → v = none) (hpt : ∀ ek M1 r1, pt ek M1 r1 → ek = 1) : gLt l s0 D aC y_La_keep (Cond.codeWith y_La_keep b_La_keep 2 (some .int) [(0, 4, 7, 15)]) 15 580 [.ref (s0.heap.size + 0)] M r ow (fun v M1 r1 ow1 => (v = 0 ∧ pr none M1 r1 ∧ ow1 = ow) ∨ (v = 1 ∧ ow1 = ow ∧ pt 1 M1 r1)) := by
  refine gl_of G (by decide) (Nat.le_of_ble_eq_true rfl) ?_
  intro p e s m below meth c ls B htab hl hw
  have hx := B.1
  have hb := B.2.1
  have hown := B.2.2.2.2.2.1
  have T := B.2.2.2.2.2.2.1
  have hK := B.2.2.2.2.2.2.2.1
  have hX : gX s0 s := ⟨B.2.2.2.2.2.2.2.2.1, fun q hq => hw.2.2.1 q hq (fun h => absurd hq (Nat.not_lt.mpr h))⟩
  have htab := gh_tab1 htab
  refine lv_aload_n hx hb d_La_keep_0 rfl (lv_at hl 0 rfl) ?_
  refine gy_V (As := []) B hl.1 hw hM (kd_MR_keep T) (ki_MR T) (km_La_44 T) (ka_MR_keep T) (ks_MR_keep T) ⟨by decide, by decide, by rfl⟩ (rv_MR hK hw rfl) rfl (Nat.le_of_ble_eq_true rfl) hR ⟨by decide, by decide⟩ d_La_keep_1 (fun v M1 r1 H locs hw hp => ?_) (fun x9 ek M1 r1 H locs hw hE hp => ?_)
  · skip
    have hv9 := hpr _ _ _ hp
    subst hv9
    refine lv_goto hx hb d_La_keep_4 rfl ?_
    refine lv_iconst (v := 0) hx hb d_La_keep_10 (by decide) ?_
    exact gl_ret B hw (by decide) (by decide) d_La_keep_11 (Or.inl ⟨rfl, hp, rfl⟩)
  · skip
    have hek := hpt _ _ _ hp
    obtain ⟨ce, hc1, hc2, hc3⟩ := gh_find B hE
    subst hek
    refine gh_catch1 (own := R_La) (nm := R_IS) (cT := ce.cls) htab (by decide) (by decide) hown (kc_La_15 T) hc3 hc1 hc2 hc3 (gh_self (ek := 1) T rfl hc3) ?_
    refine lv_astore_n hx hb d_La_keep_7 rfl hl (by decide) rfl (fun ls hl => ?_)
    refine lv_iconst (v := 1) hx hb d_La_keep_8 (by decide) ?_
    exact gl_ret B hw (by decide) (by decide) d_La_keep_9 (Or.inr ⟨rfl, rfl, hp⟩)
