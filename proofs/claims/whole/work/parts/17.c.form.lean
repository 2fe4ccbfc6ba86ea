/-! retype, keep, same in general -/
set_option maxHeartbeats 4000000 in
set_option maxRecDepth 100000 in
theorem c_MR_retype {l : Launch} {s0 : State} {D : va_G} {aC : Nat → ClassId} {a0 : Array Value} (G : gG l s0 D aC a0) (M : gMem) (r : gRef) (ow : Int64) (t : Nat) (ht : t ≤ 24) (h2 : M 2 0 = nI t) (n : Nat) (hn : n ≤ 1440) (hs : M 0 5 = nI n) (hc : ∀ j, cOK (M 15 j)) : gMet l s0 D aC y_MR_retype (Cond.code y_MR_retype b_MR_retype 1 (some .int)) 6 90 1 6 [.ref (s0.heap.size + 0)] M r ow (fun v M1 r1 => t ≠ 0 ∧ n ≤ 240 ∧ v = some (.int (nI n)) ∧ M1 = mCp M 0 5 n ∧ r1 = r) (fun ek M1 r1 => ek = 1 ∧ (t = 0 ∨ 240 < n) ∧ M1 = M ∧ r1 = r) := by
  refine gm_of G (by decide) (Nat.le_of_ble_eq_true rfl) ?_
  intro p e s m below meth c ls B hexc hl hw
  have hx := B.1
  have hb := B.2.1
  have hown := B.2.2.2.2.2.1
  have T := B.2.2.2.2.2.2.1
  have hK := B.2.2.2.2.2.2.2.1
  have ht0 : M 2 0 = 0 ↔ t = 0 := by rw [h2, ← nI_0]; exact nI_eq (by omega) (by omega)
  have h240 : M 0 5 ≤ 240 → n ≤ 240 := fun h => by rw [hs] at h; exact (nI_leI (a := n) (b := 240) (by omega) (by decide)).mp h
  refine lv_aload_n hx hb d_MR_retype_0 rfl (lv_at hl 0 rfl) ?_
  refine gf_MR_tree hx hb T hown hK hw rfl (kf_MR_24 T) d_MR_retype_1 ?_
  refine gf_Tr_size hx hb T hown hK hw rfl (kf_MR_74 T) d_MR_retype_4 ?_
  refine lv_if_eq hx hb d_MR_retype_7 rfl (fun h7 => ?_) (fun h7 => ?_)
  · skip
    exact gx_IS B G.2.1 hexc hl.1 hw (kc_MR_61 T) (km_MR_65 T) (sx_MR_170 G.2.1) d_MR_retype_26 d_MR_retype_29 d_MR_retype_30 d_MR_retype_32 d_MR_retype_35 (by decide) (by decide) (by decide) (Nat.le_of_ble_eq_true rfl) (⟨rfl, by first | exact Or.inl (ht0.mp h7) | exact Or.inr (Nat.lt_of_not_le (fun q => h23 (by rw [hs]; exact nI_le q (by decide)))), rfl, rfl⟩)
  · skip
    refine lv_aload_n hx hb d_MR_retype_10 rfl (lv_at hl 0 rfl) ?_
    refine gf_MR_writer hx hb T hown hK hw rfl (kf_MR_33 T) d_MR_retype_11 ?_
    refine gf_FW_form hx hb T hown hK hw rfl (kf_MR_165 T) d_MR_retype_14 ?_
    refine gf_Row_size hx hb T hown hK hw (i := 5) (by decide) rfl (kf_MR_57 T) d_MR_retype_17 ?_
    refine lv_sipush (v := 240) hx hb d_MR_retype_20 (by decide) ?_
    refine lv_icmp_le hx hb d_MR_retype_23 rfl (fun h23 => ?_) (fun h23 => ?_)
    · skip
      refine lv_aload_n hx hb d_MR_retype_36 rfl (lv_at hl 0 rfl) ?_
      refine gf_MR_typed hx hb T hown hK hw rfl (kf_MR_14 T) d_MR_retype_37 ?_
      refine lv_aload_n hx hb d_MR_retype_40 rfl (lv_at hl 0 rfl) ?_
      refine gf_MR_writer hx hb T hown hK hw rfl (kf_MR_33 T) d_MR_retype_41 ?_
      refine gf_FW_form hx hb T hown hK hw rfl (kf_MR_165 T) d_MR_retype_44 ?_
      refine gy_V (As := [.ref (s0.heap.size + oRow 5)]) B hl.1 hw (c_Row_copyOf G M r ow 0 5 (by decide) (by decide) (by decide) n (h240 h23) hn hs hc) (kd_Row_copyOf T) (ki_Row T) (km_MR_172 T) (ka_Row_copyOf T) (ks_Row_copyOf T) ⟨by decide, by decide, by rfl⟩ (rv_Row hK hw (i := 0) (by decide) rfl) rfl (Nat.le_of_ble_eq_true rfl) ⟨by decide, by decide⟩ ⟨by decide, by decide⟩ d_MR_retype_47 (fun v M1 r1 H locs hw hp => ?_) (fun x ek M1 r1 H locs hw hE hp => hp.elim)
      obtain ⟨rfl, hM1, hr1⟩ := hp
      rw [hM1, hr1] at hw
      clear hM1 hr1
      refine lv_aload_n hx hb d_MR_retype_50 rfl (lv_at hl 0 rfl) ?_
      refine gf_MR_typed hx hb T hown hK hw rfl (kf_MR_14 T) d_MR_retype_51 ?_
      refine gf_Row_size hx hb T hown hK hw (i := 0) (by decide) rfl (kf_MR_57 T) d_MR_retype_54 ?_
      exact gr_i B hw d_MR_retype_57 ⟨fun h => h7 (ht0.mpr h), h240 h23, congrArg (fun q => some (Value.int q)) (mCp_own M), rfl, rfl⟩
    · skip
      exact gx_IS B G.2.1 hexc hl.1 hw (kc_MR_61 T) (km_MR_65 T) (sx_MR_170 G.2.1) d_MR_retype_26 d_MR_retype_29 d_MR_retype_30 d_MR_retype_32 d_MR_retype_35 (by decide) (by decide) (by decide) (Nat.le_of_ble_eq_true rfl) (⟨rfl, by first | exact Or.inl (ht0.mp h7) | exact Or.inr (Nat.lt_of_not_le (fun q => h23 (by rw [hs]; exact nI_le q (by decide)))), rfl, rfl⟩)
set_option maxHeartbeats 4000000 in
set_option maxRecDepth 100000 in
theorem c_MR_keep {l : Launch} {s0 : State} {D : va_G} {aC : Nat → ClassId} {a0 : Array Value} (G : gG l s0 D aC a0) (M : gMem) (r : gRef) (ow : Int64) (t : Nat) (ht : t ≤ 24) (h2 : M 2 0 = nI t) (n : Nat) (hn : n ≤ 1440) (hs : M 0 5 = nI n) (hc : ∀ j, cOK (M 15 j)) : gMet l s0 D aC y_MR_keep (Cond.code y_MR_keep b_MR_keep 1 none) 6 90 1 6 [.ref (s0.heap.size + 0)] M r ow (fun v M1 r1 => t ≠ 0 ∧ v = none ∧ M1 = mCp M 1 5 n ∧ r1 = r) (fun ek M1 r1 => ek = 1 ∧ t = 0 ∧ M1 = M ∧ r1 = r) := by
  refine gm_of G (by decide) (Nat.le_of_ble_eq_true rfl) ?_
  intro p e s m below meth c ls B hexc hl hw
  have hx := B.1
  have hb := B.2.1
  have hown := B.2.2.2.2.2.1
  have T := B.2.2.2.2.2.2.1
  have hK := B.2.2.2.2.2.2.2.1
  have ht0 : M 2 0 = 0 ↔ t = 0 := by rw [h2, ← nI_0]; exact nI_eq (by omega) (by omega)
  refine lv_aload_n hx hb d_MR_keep_0 rfl (lv_at hl 0 rfl) ?_
  refine gf_MR_tree hx hb T hown hK hw rfl (kf_MR_24 T) d_MR_keep_1 ?_
  refine gf_Tr_size hx hb T hown hK hw rfl (kf_MR_74 T) d_MR_keep_4 ?_
  refine lv_if_ne hx hb d_MR_keep_7 rfl (fun h7 => ?_) (fun h7 => ?_)
  · skip
    refine lv_aload_n hx hb d_MR_keep_20 rfl (lv_at hl 0 rfl) ?_
    refine gf_MR_kept hx hb T hown hK hw rfl (kf_MR_18 T) d_MR_keep_21 ?_
    refine lv_aload_n hx hb d_MR_keep_24 rfl (lv_at hl 0 rfl) ?_
    refine gf_MR_writer hx hb T hown hK hw rfl (kf_MR_33 T) d_MR_keep_25 ?_
    refine gf_FW_form hx hb T hown hK hw rfl (kf_MR_165 T) d_MR_keep_28 ?_
    refine gy_V (As := [.ref (s0.heap.size + oRow 5)]) B hl.1 hw (c_Row_copyOf G M r ow 1 5 (by decide) (by decide) (by decide) n hn hn hs hc) (kd_Row_copyOf T) (ki_Row T) (km_MR_172 T) (ka_Row_copyOf T) (ks_Row_copyOf T) ⟨by decide, by decide, by rfl⟩ (rv_Row hK hw (i := 1) (by decide) rfl) rfl (Nat.le_of_ble_eq_true rfl) ⟨by decide, by decide⟩ ⟨by decide, by decide⟩ d_MR_keep_31 (fun v M1 r1 H locs hw hp => ?_) (fun x ek M1 r1 H locs hw hE hp => hp.elim)
    obtain ⟨rfl, hM1, hr1⟩ := hp
    rw [hM1, hr1] at hw
    clear hM1 hr1
    exact gr_v B hw d_MR_keep_34 ⟨fun h => h7 (ht0.mpr h), rfl, rfl, rfl⟩
  · skip
    exact gx_IS B G.2.1 hexc hl.1 hw (kc_MR_61 T) (km_MR_65 T) (sx_MR_175 G.2.1) d_MR_keep_10 d_MR_keep_13 d_MR_keep_14 d_MR_keep_16 d_MR_keep_19 (by decide) (by decide) (by decide) (Nat.le_of_ble_eq_true rfl) ⟨rfl, ht0.mp h7, rfl, rfl⟩
set_option maxHeartbeats 4000000 in
set_option maxRecDepth 100000 in
theorem c_MR_same {l : Launch} {s0 : State} {D : va_G} {aC : Nat → ClassId} {a0 : Array Value} (G : gG l s0 D aC a0) (M : gMem) (r : gRef) (ow : Int64) (t : Nat) (ht : t ≤ 24) (h2 : M 2 0 = nI t) (n : Nat) (hn : n ≤ 1440) (hs : M 0 5 = nI n) (hc : ∀ j, cOK (M 15 j)) (n2 : Nat) (hn2 : n2 ≤ 1440) (hs2 : M 0 1 = nI n2) (hc2 : ∀ j, cOK (M 11 j)) : gMet l s0 D aC y_MR_same (Cond.code y_MR_same b_MR_same 1 (some .boolean)) 2 80 0 0 [.ref (s0.heap.size + 0)] M r ow (fun v M1 r1 => ((v = some (.int 1) ∧ (t ≠ 0 ∧ gSame M 1 5 n2 n)) ∨ (v = some (.int 0) ∧ ¬ (t ≠ 0 ∧ gSame M 1 5 n2 n))) ∧ M1 = M ∧ r1 = r) (fun _ _ _ => False) := by
  refine gm_of G (by decide) (Nat.le_of_ble_eq_true rfl) ?_
  intro p e s m below meth c ls B hexc hl hw
  have hx := B.1
  have hb := B.2.1
  have hown := B.2.2.2.2.2.1
  have T := B.2.2.2.2.2.2.1
  have hK := B.2.2.2.2.2.2.2.1
  have ht0 : M 2 0 = 0 ↔ t = 0 := by rw [h2, ← nI_0]; exact nI_eq (by omega) (by omega)
  have htp : ¬ M 2 0 ≤ 0 → t ≠ 0 := fun h q => h (by rw [ht0.mpr q]; decide)
  have htn : t ≠ 0 → ¬ M 2 0 ≤ 0 := fun h => by rw [h2]; exact nI_nle (by omega) (by omega)
  refine lv_aload_n hx hb d_MR_same_0 rfl (lv_at hl 0 rfl) ?_
  refine gf_MR_tree hx hb T hown hK hw rfl (kf_MR_24 T) d_MR_same_1 ?_
  refine gf_Tr_size hx hb T hown hK hw rfl (kf_MR_74 T) d_MR_same_4 ?_
  refine lv_if_le hx hb d_MR_same_7 rfl (fun h7 => ?_) (fun h7 => ?_)
  · skip
    refine lv_iconst (v := 0) hx hb d_MR_same_31 (by decide) ?_
    exact gr_z B hw (by rfl) d_MR_same_32 ⟨by first | exact Or.inl ⟨rfl, htp h7, (hz.resolve_right (fun q => h24 q.1)).2⟩ | exact Or.inr ⟨rfl, fun q => (hz.resolve_left (fun q => by rw [q.1] at h24; exact absurd h24 (by decide))).2 q.2⟩ | exact Or.inr ⟨rfl, fun q => absurd h7 (htn q.1)⟩, rfl, rfl⟩
  · skip
    refine lv_aload_n hx hb d_MR_same_10 rfl (lv_at hl 0 rfl) ?_
    refine gf_MR_kept hx hb T hown hK hw rfl (kf_MR_18 T) d_MR_same_11 ?_
    refine lv_aload_n hx hb d_MR_same_14 rfl (lv_at hl 0 rfl) ?_
    refine gf_MR_writer hx hb T hown hK hw rfl (kf_MR_33 T) d_MR_same_15 ?_
    refine gf_FW_form hx hb T hown hK hw rfl (kf_MR_165 T) d_MR_same_18 ?_
    refine gy_V (As := [.ref (s0.heap.size + oRow 5)]) B hl.1 hw (c_Row_holdsSameAs G M r ow 1 5 (by decide) (by decide) n2 n hn2 hn hs2 hs hc2 hc) (kd_Row_holdsSameAs T) (ki_Row T) (km_MR_177 T) (ka_Row_holdsSameAs T) (ks_Row_holdsSameAs T) ⟨by decide, by decide, by rfl⟩ (rv_Row hK hw (i := 1) (by decide) rfl) rfl (Nat.le_of_ble_eq_true rfl) ⟨by decide, by decide⟩ ⟨by decide, by decide⟩ d_MR_same_21 (fun v M1 r1 H locs hw hp => ?_) (fun x ek M1 r1 H locs hw hE hp => hp.elim)
    obtain ⟨hv, hM1, hr1⟩ := hp
    rw [hM1, hr1] at hw
    clear hM1 hr1
    obtain ⟨z, rfl, hz⟩ : ∃ z : Int32, v = some (.int z) ∧ ((z = 1 ∧ gSame M 1 5 n2 n) ∨ (z = 0 ∧ ¬ gSame M 1 5 n2 n)) := by
      rcases hv with ⟨h1, h2⟩ | ⟨h1, h2⟩
      · exact ⟨1, h1, Or.inl ⟨rfl, h2⟩⟩
      · exact ⟨0, h1, Or.inr ⟨rfl, h2⟩⟩
    refine lv_if_eq hx hb d_MR_same_24 rfl (fun h24 => ?_) (fun h24 => ?_)
    · skip
      refine lv_iconst (v := 0) hx hb d_MR_same_31 (by decide) ?_
      exact gr_z B hw (by rfl) d_MR_same_32 ⟨by first | exact Or.inl ⟨rfl, htp h7, (hz.resolve_right (fun q => h24 q.1)).2⟩ | exact Or.inr ⟨rfl, fun q => (hz.resolve_left (fun q => by rw [q.1] at h24; exact absurd h24 (by decide))).2 q.2⟩ | exact Or.inr ⟨rfl, fun q => absurd h7 (htn q.1)⟩, rfl, rfl⟩
    · skip
      refine lv_iconst (v := 1) hx hb d_MR_same_27 (by decide) ?_
      refine lv_goto hx hb d_MR_same_28 rfl ?_
      exact gr_z B hw (by rfl) d_MR_same_32 ⟨by first | exact Or.inl ⟨rfl, htp h7, (hz.resolve_right (fun q => h24 q.1)).2⟩ | exact Or.inr ⟨rfl, fun q => (hz.resolve_left (fun q => by rw [q.1] at h24; exact absurd h24 (by decide))).2 q.2⟩ | exact Or.inr ⟨rfl, fun q => absurd h7 (htn q.1)⟩, rfl, rfl⟩
