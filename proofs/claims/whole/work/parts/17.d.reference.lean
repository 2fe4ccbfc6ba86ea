/-! The reference's form, formAt, keep and retype with a tree -/
theorem i2c_ok {x : Int32} (h : cOK x) : (x.toUInt32 % 65536).toInt32 = x := h.vp
/-- the first k of one array put into another -/
def mCy (M : gMem) (d o k : Nat) : gMem := fun t j => if t = d ∧ j < k then M o j else M t j
theorem mCy_0 (M : gMem) (d o : Nat) : mCy M d o 0 = M := by
  funext t j
  simp [mCy]
theorem mCy_tag (M : gMem) {d o k t : Nat} (h : t ≠ d) (j : Nat) : mCy M d o k t j = M t j := by
  simp [mCy, h]
theorem mCy_succ (M : gMem) {d o k : Nat} : mS (mCy M d o k) d k (M o k) = mCy M d o (k + 1) := by
  funext t j
  by_cases h : t = d
  · subst h
    by_cases h1 : j = k
    · subst h1; simp [mS, mCy]
    · by_cases h2 : j < k
      · have h3 : j < k + 1 := by omega
        simp [mS, mCy, h1, h2, h3]
      · have h3 : ¬ j < k + 1 := by omega
        simp [mS, mCy, h1, h2, h3]
  · simp [mS, mCy, h]
set_option maxHeartbeats 4000000 in
set_option maxRecDepth 100000 in
theorem c_Mo_form_1 {l : Launch} {s0 : State} {D : va_G} {aC : Nat → ClassId} {a0 : Array Value} (G : gG l s0 D aC a0) (M : gMem) (r : gRef) (ow : Int64) (h1 : M 106 0 = 1) (n : Nat) (hn : n ≤ 1440) (hs : M 126 0 = nI n) : gMet l s0 D aC y_Mo_form (Cond.code y_Mo_form b_Mo_form 1 (some .int)) 0 0 0 0 [.ref (s0.heap.size + 383)] M r ow (fun v M1 r1 => v = some (.int (nI n)) ∧ M1 = mS M 100 0 0 ∧ r1 = r) (fun _ _ _ => False) := by
  refine gm_of G (by decide) (Nat.le_of_ble_eq_true rfl) ?_
  intro p e s m below meth c ls B hexc hl hw
  have hx := B.1
  have hb := B.2.1
  have hown := B.2.2.2.2.2.1
  have T := B.2.2.2.2.2.2.1
  have hK := B.2.2.2.2.2.2.2.1
  refine lv_aload_n hx hb d_Mo_form_0 rfl (lv_at hl 0 rfl) ?_
  refine lv_iconst (v := 0) hx hb d_Mo_form_1 (by decide) ?_
  refine pf_Mo_thrown hx hb T hown hK hw rfl (kf_Mo_65 T) d_Mo_form_2 (fun H locs hw => ?_)
  refine lv_aload_n hx hb d_Mo_form_5 rfl (lv_at hl 0 rfl) ?_
  refine gf_Mo_tree hx hb T hown hK hw rfl (kf_Mo_189 T) d_Mo_form_6 ?_
  refine lv_if_eq hx hb d_Mo_form_9 rfl (fun h9 => absurd h9 (by rw [mS_tag M (t := 100) (t2 := 106) _ _ _ (by decide), h1]; decide)) (fun h9 => ?_)
  refine lv_aload_n hx hb d_Mo_form_12 rfl (lv_at hl 0 rfl) ?_
  refine gf_Mo_formed hx hb T hown hK hw rfl (kf_Mo_221 T) d_Mo_form_13 ?_
  refine lv_goto hx hb d_Mo_form_16 rfl ?_
  exact gr_i B hw d_Mo_form_20 ⟨by rw [mS_tag M (t := 100) (t2 := 126) _ _ _ (by decide), hs], rfl, rfl⟩
set_option maxHeartbeats 4000000 in
set_option maxRecDepth 100000 in
theorem c_Mo_formAt_1 {l : Launch} {s0 : State} {D : va_G} {aC : Nat → ClassId} {a0 : Array Value} (G : gG l s0 D aC a0) (M : gMem) (r : gRef) (ow : Int64) (h1 : M 106 0 = 1) (n : Nat) (hn : n ≤ 1440) (hs : M 126 0 = nI n) (hc : ∀ j, cOK (M 127 j)) (x : Int32) : gMet l s0 D aC y_Mo_formAt (Cond.code y_Mo_formAt b_Mo_formAt 2 (some .char)) 0 0 0 0 [.ref (s0.heap.size + 383), .int x] M r ow (fun v M1 r1 => (((x < 0 ∨ ¬ x < nI n) ∧ v = some (.int 0) ∧ M1 = mS M 100 0 1) ∨ (¬ x < 0 ∧ x < nI n ∧ v = some (.int (M 127 x.toNatClampNeg)) ∧ M1 = mS M 100 0 0)) ∧ r1 = r) (fun _ _ _ => False) := by
  refine gm_of G (by decide) (Nat.le_of_ble_eq_true rfl) ?_
  intro p e s m below meth c ls B hexc hl hw
  have hx := B.1
  have hb := B.2.1
  have hown := B.2.2.2.2.2.1
  have T := B.2.2.2.2.2.2.1
  have hK := B.2.2.2.2.2.2.2.1
  refine lv_aload_n hx hb d_Mo_formAt_0 rfl (lv_at hl 0 rfl) ?_
  refine lv_aload_n hx hb d_Mo_formAt_1 rfl (lv_at hl 0 rfl) ?_
  refine gf_Mo_tree hx hb T hown hK hw rfl (kf_Mo_189 T) d_Mo_formAt_2 ?_
  refine lv_if_eq hx hb d_Mo_formAt_5 rfl (fun h5 => absurd h5 (by rw [h1]; decide)) (fun h5 => ?_)
  refine lv_iload_n hx hb d_Mo_formAt_8 rfl (lv_at hl 1 rfl) ?_
  refine lv_if_lt hx hb d_Mo_formAt_9 rfl (fun h9 => ?_) (fun h9 => ?_)
  · skip
    refine lv_iconst (v := 1) hx hb d_Mo_formAt_20 (by decide) ?_
    refine lv_goto hx hb d_Mo_formAt_21 rfl ?_
    refine pf_Mo_thrown hx hb T hown hK hw rfl (kf_Mo_65 T) d_Mo_formAt_25 (fun H locs hw => ?_)
    refine lv_aload_n hx hb d_Mo_formAt_28 rfl (lv_at hl 0 rfl) ?_
    refine gf_Mo_thrown hx hb T hown hK hw rfl (kf_Mo_65 T) d_Mo_formAt_29 ?_
    refine lv_if_eq hx hb d_Mo_formAt_32 rfl (fun h32 => absurd h32 (by rw [mS_same]; decide)) (fun h32 => ?_)
    refine lv_iconst (v := 0) hx hb d_Mo_formAt_35 (by decide) ?_
    refine lv_goto hx hb d_Mo_formAt_36 rfl ?_
    exact gr_z B hw (by first | rfl | exact (hc _).nar) d_Mo_formAt_46 (by first | exact ⟨Or.inl ⟨by first | exact Or.inl h9 | exact Or.inr (by rw [← hs]; exact h17), rfl, rfl⟩, rfl⟩ | exact ⟨Or.inr ⟨h9, by rw [← hs]; exact h17, rfl, rfl⟩, rfl⟩)
  · skip
    refine lv_iload_n hx hb d_Mo_formAt_12 rfl (lv_at hl 1 rfl) ?_
    refine lv_aload_n hx hb d_Mo_formAt_13 rfl (lv_at hl 0 rfl) ?_
    refine gf_Mo_formed hx hb T hown hK hw rfl (kf_Mo_221 T) d_Mo_formAt_14 ?_
    refine lv_icmp_lt hx hb d_Mo_formAt_17 rfl (fun h17 => ?_) (fun h17 => ?_)
    · skip
      refine lv_iconst (v := 0) hx hb d_Mo_formAt_24 (by decide) ?_
      refine pf_Mo_thrown hx hb T hown hK hw rfl (kf_Mo_65 T) d_Mo_formAt_25 (fun H locs hw => ?_)
      refine lv_aload_n hx hb d_Mo_formAt_28 rfl (lv_at hl 0 rfl) ?_
      refine gf_Mo_thrown hx hb T hown hK hw rfl (kf_Mo_65 T) d_Mo_formAt_29 ?_
      refine lv_if_eq hx hb d_Mo_formAt_32 rfl (fun h32 => ?_) (fun h32 => absurd (mS_same M 100 0 0) h32)
      refine lv_aload_n hx hb d_Mo_formAt_39 rfl (lv_at hl 0 rfl) ?_
      refine gf_Mo_written hx hb T hown hK hw rfl (kf_Mo_59 T) d_Mo_formAt_40 ?_
      refine lv_iload_n hx hb d_Mo_formAt_43 rfl (lv_at hl 1 rfl) ?_
      refine ga_Mo_written (x := x) hx hb hK hw rfl (gi_in (n := n) h9 (by first | (rw [hs] at h17; exact Int32.not_le.mpr h17) | exact fun _ => (by contradiction)) (by omega) (by decide)) d_Mo_formAt_44 ?_
      rw [mS_tag M (t := 100) (t2 := 127) _ _ _ (by decide)]
      refine lv_i2c hx hb d_Mo_formAt_45 rfl ?_
      rw [i2c_ok (hc _)]
      exact gr_z B hw (by first | rfl | exact (hc _).nar) d_Mo_formAt_46 (by first | exact ⟨Or.inl ⟨by first | exact Or.inl h9 | exact Or.inr (by rw [← hs]; exact h17), rfl, rfl⟩, rfl⟩ | exact ⟨Or.inr ⟨h9, by rw [← hs]; exact h17, rfl, rfl⟩, rfl⟩)
    · skip
      refine lv_iconst (v := 1) hx hb d_Mo_formAt_20 (by decide) ?_
      refine lv_goto hx hb d_Mo_formAt_21 rfl ?_
      refine pf_Mo_thrown hx hb T hown hK hw rfl (kf_Mo_65 T) d_Mo_formAt_25 (fun H locs hw => ?_)
      refine lv_aload_n hx hb d_Mo_formAt_28 rfl (lv_at hl 0 rfl) ?_
      refine gf_Mo_thrown hx hb T hown hK hw rfl (kf_Mo_65 T) d_Mo_formAt_29 ?_
      refine lv_if_eq hx hb d_Mo_formAt_32 rfl (fun h32 => absurd h32 (by rw [mS_same]; decide)) (fun h32 => ?_)
      refine lv_iconst (v := 0) hx hb d_Mo_formAt_35 (by decide) ?_
      refine lv_goto hx hb d_Mo_formAt_36 rfl ?_
      exact gr_z B hw (by first | rfl | exact (hc _).nar) d_Mo_formAt_46 (by first | exact ⟨Or.inl ⟨by first | exact Or.inl h9 | exact Or.inr (by rw [← hs]; exact h17), rfl, rfl⟩, rfl⟩ | exact ⟨Or.inr ⟨h9, by rw [← hs]; exact h17, rfl, rfl⟩, rfl⟩)
set_option maxHeartbeats 4000000 in
set_option maxRecDepth 100000 in
theorem c_Mo_keep_1 {l : Launch} {s0 : State} {D : va_G} {aC : Nat → ClassId} {a0 : Array Value} (G : gG l s0 D aC a0) (M : gMem) (r : gRef) (ow : Int64) (h1 : M 106 0 = 1) (n : Nat) (hn : n ≤ 1440) (hs : M 126 0 = nI n) : gMet l s0 D aC y_Mo_keep (Cond.code y_Mo_keep b_Mo_keep 2 none) 0 0 0 0 [.ref (s0.heap.size + 383)] M r ow (fun v M1 r1 => v = none ∧ M1 = mCy (mS (mS (mS M 100 0 0) 128 0 1) 129 0 (M 126 0)) 130 127 n ∧ r1 = r) (fun _ _ _ => False) := by
  refine gm_of G (by decide) (Nat.le_of_ble_eq_true rfl) ?_
  intro p e s m below meth c ls B hexc hl hw
  have hx := B.1
  have hb := B.2.1
  have hown := B.2.2.2.2.2.1
  have T := B.2.2.2.2.2.2.1
  have hK := B.2.2.2.2.2.2.2.1
  have hbs : (mS (mS (mS M 100 0 0) 128 0 1) 129 0 (M 126 0)) 126 0 = nI n := by simp [mS, hs]
  have key : ∀ (d k : Nat), k + d = n → ∀ (H : Heap) (locs : List Loc) (ls : Array Slot), lv_has ls 2 [(1, .int (nI k)), (0, .ref (s0.heap.size + 383))] → gWd s0 D aC (mCy (mS (mS (mS M 100 0 0) 128 0 1) 129 0 (M 126 0)) 130 127 k) (r) ow H locs → W p l e (gRm 0 0 0 0) s m ([.ref (s0.heap.size + 383)] : List Value).toArray below meth c H locs 0 0 (gt_Q below (gQ s0 D aC ow (fun v M1 r1 => v = none ∧ M1 = mCy (mS (mS (mS M 100 0 0) 128 0 1) 129 0 (M 126 0)) 130 127 n ∧ r1 = r) (fun _ _ _ => False)) s 0 0 0 0 (fun q => s0.heap.size ≤ q)) (F0 m 38 ls []) := by
    intro d
    induction d with
    | zero =>
      intro k hd H locs ls hl hw
      refine lv_iload_n hx hb d_Mo_keep_38 rfl (lv_at hl 0 rfl) ?_
      refine lv_aload_n hx hb d_Mo_keep_39 rfl (lv_at hl 1 rfl) ?_
      refine gf_Mo_formed hx hb T hown hK hw rfl (kf_Mo_221 T) d_Mo_keep_40 ?_
      refine lv_icmp_ge hx hb d_Mo_keep_43 rfl (fun h43 => ?_) (fun h43 => absurd (by rw [mCy_tag _ (by decide), hbs]; exact nI_le (by omega) (by omega)) h43)
      exact gr_v B hw d_Mo_keep_64 ⟨rfl, by rw [show k = n by omega], rfl⟩
    | succ d ih =>
      intro k hd H locs ls hl hw
      refine lv_iload_n hx hb d_Mo_keep_38 rfl (lv_at hl 0 rfl) ?_
      refine lv_aload_n hx hb d_Mo_keep_39 rfl (lv_at hl 1 rfl) ?_
      refine gf_Mo_formed hx hb T hown hK hw rfl (kf_Mo_221 T) d_Mo_keep_40 ?_
      refine lv_icmp_ge hx hb d_Mo_keep_43 rfl (fun h43 => absurd h43 (by rw [mCy_tag _ (by decide), hbs]; exact nI_ge (by omega) (by omega))) (fun h43 => ?_)
      refine lv_aload_n hx hb d_Mo_keep_46 rfl (lv_at hl 1 rfl) ?_
      refine gf_Mo_keptForm hx hb T hown hK hw rfl (kf_Mo_62 T) d_Mo_keep_47 ?_
      refine lv_iload_n hx hb d_Mo_keep_50 rfl (lv_at hl 0 rfl) ?_
      refine lv_aload_n hx hb d_Mo_keep_51 rfl (lv_at hl 1 rfl) ?_
      refine gf_Mo_written hx hb T hown hK hw rfl (kf_Mo_59 T) d_Mo_keep_52 ?_
      refine lv_iload_n hx hb d_Mo_keep_55 rfl (lv_at hl 0 rfl) ?_
      refine ga_Mo_written (x := nI k) hx hb hK hw rfl (gi_in0 (by omega) (by decide)) d_Mo_keep_56 ?_
      rw [nI_clamp (n := k) (by omega), mCy_tag _ (by decide)]
      refine gs_Mo_keptForm (x := nI k) hx hb hK hw rfl (gi_in0 (by omega) (by decide)) d_Mo_keep_57 (fun H locs hw => ?_)
      rw [nI_clamp (n := k) (by omega), mCy_succ] at hw
      refine lv_iinc (k := 0) hx hb d_Mo_keep_58 hl rfl (show _ + Int32.ofInt 1 = _ + 1 from rfl) (by decide) rfl (fun ls hl => ?_)
      refine lv_goto hx hb d_Mo_keep_61 rfl ?_
      exact ih (k + 1) (by omega) _ _ _ (by rw [nI_1] at hl; exact hl) hw
  refine lv_aload_n hx hb d_Mo_keep_0 rfl (lv_at hl 0 rfl) ?_
  refine lv_aload_n hx hb d_Mo_keep_1 rfl (lv_at hl 0 rfl) ?_
  refine gf_Mo_tree hx hb T hown hK hw rfl (kf_Mo_189 T) d_Mo_keep_2 ?_
  refine lv_if_eq hx hb d_Mo_keep_5 rfl (fun h5 => absurd h5 (by rw [h1]; decide)) (fun h5 => ?_)
  refine lv_iconst (v := 0) hx hb d_Mo_keep_8 (by decide) ?_
  refine lv_goto hx hb d_Mo_keep_9 rfl ?_
  refine pf_Mo_thrown hx hb T hown hK hw rfl (kf_Mo_65 T) d_Mo_keep_13 (fun H locs hw => ?_)
  refine lv_aload_n hx hb d_Mo_keep_16 rfl (lv_at hl 0 rfl) ?_
  refine gf_Mo_tree hx hb T hown hK hw rfl (kf_Mo_189 T) d_Mo_keep_17 ?_
  refine lv_if_eq hx hb d_Mo_keep_20 rfl (fun h20 => absurd h20 (by rw [mS_tag M (t := 100) (t2 := 106) _ _ _ (by decide), h1]; decide)) (fun h20 => ?_)
  refine lv_aload_n hx hb d_Mo_keep_23 rfl (lv_at hl 0 rfl) ?_
  refine lv_iconst (v := 1) hx hb d_Mo_keep_24 (by decide) ?_
  refine pf_Mo_keeps hx hb T hown hK hw rfl (Or.inr rfl) (kf_Mo_263 T) d_Mo_keep_25 (fun H locs hw => ?_)
  refine lv_aload_n hx hb d_Mo_keep_28 rfl (lv_at hl 0 rfl) ?_
  refine lv_aload_n hx hb d_Mo_keep_29 rfl (lv_at hl 0 rfl) ?_
  refine gf_Mo_formed hx hb T hown hK hw rfl (kf_Mo_221 T) d_Mo_keep_30 ?_
  refine pf_Mo_keptSize hx hb T hown hK hw rfl (kf_Mo_266 T) d_Mo_keep_33 (fun H locs hw => ?_)
  refine lv_iconst (v := 0) hx hb d_Mo_keep_36 (by decide) ?_
  refine lv_istore_n hx hb d_Mo_keep_37 rfl hl (by decide) rfl (fun ls hl => ?_)
  exact key n 0 (by omega) _ _ _ hl (by rw [mCy_0]; exact hw)
set_option maxHeartbeats 4000000 in
set_option maxRecDepth 100000 in
theorem c_Mo_retype_1 {l : Launch} {s0 : State} {D : va_G} {aC : Nat → ClassId} {a0 : Array Value} (G : gG l s0 D aC a0) (M : gMem) (r : gRef) (ow : Int64) (h1 : M 106 0 = 1) (n : Nat) (hn : n ≤ 1440) (hs : M 126 0 = nI n) : gMet l s0 D aC y_Mo_retype (Cond.code y_Mo_retype b_Mo_retype 2 (some .int)) 0 0 0 0 [.ref (s0.heap.size + 383)] M r ow (fun v M1 r1 => ((n ≤ 240 ∧ v = some (.int (nI n)) ∧ M1 = mCy (mS (mS M 100 0 0) 101 0 (M 126 0)) 102 127 n) ∨ (240 < n ∧ v = some (.int 0) ∧ M1 = mS M 100 0 1)) ∧ r1 = r) (fun _ _ _ => False) := by
  refine gm_of G (by decide) (Nat.le_of_ble_eq_true rfl) ?_
  intro p e s m below meth c ls B hexc hl hw
  have hx := B.1
  have hb := B.2.1
  have hown := B.2.2.2.2.2.1
  have T := B.2.2.2.2.2.2.1
  have hK := B.2.2.2.2.2.2.2.1
  by_cases h240 : n ≤ 240
  · skip
    have hbs : (mS (mS M 100 0 0) 101 0 (M 126 0)) 126 0 = nI n := by simp [mS, hs]
    have key : ∀ (d k : Nat), k + d = n → ∀ (H : Heap) (locs : List Loc) (ls : Array Slot), lv_has ls 2 [(1, .int (nI k)), (0, .ref (s0.heap.size + 383))] → gWd s0 D aC (mCy (mS (mS M 100 0 0) 101 0 (M 126 0)) 102 127 k) (r) ow H locs → W p l e (gRm 0 0 0 0) s m ([.ref (s0.heap.size + 383)] : List Value).toArray below meth c H locs 0 0 (gt_Q below (gQ s0 D aC ow (fun v M1 r1 => ((n ≤ 240 ∧ v = some (.int (nI n)) ∧ M1 = mCy (mS (mS M 100 0 0) 101 0 (M 126 0)) 102 127 n) ∨ (240 < n ∧ v = some (.int 0) ∧ M1 = mS M 100 0 1)) ∧ r1 = r) (fun _ _ _ => False)) s 0 0 0 0 (fun q => s0.heap.size ≤ q)) (F0 m 45 ls []) := by
      intro d
      induction d with
      | zero =>
        intro k hd H locs ls hl hw
        refine lv_iload_n hx hb d_Mo_retype_45 rfl (lv_at hl 0 rfl) ?_
        refine lv_aload_n hx hb d_Mo_retype_46 rfl (lv_at hl 1 rfl) ?_
        refine gf_Mo_formed hx hb T hown hK hw rfl (kf_Mo_221 T) d_Mo_retype_47 ?_
        refine lv_icmp_ge hx hb d_Mo_retype_50 rfl (fun h50 => ?_) (fun h50 => absurd (by rw [mCy_tag _ (by decide), hbs]; exact nI_le (by omega) (by omega)) h50)
        refine lv_aload_n hx hb d_Mo_retype_71 rfl (lv_at hl 1 rfl) ?_
        refine gf_Mo_typed hx hb T hown hK hw rfl (kf_Mo_72 T) d_Mo_retype_72 ?_
        exact gr_i B hw d_Mo_retype_75 ⟨Or.inl ⟨h240, by rw [mCy_tag _ (by decide), mS_same, hs], by rw [show k = n by omega]⟩, rfl⟩
      | succ d ih =>
        intro k hd H locs ls hl hw
        refine lv_iload_n hx hb d_Mo_retype_45 rfl (lv_at hl 0 rfl) ?_
        refine lv_aload_n hx hb d_Mo_retype_46 rfl (lv_at hl 1 rfl) ?_
        refine gf_Mo_formed hx hb T hown hK hw rfl (kf_Mo_221 T) d_Mo_retype_47 ?_
        refine lv_icmp_ge hx hb d_Mo_retype_50 rfl (fun h50 => absurd h50 (by rw [mCy_tag _ (by decide), hbs]; exact nI_ge (by omega) (by omega))) (fun h50 => ?_)
        refine lv_aload_n hx hb d_Mo_retype_53 rfl (lv_at hl 1 rfl) ?_
        refine gf_Mo_text hx hb T hown hK hw rfl (kf_Mo_7 T) d_Mo_retype_54 ?_
        refine lv_iload_n hx hb d_Mo_retype_57 rfl (lv_at hl 0 rfl) ?_
        refine lv_aload_n hx hb d_Mo_retype_58 rfl (lv_at hl 1 rfl) ?_
        refine gf_Mo_written hx hb T hown hK hw rfl (kf_Mo_59 T) d_Mo_retype_59 ?_
        refine lv_iload_n hx hb d_Mo_retype_62 rfl (lv_at hl 0 rfl) ?_
        refine ga_Mo_written (x := nI k) hx hb hK hw rfl (gi_in0 (by omega) (by decide)) d_Mo_retype_63 ?_
        rw [nI_clamp (n := k) (by omega), mCy_tag _ (by decide)]
        refine gs_Mo_text (x := nI k) hx hb hK hw rfl (gi_in0 (by omega) (by decide)) d_Mo_retype_64 (fun H locs hw => ?_)
        rw [nI_clamp (n := k) (by omega), mCy_succ] at hw
        refine lv_iinc (k := 0) hx hb d_Mo_retype_65 hl rfl (show _ + Int32.ofInt 1 = _ + 1 from rfl) (by decide) rfl (fun ls hl => ?_)
        refine lv_goto hx hb d_Mo_retype_68 rfl ?_
        exact ih (k + 1) (by omega) _ _ _ (by rw [nI_1] at hl; exact hl) hw
    refine lv_aload_n hx hb d_Mo_retype_0 rfl (lv_at hl 0 rfl) ?_
    refine lv_aload_n hx hb d_Mo_retype_1 rfl (lv_at hl 0 rfl) ?_
    refine gf_Mo_tree hx hb T hown hK hw rfl (kf_Mo_189 T) d_Mo_retype_2 ?_
    refine lv_if_eq hx hb d_Mo_retype_5 rfl (fun h5 => absurd h5 (by rw [h1]; decide)) (fun h5 => ?_)
    refine lv_aload_n hx hb d_Mo_retype_8 rfl (lv_at hl 0 rfl) ?_
    refine gf_Mo_formed hx hb T hown hK hw rfl (kf_Mo_221 T) d_Mo_retype_9 ?_
    refine lv_sipush (v := 240) hx hb d_Mo_retype_12 (by decide) ?_
    refine lv_icmp_le hx hb d_Mo_retype_15 rfl (fun h15 => ?_) (fun h15 => absurd (by rw [hs]; exact nI_le (b := 240) h240 (by decide)) h15)
    refine lv_iconst (v := 0) hx hb d_Mo_retype_22 (by decide) ?_
    refine pf_Mo_thrown hx hb T hown hK hw rfl (kf_Mo_65 T) d_Mo_retype_23 (fun H locs hw => ?_)
    refine lv_aload_n hx hb d_Mo_retype_26 rfl (lv_at hl 0 rfl) ?_
    refine gf_Mo_thrown hx hb T hown hK hw rfl (kf_Mo_65 T) d_Mo_retype_27 ?_
    refine lv_if_eq hx hb d_Mo_retype_30 rfl (fun h30 => ?_) (fun h30 => absurd (mS_same M 100 0 0) h30)
    refine lv_aload_n hx hb d_Mo_retype_35 rfl (lv_at hl 0 rfl) ?_
    refine lv_aload_n hx hb d_Mo_retype_36 rfl (lv_at hl 0 rfl) ?_
    refine gf_Mo_formed hx hb T hown hK hw rfl (kf_Mo_221 T) d_Mo_retype_37 ?_
    refine pf_Mo_typed hx hb T hown hK hw rfl (kf_Mo_72 T) d_Mo_retype_40 (fun H locs hw => ?_)
    refine lv_iconst (v := 0) hx hb d_Mo_retype_43 (by decide) ?_
    refine lv_istore_n hx hb d_Mo_retype_44 rfl hl (by decide) rfl (fun ls hl => ?_)
    exact key n 0 (by omega) _ _ _ hl (by rw [mCy_0]; exact hw)
  · skip
    refine lv_aload_n hx hb d_Mo_retype_0 rfl (lv_at hl 0 rfl) ?_
    refine lv_aload_n hx hb d_Mo_retype_1 rfl (lv_at hl 0 rfl) ?_
    refine gf_Mo_tree hx hb T hown hK hw rfl (kf_Mo_189 T) d_Mo_retype_2 ?_
    refine lv_if_eq hx hb d_Mo_retype_5 rfl (fun h5 => absurd h5 (by rw [h1]; decide)) (fun h5 => ?_)
    refine lv_aload_n hx hb d_Mo_retype_8 rfl (lv_at hl 0 rfl) ?_
    refine gf_Mo_formed hx hb T hown hK hw rfl (kf_Mo_221 T) d_Mo_retype_9 ?_
    refine lv_sipush (v := 240) hx hb d_Mo_retype_12 (by decide) ?_
    refine lv_icmp_le hx hb d_Mo_retype_15 rfl (fun h15 => absurd h15 (by rw [hs]; exact nI_ge (a := 240) (by omega) (by omega))) (fun h15 => ?_)
    refine lv_iconst (v := 1) hx hb d_Mo_retype_18 (by decide) ?_
    refine lv_goto hx hb d_Mo_retype_19 rfl ?_
    refine pf_Mo_thrown hx hb T hown hK hw rfl (kf_Mo_65 T) d_Mo_retype_23 (fun H locs hw => ?_)
    refine lv_aload_n hx hb d_Mo_retype_26 rfl (lv_at hl 0 rfl) ?_
    refine gf_Mo_thrown hx hb T hown hK hw rfl (kf_Mo_65 T) d_Mo_retype_27 ?_
    refine lv_if_eq hx hb d_Mo_retype_30 rfl (fun h30 => absurd h30 (by rw [mS_same]; decide)) (fun h30 => ?_)
    refine lv_iconst (v := 0) hx hb d_Mo_retype_33 (by decide) ?_
    exact gr_i B hw d_Mo_retype_34 ⟨Or.inr ⟨by omega, rfl, rfl⟩, rfl⟩
