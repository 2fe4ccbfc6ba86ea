/-! Rows, values, attributes -/
def RW (M : gMem) (i : Nat) (L : List Int32) : Prop :=
  (M 0 i = nI L.length) ∧
  (L.length ≤ nRow i) ∧
  (∀ j, j < L.length → M (10 + i) j = ch L j) ∧
  (∀ j, cOK (ch L j))
theorem RW.len {M : gMem} {i : Nat} {L : List Int32} (h : RW M i L) : M 0 i = nI L.length := h.1
theorem RW.le {M : gMem} {i : Nat} {L : List Int32} (h : RW M i L) : L.length ≤ nRow i := h.2.1
theorem RW.chr {M : gMem} {i : Nat} {L : List Int32} (h : RW M i L) : ∀ j, j < L.length → M (10 + i) j = ch L j := h.2.2.1
theorem RW.okc {M : gMem} {i : Nat} {L : List Int32} (h : RW M i L) : ∀ j, cOK (ch L j) := h.2.2.2
theorem nRow_le {i : Nat} : nRow i ≤ 1440 := by
  rcases i with _ | _ | _ | _ | _ | _ | i <;> simp [nRow]
theorem RW.of {M M' : gMem} {i : Nat} {L : List Int32} (h : RW M i L) (h1 : M' 0 i = M 0 i) (h2 : ∀ j, M' (10 + i) j = M (10 + i) j) : RW M' i L :=
  ⟨h1.trans h.len, h.le, fun j hj => (h2 j).trans (h.chr j hj), h.okc⟩
theorem RW.mv {M : gMem} {j : Nat} {L : List Int32} (h : RW M j L) {t i : Nat} {v : Int32} (h2 : ¬ (t = 0 ∧ i = j)) (h3 : t ≠ 10 + j) : RW (mS M t i v) j L :=
  h.of (by unfold mS; rw [if_neg (by omega)]) (fun q => mS_tag M _ _ _ (Ne.symm h3))
theorem TX.rw {M : gMem} {T : List Int32} (h : TX M T) : RW M 2 T := ⟨h.len, h.le, h.chr, fun j => h.okk j⟩
theorem TX.of {M M' : gMem} {T : List Int32} (h : TX M T) (h1 : M' 0 2 = M 0 2) (h2 : ∀ j, M' 12 j = M 12 j) : TX M' T :=
  ⟨h1.trans h.len, h.le, fun j hj => (h2 j).trans (h.chr j hj), h.okc⟩
theorem f_rowAt {M : gMem} {i : Nat} {L : List Int32} (h : RW M i L) (fu : Nat) (r : gRef) {b : Nat} (hb : b < 2 ^ 31) : F_Row_at fu i (nI b) M r = .ok (ch L b) M r := by
  unfold F_Row_at
  have h9 := nRow_le (i := i)
  have hle := h.le
  rw [if_neg (nI_pos hb), h.len]
  by_cases q : b < L.length
  · rw [if_neg (nI_ge q (by omega)), gd_yes (vp_in_nI (by omega) (by omega)), nI_clamp hb, h.chr b q, gd_yes (gNc_ok (h.okc b))]
  · rw [if_pos (nI_le (by omega) hb), ch_out (by omega)]
/-- only row i has changed -/
def Kr (i : Nat) (M M' : gMem) : Prop := ∀ t j, t ≠ 10 + i → ¬ (t = 0 ∧ j = i) → M' t j = M t j
theorem Kr.tr {i : Nat} {M M1 M2 : gMem} (h : Kr i M M1) (h2 : Kr i M1 M2) : Kr i M M2 := fun t j a b => (h2 t j a b).trans (h t j a b)
theorem Kr.rfl' (i : Nat) (M : gMem) : Kr i M M := fun _ _ _ _ => rfl
theorem ch_app {L R : List Int32} {j : Nat} : ch (L ++ R) j = if j < L.length then ch L j else ch R (j - L.length) := by
  unfold ch
  rw [List.getD_eq_getElem?_getD, List.getD_eq_getElem?_getD, List.getD_eq_getElem?_getD]
  by_cases q : j < L.length
  · rw [if_pos q, List.getElem?_append_left q]
  · rw [if_neg q, List.getElem?_append_right (by omega)]
theorem f_put {M : gMem} {i : Nat} {L : List Int32} (h : RW M i L) (fu : Nat) (r : gRef) {c : Int32} (hc : cOK c) (hl : L.length < nRow i) : ∃ M', F_Row_put fu i c M r = .ok () M' r ∧ RW M' i (L ++ [c]) ∧ Kr i M M' := by
  have h9 := nRow_le (i := i)
  unfold F_Row_put
  rw [h.len, if_neg (nI_ge hl (by omega)), gd_yes (vp_in_nI hl (by omega)), nI_clamp (by omega), hc.vp]
  refine ⟨_, rfl, ⟨?_, ?_, ?_, ?_⟩, ?_⟩
  · rw [mS_same, mS_tag M (t := 10 + i) (t2 := 0) _ _ _ (by omega), h.len, nI_1, List.length_append]; rfl
  · rw [List.length_append]; simp only [List.length_cons, List.length_nil]; omega
  · intro j hj
    rw [mS_tag _ (t := 0) (t2 := 10 + i) _ _ _ (by omega), ch_app]
    rw [List.length_append] at hj; simp only [List.length_cons, List.length_nil] at hj
    by_cases q : j < L.length
    · rw [if_pos q, mS_ix _ _ _ (by omega), h.chr j q]
    · have e : j = L.length := by omega
      subst e; rw [if_neg q, mS_same, Nat.sub_self]; rfl
  · intro j; rw [ch_app]; split
    · exact h.okc j
    · rcases j - L.length with _ | n
      · exact hc
      · show cOK (ch [c] (n + 1)); rw [ch_out (by simp)]; exact cOK_0
  · intro t j a b
    rw [mS, if_neg b, mS, if_neg (by omega)]
theorem f_puts {i : Nat} {fu : Nat} {r : gRef} (q : Nat) {R : List Int32} (hR : gSt.getD q [] = R) (hok : ∀ j, cOK (ch R j)) (hll : R.length ≤ 240) (hfu : 240 < fu) {M : gMem} {L : List Int32} (h : RW M i L) (hl : L.length + R.length ≤ nRow i) : ∃ M', F_Row_putText fu i q M r = .ok () M' r ∧ RW M' i (L ++ R) ∧ Kr i M M' := by
  have key : ∀ d k M1, R.length - k < d → k ≤ R.length → RW M1 i (L ++ R.take k) → ∃ M', F_Row_putText_L2 fu i q d (nI k) M1 r = .ok () M' r ∧ RW M' i (L ++ R) ∧ Kr i M1 M' := by
    intro d
    induction d with
    | zero => intro k M1 h1; omega
    | succ d ih =>
      intro k M1 h1 h2 h3
      rw [F_Row_putText_L2, F_St_length, bnd_k, hR]
      by_cases qk : k < R.length
      · rw [if_neg (nI_ge qk (by omega)), f_charAt fu q _ r (by rw [hR]; exact qk) (by rw [hR]; omega), bnd_k, hR]
        obtain ⟨M2, e2, g1, g2⟩ := f_put h3 fu r (hok k) (by rw [List.length_append, List.length_take]; omega)
        rw [e2, bnd_k, nI_1]
        obtain ⟨M3, e3, g3, g4⟩ := ih (k + 1) M2 (by omega) (by omega) (by
          rw [List.take_add_one, List.getElem?_eq_getElem qk, ← ch_in qk, ← List.append_assoc]; exact g1)
        exact ⟨M3, e3, g3, g2.tr g4⟩
      · rw [if_pos (nI_le (by omega) (by omega)), F_Row_putText_B25]
        refine ⟨M1, rfl, ?_, Kr.rfl' i M1⟩
        rw [List.take_of_length_le (by omega)] at h3; exact h3
  have := key fu 0 M (by omega) (by omega) (by simpa using h)
  rw [nI_0] at this
  unfold F_Row_putText; exact this
/-! stretches -/
theorem stre_len {L : List Int32} {s z : Nat} (hz : z ≤ L.length) : (stre L s z).length = z - s := by
  unfold stre; rw [List.length_take, List.length_drop]; omega
theorem stre_cons {L : List Int32} {s z : Nat} (hz : z ≤ L.length) (hs : s < z) : stre L s z = ch L s :: stre L (s + 1) z := by
  unfold stre; rw [drop_ch (by omega), show z - s = (z - (s + 1)) + 1 by omega, List.take_succ_cons]
theorem stre_end {L : List Int32} {s z : Nat} (hs : z ≤ s) : stre L s z = [] := by
  unfold stre; rw [show z - s = 0 by omega]; rfl
theorem stre_app {L R : List Int32} {s z : Nat} (hz : z ≤ L.length) : stre (L ++ R) s z = stre L s z := by
  unfold stre
  by_cases q : s ≤ L.length
  · rw [List.drop_append_of_le_length q, List.take_append_of_le_length (by rw [List.length_drop]; omega)]
  · rw [show z - s = 0 by omega]; rfl
theorem stre_all {L R : List Int32} : stre (L ++ R) L.length (L.length + R.length) = R := by
  unfold stre; rw [List.drop_append_of_le_length (Nat.le_refl _), List.drop_length, List.nil_append, Nat.add_sub_cancel_left, List.take_length]
theorem f_stretchIs {M : gMem} {i : Nat} {L : List Int32} (h : RW M i L) (fu : Nat) (r : gRef) (q : Nat) {R : List Int32} (hR : gSt.getD q [] = R) (hll : R.length ≤ 240) {s z : Nat} (hs : s ≤ z) (hz : z ≤ L.length) (hfu : 240 < fu) :
    F_Row_stretchIs fu i (nI s) (nI z) q M r = .ok (b2 (stre L s z == R)) M r := by
  have h9 := nRow_le (i := i)
  have hle := h.le
  have key : ∀ d k, R.length - k < d → k ≤ R.length → z - s = R.length → F_Row_stretchIs_L15 fu i (nI s) (nI z) q d (nI k) M r = .ok (b2 (stre L (s + k) z == R.drop k)) M r := by
    intro d
    induction d with
    | zero => intro k h1; omega
    | succ d ih =>
      intro k h1 h2 h3
      rw [F_Row_stretchIs_L15, F_St_length, bnd_k, hR]
      by_cases qk : k < R.length
      · rw [if_neg (nI_ge qk (by omega)), nI_add, f_rowAt h fu r (by omega), bnd_k, f_charAt fu q _ r (by rw [hR]; exact qk) (by rw [hR]; omega), bnd_k, hR, nI_1, ih (k + 1) (by omega) (by omega) h3, stre_cons hz (by omega : s + k < z), drop_ch qk, List.cons_beq_cons]
        by_cases qc : ch L (s + k) = ch R k
        · rw [if_pos qc, qc, beq_self_eq_true, Bool.true_and]; rfl
        · rw [if_neg qc, (beq_eq_false_iff_ne).mpr qc]; rfl
      · rw [if_pos (nI_le (by omega) (by omega)), F_Row_stretchIs_B49, stre_end (by omega), List.drop_eq_nil_of_le (by omega)]; rfl
  unfold F_Row_stretchIs
  rw [F_St_length, bnd_k, hR, pk_sub hs]
  by_cases q3 : z - s = R.length
  · rw [if_pos (by rw [q3])]
    have := key fu 0 (by omega) (by omega) q3
    rw [nI_0] at this; exact this
  · rw [if_neg (fun e => q3 ((nI_eq (by omega) (by omega)).mp e))]
    have : (stre L s z == R) = false := by
      apply beq_eq_false_iff_ne.mpr; intro e; apply q3; rw [← e, stre_len hz]
    rw [this]; rfl
/-! order of stretches -/
theorem cOK_r {x : Int32} (h : cOK x) : 0 ≤ x.toInt ∧ x.toInt < 65536 := by
  obtain ⟨q, h1, rfl⟩ := h
  rw [nI_toInt (by omega)]; omega
theorem sub_z {x y : Int32} : x - y = 0 ↔ x = y := by
  constructor
  · intro h; grind
  · intro h; subst h; grind
theorem sub_n {x y : Int32} (hx : cOK x) (hy : cOK y) : x - y < 0 ↔ x < y := by
  have h1 := cOK_r hx
  have h2 := cOK_r hy
  have e1 : (0 : Int32).toInt = 0 := rfl
  rw [Int32.lt_iff_toInt_lt, Int32.lt_iff_toInt_lt, Int32.toInt_sub, e1]
  rw [Int.bmod_eq_of_le (by omega) (by omega)]
  omega
theorem f_order {M : gMem} {i : Nat} {L : List Int32} (h : RW M i L) (fu : Nat) (r : gRef) {s z s2 z2 : Nat} (hs : s ≤ z) (hz : z ≤ L.length) (hs2 : s2 ≤ z2) (hz2 : z2 ≤ L.length) (hfu : 1440 < fu) :
    ∃ v, F_Row_order fu i (nI s) (nI z) (nI s2) (nI z2) M r = .ok v M r ∧ (v = 0 ↔ stre L s z = stre L s2 z2) ∧ (v < 0 ↔ lxl (stre L s z) (stre L s2 z2) = true) := by
  have h9 := nRow_le (i := i)
  have hle := h.le
  have key : ∀ d k, L.length - k < d → s + k ≤ z → s2 + k ≤ z2 → ∃ v, F_Row_order_L14 fu i (nI s) (nI z) (nI s2) (nI z2) d (nI (z - s)) (nI (z2 - s2)) (nI k) M r = .ok v M r ∧ (v = 0 ↔ stre L (s + k) z = stre L (s2 + k) z2) ∧ (v < 0 ↔ lxl (stre L (s + k) z) (stre L (s2 + k) z2) = true) := by
    intro d
    induction d with
    | zero => intro k h1; omega
    | succ d ih =>
      intro k h1 h2 h3
      have hdiff : ∀ a b : Nat, a ≤ 1440 → b ≤ 1440 → (nI a - nI b = 0 ↔ a = b) ∧ (nI a - nI b < 0 ↔ a < b) := by
        intro a b ha hb
        refine ⟨sub_z.trans (nI_eq (by omega) (by omega)), ?_⟩
        rw [sub_n ⟨a, by omega, rfl⟩ ⟨b, by omega, rfl⟩, nI_ltI (by omega) (by omega)]
      rw [F_Row_order_L14, F_Row_order_B61]
      obtain ⟨d1, d2⟩ := hdiff (z - s) (z2 - s2) (by omega) (by omega)
      by_cases q1 : z - s ≤ k
      · rw [if_pos (nI_le q1 (by omega)), stre_end (by omega : z ≤ s + k)]
        refine ⟨_, rfl, ?_, ?_⟩
        · rw [d1]
          by_cases q2 : z2 - s2 ≤ k
          · rw [stre_end (by omega)]; constructor <;> intro _ <;> first | rfl | omega
          · rw [stre_cons hz2 (by omega)]; constructor
            · omega
            · intro e; cases e
        · rw [d2]
          by_cases q2 : z2 - s2 ≤ k
          · rw [stre_end (by omega)]; simp only [lxl]; constructor
            · omega
            · intro e; cases e
          · rw [stre_cons hz2 (by omega)]; simp only [lxl]; constructor <;> intro _ <;> first | trivial | omega
      · rw [if_neg (nI_ge (by omega) (by omega))]
        by_cases q2 : z2 - s2 ≤ k
        · rw [if_pos (nI_le q2 (by omega)), stre_end (by omega : z2 ≤ s2 + k), stre_cons hz (by omega : s + k < z)]
          refine ⟨_, rfl, ?_, ?_⟩
          · rw [d1]; constructor
            · omega
            · intro e; cases e
          · rw [d2]; simp only [lxl]; constructor
            · omega
            · intro e; cases e
        · rw [if_neg (nI_ge (by omega) (by omega)), nI_add, nI_add, f_rowAt h fu r (by omega), bnd_k, f_rowAt h fu r (by omega), bnd_k, nI_1, stre_cons hz (by omega : s + k < z), stre_cons hz2 (by omega : s2 + k < z2)]
          by_cases q3 : ch L (s + k) = ch L (s2 + k)
          · rw [if_pos (sub_z.mpr q3)]
            obtain ⟨v, e, g1, g2⟩ := ih (k + 1) (by omega) (by omega) (by omega)
            refine ⟨v, e, ?_, ?_⟩
            · rw [g1, q3]; constructor
              · intro e; rw [show s + (k + 1) = s + k + 1 by omega, show s2 + (k + 1) = s2 + k + 1 by omega] at e; rw [e]
              · intro e; injection e
            · rw [g2, lxl, if_pos q3]; rfl
          · rw [if_neg (fun e => q3 (sub_z.mp e))]
            refine ⟨_, rfl, ?_, ?_⟩
            · rw [sub_z]; constructor
              · intro e; exact absurd e q3
              · intro e; injection e
            · rw [sub_n (h.okc _) (h.okc _), lxl, if_neg q3, decide_eq_true_iff]
  unfold F_Row_order
  rw [pk_sub hs, pk_sub hs2]
  have := key fu 0 (by omega) (by omega) (by omega)
  rw [nI_0] at this; exact this
