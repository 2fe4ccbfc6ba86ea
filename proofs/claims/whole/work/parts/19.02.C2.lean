/-! What a failing leaves, what is kept -/
def Fr (M M' : gMem) : Prop := ∀ t i, (100 ≤ t ∨ (t = 0 ∧ i < 2) ∨ t = 10 ∨ t = 11 ∨ ((t = 23 ∨ t = 24) ∧ i = 144)) → M' t i = M t i
theorem Fr.rfl' (M : gMem) : Fr M M := fun _ _ _ => rfl
theorem Fr.tr {M M1 M2 : gMem} (h : Fr M M1) (h2 : Fr M1 M2) : Fr M M2 := fun t i q => (h2 t i q).trans (h t i q)
theorem Fr.s {M M1 : gMem} (h : Fr M M1) {t i : Nat} {v : Int32} (h2 : ¬ (100 ≤ t ∨ (t = 0 ∧ i < 2) ∨ t = 10 ∨ t = 11 ∨ ((t = 23 ∨ t = 24) ∧ i = 144))) : Fr M (mS M1 t i v) := by
  intro t2 i2 q
  rw [← h t2 i2 q]; unfold mS; rw [if_neg]; intro q2; rw [q2.1, q2.2] at q; exact h2 q
def Er (M M' : gMem) (w p : Nat) : Prop :=
  (M' 2 0 = 0) ∧
  (M' 0 5 = 0) ∧
  (M' 36 0 = nI w) ∧
  (M' 37 0 = nI p) ∧
  (Fr M M')
theorem Er.sz {M M' : gMem} {w p : Nat} (h : Er M M' w p) : M' 2 0 = 0 := h.1
theorem Er.fm {M M' : gMem} {w p : Nat} (h : Er M M' w p) : M' 0 5 = 0 := h.2.1
theorem Er.why {M M' : gMem} {w p : Nat} (h : Er M M' w p) : M' 36 0 = nI w := h.2.2.1
theorem Er.whr {M M' : gMem} {w p : Nat} (h : Er M M' w p) : M' 37 0 = nI p := h.2.2.2.1
theorem Er.fr {M M' : gMem} {w p : Nat} (h : Er M M' w p) : Fr M M' := h.2.2.2.2
def Ex {α : Type} (x : gO α) (M : gMem) (w : Wr) : Prop := ∃ M' r', x = .ex 0 M' r' ∧ Er M M' w.1 w.2
theorem Er.tr {M M1 M2 : gMem} {w p : Nat} (h : Fr M M1) (h2 : Er M1 M2 w p) : Er M M2 w p := ⟨h2.sz, h2.fm, h2.why, h2.whr, h.tr h2.fr⟩
theorem Ex.tr {α : Type} {x : gO α} {M M1 : gMem} {w : Wr} (h : Fr M M1) (h2 : Ex x M1 w) : Ex x M w := by
  obtain ⟨M2, r2, h3, h4⟩ := h2; exact ⟨M2, r2, h3, h4.tr h⟩
theorem Ex.bnd {α β : Type} {x : gO α} {M : gMem} {w : Wr} (f : α → gMem → gRef → gO β) (h : Ex x M w) : Ex (gO.bnd x f) M w := by
  obtain ⟨M2, r2, h3, h4⟩ := h; exact ⟨M2, r2, by rw [h3]; rfl, h4⟩
theorem f_fail {M : gMem} (fu : Nat) (r : gRef) {w p : Int32} {a b : Nat} (hw : w = nI a) (hp : p = nI b) : Ex (F_Rd_fail fu w p M r) M (a, b) := by
  refine ⟨_, _, rfl, ?_, ?_, ?_, ?_, ?_⟩
  · simp [mS]
  · simp [mS]
  · rw [← hw]; simp [mS]
  · rw [← hp]; simp [mS]
  · exact ((((Fr.rfl' M).s (by omega)).s (by omega)).s (by omega)).s (by omega)
def Lx (x : gO Unit) (M : gMem) (r : gRef) : Except Wr Nat → Prop
  | .ok b => x = .ok () (mS M 35 0 (nI b)) r
  | .error w => Ex x M w
theorem f_pass {M : gMem} {T : List Int32} (h : TX M T) (fu : Nat) (r : gRef) {a : Nat} (ha : M 35 0 = nI a) (hb : a ≤ T.length) (c : Int32) : Lx (F_Rd_pass fu c M r) M r (if ch T a = c then .ok (a + 1) else .error (1, a)) := by
  have hle := h.le
  unfold F_Rd_pass
  rw [f_next h fu r ha (by omega), bnd_k]
  by_cases q : ch T a = c
  · rw [if_pos q, if_pos q, ha, nI_1]; rfl
  · rw [if_neg q, if_neg q]; exact Ex.bnd _ (f_fail fu r rfl ha)
theorem f_pass1 {M : gMem} {T : List Int32} (h : TX M T) (fu : Nat) (r : gRef) {a : Nat} (ha : M 35 0 = nI a) (hb : a ≤ T.length) {c : Int32} (hc : ch T a = c) : F_Rd_pass fu c M r = .ok () (mS M 35 0 (nI (a + 1))) r := by
  have := f_pass h fu r ha hb c; rw [if_pos hc] at this; exact this
theorem f_pass0 {M : gMem} {T : List Int32} (h : TX M T) (fu : Nat) (r : gRef) {a : Nat} (ha : M 35 0 = nI a) (hb : a ≤ T.length) {c : Int32} (hc : ch T a ≠ c) : Ex (F_Rd_pass fu c M r) M (1, a) := by
  have := f_pass h fu r ha hb c; rw [if_neg hc] at this; exact this
theorem lt_of_ch {T : List Int32} {a : Nat} {c : Int32} (h : ch T a = c) (hc : c ≠ 0) : a < T.length := by
  rcases Nat.lt_or_ge a T.length with q | q
  · exact q
  · rw [ch_out q] at h; exact absurd h.symm hc
theorem f_charAt (fu q : Nat) (M : gMem) (r : gRef) {i : Nat} (hi : i < (gSt.getD q []).length) (hl : (gSt.getD q []).length < 2 ^ 31) : F_St_charAt fu q (nI i) M r = .ok (ch (gSt.getD q []) i) M r := by
  unfold F_St_charAt; rw [gd_yes (vp_in_nI hi hl), nI_clamp (by omega)]; rfl
theorem f_passAll {M : gMem} {T : List Int32} (h : TX M T) (fu : Nat) (r : gRef) {a : Nat} (ha : M 35 0 = nI a) (hb : a ≤ T.length) (q : Nat) {L : List Int32} (hL : gSt.getD q [] = L) (hz : ∀ c ∈ L, c ≠ 0) (hll : L.length ≤ 240) (hfu : 240 < fu) :
    Lx (F_Rd_passAll fu q M r) M r (pa T a L) := by
  have hle := h.le
  have key : ∀ d i b, L.length - i < d → i ≤ L.length → b ≤ T.length → Lx (F_Rd_passAll_L2 fu q d (nI i) (mS M 35 0 (nI b)) r) M r (pa T b (L.drop i)) := by
    intro d
    induction d with
    | zero => intro i b h1; omega
    | succ d ih =>
      intro i b h1 h2 h3
      have hT : TX (mS M 35 0 (nI b)) T := h.mv (by omega) (by decide)
      rw [F_Rd_passAll_L2, F_St_length, bnd_k, hL]
      by_cases qi : i < L.length
      · rw [if_neg (nI_ge qi (by omega)), f_charAt fu q _ r (by rw [hL]; exact qi) (by rw [hL]; omega), bnd_k, hL, drop_ch qi, pa]
        by_cases qc : ch T b = ch L i
        · rw [f_pass1 hT fu r (mS_same _ _ _ _) h3 qc, bnd_k, if_pos qc, mS_mS, nI_1]
          have hne : ch L i ≠ 0 := by rw [ch_in qi]; exact hz _ (List.getElem_mem qi)
          have := lt_of_ch qc hne
          exact ih (i + 1) (b + 1) (by omega) (by omega) (by omega)
        · rw [if_neg qc]
          exact Ex.tr ((Fr.rfl' M).s (by omega)) (Ex.bnd _ (f_pass0 hT fu r (mS_same _ _ _ _) h3 qc))
      · rw [if_pos (nI_le (by omega) (by omega)), F_Rd_passAll_B25, List.drop_eq_nil_of_le (by omega)]; rfl
  have := key fu 0 a (by omega) (by omega) hb
  rw [← ha, mS_self, nI_0] at this
  unfold F_Rd_passAll; exact this
theorem f_passIf {M : gMem} {T : List Int32} (h : TX M T) (fu : Nat) (r : gRef) {a : Nat} (ha : M 35 0 = nI a) (hb : a ≤ T.length) (q : Nat) {L : List Int32} (hL : gSt.getD q [] = L) (hll : L.length ≤ 240) (hfu : 240 < fu) :
    F_Rd_passIfThere fu q M r = if isAt T a L then .ok 1 (mS M 35 0 (nI (a + L.length))) r else .ok 0 M r := by
  have hle := h.le
  have key : ∀ d i, L.length - i < d → i ≤ L.length → F_Rd_passIfThere_L2 fu q d (nI i) M r = if isAt T (a + i) (L.drop i) then .ok 1 (mS M 35 0 (nI (a + L.length))) r else .ok 0 M r := by
    intro d
    induction d with
    | zero => intro i h1; omega
    | succ d ih =>
      intro i h1 h2
      rw [F_Rd_passIfThere_L2, F_St_length, bnd_k, hL]
      by_cases qi : i < L.length
      · rw [if_neg (nI_ge qi (by omega)), f_nextk h fu r ha i (by omega), bnd_k, f_charAt fu q _ r (by rw [hL]; exact qi) (by rw [hL]; omega), bnd_k, hL, drop_ch qi, isAt, nI_1, ih (i + 1) (by omega) (by omega)]
        by_cases qc : ch T (a + i) = ch L i
        · rw [if_pos qc, qc, beq_self_eq_true, Bool.true_and]; rfl
        · rw [if_neg qc, if_neg (by simp [qc])]
      · rw [if_pos (nI_le (by omega) (by omega)), F_Rd_passIfThere_B31, F_St_length, bnd_k, hL, List.drop_eq_nil_of_le (by omega), isAt, if_pos rfl, ha, nI_add]
  have := key fu 0 (by omega) (by omega)
  rw [nI_0] at this
  unfold F_Rd_passIfThere; exact this
theorem f_passPart {M : gMem} {T : List Int32} (h : TX M T) (fu : Nat) (r : gRef) {a : Nat} (ha : M 35 0 = nI a) (hb : a ≤ T.length) (hfu : 240 < fu) :
    Lx (F_Rd_passPart fu M r) M r (if pb (ch T a) then .ok (scan gon T a) else .error (1, a)) := by
  have hle := h.le
  have key : ∀ d b, T.length - b < d → b ≤ T.length → F_Rd_passPart_L20 fu d (mS M 35 0 (nI b)) r = .ok () (mS M 35 0 (nI (scan gon T b))) r := by
    intro d
    induction d with
    | zero => intro b h1; omega
    | succ d ih =>
      intro b h1 h3
      have hT : TX (mS M 35 0 (nI b)) T := h.mv (by omega) (by decide)
      rw [F_Rd_passPart_L20, hT.len, mS_same]
      by_cases q : b < T.length
      · rw [if_neg (nI_ge q (by omega)), f_next hT fu r (mS_same _ _ _ _) (by omega), bnd_k, f_goesOnPart, bnd_k]
        by_cases q2 : gon (ch T b) = true
        · rw [if_neg (by rw [b2_0, q2]; decide), mS_same, mS_mS, nI_1, scan_step q q2]
          exact ih (b + 1) (by omega) (by omega)
        · rw [if_pos (by rw [b2_0]; simpa using q2), scan_stop (Or.inr (by simpa using q2))]; rfl
      · rw [if_pos (nI_le (by omega) (by omega)), scan_stop (Or.inl (by omega))]; rfl
  unfold F_Rd_passPart
  rw [f_next h fu r ha (by omega), bnd_k, f_beginsPart, bnd_k]
  by_cases q : pb (ch T a) = true
  · rw [if_neg (by rw [b2_0, q]; decide), if_pos q]
    have := key fu a (by omega) hb
    rw [← ha, mS_self] at this
    exact this
  · rw [if_pos (by rw [b2_0]; simpa using q), if_neg q]; exact Ex.bnd _ (f_fail fu r rfl ha)
theorem scan_lt {p : Int32 → Bool} {T : List Int32} {a : Nat} (q : a < T.length) (h : p (ch T a) = true) : a < scan p T a := by
  rw [scan_step q h]; exact scan_ge p T (a + 1)
theorem pb_ne {c : Int32} (h : pb c = true) : c ≠ 0 := by intro q; subst q; exact absurd h (by decide)
theorem pb_go {c : Int32} (h : pb c = true) : gon c = true := by unfold gon; rw [h]; rfl
/-- where a name's reading ends -/
theorem sName_le {T : List Int32} {a l z : Nat} (hs : sName T a = .ok (l, z)) : a < z ∧ z ≤ T.length ∧ a ≤ l ∧ l ≤ z := by
  unfold sName at hs
  split at hs
  · rename_i q
    have h1 := lt_of_ch (T := T) (a := a) rfl (pb_ne q)
    have h2 := scan_lt h1 (pb_go q)
    have h3 := scan_le gon (Nat.le_of_lt h1)
    split at hs
    · split at hs
      · rename_i q2
        have h4 := lt_of_ch (T := T) (a := scan gon T a + 1) rfl (pb_ne q2)
        have h5 := scan_lt h4 (pb_go q2)
        have h6 := scan_le gon (Nat.le_of_lt h4)
        injection hs with hs; injection hs with e1 e2; omega
      · cases hs
    · injection hs with hs; injection hs with e1 e2; omega
  · cases hs
def NmP (M M' : gMem) (k s l z : Nat) : Prop :=
  (M' 20 k = nI s) ∧
  (M' 21 k = nI l) ∧
  (M' 22 k = nI z) ∧
  (M' 35 0 = nI z) ∧
  (∀ t i, ¬ (i = k ∧ (t = 20 ∨ t = 21 ∨ t = 22)) → ¬ (t = 35 ∧ i = 0) → M' t i = M t i)
theorem NmP.fs {M M' : gMem} {k s l z : Nat} (h : NmP M M' k s l z) : M' 20 k = nI s := h.1
theorem NmP.fl {M M' : gMem} {k s l z : Nat} (h : NmP M M' k s l z) : M' 21 k = nI l := h.2.1
theorem NmP.fz {M M' : gMem} {k s l z : Nat} (h : NmP M M' k s l z) : M' 22 k = nI z := h.2.2.1
theorem NmP.fa {M M' : gMem} {k s l z : Nat} (h : NmP M M' k s l z) : M' 35 0 = nI z := h.2.2.2.1
theorem NmP.kp {M M' : gMem} {k s l z : Nat} (h : NmP M M' k s l z) : ∀ t i, ¬ (i = k ∧ (t = 20 ∨ t = 21 ∨ t = 22)) → ¬ (t = 35 ∧ i = 0) → M' t i = M t i := h.2.2.2.2
theorem f_readName {M : gMem} {T : List Int32} (h : TX M T) (fu : Nat) (r : gRef) {a : Nat} (ha : M 35 0 = nI a) (hb : a ≤ T.length) (k : Nat) (hfu : 240 < fu) :
    match sName T a with
    | .ok (l, z) => ∃ M', F_Rd_readName fu k M r = .ok () M' (rS r 0 k (some 144)) ∧ NmP M M' k a l z
    | .error w => Ex (F_Rd_readName fu k M r) M w := by
  have hle := h.le
  have hT : TX (mS (mS M 20 k (M 35 0)) 21 k ((mS M 20 k (M 35 0)) 35 0)) T := (h.mv (by omega) (by decide)).mv (by omega) (by decide)
  have hat : (mS (mS M 20 k (M 35 0)) 21 k ((mS M 20 k (M 35 0)) 35 0)) 35 0 = nI a := by simp [mS, ha]
  have h1 := f_passPart hT fu (rS r 0 k (some 144)) hat hb hfu
  have fr1 : Fr M (mS (mS M 20 k (M 35 0)) 21 k ((mS M 20 k (M 35 0)) 35 0)) := ((Fr.rfl' M).s (by omega)).s (by omega)
  unfold F_Rd_readName sName
  by_cases q : pb (ch T a) = true
  · rw [if_pos q] at h1 ⊢
    rw [h1, bnd_k]
    have q1 := lt_of_ch (T := T) (a := a) rfl (pb_ne q)
    have q3 := scan_le gon (Nat.le_of_lt q1)
    generalize scan gon T a = b at *
    generalize hM1 : mS (mS M 20 k (M 35 0)) 21 k ((mS M 20 k (M 35 0)) 35 0) = M1 at *
    have hT2 : TX (mS M1 35 0 (nI b)) T := hT.mv (by omega) (by decide)
    rw [f_next hT2 fu _ (mS_same _ _ _ _) (by omega), bnd_k]
    by_cases q2 : ch T b = 58
    · rw [if_pos q2, if_pos q2]
      have q4 := lt_of_ch q2 (by decide)
      have hT3 : TX (mS (mS (mS M1 35 0 (nI b)) 35 0 ((mS M1 35 0 (nI b)) 35 0 + 1)) 21 k ((mS (mS M1 35 0 (nI b)) 35 0 ((mS M1 35 0 (nI b)) 35 0 + 1)) 35 0)) T := (hT2.mv (by omega) (by decide)).mv (by omega) (by decide)
      have hat3 : (mS (mS (mS M1 35 0 (nI b)) 35 0 ((mS M1 35 0 (nI b)) 35 0 + 1)) 21 k ((mS (mS M1 35 0 (nI b)) 35 0 ((mS M1 35 0 (nI b)) 35 0 + 1)) 35 0)) 35 0 = nI (b + 1) := by simp [mS, nI_1]
      have h3 := f_passPart hT3 fu (rS r 0 k (some 144)) hat3 (by omega) hfu
      by_cases q5 : pb (ch T (b + 1)) = true
      · rw [if_pos q5] at h3 ⊢
        rw [h3, bnd_k]
        refine ⟨_, rfl, ?_, ?_, ?_, ?_, ?_⟩ <;> subst hM1
        · simp [mS, ha]
        · simp [mS, nI_1]
        · simp [mS]
        · simp [mS]
        · intro t i n1 n2; simp only [mS]; grind
      · rw [if_neg q5] at h3 ⊢
        refine Ex.bnd _ (Ex.tr ?_ h3)
        exact ((fr1.s (by omega)).s (by omega)).s (by omega)
    · rw [if_neg q2, if_neg q2]
      refine ⟨_, rfl, ?_, ?_, ?_, ?_, ?_⟩ <;> subst hM1
      · simp [mS, ha]
      · simp [mS, ha]
      · simp [mS]
      · simp [mS]
      · intro t i n1 n2; simp only [mS]; grind
  · rw [if_neg q] at h1 ⊢
    exact Ex.bnd _ (Ex.tr fr1 h1)
