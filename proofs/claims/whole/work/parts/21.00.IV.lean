/-! What holds between two calls, and the calls that are simple -/
def TY (M : gMem) (X : List Int32) : Prop := RW M 0 X ∧ (∀ i, i < X.length → isCh (ch X i) = true) ∧ M 101 0 = nI X.length ∧ (∀ i, i < X.length → M 102 i = ch X i)
def KP (M : gMem) (K : List Int32) : Prop := RW M 1 K ∧ ((M 128 0 = 0 ∧ K = []) ∨ (M 128 0 = 1 ∧ M 129 0 = nI K.length ∧ ∀ j, j < K.length → M 130 j = ch K j))
def RS (M : gMem) (T U : List Int32) (P : Ps) : Prop := RE M T U P.els ∧ M 109 0 = nI P.els.length ∧ M 122 0 = nI P.evs.length ∧ P.evs.length ≤ 240 ∧ (∀ (j : Nat) (v : Ev), P.evs[j]? = some v → M 123 j = evI v) ∧ FB M (fmL T P.els P.evs) ∧ M 106 0 = 1
def TT (M : gMem) (r : gRef) : Prop := (M 2 0 = 0 ∧ M 0 5 = 0 ∧ M 106 0 = 0) ∨ ∃ T V U P, CR M r T V P ∧ RS M T U P ∧ PI T P ∧ P.els ≠ [] ∧ fmL T P.els P.evs ≠ []
def Iv (M : gMem) (r : gRef) : Prop := (∃ X, TY M X) ∧ (∃ K, KP M K) ∧ M 36 0 = M 104 0 ∧ M 37 0 = M 105 0 ∧ M 23 144 = 0 ∧ M 24 144 = 0 ∧ TT M r
theorem TY.of {M M' : gMem} {X : List Int32} (h : TY M X) (h1 : M' 0 0 = M 0 0) (h2 : ∀ i, M' 10 i = M 10 i) (h3 : M' 101 0 = M 101 0) (h4 : ∀ i, M' 102 i = M 102 i) : TY M' X := ⟨h.1.of h1 h2, h.2.1, h3.trans h.2.2.1, fun i hi => (h4 i).trans (h.2.2.2 i hi)⟩
theorem KP.of {M M' : gMem} {K : List Int32} (h : KP M K) (h1 : M' 0 1 = M 0 1) (h2 : ∀ i, M' 11 i = M 11 i) (h3 : ∀ t i, 128 ≤ t → t ≤ 130 → M' t i = M t i) : KP M' K := by
  refine ⟨h.1.of h1 h2, ?_⟩
  rcases h.2 with ⟨a, b⟩ | ⟨a, b, c⟩
  · exact Or.inl ⟨(h3 128 0 (by omega) (by omega)).trans a, b⟩
  · exact Or.inr ⟨(h3 128 0 (by omega) (by omega)).trans a, (h3 129 0 (by omega) (by omega)).trans b, fun j hj => (h3 130 j (by omega) (by omega)).trans (c j hj)⟩
theorem RS.of {M M' : gMem} {T U : List Int32} {P : Ps} (h : RS M T U P) (h1 : ∀ t i, 106 ≤ t → t ≤ 127 → M' t i = M t i) : RS M' T U P := by
  obtain ⟨a, b, c, d, e, f, g⟩ := h
  exact ⟨a.of (fun t i q => h1 t i (by omega) (by omega)), (h1 109 0 (by omega) (by omega)).trans b, (h1 122 0 (by omega) (by omega)).trans c, d, fun j v hj => (h1 123 j (by omega) (by omega)).trans (e j v hj), ⟨(h1 126 0 (by omega) (by omega)).trans f.1, fun j hj => (h1 127 j (by omega) (by omega)).trans (f.2 j hj)⟩, (h1 106 0 (by omega) (by omega)).trans g⟩
theorem CR.of {M M' : gMem} {r : gRef} {T V : List Int32} {P : Ps} (h : CR M r T V P) (k : ∀ t i, t < 100 → t ≠ 10 → t ≠ 11 → ¬ (t = 0 ∧ i < 2) → M' t i = M t i) : CR M' r T V P := by
  refine ⟨h.cx.kx (fun t i q => k t i (by omega) (by omega) (by omega) (by omega)) (fun _ => rfl), ?_, h.aT, h.va, h.op, h.oe, ?_, h.sp, h.fm.of (k 0 5 (by omega) (by omega) (by omega) (by omega)) (fun j => k 15 j (by omega) (by omega) (by omega) (by omega)), h.fl, ⟨h.ct.1.of (k 0 4 (by omega) (by omega) (by omega) (by omega)) (fun j => k 14 j (by omega) (by omega) (by omega) (by omega)), fun j y hj => by rw [k 1 j (by omega) (by omega) (by omega) (by omega)]; exact h.ct.2 j y hj⟩, h.cl, ?_, h.cu, h.ev, ?_, ?_, h.ob⟩
  · rw [k 35 0 (by omega) (by omega) (by omega) (by omega)]; exact h.fa
  · intro e he; rw [k 28 e (by omega) (by omega) (by omega) (by omega)]; exact h.ic e he
  · intro e he; rw [k 31 e (by omega) (by omega) (by omega) (by omega)]; exact h.ow e he
  · rw [k 36 0 (by omega) (by omega) (by omega) (by omega)]; exact h.wy
  · rw [k 37 0 (by omega) (by omega) (by omega) (by omega)]; exact h.wp
theorem TT.of {M M' : gMem} {r : gRef} (h : TT M r) (k : ∀ t i, t ≠ 10 → t ≠ 11 → ¬ (t = 0 ∧ i < 2) → ¬ (100 ≤ t ∧ t ≤ 105) → ¬ (128 ≤ t ∧ t ≤ 130) → M' t i = M t i) : TT M' r := by
  rcases h with ⟨a, b, c⟩ | ⟨T, V, U, P, a, b, c⟩
  · exact Or.inl ⟨(k 2 0 (by omega) (by omega) (by omega) (by omega) (by omega)).trans a, (k 0 5 (by omega) (by omega) (by omega) (by omega) (by omega)).trans b, (k 106 0 (by omega) (by omega) (by omega) (by omega) (by omega)).trans c⟩
  · exact Or.inr ⟨T, V, U, P, a.of (fun t i q1 q2 q3 q4 => k t i q2 q3 q4 (by omega) (by omega)), b.of (fun t i q1 q2 => k t i (by omega) (by omega) (by omega) (by omega) (by omega)), c⟩
/-- only the reference's number of what was thrown has changed -/
theorem Iv.thr {M : gMem} {r : gRef} (h : Iv M r) (v : Int32) : Iv (mS M 100 0 v) r := by
  have k : ∀ t i, t ≠ 100 → (mS M 100 0 v) t i = M t i := fun t i q => mS_tag _ _ _ _ q
  obtain ⟨⟨X, hX⟩, ⟨K, hK⟩, a, b, c, d, e⟩ := h
  exact ⟨⟨X, hX.of (k 0 0 (by omega)) (fun i => k 10 i (by omega)) (k 101 0 (by omega)) (fun i => k 102 i (by omega))⟩, ⟨K, hK.of (k 0 1 (by omega)) (fun i => k 11 i (by omega)) (fun t i _ _ => k t i (by omega))⟩, by rw [k 36 0 (by omega), k 104 0 (by omega)]; exact a, by rw [k 37 0 (by omega), k 105 0 (by omega)]; exact b, by rw [k 23 144 (by omega)]; exact c, by rw [k 24 144 (by omega)]; exact d, e.of (fun t i _ _ _ q _ => k t i (by omega))⟩
/-- a call on both sides: the same answer, or what the one throws is what the other says -/
def P2 (A : gO Int32) (B : gMem → gRef → gO Int32) (cd : Nat → Int32 → Prop) : Prop :=
  (∃ v M1 r1 M2, A = .ok v M1 r1 ∧ B M1 r1 = .ok v M2 r1 ∧ M2 100 0 = 0 ∧ Iv M2 r1) ∨ (∃ k M1 r1 b M2, A = .ex k M1 r1 ∧ B M1 r1 = .ok b M2 r1 ∧ cd k (M2 100 0) ∧ Iv M2 r1)
def P1 (A : gO Int32) (B : gMem → gRef → gO Int32) : Prop := ∃ v M1 r1 M2, A = .ok v M1 r1 ∧ B M1 r1 = .ok v M2 r1 ∧ Iv M2 r1
def P0 (A : gO Unit) (B : gMem → gRef → gO Unit) : Prop := ∃ M1 r1 M2, A = .ok () M1 r1 ∧ B M1 r1 = .ok () M2 r1 ∧ Iv M2 r1
def PU (A : gO Unit) (B : gMem → gRef → gO Unit) (cd : Nat → Int32 → Prop) : Prop :=
  (∃ M1 r1 M2, A = .ok () M1 r1 ∧ B M1 r1 = .ok () M2 r1 ∧ M2 100 0 = 0 ∧ Iv M2 r1) ∨ (∃ k M1 r1 M2, A = .ex k M1 r1 ∧ B M1 r1 = .ok () M2 r1 ∧ cd k (M2 100 0) ∧ Iv M2 r1)
section IVC
variable {M : gMem} {r : gRef}
theorem s_type (h : Iv M r) (fu : Nat) (x : Int32) (hx : cOK x) : P2 (F_MR_type fu x M r) (fun M r => F_Mo_type fu x M r) (fun k c => (k = 0 ∧ c = 1) ∨ (k = 1 ∧ c = 2)) := by
  have h' := h
  obtain ⟨⟨X, hX⟩, ⟨K, hK⟩, a, b, c, d, e⟩ := h
  have h240 : X.length ≤ 240 := hX.1.le
  have gi : ∀ M r, F_Mo_isCharacter fu x M r = .ok (b2 (isCh x)) M r := fun M r => f_isCharacter fu x M r
  unfold F_MR_type
  rw [f_isCharacter, bnd_k]
  cases hc : isCh x with
  | false =>
    refine Or.inr ⟨0, M, r, 0, mS M 100 0 1, by rw [if_pos (show b2 false = 0 from rfl)], ?_, Or.inl ⟨rfl, mS_same _ _ _ _⟩, h'.thr 1⟩
    show F_Mo_type fu x M r = _
    unfold F_Mo_type; rw [gi, bnd_k, hc, if_pos (show b2 false = 0 from rfl)]
  | true =>
    rw [if_neg (show ¬ b2 true = 0 by decide), hX.1.len]
    by_cases q : X.length < 240
    · obtain ⟨M1, e1, w1, k1⟩ := f_put hX.1 fu r hx q
      have m1 : ∀ t i, t ≠ 10 → ¬ (t = 0 ∧ i = 0) → M1 t i = M t i := fun t i p q => k1 t i p q
      have hl : M1 0 0 = nI (X.length + 1) := by rw [w1.len, List.length_append]; rfl
      have h101 : (mS M1 100 0 0) 101 0 = nI X.length := by rw [mS_tag _ (t := 100) (t2 := 101) _ _ _ (by decide), m1 101 0 (by omega) (by omega)]; exact hX.2.2.1
      rw [if_pos (show nI X.length < 240 from nI_lt (b := 240) q (by decide)), e1, bnd_k, hl]
      have hB : F_Mo_type fu x M1 r = .ok (nI (X.length + 1)) (mS (mS (mS M1 100 0 0) 102 X.length x) 101 0 (nI (X.length + 1))) r := by
        unfold F_Mo_type
        rw [gi, bnd_k, hc, if_neg (show ¬ b2 true = 0 by decide), m1 101 0 (by omega) (by omega), hX.2.2.1, if_neg (show ¬ nI X.length = 240 from fun q2 => by have := (nI_eq (b := 240) (by omega) (by decide)).mp q2; omega), h101, gd_yes (vp_in_nI q (by decide)), nI_clamp (by omega), mS_same, mS_tag _ (t := 102) (t2 := 101) _ _ _ (by decide), h101, nI_1]
      refine Or.inl ⟨_, M1, r, _, rfl, hB, ?_, ⟨X ++ [x], ⟨?_, ?_, ?_, ?_⟩⟩, ⟨K, ?_⟩, ?_, ?_, ?_, ?_, ?_⟩
      · rw [mS_tag _ (t := 101) (t2 := 100) _ _ _ (by decide), mS_tag _ (t := 102) (t2 := 100) _ _ _ (by decide), mS_same]
      · exact ((w1.mv (by omega) (by decide)).mv (by omega) (by decide)).mv (by omega) (by decide)
      · intro i hi
        rw [ch_app]
        by_cases q2 : i < X.length
        · rw [if_pos q2]; exact hX.2.1 i q2
        · rw [len_snoc] at hi
          rw [if_neg q2, show i - X.length = 0 by omega]; exact hc
      · rw [mS_same, len_snoc]
      · intro i hi
        rw [mS_tag _ (t := 101) (t2 := 102) _ _ _ (by decide), ch_app]
        by_cases q2 : i < X.length
        · rw [if_pos q2, mS_ix _ _ _ (by omega), mS_tag _ (t := 100) (t2 := 102) _ _ _ (by decide), m1 102 i (by omega) (by omega)]; exact hX.2.2.2 i q2
        · rw [len_snoc] at hi
          have : i = X.length := by omega
          subst this
          rw [if_neg q2, mS_same, Nat.sub_self]; rfl
      all_goals have m2 : ∀ t i, t ≠ 10 → ¬ (t = 0 ∧ i = 0) → ¬ (100 ≤ t ∧ t ≤ 102) → (mS (mS (mS M1 100 0 0) 102 X.length x) 101 0 (nI (X.length + 1))) t i = M t i := fun t i p q s => by rw [mS_tag _ _ _ _ (by omega), mS_tag _ _ _ _ (by omega), mS_tag _ _ _ _ (by omega)]; exact m1 t i p q
      · exact hK.of (m2 0 1 (by omega) (by omega) (by omega)) (fun i => m2 11 i (by omega) (by omega) (by omega)) (fun t i _ _ => m2 t i (by omega) (by omega) (by omega))
      · rw [m2 36 0 (by omega) (by omega) (by omega), m2 104 0 (by omega) (by omega) (by omega)]; exact a
      · rw [m2 37 0 (by omega) (by omega) (by omega), m2 105 0 (by omega) (by omega) (by omega)]; exact b
      · rw [m2 23 144 (by omega) (by omega) (by omega)]; exact c
      · rw [m2 24 144 (by omega) (by omega) (by omega)]; exact d
      · exact e.of (fun t i p _ q s _ => m2 t i p (by omega) (by omega))
    · have q2 : X.length = 240 := by omega
      refine Or.inr ⟨1, M, r, 0, mS M 100 0 2, by rw [q2, if_neg (show ¬ nI 240 < 240 by decide)], ?_, Or.inr ⟨rfl, mS_same _ _ _ _⟩, h'.thr 2⟩
      show F_Mo_type fu x M r = _
      unfold F_Mo_type; rw [gi, bnd_k, hc, if_neg (show ¬ b2 true = 0 by decide), hX.2.2.1, q2, if_pos (show nI 240 = 240 from rfl)]
theorem s_wipe (h : Iv M r) (fu : Nat) : P0 (F_MR_wipe fu M r) (fun M r => F_Mo_wipe fu M r) := by
  obtain ⟨⟨X, hX⟩, ⟨K, hK⟩, a, b, c, d, e⟩ := h
  have m2 : ∀ t i, ¬ (t = 0 ∧ i = 0) → ¬ (100 ≤ t ∧ t ≤ 101) → (mS (mS (mS M 0 0 0) 100 0 0) 101 0 0) t i = M t i := fun t i q s => by rw [mS_tag _ _ _ _ (by omega), mS_tag _ _ _ _ (by omega), mS, if_neg q]
  refine ⟨_, r, _, rfl, rfl, ⟨[], ⟨?_, fun i hi => absurd hi (Nat.not_lt_zero i), mS_same _ _ _ _, fun i hi => absurd hi (Nat.not_lt_zero i)⟩⟩, ⟨K, ?_⟩, ?_, ?_, ?_, ?_, ?_⟩
  · refine ⟨?_, Nat.zero_le _, fun i hi => absurd hi (Nat.not_lt_zero i), fun j => by rw [ch_out (Nat.zero_le _)]; exact cOK_0⟩
    rw [mS_tag _ (t := 101) (t2 := 0) _ _ _ (by decide), mS_tag _ (t := 100) (t2 := 0) _ _ _ (by decide), mS_same]; rfl
  · exact hK.of (m2 0 1 (by omega) (by omega)) (fun i => m2 11 i (by omega) (by omega)) (fun t i _ _ => m2 t i (by omega) (by omega))
  · rw [m2 36 0 (by omega) (by omega), m2 104 0 (by omega) (by omega)]; exact a
  · rw [m2 37 0 (by omega) (by omega), m2 105 0 (by omega) (by omega)]; exact b
  · rw [m2 23 144 (by omega) (by omega)]; exact c
  · rw [m2 24 144 (by omega) (by omega)]; exact d
  · exact e.of (fun t i p _ q s _ => m2 t i (by omega) (by omega))
theorem s_reason (h : Iv M r) (fu : Nat) : P1 (F_MR_reason fu M r) (fun M r => F_Mo_reason fu M r) := by
  refine ⟨_, M, r, mS M 100 0 0, rfl, ?_, h.thr 0⟩
  show F_Mo_reason fu M r = _
  unfold F_Mo_reason
  rw [mS_tag _ (t := 100) (t2 := 104) _ _ _ (by decide), h.2.2.1]
theorem s_place (h : Iv M r) (fu : Nat) : P1 (F_MR_place fu M r) (fun M r => F_Mo_place fu M r) := by
  refine ⟨_, M, r, mS M 100 0 0, rfl, ?_, h.thr 0⟩
  show F_Mo_place fu M r = _
  unfold F_Mo_place
  rw [mS_tag _ (t := 100) (t2 := 105) _ _ _ (by decide), h.2.2.2.1]
theorem s_form (h : Iv M r) (fu : Nat) : P1 (F_MR_form fu M r) (fun M r => F_Mo_form fu M r) := by
  refine ⟨_, M, r, mS M 100 0 0, rfl, ?_, h.thr 0⟩
  show F_Mo_form fu M r = _
  unfold F_Mo_form
  rw [mS_tag _ (t := 100) (t2 := 106) _ _ _ (by decide), mS_tag _ (t := 100) (t2 := 126) _ _ _ (by decide)]
  rcases h.2.2.2.2.2.2 with ⟨a, b, c⟩ | ⟨T, V, U, P, a, b, c⟩
  · rw [if_pos c, b]
  · rw [if_neg (show ¬ M 106 0 = 0 by rw [b.2.2.2.2.2.2]; decide), b.2.2.2.2.2.1.1, a.fm.len]
theorem s_formAt (h : Iv M r) (fu : Nat) (x : Int32) : P2 (F_MR_formAt fu x M r) (fun M r => F_Mo_formAt fu x M r) (fun k c => k = 2 ∧ c = 1) := by
  have bad : F_MR_formAt fu x M r = .ex 2 M r → F_Mo_formAt fu x M r = .ok 0 (mS M 100 0 1) r → P2 (F_MR_formAt fu x M r) (fun M r => F_Mo_formAt fu x M r) (fun k c => k = 2 ∧ c = 1) := fun e1 e2 => Or.inr ⟨2, M, r, 0, _, e1, e2, ⟨rfl, mS_same _ _ _ _⟩, h.thr 1⟩
  rcases h.2.2.2.2.2.2 with ⟨a, b, c⟩ | ⟨T, V, U, P, a, b, c⟩
  · refine bad ?_ ?_
    · unfold F_MR_formAt
      by_cases q : x < 0
      · rw [if_pos q]
      · rw [if_neg q, b, if_neg q]
    · unfold F_Mo_formAt; rw [if_pos c]
  · have h1 : ¬ M 106 0 = 0 := by rw [b.2.2.2.2.2.2]; decide
    have hF := b.2.2.2.2.2.1
    have hle : (fmL T P.els P.evs).length ≤ 1440 := a.fm.le
    by_cases q : x < 0
    · refine bad ?_ ?_
      · unfold F_MR_formAt; rw [if_pos q]
      · unfold F_Mo_formAt; rw [if_neg h1, if_pos q]
    · obtain ⟨n, hn, rfl⟩ := nI_of q
      by_cases q2 : n < (fmL T P.els P.evs).length
      · refine Or.inl ⟨ch (fmL T P.els P.evs) n, M, r, mS M 100 0 0, ?_, ?_, mS_same _ _ _ _, h.thr 0⟩
        · unfold F_MR_formAt
          rw [if_neg q, a.fm.len, if_pos (nI_lt q2 (by omega)), f_rowAt a.fm fu r hn, bnd_k, gd_yes (gNc_ok (a.fm.okc n))]
        · show F_Mo_formAt fu (nI n) M r = _
          unfold F_Mo_formAt
          have ok := a.fm.okc n
          rw [if_neg h1, if_neg q, hF.1, if_pos (nI_lt q2 (by omega)), gd_yes (vp_in_nI (by omega) (by decide)), nI_clamp hn, mS_tag _ (t := 100) (t2 := 127) _ _ _ (by decide), hF.2 n q2, iC_ok ok, gd_yes (gNc_ok ok)]
      · have q3 : ¬ nI n < nI (fmL T P.els P.evs).length := nI_nlt (by omega) hn
        refine bad ?_ ?_
        · unfold F_MR_formAt; rw [if_neg q, a.fm.len, if_neg q3]
        · unfold F_Mo_formAt; rw [if_neg h1, if_neg q, hF.1, if_neg q3]
end IVC
