/-! retype, keep, same, read on both sides -/
/-- the form's characters can be typed -/
theorem ch_all {L : List Int32} : (∀ c ∈ L, isCh c = true) ↔ (∀ i, i < L.length → isCh (ch L i) = true) := by
  constructor
  · intro h i hi; rw [ch_in hi]; exact h _ (List.getElem_mem hi)
  · intro h c hc
    obtain ⟨i, hi, rfl⟩ := List.mem_iff_getElem.mp hc
    rw [← ch_in hi]; exact h i hi
theorem stre_ch {T : List Int32} (hT : ∀ i, i < T.length → isCh (ch T i) = true) {s z : Nat} : ∀ c ∈ stre T s z, isCh c = true := by
  intro c hc
  exact ch_all.mpr hT c (List.mem_of_mem_drop (List.mem_of_mem_take hc))
theorem esc_ch {c : Int32} (h : isCh c = true) : (∀ d ∈ escC c, isCh d = true) ∧ (∀ d ∈ escV c, isCh d = true) := by
  constructor
  · intro d hd
    unfold escC at hd
    split at hd
    · exact (show ∀ d ∈ ([38, 97, 109, 112, 59] : List Int32), isCh d = true by decide) d hd
    split at hd
    · exact (show ∀ d ∈ ([38, 108, 116, 59] : List Int32), isCh d = true by decide) d hd
    split at hd
    · exact (show ∀ d ∈ ([38, 103, 116, 59] : List Int32), isCh d = true by decide) d hd
    · rw [List.mem_singleton] at hd; rw [hd]; exact h
  · intro d hd
    unfold escV at hd
    split at hd
    · exact (show ∀ d ∈ ([38, 97, 109, 112, 59] : List Int32), isCh d = true by decide) d hd
    split at hd
    · exact (show ∀ d ∈ ([38, 108, 116, 59] : List Int32), isCh d = true by decide) d hd
    split at hd
    · exact (show ∀ d ∈ ([38, 113, 117, 111, 116, 59] : List Int32), isCh d = true by decide) d hd
    split at hd
    · exact (show ∀ d ∈ ([38, 35, 120, 65, 59] : List Int32), isCh d = true by decide) d hd
    · rw [List.mem_singleton] at hd; rw [hd]; exact h
theorem attF_ch {T : List Int32} (hT : ∀ i, i < T.length → isCh (ch T i) = true) {x : Att} (hx : GA T x) : ∀ c ∈ attF T x, isCh c = true := by
  intro c hc
  unfold attF at hc
  simp only [List.mem_append, List.mem_flatMap, List.mem_cons, List.not_mem_nil, or_false] at hc
  rcases hc with (((hc | hc) | hc | hc) | ⟨d, hd, hc⟩) | hc
  · rw [hc]; rfl
  · exact stre_ch hT c hc
  · rw [hc]; rfl
  · rw [hc]; rfl
  · exact (esc_ch (hx.1 d hd)).2 c hc
  · rw [hc]; rfl
def fmG (T : List Int32) (els : List Ele) (evs : List Ev) : Prop := ∀ i, i < (fmL T els evs).length → isCh (ch (fmL T els evs) i) = true
theorem fmG_of {M : gMem} {T U : List Int32} {P : Ps} (_ : RE M T U P.els) (hp : PI T P) (hT : ∀ i, i < T.length → isCh (ch T i) = true) : fmG T P.els P.evs := by
  refine ch_all.mp (fun c hc => ?_)
  unfold fmL at hc
  obtain ⟨v, hv, hc⟩ := List.mem_flatMap.mp hc
  have g := hp.2.2 v hv
  rcases v with e | ⟨e, p⟩ | x
  · have he : e < P.els.length := g
    have hE := List.getElem?_eq_getElem he
    have hc2 : c ∈ begF T P.els e P.els[e] := by
      have : evF T P.els (Sum.inl e) = begF T P.els e P.els[e] := by show (match P.els[e]? with | none => [] | some E => begF T P.els e E) = _; rw [hE]
      rw [this] at hc; exact hc
    have ga := (hp.2.1 e _ hE).2.2.2.2.2.2
    unfold begF at hc2
    simp only [List.mem_append, List.mem_flatMap, List.mem_cons, List.not_mem_nil, or_false] at hc2
    rcases hc2 with ((hc2 | hc2) | ⟨x, hx, hc2⟩) | hc2
    · rw [hc2]; rfl
    · exact stre_ch hT c hc2
    · exact attF_ch hT (ga x (mem_srt hx)) c hc2
    · rw [hc2]; rfl
  · obtain ⟨E, hE, -⟩ : ∃ E, P.els[e]? = some E ∧ E.par = p := g
    have hc2 : c ∈ endF T E := by
      have : evF T P.els (Sum.inr (Sum.inl (e, p))) = endF T E := by show (match P.els[e]? with | none => [] | some E => endF T E) = _; rw [hE]
      rw [this] at hc; exact hc
    unfold endF at hc2
    simp only [List.mem_append, List.mem_cons, List.not_mem_nil, or_false] at hc2
    rcases hc2 with ((hc2 | hc2) | hc2) | hc2
    · rw [hc2]; rfl
    · rw [hc2]; rfl
    · exact stre_ch hT c hc2
    · rw [hc2]; rfl
  · exact (esc_ch (show isCh x = true from g)).1 c hc
theorem g_cpR {n fu : Nat} {r : gRef} (hn : n ≤ 240) : ∀ d k M, n - k < d → k ≤ n → M 126 0 = nI n → (∀ j, j < k → M 102 j = M 127 j) → ∃ M', F_Mo_retype_L45 fu d (nI k) M r = .ok (M 101 0) M' r ∧ (∀ j, j < n → M' 102 j = M 127 j) ∧ (∀ t i, t ≠ 102 → M' t i = M t i) := by
  intro d
  induction d with
  | zero => intro k M h1; omega
  | succ d ih =>
    intro k M h1 h2 hM hj
    rw [F_Mo_retype_L45, hM]
    by_cases q : n ≤ k
    · rw [if_pos (nI_le q (by omega))]
      exact ⟨M, rfl, fun j h => hj j (by omega), fun _ _ _ => rfl⟩
    · rw [if_neg (nI_ge (by omega) (by omega)), gd_yes (vp_in_nI (by omega) (by decide)), gd_yes (vp_in_nI (by omega) (by decide)), nI_clamp (by omega), nI_1]
      obtain ⟨M2, e2, g1, g2⟩ := ih (k + 1) (mS M 102 k (M 127 k)) (by omega) (by omega) (by rw [mS_tag _ (t := 102) (t2 := 126) _ _ _ (by decide)]; exact hM) (fun j h => by
        rw [mS_tag _ (t := 102) (t2 := 127) _ _ _ (by decide)]
        by_cases e : j = k
        · rw [e, mS_same]
        · rw [mS_ix _ _ _ e]; exact hj j (by omega))
      refine ⟨M2, by rw [e2, mS_tag _ (t := 102) (t2 := 101) _ _ _ (by decide)], fun j h => ?_, fun t i q => ?_⟩
      · rw [g1 j h, mS_tag _ (t := 102) (t2 := 127) _ _ _ (by decide)]
      · rw [g2 t i q, mS_tag _ _ _ _ q]
theorem g_cpK {n fu : Nat} {r : gRef} (hn : n ≤ 1440) : ∀ d k M, n - k < d → k ≤ n → M 126 0 = nI n → (∀ j, j < k → M 130 j = M 127 j) → ∃ M', F_Mo_keep_L38 fu d (nI k) M r = .ok () M' r ∧ (∀ j, j < n → M' 130 j = M 127 j) ∧ (∀ t i, t ≠ 130 → M' t i = M t i) := by
  intro d
  induction d with
  | zero => intro k M h1; omega
  | succ d ih =>
    intro k M h1 h2 hM hj
    rw [F_Mo_keep_L38, hM]
    by_cases q : n ≤ k
    · rw [if_pos (nI_le q (by omega))]
      exact ⟨M, rfl, fun j h => hj j (by omega), fun _ _ _ => rfl⟩
    · rw [if_neg (nI_ge (by omega) (by omega)), gd_yes (vp_in_nI (by omega) (by decide)), gd_yes (vp_in_nI (by omega) (by decide)), nI_clamp (by omega), nI_1]
      obtain ⟨M2, e2, g1, g2⟩ := ih (k + 1) (mS M 130 k (M 127 k)) (by omega) (by omega) (by rw [mS_tag _ (t := 130) (t2 := 126) _ _ _ (by decide)]; exact hM) (fun j h => by
        rw [mS_tag _ (t := 130) (t2 := 127) _ _ _ (by decide)]
        by_cases e : j = k
        · rw [e, mS_same]
        · rw [mS_ix _ _ _ e]; exact hj j (by omega))
      refine ⟨M2, e2, fun j h => ?_, fun t i q => ?_⟩
      · rw [g1 j h, mS_tag _ (t := 130) (t2 := 127) _ _ _ (by decide)]
      · rw [g2 t i q, mS_tag _ _ _ _ q]
theorem len_ne {α : Type} {L : List α} (h : L ≠ []) : 0 < L.length := by
  cases L with
  | nil => exact absurd rfl h
  | cons a L => exact Nat.succ_pos _
theorem s_retype {M : gMem} {r : gRef} (h : Iv M r) (fu : Nat) (hfu : 1440 < fu) : P2 (F_MR_retype fu M r) (fun M r => F_Mo_retype fu M r) (fun k c => k = 1 ∧ c = 1) := by
  have bad : F_MR_retype fu M r = .ex 1 M r → F_Mo_retype fu M r = .ok 0 (mS M 100 0 1) r → P2 (F_MR_retype fu M r) (fun M r => F_Mo_retype fu M r) (fun k c => k = 1 ∧ c = 1) := fun e1 e2 => Or.inr ⟨1, M, r, 0, _, e1, e2, ⟨rfl, mS_same _ _ _ _⟩, h.thr 1⟩
  have h' := h
  obtain ⟨⟨X, hX⟩, ⟨K, hK⟩, ia, ib, ic, id_, ie⟩ := h
  rcases ie with ⟨a, b, c⟩ | ⟨T, V, U, P, a, b, c⟩
  · exact bad (by unfold F_MR_retype; rw [if_pos a]) (by unfold F_Mo_retype; rw [if_pos c])
  · have h1 : ¬ M 106 0 = 0 := by rw [b.2.2.2.2.2.2]; decide
    have hF := b.2.2.2.2.2.1
    have hle : (fmL T P.els P.evs).length ≤ 1440 := a.fm.le
    have hel := len_ne c.2.1
    have h24 := b.1.2.1
    have h2 : ¬ M 2 0 = 0 := by rw [a.cx.ce.len]; exact nI_ne0 (by omega) (by omega)
    by_cases q : (fmL T P.els P.evs).length ≤ 240
    · obtain ⟨M1, e1, w1, k1⟩ := f_copyOf (i := 0) (j := 5) (by decide) a.fm q fu r hfu
      have m1 : ∀ t i, t ≠ 10 → ¬ (t = 0 ∧ i = 0) → M1 t i = M t i := fun t i p q => k1 t i p q
      have hA : F_MR_retype fu M r = .ok (nI (fmL T P.els P.evs).length) M1 r := by
        unfold F_MR_retype
        rw [if_neg h2, a.fm.len, if_pos (show nI (fmL T P.els P.evs).length ≤ 240 from nI_le (b := 240) q (by decide)), e1, bnd_k, w1.len]
      have n126 : (mS (mS M1 100 0 0) 101 0 (nI (fmL T P.els P.evs).length)) 126 0 = nI (fmL T P.els P.evs).length := by
        rw [mS_tag _ (t := 101) (t2 := 126) _ _ _ (by decide), mS_tag _ (t := 100) (t2 := 126) _ _ _ (by decide), m1 126 0 (by omega) (by omega)]; exact hF.1
      obtain ⟨M2, e2, g1, g2⟩ := g_cpR (fu := fu) (r := r) q fu 0 _ (by omega) (by omega) n126 (fun j hj => absurd hj (Nat.not_lt_zero j))
      rw [nI_0] at e2
      have m2 : ∀ t i, t ≠ 10 → ¬ (t = 0 ∧ i = 0) → ¬ (100 ≤ t ∧ t ≤ 102) → M2 t i = M t i := fun t i p q s => by rw [g2 t i (by omega), mS_tag _ _ _ _ (by omega), mS_tag _ _ _ _ (by omega)]; exact m1 t i p q
      have h101 : M2 101 0 = nI (fmL T P.els P.evs).length := by rw [g2 101 0 (by omega), mS_same]
      have hB : F_Mo_retype fu M1 r = .ok (nI (fmL T P.els P.evs).length) M2 r := by
        unfold F_Mo_retype
        rw [m1 106 0 (by omega) (by omega), if_neg h1, m1 126 0 (by omega) (by omega), hF.1, if_pos (show nI (fmL T P.els P.evs).length ≤ 240 from nI_le (b := 240) q (by decide)), mS_tag _ (t := 100) (t2 := 126) _ _ _ (by decide), m1 126 0 (by omega) (by omega), hF.1, e2, mS_same]
      refine Or.inl ⟨_, M1, r, M2, hA, hB, ?_, ⟨fmL T P.els P.evs, ⟨?_, ?_, h101, ?_⟩⟩, ⟨K, ?_⟩, ?_, ?_, ?_, ?_, ?_⟩
      · rw [g2 100 0 (by omega), mS_tag _ (t := 101) (t2 := 100) _ _ _ (by decide), mS_same]
      · exact w1.of (by rw [g2 0 0 (by omega), mS_tag _ (t := 101) (t2 := 0) _ _ _ (by decide), mS_tag _ (t := 100) (t2 := 0) _ _ _ (by decide)]) (fun j => by rw [g2 10 j (by omega), mS_tag _ (t := 101) (t2 := 10) _ _ _ (by decide), mS_tag _ (t := 100) (t2 := 10) _ _ _ (by decide)])
      · intro i hi
        have hg : fmG T P.els P.evs := fmG_of b.1 c.1 a.tx.okc
        exact hg i hi
      · intro i hi
        rw [g1 i hi, mS_tag _ (t := 101) (t2 := 127) _ _ _ (by decide), mS_tag _ (t := 100) (t2 := 127) _ _ _ (by decide), m1 127 i (by omega) (by omega)]; exact hF.2 i hi
      · exact hK.of (m2 0 1 (by omega) (by omega) (by omega)) (fun i => m2 11 i (by omega) (by omega) (by omega)) (fun t i _ _ => m2 t i (by omega) (by omega) (by omega))
      · rw [m2 36 0 (by omega) (by omega) (by omega), m2 104 0 (by omega) (by omega) (by omega)]; exact ia
      · rw [m2 37 0 (by omega) (by omega) (by omega), m2 105 0 (by omega) (by omega) (by omega)]; exact ib
      · rw [m2 23 144 (by omega) (by omega) (by omega)]; exact ic
      · rw [m2 24 144 (by omega) (by omega) (by omega)]; exact id_
      · exact TT.of (Or.inr ⟨T, V, U, P, a, b, c⟩) (fun t i p _ q s _ => m2 t i p (by omega) (by omega))
    · have q3 : ¬ nI (fmL T P.els P.evs).length ≤ 240 := nI_ge (b := (fmL T P.els P.evs).length) (a := 240) (by omega) (by omega)
      exact bad (by unfold F_MR_retype; rw [if_neg h2, a.fm.len, if_neg q3]) (by unfold F_Mo_retype; rw [if_neg h1, hF.1, if_neg q3])
theorem s_keep {M : gMem} {r : gRef} (h : Iv M r) (fu : Nat) (hfu : 1440 < fu) : PU (F_MR_keep fu M r) (fun M r => F_Mo_keep fu M r) (fun k c => k = 1 ∧ c = 1) := by
  have h' := h
  obtain ⟨⟨X, hX⟩, ⟨K, hK⟩, ia, ib, ic, id_, ie⟩ := h
  rcases ie with ⟨a, b, c⟩ | ⟨T, V, U, P, a, b, c⟩
  · refine Or.inr ⟨1, M, r, mS M 100 0 1, by unfold F_MR_keep; rw [if_pos a], ?_, ⟨rfl, mS_same _ _ _ _⟩, h'.thr 1⟩
    show F_Mo_keep fu M r = _
    unfold F_Mo_keep
    rw [if_pos c, mS_tag _ (t := 100) (t2 := 106) _ _ _ (by decide), if_pos c]; rfl
  · have h1 : ¬ M 106 0 = 0 := by rw [b.2.2.2.2.2.2]; decide
    have hF := b.2.2.2.2.2.1
    have hle : (fmL T P.els P.evs).length ≤ 1440 := a.fm.le
    have hel := len_ne c.2.1
    have h24 := b.1.2.1
    have h2 : ¬ M 2 0 = 0 := by rw [a.cx.ce.len]; exact nI_ne0 (by omega) (by omega)
    obtain ⟨M1, e1, w1, k1⟩ := f_copyOf (i := 1) (j := 5) (by decide) a.fm hle fu r hfu
    have m1 : ∀ t i, t ≠ 11 → ¬ (t = 0 ∧ i = 1) → M1 t i = M t i := fun t i p q => k1 t i p q
    have n126 : (mS (mS (mS M1 100 0 0) 128 0 1) 129 0 (nI (fmL T P.els P.evs).length)) 126 0 = nI (fmL T P.els P.evs).length := by
      rw [mS_tag _ (t := 129) (t2 := 126) _ _ _ (by decide), mS_tag _ (t := 128) (t2 := 126) _ _ _ (by decide), mS_tag _ (t := 100) (t2 := 126) _ _ _ (by decide), m1 126 0 (by omega) (by omega)]; exact hF.1
    obtain ⟨M2, e2, g1, g2⟩ := g_cpK (fu := fu) (r := r) hle fu 0 _ (by omega) (by omega) n126 (fun j hj => absurd hj (Nat.not_lt_zero j))
    rw [nI_0] at e2
    have m2 : ∀ t i, t ≠ 11 → ¬ (t = 0 ∧ i = 1) → t ≠ 100 → ¬ (128 ≤ t ∧ t ≤ 130) → M2 t i = M t i := fun t i p q s u => by rw [g2 t i (by omega), mS_tag _ _ _ _ (by omega), mS_tag _ _ _ _ (by omega), mS_tag _ _ _ _ (by omega)]; exact m1 t i p q
    have hB : F_Mo_keep fu M1 r = .ok () M2 r := by
      unfold F_Mo_keep
      rw [m1 106 0 (by omega) (by omega), if_neg h1, mS_tag _ (t := 100) (t2 := 106) _ _ _ (by decide), m1 106 0 (by omega) (by omega), if_neg h1, mS_tag _ (t := 128) (t2 := 126) _ _ _ (by decide), mS_tag _ (t := 100) (t2 := 126) _ _ _ (by decide), m1 126 0 (by omega) (by omega), hF.1, e2]
    refine Or.inl ⟨M1, r, M2, by unfold F_MR_keep; rw [if_neg h2, e1, bnd_k], hB, ?_, ⟨X, ?_⟩, ⟨fmL T P.els P.evs, ⟨?_, Or.inr ⟨?_, ?_, ?_⟩⟩⟩, ?_, ?_, ?_, ?_, ?_⟩
    · rw [g2 100 0 (by omega), mS_tag _ (t := 129) (t2 := 100) _ _ _ (by decide), mS_tag _ (t := 128) (t2 := 100) _ _ _ (by decide), mS_same]
    · exact hX.of (m2 0 0 (by omega) (by omega) (by omega) (by omega)) (fun i => m2 10 i (by omega) (by omega) (by omega) (by omega)) (m2 101 0 (by omega) (by omega) (by omega) (by omega)) (fun i => m2 102 i (by omega) (by omega) (by omega) (by omega))
    · exact w1.of (by rw [g2 0 1 (by omega), mS_tag _ (t := 129) (t2 := 0) _ _ _ (by decide), mS_tag _ (t := 128) (t2 := 0) _ _ _ (by decide), mS_tag _ (t := 100) (t2 := 0) _ _ _ (by decide)]) (fun j => by rw [g2 11 j (by omega), mS_tag _ (t := 129) (t2 := 11) _ _ _ (by decide), mS_tag _ (t := 128) (t2 := 11) _ _ _ (by decide), mS_tag _ (t := 100) (t2 := 11) _ _ _ (by decide)])
    · rw [g2 128 0 (by omega), mS_tag _ (t := 129) (t2 := 128) _ _ _ (by decide), mS_same]
    · rw [g2 129 0 (by omega), mS_same]
    · intro i hi
      rw [g1 i hi, mS_tag _ (t := 129) (t2 := 127) _ _ _ (by decide), mS_tag _ (t := 128) (t2 := 127) _ _ _ (by decide), mS_tag _ (t := 100) (t2 := 127) _ _ _ (by decide), m1 127 i (by omega) (by omega)]; exact hF.2 i hi
    · rw [m2 36 0 (by omega) (by omega) (by omega) (by omega), m2 104 0 (by omega) (by omega) (by omega) (by omega)]; exact ia
    · rw [m2 37 0 (by omega) (by omega) (by omega) (by omega), m2 105 0 (by omega) (by omega) (by omega) (by omega)]; exact ib
    · rw [m2 23 144 (by omega) (by omega) (by omega) (by omega)]; exact ic
    · rw [m2 24 144 (by omega) (by omega) (by omega) (by omega)]; exact id_
    · exact TT.of (Or.inr ⟨T, V, U, P, a, b, c⟩) (fun t i _ p q s u => m2 t i p (by omega) (by omega) (by omega))
theorem f_holds {M : gMem} {i j : Nat} {K F : List Int32} (hK : RW M i K) (hF : RW M j F) (fu : Nat) (r : gRef) (hfu : 1440 < fu) : F_Row_holdsSameAs fu i j M r = .ok (b2 (K == F)) M r := by
  have l1 : K.length ≤ 1440 := Nat.le_trans hK.le nRow_le
  have l2 : F.length ≤ 1440 := Nat.le_trans hF.le nRow_le
  unfold F_Row_holdsSameAs
  rw [hK.len, hF.len]
  by_cases q : K.length = F.length
  · have key : ∀ d k, K.length - k < d → k ≤ K.length → F_Row_holdsSameAs_L15 fu i j d (nI k) M r = .ok (b2 (K.drop k == F.drop k)) M r := by
      intro d
      induction d with
      | zero => intro k h1; omega
      | succ d ih =>
        intro k h1 h2
        rw [F_Row_holdsSameAs_L15, hK.len]
        by_cases q2 : K.length ≤ k
        · rw [if_pos (nI_le q2 (by omega)), List.drop_eq_nil_of_le q2, List.drop_eq_nil_of_le (by omega)]; rfl
        · rw [if_neg (nI_ge (by omega) (by omega)), f_rowAt hK fu r (by omega), bnd_k, f_rowAt hF fu r (by omega), bnd_k, nI_1, ih (k + 1) (by omega) (by omega), drop_ch (T := K) (a := k) (by omega), drop_ch (T := F) (a := k) (by omega)]
          by_cases q3 : ch K k = ch F k
          · rw [if_pos q3, q3]; simp
          · rw [if_neg q3]; simp [q3, b2]
    rw [if_pos (by rw [q])]
    have := key fu 0 (by omega) (by omega)
    rw [nI_0, List.drop_zero, List.drop_zero] at this; exact this
  · rw [if_neg (fun e => q ((nI_eq (by omega) (by omega)).mp e))]
    have : (K == F) = false := beq_eq_false_iff_ne.mpr (fun e => q (by rw [e]))
    rw [this]; rfl
theorem s_same {M : gMem} {r : gRef} (h : Iv M r) (fu : Nat) (hfu : 1450 < fu) : P1 (F_MR_same fu M r) (fun M r => F_Mo_same fu M r) := by
  have h' := h
  obtain ⟨⟨X, hX⟩, ⟨K, hK⟩, ia, ib, ic, id_, ie⟩ := h
  have z38 : ∀ M, F_Mo_same_L38 fu fu 0 0 M r = .ok 0 M r := by
    intro M
    obtain ⟨d, rfl⟩ : ∃ d, fu = d + 1 := ⟨fu - 1, by omega⟩
    rw [F_Mo_same_L38, if_pos rfl, ite_self, F_Mo_same_B77, gd_yes gNb_0]
  have t106 : (mS M 100 0 0) 106 0 = M 106 0 := mS_tag _ _ _ _ (by decide)
  rcases ie with ⟨a, b, c⟩ | ⟨T, V, U, P, a, b, c⟩
  · refine ⟨0, M, r, mS M 100 0 0, by unfold F_MR_same; rw [if_pos (show M 2 0 ≤ 0 by rw [a]; decide)], ?_, h'.thr 0⟩
    show F_Mo_same fu M r = _
    unfold F_Mo_same
    rw [t106, if_pos c, z38]
  · have h1 : ¬ M 106 0 = 0 := by rw [b.2.2.2.2.2.2]; decide
    have hF := b.2.2.2.2.2.1
    have hle : (fmL T P.els P.evs).length ≤ 1440 := a.fm.le
    have hel := len_ne c.2.1
    have h24 := b.1.2.1
    have h2 : ¬ M 2 0 ≤ 0 := by rw [a.cx.ce.len]; exact nI_nle (by omega) (by omega)
    have hkl : K.length ≤ 1440 := hK.1.le
    have tail : ∀ b : Bool, (if b2 b = 0 then (.ok 0 M r : gO Int32) else .ok 1 M r) = .ok (b2 b) M r := by intro b; cases b <;> rfl
    refine ⟨b2 (K == fmL T P.els P.evs), M, r, mS M 100 0 0, by unfold F_MR_same; rw [if_neg h2, f_holds hK.1 a.fm fu r (by omega), bnd_k, tail], ?_, h'.thr 0⟩
    show F_Mo_same fu M r = _
    unfold F_Mo_same
    rw [t106, if_neg h1, mS_tag _ (t := 100) (t2 := 128) _ _ _ (by decide), mS_tag _ (t := 100) (t2 := 129) _ _ _ (by decide), mS_tag _ (t := 100) (t2 := 126) _ _ _ (by decide), hF.1]
    rcases hK.2 with ⟨k1, k2⟩ | ⟨k1, k2, k3⟩
    · have : (K == fmL T P.els P.evs) = false := beq_eq_false_iff_ne.mpr (fun e => c.2.2 (by rw [← e]; exact k2))
      rw [if_pos k1, z38, this]; rfl
    · rw [if_neg (show ¬ M 128 0 = 0 by rw [k1]; decide), k2]
      by_cases q : K.length = (fmL T P.els P.evs).length
      · rw [if_pos (by rw [q])]
        generalize fmL T P.els P.evs = F at *
        have key : ∀ d k, F.length - k < d → k ≤ F.length → F_Mo_same_L38 fu (d + 1) 1 (nI k) (mS M 100 0 0) r = .ok (b2 (K.drop k == F.drop k)) (mS M 100 0 0) r := by
          intro d
          induction d with
          | zero => intro k h1; omega
          | succ d ih =>
            intro k p1 p2
            rw [F_Mo_same_L38, mS_tag _ (t := 100) (t2 := 126) _ _ _ (by decide), hF.1]
            by_cases q2 : F.length ≤ k
            · rw [if_pos (nI_le q2 (by omega)), List.drop_eq_nil_of_le q2, List.drop_eq_nil_of_le (by omega), F_Mo_same_B77, gd_yes gNb_1]; rfl
            · rw [if_neg (nI_ge (by omega) (by omega)), if_neg (show ¬ (1 : Int32) = 0 by decide), gd_yes (vp_in_nI (by omega) (by decide)), gd_yes (vp_in_nI (by omega) (by decide)), nI_clamp (n := k) (by omega), mS_tag _ (t := 100) (t2 := 130) _ _ _ (by decide), mS_tag _ (t := 100) (t2 := 127) _ _ _ (by decide), k3 k (by omega), hF.2 k (by omega), nI_1, ih (k + 1) (by omega) (by omega), drop_ch (T := K) (a := k) (by omega), drop_ch (T := F) (a := k) (by omega)]
              by_cases q3 : ch K k = ch F k
              · rw [if_pos q3, q3]; simp
              · rw [if_neg q3, F_Mo_same_L38, if_pos rfl, ite_self, F_Mo_same_B77, gd_yes gNb_0]; simp [q3, b2]
        have := key (fu - 1) 0 (by omega) (by omega)
        rw [nI_0, List.drop_zero, List.drop_zero, show fu - 1 + 1 = fu by omega] at this; exact this
      · have : (K == fmL T P.els P.evs) = false := beq_eq_false_iff_ne.mpr (fun e => q (by rw [e]))
        rw [if_neg (fun e => q ((nI_eq (by omega) (by omega)).mp e)), z38, this]; rfl
