/-! read on both sides -/
theorem step_len {T : List Int32} {P Q : Ps} {o : Nat} {E : Ele} (hs : sStep T P o E = .ok Q) : P.els.length ≤ Q.els.length ∧ P.evs.length ≤ Q.evs.length := by
  have app : ∀ (b : Nat) (L : List Ev) (p : Option Nat), P.els.length ≤ (Ps.els ((b, P.els, P.evs ++ L, p) : Ps)).length ∧ P.evs.length ≤ (Ps.evs ((b, P.els, P.evs ++ L, p) : Ps)).length := by
    intro b L p
    refine ⟨Nat.le_refl _, ?_⟩
    show P.evs.length ≤ (P.evs ++ L).length
    rw [List.length_append]; omega
  unfold sStep at hs
  split at hs
  · cases hr : sRef T P.at_ with
    | none => rw [hr] at hs; cases hs
    | some xb =>
      obtain ⟨x, b⟩ := xb
      rw [hr] at hs; injection hs with hs; subst hs; exact app _ _ _
  split at hs
  · split at hs
    · unfold sEnd at hs
      cases hn : sName T (P.at_ + 2) with
      | error w => rw [hn] at hs; cases hs
      | ok lz =>
        obtain ⟨l, z⟩ := lz
        rw [hn] at hs
        dsimp only at hs
        split at hs
        · split at hs
          · injection hs with hs; subst hs; exact app _ _ _
          · cases hs
        · cases hs
    split at hs
    · split at hs
      · unfold sSec at hs
        cases h1 : pa T P.at_ [60, 33, 91, 67, 68, 65, 84, 65, 91] with
        | error w => rw [h1] at hs; cases hs
        | ok b =>
          rw [h1] at hs
          dsimp only at hs
          cases h2 : pa T (fat [93, 93, 62] T (T.length - b) b) [93, 93, 62] with
          | error w => rw [h2] at hs; cases hs
          | ok z => rw [h2] at hs; injection hs with hs; subst hs; exact app _ _ _
      · cases h1 : sCom T P.at_ with
        | error w => rw [h1] at hs; cases hs
        | ok b => rw [h1] at hs; injection hs with hs; subst hs; exact ⟨Nat.le_refl _, Nat.le_refl _⟩
    · rw [sTag_eq] at hs
      cases h1 : sTag1 T P with
      | error w => rw [h1] at hs; cases hs
      | ok q =>
        obtain ⟨E2, em, z⟩ := q
        rw [h1] at hs
        dsimp only at hs
        cases h2 : chk T (P.els ++ [E2]) P.els.length E2 with
        | some w => rw [h2] at hs; cases hs
        | none =>
          rw [h2] at hs; injection hs with hs; subst hs
          constructor
          · show P.els.length ≤ (P.els ++ [E2]).length; rw [List.length_append]; omega
          · show P.evs.length ≤ (P.evs ++ _).length; rw [List.length_append]; omega
  split at hs
  · cases hs
  · injection hs with hs; subst hs; exact app _ _ _
theorem con_len {T : List Int32} : ∀ {d : Nat} {P Q : Ps}, sCon T d P = .ok Q → P.els.length ≤ Q.els.length ∧ P.evs.length ≤ Q.evs.length
  | 0, P, Q, h => by rw [sCon] at h; cases h
  | d + 1, P, Q, h => by
    rw [sCon] at h
    cases ho : P.opn with
    | none => rw [ho] at h; injection h with h; subst h; exact ⟨Nat.le_refl _, Nat.le_refl _⟩
    | some o =>
      rw [ho] at h
      dsimp only at h
      cases hE : P.els[o]? with
      | none => rw [hE] at h; cases h
      | some E =>
        rw [hE] at h
        dsimp only at h
        cases hs : sStep T P o E with
        | error w => rw [hs] at h; cases h
        | ok R =>
          rw [hs] at h
          have h1 := step_len hs
          have h2 := con_len h
          omega
theorem doc_ne {T : List Int32} {Q : Ps} (h : sDoc T = .ok Q) : 0 < Q.els.length ∧ 0 < Q.evs.length := by
  unfold sDoc at h
  cases h1 : sPro T (T.length + 1) 0 with
  | error w => rw [h1] at h; cases h
  | ok a =>
    rw [h1] at h
    dsimp only at h
    split at h
    · cases h2 : sTag T (a, [], [], none) with
      | error w => rw [h2] at h; cases h
      | ok P =>
        rw [h2] at h
        dsimp only at h
        cases h3 : sCon T (T.length + 1) P with
        | error w => rw [h3] at h; cases h
        | ok R =>
          rw [h3] at h
          dsimp only at h
          cases h4 : sPro T (T.length + 1) R.at_ with
          | error w => rw [h4] at h; cases h
          | ok b =>
            rw [h4] at h
            dsimp only at h
            split at h
            · cases h
            · injection h with h; subst h
              have h5 := con_len h3
              have h6 : 0 < P.els.length ∧ 0 < P.evs.length := by
                rw [sTag_eq] at h2
                cases h7 : sTag1 T (a, [], [], none) with
                | error w => rw [h7] at h2; cases h2
                | ok q =>
                  obtain ⟨E2, em, z⟩ := q
                  rw [h7] at h2
                  dsimp only at h2
                  cases h8 : chk T (Ps.els ((a, [], [], none) : Ps) ++ [E2]) (Ps.els ((a, [], [], none) : Ps)).length E2 with
                  | some w => rw [h8] at h2; cases h2
                  | none =>
                    rw [h8] at h2; injection h2 with h2; subst h2
                    constructor
                    · show 0 < (Ps.els ((a, [], [], none) : Ps) ++ [E2]).length; rw [List.length_append]; simp
                    · show 0 < (Ps.evs ((a, [], [], none) : Ps) ++ _).length; rw [List.length_append]; cases em <;> simp
              omega
    · cases h
theorem fm_ne {T : List Int32} {P : Ps} (hp : PI T P) (h : 0 < P.evs.length) : fmL T P.els P.evs ≠ [] := by
  have hv := hp.2.2 P.evs[0] (List.getElem_mem h)
  have e : P.evs = P.evs[0] :: P.evs.drop 1 := by
    have := List.drop_eq_getElem_cons (l := P.evs) (i := 0) h
    rw [List.drop_zero] at this; exact this
  have fc : fmL T P.els P.evs = evF T P.els P.evs[0] ++ fmL T P.els (P.evs.drop 1) := by
    have : fmL T P.els (P.evs[0] :: P.evs.drop 1) = evF T P.els P.evs[0] ++ fmL T P.els (P.evs.drop 1) := by unfold fmL; rw [List.flatMap_cons]
    rw [← e] at this; exact this
  rw [fc]
  intro q
  have q1 := (List.append_eq_nil_iff.mp q).1
  generalize P.evs[0] = v at *
  rcases v with k | ⟨k, p⟩ | x
  · have hk : k < P.els.length := hv
    have q2 : (match P.els[k]? with | none => [] | some E => begF T P.els k E) = [] := q1
    rw [List.getElem?_eq_getElem hk] at q2
    have q3 : begF T P.els k P.els[k] = [] := q2
    unfold begF at q3; simp at q3
  · obtain ⟨E, hE, -⟩ : ∃ E, P.els[k]? = some E ∧ E.par = p := hv
    have q2 : (match P.els[k]? with | none => [] | some E => endF T E) = [] := q1
    rw [hE] at q2
    have q3 : endF T E = [] := q2
    unfold endF at q3; simp at q3
  · have q2 : escC x = [] := q1
    unfold escC at q2
    split at q2
    · cases q2
    split at q2
    · cases q2
    split at q2 <;> cases q2
theorem RR.of {M M' : gMem} {T U : List Int32} {P : Ps} (h : RR M T U P) (k : ∀ t i, t ≠ 100 → t ≠ 106 → M' t i = M t i) : RR M' T U P :=
  ⟨h.tx.of (fun t i q => k t i (by omega) (by omega)), (k 103 0 (by omega) (by omega)).trans h.fa, h.aT, h.re.of (fun t i q => k t i (by omega) (by omega)), (k 107 0 (by omega) (by omega)).trans h.us, h.ua, (k 109 0 (by omega) (by omega)).trans h.el, (k 122 0 (by omega) (by omega)).trans h.en, h.ea, fun j v hj => (k 123 j (by omega) (by omega)).trans (h.ev j v hj), (k 124 0 (by omega) (by omega)).trans h.op, h.oe, (k 125 0 (by omega) (by omega)).trans h.dp, (k 104 0 (by omega) (by omega)).trans h.wy, (k 105 0 (by omega) (by omega)).trans h.wp⟩
theorem s_read {M : gMem} {r : gRef} (h : Iv M r) (fu : Nat) (hfu : 1440 < fu) : P2 (F_MR_read fu M r) (fun M r => F_Mo_read fu M r) (fun k c => k = 0 ∧ c = 1) := by
  obtain ⟨⟨X, hX⟩, ⟨K, hK⟩, ia, ib, ic, id_, ie⟩ := h
  have hle : X.length ≤ 240 := hX.1.le
  have hA := f_readText (r := r) hX.1 hX.2.1 ic id_ fu hfu
  have tx : ∀ {M1 : gMem}, Fr M M1 → TXr M1 X := fun f => ⟨(f 101 0 (by omega)).trans hX.2.2.1, hle, fun i hi => (f 102 i (by omega)).trans (hX.2.2.2 i hi), hX.2.1⟩
  unfold F_MR_read
  cases hd : sDoc X with
  | error w =>
    rw [hd] at hA
    obtain ⟨M1, r1, e1, g1, g2, g3, g4, g5⟩ := hA
    have hB := g_read (r := r1) (tx g5) fu (by omega)
    rw [hd] at hB
    obtain ⟨M2, e2, p1, p2, p3, p4, p5⟩ := hB
    have m2 : ∀ t i, (100 ≤ t ∨ (t = 0 ∧ i < 2) ∨ t = 10 ∨ t = 11 ∨ ((t = 23 ∨ t = 24) ∧ i = 144)) → (t < 100 ∨ t = 101 ∨ t = 102 ∨ (128 ≤ t ∧ t ≤ 130)) → M2 t i = M t i := fun t i a b => (p5 t i b).trans (g5 t i a)
    refine Or.inr ⟨0, M1, r1, 0, M2, by rw [e1, bnd_x], e2, ⟨rfl, p2⟩, ⟨X, ?_⟩, ⟨K, ?_⟩, ?_, ?_, ?_, ?_, Or.inl ⟨?_, ?_, p1⟩⟩
    · exact hX.of (m2 0 0 (by omega) (by omega)) (fun i => m2 10 i (by omega) (by omega)) (m2 101 0 (by omega) (by omega)) (fun i => m2 102 i (by omega) (by omega))
    · exact hK.of (m2 0 1 (by omega) (by omega)) (fun i => m2 11 i (by omega) (by omega)) (fun t i _ _ => m2 t i (by omega) (by omega))
    · rw [p3, p5 36 0 (by omega)]; exact g3
    · rw [p4, p5 37 0 (by omega)]; exact g4
    · rw [m2 23 144 (by omega) (by omega)]; exact ic
    · rw [m2 24 144 (by omega) (by omega)]; exact id_
    · rw [p5 2 0 (by omega)]; exact g1
    · rw [p5 0 5 (by omega)]; exact g2
  | ok Q =>
    rw [hd] at hA
    obtain ⟨M1, r1, V, e1, c1, f1⟩ := hA
    have hB := g_read (r := r1) (tx f1) fu (by omega)
    rw [hd] at hB
    obtain ⟨M2, U, rr, pi, ho, f2, e2⟩ := hB
    have ne := doc_ne hd
    have k3 : ∀ t i, t ≠ 100 → t ≠ 106 → (mS (mS M2 106 0 1) 100 0 0) t i = M2 t i := fun t i a b => by rw [mS_tag _ _ _ _ a, mS_tag _ _ _ _ b]
    have rr3 := rr.of k3
    have pi3 : PI X (X.length, Q.els, Q.evs, Q.opn) := pi
    have hlen : (fmL X Q.els Q.evs).length ≤ 1440 := c1.fm.le
    obtain ⟨M4, e4, b4, k4⟩ := g_writeForm (r := r1) (fu := fu) (by omega) rr3 pi3 hlen
    have h106 : M4 106 0 = 1 := by rw [k4 106 0 (by omega) (by omega), mS_tag _ (t := 100) (t2 := 106) _ _ _ (by decide), mS_same]
    have h100 : M4 100 0 = 0 := by rw [k4 100 0 (by omega) (by omega), mS_same]
    have m4 : ∀ t i, (t ≤ 99 ∨ t = 101 ∨ t = 102 ∨ (128 ≤ t ∧ t ≤ 130)) → M4 t i = M1 t i := fun t i q => by rw [k4 t i (by omega) (by omega), k3 t i (by omega) (by omega), f2 t i (by omega)]
    have m5 : ∀ t i, (t = 101 ∨ t = 102 ∨ (128 ≤ t ∧ t ≤ 130) ∨ (t = 0 ∧ i < 2) ∨ t = 10 ∨ t = 11 ∨ ((t = 23 ∨ t = 24) ∧ i = 144)) → M4 t i = M t i := fun t i q => (m4 t i (by omega)).trans (f1 t i (by omega))
    have el : M4 109 0 = nI Q.els.length := by rw [k4 109 0 (by omega) (by omega)]; exact rr3.el
    refine Or.inl ⟨nI Q.els.length, M1, r1, M4, ?_, ?_, h100, ⟨X, ?_⟩, ⟨K, ?_⟩, ?_, ?_, ?_, ?_, Or.inr ⟨X, V, U, (X.length, Q.els, Q.evs, Q.opn), ?_, ⟨?_, el, ?_, ?_, ?_, b4, h106⟩, pi3, ?_, ?_⟩⟩
    · rw [e1, bnd_k]
      have : M1 2 0 = nI Q.els.length := c1.cx.ce.len
      rw [this]
    · show F_Mo_read fu M1 r1 = _
      rw [e2, e4, bnd_k, h106, if_neg (show ¬ (1 : Int32) = 0 by decide), el]
    · exact hX.of (m5 0 0 (by omega)) (fun i => m5 10 i (by omega)) (m5 101 0 (by omega)) (fun i => m5 102 i (by omega))
    · exact hK.of (m5 0 1 (by omega)) (fun i => m5 11 i (by omega)) (fun t i _ _ => m5 t i (by omega))
    · rw [m4 36 0 (by omega), c1.wy, k4 104 0 (by omega) (by omega), rr3.wy]
    · rw [m4 37 0 (by omega), c1.wp, k4 105 0 (by omega) (by omega), rr3.wp]
    · rw [m5 23 144 (by omega)]; exact ic
    · rw [m5 24 144 (by omega)]; exact id_
    · exact c1.of (fun t i a _ _ _ => m4 t i (by omega))
    · exact rr3.re.kf k4
    · rw [k4 122 0 (by omega) (by omega)]; exact rr3.en
    · have h1 : Q.evs.length ≤ X.length := rr3.ea
      show Q.evs.length ≤ 240
      omega
    · intro j v hj; rw [k4 123 j (by omega) (by omega)]; exact rr3.ev j v hj
    · intro q
      have q' : Q.els = [] := q
      rw [q'] at ne; exact absurd ne.1 (Nat.lt_irrefl _)
    · exact fm_ne pi3 ne.2
