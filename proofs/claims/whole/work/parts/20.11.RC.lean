/-! The reference's reading as a whole, up to the form -/
/-- kept over the reference's read -/
def Rk (M M' : gMem) : Prop := ∀ t i, (t < 100 ∨ t = 101 ∨ t = 102 ∨ (128 ≤ t ∧ t ≤ 130)) → M' t i = M t i
theorem Rf.rk {M M' : gMem} (h : Rf M M') : Rk M M' := fun t i q => h t i (by omega)
theorem Rk.tr {M M1 M2 : gMem} (h : Rk M M1) (h2 : Rk M1 M2) : Rk M M2 := fun t i q => (h2 t i q).trans (h t i q)
theorem g_read {M : gMem} {r : gRef} {T : List Int32} (hT : TXr M T) (fu : Nat) (hfu : 240 < fu) :
    match sDoc T with
    | .error w => ∃ M', F_Mo_read fu M r = .ok 0 M' r ∧ M' 106 0 = 0 ∧ M' 100 0 = 1 ∧ M' 104 0 = nI w.1 ∧ M' 105 0 = nI w.2 ∧ Rk M M'
    | .ok Q => ∃ M1 U, RR M1 T U (T.length, Q.els, Q.evs, Q.opn) ∧ PI T Q ∧ Q.opn = none ∧ Rf M M1 ∧ F_Mo_read fu M r = gO.bnd (F_Mo_writeForm fu (mS (mS M1 106 0 1) 100 0 0) r) (fun _ M r => if M 106 0 = 0 then (.ok 0 M r) else (.ok (M 109 0) M r)) := by
  have hle := hT.le
  unfold F_Mo_read
  generalize hM0 : (mS (mS (mS (mS (mS (mS (mS (mS M 103 0 0) 104 0 0) 105 0 (-1)) 107 0 0) 109 0 0) 122 0 0) 124 0 (-1)) 125 0 0) = M0
  have k0 : ∀ t i, t ≠ 103 → t ≠ 104 → t ≠ 105 → t ≠ 107 → t ≠ 109 → t ≠ 122 → t ≠ 124 → t ≠ 125 → M0 t i = M t i := fun t i a b c d e f g q => by
    subst hM0; rw [mS_tag _ _ _ _ q, mS_tag _ _ _ _ g, mS_tag _ _ _ _ f, mS_tag _ _ _ _ e, mS_tag _ _ _ _ d, mS_tag _ _ _ _ c, mS_tag _ _ _ _ b, mS_tag _ _ _ _ a]
  have f0 : Rf M M0 := fun t i q => k0 t i (by omega) (by omega) (by omega) (by omega) (by omega) (by omega) (by omega) (by omega)
  have c0 : RR M0 T [] ((0, [], [], none) : Ps) := by
    refine ⟨f0.tx hT, ?_, Nat.zero_le _, ⟨⟨Nat.zero_le _, fun j hj => absurd hj (Nat.not_lt_zero j)⟩, Nat.zero_le _, fun e E hE => ?_⟩, ?_, Nat.zero_le _, ?_, ?_, Nat.zero_le _, ?_, ?_, ?_, ?_, ?_, ?_⟩
    · subst hM0; simp [mS]; rfl
    · have : (([] : List Ele))[e]? = some E := hE
      simp at this
    · subst hM0; simp [mS]; rfl
    · subst hM0; simp [mS]; rfl
    · subst hM0; simp [mS]; rfl
    · intro j v hj
      have : (([] : List Ev))[j]? = some v := hj
      simp at this
    · subst hM0; simp [mS]; rfl
    · intro o ho; cases ho
    · subst hM0; simp [mS]; rfl
    · subst hM0; simp [mS]
    · subst hM0; simp [mS]
  have p0 : ∀ a, PI T ((a, [], [], none) : Ps) := fun a => ⟨fun k K hK => by
    have : (([] : List Ele))[k]? = some K := hK
    simp at this, fun k K hK => by
    have : (([] : List Ele))[k]? = some K := hK
    simp at this, fun v hv => by
    have : v ∈ ([] : List Ev) := hv
    cases this⟩
  -- the end of a failing
  have bad : ∀ {x : gO Int32} {w : Wr} (k : gMem → gRef → gO Int32), Rx x M0 r w → ∃ M', gO.bnd x (fun v M r => if v = 0 then (if ((mS (mS M 106 0 0) 100 0 1) 106 0) = 0 then (if ((mS (mS M 106 0 0) 100 0 1) 106 0) = 0 then (.ok 0 (mS (mS M 106 0 0) 100 0 1) r) else (.ok ((mS (mS M 106 0 0) 100 0 1) 109 0) (mS (mS M 106 0 0) 100 0 1) r)) else (gO.bnd (F_Mo_writeForm fu (mS (mS M 106 0 0) 100 0 1) r) (fun _ M r => if (M 106 0) = 0 then (.ok 0 M r) else (.ok (M 109 0) M r)))) else k M r) = .ok 0 M' r ∧ M' 106 0 = 0 ∧ M' 100 0 = 1 ∧ M' 104 0 = nI w.1 ∧ M' 105 0 = nI w.2 ∧ Rk M M' := by
    intro x w k hx
    obtain ⟨M2, e2, h1, h2, h3⟩ := hx
    have z : (mS (mS M2 106 0 0) 100 0 1) 106 0 = 0 := by rw [mS_tag _ (t := 100) (t2 := 106) _ _ _ (by decide), mS_same]
    refine ⟨mS (mS M2 106 0 0) 100 0 1, by rw [e2, bnd_k, if_pos rfl, if_pos z, if_pos z], z, mS_same _ _ _ _, ?_, ?_, ?_⟩
    · rw [mS_tag _ (t := 100) (t2 := 104) _ _ _ (by decide), mS_tag _ (t := 106) (t2 := 104) _ _ _ (by decide)]; exact h1
    · rw [mS_tag _ (t := 100) (t2 := 105) _ _ _ (by decide), mS_tag _ (t := 106) (t2 := 105) _ _ _ (by decide)]; exact h2
    · intro t i q; rw [mS_tag _ _ _ _ (by omega), mS_tag _ _ _ _ (by omega)]; exact (f0.tr h3) t i (by omega)
  have ga := g_around (c0.tx) fu r (a := 0) c0.fa (Nat.zero_le _) true hfu
  unfold sDoc
  cases hp : sPro T (T.length + 1) 0 with
  | error w => rw [hp] at ga; exact bad _ ga
  | ok a =>
    rw [hp] at ga
    have pl := sPro_le _ (Nat.zero_le _) hp
    dsimp only at ga ⊢
    rw [if_pos rfl] at ga
    by_cases q : ch T a = 60
    · rw [if_pos q] at ga ⊢
      have ga' : F_Mo_around fu 1 M0 r = .ok 1 (mS M0 103 0 (nI a)) r := ga
      have c1 : RR (mS M0 103 0 (nI a)) T [] ((a, [], [], none) : Ps) := c0.at pl.2.1 (Nat.zero_le _)
      have f1 : Rf M0 (mS M0 103 0 (nI a)) := (Rf.rfl' M0).s (by omega)
      have gt := g_readTag (r := r) c1 (p0 a) q fu hfu
      rw [ga', bnd_k, if_neg (show ¬ (1 : Int32) = 0 by decide)]
      cases hs : sTag T (a, [], [], none) with
      | error w => rw [hs] at gt; exact bad _ (Rx.tr f1 gt)
      | ok P =>
        rw [hs] at gt
        obtain ⟨M2, U2, e2, c2, f2⟩ := gt
        have hp2 : PI T P := (p0 a).tag hT.okc (fun e E hE => by
          have : (([] : List Ele))[e]? = some E := hE
          simp at this) (fun o ho => by cases ho) hs
        -- the first tag's end
        have hs2 := hs
        rw [sTag_eq] at hs2
        obtain ⟨az, a62⟩ : a + 3 ≤ P.at_ ∧ ch T (P.at_ - 1) = 62 := by
          cases h1 : sTag1 T (a, [], [], none) with
          | error w => rw [h1] at hs2; cases hs2
          | ok q =>
            obtain ⟨E2, em, z⟩ := q
            rw [h1] at hs2
            have w := sTag1_w hT.okc h1
            have n := sTag1_n h1
            dsimp only at hs2
            cases hc : chk T (Ps.els ((a, [], [], none) : Ps) ++ [E2]) (Ps.els ((a, [], [], none) : Ps)).length E2 with
            | some w => rw [hc] at hs2; cases hs2
            | none =>
              rw [hc] at hs2; injection hs2 with hs2
              have e9 : P.at_ = z := by rw [← hs2]; rfl
              have w1 := w.1
              have w5 := w.2.2.2.2.1
              have ha9 : Ps.at_ ((a, [], [], none) : Ps) = a := rfl
              rw [ha9] at w1
              rw [e9]; refine ⟨?_, n.2.2⟩
              cases em <;> simp at w1 <;> omega
        have gc := g_content (r := r) hfu fu (T.length + 1) 0 P M2 U2 c2 hp2 ⟨0, nI_0.symm, Nat.zero_le _, ⟨fun q => by omega, fun q => by rw [a62] at q; exact absurd q (by decide)⟩, ⟨fun q => by omega, fun q => by rw [a62] at q; exact absurd q.1 (by decide)⟩⟩ (by omega) (by omega) (by omega)
        have gc' : match sCon T (T.length + 1) P with
          | .error w => Rx (F_Mo_readContent fu M2 r) M2 r w
          | .ok Q => ∃ M' U', F_Mo_readContent fu M2 r = .ok 1 M' r ∧ RR M' T U' Q ∧ PI T Q ∧ Q.opn = none ∧ Rf M2 M' := gc
        have f12 : Rf M0 M2 := f1.tr f2
        rw [e2, bnd_k, if_neg (show ¬ (1 : Int32) = 0 by decide)]
        dsimp only
        cases hc : sCon T (T.length + 1) P with
        | error w => rw [hc] at gc'; exact bad _ (Rx.tr f12 gc')
        | ok Q =>
          rw [hc] at gc'
          obtain ⟨M3, U3, e3, c3, hp3, hq3, f3⟩ := gc'
          have f13 : Rf M0 M3 := f12.tr f3
          rw [e3, bnd_k, if_neg (show ¬ (1 : Int32) = 0 by decide)]
          have gb := g_around c3.tx fu r c3.fa c3.aT false hfu
          dsimp only
          cases hpp : sPro T (T.length + 1) Q.at_ with
          | error w => rw [hpp] at gb; exact bad _ (Rx.tr f13 gb)
          | ok b =>
            rw [hpp] at gb
            have pl2 := sPro_le _ c3.aT hpp
            dsimp only at gb ⊢
            rw [if_neg (show ¬ false = true by decide)] at gb
            by_cases qb : b < T.length
            · rw [if_pos qb] at gb ⊢; exact bad _ (Rx.tr f13 gb)
            · rw [if_neg qb] at gb ⊢
              have hbe : b = T.length := by omega
              have gb' : F_Mo_around fu 0 M3 r = .ok 1 (mS M3 103 0 (nI b)) r := gb
              have c4 : RR (mS M3 103 0 (nI b)) T U3 ((b, Q.els, Q.evs, Q.opn) : Ps) := c3.at pl2.2.1 pl2.1
              rw [hbe] at c4 gb'
              have z : ¬ (mS (mS (mS M3 103 0 (nI T.length)) 106 0 1) 100 0 0) 106 0 = 0 := by rw [mS_tag _ (t := 100) (t2 := 106) _ _ _ (by decide), mS_same]; decide
              refine ⟨_, U3, c4, hp3, hq3, (f0.tr f13).tr ((Rf.rfl' M3).s (by omega)), ?_⟩
              rw [gb', bnd_k, if_neg (show ¬ (1 : Int32) = 0 by decide), if_neg z]
    · rw [if_neg q] at ga ⊢
      exact bad _ ga
