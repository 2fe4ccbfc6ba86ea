/-! The reference: what stands around, names, numbers -/
theorem g_around {M : gMem} {T : List Int32} (h : TXr M T) (fu : Nat) (r : gRef) {a : Nat} (ha : M 103 0 = nI a) (hb : a ≤ T.length) (x : Bool) (hfu : 240 < fu) :
    Lr (F_Mo_around fu (b2 x) M r) M r (match sPro T (T.length + 1) a with
      | .error w => .error w
      | .ok b => if x then (if ch T b = 60 then .ok b else .error (1, b)) else (if b < T.length then .error (1, if ch T b = 60 then b + 1 else b) else .ok b)) := by
  have hle := h.le
  have key : ∀ d e a, T.length - a < d → T.length - a < e → a ≤ T.length → Lr (F_Mo_around_L0 fu (b2 x) d (mS M 103 0 (nI a)) r) M r (match sPro T e a with
      | .error w => .error w
      | .ok b => if x then (if ch T b = 60 then .ok b else .error (1, b)) else (if b < T.length then .error (1, if ch T b = 60 then b + 1 else b) else .ok b)) := by
    intro d
    induction d with
    | zero => intro e a h1; omega
    | succ d ih =>
      intro e a h1 h2 h3
      obtain ⟨e, rfl⟩ : ∃ e', e = e' + 1 := ⟨e - 1, by omega⟩
      have t0 : TXr (mS M 103 0 (nI a)) T := h.mv (by omega) (by omega)
      rw [F_Mo_around_L0, g_skip t0 fu r (mS_same _ _ _ _) h3 hfu, bnd_k, mS_mS, sPro]
      have s1 := scan_ge bl T a
      have s2 := scan_le bl h3
      generalize scan bl T a = b at *
      have t1 : TXr (mS M 103 0 (nI b)) T := h.mv (by omega) (by omega)
      rw [mS_same, t1.len]
      by_cases qe : b = T.length
      · have h0 : ch T b = 0 := ch_out (by omega)
        rw [if_pos (by rw [qe]), if_neg (show ¬ (ch T b = 60 ∧ ch T (b + 1) = 33) from by rw [h0]; exact fun q => absurd q.1 (by decide))]
        dsimp only
        cases x with
        | false =>
          rw [if_pos (show b2 false = 0 from rfl), if_neg (nI_pos (by omega)), if_neg (by decide), if_neg (by omega)]; rfl
        | true =>
          rw [if_neg (show ¬ b2 true = 0 by decide), if_pos rfl, if_neg (by rw [h0]; decide)]
          exact Rx.tr ((Rf.rfl' M).s (by omega)) (g_fail fu r rfl rfl)
      · have qb : b < T.length := by omega
        rw [if_neg (fun q => qe ((nI_eq (by omega) (by omega)).mp q))]
        by_cases q2 : ch T b = 60
        · rw [g_over1 t1 fu r (mS_same _ _ _ _) (by omega) q2, bnd_k, if_neg (by decide), mS_mS, mS_same]
          have t2 : TXr (mS M 103 0 (nI (b + 1))) T := h.mv (by omega) (by omega)
          rw [g_here t2 fu r (by omega), bnd_k]
          by_cases q3 : ch T (b + 1) = 33
          · rw [if_pos q3, if_pos ⟨q2, q3⟩, mS_same, mS_mS, nI_1]
            have g := g_comment (h.mv (t := 103) (i := 0) (v := nI (b + 1 + 1)) (by omega) (by omega)) fu r (s := b) (mS_same _ _ _ _) q2 q3 hfu
            cases hc : sCom T b with
            | error w => rw [hc] at g; exact Rx.if0 _ (Rx.tr ((Rf.rfl' M).s (by omega)) g)
            | ok c =>
              rw [hc] at g
              have g' : F_Mo_comment fu (mS M 103 0 (nI (b + 1 + 1))) r = .ok 1 (mS (mS M 103 0 (nI (b + 1 + 1))) 103 0 (nI c)) r := g
              have g2 := sCom_ok s2 hc
              rw [g', bnd_k, if_neg (by decide), mS_mS]
              exact ih e c (by omega) (by omega) g2.2.1
          · rw [if_neg q3, if_neg (show ¬ (ch T b = 60 ∧ ch T (b + 1) = 33) from fun q => q3 q.2)]
            dsimp only
            cases x with
            | false =>
              rw [if_pos (show b2 false = 0 from rfl), if_neg (by decide), if_pos qb, if_pos q2]
              exact Rx.tr ((Rf.rfl' M).s (by omega)) (g_fail fu r rfl (mS_same _ _ _ _))
            | true =>
              rw [if_neg (show ¬ b2 true = 0 by decide), if_pos rfl, if_pos q2, mS_same, mS_mS, nI_pred]; rfl
        · rw [if_neg (show ¬ (ch T b = 60 ∧ ch T (b + 1) = 33) from fun q => q2 q.1)]
          dsimp only
          have g := Rx.tr ((Rf.rfl' M).s (by omega)) (Rx.if0 (fun M18 r18 => gO.bnd (F_Mo_here fu (M18 103 0) M18 r18) (fun v20 M20 r20 => if v20 = 33 then (gO.bnd (F_Mo_comment fu (mS M20 103 0 ((M20 103 0) + 1)) r20) (fun v25 M25 r25 => if v25 = 0 then (.ok 0 M25 r25) else (F_Mo_around_L0 fu (b2 x) d M25 r25))) else (if b2 x = 0 then (gO.bnd (F_Mo_fail fu 1 (M20 103 0) M20 r20) (fun v23 M23 r23 => gd (gNb v23) (.ok v23 M23 r23))) else (.ok 1 (mS M20 103 0 ((M20 103 0) - 1)) r20)))) (g_over0 t1 fu r (mS_same _ _ _ _) (by omega) q2))
          cases x with
          | false => rw [if_neg (by decide), if_pos qb, if_neg q2]; exact g
          | true => rw [if_pos rfl, if_neg q2]; exact g
  unfold F_Mo_around
  have := key fu (T.length + 1) a (by omega) (by omega) hb
  rw [← ha, mS_self] at this
  exact this
/-! the pool -/
def PL (M : gMem) (U : List Int32) : Prop := U.length ≤ 240 ∧ ∀ j, j < U.length → M 108 j = ch U j
theorem PL.of {M M' : gMem} {U : List Int32} (h : PL M U) (h1 : ∀ j, j < U.length → M' 108 j = M 108 j) : PL M' U := ⟨h.1, fun j hj => (h1 j hj).trans (h.2 j hj)⟩
def czn (n : Nam) : Int32 := if n.s < n.l then nI (n.l - 1 - n.s) else -1
/-- a name in reading: from a on, now at p, the name's characters behind U -/
def PN (M M' : gMem) (T U : List Int32) (a p : Nat) (cz : Int32) : Prop :=
  M' 103 0 = nI p ∧ M' 107 0 = nI (U.length + (p - a)) ∧ M' 131 0 = nI U.length ∧ M' 133 0 = cz ∧ PL M' (U ++ stre T a p) ∧ (∀ t i, t ≠ 103 → t ≠ 107 → t ≠ 108 → t ≠ 131 → t ≠ 132 → t ≠ 133 → M' t i = M t i)
theorem stre_snoc {L : List Int32} {s z : Nat} (hs : s ≤ z) (hz : z < L.length) : stre L s (z + 1) = stre L s z ++ [ch L z] := by
  unfold stre
  rw [show z + 1 - s = (z - s) + 1 by omega, List.take_add_one, List.getElem?_drop, show s + (z - s) = z by omega, List.getElem?_eq_getElem hz, ← ch_in hz]; rfl
theorem PN.step {M M1 : gMem} {T U : List Int32} {a p : Nat} {cz : Int32} (h : PN M M1 T U a p cz) (hT : TXr M T) (hap : a ≤ p) (hp : p < T.length) (hU : U.length ≤ a) (cz2 : Int32) :
    PN M (mS (mS (mS (mS M1 133 0 cz2) 108 (U.length + (p - a)) (ch T p)) 107 0 (nI (U.length + (p - a) + 1))) 103 0 (nI (p + 1))) T U a (p + 1) cz2 := by
  obtain ⟨h1, h2, h3, h4, h5, h6⟩ := h
  have hle := hT.le
  have hsl := stre_len (L := T) (s := a) (z := p) (by omega)
  refine ⟨mS_same _ _ _ _, ?_, ?_, ?_, ⟨?_, ?_⟩, ?_⟩
  · rw [mS_tag _ (t := 103) (t2 := 107) _ _ _ (by decide), mS_same]; exact congrArg nI (by omega)
  · simp only [mS]; rw [if_neg (by omega), if_neg (by omega), if_neg (by omega), if_neg (by omega)]; exact h3
  · rw [mS_tag _ (t := 103) (t2 := 133) _ _ _ (by decide), mS_tag _ (t := 107) (t2 := 133) _ _ _ (by decide), mS_tag _ (t := 108) (t2 := 133) _ _ _ (by decide), mS_same]
  · rw [List.length_append, stre_len (by omega)]; omega
  · intro j hj
    rw [stre_snoc hap hp, ← List.append_assoc, ch_app]
    rw [List.length_append, stre_len (by omega)] at hj
    have hlen : (U ++ stre T a p).length = U.length + (p - a) := by rw [List.length_append, hsl]
    rw [mS_tag _ (t := 103) (t2 := 108) _ _ _ (by decide), mS_tag _ (t := 107) (t2 := 108) _ _ _ (by decide)]
    by_cases q : j = U.length + (p - a)
    · rw [q, mS_same, if_neg (by omega), hlen, Nat.sub_self]; rfl
    · rw [mS_ix _ _ _ q, mS_tag _ (t := 133) (t2 := 108) _ _ _ (by decide), if_pos (by omega)]; exact h5.2 j (by omega)
  · intro t i a1 a2 a3 a4 a5 a6
    simp only [mS]; rw [if_neg (by omega), if_neg (by omega), if_neg (by omega), if_neg (by omega)]; exact h6 t i a1 a2 a3 a4 a5 a6
theorem PN.tx {M M1 : gMem} {T U : List Int32} {a p : Nat} {cz : Int32} (h : PN M M1 T U a p cz) (hT : TXr M T) : TXr M1 T := hT.of (fun t i q => h.2.2.2.2.2 t i (by omega) (by omega) (by omega) (by omega) (by omega) (by omega))
theorem PN.rf {M M1 : gMem} {T U : List Int32} {a p : Nat} {cz : Int32} (h : PN M M1 T U a p cz) : Rf M M1 := fun t i q => h.2.2.2.2.2 t i (by omega) (by omega) (by omega) (by omega) (by omega) (by omega)
theorem mS_self2 {M : gMem} {t i : Nat} {v : Int32} (h : M t i = v) : mS M t i v = M := by rw [← h]; exact mS_self M t i
theorem gon58 {c : Int32} (h : gon c = true) : c ≠ 58 := by intro q; subst q; exact absurd h (by decide)
/-- a name was read -/
def NrP (M M' : gMem) (T U : List Int32) (a l z : Nat) : Prop :=
  M' 103 0 = nI z ∧ M' 107 0 = nI (U.length + (z - a)) ∧ M' 131 0 = nI U.length ∧ M' 132 0 = nI (z - a) ∧ M' 133 0 = czn ((a, l, z) : Nam) ∧ PL M' (U ++ stre T a z) ∧ (∀ t i, t ≠ 103 → t ≠ 107 → t ≠ 108 → t ≠ 131 → t ≠ 132 → t ≠ 133 → M' t i = M t i)
theorem g_readName {M : gMem} {T U : List Int32} (h : TXr M T) (fu : Nat) (r : gRef) {a : Nat} (ha : M 103 0 = nI a) (hb : a ≤ T.length) (hu : M 107 0 = nI U.length) (hU : U.length ≤ a) (hP : PL M U) (hfu : 240 < fu) :
    match sName T a with
    | .ok (l, z) => ∃ M', F_Mo_readName fu M r = .ok 1 M' r ∧ NrP M M' T U a l z
    | .error w => Rx (F_Mo_readName fu M r) M r w := by
  have hle := h.le
  -- the end of a name
  have fin : ∀ {M1 : gMem} {p : Nat} {cz : Int32} {l : Nat}, PN M M1 T U a p cz → a ≤ p → cz = czn ((a, l, p) : Nam) → ∃ M', F_Mo_readName_B171 fu M1 r = .ok 1 M' r ∧ NrP M M' T U a l p := by
    intro M1 p cz l hn hap hcz
    obtain ⟨h1, h2, h3, h4, h5, h6⟩ := hn
    unfold F_Mo_readName_B171
    rw [h2, h3, pk_sub (by omega), Nat.add_sub_cancel_left]
    refine ⟨_, rfl, ?_, ?_, ?_, mS_same _ _ _ _, ?_, h5.of (fun j _ => mS_tag _ _ _ _ (by decide)), ?_⟩
    · rw [mS_tag _ (t := 132) (t2 := 103) _ _ _ (by decide)]; exact h1
    · rw [mS_tag _ (t := 132) (t2 := 107) _ _ _ (by decide)]; exact h2
    · rw [mS_tag _ (t := 132) (t2 := 131) _ _ _ (by decide)]; exact h3
    · rw [mS_tag _ (t := 132) (t2 := 133) _ _ _ (by decide), h4]; exact hcz
    · intro t i a1 a2 a3 a4 a5 a6; rw [mS_tag _ _ _ _ a5]; exact h6 t i a1 a2 a3 a4 a5 a6
  -- one more character, written as the code has it
  have cpy : ∀ {M1 : gMem} {p : Nat} {cz : Int32}, PN M M1 T U a p cz → a ≤ p → p < T.length → ∀ cz2 d, gd (vp_in ((mS M1 133 0 cz2) 103 0) 240) (gd (vp_in ((mS M1 133 0 cz2) 107 0) 260) (F_Mo_readName_L43 fu d (nI a) (mS (mS (mS (mS M1 133 0 cz2) 108 ((mS M1 133 0 cz2) 107 0).toNatClampNeg ((mS M1 133 0 cz2) 102 ((mS M1 133 0 cz2) 103 0).toNatClampNeg)) 107 0 (((mS (mS M1 133 0 cz2) 108 ((mS M1 133 0 cz2) 107 0).toNatClampNeg ((mS M1 133 0 cz2) 102 ((mS M1 133 0 cz2) 103 0).toNatClampNeg)) 107 0) + 1)) 103 0 (((mS (mS (mS M1 133 0 cz2) 108 ((mS M1 133 0 cz2) 107 0).toNatClampNeg ((mS M1 133 0 cz2) 102 ((mS M1 133 0 cz2) 103 0).toNatClampNeg)) 107 0 (((mS (mS M1 133 0 cz2) 108 ((mS M1 133 0 cz2) 107 0).toNatClampNeg ((mS M1 133 0 cz2) 102 ((mS M1 133 0 cz2) 103 0).toNatClampNeg)) 107 0) + 1)) 103 0) + 1)) r)) = F_Mo_readName_L43 fu d (nI a) (mS (mS (mS (mS M1 133 0 cz2) 108 (U.length + (p - a)) (ch T p)) 107 0 (nI (U.length + (p - a) + 1))) 103 0 (nI (p + 1))) r := by
    intro M1 p cz hn hap hp cz2 d
    have t1 : TXr (mS M1 133 0 cz2) T := (hn.tx h).mv (by omega) (by omega)
    have e1 : (mS M1 133 0 cz2) 103 0 = nI p := by rw [mS_tag _ (t := 133) (t2 := 103) _ _ _ (by decide)]; exact hn.1
    have e2 : (mS M1 133 0 cz2) 107 0 = nI (U.length + (p - a)) := by rw [mS_tag _ (t := 133) (t2 := 107) _ _ _ (by decide)]; exact hn.2.1
    generalize mS M1 133 0 cz2 = M2 at *
    rw [e1, e2, gd_yes (vp_in_nI (by omega) (by decide)), gd_yes (vp_in_nI (by omega) (by decide)), nI_clamp (by omega), nI_clamp (by omega), t1.chr p hp, mS_tag _ (t := 108) (t2 := 107) _ _ _ (by decide), e2, nI_1, mS_tag _ (t := 107) (t2 := 103) _ _ _ (by decide), mS_tag _ (t := 108) (t2 := 103) _ _ _ (by decide), e1, nI_1]
  -- behind the colon
  have two : ∀ d p l M1, T.length - p < d → a ≤ p → p ≤ T.length → a < l ∧ l ≤ p → PN M M1 T U a p (nI (l - 1 - a)) → ∃ M', F_Mo_readName_L43 fu d (nI a) M1 r = .ok 1 M' r ∧ NrP M M' T U a l (scan gon T p) := by
    intro d
    induction d with
    | zero => intro p l M1 h1; omega
    | succ d ih =>
      intro p l M1 h1 h2 h3 h4 hn
      have t1 := hn.tx h
      rw [F_Mo_readName_L43, hn.1, g_here t1 fu r (by omega), bnd_k, g_goesOn, bnd_k]
      by_cases q : gon (ch T p) = true
      · have qp : p < T.length := lt_of_ch rfl (fun e => by rw [e] at q; exact absurd q (by decide))
        rw [if_neg (by rw [b2_0, q]; decide), hn.1, g_here t1 fu r (by omega), bnd_k, if_neg (gon58 q)]
        have c := cpy hn h2 qp (nI (l - 1 - a)) d
        rw [mS_self2 hn.2.2.2.1] at c
        rw [c, scan_step qp q]
        have st := hn.step h h2 qp hU (nI (l - 1 - a))
        rw [mS_self2 hn.2.2.2.1] at st
        exact ih (p + 1) l _ (by omega) (by omega) (by omega) ⟨h4.1, by omega⟩ st
      · have hb2 : b2 (gon (ch T p)) = 0 := by rw [b2_0]; simpa using q
        rw [if_pos hb2, hn.1, g_here t1 fu r (by omega), bnd_k, scan_stop (Or.inr (by simpa using q)), hn.2.2.2.1]
        have f := fin (l := l) hn h2 (by unfold czn; rw [if_pos (show Nam.s ((a, l, p) : Nam) < Nam.l ((a, l, p) : Nam) from h4.1)]; rfl)
        by_cases q2 : ch T p = 58
        · rw [if_pos q2, if_pos (nI_pos' (by omega))]; exact f
        · rw [if_neg q2]; exact f
  -- up to the colon
  have one : ∀ d p M1, T.length - p < d → a ≤ p → p ≤ T.length → scan gon T a = scan gon T p → pb (ch T a) = true → PN M M1 T U a p (-1) →
      match sName T a with
      | .ok (l, z) => ∃ M', F_Mo_readName_L43 fu d (nI a) M1 r = .ok 1 M' r ∧ NrP M M' T U a l z
      | .error w => Rx (F_Mo_readName_L43 fu d (nI a) M1 r) M r w := by
    intro d
    induction d with
    | zero => intro p M1 h1; omega
    | succ d ih =>
      intro p M1 h1 h2 h3 h4 h5 hn
      have t1 := hn.tx h
      rw [F_Mo_readName_L43, hn.1, g_here t1 fu r (by omega), bnd_k, g_goesOn, bnd_k]
      by_cases q : gon (ch T p) = true
      · have qp : p < T.length := lt_of_ch rfl (fun e => by rw [e] at q; exact absurd q (by decide))
        rw [if_neg (by rw [b2_0, q]; decide), hn.1, g_here t1 fu r (by omega), bnd_k, if_neg (gon58 q)]
        have c := cpy hn h2 qp (-1) d
        rw [mS_self2 hn.2.2.2.1] at c
        rw [c]
        have st := hn.step h h2 qp hU (-1)
        rw [mS_self2 hn.2.2.2.1] at st
        exact ih (p + 1) _ (by omega) (by omega) (by omega) (h4.trans (scan_step qp q)) h5 st
      · have hsp : scan gon T a = p := h4.trans (scan_stop (Or.inr (by simpa using q)))
        have hb2 : b2 (gon (ch T p)) = 0 := by rw [b2_0]; simpa using q
        rw [if_pos hb2, hn.1, g_here t1 fu r (by omega), bnd_k, hn.2.2.2.1]
        unfold sName
        rw [if_pos h5, hsp]
        by_cases q2 : ch T p = 58
        · have qp := lt_of_ch q2 (by decide)
          rw [if_pos q2, if_pos q2, if_neg (show ¬ (0 : Int32) ≤ -1 by decide), hn.1, g_here t1 fu r (by omega), bnd_k, if_pos q2, hn.1]
          have hap : a < p := by
            rcases Nat.lt_or_ge a p with q3 | q3
            · exact q3
            · have : a = p := by omega
              subst this; rw [q2] at h5; exact absurd h5 (by decide)
          have t2 : TXr (mS M1 133 0 (nI p - nI a)) T := t1.mv (by omega) (by omega)
          have e1 : (mS M1 133 0 (nI p - nI a)) 103 0 = nI p := by rw [mS_tag _ (t := 133) (t2 := 103) _ _ _ (by decide)]; exact hn.1
          rw [e1, nI_1, g_here t2 fu r (by omega), bnd_k, g_starts, bnd_k]
          by_cases q4 : pb (ch T (p + 1)) = true
          · rw [if_neg (show ¬ b2 (pb (ch T (p + 1))) = 0 by rw [b2_0, q4]; decide), if_pos q4]
            have c := cpy hn h2 qp (nI p - nI a) d
            rw [e1] at c
            rw [e1, c]
            have st := hn.step h h2 qp hU (nI p - nI a)
            rw [pk_sub (by omega)] at st
            have l1 := lt_of_ch (T := T) (a := p + 1) rfl (pb_ne q4)
            have g := two d (p + 1) (p + 1) _ (by omega) (by omega) (by omega) ⟨by omega, by omega⟩ st
            rw [pk_sub (by omega)]
            exact g
          · rw [if_pos (show b2 (pb (ch T (p + 1))) = 0 by rw [b2_0]; simpa using q4), if_neg q4]
            refine Rx.tr (hn.rf.s (by omega)) (g_fail fu r rfl ?_)
            rw [e1, nI_1]
        · rw [if_neg q2, if_neg q2]
          exact fin (l := a) hn h2 (by unfold czn; rw [if_neg (show ¬ Nam.s ((a, a, p) : Nam) < Nam.l ((a, a, p) : Nam) from Nat.lt_irrefl a)])
  unfold F_Mo_readName
  rw [ha, g_here h fu r (by omega), bnd_k, g_starts, bnd_k]
  by_cases q : pb (ch T a) = true
  · rw [if_neg (show ¬ b2 (pb (ch T a)) = 0 by rw [b2_0, q]; decide), hu]
    have e1 : (mS (mS M 131 0 (nI U.length)) 133 0 (-1)) 103 0 = nI a := by rw [mS_tag _ (t := 133) (t2 := 103) _ _ _ (by decide), mS_tag _ (t := 131) (t2 := 103) _ _ _ (by decide)]; exact ha
    rw [e1]
    refine one fu a _ (by omega) (Nat.le_refl _) hb rfl q ⟨e1, ?_, ?_, mS_same _ _ _ _, ?_, ?_⟩
    · rw [mS_tag _ (t := 133) (t2 := 107) _ _ _ (by decide), mS_tag _ (t := 131) (t2 := 107) _ _ _ (by decide), hu, Nat.sub_self]; rfl
    · rw [mS_tag _ (t := 133) (t2 := 131) _ _ _ (by decide), mS_same]
    · rw [stre_nil, List.append_nil]
      exact hP.of (fun j _ => by rw [mS_tag _ (t := 133) (t2 := 108) _ _ _ (by decide), mS_tag _ (t := 131) (t2 := 108) _ _ _ (by decide)])
    · intro t i a1 a2 a3 a4 a5 a6; rw [mS_tag _ _ _ _ a6, mS_tag _ _ _ _ a4]
  · rw [if_pos (show b2 (pb (ch T a)) = 0 by rw [b2_0]; simpa using q)]
    unfold sName; rw [if_neg q]
    exact g_fail fu r rfl ha
