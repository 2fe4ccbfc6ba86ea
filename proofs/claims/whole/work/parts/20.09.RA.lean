/-! The reference: end tags, sections, content -/
/-- the place moved, the rest as it was -/
theorem RR.mv {M M' : gMem} {T U : List Int32} {P : Ps} (h : RR M T U P) {b : Nat} (hb : b ≤ T.length) (hab : P.at_ ≤ b) (h3 : M' 103 0 = nI b) (h7 : M' 107 0 = nI U.length) (hP : PL M' U) (k : ∀ t i, t ≠ 103 → t ≠ 107 → t ≠ 108 → t ≠ 131 → t ≠ 132 → t ≠ 133 → M' t i = M t i) : RR M' T U (b, P.els, P.evs, P.opn) := by
  have ua := h.ua; have ea := h.ea
  have k2 : ∀ t i, (t = 101 ∨ t = 102 ∨ t = 104 ∨ t = 105 ∨ t = 109 ∨ (110 ≤ t ∧ t ≤ 125)) → M' t i = M t i := fun t i q => k t i (by omega) (by omega) (by omega) (by omega) (by omega) (by omega)
  refine ⟨h.tx.of (fun t i q => k2 t i (by omega)), h3, hb, ⟨hP, h.re.2.1, fun e E hE => ?_⟩, h7, ?_, ?_, ?_, ?_, ?_, ?_, h.oe, ?_, ?_, ?_⟩
  · obtain ⟨⟨⟨f, a1, a2, a3⟩, a4, a5, a6, a7, a8, a9, a10, a11⟩, b⟩ := h.re.2.2 e E hE
    exact ⟨⟨⟨f, (k2 111 e (by omega)).trans a1, a2, a3⟩, (k2 112 e (by omega)).trans a4, (k2 113 e (by omega)).trans a5, (k2 114 e (by omega)).trans a6, (k2 115 e (by omega)).trans a7, a8, a9.same (fun t i p q => k2 t i (by omega)), (k2 110 e (by omega)).trans a10, a11⟩, b⟩
  · show U.length ≤ b; omega
  · rw [k2 109 0 (by omega)]; exact h.el
  · rw [k2 122 0 (by omega)]; exact h.en
  · show P.evs.length ≤ b; omega
  · intro j v hj; rw [k2 123 j (by omega)]; exact h.ev j v hj
  · rw [k2 124 0 (by omega)]; exact h.op
  · rw [k2 125 0 (by omega)]; exact h.dp
  · rw [k2 104 0 (by omega)]; exact h.wy
  · rw [k2 105 0 (by omega)]; exact h.wp
theorem RR.at {M : gMem} {T U : List Int32} {P : Ps} (h : RR M T U P) {b : Nat} (hb : b ≤ T.length) (hab : P.at_ ≤ b) : RR (mS M 103 0 (nI b)) T U (b, P.els, P.evs, P.opn) :=
  h.mv hb hab (mS_same _ _ _ _) (by rw [mS_tag _ (t := 103) (t2 := 107) _ _ _ (by decide)]; exact h.us) (h.re.1.of (fun j _ => mS_tag _ _ _ _ (by decide))) (fun t i a _ _ _ _ _ => mS_tag _ _ _ _ a)
/-- an event more -/
theorem RR.happ {M : gMem} {T U : List Int32} {P : Ps} (h : RR M T U P) (v : Ev) {b : Nat} (hb : b ≤ T.length) (hab : P.at_ < b) (M' : gMem) (hM : M' = mS (mS M 123 P.evs.length (evI v)) 122 0 (nI (P.evs.length + 1))) (M2 : gMem) (h2 : M2 103 0 = nI b) (k : ∀ t i, t ≠ 103 → M2 t i = M' t i) : RR M2 T U (b, P.els, P.evs ++ [v], P.opn) := by
  have ua := h.ua; have ea := h.ea
  have k2 : ∀ t i, t ≠ 103 → t ≠ 122 → t ≠ 123 → M2 t i = M t i := fun t i a b c => by rw [k t i a, hM, mS_tag _ _ _ _ b, mS_tag _ _ _ _ c]
  refine ⟨h.tx.of (fun t i q => k2 t i (by omega) (by omega) (by omega)), h2, hb, h.re.of (fun t i q => k2 t i (by omega) (by omega) (by omega)), ?_, ?_, ?_, ?_, ?_, ?_, ?_, h.oe, ?_, ?_, ?_⟩
  · rw [k2 107 0 (by omega) (by omega) (by omega)]; exact h.us
  · show U.length ≤ b; omega
  · rw [k2 109 0 (by omega) (by omega) (by omega)]; exact h.el
  · show M2 122 0 = nI (P.evs ++ [v]).length; rw [k 122 0 (by omega), hM, mS_same, List.length_append]; rfl
  · show (P.evs ++ [v]).length ≤ b; rw [List.length_append]; simp only [List.length_cons, List.length_nil]; omega
  · intro j w hj; rw [k 123 j (by omega), hM]; exact ev_app h.ev j w hj
  · rw [k2 124 0 (by omega) (by omega) (by omega)]; exact h.op
  · rw [k2 125 0 (by omega) (by omega) (by omega)]; exact h.dp
  · rw [k2 104 0 (by omega) (by omega) (by omega)]; exact h.wy
  · rw [k2 105 0 (by omega) (by omega) (by omega)]; exact h.wp
theorem g_readEnd {M : gMem} {r : gRef} {T U : List Int32} {P : Ps} (h : RR M T U P) (hp : PI T P) {o : Nat} {E : Ele} (ho : P.opn = some o) (hE : P.els[o]? = some E) (h60 : ch T P.at_ = 60) (h47 : ch T (P.at_ + 1) = 47) (fu : Nat) (hfu : 240 < fu) : Sr (F_Mo_readEnd fu M r) M r T (sEnd T P o E) := by
  have hle := h.tx.le
  have aT := h.aT
  have q2 := lt_of_ch h47 (by decide)
  have h24 : P.els.length ≤ 24 := h.re.2.1
  have hol := h.oe o ho
  have ua := h.ua
  have ea := h.ea
  have hU := h.re.1.1
  unfold F_Mo_readEnd sEnd
  rw [h.fa, nI_2]
  have e107 : (mS M 103 0 (nI (P.at_ + 2))) 107 0 = nI U.length := by rw [mS_tag _ (t := 103) (t2 := 107) _ _ _ (by decide)]; exact h.us
  rw [e107, mS_same]
  have n := g_readName (h.tx.mv (t := 103) (i := 0) (v := nI (P.at_ + 2)) (by omega) (by omega)) fu r (U := U) (a := P.at_ + 2) (mS_same _ _ _ _) (by omega) e107 (by omega) (h.re.1.of (fun j _ => mS_tag _ _ _ _ (by decide))) hfu
  cases hs : sName T (P.at_ + 2) with
  | error w => rw [hs] at n; exact Rx.if0 _ (Rx.tr ((Rf.rfl' M).s (by omega)) n)
  | ok lz =>
    obtain ⟨l, z⟩ := lz
    rw [hs] at n
    obtain ⟨M2, e2, n1, n2, n3, n4, n5, n6, n7⟩ := n
    have nl := sName_le hs
    have hsl := stre_len (L := T) (s := P.at_ + 2) nl.2.1
    have k2 : ∀ t i, t ≠ 103 → t ≠ 107 → t ≠ 108 → t ≠ 131 → t ≠ 132 → t ≠ 133 → M2 t i = M t i := fun t i a b c d e f => by rw [n7 t i a b c d e f, mS_tag _ _ _ _ a]
    rw [e2, bnd_k, if_neg (show ¬ (1 : Int32) = 0 by decide)]
    generalize hM3 : mS M2 107 0 (nI U.length) = M3
    have k23 : ∀ t i, t ≠ 107 → M3 t i = M2 t i := fun t i a => by subst hM3; exact mS_tag _ _ _ _ a
    have c3 : RR M3 T U (z, P.els, P.evs, P.opn) := h.mv nl.2.1 (by omega) (by rw [k23 103 0 (by omega)]; exact n1) (by subst hM3; exact mS_same _ _ _ _) ⟨hU, fun j hj => by rw [k23 108 j (by omega), n6.2 j (by rw [List.length_append]; omega), ch_app, if_pos hj]⟩ (fun t i a b c d e f => by rw [k23 t i b, k2 t i a b c d e f])
    have f3 : Rf M M3 := fun t i q => by rw [k23 t i (by omega), k2 t i (by omega) (by omega) (by omega) (by omega) (by omega) (by omega)]
    have op3 : M3 124 0 = nI o := by rw [c3.op]; show paI P.opn = nI o; rw [ho]; rfl
    obtain ⟨⟨⟨f, a1, a2, a3⟩, a4, a5, a6, a7, a8, a9, a10, a11⟩, -⟩ := c3.re.2.2 o E hE
    have pl3 : PL M3 (U ++ stre T (P.at_ + 2) z) := n6.of (fun j _ => k23 108 j (by omega))
    have o24 : o < 24 := by omega
    rw [op3, gd_yes (vp_in_nI o24 (by decide)), gd_yes (vp_in_nI o24 (by decide)), nI_clamp (n := o) (by omega), k23 131 0 (by omega), n3, k23 132 0 (by omega), n4, a1, a4, g_compare pl3 fu r (by rw [List.length_append, hsl]; omega) (by rw [List.length_append]; omega) hfu, bnd_k]
    have s1' : stre (U ++ stre T (P.at_ + 2) z) U.length (U.length + (z - (P.at_ + 2))) = stre T (P.at_ + 2) z := by rw [← hsl, stre_all]
    have s2' : stre (U ++ stre T (P.at_ + 2) z) f (f + (E.nm.z - E.nm.s)) = nmT T E.nm := by rw [stre_app a2]; exact a3
    rw [s1', s2']
    dsimp only
    by_cases q3 : stre T (P.at_ + 2) z = nmT T E.nm
    · rw [if_pos q3, if_pos (cmpI_0.mpr q3), g_skip c3.tx fu r (show M3 103 0 = nI z from c3.fa) nl.2.1 hfu, bnd_k]
      have s1 := scan_ge bl T z
      have s2 := scan_le bl nl.2.1
      show Sr (gO.bnd (F_Mo_over fu 62 (mS M3 103 0 (nI (scan bl T z))) r) _) M r T _
      generalize scan bl T z = b at *
      have t4 : TXr (mS M3 103 0 (nI b)) T := c3.tx.mv (by omega) (by omega)
      by_cases q4 : ch T b = 62
      · have qb := lt_of_ch q4 (by decide)
        rw [if_pos q4, g_over1 t4 fu r (mS_same _ _ _ _) (by omega) q4, bnd_k, if_neg (show ¬ (1 : Int32) = 0 by decide), mS_mS]
        have c5 : RR (mS M3 103 0 (nI (b + 1))) T U (b + 1, P.els, P.evs, P.opn) := c3.at (by omega) (by show z ≤ b + 1; omega)
        have op5 : (mS M3 103 0 (nI (b + 1))) 124 0 = nI o := by rw [mS_tag _ (t := 103) (t2 := 124) _ _ _ (by decide)]; exact op3
        have en5 : (mS M3 103 0 (nI (b + 1))) 122 0 = nI P.evs.length := c5.en
        rw [op5, g_happen fu r _ en5 (by omega), bnd_k]
        have ez : (2000 : Int32) + nI o = evI (Ev.z o E.par) := nI_add 2000 o
        rw [ez]
        generalize hM6 : mS (mS (mS M3 103 0 (nI (b + 1))) 123 P.evs.length (evI (Ev.z o E.par))) 122 0 (nI (P.evs.length + 1)) = M6
        have k36 : ∀ t i, t ≠ 103 → t ≠ 122 → t ≠ 123 → M6 t i = M3 t i := fun t i a b c => by subst hM6; rw [mS_tag _ _ _ _ b, mS_tag _ _ _ _ c, mS_tag _ _ _ _ a]
        have x124 : M6 124 0 = nI o := by rw [k36 124 0 (by omega) (by omega) (by omega)]; exact op3
        have x110 : M6 110 o = paI E.par := by rw [k36 110 o (by omega) (by omega) (by omega)]; exact a10
        have x125 : (mS M6 124 0 (paI E.par)) 125 0 = nI (dpO P.els P.opn) := by rw [mS_tag _ (t := 124) (t2 := 125) _ _ _ (by decide), k36 125 0 (by omega) (by omega) (by omega)]; exact c3.dp
        have dpe : dpO P.els P.opn = dpO P.els E.par + 1 := by
          rw [ho]
          have : dpO P.els (some o) = E.dp := by unfold dpO; simp [hE]
          rw [this]; exact (hp.2.1 o E hE).2.2.1
        rw [x124, gd_yes (vp_in_nI o24 (by decide)), if_neg (nI_pos (by omega)), nI_clamp (n := o) (by omega), x110, x125, dpe, nI_pred]
        have c6 : RR M6 T U (b + 1, P.els, P.evs ++ [Ev.z o E.par], P.opn) := by
          have := c3.happ (Ev.z o E.par) (b := b + 1) (by omega) (by show z < b + 1; omega) _ rfl M6 (by subst hM6; rw [mS_tag _ (t := 122) (t2 := 103) _ _ _ (by decide), mS_tag _ (t := 123) (t2 := 103) _ _ _ (by decide), mS_same]) (fun t i a => by
            subst hM6
            show mS (mS (mS M3 103 0 (nI (b + 1))) 123 P.evs.length (evI (Ev.z o E.par))) 122 0 (nI (P.evs.length + 1)) t i = mS (mS M3 123 P.evs.length (evI (Ev.z o E.par))) 122 0 (nI (P.evs.length + 1)) t i
            simp only [mS]; simp [a])
          exact this
        have k67 : ∀ t i, t ≠ 124 → t ≠ 125 → (mS (mS M6 124 0 (paI E.par)) 125 0 (nI (dpO P.els E.par))) t i = M6 t i := fun t i a b => by rw [mS_tag _ _ _ _ b, mS_tag _ _ _ _ a]
        refine ⟨_, U, rfl, ⟨c6.tx.of (fun t i q => k67 t i (by omega) (by omega)), ?_, c6.aT, c6.re.of (fun t i q => k67 t i (by omega) (by omega)), ?_, c6.ua, ?_, ?_, c6.ea, ?_, ?_, ?_, mS_same _ _ _ _, ?_, ?_⟩, ?_⟩
        · rw [k67 103 0 (by omega) (by omega)]; exact c6.fa
        · rw [k67 107 0 (by omega) (by omega)]; exact c6.us
        · rw [k67 109 0 (by omega) (by omega)]; exact c6.el
        · rw [k67 122 0 (by omega) (by omega)]; exact c6.en
        · intro j v hj; rw [k67 123 j (by omega) (by omega)]; exact c6.ev j v hj
        · rw [mS_tag _ (t := 125) (t2 := 124) _ _ _ (by decide), mS_same]; rfl
        · intro m hm; have := (h.re.2.2 o E hE).2 m hm; show m < P.els.length; omega
        · rw [k67 104 0 (by omega) (by omega)]; exact c6.wy
        · rw [k67 105 0 (by omega) (by omega)]; exact c6.wp
        · intro t i q; rw [k67 t i (by omega) (by omega), k36 t i (by omega) (by omega) (by omega)]; exact f3 t i q
      · rw [if_neg q4]
        exact Rx.if0 _ (Rx.tr (f3.s (by omega)) (g_over0 t4 fu r (mS_same _ _ _ _) (by omega) q4))
    · rw [if_neg q3, if_neg (fun e3 => q3 (cmpI_0.mp e3))]
      exact Rx.tr f3 (g_fail fu r rfl rfl)
theorem g_readSection {M : gMem} {r : gRef} {T U : List Int32} {P : Ps} (h : RR M T U P) (h60 : ch T P.at_ = 60) (h33 : ch T (P.at_ + 1) = 33) (h91 : ch T (P.at_ + 2) = 91) (fu : Nat) (hfu : 240 < fu) : Sr (F_Mo_readSection fu (mS M 103 0 (nI (P.at_ + 3))) r) M r T (sSec T P) := by
  have hle := h.tx.le
  have aT := h.aT
  have q2 := lt_of_ch h91 (by decide)
  have key : ∀ d b evs M, RR M T U (b, P.els, evs, P.opn) → T.length - b < d → Sr (F_Mo_readSection_L56 fu d M r) M r T (match pa T (fat [93, 93, 62] T (T.length - b) b) [93, 93, 62] with
      | .error e => .error e
      | .ok z => .ok (z, P.els, evs ++ (stre T b (fat [93, 93, 62] T (T.length - b) b)).map Ev.c, P.opn)) := by
    intro d
    induction d with
    | zero => intro b evs M _ h1; omega
    | succ d ih =>
      intro b evs M c h1
      have bT : b ≤ T.length := c.aT
      have fa : M 103 0 = nI b := c.fa
      have ea : evs.length ≤ b := c.ea
      have en : M 122 0 = nI evs.length := c.en
      rw [F_Mo_readSection_L56, c.tx.len, fa]
      by_cases q : b < T.length
      · have hfs : fat [93, 93, 62] T (T.length - b) b = if isAt T b [93, 93, 62] then b else fat [93, 93, 62] T (T.length - (b + 1)) (b + 1) := by
          rw [show T.length - b = (T.length - (b + 1)) + 1 by omega, fat]
        have more : isAt T b [93, 93, 62] = false → Sr (gd (vp_in (M 103 0) 240) (gO.bnd (F_Mo_happen fu (M 102 (M 103 0).toNatClampNeg) M r) (fun _ M r => F_Mo_readSection_L56 fu d (mS M 103 0 ((M 103 0) + 1)) r))) M r T (match pa T (fat [93, 93, 62] T (T.length - b) b) [93, 93, 62] with
            | .error e => .error e
            | .ok z => .ok (z, P.els, evs ++ (stre T b (fat [93, 93, 62] T (T.length - b) b)).map Ev.c, P.opn)) := by
          intro hn
          rw [hfs, hn, if_neg (by decide), fa, gd_yes (vp_in_nI (by omega) (by decide)), nI_clamp (by omega), c.tx.chr b q, g_happen fu r _ en (by omega), bnd_k]
          have ec : ch T b = evI (Ev.c (ch T b)) := rfl
          have e103 : (mS (mS M 123 evs.length (ch T b)) 122 0 (nI (evs.length + 1))) 103 0 = nI b := by rw [mS_tag _ (t := 122) (t2 := 103) _ _ _ (by decide), mS_tag _ (t := 123) (t2 := 103) _ _ _ (by decide)]; exact fa
          rw [e103, nI_1]
          have c2 : RR (mS (mS (mS M 123 evs.length (ch T b)) 122 0 (nI (evs.length + 1))) 103 0 (nI (b + 1))) T U (b + 1, P.els, evs ++ [Ev.c (ch T b)], P.opn) := c.happ (Ev.c (ch T b)) (b := b + 1) (by omega) (by show b < b + 1; omega) _ rfl _ (mS_same _ _ _ _) (fun t i a => mS_tag _ _ _ _ a)
          have f2 : Rf M (mS (mS (mS M 123 evs.length (ch T b)) 122 0 (nI (evs.length + 1))) 103 0 (nI (b + 1))) := (((Rf.rfl' M).s (by omega)).s (by omega)).s (by omega)
          have g := ih (b + 1) (evs ++ [Ev.c (ch T b)]) _ c2 (by omega)
          have f1 := fat_le (L := [93, 93, 62]) (T := T) (d := T.length - (b + 1)) (a := b + 1)
          generalize fat [93, 93, 62] T (T.length - (b + 1)) (b + 1) = f at *
          rw [stre_cons (by omega) (by omega : b < f), List.map_cons]
          cases hp : pa T f [93, 93, 62] with
          | error w => rw [hp] at g; exact Rx.tr f2 g
          | ok z =>
            rw [hp] at g
            obtain ⟨M3, U3, e3, g3, g4⟩ := g
            refine ⟨M3, U3, e3, ?_, f2.tr g4⟩
            have : evs ++ [Ev.c (ch T b)] ++ List.map Ev.c (stre T (b + 1) f) = evs ++ Ev.c (ch T b) :: List.map Ev.c (stre T (b + 1) f) := by simp
            rw [this] at g3; exact g3
        rw [fa] at more
        rw [if_neg (nI_ge q (by omega)), g_here c.tx fu r (by omega), bnd_k]
        by_cases q1 : ch T b = 93
        · rw [if_pos q1, fa, nI_1, g_here c.tx fu r (by omega), bnd_k]
          by_cases q3 : ch T (b + 1) = 93
          · rw [if_pos q3, fa, nI_2, g_here c.tx fu r (by omega), bnd_k]
            by_cases q4 : ch T (b + 2) = 62
            · have hf : fat [93, 93, 62] T (T.length - b) b = b := by rw [hfs, isAt3, q1, q3, q4]; rfl
              have l4 := lt_of_ch q4 (by decide)
              rw [if_pos q4, F_Mo_readSection_B136, fa, c.tx.len, if_neg (fun e2 => by have := (nI_eq (by omega) (by omega)).mp e2; omega), nI_3, hf, stre_nil, List.map_nil, List.append_nil]
              have : pa T b [93, 93, 62] = .ok (b + 3) := by rw [pa, if_pos q1, pa, if_pos q3, pa, if_pos q4]; rfl
              rw [this]
              exact ⟨_, U, rfl, c.at (by omega) (by show b ≤ b + 3; omega), (Rf.rfl' M).s (by omega)⟩
            · rw [if_neg q4, fa]; exact more (by rw [isAt3]; simp [q4])
          · rw [if_neg q3, fa]; exact more (by rw [isAt3]; simp [q3])
        · rw [if_neg q1, fa]; exact more (by rw [isAt3]; simp [q1])
      · have hbe : b = T.length := by omega
        rw [if_pos (nI_le (by omega) (by omega)), F_Mo_readSection_B136, fa, c.tx.len, if_pos (by rw [hbe]), show T.length - b = 0 by omega, fat]
        have : pa T b [93, 93, 62] = .error (1, b) := by rw [pa, if_neg (by rw [ch_out (by omega)]; decide)]
        rw [this]
        exact g_fail fu r rfl rfl
  -- what is due in front of the section's text
  have due : ∀ (L : List Int32) (s : Nat) (K : gMem → gRef → gO Int32), s ≤ T.length → P.at_ ≤ s → (∀ z, pa T s L = .ok z → z ≤ T.length → Sr (K (mS M 103 0 (nI z)) r) M r T (match pa T (fat [93, 93, 62] T (T.length - z) z) [93, 93, 62] with
      | .error e => .error e
      | .ok y => .ok (y, P.els, P.evs ++ (stre T z (fat [93, 93, 62] T (T.length - z) z)).map Ev.c, P.opn))) → (∀ c ∈ L, c ≠ 0) →
      Sr (L.foldr (fun c (k : gMem → gRef → gO Int32) => fun M r => gO.bnd (F_Mo_over fu c M r) (fun v M r => if v = 0 then (.ok 0 M r) else k M r)) K (mS M 103 0 (nI s)) r) M r T (match pa T s L with
      | .error e => .error e
      | .ok z => match pa T (fat [93, 93, 62] T (T.length - z) z) [93, 93, 62] with
        | .error e => .error e
        | .ok y => .ok (y, P.els, P.evs ++ (stre T z (fat [93, 93, 62] T (T.length - z) z)).map Ev.c, P.opn)) := by
    intro L
    induction L with
    | nil => intro s K hs _ hK _; exact hK s rfl hs
    | cons c L ih2 =>
      intro s K hs has hK hz
      have t0 : TXr (mS M 103 0 (nI s)) T := h.tx.mv (by omega) (by omega)
      rw [List.foldr_cons, pa]
      by_cases q : ch T s = c
      · have ql := lt_of_ch q (hz c (by simp))
        rw [if_pos q, g_over1 t0 fu r (mS_same _ _ _ _) (by omega) q, bnd_k, if_neg (show ¬ (1 : Int32) = 0 by decide), mS_mS]
        refine ih2 (s + 1) K (by omega) (by omega) (fun z h1 h2 => hK z (by rw [pa, if_pos q]; exact h1) h2) (fun d hd => hz d (by simp [hd]))
      · rw [if_neg q]
        exact Rx.if0 _ (Rx.tr ((Rf.rfl' M).s (by omega)) (g_over0 t0 fu r (mS_same _ _ _ _) (by omega) q))
  unfold sSec
  rw [pa, if_pos h60, pa, if_pos h33, pa, if_pos h91]
  have g := due [67, 68, 65, 84, 65, 91] (P.at_ + 3) (fun M r => F_Mo_readSection_L56 fu fu M r) (by omega) (by omega) (fun z h1 h2 => by
    have hz := pa_ok (by decide) (by omega) h1
    have g1 := key fu z P.evs _ (h.at h2 (by omega)) (by omega)
    cases hq : pa T (fat [93, 93, 62] T (T.length - z) z) [93, 93, 62] with
    | error w => rw [hq] at g1; exact Rx.tr ((Rf.rfl' M).s (by omega)) g1
    | ok y =>
      rw [hq] at g1
      obtain ⟨M3, U3, e3, g3, g4⟩ := g1
      exact ⟨M3, U3, e3, g3, ((Rf.rfl' M).s (by omega)).tr g4⟩) (by decide)
  unfold F_Mo_readSection
  exact g
