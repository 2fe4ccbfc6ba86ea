/-! The reference: a tag -/
theorem g_readTag {M : gMem} {r : gRef} {T U : List Int32} {P : Ps} (h : RR M T U P) (hp : PI T P) (h60 : ch T P.at_ = 60) (fu : Nat) (hfu : 240 < fu) : Sr (F_Mo_readTag fu M r) M r T (sTag T P) := by
  have hle := h.tx.le
  have aT := h.aT
  have q60 := lt_of_ch h60 (by decide)
  have h24 : P.els.length ≤ 24 := h.re.2.1
  have hU := h.re.1.1
  have d12 : dpO P.els P.opn ≤ 12 := by
    cases ho : P.opn with
    | none => exact Nat.zero_le _
    | some o =>
      have := h.oe o ho
      obtain ⟨Eo, hEo⟩ : ∃ Eo, P.els[o]? = some Eo := ⟨_, List.getElem?_eq_getElem this⟩
      have e1 : dpO P.els (some o) = Eo.dp := by unfold dpO; simp [hEo]
      rw [e1]; exact (hp.2.1 o Eo hEo).2.2.2.1
  rw [sTag_eq]
  unfold F_Mo_readTag
  rw [h.fa, nI_1, mS_same]
  have t1 : TXr (mS M 103 0 (nI (P.at_ + 1))) T := h.tx.mv (by omega) (by omega)
  rw [g_here t1 fu r (by omega), bnd_k, g_starts, bnd_k]
  generalize hM1 : mS M 103 0 (nI (P.at_ + 1)) = M1 at *
  have m1 : ∀ t i, ¬ (t = 103 ∧ i = 0) → M1 t i = M t i := fun t i u => by subst hM1; rw [mS, if_neg u]
  have a1 : M1 103 0 = nI (P.at_ + 1) := by subst hM1; exact mS_same _ _ _ _
  have f1 : Rf M M1 := fun t i q => m1 t i (by omega)
  unfold sTag1
  by_cases q1 : pb (ch T (P.at_ + 1)) = true
  · rw [if_neg (show ¬ b2 (pb (ch T (P.at_ + 1))) = 0 by rw [b2_0, q1]; decide), if_pos q1, m1 125 0 (by omega), h.dp, m1 109 0 (by omega), h.el]
    by_cases q2 : 12 ≤ dpO P.els P.opn
    · rw [if_pos (show nI (dpO P.els P.opn) = (12 : Int32) by rw [show dpO P.els P.opn = 12 by omega]; rfl), if_pos (Or.inr q2)]
      exact Rx.tr f1 (g_fail fu r rfl rfl)
    rw [if_neg (show ¬ nI (dpO P.els P.opn) = (12 : Int32) from fun q => by have := (nI_eq (b := 12) (by omega) (by decide)).mp q; omega)]
    by_cases q3 : 24 ≤ P.els.length
    · rw [if_pos (show nI P.els.length = (24 : Int32) by rw [show P.els.length = 24 by omega]; rfl), if_pos (Or.inl q3)]
      exact Rx.tr f1 (g_fail fu r rfl rfl)
    rw [if_neg (show ¬ nI P.els.length = (24 : Int32) from fun q => by have := (nI_eq (b := 24) (by omega) (by decide)).mp q; omega), if_neg (show ¬ (24 ≤ P.els.length ∨ 12 ≤ dpO P.els P.opn) by omega)]
    have hk : P.els.length < 24 := by omega
    have vin : vp_in (nI P.els.length) 24 := vp_in_nI hk (by decide)
    rw [gd_yes vin, nI_clamp (n := P.els.length) (by omega), a1]
    have t2 : TXr (mS M1 114 P.els.length (nI (P.at_ + 1))) T := t1.mv (by omega) (by omega)
    have n := g_readName t2 fu r (U := U) (a := P.at_ + 1) (by rw [mS_tag _ (t := 114) (t2 := 103) _ _ _ (by decide)]; exact a1) (by omega) (by rw [mS_tag _ (t := 114) (t2 := 107) _ _ _ (by decide), m1 107 0 (by omega)]; exact h.us) (by have := h.ua; omega) (h.re.1.of (fun j _ => by rw [mS_tag _ (t := 114) (t2 := 108) _ _ _ (by decide), m1 108 j (by omega)])) hfu
    cases hs : sName T (P.at_ + 1) with
    | error w => rw [hs] at n; exact Rx.if0 _ (Rx.tr (f1.s (by omega)) n)
    | ok lz =>
      obtain ⟨l, z⟩ := lz
      rw [hs] at n
      obtain ⟨M2, e2, n1, n2, n3, n4, n5, n6, n7⟩ := n
      have nl := sName_le hs
      have nlz := sName_lz hs
      rw [e2, bnd_k, if_neg (show ¬ (1 : Int32) = 0 by decide), gd_yes vin, gd_yes vin, gd_yes vin, gd_yes vin, gd_yes vin]
      have w1 : (mS M2 111 P.els.length (M2 131 0)) 132 0 = nI (z - (P.at_ + 1)) := by rw [mS_tag _ (t := 111) (t2 := 132) _ _ _ (by decide)]; exact n4
      rw [w1]
      have w2 : (mS (mS M2 111 P.els.length (M2 131 0)) 112 P.els.length (nI (z - (P.at_ + 1)))) 133 0 = czn ((P.at_ + 1, l, z) : Nam) := by rw [mS_tag _ (t := 112) (t2 := 133) _ _ _ (by decide), mS_tag _ (t := 111) (t2 := 133) _ _ _ (by decide)]; exact n5
      rw [w2, n3]
      have w3 : (mS (mS (mS (mS M2 111 P.els.length (nI U.length)) 112 P.els.length (nI (z - (P.at_ + 1)))) 113 P.els.length (czn ((P.at_ + 1, l, z) : Nam))) 115 P.els.length 0) 124 0 = paI P.opn := by
        rw [mS_tag _ (t := 115) (t2 := 124) _ _ _ (by decide), mS_tag _ (t := 113) (t2 := 124) _ _ _ (by decide), mS_tag _ (t := 112) (t2 := 124) _ _ _ (by decide), mS_tag _ (t := 111) (t2 := 124) _ _ _ (by decide), n7 124 0 (by omega) (by omega) (by omega) (by omega) (by omega) (by omega), mS_tag _ (t := 114) (t2 := 124) _ _ _ (by decide), m1 124 0 (by omega)]; exact h.op
      rw [w3]
      generalize hM3 : mS (mS (mS (mS (mS M2 111 P.els.length (nI U.length)) 112 P.els.length (nI (z - (P.at_ + 1)))) 113 P.els.length (czn ((P.at_ + 1, l, z) : Nam))) 115 P.els.length 0) 110 P.els.length (paI P.opn) = M3
      have k23 : ∀ t i, ¬ ((t = 110 ∨ t = 111 ∨ t = 112 ∨ t = 113 ∨ t = 115) ∧ i = P.els.length) → M3 t i = M2 t i := fun t i u => by
        subst hM3; rw [mS, if_neg (by omega), mS, if_neg (by omega), mS, if_neg (by omega), mS, if_neg (by omega), mS, if_neg (by omega)]
      have k13 : ∀ t i, t ≠ 103 → t ≠ 107 → t ≠ 108 → t ≠ 131 → t ≠ 132 → t ≠ 133 → ¬ (110 ≤ t ∧ t ≤ 115 ∧ i = P.els.length) → M3 t i = M t i := fun t i b1 b2 b3 b4 b5 b6 b7 => by
        rw [k23 t i (by omega), n7 t i b1 b2 b3 b4 b5 b6, mS, if_neg (by omega), m1 t i (by omega)]
      have f3 : Rf M M3 := fun t i q => k13 t i (by omega) (by omega) (by omega) (by omega) (by omega) (by omega) (by omega)
      have x111 : M3 111 P.els.length = nI U.length := by subst hM3; rw [mS_tag _ (t := 110) (t2 := 111) _ _ _ (by decide), mS_tag _ (t := 115) (t2 := 111) _ _ _ (by decide), mS_tag _ (t := 113) (t2 := 111) _ _ _ (by decide), mS_tag _ (t := 112) (t2 := 111) _ _ _ (by decide), mS_same]
      have x112 : M3 112 P.els.length = nI (z - (P.at_ + 1)) := by subst hM3; rw [mS_tag _ (t := 110) (t2 := 112) _ _ _ (by decide), mS_tag _ (t := 115) (t2 := 112) _ _ _ (by decide), mS_tag _ (t := 113) (t2 := 112) _ _ _ (by decide), mS_same]
      have x113 : M3 113 P.els.length = czn ((P.at_ + 1, l, z) : Nam) := by subst hM3; rw [mS_tag _ (t := 110) (t2 := 113) _ _ _ (by decide), mS_tag _ (t := 115) (t2 := 113) _ _ _ (by decide), mS_same]
      have x115 : M3 115 P.els.length = nI ([] : List Att).length := by subst hM3; rw [mS_tag _ (t := 110) (t2 := 115) _ _ _ (by decide), mS_same]; rfl
      have x110 : M3 110 P.els.length = paI P.opn := by subst hM3; exact mS_same _ _ _ _
      have x114 : M3 114 P.els.length = nI (P.at_ + 1) := by rw [k23 114 _ (by omega), n7 114 _ (by omega) (by omega) (by omega) (by omega) (by omega) (by omega), mS_same]
      have hsl := stre_len (L := T) (s := P.at_ + 1) nl.2.1
      have pl3 : PL M3 (U ++ stre T (P.at_ + 1) z) := n6.of (fun j _ => k23 108 j (by omega))
      have u3 : M3 107 0 = nI (U ++ stre T (P.at_ + 1) z).length := by rw [k23 107 0 (by omega), n2, List.length_append, hsl]
      have ua := h.ua
      have g := g_readRest (r := r) (first := P.at_) hk hfu fu z (T.length + 1) [] (U ++ stre T (P.at_ + 1) z) M3 (f3.tx h.tx) (by rw [k23 103 0 (by omega)]; exact n1) pl3 u3 (by rw [List.length_append, hsl]; omega) nl.2.1 x115 (by simp) (fun i x hi => by simp at hi) (by omega) (by omega)
      show Sr (gO.bnd (F_Mo_readRest_L0 fu (nI P.els.length) (nI P.at_) fu M3 r) _) M r T _
      dsimp only
      cases hr : sRest T P.at_ (T.length + 1) [] z with
      | error w =>
        rw [hr] at g
        obtain ⟨M4, e4, g1, g2, g3⟩ := g
        refine ⟨mS M4 109 0 (M4 109 0 + 1), by rw [e4, bnd_k, if_pos rfl], ?_, ?_, (f3.tr g3).s (by omega)⟩
        · rw [mS_tag _ (t := 109) (t2 := 104) _ _ _ (by decide)]; exact g1
        · rw [mS_tag _ (t := 109) (t2 := 105) _ _ _ (by decide)]; exact g2
      | ok q =>
        obtain ⟨atts, em, y⟩ := q
        rw [hr] at g
        obtain ⟨M4, U4, e4, p1, p2, p3, p4, ⟨W, p5⟩, p6, p7, p8, p9⟩ := g
        have sw := sRest_w h.tx.okc nl.2.1 (by simp) hr
        have sn := sRest_n (by simp) hr
        have em0 : ¬ (if em then (2 : Int32) else 1) = 0 := by cases em <;> decide
        dsimp only
        rw [e4, bnd_k, if_neg em0]
        have k4 : ∀ t i, t ≠ 103 → t ≠ 107 → t ≠ 108 → t ≠ 131 → t ≠ 132 → t ≠ 133 → ¬ (116 ≤ t ∧ t ≤ 121 ∧ 6 * P.els.length ≤ i ∧ i < 6 * P.els.length + 6) → ¬ (t = 115 ∧ i = P.els.length) → M4 t i = M3 t i := p9
        have e109 : M4 109 0 = nI P.els.length := by rw [k4 109 0 (by omega) (by omega) (by omega) (by omega) (by omega) (by omega) (by omega) (by omega), k13 109 0 (by omega) (by omega) (by omega) (by omega) (by omega) (by omega) (by omega)]; exact h.el
        rw [e109, nI_1]
        generalize hE : ((P.at_ + 1, l, z), atts, P.opn, dpO P.els P.opn + 1) = E
        have hEe : (P.els ++ [E])[P.els.length]? = some E := by rw [List.getElem?_append_right (Nat.le_refl _), Nat.sub_self]; rfl
        generalize hM5 : mS M4 109 0 (nI (P.els.length + 1)) = M5
        have k45 : ∀ t i, t ≠ 109 → M5 t i = M4 t i := fun t i u => by subst hM5; exact mS_tag _ _ _ _ u
        have e5 : M5 109 0 = nI (P.els.length + 1) := by subst hM5; exact mS_same _ _ _ _
        -- the elements, the new one among them
        have re5 : RE M5 T U4 (P.els ++ [E]) := by
          refine ⟨p3.of (fun j _ => k45 108 j (by omega)), by rw [List.length_append]; exact hk, ?_⟩
          intro k K hK
          rcases getl hK with ⟨q, hj⟩ | ⟨q, hKE⟩
          · obtain ⟨b1, b2⟩ := h.re.2.2 k K hj
            refine ⟨?_, b2⟩
            rw [p5, List.append_assoc]
            refine b1.of _ (fun t h1 h2 => ?_) (fun t i h1 h2 h3 => ?_)
            · rw [k45 t k (by omega), k4 t k (by omega) (by omega) (by omega) (by omega) (by omega) (by omega) (by omega) (by omega), k13 t k (by omega) (by omega) (by omega) (by omega) (by omega) (by omega) (by omega)]
            · rw [k45 t _ (by omega), k4 t _ (by omega) (by omega) (by omega) (by omega) (by omega) (by omega) (by omega) (by omega), k13 t _ (by omega) (by omega) (by omega) (by omega) (by omega) (by omega) (by omega)]
          · subst hKE
            rw [q]
            subst hE
            refine ⟨⟨⟨U.length, ?_, ?_, ?_⟩, ?_, ?_, ?_, ?_, p7, p8.same (fun t i a b => k45 t i (by omega)), ?_, nl.1, nl.2.1, nl.2.2.1, nlz⟩, fun m hm => h.oe m hm⟩
            · rw [k45 111 _ (by omega), k4 111 _ (by omega) (by omega) (by omega) (by omega) (by omega) (by omega) (by omega) (by omega)]; exact x111
            · show U.length + (z - (P.at_ + 1)) ≤ U4.length; rw [p5, List.length_append, List.length_append, hsl]; omega
            · show stre U4 U.length (U.length + (z - (P.at_ + 1))) = stre T (P.at_ + 1) z
              rw [p5, stre_app (by rw [List.length_append, hsl]; omega), ← hsl, stre_all]
            · rw [k45 112 _ (by omega), k4 112 _ (by omega) (by omega) (by omega) (by omega) (by omega) (by omega) (by omega) (by omega)]; exact x112
            · rw [k45 113 _ (by omega), k4 113 _ (by omega) (by omega) (by omega) (by omega) (by omega) (by omega) (by omega) (by omega)]; exact x113
            · rw [k45 114 _ (by omega), k4 114 _ (by omega) (by omega) (by omega) (by omega) (by omega) (by omega) (by omega) (by omega)]; exact x114
            · rw [k45 115 _ (by omega)]; exact p6
            · rw [k45 110 _ (by omega), k4 110 _ (by omega) (by omega) (by omega) (by omega) (by omega) (by omega) (by omega) (by omega)]; exact x110
        have f5 : Rf M M5 := (f3.tr p9.rf).tr (fun t i q => k45 t i (by omega))
        have gc := g_checks (r := r) re5 hEe (fun k K hK hne => by
          rcases getl hK with ⟨q, hj⟩ | ⟨q, hq⟩
          · exact hp.1 k K hj
          · exact absurd q hne) (by subst hE; exact sn.1) (by subst hE; exact sName_pre hs) hfu
        rw [gc]
        have old : ∀ t, t = 122 ∨ t = 123 ∨ t = 124 ∨ t = 125 ∨ t = 104 ∨ t = 105 → ∀ i, M5 t i = M t i := fun t q i => by
          rw [k45 t i (by omega), k4 t i (by omega) (by omega) (by omega) (by omega) (by omega) (by omega) (by omega) (by omega), k13 t i (by omega) (by omega) (by omega) (by omega) (by omega) (by omega) (by omega)]
        cases hc : chk T (P.els ++ [E]) P.els.length E with
        | some w =>
          dsimp only
          refine ⟨flr M5 w, by show gO.bnd (.ok 0 (flr M5 w) r) _ = _; rw [bnd_k, if_pos rfl], ?_, ?_, (f5.s (by omega)).s (by omega)⟩
          · unfold flr; rw [mS_tag _ (t := 105) (t2 := 104) _ _ _ (by decide), mS_same]
          · unfold flr; rw [mS_same]
        | none =>
          dsimp only
          show Sr (gO.bnd (.ok 1 M5 r) _) M r T _
          have ea := h.ea
          have wz : P.at_ + 2 < y := by
            have w1' : wA atts + z + (if em then 2 else 1) ≤ 0 + y := sw.1
            cases em <;> simp at w1' <;> omega
          have h122 : M5 122 0 = nI P.evs.length := by rw [old 122 (by omega)]; exact h.en
          rw [bnd_k, if_neg (show ¬ (1 : Int32) = 0 by decide), g_happen fu r _ h122 (by omega), bnd_k]
          have ec : (1000 : Int32) + nI P.els.length = evI (Ev.b P.els.length) := nI_add 1000 P.els.length
          rw [ec]
          generalize hM6 : mS (mS M5 123 P.evs.length (evI (Ev.b P.els.length))) 122 0 (nI (P.evs.length + 1)) = M6
          have k56 : ∀ t i, t ≠ 122 → t ≠ 123 → M6 t i = M5 t i := fun t i a b => by subst hM6; rw [mS_tag _ _ _ _ a, mS_tag _ _ _ _ b]
          have e6 : M6 122 0 = nI (P.evs.length + 1) := by subst hM6; exact mS_same _ _ _ _
          have v6 : ∀ (j : Nat) (v : Ev), (P.evs ++ [Ev.b P.els.length])[j]? = some v → M6 123 j = evI v := by
            subst hM6; exact ev_app (fun j v hv => by rw [old 123 (by omega)]; exact h.ev j v hv)
          have re6 : RE M6 T U4 (P.els ++ [E]) := re5.of (fun t i q => k56 t i (by omega) (by omega))
          have len1 : (P.els ++ [E]).length = P.els.length + 1 := by rw [List.length_append]; rfl
          have a6 : M6 103 0 = nI y := by rw [k56 103 0 (by omega) (by omega), k45 103 0 (by omega)]; exact p1
          have u6 : M6 107 0 = nI U4.length := by rw [k56 107 0 (by omega) (by omega), k45 107 0 (by omega)]; exact p2
          have f6 : Rf M M6 := f5.tr (fun t i q => k56 t i (by omega) (by omega))
          cases em with
          | true =>
            rw [if_pos (show (if true then (2 : Int32) else 1) = 2 from rfl), g_happen fu r _ e6 (by omega), bnd_k]
            have ez : (2000 : Int32) + nI P.els.length = evI (Ev.z P.els.length P.opn) := nI_add 2000 P.els.length
            rw [ez]
            generalize hM7 : mS (mS M6 123 (P.evs.length + 1) (evI (Ev.z P.els.length P.opn))) 122 0 (nI (P.evs.length + 1 + 1)) = M7
            have k67 : ∀ t i, t ≠ 122 → t ≠ 123 → M7 t i = M6 t i := fun t i a b => by subst hM7; rw [mS_tag _ _ _ _ a, mS_tag _ _ _ _ b]
            have lenE : (P.evs ++ [Ev.b P.els.length]).length = P.evs.length + 1 := by rw [List.length_append]; rfl
            refine ⟨M7, U4, rfl, ⟨(f6.tr (fun t i q => k67 t i (by omega) (by omega))).tx h.tx, ?_, sw.2.1, re6.of (fun t i q => k67 t i (by omega) (by omega)), ?_, p4, ?_, ?_, ?_, ?_, ?_, ?_, ?_, ?_, ?_⟩, f6.tr (fun t i q => k67 t i (by omega) (by omega))⟩
            · rw [k67 103 0 (by omega) (by omega)]; exact a6
            · rw [k67 107 0 (by omega) (by omega)]; exact u6
            · show M7 109 0 = nI (P.els ++ [E]).length; rw [k67 109 0 (by omega) (by omega), k56 109 0 (by omega) (by omega), e5, len1]
            · show M7 122 0 = nI (P.evs ++ [Ev.b P.els.length, Ev.z P.els.length P.opn]).length; subst hM7; rw [mS_same, List.length_append]; rfl
            · show (P.evs ++ [Ev.b P.els.length, Ev.z P.els.length P.opn]).length ≤ y; rw [List.length_append]; simp only [List.length_cons, List.length_nil]; omega
            · intro j v hj
              have hj' : (P.evs ++ [Ev.b P.els.length] ++ [Ev.z P.els.length P.opn])[j]? = some v := by rw [List.append_assoc]; exact hj
              have := ev_app (n := nI (P.evs.length + 1 + 1)) v6 j v hj'
              rw [lenE] at this; subst hM7; exact this
            · show M7 124 0 = paI P.opn; rw [k67 124 0 (by omega) (by omega), k56 124 0 (by omega) (by omega), old 124 (by omega)]; exact h.op
            · intro o ho; have := h.oe o ho; show o < (P.els ++ [E]).length; omega
            · show M7 125 0 = nI (dpO (P.els ++ [E]) P.opn); rw [dpO_app h.oe, k67 125 0 (by omega) (by omega), k56 125 0 (by omega) (by omega), old 125 (by omega)]; exact h.dp
            · rw [k67 104 0 (by omega) (by omega), k56 104 0 (by omega) (by omega), old 104 (by omega)]; exact h.wy
            · rw [k67 105 0 (by omega) (by omega), k56 105 0 (by omega) (by omega), old 105 (by omega)]; exact h.wp
          | false =>
            rw [if_neg (show ¬ (if false then (2 : Int32) else 1) = 2 by decide)]
            have d6 : (mS M6 124 0 (nI P.els.length)) 125 0 = nI (dpO P.els P.opn) := by rw [mS_tag _ (t := 124) (t2 := 125) _ _ _ (by decide), k56 125 0 (by omega) (by omega), old 125 (by omega)]; exact h.dp
            rw [d6, nI_1]
            have k67 : ∀ t i, t ≠ 124 → t ≠ 125 → (mS (mS M6 124 0 (nI P.els.length)) 125 0 (nI (dpO P.els P.opn + 1))) t i = M6 t i := fun t i a b => by rw [mS_tag _ _ _ _ b, mS_tag _ _ _ _ a]
            refine ⟨_, U4, rfl, ⟨(f6.tr (fun t i q => k67 t i (by omega) (by omega))).tx h.tx, ?_, sw.2.1, re6.of (fun t i q => k67 t i (by omega) (by omega)), ?_, p4, ?_, ?_, ?_, ?_, ?_, ?_, ?_, ?_, ?_⟩, f6.tr (fun t i q => k67 t i (by omega) (by omega))⟩
            · rw [k67 103 0 (by omega) (by omega)]; exact a6
            · rw [k67 107 0 (by omega) (by omega)]; exact u6
            · show _ = nI (P.els ++ [E]).length; rw [k67 109 0 (by omega) (by omega), k56 109 0 (by omega) (by omega), e5, len1]
            · show _ = nI (P.evs ++ [Ev.b P.els.length]).length; rw [k67 122 0 (by omega) (by omega), e6, List.length_append]; rfl
            · show (P.evs ++ [Ev.b P.els.length]).length ≤ y; rw [List.length_append]; simp only [List.length_cons, List.length_nil]; omega
            · intro j v hj; rw [k67 123 j (by omega) (by omega)]; exact v6 j v hj
            · show _ = paI (some P.els.length); rw [mS_tag _ (t := 125) (t2 := 124) _ _ _ (by decide), mS_same]; rfl
            · intro o ho
              have ho' : some P.els.length = some o := ho
              injection ho' with ho'
              show o < (P.els ++ [E]).length; omega
            · show _ = nI (dpO (P.els ++ [E]) (some P.els.length))
              have : dpO (P.els ++ [E]) (some P.els.length) = Ele.dp E := by unfold dpO; simp
              rw [mS_same, this]; subst hE; rfl
            · rw [k67 104 0 (by omega) (by omega), k56 104 0 (by omega) (by omega), old 104 (by omega)]; exact h.wy
            · rw [k67 105 0 (by omega) (by omega), k56 105 0 (by omega) (by omega), old 105 (by omega)]; exact h.wp
  · rw [if_pos (show b2 (pb (ch T (P.at_ + 1))) = 0 by rw [b2_0]; simpa using q1), if_neg q1]
    exact Rx.tr f1 (g_fail fu r rfl a1)
