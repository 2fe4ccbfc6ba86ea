/-! element, name, content, space on both sides -/
def owL (e : Nat) (C : List (Option Nat × Int32)) : List Int32 := (C.filter (fun y => y.1 == some e)).map Prod.snd
theorem owL_len (e : Nat) (C : List (Option Nat × Int32)) : (owL e C).length = owN C e := List.length_map _
theorem owL_cons (e : Nat) (y : Option Nat × Int32) (C : List (Option Nat × Int32)) : owL e (y :: C) = if y.1 = some e then y.2 :: owL e C else owL e C := by
  unfold owL
  by_cases h : y.1 = some e
  · rw [if_pos h, List.filter_cons_of_pos (by simpa using h)]; rfl
  · rw [if_neg h, List.filter_cons_of_neg (by simpa using h)]
/-- what the reference's own answers: counted c so far -/
def owA (c : Nat) (x2 : Int32) (W : List Int32) : Int32 := match W with
  | [] => if 0 ≤ x2 then -1 else nI c
  | y :: W => if nI c = x2 then y else owA (c + 1) x2 W
theorem owA_neg : ∀ (W : List Int32) (c : Nat), c + W.length < 2 ^ 31 → owA c (-1) W = nI (c + W.length)
  | [], c, _ => by rw [owA, if_neg (by decide)]; rfl
  | y :: W, c, h => by
    rw [List.length_cons] at h
    rw [owA, if_neg (show ¬ nI c = -1 from fun q => by have := nI_pos (n := c) (by omega); rw [q] at this; exact this (by decide)), owA_neg W (c + 1) (by omega), List.length_cons]
    congr 1; omega
theorem owA_nn : ∀ (W : List Int32) (c n : Nat), c + W.length < 2 ^ 31 → n < 2 ^ 31 → c ≤ n → owA c (nI n) W = if n - c < W.length then ch W (n - c) else -1
  | [], c, n, _, hn, _ => by rw [owA, if_pos (nI_pos' hn), if_neg (show ¬ n - c < ([] : List Int32).length from Nat.not_lt_zero _)]
  | y :: W, c, n, h, hn, hc => by
    rw [List.length_cons] at h
    rw [owA]
    by_cases q : c = n
    · subst q; rw [if_pos rfl, Nat.sub_self, if_pos (show 0 < (y :: W).length from Nat.succ_pos _)]; rfl
    · rw [if_neg (fun e => q ((nI_eq (by omega) hn).mp e)), owA_nn W (c + 1) n (by omega) hn (by omega), List.length_cons]
      obtain ⟨k, hk⟩ : ∃ k, n - c = k + 1 := ⟨n - c - 1, by omega⟩
      rw [hk, show n - (c + 1) = k by omega]
      by_cases q2 : k < W.length
      · rw [if_pos q2, if_pos (by omega)]; rfl
      · rw [if_neg q2, if_neg (by omega)]
theorem g_own {M : gMem} {T U : List Int32} {P : Ps} {r : gRef} (b : RS M T U P) (pi : PI T P) {e : Nat} (he : e < P.els.length) (x2 : Int32) (fu : Nat) (hfu : 240 < fu) :
    F_Mo_own fu (nI e) x2 M r = .ok (owA 0 x2 (owL e (ownS none P.evs))) M r := by
  obtain ⟨hR, -, hn, h240, hev, -, -⟩ := b
  have h24 := hR.2.1
  have key : ∀ d j c (o : Option Nat), P.evs.length - j < d → j ≤ P.evs.length → c ≤ j → (∀ k, o = some k → k < P.els.length) → F_Mo_own_L8 fu (nI e) x2 d (nI c) (paI o) (nI j) M r = .ok (owA c x2 (owL e (ownS o (P.evs.drop j)))) M r := by
    intro d
    induction d with
    | zero => intro j c o h1; omega
    | succ d ih =>
      intro j c o h1 h2 h3 ho
      rw [F_Mo_own_L8, hn]
      by_cases q : P.evs.length ≤ j
      · rw [if_pos (nI_le q (by omega)), List.drop_eq_nil_of_le q, F_Mo_own_B92]
        show _ = gO.ok (owA c x2 []) M r
        rw [owA]
        by_cases q2 : 0 ≤ x2
        · rw [if_pos q2, if_pos q2]
        · rw [if_neg q2, if_neg q2]
      · have qj : j < P.evs.length := by omega
        have hj := List.getElem?_eq_getElem qj
        have hv := pi.2.2 P.evs[j] (List.getElem_mem qj)
        have hm := hev j _ hj
        rw [if_neg (nI_ge (by omega) (by omega)), gd_yes (vp_in_nI (by omega) (by decide)), nI_clamp (n := j) (by omega), hm, nI_1, nI_1, List.drop_eq_getElem_cons qj]
        generalize P.evs[j] = v at *
        rcases v with k | ⟨k, p⟩ | x
        · have hk : k < P.els.length := hv
          have eI : evI (Sum.inl k) = nI (1000 + k) := rfl
          rw [eI, if_pos (show nI (1000 + k) < 2000 from nI_lt (b := 2000) (by omega) (by decide)), if_neg (show ¬ nI (1000 + k) < 1000 from nI_nlt (b := 1000) (by omega) (by omega)), show nI (1000 + k) - 1000 = nI k from by have := pk_sub (a := 1000 + k) (b := 1000) (by omega); rw [Nat.add_sub_cancel_left] at this; exact this]
          exact ih (j + 1) c (some k) (by omega) (by omega) (by omega) (fun m hm => by injection hm with hm; omega)
        · obtain ⟨E, hE, hpar⟩ : ∃ E, P.els[k]? = some E ∧ E.par = p := hv
          have hk := (List.getElem?_eq_some_iff.mp hE).1
          have hel := hR.2.2 k E hE
          have eI : evI (Sum.inr (Sum.inl (k, p))) = nI (2000 + k) := rfl
          rw [eI, if_neg (show ¬ nI (2000 + k) < 2000 from nI_nlt (b := 2000) (by omega) (by omega)), show nI (2000 + k) - 2000 = nI k from by have := pk_sub (a := 2000 + k) (b := 2000) (by omega); rw [Nat.add_sub_cancel_left] at this; exact this, gd_yes (vp_in_nI (by omega) (by decide)), nI_clamp (n := k) (by omega), hel.1.2.2.2.2.2.2.2.1, hpar]
          exact ih (j + 1) c p (by omega) (by omega) (by omega) (fun m hm => by have := hel.2 m (hpar.trans hm); omega)
        · have hx : isCh x = true := hv
          have eI : evI (Sum.inr (Sum.inr x)) = x := rfl
          have eO : ownS o (Sum.inr (Sum.inr x) :: P.evs.drop (j + 1)) = (o, x) :: ownS o (P.evs.drop (j + 1)) := rfl
          rw [eI, if_pos (evI_c hx).1, if_pos (evI_c hx).2, eO, owL_cons]
          by_cases q2 : o = some e
          · rw [if_pos (show paI o = nI e by rw [q2]; rfl), if_pos q2, owA]
            by_cases q3 : nI c = x2
            · rw [if_pos q3, if_pos q3]
            · rw [if_neg q3, if_neg q3]
              exact ih (j + 1) (c + 1) o (by omega) (by omega) (by omega) ho
          · have q4 : ¬ paI o = nI e := by
              cases o with
              | none =>
                intro q5
                have := nI_pos (n := e) (by omega)
                rw [← q5] at this; exact this (by decide)
              | some m =>
                intro q5
                have hm := ho m rfl
                exact q2 (by rw [(nI_eq (a := m) (b := e) (by omega) (by omega)).mp q5])
            rw [if_neg q4, if_neg q2]
            exact ih (j + 1) c o (by omega) (by omega) (by omega) ho
  unfold F_Mo_own
  have := key fu 0 0 none (by omega) (by omega) (by omega) (fun k hk => by cases hk)
  rw [List.drop_zero, nI_0] at this; exact this
theorem f_ownAt {M : gMem} {r : gRef} {C : List (Option Nat × Int32)} (h : CT M C) (hC : C.length ≤ 240) (hob : ∀ y ∈ C, ∀ o, y.1 = some o → o < 24) {e : Nat} (he : e < 24) (x2 : Int32) (fu : Nat) (hfu : 240 < fu) :
    (∃ p, F_Tr_ownContentAt fu e x2 M r = .ok (nI p) M r ∧ p < C.length ∧ 0 ≤ x2 ∧ x2.toNatClampNeg < (owL e C).length ∧ ch (C.map Prod.snd) p = ch (owL e C) x2.toNatClampNeg) ∨ (F_Tr_ownContentAt fu e x2 M r = .ok (-1) M r ∧ ¬ (0 ≤ x2 ∧ x2.toNatClampNeg < (owL e C).length)) := by
  have hl : (C.map Prod.snd).length = C.length := List.length_map _
  have key : ∀ d j c, C.length - j < d → j ≤ C.length → c ≤ j → (∃ p, F_Tr_ownContentAt_L5 fu e x2 d (nI c) (nI j) M r = .ok (nI p) M r ∧ p < C.length ∧ ∃ n, n < 2 ^ 31 ∧ x2 = nI n ∧ c ≤ n ∧ n - c < (owL e (C.drop j)).length ∧ ch (C.map Prod.snd) p = ch (owL e (C.drop j)) (n - c)) ∨ (F_Tr_ownContentAt_L5 fu e x2 d (nI c) (nI j) M r = .ok (-1) M r ∧ ∀ n, n < 2 ^ 31 → x2 = nI n → c ≤ n → ¬ n - c < (owL e (C.drop j)).length) := by
    intro d
    induction d with
    | zero => intro j c h1; omega
    | succ d ih =>
      intro j c h1 h2 h3
      rw [F_Tr_ownContentAt_L5, h.1.len, hl]
      by_cases q : C.length ≤ j
      · rw [if_pos (nI_le q (by omega)), List.drop_eq_nil_of_le q]
        exact Or.inr ⟨rfl, fun n _ _ _ => Nat.not_lt_zero _⟩
      · have qj : j < C.length := by omega
        obtain ⟨o, o1, o2⟩ := h.2 j _ (List.getElem?_eq_getElem qj)
        have ol := hob _ (List.getElem_mem qj) o o1
        rw [if_neg (nI_ge (by omega) (by omega)), gd_yes (vp_in_nI (by omega) (by decide)), nI_clamp (n := j) (by omega), o2, nI_1, nI_1, List.drop_eq_getElem_cons qj, owL_cons, o1]
        by_cases q2 : o = e
        · subst q2
          rw [if_pos rfl, if_pos rfl]
          by_cases q3 : nI c = x2
          · rw [if_pos q3]
            refine Or.inl ⟨j, rfl, qj, c, by omega, q3.symm, Nat.le_refl _, ?_, ?_⟩
            · rw [Nat.sub_self, List.length_cons]; omega
            · rw [Nat.sub_self, ch_in (by omega), List.getElem_map]; rfl
          · rw [if_neg q3]
            have sh : ∀ n, n < 2 ^ 31 → x2 = nI n → c ≤ n → c + 1 ≤ n ∧ n - c = (n - (c + 1)) + 1 := by
              intro n _ hx hc
              have : c ≠ n := fun e2 => q3 (by rw [e2]; exact hx.symm)
              omega
            rcases ih (j + 1) (c + 1) (by omega) (by omega) (by omega) with ⟨p, p1, p2, n, n1, n2, n3, n4, n5⟩ | ⟨p1, p2⟩
            · refine Or.inl ⟨p, p1, p2, n, n1, n2, by omega, ?_, ?_⟩
              · rw [List.length_cons]; omega
              · rw [n5, (sh n n1 n2 (by omega)).2]; rfl
            · refine Or.inr ⟨p1, fun n n1 n2 n3 => ?_⟩
              have s := sh n n1 n2 n3
              have := p2 n n1 n2 s.1
              rw [List.length_cons]; omega
        · rw [if_neg (fun q3 => q2 ((nI_eq (by omega) (by omega)).mp q3)), if_neg (fun q3 => q2 (by injection q3))]
          exact ih (j + 1) c (by omega) (by omega) (by omega)
  unfold F_Tr_ownContentAt
  have := key fu 0 0 (by omega) (by omega) (by omega)
  rw [List.drop_zero, nI_0] at this
  rcases this with ⟨p, p1, p2, n, n1, n2, n3, n4, n5⟩ | ⟨p1, p2⟩
  · subst n2
    rw [Nat.sub_zero] at n4 n5
    exact Or.inl ⟨p, p1, p2, nI_pos' n1, by rw [nI_clamp n1]; exact n4, by rw [nI_clamp n1]; exact n5⟩
  · refine Or.inr ⟨p1, fun ⟨q1, q2⟩ => ?_⟩
    obtain ⟨n, n1, rfl⟩ := nI_of (Int32.not_lt.mpr q1)
    rw [nI_clamp n1] at q2
    exact p2 n n1 rfl (Nat.zero_le _) q2
