/-! The reference's checks -/
def flr (M : gMem) (w : Wr) : gMem := mS (mS M 104 0 (nI w.1)) 105 0 (nI w.2)
def GN (n : Nam) : Prop := n.s < n.l → n.s + 2 ≤ n.l
def ckR (M : gMem) (r : gRef) : Option Wr → gO Int32
  | none => .ok 1 M r
  | some w => .ok 0 (flr M w) r
theorem preT_ne {T : List Int32} {n : Nam} (h : n.s < n.l) (hg : GN n) (hz : n.z ≤ T.length) (hl : n.l ≤ n.z) : preT T n ≠ [] := by
  rw [preT_p h, stre_cons (by omega) (by have := hg h; omega)]; simp
theorem paI_neg {o : Option Nat} (h : ∀ k, o = some k → k < 2 ^ 31) : paI o < 0 ↔ o = none := by
  cases o with
  | none => exact ⟨fun _ => rfl, fun _ => by decide⟩
  | some k => exact ⟨fun q => absurd q (nI_pos (h k rfl)), fun q => by cases q⟩
theorem paI_ge {o : Option Nat} (h : ∀ k, o = some k → k < 2 ^ 31) : 0 ≤ paI o ↔ o ≠ none := by
  cases o with
  | none => exact ⟨fun q => absurd q (by decide), fun q => absurd rfl q⟩
  | some k => exact ⟨fun _ q => (by cases q), fun _ => nI_pos' (h k rfl)⟩
section RCK
variable {M : gMem} {T U : List Int32} {els : List Ele} {r : gRef} {e : Nat} {E : Ele}
theorem dFor_lt (h : WF els) (hl : els.length ≤ 24) {p : List Int32} {d : Nat} {o : Option Nat} {k : Nat} (hd : dFor T els p d o = some k) : k < 144 := by
  obtain ⟨e, E, j, x, h1, h2, h3, -, -⟩ := dFor_at hd
  have he := (List.getElem?_eq_some_iff.mp h1).1
  have hj := (List.getElem?_eq_some_iff.mp h2).1
  have := (h e E h1).1
  omega
theorem spA_lt (h : WF els) (hl : els.length ≤ 24) {n : Nam} {k : Nat} (hd : spA T els e n = some k) : k < 144 := by
  unfold spA at hd; split at hd
  · exact dFor_lt h hl hd
  · cases hd
theorem xmlIf {α : Type} (hP : PL M U) {p n : Nat} (hp : p + n ≤ U.length) (A B : gO α) : (if nI n = 3 then (gd (vp_in (nI p) 260) (if (M 108 (nI p).toNatClampNeg) = 120 then (gd (vp_in (nI p + 1) 260) (if (M 108 (nI p + 1).toNatClampNeg) = 109 then (gd (vp_in (nI p + 2) 260) (if (M 108 (nI p + 2).toNatClampNeg) = 108 then A else B)) else B)) else B)) else B) = if stre U p (p + n) = [120, 109, 108] then A else B := by
  have hle := hP.1
  by_cases q : n = 3
  · subst q
    rw [if_pos (show nI 3 = 3 from rfl), nI_1, nI_2, gd_yes (vp_in_nI (by omega) (by decide)), nI_clamp (by omega), gd_yes (vp_in_nI (by omega) (by decide)), nI_clamp (by omega), gd_yes (vp_in_nI (by omega) (by decide)), nI_clamp (by omega), hP.2 _ (by omega), hP.2 _ (by omega), hP.2 _ (by omega)]
    have e1 : stre U p (p + 3) = [ch U p, ch U (p + 1), ch U (p + 2)] := by
      rw [stre_cons hp (by omega), stre_cons hp (by omega), stre_cons hp (by omega), stre_end (by omega)]
    rw [e1]
    by_cases q0 : ch U p = 120
    · by_cases q1 : ch U (p + 1) = 109
      · by_cases q2 : ch U (p + 2) = 108
        · rw [if_pos q0, if_pos q1, if_pos q2, if_pos (by rw [q0, q1, q2])]
        · rw [if_pos q0, if_pos q1, if_neg q2, if_neg (fun e => q2 (by injection e with _ e; injection e with _ e; injection e))]
      · rw [if_pos q0, if_neg q1, if_neg (fun e => q1 (by injection e with _ e; injection e))]
    · rw [if_neg q0, if_neg (fun e => q0 (by injection e))]
  · rw [if_neg (show ¬ nI n = (3 : Int32) from fun e2 => q ((nI_eq (b := 3) (by omega) (by decide)).mp e2)), if_neg]
    intro e2
    have := stre_len (L := U) (s := p) hp
    rw [e2] at this; simp at this; omega
theorem g_twins (h : RE M T U els) (hE : els[e]? = some E) (hg : GDs T els) (hn : ∀ x ∈ E.atts, GN x.nm) (hu : ckU T els e E.atts = none) {fu : Nat} (hfu : 240 < fu) :
    F_Mo_checkTwins fu (nI (6 * e)) (nI (6 * e + E.atts.length)) M r = ckR M r (ckT T els e [] E.atts) := by
  have he := (List.getElem?_eq_some_iff.mp hE).1
  have h24 := h.2.1
  have hU := h.1.1
  obtain ⟨⟨-, -, -, -, hc, c6, ats, -⟩, -⟩ := h.2.2 e E hE
  -- what an attribute's space is
  have uN : ∀ {L : List Att}, ckU T els e L = none → ∀ x ∈ L, isD T x.nm = false → x.nm.pre = true → vOf els (spA T els e x.nm) ≠ [] := by
    intro L
    induction L with
    | nil => intro _ x hx; cases hx
    | cons y L ih =>
      intro h1 x hx h2 h3
      rw [ckU] at h1
      split at h1
      · cases h1
      · rename_i q
        rcases List.mem_cons.mp hx with hx | hx
        · subst hx; rw [h2, h3] at q; intro e2; rw [e2] at q; exact q rfl
        · exact ih h1 x hx h2 h3
  have no : ∀ x : Att, x ∈ E.atts → (isD T x.nm = true ∨ x.nm.pre = false) → vOf els (spA T els e x.nm) = [] := by
    intro x hx hq
    unfold spA
    by_cases hp : x.nm.pre = true
    · rw [if_pos hp]
      have hd : isD T x.nm = true := by rcases hq with q | q; exact q; rw [hp] at q; cases q
      have hs : x.nm.s < x.nm.l := by unfold Nam.pre at hp; simpa using hp
      have : preT T x.nm = [120, 109, 108, 110, 115] := by
        unfold isD at hd; rw [if_pos hs] at hd; rw [preT_p hs]; exact beq_iff_eq.mp hd
      rw [this, dFor_xmlns hg]; rfl
    · rw [if_neg hp]; rfl
  have inn : ∀ i (hi : i < E.atts.length) d j, i - j < d → j ≤ i → F_Mo_checkTwins_I10 fu (nI (6 * e)) (nI (6 * e + E.atts.length)) d (nI (6 * e + i)) (nI (6 * e + j)) M r = if ((E.atts.take i).drop j).any (fun y => mts T els e y.nm E.atts[i].nm) then .ok (.inl 0) (flr M (8, E.atts[i].nm.s)) r else .ok (.inr ()) M r := by
    intro i hi d
    induction d with
    | zero => intro j h1; omega
    | succ d ih =>
      intro j h1 h2
      rw [F_Mo_checkTwins_I10]
      by_cases q : j < i
      · have hjl : j < (E.atts.take i).length := by rw [List.length_take]; omega
        have hj : j < E.atts.length := by omega
        have ai := ats i _ (List.getElem?_eq_getElem hi)
        have aj := ats j _ (List.getElem?_eq_getElem hj)
        have hai : 6 * e + i < 144 := by omega
        have haj : 6 * e + j < 144 := by omega
        have nx := ih (j + 1) (by omega) (by omega)
        have mi : E.atts[i] ∈ E.atts := List.getElem_mem hi
        have mj : E.atts[j] ∈ E.atts := List.getElem_mem hj
        obtain ⟨f1, l1, l2, l3, l4⟩ := g_local (r := r) ai hai fu hU
        obtain ⟨f2, k1, k2, k3, k4⟩ := g_local (r := r) aj haj fu hU
        have czi : M 118 (6 * e + i) = czn E.atts[i].nm := ai.2.2.1
        have czj : M 118 (6 * e + j) = czn E.atts[j].nm := aj.2.2.1
        have zi : E.atts[i].nm.z - E.atts[i].nm.s ≤ 240 := by obtain ⟨⟨f, -, b, -⟩, -⟩ := ai; omega
        have zj : E.atts[j].nm.z - E.atts[j].nm.s ≤ 240 := by obtain ⟨⟨f, -, b, -⟩, -⟩ := aj; omega
        have bi : E.atts[i].nm.l < E.atts[i].nm.z ∧ E.atts[i].nm.s ≤ E.atts[i].nm.l := ⟨ai.2.2.2.2.2.2.2.2.2, ai.2.2.2.2.2.2.2.2.1⟩
        have bj : E.atts[j].nm.l < E.atts[j].nm.z ∧ E.atts[j].nm.s ≤ E.atts[j].nm.l := ⟨aj.2.2.2.2.2.2.2.2.2, aj.2.2.2.2.2.2.2.2.1⟩
        rw [if_neg (nI_ge (by omega) (by omega)), g_declares h.1 ai hai fu, bnd_k, nI_1, show 6 * e + j + 1 = 6 * e + (j + 1) by omega, List.drop_eq_getElem_cons hjl, List.any_cons, List.getElem_take]
        -- not twins
        have notw : mts T els e E.atts[j].nm E.atts[i].nm = false → (if (mts T els e E.atts[j].nm E.atts[i].nm || ((E.atts.take i).drop (j + 1)).any (fun y => mts T els e y.nm E.atts[i].nm)) = true then (.ok (.inl 0) (flr M (8, E.atts[i].nm.s)) r : gO (Sum Int32 Unit)) else .ok (.inr ()) M r) = F_Mo_checkTwins_I10 fu (nI (6 * e)) (nI (6 * e + E.atts.length)) d (nI (6 * e + i)) (nI (6 * e + (j + 1))) M r := by
          intro e2; rw [e2, Bool.false_or, nx]
        have mf1 : vOf els (spA T els e E.atts[j].nm) = [] → mts T els e E.atts[j].nm E.atts[i].nm = false := by intro e2; unfold mts; rw [e2]; rfl
        have mf2 : vOf els (spA T els e E.atts[i].nm) = [] → mts T els e E.atts[j].nm E.atts[i].nm = false := by
          intro e2; unfold mts; rw [e2]
          cases hv : (vOf els (spA T els e E.atts[j].nm) == []) <;> simp
        cases hdi : isD T E.atts[i].nm with
        | true => rw [if_neg (show ¬ b2 true = 0 by decide), notw (mf2 (no _ mi (Or.inl hdi)))]
        | false =>
          rw [if_pos (show b2 false = 0 from rfl), g_declares h.1 aj haj fu, bnd_k]
          cases hdj : isD T E.atts[j].nm with
          | true => rw [if_neg (show ¬ b2 true = 0 by decide), notw (mf1 (no _ mj (Or.inl hdj)))]
          | false =>
            rw [if_pos (show b2 false = 0 from rfl), gd_yes (vp_in_nI hai (by decide)), nI_clamp (n := 6 * e + i) (by omega), czi]
            by_cases qi : E.atts[i].nm.s < E.atts[i].nm.l
            · rw [czn_p qi, if_neg (nI_pos (by omega)), gd_yes (vp_in_nI haj (by decide)), nI_clamp (n := 6 * e + j) (by omega), czj]
              by_cases qj : E.atts[j].nm.s < E.atts[j].nm.l
              · rw [czn_p qj, if_neg (nI_pos (by omega)), l1, bnd_k, l2, bnd_k, k1, bnd_k, k2, bnd_k, g_compare h.1 fu r l3 k3 hfu, bnd_k, l4, k4]
                have pj : E.atts[j].nm.pre = true := by unfold Nam.pre; simpa using qj
                have pi : E.atts[i].nm.pre = true := by unfold Nam.pre; simpa using qi
                have vj := uN hu _ mj hdj pj
                have vi := uN hu _ mi hdi pi
                by_cases qc : cmpI (loT T E.atts[i].nm) (loT T E.atts[j].nm) = 0
                · have hl : loT T E.atts[i].nm = loT T E.atts[j].nm := cmpI_0.mp qc
                  rw [if_pos qc, g_spaceOf h hE (List.getElem?_eq_getElem hi) hfu, bnd_k, g_spaceOf h hE (List.getElem?_eq_getElem hj) hfu, bnd_k]
                  -- both spaces are there
                  have sp : ∀ x : Att, vOf els (spA T els e x.nm) ≠ [] → ∃ a y, spA T els e x.nm = some a ∧ a < 144 ∧ ATr M T U a y ∧ vOf els (spA T els e x.nm) = y.val := by
                    intro x hv
                    cases hs : spA T els e x.nm with
                    | none => rw [hs] at hv; exact absurd rfl hv
                    | some a =>
                      have hs2 := hs
                      unfold spA at hs2
                      split at hs2
                      · obtain ⟨k, K, m, y, g1, g2, g3, -, -⟩ := dFor_at hs2
                        subst g3
                        exact ⟨_, y, rfl, spA_lt h.wf h24 hs, (h.2.2 k K g1).1.2.2.2.2.2.2.1 m y g2, vOf_at g1 g2 (h.wf k K g1).1⟩
                      · cases hs2
                  obtain ⟨s1, y1, p1, p2, p3, p4⟩ := sp _ vi
                  obtain ⟨s2, y2, p5, p6, p7, p8⟩ := sp _ vj
                  rw [p1, p5]
                  show gO.bnd (F_Mo_compareValues fu (nI s1) (nI s2) M r) _ = _
                  rw [g_compareValues h.1 p3 p7 p2 p6 hfu, bnd_k]
                  have mm : mts T els e E.atts[j].nm E.atts[i].nm = (y2.val == y1.val) := by
                    unfold mts; rw [p4, p8, hl, beq_self_eq_true, Bool.and_true]
                    have : (y2.val == []) = false := by rw [← p8]; exact beq_eq_false_iff_ne.mpr vj
                    rw [this]; rfl
                  by_cases qv : cmpI y1.val y2.val = 0
                  · have e3 : mts T els e E.atts[j].nm E.atts[i].nm = true := by rw [mm]; exact beq_iff_eq.mpr (cmpI_0.mp qv).symm
                    rw [if_pos qv, e3, Bool.true_or, if_pos rfl, gd_yes (vp_in_nI hai (by decide)), ai.2.2.2.1, F_Mo_fail, bnd_k, gd_yes gNb_0]; rfl
                  · rw [if_neg qv, notw (by rw [mm]; exact beq_eq_false_iff_ne.mpr (fun e2 => qv (cmpI_0.mpr e2.symm)))]
                · rw [if_neg qc, notw]
                  unfold mts
                  have : (loT T E.atts[j].nm == loT T E.atts[i].nm) = false := beq_eq_false_iff_ne.mpr (fun e2 => qc (cmpI_0.mpr e2.symm))
                  rw [this, Bool.and_false]
              · rw [czn_n qj, if_pos (by decide), notw (mf1 (no _ mj (Or.inr (by unfold Nam.pre; simpa using qj))))]
            · rw [czn_n qi, if_pos (by decide), notw (mf2 (no _ mi (Or.inr (by unfold Nam.pre; simpa using qi))))]
      · rw [if_pos (nI_le (by omega) (by omega)), List.drop_eq_nil_of_le (by rw [List.length_take]; omega)]; rfl
  have key : ∀ d i, E.atts.length - i < d → i ≤ E.atts.length → F_Mo_checkTwins_L2 fu (nI (6 * e)) (nI (6 * e + E.atts.length)) d (nI (6 * e + i)) M r = ckR M r (ckT T els e (E.atts.take i) (E.atts.drop i)) := by
    intro d
    induction d with
    | zero => intro i h1; omega
    | succ d ih =>
      intro i h1 h2
      rw [F_Mo_checkTwins_L2]
      by_cases q : i < E.atts.length
      · have := inn i q fu 0 (by omega) (by omega)
        rw [Nat.add_zero, List.drop_zero] at this
        rw [if_neg (nI_ge (by omega) (by omega)), this, nI_1, show 6 * e + i + 1 = 6 * e + (i + 1) by omega, List.drop_eq_getElem_cons q, ckT]
        cases hb : (E.atts.take i).any (fun y => mts T els e y.nm E.atts[i].nm)
        · rw [if_neg (by decide), if_neg (by decide), bnd_k]
          show F_Mo_checkTwins_L2 fu (nI (6 * e)) (nI (6 * e + E.atts.length)) d (nI (6 * e + (i + 1))) M r = _
          rw [ih (i + 1) (by omega) (by omega), List.take_add_one, List.getElem?_eq_getElem q]; rfl
        · rw [if_pos rfl, if_pos rfl, bnd_k]; rfl
      · rw [if_pos (nI_le (by omega) (by omega)), F_Mo_checkTwins_B136, List.drop_eq_nil_of_le (by omega)]; rfl
  unfold F_Mo_checkTwins
  have := key fu 0 (by omega) (by omega)
  rw [Nat.add_zero] at this; exact this
theorem g_checks (h : RE M T U els) (hE : els[e]? = some E) (hg : ∀ (k : Nat) (K : Ele), els[k]? = some K → k ≠ e → GD T K) (hn : ∀ x ∈ E.atts, GN x.nm) (hne : GN E.nm) {fu : Nat} (hfu : 240 < fu) :
    F_Mo_checks fu (nI e) M r = ckR M r (chk T els e E) := by
  have he := (List.getElem?_eq_some_iff.mp hE).1
  have h24 := h.2.1
  have hU := h.1.1
  obtain ⟨⟨⟨ef, en1, en2, en3⟩, en4, en5, en6, hc, c6, ats, en7, en8, en9, en10, en11⟩, -⟩ := h.2.2 e E hE
  have he24 : e < 24 := by omega
  -- the other names' spaces
  have gds : ckD T E.atts = none → GDs T els := by
    intro hd k K hK
    by_cases q : k = e
    · subst q; rw [hE] at hK; injection hK with hK; subst hK; exact ckD_good hd
    · exact hg k K hK q
  have lt31 : ∀ {p : List Int32} {d : Nat} {o : Option Nat} (k : Nat), dFor T els p d o = some k → k < 2 ^ 31 := fun k hk => by have := dFor_lt h.wf h24 hk; omega
  -- the fourth and the third check
  have l276 : ckD T E.atts = none → ∀ d i, E.atts.length - i < d → i ≤ E.atts.length → (∀ x ∈ E.atts.take i, ¬ (isD T x.nm = false ∧ x.nm.pre = true ∧ vOf els (spA T els e x.nm) = [])) → F_Mo_checks_L276 fu (nI e) d (nI (6 * e + E.atts.length)) (nI (6 * e + i)) M r = ckR M r (match ckU T els e (E.atts.drop i) with
      | some w => some w
      | none => ckT T els e [] E.atts) := by
    intro hd d
    have hgs := gds hd
    induction d with
    | zero => intro i h1; omega
    | succ d ih =>
      intro i h1 h2 hpr
      rw [F_Mo_checks_L276]
      by_cases q : i < E.atts.length
      · have ai := ats i _ (List.getElem?_eq_getElem q)
        have hai : 6 * e + i < 144 := by omega
        have mi : E.atts[i] ∈ E.atts := List.getElem_mem q
        have zi : E.atts[i].nm.z - E.atts[i].nm.s ≤ 240 := by obtain ⟨⟨f, -, b, -⟩, -⟩ := ai; omega
        have bi : E.atts[i].nm.l < E.atts[i].nm.z ∧ E.atts[i].nm.s ≤ E.atts[i].nm.l ∧ E.atts[i].nm.z ≤ T.length := ⟨ai.2.2.2.2.2.2.2.2.2, ai.2.2.2.2.2.2.2.2.1, ai.2.2.2.2.2.2.2.1⟩
        have tk : E.atts.take (i + 1) = E.atts.take i ++ [E.atts[i]] := by rw [List.take_add_one, List.getElem?_eq_getElem q]; rfl
        have nx : ¬ (isD T E.atts[i].nm = false ∧ E.atts[i].nm.pre = true ∧ vOf els (spA T els e E.atts[i].nm) = []) → F_Mo_checks_L276 fu (nI e) d (nI (6 * e + E.atts.length)) (nI (6 * e + (i + 1))) M r = ckR M r (match (if !isD T E.atts[i].nm && E.atts[i].nm.pre && vOf els (spA T els e E.atts[i].nm) == [] then some (7, E.atts[i].nm.s) else ckU T els e (E.atts.drop (i + 1))) with
            | some w => some w
            | none => ckT T els e [] E.atts) := by
          intro hno
          rw [ih (i + 1) (by omega) (by omega) (by
            intro x hx; rw [tk, List.mem_append] at hx
            rcases hx with hx | hx
            · exact hpr x hx
            · rw [List.mem_singleton] at hx; rw [hx]; exact hno), if_neg (show ¬ (!isD T E.atts[i].nm && E.atts[i].nm.pre && vOf els (spA T els e E.atts[i].nm) == []) = true by
              intro e2
              simp only [Bool.and_eq_true, Bool.not_eq_true', beq_iff_eq] at e2
              exact hno ⟨e2.1.1, e2.1.2, e2.2⟩)]
          rfl
        rw [if_neg (nI_ge (by omega) (by omega)), g_declares h.1 ai hai fu, bnd_k, nI_1, show 6 * e + i + 1 = 6 * e + (i + 1) by omega, List.drop_eq_getElem_cons q, ckU]
        cases hdi : isD T E.atts[i].nm with
        | true => rw [if_neg (show ¬ b2 true = 0 by decide), nx (by rw [hdi]; exact fun e2 => by cases e2.1), hdi]; rfl
        | false =>
          rw [if_pos (show b2 false = 0 from rfl), gd_yes (vp_in_nI hai (by decide)), nI_clamp (n := 6 * e + i) (by omega), ai.2.2.1]
          by_cases qi : E.atts[i].nm.s < E.atts[i].nm.l
          · have pi : E.atts[i].nm.pre = true := by unfold Nam.pre; simpa using qi
            have pne := preT_ne qi (hn _ mi) bi.2.2 (by omega)
            have hsp : spA T els e E.atts[i].nm = dFor T els (preT T E.atts[i].nm) 25 (some e) := by unfold spA; rw [if_pos pi]
            have hiff := dFor_ne hgs h.wf pne (d := 25) (o := some e)
            rw [czn_p qi, if_neg (nI_pos (by omega)), g_spaceOf h hE (List.getElem?_eq_getElem q) hfu, bnd_k, hsp]
            by_cases qs : dFor T els (preT T E.atts[i].nm) 25 (some e) = none
            · rw [if_neg (fun e2 => (paI_ge (fun k hk => lt31 k hk)).mp e2 qs), gd_yes (vp_in_nI hai (by decide)), ai.2.2.2.1, F_Mo_fail, bnd_k, gd_yes gNb_0, pi, hiff.mpr qs]; rfl
            · rw [if_pos ((paI_ge (fun k hk => lt31 k hk)).mpr qs), nx (by rw [hsp]; exact fun e2 => qs (hiff.mp e2.2.2)), hdi, hsp]; rfl
          · have pi : E.atts[i].nm.pre = false := by unfold Nam.pre; simpa using qi
            rw [czn_n qi, if_pos (by decide), nx (by rw [pi]; exact fun e2 => by cases e2.2.1), hdi]; rfl
      · have hun : ckU T els e E.atts = none := by
          have : ∀ L : List Att, (∀ x ∈ L, ¬ (isD T x.nm = false ∧ x.nm.pre = true ∧ vOf els (spA T els e x.nm) = [])) → ckU T els e L = none := by
            intro L
            induction L with
            | nil => intro _; rfl
            | cons y L ih2 =>
              intro hL
              rw [ckU, if_neg, ih2 (fun x hx => hL x (by simp [hx]))]
              intro e2
              simp only [Bool.and_eq_true, Bool.not_eq_true', beq_iff_eq] at e2
              exact hL y (by simp) ⟨e2.1.1, e2.1.2, e2.2⟩
          rw [List.take_of_length_le (by omega)] at hpr
          exact this _ hpr
        rw [if_pos (nI_le (by omega) (by omega)), F_Mo_checks_B325, show (6 : Int32) * nI e = nI (6 * e) from nI_mul 6 e, g_twins h hE hgs hn hun hfu, List.drop_eq_nil_of_le (by omega)]
        show gO.bnd (ckR M r (ckT T els e [] E.atts)) _ = ckR M r (ckT T els e [] E.atts)
        cases ckT T els e [] E.atts with
        | none => exact gd_yes gNb_1
        | some w => exact gd_yes gNb_0
  have b229 : ckD T E.atts = none → F_Mo_checks_B229 fu (nI e) (nI (6 * e + E.atts.length)) M r = ckR M r (if E.nm.pre && vOf els (spE T els e E.nm) == [] then some (7, E.nm.s) else match ckU T els e E.atts with
      | some w => some w
      | none => ckT T els e [] E.atts) := by
    intro hd
    have l0 := l276 hd fu 0 (by omega) (by omega) (fun x hx => by simp at hx)
    rw [List.drop_zero, Nat.add_zero] at l0
    have e6 : (6 : Int32) * nI e = nI (6 * e) := nI_mul 6 e
    rw [F_Mo_checks_B229, gd_yes (vp_in_nI he24 (by decide)), nI_clamp (n := e) (by omega), en5, e6]
    by_cases q : E.nm.s < E.nm.l
    · have pi : E.nm.pre = true := by unfold Nam.pre; simpa using q
      have pne := preT_ne q hne en9 (by omega)
      have hiff := dFor_ne (gds hd) h.wf pne (d := 25) (o := some e)
      rw [czn_p q, if_neg (nI_pos (by omega)), gd_yes (vp_in_nI he24 (by decide)), gd_yes (vp_in_nI he24 (by decide)), en1]
      have g := g_declared (r := r) h (p := ef) (n := E.nm.l - 1 - E.nm.s) (by omega) (fu := fu) (o := some e) (fun k hk => by injection hk with hk; omega) hfu
      rw [pool_pre q en11 en3] at g
      have g' : F_Mo_declared fu (nI e) (nI ef) (nI (E.nm.l - 1 - E.nm.s)) M r = .ok (paI (dFor T els (preT T E.nm) 25 (some e))) M r := g
      rw [g', bnd_k, pi, show spE T els e E.nm = dFor T els (preT T E.nm) 25 (some e) from rfl]
      by_cases qs : dFor T els (preT T E.nm) 25 (some e) = none
      · rw [if_neg (fun e2 => (paI_ge (fun k hk => lt31 k hk)).mp e2 qs), gd_yes (vp_in_nI he24 (by decide)), en6, F_Mo_fail, bnd_k, gd_yes gNb_0, hiff.mpr qs]; rfl
      · have hvn : (vOf els (dFor T els (preT T E.nm) 25 (some e)) == []) = false := beq_eq_false_iff_ne.mpr (fun e2 => qs (hiff.mp e2))
        rw [if_pos ((paI_ge (fun k hk => lt31 k hk)).mpr qs), hvn, l0]; rfl
    · have pi : E.nm.pre = false := by unfold Nam.pre; simpa using q
      rw [czn_n q, if_pos (by decide), pi, l0]; rfl
  have l96 : ∀ d i, E.atts.length - i < d → i ≤ E.atts.length → ckD T (E.atts.take i) = none → F_Mo_checks_L96 fu (nI e) d (nI (6 * e + E.atts.length)) (nI (6 * e + i)) M r = ckR M r (match ckD T (E.atts.drop i) with
      | some w => some w
      | none => if E.nm.pre && vOf els (spE T els e E.nm) == [] then some (7, E.nm.s) else match ckU T els e E.atts with
        | some w => some w
        | none => ckT T els e [] E.atts) := by
    intro d
    induction d with
    | zero => intro i h1; omega
    | succ d ih =>
      intro i h1 h2 hpr
      rw [F_Mo_checks_L96]
      by_cases q : i < E.atts.length
      · have ai := ats i _ (List.getElem?_eq_getElem q)
        have hai : 6 * e + i < 144 := by omega
        have zi : E.atts[i].nm.z - E.atts[i].nm.s ≤ 240 := by obtain ⟨⟨f, -, b, -⟩, -⟩ := ai; omega
        have bi : E.atts[i].nm.l < E.atts[i].nm.z ∧ E.atts[i].nm.s ≤ E.atts[i].nm.l := ⟨ai.2.2.2.2.2.2.2.2.2, ai.2.2.2.2.2.2.2.2.1⟩
        have vl : E.atts[i].val.length ≤ 240 := by obtain ⟨-, -, -, -, ⟨g, -, b, -⟩, -⟩ := ai; omega
        obtain ⟨f1, l1, l2, l3, l4⟩ := g_local (r := r) ai hai fu hU
        have tk : E.atts.take (i + 1) = E.atts.take i ++ [E.atts[i]] := by rw [List.take_add_one, List.getElem?_eq_getElem q]; rfl
        have cka : ∀ A : List Att, ckD T A = none → ∀ x, (isD T x.nm && x.nm.pre && (x.val == [] || loT T x.nm == [120, 109, 108] || loT T x.nm == [120, 109, 108, 110, 115])) = false → ckD T (A ++ [x]) = none := by
          intro A
          induction A with
          | nil => intro _ x hx; show ckD T [x] = none; rw [ckD, if_neg (by rw [hx]; decide)]; rfl
          | cons y A ih2 =>
            intro hA x hx
            rw [ckD] at hA
            rw [List.cons_append, ckD]
            split at hA
            · cases hA
            · rename_i hq; rw [if_neg hq]; exact ih2 hA x hx
        have nx : (isD T E.atts[i].nm && E.atts[i].nm.pre && (E.atts[i].val == [] || loT T E.atts[i].nm == [120, 109, 108] || loT T E.atts[i].nm == [120, 109, 108, 110, 115])) = false → F_Mo_checks_L96 fu (nI e) d (nI (6 * e + E.atts.length)) (nI (6 * e + (i + 1))) M r = ckR M r (match (if isD T E.atts[i].nm && E.atts[i].nm.pre && (E.atts[i].val == [] || loT T E.atts[i].nm == [120, 109, 108] || loT T E.atts[i].nm == [120, 109, 108, 110, 115]) then some (6, E.atts[i].nm.s) else ckD T (E.atts.drop (i + 1))) with
            | some w => some w
            | none => if E.nm.pre && vOf els (spE T els e E.nm) == [] then some (7, E.nm.s) else match ckU T els e E.atts with
              | some w => some w
              | none => ckT T els e [] E.atts) := by
          intro hno
          rw [ih (i + 1) (by omega) (by omega) (by rw [tk]; exact cka _ hpr _ hno), hno, if_neg (show ¬ false = true by decide)]
          rfl
        rw [if_neg (nI_ge (by omega) (by omega)), l2, bnd_k, l1, bnd_k, xmlIf h.1 l3, l4, nI_1, show 6 * e + i + 1 = 6 * e + (i + 1) by omega, List.drop_eq_getElem_cons q, ckD, g_declares h.1 ai hai fu, bnd_k, bnd_k]
        cases hdi : isD T E.atts[i].nm with
        | false => rw [if_pos (show b2 false = 0 from rfl), if_pos (show b2 false = 0 from rfl), nx (by rw [hdi]; rfl), hdi]; split <;> rfl
        | true =>
          rw [if_neg (show ¬ b2 true = 0 by decide), if_neg (show ¬ b2 true = 0 by decide), gd_yes (vp_in_nI hai (by decide)), nI_clamp (n := 6 * e + i) (by omega), ai.2.2.1]
          by_cases qi : E.atts[i].nm.s < E.atts[i].nm.l
          · have pi : E.atts[i].nm.pre = true := by unfold Nam.pre; simpa using qi
            rw [czn_p qi, if_neg (nI_pos (by omega)), if_neg (nI_pos (by omega)), g_isXmlns h.1 l3, bnd_k, l4]
            repeat rw [gd_yes (vp_in_nI hai (by decide))]
            rw [ai.2.2.2.1, F_Mo_fail, bnd_k, gd_yes gNb_0, ai.2.2.2.2.2.1, pi]
            by_cases qx : loT T E.atts[i].nm = [120, 109, 108]
            · rw [if_pos qx, qx]; simp [ckR, flr]; rfl
            · rw [if_neg qx]
              by_cases qm : loT T E.atts[i].nm = [120, 109, 108, 110, 115]
              · rw [qm, if_neg (by decide)]; simp [ckR, flr]; rfl
              · have em : (loT T E.atts[i].nm == [120, 109, 108, 110, 115]) = false := beq_eq_false_iff_ne.mpr qm
                have ex : (loT T E.atts[i].nm == [120, 109, 108]) = false := beq_eq_false_iff_ne.mpr qx
                rw [em, if_pos (show b2 false = 0 from rfl)]
                by_cases qv : E.atts[i].val = []
                · rw [if_pos ((len0 vl).mpr qv), qv]; simp [ckR, flr]; rfl
                · have ev : (E.atts[i].val == []) = false := beq_eq_false_iff_ne.mpr qv
                  rw [if_neg (fun e2 => qv ((len0 vl).mp e2)), nx (by rw [ev, ex, em, Bool.or_false, Bool.or_false, Bool.and_false]), hdi, pi, ev, ex, em]; rfl
          · have pi : E.atts[i].nm.pre = false := by unfold Nam.pre; simpa using qi
            rw [czn_n qi, if_pos (show (-1 : Int32) < 0 by decide), if_pos (show (-1 : Int32) < 0 by decide), gd_yes (vp_in_nI hai (by decide)), ite_self, nx (by rw [pi, Bool.and_false, Bool.false_and]), hdi, pi]; rfl
      · have hdn : ckD T E.atts = none := by rw [List.take_of_length_le (by omega)] at hpr; exact hpr
        rw [if_pos (nI_le (by omega) (by omega)), b229 hdn, List.drop_eq_nil_of_le (by omega)]; rfl
  have inn : ∀ i (hi : i < E.atts.length) d j, i - j < d → j ≤ i → F_Mo_checks_I28 fu (nI e) d (nI (6 * e + E.atts.length)) (nI (6 * e + i)) (nI (6 * e + j)) M r = if ((E.atts.take i).drop j).any (fun y => nmT T y.nm == nmT T E.atts[i].nm) then .ok (.inl 0) (flr M (5, E.atts[i].nm.s)) r else .ok (.inr ()) M r := by
    intro i hi d
    induction d with
    | zero => intro j h1; omega
    | succ d ih =>
      intro j h1 h2
      rw [F_Mo_checks_I28]
      by_cases q : j < i
      · have hjl : j < (E.atts.take i).length := by rw [List.length_take]; omega
        have hj : j < E.atts.length := by omega
        have ai := ats i _ (List.getElem?_eq_getElem hi)
        have aj := ats j _ (List.getElem?_eq_getElem hj)
        have hai : 6 * e + i < 144 := by omega
        have haj : 6 * e + j < 144 := by omega
        have nx := ih (j + 1) (by omega) (by omega)
        obtain ⟨⟨f1, i1, i2, i3⟩, i4, -, i5, -⟩ := ai
        obtain ⟨⟨f2, j1, j2, j3⟩, j4, -⟩ := aj
        rw [if_neg (nI_ge (by omega) (by omega)), gd_yes (vp_in_nI hai (by decide)), gd_yes (vp_in_nI hai (by decide)), gd_yes (vp_in_nI haj (by decide)), gd_yes (vp_in_nI haj (by decide)), nI_clamp (n := 6 * e + i) (by omega), nI_clamp (n := 6 * e + j) (by omega), i1, i4, j1, j4, g_compare h.1 fu r i2 j2 hfu, bnd_k, i3, j3, nI_1, show 6 * e + j + 1 = 6 * e + (j + 1) by omega, nx, gd_yes (vp_in_nI hai (by decide)), i5, F_Mo_fail, bnd_k, gd_yes gNb_0, List.drop_eq_getElem_cons hjl, List.any_cons, List.getElem_take]
        by_cases qc : cmpI (nmT T E.atts[i].nm) (nmT T E.atts[j].nm) = 0
        · have e2 : (nmT T E.atts[j].nm == nmT T E.atts[i].nm) = true := beq_iff_eq.mpr (cmpI_0.mp qc).symm
          rw [if_pos qc, e2, Bool.true_or, if_pos rfl]; rfl
        · have e2 : (nmT T E.atts[j].nm == nmT T E.atts[i].nm) = false := beq_eq_false_iff_ne.mpr (fun e3 => qc (cmpI_0.mpr e3.symm))
          rw [if_neg qc, e2, Bool.false_or]
      · rw [if_pos (nI_le (by omega) (by omega)), List.drop_eq_nil_of_le (by rw [List.length_take]; omega)]; rfl
  have l17 : ∀ d i, E.atts.length - i < d → i ≤ E.atts.length → F_Mo_checks_L17 fu (nI e) d (nI (6 * e + E.atts.length)) (nI (6 * e + i)) M r = ckR M r (match ckN T (E.atts.take i) (E.atts.drop i) with
      | some w => some w
      | none => match ckD T E.atts with
        | some w => some w
        | none => if E.nm.pre && vOf els (spE T els e E.nm) == [] then some (7, E.nm.s) else match ckU T els e E.atts with
          | some w => some w
          | none => ckT T els e [] E.atts) := by
    intro d
    have e6 : (6 : Int32) * nI e = nI (6 * e) := nI_mul 6 e
    induction d with
    | zero => intro i h1; omega
    | succ d ih =>
      intro i h1 h2
      rw [F_Mo_checks_L17, e6]
      by_cases q : i < E.atts.length
      · have := inn i q fu 0 (by omega) (by omega)
        rw [Nat.add_zero, List.drop_zero] at this
        rw [if_neg (nI_ge (by omega) (by omega)), this, nI_1, show 6 * e + i + 1 = 6 * e + (i + 1) by omega, List.drop_eq_getElem_cons q, ckN]
        cases hb : (E.atts.take i).any (fun y => nmT T y.nm == nmT T E.atts[i].nm)
        · rw [if_neg (by decide), if_neg (by decide), bnd_k]
          show F_Mo_checks_L17 fu (nI e) d (nI (6 * e + E.atts.length)) (nI (6 * e + (i + 1))) M r = _
          rw [ih (i + 1) (by omega) (by omega), List.take_add_one, List.getElem?_eq_getElem q]; rfl
        · rw [if_pos rfl, if_pos rfl, bnd_k]; rfl
      · have l0 := l96 fu 0 (by omega) (by omega) rfl
        rw [List.drop_zero, Nat.add_zero] at l0
        rw [if_pos (nI_le (by omega) (by omega)), F_Mo_checks_B91, e6, l0, List.drop_eq_nil_of_le (by omega)]; rfl
  unfold F_Mo_checks
  have e6 : (6 : Int32) * nI e = nI (6 * e) := nI_mul 6 e
  have l0 := l17 fu 0 (by omega) (by omega)
  rw [List.take_zero, List.drop_zero, Nat.add_zero] at l0
  rw [gd_yes (vp_in_nI he24 (by decide)), nI_clamp (n := e) (by omega), hc, e6, nI_add, l0]; rfl
end RCK
