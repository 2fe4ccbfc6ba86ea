/-! element on both sides -/
def cntO (T : List Int32) (L : List Att) : Nat := (L.filter (fun x => !isD T x.nm)).length
theorem cntO_D (T : List Int32) : ∀ L : List Att, cntO T L + cntD T L = L.length
  | [] => rfl
  | x :: L => by
    have ih := cntO_D T L
    unfold cntO cntD at *
    rw [List.length_cons]
    cases h : isD T x.nm with
    | true => rw [List.filter_cons_of_neg (by simp [h]), List.filter_cons_of_pos (by simp [h]), List.length_cons]; omega
    | false => rw [List.filter_cons_of_pos (by simp [h]), List.filter_cons_of_neg (by simp [h]), List.length_cons]; omega
section EL4
variable {M : gMem} {T U : List Int32} {P : Ps} {r : gRef} {fu e : Nat}
theorem g_elB (b : RS M T U P) (he : e < P.els.length) {E : Ele} (hE : P.els[e]? = some E) (hfu : 240 < fu) (x2 x3 : Int32) : F_Mo_element_B133 fu (nI e) x2 x3 M r = (if x2 = 0 then (.ok (paI E.par) M r) else (if 3 ≤ x2 then (if x2 = 3 then (F_Mo_own fu (nI e) (-1) M r) else (if 0 ≤ paI (spO T P.els e E.nm) then (gd (vp_in (paI (spO T P.els e E.nm)) 144) (.ok (M 121 (paI (spO T P.els e E.nm)).toNatClampNeg) M r)) else (.ok (-1) M r))) else (.ok x3 M r))) := by
  have h24 := b.1.2.1
  unfold F_Mo_element_B133
  rw [g_elSpace b.1 hE hfu, bnd_k, gd_yes (vp_in_nI (by omega) (by decide)), nI_clamp (n := e) (by omega), (b.1.2.2 e E hE).1.2.2.2.2.2.2.2.1]
  have : ∀ x : gO Int32, gO.bnd x (fun v M r => (.ok v M r : gO Int32)) = x := by
    intro x
    rcases x with _ | (⟨v, M, r⟩ | ⟨k, M, r⟩) <;> rfl
  rw [this]
theorem g_elL9 (b : RS M T U P) (he : e < P.els.length) {E : Ele} (hE : P.els[e]? = some E) {x2 : Int32} (hx : ¬ x2 = 2) (x3 : Int32) (hfu : 240 < fu) : F_Mo_element_B83 fu (nI e) x2 x3 M r = F_Mo_element_B133 fu (nI e) x2 x3 M r := by
  have h24 := b.1.2.1
  obtain ⟨d, rfl⟩ : ∃ d, fu = d + 1 := ⟨fu - 1, by omega⟩
  unfold F_Mo_element_B83
  rw [F_Mo_element_L89, gd_yes (vp_in_nI (by omega) (by decide)), if_neg hx, ite_self]
theorem g_elN (b : RS M T U P) (he : e < P.els.length) {E : Ele} (hE : P.els[e]? = some E) (hfu : 240 < fu) : F_Mo_element_B83 fu (nI e) 2 0 M r = F_Mo_element_B133 fu (nI e) 2 (nI (cntO T E.atts)) M r := by
  have h24 := b.1.2.1
  obtain ⟨⟨-, -, -, -, hc, c6, ats, -⟩, -⟩ := b.1.2.2 e E hE
  have key : ∀ d i c, E.atts.length - i < d → i ≤ E.atts.length → F_Mo_element_L89 fu (nI e) 2 d (nI c) (nI (6 * e + i)) M r = F_Mo_element_B133 fu (nI e) 2 (nI (c + cntO T (E.atts.drop i))) M r := by
    intro d
    induction d with
    | zero => intro i c h1; omega
    | succ d ih =>
      intro i c h1 h2
      rw [F_Mo_element_L89, gd_yes (vp_in_nI (by omega) (by decide)), nI_clamp (n := e) (by omega), hc, show (6 : Int32) * nI e = nI (6 * e) from nI_mul 6 e, nI_add]
      by_cases q : E.atts.length ≤ i
      · rw [if_pos (nI_le (by omega) (by omega)), List.drop_eq_nil_of_le q]; rfl
      · have qi : i < E.atts.length := by omega
        rw [if_neg (nI_ge (by omega) (by omega)), if_pos rfl, g_declares b.1.1 (ats i _ (List.getElem?_eq_getElem qi)) (by omega) fu, bnd_k, nI_1, nI_1, show 6 * e + i + 1 = 6 * e + (i + 1) by omega, List.drop_eq_getElem_cons qi]
        cases hd : isD T E.atts[i].nm with
        | false =>
          rw [if_pos (show b2 false = 0 from rfl), ih (i + 1) (c + 1) (by omega) (by omega)]
          have : cntO T (E.atts[i] :: E.atts.drop (i + 1)) = cntO T (E.atts.drop (i + 1)) + 1 := by unfold cntO; rw [List.filter_cons_of_pos (by simp [hd]), List.length_cons]
          rw [this, show c + 1 + cntO T (E.atts.drop (i + 1)) = c + (cntO T (E.atts.drop (i + 1)) + 1) by omega]
        | true =>
          rw [if_neg (show ¬ b2 true = 0 by decide), show nI c + 0 = nI c from nI_add c 0, ih (i + 1) c (by omega) (by omega)]
          have : cntO T (E.atts[i] :: E.atts.drop (i + 1)) = cntO T (E.atts.drop (i + 1)) := by unfold cntO; rw [List.filter_cons_of_neg (by simp [hd])]
          rw [this]
  unfold F_Mo_element_B83
  have := key fu 0 0 (by omega) (by omega)
  rw [Nat.add_zero, nI_0, List.drop_zero, Nat.zero_add] at this
  rw [show (6 : Int32) * nI e = nI (6 * e) from nI_mul 6 e]; exact this
theorem g_elC (b : RS M T U P) (he : e < P.els.length) (hfu : 240 < fu) : F_Mo_element_L44 fu (nI e) 1 fu 0 0 M r = F_Mo_element_B83 fu (nI e) 1 (nI (chN P.els e)) M r := by
  have h24 := b.1.2.1
  have key : ∀ d j c, P.els.length - j < d → j ≤ P.els.length → F_Mo_element_L44 fu (nI e) 1 d (nI c) (nI j) M r = F_Mo_element_B83 fu (nI e) 1 (nI (c + chN (P.els.drop j) e)) M r := by
    intro d
    induction d with
    | zero => intro j c h1; omega
    | succ d ih =>
      intro j c h1 h2
      rw [F_Mo_element_L44, b.2.1]
      by_cases q : P.els.length ≤ j
      · rw [if_pos (nI_le q (by omega)), List.drop_eq_nil_of_le q]; rfl
      · have qj : j < P.els.length := by omega
        have hel := b.1.2.2 j _ (List.getElem?_eq_getElem qj)
        rw [if_neg (nI_ge (by omega) (by omega)), if_pos rfl, gd_yes (vp_in_nI (by omega) (by decide)), nI_clamp (n := j) (by omega), hel.1.2.2.2.2.2.2.2.1, nI_1, nI_1, List.drop_eq_getElem_cons qj]
        by_cases hp : P.els[j].par = some e
        · rw [if_pos (show paI P.els[j].par = nI e by rw [hp]; rfl), ih (j + 1) (c + 1) (by omega) (by omega)]
          have : chN (P.els[j] :: P.els.drop (j + 1)) e = chN (P.els.drop (j + 1)) e + 1 := by unfold chN; rw [List.filter_cons_of_pos (by simpa using hp), List.length_cons]
          rw [this, show c + 1 + chN (P.els.drop (j + 1)) e = c + (chN (P.els.drop (j + 1)) e + 1) by omega]
        · have hne : ¬ paI P.els[j].par = nI e := by
            cases hq : P.els[j].par with
            | none =>
              intro q5
              have := nI_pos (n := e) (by omega)
              rw [← q5] at this; exact this (by decide)
            | some m =>
              intro q5
              have hm := hel.2 m hq
              exact hp (by rw [hq, (nI_eq (a := m) (b := e) (by omega) (by omega)).mp q5])
          rw [if_neg hne, show nI c + 0 = nI c from nI_add c 0, ih (j + 1) c (by omega) (by omega)]
          have : chN (P.els[j] :: P.els.drop (j + 1)) e = chN (P.els.drop (j + 1)) e := by unfold chN; rw [List.filter_cons_of_neg (by simpa using hp)]
          rw [this]
  have := key fu 0 0 (by omega) (by omega)
  rw [nI_0, List.drop_zero, Nat.zero_add] at this; exact this
theorem g_elS (b : RS M T U P) (he : e < P.els.length) {x2 : Int32} (hx : ¬ x2 = 1) (hfu : 240 < fu) : F_Mo_element_L44 fu (nI e) x2 fu 0 0 M r = F_Mo_element_B83 fu (nI e) x2 0 M r := by
  obtain ⟨d, rfl⟩ : ∃ d, fu = d + 1 := ⟨fu - 1, by omega⟩
  have h24 := b.1.2.1
  rw [F_Mo_element_L44, if_neg hx, ite_self]
end EL4
theorem s_element {M : gMem} {r : gRef} (h : Iv M r) (fu : Nat) (hfu : 240 < fu) (x1 x2 : Int32) : P2 (F_MR_element fu x1 x2 M r) (fun M r => F_Mo_element fu x1 x2 M r) (fun k c => (k = 2 ∧ c = 1) ∨ (k = 0 ∧ c = 2)) := by
  rcases no_el h.2.2.2.2.2.2 fu x1 with ⟨n1, n2⟩ | ⟨T, V, U, P, e, a, b, c, rfl, he, h24, n1, n2⟩
  · refine Or.inr ⟨2, M, r, 0, mS M 100 0 1, by unfold F_MR_element; rw [n1, bnd_k, gcs_none rfl], ?_, Or.inl ⟨rfl, mS_same _ _ _ _⟩, h.thr 1⟩
    show F_Mo_element fu x1 x2 M r = _
    unfold F_Mo_element; rw [n2, bnd_k, if_neg (by decide)]
  · have hE := List.getElem?_eq_getElem he
    have el := a.cx.ce.el e _ hE
    have l24 := b.1.2.1
    have b0 : RS (mS M 100 0 0) T U P := b.of (fun t i p q => mS_tag _ _ _ _ (by omega))
    have fin : ∀ v, F_MR_element fu (nI e) x2 M r = .ok v M r → F_Mo_element fu (nI e) x2 M r = .ok v (mS M 100 0 0) r → P2 (F_MR_element fu (nI e) x2 M r) (fun M r => F_Mo_element fu (nI e) x2 M r) (fun k c => (k = 2 ∧ c = 1) ∨ (k = 0 ∧ c = 2)) := fun v e1 e2 => Or.inl ⟨v, M, r, _, e1, e2, mS_same _ _ _ _, h.thr 0⟩
    have cls : F_MR_element fu (nI e) x2 M r = (if x2 = 0 then (gcs (r 1 e) (.ok (-1) M r) (fun k_13 => gd (k_13 < 24) (gcs (r 1 e) (.no) (fun k_14 => gd (k_14 < 24) (.ok (nI k_14) M r))))) else (if x2 = 1 then (.ok (M 28 e) M r) else (if x2 = 2 then (.ok ((M 29 e) - (M 30 e)) M r) else (if x2 = 3 then (.ok (M 31 e) M r) else (if x2 = 4 then (gO.bnd (F_Nm_hasSpace fu (145 + e) M r) (fun v16 M16 r16 => if v16 = 0 then (.ok (-1) M16 r16) else (gcs (r16 0 (145 + e)) (.no) (fun k_19 => gd (k_19 < 145) (gO.bnd (F_At_valueLength fu k_19 M16 r16) (fun v20 M20 r20 => .ok v20 M20 r20)))))) else (.ex 0 M r)))))) := by
      unfold F_MR_element
      rw [n1, bnd_k, gcs_some rfl, gd_yes h24]
    have ref : ¬ x2 < 0 → x2 ≤ 4 → F_Mo_element fu (nI e) x2 M r = F_Mo_element_L44 fu (nI e) x2 fu 0 0 (mS M 100 0 0) r := by
      intro q1 q2
      unfold F_Mo_element
      rw [n2, bnd_k, if_pos rfl, if_neg q1, if_pos q2]
    by_cases q0 : x2 = 0
    · subst q0
      refine fin (paI P.els[e].par) ?_ ?_
      · rw [cls, if_pos rfl, el.par]
        cases hp : P.els[e].par with
        | none => rw [gcs_none rfl]; rfl
        | some k =>
          have := a.cx.ce.pl e _ hE k hp
          rw [gcs_some rfl, gd_yes (by omega), gcs_some rfl, gd_yes (by omega)]; rfl
      · rw [ref (by decide) (by decide), g_elS b0 he (by decide) hfu, g_elL9 b0 he hE (by decide) _ hfu, g_elB b0 he hE hfu, if_pos rfl]
    by_cases q1 : x2 = 1
    · subst q1
      refine fin (nI (chN P.els e)) (by rw [cls, if_neg q0, if_pos rfl, a.ic e he]) ?_
      rw [ref (by decide) (by decide), g_elC b0 he hfu, g_elL9 b0 he hE (by decide) _ hfu, g_elB b0 he hE hfu, if_neg q0, if_neg (by decide)]
    by_cases q2 : x2 = 2
    · subst q2
      have cs := cntO_D T P.els[e].atts
      refine fin (nI (cntO T P.els[e].atts)) (by rw [cls, if_neg q0, if_neg q1, if_pos rfl, el.cn, el.dn, pk_sub (by omega), show P.els[e].atts.length - cntD T P.els[e].atts = cntO T P.els[e].atts by omega]) ?_
      rw [ref (by decide) (by decide), g_elS b0 he (by decide) hfu, g_elN b0 he hE hfu, g_elB b0 he hE hfu, if_neg q0, if_neg (by decide)]
    by_cases q3 : x2 = 3
    · subst q3
      have ol : owN (ownS none P.evs) e ≤ 240 := by
        unfold owN
        have := List.length_filter_le (fun y : Option Nat × Int32 => y.1 == some e) (ownS none P.evs)
        have := a.cl; have := a.aT; have := a.tx.le
        omega
      refine fin (nI (owN (ownS none P.evs) e)) (by rw [cls, if_neg q0, if_neg q1, if_neg q2, if_pos rfl, a.ow e he]) ?_
      rw [ref (by decide) (by decide), g_elS b0 he (by decide) hfu, g_elL9 b0 he hE (by decide) _ hfu, g_elB b0 he hE hfu, if_neg q0, if_pos (by decide), if_pos rfl, g_own b0 c he (-1) fu hfu, owA_neg _ _ (by rw [owL_len]; omega), owL_len, Nat.zero_add]
    by_cases q4 : x2 = 4
    · subst q4
      have sp := (a.sp e _ hE).en
      obtain ⟨hV, hlt⟩ := f_spV a.cx (p := preT T P.els[e].nm) (d := 25) (o := some e)
      have hV' : VL M V ((spE T P.els e P.els[e].nm).getD 144) (vOf P.els (spE T P.els e P.els[e].nm)) := hV
      have hlt' : (spE T P.els e P.els[e].nm).getD 144 < 145 := hlt
      have vle : V.length ≤ 240 := a.cx.vv.le
      have hs := f_hasSpace sp hlt' hV' vle fu
      have evl := f_valueLength hV' fu r
      refine fin (if vOf P.els (spE T P.els e P.els[e].nm) = [] then -1 else nI (vOf P.els (spE T P.els e P.els[e].nm)).length) ?_ ?_
      · rw [cls, if_neg q0, if_neg q1, if_neg q2, if_neg q3, if_pos rfl, hs, bnd_k]
        by_cases q : vOf P.els (spE T P.els e P.els[e].nm) = []
        · rw [if_pos q, q]; rfl
        · have : (vOf P.els (spE T P.els e P.els[e].nm) == []) = false := beq_eq_false_iff_ne.mpr q
          rw [if_neg q, this, if_neg (by decide), gcs_some sp, gd_yes hlt', evl, bnd_k]
      · rw [ref (by decide) (by decide), g_elS b0 he (by decide) hfu, g_elL9 b0 he hE (by decide) _ hfu, g_elB b0 he hE hfu, if_neg q0, if_pos (by decide), if_neg q3]
        cases ho : spO T P.els e P.els[e].nm with
        | none => rw [if_neg (show ¬ 0 ≤ paI none by decide), if_pos (spO_none ho)]
        | some k =>
          obtain ⟨k144, y, ay, y1, y2⟩ := spO_at b0.1 ho
          rw [if_pos (show 0 ≤ paI (some k) from nI_pos' (by omega)), gd_yes (show vp_in (paI (some k)) 144 from vp_in_nI k144 (by decide)), show (paI (some k)).toNatClampNeg = k from nI_clamp (n := k) (by omega), ay.2.2.2.2.2.1, ← y1, if_neg y2]
    · refine Or.inr ⟨0, M, r, 0, mS M 100 0 2, by rw [cls, if_neg q0, if_neg q1, if_neg q2, if_neg q3, if_neg q4], ?_, Or.inr ⟨rfl, mS_same _ _ _ _⟩, h.thr 2⟩
      show F_Mo_element fu (nI e) x2 M r = _
      unfold F_Mo_element
      rw [n2, bnd_k, if_pos rfl]
      by_cases p1 : x2 < 0
      · rw [if_pos p1]
      · rw [if_neg p1, if_neg]
        intro p2
        have g := gsw5 q0 q1 q2 q3 q4
        rw [Int32.lt_iff_toInt_lt] at p1
        rw [Int32.le_iff_toInt_le] at p2
        have e0 : (0 : Int32).toInt = 0 := rfl
        have e4 : (4 : Int32).toInt = 4 := rfl
        omega
