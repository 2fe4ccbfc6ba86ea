/-! The other checks of the class -/
theorem f_valueLength {M : gMem} {V : List Int32} {a : Nat} {v : List Int32} (h : VL M V a v) (fu : Nat) (r : gRef) : F_At_valueLength fu a M r = .ok (nI v.length) M r := by
  obtain ⟨s, a1, a2, a3, a4⟩ := h
  unfold F_At_valueLength; rw [a1, a2, pk_sub (by omega), Nat.add_sub_cancel_left]
theorem f_hasSpace {M : gMem} {r : gRef} {V : List Int32} {k a : Nat} {v : List Int32} (hr : r 0 k = some a) (ha : a < 145) (h : VL M V a v) (hV : V.length ≤ 240) (fu : Nat) : F_Nm_hasSpace fu k M r = .ok (b2 (!(v == []))) M r := by
  have hl : v.length ≤ 240 := by obtain ⟨s, a1, a2, a3, a4⟩ := h; omega
  unfold F_Nm_hasSpace
  rw [hr, gcs_some rfl, gd_yes ha, f_valueLength h, bnd_k]
  cases v with
  | nil => rw [if_pos (by decide)]; rfl
  | cons c L => rw [if_neg (nI_nle (by simp) (by omega))]; rfl
theorem f_declFixed {M : gMem} {T : List Int32} (hT : TX M T) {k : Nat} {n : Nam} (h : NM M T k n) (fu : Nat) (r : gRef) (hfu : 240 < fu) : F_SF_declaresFixed fu k M r = .ok (b2 (loT T n == [120, 109, 108] || loT T n == [120, 109, 108, 110, 115])) M r := by
  unfold F_SF_declaresFixed
  rw [h.fl, h.fz, f_stretchIs hT.rw fu r 11 (R := [120, 109, 108]) rfl (by decide) h.lz h.zT hfu, bnd_k]
  show (if b2 (loT T n == [120, 109, 108]) = 0 then _ else _) = _
  cases h1 : (loT T n == [120, 109, 108])
  · rw [if_pos (by decide), h.fl, h.fz, f_stretchIs hT.rw fu r 17 (R := [120, 109, 108, 110, 115]) rfl (by decide) h.lz h.zT hfu, bnd_k]
    show (if b2 (loT T n == [120, 109, 108, 110, 115]) = 0 then _ else _) = _
    cases h2 : (loT T n == [120, 109, 108, 110, 115])
    · rw [if_pos (by decide)]; rfl
    · rw [if_neg (by decide)]; rfl
  · rw [if_neg (by decide)]; rfl
theorem len0 {v : List Int32} (h : v.length ≤ 240) : nI v.length = 0 ↔ v = [] := by
  rw [← nI_0, nI_eq (by omega) (by omega), List.length_eq_zero_iff]
theorem f_wrongDecl {M : gMem} {r : gRef} {T V : List Int32} {els : List Ele} (h : CX M r T V els) {k : Nat} {E : Ele} (hE : els[k]? = some E) (fu : Nat) (hfu : 1440 < fu) :
    F_SF_firstWrongDeclaration fu k M r = .ok (plc (ckD T E.atts)) M r := by
  have el := h.ce.el k E hE
  have c6 := el.c6
  have hV : V.length ≤ 240 := h.vv.le
  have key : ∀ d i, E.atts.length - i < d → i ≤ E.atts.length → F_SF_firstWrongDeclaration_L2 fu k d (nI i) M r = .ok (plc (ckD T (E.atts.drop i))) M r := by
    intro d
    induction d with
    | zero => intro i h1; omega
    | succ d ih =>
      intro i h1 h2
      rw [F_SF_firstWrongDeclaration_L2, el.cn]
      by_cases q : i < E.atts.length
      · have at_ := el.ats i _ (List.getElem?_eq_getElem q)
        have hvl : E.atts[i].val.length ≤ 240 := by obtain ⟨s, a1, a2, a3, a4⟩ := at_.vs; omega
        rw [if_neg (nI_ge q (by omega)), gd_yes (vp_in_nI (by omega) (by decide)), nI_clamp (by omega), at_.dc, nI_1, List.drop_eq_getElem_cons q, ckD]
        have nx := ih (i + 1) (by omega) (by omega)
        cases hd : isD T E.atts[i].nm with
        | false => rw [if_pos (by decide), nx]; rfl
        | true =>
          rw [if_neg (by decide), f_hasPrefix at_.nm h.tx.le, bnd_k]
          cases hp : E.atts[i].nm.pre with
          | false => rw [if_pos (by decide), nx]; rfl
          | true =>
            rw [if_neg (by decide), f_valueLength at_.vs, bnd_k]
            by_cases hv : E.atts[i].val = []
            · rw [if_pos ((len0 hvl).mpr hv), at_.nm.fs, hv]; rfl
            · rw [if_neg (fun e => hv ((len0 hvl).mp e)), f_declFixed h.tx at_.nm fu r (by omega), bnd_k, (beq_eq_false_iff_ne).mpr hv, Bool.true_and, Bool.true_and, Bool.false_or]
              cases hf : (loT T E.atts[i].nm == [120, 109, 108] || loT T E.atts[i].nm == [120, 109, 108, 110, 115])
              · rw [if_pos (by decide), nx]; rfl
              · rw [if_neg (by decide), at_.nm.fs]; rfl
      · rw [if_pos (nI_le (by omega) (by omega)), F_SF_firstWrongDeclaration_B66, List.drop_eq_nil_of_le (by omega)]; rfl
  unfold F_SF_firstWrongDeclaration
  have := key fu 0 (by omega) (by omega)
  rw [nI_0] at this; exact this
theorem f_notDecl {M : gMem} {r : gRef} {T V : List Int32} {els : List Ele} (h : CX M r T V els) {k : Nat} {E : Ele} (hE : els[k]? = some E) (sp : SPk r T els k E) (fu : Nat) (hfu : 1440 < fu) :
    F_SF_firstNotDeclared fu k M r = .ok (plc (if E.nm.pre && vOf els (spE T els k E.nm) == [] then some (7, E.nm.s) else ckU T els k E.atts)) M r := by
  have el := h.ce.el k E hE
  have c6 := el.c6
  have hV : V.length ≤ 240 := h.vv.le
  have key : ∀ d i, E.atts.length - i < d → i ≤ E.atts.length → F_SF_firstNotDeclared_L30 fu k d (nI i) M r = .ok (plc (ckU T els k (E.atts.drop i))) M r := by
    intro d
    induction d with
    | zero => intro i h1; omega
    | succ d ih =>
      intro i h1 h2
      rw [F_SF_firstNotDeclared_L30, el.cn]
      by_cases q : i < E.atts.length
      · have at_ := el.ats i _ (List.getElem?_eq_getElem q)
        have sv := spA_V h (k := k) (n := E.atts[i].nm)
        rw [if_neg (nI_ge q (by omega)), gd_yes (vp_in_nI (by omega) (by decide)), nI_clamp (by omega), at_.dc, nI_1, List.drop_eq_getElem_cons q, ckU]
        have nx := ih (i + 1) (by omega) (by omega)
        cases hd : isD T E.atts[i].nm with
        | true => rw [if_neg (by decide), nx]; rfl
        | false =>
          rw [if_pos (by decide), f_hasPrefix at_.nm h.tx.le, bnd_k]
          cases hp : E.atts[i].nm.pre with
          | false => rw [if_pos (by decide), nx]; rfl
          | true =>
            rw [if_neg (by decide), f_hasSpace (sp.at_ i _ (List.getElem?_eq_getElem q)) sv.2 sv.1 hV, bnd_k]
            cases hs : (vOf els (spA T els k E.atts[i].nm) == [])
            · rw [if_neg (by decide), nx]; rfl
            · rw [if_pos (by decide), at_.nm.fs]; rfl
      · rw [if_pos (nI_le (by omega) (by omega)), F_SF_firstNotDeclared_B86, List.drop_eq_nil_of_le (by omega)]; rfl
  have k0 := key fu 0 (by omega) (by omega)
  rw [nI_0, List.drop_zero] at k0
  unfold F_SF_firstNotDeclared
  rw [f_hasPrefix el.nm h.tx.le, bnd_k]
  cases hp : E.nm.pre with
  | false => rw [if_pos (by decide), k0]; rfl
  | true =>
    have sv := f_spV h (p := preT T E.nm) (d := 25) (o := some k)
    rw [if_neg (by decide), f_hasSpace sp.en sv.2 sv.1 hV, bnd_k, Bool.true_and]
    show (if b2 (!(vOf els (spE T els k E.nm) == [])) = 0 then _ else _) = _
    cases hs : (vOf els (spE T els k E.nm) == [])
    · rw [if_neg (by decide), k0]; rfl
    · rw [if_pos (by decide), el.nm.fs]; rfl
theorem f_meanSame {M : gMem} {r : gRef} {T V : List Int32} {els : List Ele} (h : CX M r T V els) {k : Nat} {E : Ele} (hE : els[k]? = some E) (sp : SPk r T els k E) (fu : Nat) (hfu : 1440 < fu) {i j : Nat} {x y : Att} (hi : E.atts[i]? = some x) (hj : E.atts[j]? = some y) :
    F_SF_meanTheSame fu (6 * k + j) (6 * k + i) M r = .ok (b2 (mts T els k y.nm x.nm)) M r := by
  have el := h.ce.el k E hE
  have hV : V.length ≤ 240 := h.vv.le
  have ai := el.ats i x hi
  have aj := el.ats j y hj
  have si := spA_V h (k := k) (n := x.nm)
  have sj := spA_V h (k := k) (n := y.nm)
  unfold F_SF_meanTheSame mts
  rw [f_hasSpace (sp.at_ j y hj) sj.2 sj.1 hV, bnd_k]
  cases hs : (vOf els (spA T els k y.nm) == [])
  · rw [if_neg (by decide), sp.at_ j y hj, gcs_some rfl, gd_yes sj.2, sp.at_ i x hi, gcs_some rfl, gd_yes si.2, f_sameValue h.vv sj.1 si.1 fu r hfu, bnd_k]
    cases hv : (vOf els (spA T els k y.nm) == vOf els (spA T els k x.nm))
    · rw [if_pos (by decide)]; rfl
    · rw [if_neg (by decide), f_sameLocal h.tx aj.nm ai.nm fu r hfu, bnd_k]
      cases hl : (loT T y.nm == loT T x.nm)
      · rw [if_pos (by decide)]; rfl
      · rw [if_neg (by decide)]; rfl
  · rw [if_pos (by decide)]; rfl
theorem f_twiceSpace {M : gMem} {r : gRef} {T V : List Int32} {els : List Ele} (h : CX M r T V els) {k : Nat} {E : Ele} (hE : els[k]? = some E) (sp : SPk r T els k E) (fu : Nat) (hfu : 1440 < fu) :
    F_SF_firstTwiceInSpace fu k M r = .ok (plc (ckT T els k [] E.atts)) M r := by
  have el := h.ce.el k E hE
  have c6 := el.c6
  have inn : ∀ i (hi : i < E.atts.length) d j, i - j < d → j ≤ i → F_SF_firstTwiceInSpace_I23 fu k d (nI i) (6 * k + i) (nI j) M r = if ((E.atts.take i).drop j).any (fun y => mts T els k y.nm E.atts[i].nm) then .ok (.inl (nI E.atts[i].nm.s)) M r else .ok (.inr ()) M r := by
    intro i hi d
    induction d with
    | zero => intro j h1; omega
    | succ d ih =>
      intro j h1 h2
      have ai := el.ats i _ (List.getElem?_eq_getElem hi)
      rw [F_SF_firstTwiceInSpace_I23]
      by_cases q : j < i
      · have hjl : j < (E.atts.take i).length := by rw [List.length_take]; omega
        rw [if_neg (nI_ge q (by omega)), gd_yes (vp_in_nI (by omega) (by decide)), nI_clamp (by omega), f_meanSame h hE sp fu hfu (List.getElem?_eq_getElem hi) (List.getElem?_eq_getElem (by omega : j < E.atts.length)), bnd_k, nI_1, ih (j + 1) (by omega) (by omega), List.drop_eq_getElem_cons hjl, List.any_cons, List.getElem_take, ai.nm.fs]
        cases hb : mts T els k E.atts[j].nm E.atts[i].nm
        · rw [if_pos (by decide), Bool.false_or]
        · rw [if_neg (by decide), Bool.true_or, if_pos rfl]
      · rw [if_pos (nI_le (by omega) (by omega)), List.drop_eq_nil_of_le (by rw [List.length_take]; omega)]; rfl
  have key : ∀ d i, E.atts.length - i < d → i ≤ E.atts.length → F_SF_firstTwiceInSpace_L2 fu k d (nI i) M r = .ok (plc (ckT T els k (E.atts.take i) (E.atts.drop i))) M r := by
    intro d
    induction d with
    | zero => intro i h1; omega
    | succ d ih =>
      intro i h1 h2
      rw [F_SF_firstTwiceInSpace_L2, el.cn]
      by_cases q : i < E.atts.length
      · have := inn i q fu 0 (by omega) (by omega)
        rw [nI_0, List.drop_zero] at this
        rw [if_neg (nI_ge q (by omega)), gd_yes (vp_in_nI (by omega) (by decide)), nI_clamp (by omega), this, nI_1, List.drop_eq_getElem_cons q, ckT]
        cases hb : (E.atts.take i).any (fun y => mts T els k y.nm E.atts[i].nm)
        · rw [if_neg (by decide), if_neg (by decide), bnd_k]
          show F_SF_firstTwiceInSpace_L2 fu k d (nI (i + 1)) M r = _
          rw [ih (i + 1) (by omega) (by omega), List.take_add_one, List.getElem?_eq_getElem q]; rfl
        · rw [if_pos rfl, if_pos rfl, bnd_k]; rfl
      · rw [if_pos (nI_le (by omega) (by omega)), F_SF_firstTwiceInSpace_B64, List.drop_eq_nil_of_le (by omega)]; rfl
  unfold F_SF_firstTwiceInSpace
  have := key fu 0 (by omega) (by omega)
  rw [nI_0] at this; exact this
