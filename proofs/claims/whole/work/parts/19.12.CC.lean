/-! Sorting, a tag's form, entering -/
theorem neg_b2 {v : Int32} {b : Bool} (h : v < 0 ↔ b = true) (M : gMem) (r : gRef) : (if 0 ≤ v then (.ok 0 M r : gO Int32) else .ok 1 M r) = .ok (b2 b) M r := by
  by_cases q : v < 0
  · rw [if_neg (by grind), h.mp q]; rfl
  · rw [if_pos (by grind)]; cases b; rfl; exact absurd (h.mpr rfl) q
theorem f_comesBefore {M : gMem} {r : gRef} {T V : List Int32} {els : List Ele} (h : CX M r T V els) {k : Nat} {E : Ele} (hE : els[k]? = some E) (sp : SPk r T els k E) (fu : Nat) (hfu : 1440 < fu) {i j : Nat} {x y : Att} (hi : E.atts[i]? = some x) (hj : E.atts[j]? = some y) :
    F_FW_comesBefore fu (6 * k + i) (6 * k + j) M r = .ok (b2 (cBf T els k x y)) M r := by
  have el := h.ce.el k E hE
  have ai := el.ats i x hi
  have aj := el.ats j y hj
  unfold F_FW_comesBefore cBf
  rw [ai.dc, aj.dc]
  cases hx : isD T x.nm with
  | true =>
    cases hy : isD T y.nm with
    | false => rw [if_neg (by decide), gd_yes (b2_nb true)]; rfl
    | true =>
      have l1 := ai.nm.sl; have l2 := ai.nm.lz; have l3 := aj.nm.sl; have l4 := aj.nm.lz
      rw [if_pos rfl, if_neg (by decide), f_declaredStart ai.nm h.tx.le, bnd_k, f_declaredStart aj.nm h.tx.le, bnd_k, ai.nm.fz, aj.nm.fz]
      obtain ⟨v, e, g1, g2⟩ := f_order h.tx.rw fu r (by split <;> omega : (if x.nm.s < x.nm.l then x.nm.l else x.nm.z) ≤ x.nm.z) ai.nm.zT (by split <;> omega : (if y.nm.s < y.nm.l then y.nm.l else y.nm.z) ≤ y.nm.z) aj.nm.zT hfu
      rw [e, bnd_k]; exact neg_b2 g2 M r
  | false =>
    cases hy : isD T y.nm with
    | true => rw [if_neg (by decide), gd_yes (b2_nb false)]; rfl
    | false =>
      have si := spA_V h (k := k) (n := x.nm)
      have sj := spA_V h (k := k) (n := y.nm)
      rw [if_pos rfl, if_pos (by decide), sp.at_ i x hi, gcs_some rfl, gd_yes si.2, sp.at_ j y hj, gcs_some rfl, gd_yes sj.2]
      obtain ⟨s, a1, a2, a3, a4⟩ := si.1
      obtain ⟨u, b1, c2, b3, b4⟩ := sj.1
      rw [a1, a2, b1, c2]
      obtain ⟨v, e, g1, g2⟩ := f_order h.vv fu r (Nat.le_add_right s _) a3 (Nat.le_add_right u _) b3 hfu
      rw [a4, b4] at g1 g2
      rw [e, bnd_k]
      by_cases qv : v = 0
      · obtain ⟨w, e2, g3, g4⟩ := f_order h.tx.rw fu r ai.nm.lz ai.nm.zT aj.nm.lz aj.nm.zT hfu
        rw [if_pos qv, ai.nm.fl, ai.nm.fz, aj.nm.fl, aj.nm.fz, e2, bnd_k, neg_b2 g4 M r]
        simp only [Bool.false_eq_true, if_false]
        rw [if_pos (g1.mp qv)]; rfl
      · rw [if_neg qv, neg_b2 g2 M r]
        simp only [Bool.false_eq_true, if_false]
        rw [if_neg (fun e => qv (g1.mpr e))]
def SO (r : gRef) (k : Nat) (E : Ele) (S : List Att) : Prop := ∀ j y, S[j]? = some y → ∃ i, E.atts[i]? = some y ∧ r 2 j = some (6 * k + i)
theorem getl {α : Type} {L : List α} {j : Nat} {y z : α} (h : (L ++ [z])[j]? = some y) : (j < L.length ∧ L[j]? = some y) ∨ (j = L.length ∧ y = z) := by
  rcases Nat.lt_or_ge j L.length with q | q
  · rw [List.getElem?_append_left q] at h; exact Or.inl ⟨q, h⟩
  · rw [List.getElem?_append_right q] at h
    rcases Nat.eq_zero_or_pos (j - L.length) with h2 | h2
    · rw [h2] at h; injection h with h; exact Or.inr ⟨by omega, h.symm⟩
    · rw [List.getElem?_eq_none (by simp only [List.length_cons, List.length_nil]; omega)] at h; cases h
theorem ins_len (lt : Att → Att → Bool) (x : Att) : ∀ L, (ins lt x L).length = L.length + 1
  | [] => rfl
  | y :: L => by rw [ins]; split <;> simp [ins_len lt x L]
theorem f_insert {M : gMem} {T V : List Int32} {els : List Ele} {k : Nat} {E : Ele} (hE : els[k]? = some E) (fu : Nat) (hfu : 1440 < fu) {a : Nat} {x : Att} (hx : E.atts[a]? = some x) {S : List Att} (hS6 : S.length < 6) (hk : k < 24) (h6 : E.atts.length ≤ 6) :
    ∀ to d r, to < d → to ≤ S.length → CX M r T V els → SPk r T els k E → SO r k E (S.take to) →
    ∃ r', F_FW_insertSorted_L15 fu (6 * k + a) d (nI to) M r = .ok () (mS M 34 0 (M 34 0 + 1)) r' ∧ SO r' k E ((ins (cBf T els k) x (S.take to).reverse).reverse) ∧ (∀ j, to < j → r' 2 j = r 2 j) ∧ (∀ t j, t ≠ 2 → r' t j = r t j) := by
  have ha : a < E.atts.length := (List.getElem?_eq_some_iff.mp hx).1
  intro to
  induction to with
  | zero =>
    intro d r hd _ hC hP hSO
    obtain ⟨d, rfl⟩ : ∃ e, d = e + 1 := ⟨d - 1, by omega⟩
    rw [F_FW_insertSorted_L15, if_pos (by rw [nI_0]; decide), F_FW_insertSorted_B55, gd_yes (vp_in_nI (by decide) (by decide)), nI_clamp (by decide)]
    refine ⟨_, rfl, ?_, ?_, ?_⟩
    · intro j y hj
      rw [List.take_zero] at hj
      rcases j with _ | j
      · injection hj with hj; subst hj; exact ⟨a, hx, rS_same _ _ _ _⟩
      · simp [ins] at hj
    · intro j hj; exact rS_ix _ _ _ (by omega)
    · intro t j ht; exact rS_tag _ _ _ _ ht
  | succ to ih =>
    intro d r hd h2 hC hP hSO
    obtain ⟨d, rfl⟩ : ∃ e, d = e + 1 := ⟨d - 1, by omega⟩
    have hto : to < S.length := by omega
    have htk : S.take (to + 1) = S.take to ++ [S[to]] := by rw [List.take_add_one, List.getElem?_eq_getElem hto]; rfl
    obtain ⟨b, hb, hrb⟩ := hSO to S[to] (by rw [htk, List.getElem?_append_right (by rw [List.length_take]; omega), List.length_take, show to - min to S.length = 0 by omega]; rfl)
    have hbl : b < E.atts.length := (List.getElem?_eq_some_iff.mp hb).1
    have hm1 : nI (to + 1) - 1 = nI to := nI_pred to
    rw [F_FW_insertSorted_L15, if_neg (nI_nle (by omega) (by omega)), hm1, gd_yes (vp_in_nI (by omega) (by decide)), nI_clamp (by omega), hrb, gcs_some rfl, gd_yes (by omega : 6 * k + b < 145), f_comesBefore hC hE hP fu hfu hx hb, bnd_k, htk, List.reverse_append]
    show ∃ r', _ ∧ SO r' k E (ins (cBf T els k) x (S[to] :: (S.take to).reverse)).reverse ∧ _
    rw [ins]
    cases hlt : cBf T els k x S[to] with
    | false =>
      rw [if_pos (by decide), if_neg (by decide), F_FW_insertSorted_B55, gd_yes (vp_in_nI (by omega) (by decide)), nI_clamp (by omega)]
      refine ⟨_, rfl, ?_, ?_, ?_⟩
      · intro j y hj
        rw [List.reverse_cons, List.reverse_cons, List.reverse_reverse, ← htk] at hj
        rcases getl hj with ⟨q, hj⟩ | ⟨q, rfl⟩
        · obtain ⟨i, h3, h4⟩ := hSO j y hj
          rw [List.length_take] at q
          exact ⟨i, h3, by rw [rS_ix _ _ _ (by omega)]; exact h4⟩
        · rw [List.length_take] at q
          exact ⟨a, hx, by rw [show j = to + 1 by omega]; exact rS_same _ _ _ _⟩
      · intro j hj; exact rS_ix _ _ _ (by omega)
      · intro t j ht; exact rS_tag _ _ _ _ ht
    | true =>
      rw [if_neg (by decide), if_pos rfl, gd_yes (vp_in_nI (by omega) (by decide)), hrb, gcs_some rfl, gd_yes (by omega : 6 * k + b < 145), gd_yes (vp_in_nI (by omega) (by decide)), nI_clamp (by omega), show nI (to + 1) + (-1) = nI to by rw [← hm1]; grind]
      have k2 : ∀ t j, t ≠ 2 → (rS r 2 (to + 1) (some (6 * k + b))) t j = r t j := fun t j ht => rS_tag _ _ _ _ ht
      obtain ⟨r', e', g1, g2, g3⟩ := ih d (rS r 2 (to + 1) (some (6 * k + b))) (by omega) (by omega) (hC.ofr (fun i => k2 1 i (by decide))) ⟨by rw [k2 0 _ (by decide)]; exact hP.en, fun i x hx => by rw [k2 0 _ (by decide)]; exact hP.at_ i x hx⟩ (by
        intro j y hj
        have hjl := (List.getElem?_eq_some_iff.mp hj).1
        rw [List.length_take] at hjl
        obtain ⟨i, h3, h4⟩ := hSO j y (by rw [htk, List.getElem?_append_left (by rw [List.length_take]; omega)]; exact hj)
        exact ⟨i, h3, by rw [rS_ix _ _ _ (by omega)]; exact h4⟩)
      refine ⟨r', e', ?_, ?_, ?_⟩
      · intro j y hj
        rw [List.reverse_cons] at hj
        rcases getl hj with ⟨q, hj⟩ | ⟨q, rfl⟩
        · exact g1 j y hj
        · rw [List.length_reverse, ins_len, List.length_reverse, List.length_take] at q
          refine ⟨b, hb, ?_⟩
          rw [g2 j (by omega), show j = to + 1 by omega]; exact rS_same _ _ _ _
      · intro j hj; rw [g2 j (by omega)]; exact rS_ix _ _ _ (by omega)
      · intro t j ht; rw [g3 t j ht]; exact k2 t j ht
theorem f_says {M : gMem} {r : gRef} {T V : List Int32} {els : List Ele} (h : CX M r T V els) {k : Nat} {E : Ele} (hE : els[k]? = some E) (fu : Nat) (hfu : 1440 < fu) {i : Nat} {x : Att} (hi : E.atts[i]? = some x) :
    F_FW_saysSomethingElse fu k (6 * k + i) M r = .ok (b2 (!(vOf els (dFor T els (dpT T x.nm) 25 E.par) == x.val))) M r := by
  have el := h.ce.el k E hE
  have ai := el.ats i x hi
  have hkl := (List.getElem?_eq_some_iff.mp hE).1
  have c24 := h.ce.le
  have l1 := ai.nm.sl; have l2 := ai.nm.lz
  have fin : ∀ w, (if b2 (w == x.val) = 0 then (.ok 1 M r : gO Int32) else .ok 0 M r) = .ok (b2 (!(w == x.val))) M r := by
    intro w; cases hw : (w == x.val)
    · rw [if_pos (by decide)]; rfl
    · rw [if_neg (by decide)]; rfl
  unfold F_FW_saysSomethingElse
  rw [el.par]
  cases hp : E.par with
  | none =>
    rw [gcs_none rfl, f_declaredStart ai.nm h.tx.le, bnd_k, F_Tr_declarationFor_n, show fu = (fu - 1) + 1 by omega, F_Tr_declarationFor_n_L3, gcs_none rfl, F_Tr_declarationFor_n_B83, bnd_k, gcs_some rfl, gd_yes (by decide), f_sameValue h.vv h.v0 ai.vs _ r (by omega), bnd_k]
    exact fin _
  | some p =>
    have hpk := h.ce.pl k E hE p hp
    have sv := f_spV h (p := dpT T x.nm) (d := 25) (o := some p)
    rw [gcs_some rfl, gd_yes (by omega : p < 24), f_declaredStart ai.nm h.tx.le, bnd_k, ai.nm.fz, f_declFor h (by split <;> omega) ai.nm.zT (by omega) hfu, bnd_k, gcs_some rfl, show stre T (if x.nm.s < x.nm.l then x.nm.l else x.nm.z) x.nm.z = dpT T x.nm from rfl, gd_yes sv.2, f_sameValue h.vv sv.1 ai.vs _ r hfu, bnd_k]
    exact fin _
/-- the attributes that are written, among the first i, the last first -/
def srR (T : List Int32) (els : List Ele) (k : Nat) (E : Ele) (i : Nat) : List Att := ((E.atts.take i).filter (news T els E.par)).foldl (fun L x => ins (cBf T els k) x L) []
theorem srR_le (T : List Int32) (els : List Ele) (k : Nat) (E : Ele) (i : Nat) : (srR T els k E i).length ≤ i := by
  have : ∀ (L : List Att) (A : List Att), (L.foldl (fun L x => ins (cBf T els k) x L) A).length = A.length + L.length := by
    intro L
    induction L with
    | nil => intro A; rfl
    | cons x L ih => intro A; rw [List.foldl_cons, ih, ins_len, List.length_cons]; omega
  unfold srR
  rw [this, List.length_nil]
  have h1 := List.length_filter_le (news T els E.par) (E.atts.take i)
  rw [List.length_take] at h1; omega
theorem srR_s {T : List Int32} {els : List Ele} {k : Nat} {E : Ele} {i : Nat} {x : Att} (hx : E.atts[i]? = some x) : srR T els k E (i + 1) = if news T els E.par x then ins (cBf T els k) x (srR T els k E i) else srR T els k E i := by
  unfold srR
  rw [List.take_add_one, hx, List.filter_append]
  cases h : news T els E.par x
  · simp [List.filter, h]
  · simp [List.filter, h, List.foldl_append]
theorem f_begin {M : gMem} {r : gRef} {T V L : List Int32} {els : List Ele} (h : CX M r T V els) {k : Nat} {E : Ele} (hE : els[k]? = some E) (sp : SPk r T els k E) (hL : RW M 5 L) (fu : Nat) (hfu : 1440 < fu) (hl : L.length + (begF T els k E).length ≤ 1440) :
    ∃ M' r', F_FW_beginElement fu k M r = .ok () M' r' ∧ RW M' 5 (L ++ begF T els k E) ∧ Ks M M' ∧ (∀ t j, t ≠ 2 → r' t j = r t j) := by
  have n5 : nRow 5 = 1440 := rfl
  have el := h.ce.el k E hE
  have c6 := el.c6
  have c24 := h.ce.le
  have hkl := (List.getElem?_eq_some_iff.mp hE).1
  unfold begF at hl
  simp only [List.length_append, List.length_cons, List.length_nil] at hl
  -- the writing
  have wr : ∀ M1 r1, Ks M M1 → (∀ t j, t ≠ 2 → r1 t j = r t j) → RW M1 5 L → M1 34 0 = nI (srt T els k E).length → SO r1 k E (srt T els k E) → (srt T els k E).length ≤ 6 → ∃ M', F_FW_beginElement_B49 fu k M1 r1 = .ok () M' r1 ∧ RW M' 5 (L ++ begF T els k E) ∧ Ks M M' := by
    intro M1 r1 hk1 hr1 w1 c1 so1 l6
    have hC : ∀ M2, Ks M M2 → CX M2 r1 T V els := fun M2 hk2 => h.ks hk2 (fun i => hr1 1 i (by decide))
    have key : ∀ d i M2 L2, (srt T els k E).length - i < d → i ≤ (srt T els k E).length → Ks M M2 → M2 34 0 = nI (srt T els k E).length → RW M2 5 L2 → L2.length + (((srt T els k E).drop i).flatMap (attF T)).length + 1 ≤ 1440 → ∃ M', F_FW_beginElement_L68 fu k d (nI i) M2 r1 = .ok () M' r1 ∧ RW M' 5 (L2 ++ (((srt T els k E).drop i).flatMap (attF T) ++ [62])) ∧ Ks M M' := by
      intro d
      induction d with
      | zero => intro i M2 L2 h1; omega
      | succ d ih =>
        intro i M2 L2 h1 h2 hk2 c2 w2 cap
        rw [F_FW_beginElement_L68, c2]
        by_cases q : i < (srt T els k E).length
        · rw [List.drop_eq_getElem_cons q, List.flatMap_cons] at cap ⊢
          rw [List.length_append] at cap
          obtain ⟨b, hb, hrb⟩ := so1 i _ (List.getElem?_eq_getElem q)
          have hbl : b < E.atts.length := (List.getElem?_eq_some_iff.mp hb).1
          have x2 := hC M2 hk2
          obtain ⟨M3, e3, g3, k3⟩ := f_putAttribute x2 ((x2.ce.el k E hE).ats b _ hb) w2 fu (by omega) (by omega)
          rw [if_neg (nI_ge q (by omega)), gd_yes (vp_in_nI (by omega) (by decide)), nI_clamp (by omega), hrb, gcs_some rfl, gd_yes (by omega : 6 * k + b < 145), e3, bnd_k, nI_1]
          obtain ⟨M4, e4, g4, k4⟩ := ih (i + 1) M3 _ (by omega) (by omega) (hk2.tr k3.ks) (by rw [k3 34 0 (by omega) (by omega)]; exact c2) g3 (by rw [List.length_append]; omega)
          exact ⟨M4, e4, by simpa only [List.append_assoc] using g4, k4⟩
        · rw [List.drop_eq_nil_of_le (by omega)] at cap ⊢
          rw [if_pos (nI_le (by omega) (by omega)), F_FW_beginElement_B92]
          obtain ⟨M3, e3, g3, k3⟩ := f_put w2 fu r1 (c := 62) (isCh_ok (by decide)) (by rw [n5]; simp only [List.flatMap_nil, List.length_nil] at cap; omega)
          rw [e3, bnd_k]
          exact ⟨M3, rfl, g3, hk2.tr k3.ks⟩
    unfold F_FW_beginElement_B49
    obtain ⟨M2, e2, g2, k2⟩ := f_put w1 fu r1 (c := 60) (isCh_ok (by decide)) (by rw [n5]; omega)
    have hk2 := hk1.tr k2.ks
    have x2 := hC M2 hk2
    obtain ⟨M3, e3, g3, k3⟩ := f_putName (r := r1) x2.tx (x2.ce.el k E hE).nm g2 fu (by rw [List.length_append]; simp only [List.length_cons, List.length_nil]; omega) (by omega)
    have hk3 := hk2.tr k3.ks
    obtain ⟨M4, e4, g4, k4⟩ := key fu 0 M3 _ (by omega) (by omega) hk3 (by rw [k3 34 0 (by omega) (by omega), k2 34 0 (by omega) (by omega)]; exact c1) g3 (by rw [List.drop_zero]; simp only [List.length_append, List.length_cons, List.length_nil]; omega)
    rw [e2, bnd_k, e3, bnd_k]
    rw [nI_0] at e4
    refine ⟨M4, e4, ?_, k4⟩
    rw [List.drop_zero] at g4
    unfold begF; simpa only [List.append_assoc] using g4
  -- the choosing
  have ch1 : ∀ d i M1 r1, E.atts.length - i < d → i ≤ E.atts.length → Ks M M1 → (∀ t j, t ≠ 2 → r1 t j = r t j) → RW M1 5 L → M1 34 0 = nI (srR T els k E i).length → SO r1 k E (srR T els k E i).reverse → ∃ M' r', F_FW_beginElement_L7 fu k d (nI i) M1 r1 = .ok () M' r' ∧ RW M' 5 (L ++ begF T els k E) ∧ Ks M M' ∧ (∀ t j, t ≠ 2 → r' t j = r t j) := by
    intro d
    induction d with
    | zero => intro i M1 r1 h1; omega
    | succ d ih =>
      intro i M1 r1 h1 h2 hk1 hr1 w1 c1 so1
      have x1 : CX M1 r1 T V els := h.ks hk1 (fun i => hr1 1 i (by decide))
      have p1 : SPk r1 T els k E := ⟨by rw [hr1 0 _ (by decide)]; exact sp.en, fun i x hx => by rw [hr1 0 _ (by decide)]; exact sp.at_ i x hx⟩
      rw [F_FW_beginElement_L7, (x1.ce.el k E hE).cn]
      by_cases q : i < E.atts.length
      · have hx := List.getElem?_eq_getElem q
        have ai := (x1.ce.el k E hE).ats i _ hx
        have sl := srR_le T els k E i
        rw [if_neg (nI_ge q (by omega)), gd_yes (vp_in_nI (by omega) (by decide)), nI_clamp (by omega), ai.dc, nI_1]
        -- one put in
        have put : news T els E.par E.atts[i] = true → ∃ M' r', gO.bnd (F_FW_insertSorted fu (6 * k + i) M1 r1) (fun v27 M27 r27 => F_FW_beginElement_L7 fu k d (nI (i + 1)) M27 r27) = .ok () M' r' ∧ RW M' 5 (L ++ begF T els k E) ∧ Ks M M' ∧ (∀ t j, t ≠ 2 → r' t j = r t j) := by
          intro hn
          unfold F_FW_insertSorted
          rw [c1, if_pos (show nI (srR T els k E i).length < 6 from nI_lt (b := 6) (by omega) (by decide))]
          have hl2 : (srR T els k E i).reverse.length = (srR T els k E i).length := List.length_reverse
          obtain ⟨r2, e2, g1, g2, g3⟩ := f_insert (M := M1) (V := V) hE fu hfu hx (S := (srR T els k E i).reverse) (by omega) (by omega) c6 (srR T els k E i).length fu r1 (by omega) (by omega) x1 p1 (by rw [List.take_of_length_le (by omega)]; exact so1)
          rw [List.take_of_length_le (by omega), List.reverse_reverse] at g1
          rw [e2, bnd_k]
          refine ih (i + 1) _ r2 (by omega) (by omega) (hk1.tr (Ks.s M1 _)) (fun t j ht => (g3 t j ht).trans (hr1 t j ht)) (w1.mv (by omega) (by decide)) ?_ ?_
          · rw [mS_same, c1, nI_1, srR_s hx, if_pos hn, ins_len]
          · rw [srR_s hx, if_pos hn]; exact g1
        cases hd : isD T E.atts[i].nm with
        | false => rw [if_pos (by decide)]; exact put (by unfold news; rw [hd]; rfl)
        | true =>
          rw [if_neg (by decide), f_says x1 hE fu hfu hx, bnd_k]
          cases hs : (!(vOf els (dFor T els (dpT T E.atts[i].nm) 25 E.par) == E.atts[i].val)) with
          | false =>
            have hn : news T els E.par E.atts[i] = false := by unfold news; rw [hd, hs]; rfl
            rw [if_pos (by decide)]
            exact ih (i + 1) M1 r1 (by omega) (by omega) hk1 hr1 w1 (by rw [srR_s hx, if_neg (by rw [hn]; decide)]; exact c1) (by rw [srR_s hx, if_neg (by rw [hn]; decide)]; exact so1)
          | true => rw [if_neg (by decide)]; exact put (by unfold news; rw [hd, hs]; rfl)
      · have hsr : srt T els k E = (srR T els k E i).reverse := by unfold srt srR; rw [List.take_of_length_le (by omega)]
        have sl := srR_le T els k E i
        rw [if_pos (nI_le (by omega) (by omega))]
        obtain ⟨M', e', g1, g2⟩ := wr M1 r1 hk1 hr1 w1 (by rw [hsr, List.length_reverse]; exact c1) (by rw [hsr]; exact so1) (by rw [hsr, List.length_reverse]; omega)
        exact ⟨M', r1, e', g1, g2, hr1⟩
  unfold F_FW_beginElement
  have := ch1 fu 0 (mS M 34 0 0) r (by omega) (by omega) (Ks.s M 0) (fun _ _ _ => rfl) (hL.mv (by omega) (by decide)) (by rw [mS_same]; rfl) (fun j y hj => by simp [srR] at hj)
  rw [nI_0] at this; exact this
