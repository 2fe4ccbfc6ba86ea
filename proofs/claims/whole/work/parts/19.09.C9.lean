/-! The spaces of the class -/
def CX (M : gMem) (r : gRef) (T V : List Int32) (els : List Ele) : Prop :=
  (TX M T) ∧
  (RW M 3 V) ∧
  (CE M r T V els) ∧
  (M 23 144 = 0) ∧
  (M 24 144 = 0)
theorem CX.tx {M : gMem} {r : gRef} {T V : List Int32} {els : List Ele} (h : CX M r T V els) : TX M T := h.1
theorem CX.vv {M : gMem} {r : gRef} {T V : List Int32} {els : List Ele} (h : CX M r T V els) : RW M 3 V := h.2.1
theorem CX.ce {M : gMem} {r : gRef} {T V : List Int32} {els : List Ele} (h : CX M r T V els) : CE M r T V els := h.2.2.1
theorem CX.z1 {M : gMem} {r : gRef} {T V : List Int32} {els : List Ele} (h : CX M r T V els) : M 23 144 = 0 := h.2.2.2.1
theorem CX.z2 {M : gMem} {r : gRef} {T V : List Int32} {els : List Ele} (h : CX M r T V els) : M 24 144 = 0 := h.2.2.2.2
def VL (M : gMem) (V : List Int32) (a : Nat) (v : List Int32) : Prop := ∃ s, M 23 a = nI s ∧ M 24 a = nI (s + v.length) ∧ s + v.length ≤ V.length ∧ stre V s (s + v.length) = v
theorem CX.v0 {M : gMem} {r : gRef} {T V : List Int32} {els : List Ele} (h : CX M r T V els) : VL M V 144 [] := ⟨0, h.z1, h.z2, Nat.zero_le _, stre_nil V 0⟩
theorem b2_1 {b : Bool} : b2 b = 1 ↔ b = true := by cases b <;> simp [b2]
theorem ord_b2 {v : Int32} {A B : List Int32} (h : v = 0 ↔ A = B) (M : gMem) (r : gRef) : (if v = 0 then (.ok 1 M r : gO Int32) else .ok 0 M r) = .ok (b2 (A == B)) M r := by
  by_cases q : v = 0
  · rw [if_pos q, (beq_iff_eq).mpr (h.mp q)]; rfl
  · rw [if_neg q, (beq_eq_false_iff_ne).mpr (fun e => q (h.mpr e))]; rfl
theorem f_sameName {M : gMem} {T : List Int32} (hT : TX M T) {a b : Nat} {x y : Nam} (h1 : NM M T a x) (h2 : NM M T b y) (fu : Nat) (r : gRef) (hfu : 1440 < fu) : F_Tr_sameName fu a b M r = .ok (b2 (nmT T x == nmT T y)) M r := by
  have := h1.sl; have := h1.lz; have := h2.sl; have := h2.lz
  unfold F_Tr_sameName
  rw [h1.fs, h1.fz, h2.fs, h2.fz]
  obtain ⟨v, e, g1, g2⟩ := f_order hT.rw fu r (by omega : x.s ≤ x.z) h1.zT (by omega : y.s ≤ y.z) h2.zT hfu
  rw [e, bnd_k]; exact ord_b2 g1 M r
theorem f_sameLocal {M : gMem} {T : List Int32} (hT : TX M T) {a b : Nat} {x y : Nam} (h1 : NM M T a x) (h2 : NM M T b y) (fu : Nat) (r : gRef) (hfu : 1440 < fu) : F_Tr_sameLocal fu a b M r = .ok (b2 (loT T x == loT T y)) M r := by
  unfold F_Tr_sameLocal
  rw [h1.fl, h1.fz, h2.fl, h2.fz]
  obtain ⟨v, e, g1, g2⟩ := f_order hT.rw fu r h1.lz h1.zT h2.lz h2.zT hfu
  rw [e, bnd_k]; exact ord_b2 g1 M r
theorem f_sameValue {M : gMem} {V : List Int32} (hV : RW M 3 V) {a b : Nat} {x y : List Int32} (h1 : VL M V a x) (h2 : VL M V b y) (fu : Nat) (r : gRef) (hfu : 1440 < fu) : F_Tr_sameValue fu a b M r = .ok (b2 (x == y)) M r := by
  obtain ⟨s, a1, a2, a3, a4⟩ := h1
  obtain ⟨u, b1, c2, b3, b4⟩ := h2
  unfold F_Tr_sameValue
  rw [a1, a2, b1, c2]
  obtain ⟨v, e, g1, g2⟩ := f_order hV fu r (Nat.le_add_right s x.length) a3 (Nat.le_add_right u y.length) b3 hfu
  rw [a4, b4] at g1
  rw [e, bnd_k]; exact ord_b2 g1 M r
/-! the declaration that holds -/
theorem f_declI {M : gMem} {r : gRef} {T V : List Int32} {els : List Ele} (h : CX M r T V els) {e : Nat} {E : Ele} (hE : els[e]? = some E) {s z : Nat} (hs : s ≤ z) (hz : z ≤ T.length) (fu kk : Nat) (hfu : 1440 < fu) :
    ∀ d i, E.atts.length - i < d → i ≤ E.atts.length → F_Tr_declarationFor_I11 fu kk (nI s) (nI z) d e (nI i) M r = (match fDe T (stre T s z) e i (E.atts.drop i) with
      | some a => .ok (.inl (some a)) M r
      | none => .ok (.inr ()) M r) := by
  have el := h.ce.el e E hE
  have c6 := el.c6
  intro d
  induction d with
  | zero => intro i h1; omega
  | succ d ih =>
    intro i h1 h2
    rw [F_Tr_declarationFor_I11, el.cn]
    by_cases q : i < E.atts.length
    · have hx : E.atts[i]? = some E.atts[i] := List.getElem?_eq_getElem q
      have at_ := el.ats i _ hx
      rw [if_neg (nI_ge q (by omega)), gd_yes (vp_in_nI (by omega) (by decide)), nI_clamp (by omega), at_.dc, nI_1, List.drop_eq_getElem_cons q, fDe]
      cases hd : isD T E.atts[i].nm with
      | false => rw [if_pos (by decide), Bool.false_and, if_neg (by decide), ih (i + 1) (by omega) (by omega)]
      | true =>
        rw [if_neg (by decide), f_declaredStart at_.nm h.tx.le, bnd_k, at_.nm.fz]
        have l1 := at_.nm.sl; have l2 := at_.nm.lz
        obtain ⟨v, e1, g1, g2⟩ := f_order h.tx.rw fu r (by split <;> omega : (if E.atts[i].nm.s < E.atts[i].nm.l then E.atts[i].nm.l else E.atts[i].nm.z) ≤ E.atts[i].nm.z) at_.nm.zT hs hz hfu
        rw [e1, bnd_k, Bool.true_and]
        by_cases qv : v = 0
        · rw [if_pos qv, if_pos (show (dpT T E.atts[i].nm == stre T s z) = true from beq_iff_eq.mpr (g1.mp qv))]
        · rw [if_neg qv, if_neg (show ¬ (dpT T E.atts[i].nm == stre T s z) = true from fun e => qv (g1.mpr (beq_iff_eq.mp e))), ih (i + 1) (by omega) (by omega)]
    · rw [if_pos (nI_le (by omega) (by omega)), List.drop_eq_nil_of_le (by omega)]; rfl
theorem f_declL {M : gMem} {r : gRef} {T V : List Int32} {els : List Ele} (h : CX M r T V els) {s z : Nat} (hs : s ≤ z) (hz : z ≤ T.length) (fu kk : Nat) (hfu : 1440 < fu) :
    ∀ d d' o, (∀ e, o = some e → e < d ∧ e < d' ∧ e < els.length) → 0 < d → F_Tr_declarationFor_L3 fu kk (nI s) (nI z) (d + 1) o M r = .ok (some ((dFor T els (stre T s z) (d' + 1) o).getD 144)) M r := by
  intro d
  induction d with
  | zero => intro d' o h1 h2; omega
  | succ d ih =>
    intro d' o h1 _
    rw [F_Tr_declarationFor_L3]
    cases o with
    | none => rw [gcs_none rfl]; rfl
    | some e =>
      obtain ⟨q1, q2, q3⟩ := h1 e rfl
      have hE : els[e]? = some els[e] := List.getElem?_eq_getElem q3
      have el := h.ce.el e _ hE
      have c24 := h.ce.le
      have c6 := el.c6
      rw [gcs_some rfl, gd_yes (by omega : e < 24), ← nI_0, f_declI h hE hs hz fu kk hfu fu 0 (by omega) (by omega), List.drop_zero, dFor, hE]
      dsimp only
      cases hf : fDe T (stre T s z) e 0 els[e].atts with
      | some a => dsimp only; rw [bnd_k]; rfl
      | none =>
        dsimp only
        rw [bnd_k]
        show gcs (r 1 e) _ _ = _
        rw [el.par]
        obtain ⟨d', rfl⟩ : ∃ d0, d' = d0 + 1 := ⟨d' - 1, by omega⟩
        cases hp : els[e].par with
        | none => rw [gcs_none rfl]; cases d <;> (rw [F_Tr_declarationFor_L3, gcs_none rfl]; rfl)
        | some p =>
          have hpe := h.ce.pl e _ hE p hp
          rw [gcs_some rfl, gd_yes (by omega : p < 24)]
          exact ih d' (some p) (fun e' he => by injection he with he; subst he; exact ⟨by omega, by omega, by omega⟩) (by omega)
theorem f_declFor {M : gMem} {r : gRef} {T V : List Int32} {els : List Ele} (h : CX M r T V els) {s z : Nat} (hs : s ≤ z) (hz : z ≤ T.length) {fu k : Nat} (hk : k < els.length) (hfu : 1440 < fu) :
    F_Tr_declarationFor fu k (nI s) (nI z) M r = .ok (some ((dFor T els (stre T s z) 25 (some k)).getD 144)) M r := by
  have := h.ce.le
  unfold F_Tr_declarationFor
  have := f_declL h hs hz fu k hfu (fu - 1) 24 (some k) (fun e he => by injection he with he; omega) (by omega)
  rw [show fu - 1 + 1 = fu by omega] at this; exact this
/-! what a declaration is, and its value -/
theorem fDe_at {T p : List Int32} {e : Nat} : ∀ {L : List Att} {i a : Nat}, fDe T p e i L = some a → ∃ j x, L[j]? = some x ∧ a = 6 * e + (i + j) ∧ isD T x.nm = true ∧ dpT T x.nm = p
  | [], i, a, h => by cases h
  | y :: L, i, a, h => by
    rw [fDe] at h
    split at h
    · rename_i q
      rw [Bool.and_eq_true, beq_iff_eq] at q
      injection h with h; exact ⟨0, y, rfl, by omega, q.1, q.2⟩
    · obtain ⟨j, x, h1, h2, h3, h4⟩ := fDe_at h
      exact ⟨j + 1, x, by simpa using h1, by omega, h3, h4⟩
theorem dFor_at {T p : List Int32} {els : List Ele} : ∀ {d : Nat} {o : Option Nat} {a : Nat}, dFor T els p d o = some a → ∃ e E j x, els[e]? = some E ∧ E.atts[j]? = some x ∧ a = 6 * e + j ∧ isD T x.nm = true ∧ dpT T x.nm = p
  | 0, o, a, h => by cases h
  | d + 1, none, a, h => by cases h
  | d + 1, some e, a, h => by
    rw [dFor] at h
    split at h
    · cases h
    · rename_i E hE
      split at h
      · rename_i b hb
        injection h with h; subst h
        obtain ⟨j, x, h1, h2, h3, h4⟩ := fDe_at hb
        exact ⟨e, E, j, x, hE, h1, by omega, h3, h4⟩
      · exact dFor_at h
theorem f_spV {M : gMem} {r : gRef} {T V : List Int32} {els : List Ele} (h : CX M r T V els) {p : List Int32} {d : Nat} {o : Option Nat} : VL M V ((dFor T els p d o).getD 144) (vOf els (dFor T els p d o)) ∧ (dFor T els p d o).getD 144 < 145 := by
  cases hd : dFor T els p d o with
  | none => exact ⟨h.v0, by decide⟩
  | some a =>
    obtain ⟨e, E, j, x, h1, h2, h3, -, -⟩ := dFor_at hd
    have el := h.ce.el e E h1
    have hl : e < els.length := (List.getElem?_eq_some_iff.mp h1).1
    have hj : j < E.atts.length := (List.getElem?_eq_some_iff.mp h2).1
    have c6 := el.c6
    have := h.ce.le
    have e1 : a / 6 = e := by omega
    have e2 : a % 6 = j := by omega
    have : vOf els (some a) = x.val := by unfold vOf atA; simp [e1, e2, h1, h2]
    rw [this, h3]
    exact ⟨(el.ats j x h2).vs, by show 6 * e + j < 145; omega⟩
/-- the spaces of element k's names -/
def SPk (r : gRef) (T : List Int32) (els : List Ele) (k : Nat) (E : Ele) : Prop :=
  (r 0 (145 + k) = some ((spE T els k E.nm).getD 144)) ∧
  (∀ i x, E.atts[i]? = some x → r 0 (6 * k + i) = some ((spA T els k x.nm).getD 144))
theorem SPk.en {r : gRef} {T : List Int32} {els : List Ele} {k : Nat} {E : Ele} (h : SPk r T els k E) : r 0 (145 + k) = some ((spE T els k E.nm).getD 144) := h.1
theorem SPk.at_ {r : gRef} {T : List Int32} {els : List Ele} {k : Nat} {E : Ele} (h : SPk r T els k E) : ∀ i x, E.atts[i]? = some x → r 0 (6 * k + i) = some ((spA T els k x.nm).getD 144) := h.2
theorem spA_V {M : gMem} {r : gRef} {T V : List Int32} {els : List Ele} (h : CX M r T V els) {k : Nat} {n : Nam} : VL M V ((spA T els k n).getD 144) (vOf els (spA T els k n)) ∧ (spA T els k n).getD 144 < 145 := by
  unfold spA; split
  · exact f_spV h
  · exact ⟨h.v0, by decide⟩
theorem CX.ofr {M : gMem} {r r' : gRef} {T V : List Int32} {els : List Ele} (h : CX M r T V els) (hr : ∀ i, r' 1 i = r 1 i) : CX M r' T V els :=
  ⟨h.tx, h.vv, ⟨h.ce.len, h.ce.le, fun e E hE => ⟨(h.ce.el e E hE).nm, (h.ce.el e E hE).cn, (h.ce.el e E hE).c6, (h.ce.el e E hE).dn, (h.ce.el e E hE).ats, by rw [hr]; exact (h.ce.el e E hE).par, (h.ce.el e E hE).dp, (h.ce.el e E hE).d12⟩, h.ce.pl⟩, h.z1, h.z2⟩
theorem f_findSpaces {M : gMem} {r : gRef} {T V : List Int32} {els : List Ele} (h : CX M r T V els) {k : Nat} {E : Ele} (hE : els[k]? = some E) (fu : Nat) (hfu : 1440 < fu) :
    ∃ r', F_SF_findSpaces fu k M r = .ok () M r' ∧ SPk r' T els k E ∧ (∀ t i, ¬ (t = 0 ∧ (6 * k ≤ i ∧ i < 6 * k + 6 ∨ i = 145 + k)) → r' t i = r t i) := by
  have hk : k < els.length := (List.getElem?_eq_some_iff.mp hE).1
  have el := h.ce.el k E hE
  have c6 := el.c6
  have c24 := h.ce.le
  have key : ∀ d i r1, E.atts.length - i < d → i ≤ E.atts.length → (∀ j, r1 1 j = r 1 j) → ∃ r', F_SF_findSpaces_L27 fu k d (nI i) M r1 = .ok () M r' ∧ (∀ j x, i ≤ j → E.atts[j]? = some x → r' 0 (6 * k + j) = some ((spA T els k x.nm).getD 144)) ∧ (∀ t j, ¬ (t = 0 ∧ 6 * k + i ≤ j ∧ j < 6 * k + 6) → r' t j = r1 t j) := by
    intro d
    induction d with
    | zero => intro i r1 h1; omega
    | succ d ih =>
      intro i r1 h1 h2 hr1
      rw [F_SF_findSpaces_L27, el.cn]
      by_cases q : i < E.atts.length
      · have hx : E.atts[i]? = some E.atts[i] := List.getElem?_eq_getElem q
        have at_ := el.ats i _ hx
        have l1 := at_.nm.sl; have l2 := at_.nm.lz; have l3 := at_.nm.zT
        rw [if_neg (nI_ge q (by omega)), gd_yes (vp_in_nI (by omega) (by decide)), nI_clamp (by omega), f_hasPrefix at_.nm h.tx.le, bnd_k, nI_1]
        have fin : ∀ v, v = (spA T els k E.atts[i].nm).getD 144 → ∃ r', F_SF_findSpaces_L27 fu k d (nI (i + 1)) M (rS r1 0 (6 * k + i) (some v)) = .ok () M r' ∧ (∀ j x, i ≤ j → E.atts[j]? = some x → r' 0 (6 * k + j) = some ((spA T els k x.nm).getD 144)) ∧ (∀ t j, ¬ (t = 0 ∧ 6 * k + i ≤ j ∧ j < 6 * k + 6) → r' t j = r1 t j) := by
          intro v hv
          obtain ⟨r', e', g1, g2⟩ := ih (i + 1) (rS r1 0 (6 * k + i) (some v)) (by omega) (by omega) (fun j => by rw [rS, if_neg (by omega)]; exact hr1 j)
          refine ⟨r', e', ?_, ?_⟩
          · intro j x hj hx2
            rcases Nat.lt_or_ge i j with qj | qj
            · exact g1 j x (by omega) hx2
            · have : j = i := by omega
              subst this
              rw [hx] at hx2; injection hx2 with hx2; subst hx2
              rw [g2 0 _ (by omega), rS_same, hv]
          · intro t j u
            rw [g2 t j (by omega), rS, if_neg (by omega)]
        by_cases qp : E.atts[i].nm.pre = true
        · rw [if_neg (show ¬ b2 E.atts[i].nm.pre = 0 by rw [b2_0, qp]; decide), f_prefixEnd at_.nm h.tx.le, bnd_k, at_.nm.fs, f_declFor (h.ofr (r' := r1) hr1) (by unfold Nam.pz; split <;> omega) (by unfold Nam.pz; split <;> omega) hk hfu, bnd_k, gcs_some rfl, gd_yes (f_spV h).2]
          refine fin _ ?_
          unfold spA preT; rw [if_pos qp]
        · rw [if_pos (show b2 E.atts[i].nm.pre = 0 by rw [b2_0]; simpa using qp)]
          refine fin 144 ?_
          unfold spA; rw [if_neg qp]; rfl
      · rw [if_pos (nI_le (by omega) (by omega)), F_SF_findSpaces_B93]
        refine ⟨r1, rfl, ?_, fun _ _ _ => rfl⟩
        intro j x hj hx; rw [List.getElem?_eq_none (by omega)] at hx; cases hx
  unfold F_SF_findSpaces
  have l1 := el.nm.sl; have l2 := el.nm.lz; have l3 := el.nm.zT
  rw [f_prefixEnd el.nm h.tx.le, bnd_k, el.nm.fs, f_declFor h (by unfold Nam.pz; split <;> omega) (by unfold Nam.pz; split <;> omega) hk hfu, bnd_k, gcs_some rfl, gd_yes (f_spV h).2]
  obtain ⟨r', e', g1, g2⟩ := key fu 0 (rS r 0 (145 + k) (some ((dFor T els (stre T E.nm.s E.nm.pz) 25 (some k)).getD 144))) (by omega) (by omega) (fun j => by rw [rS, if_neg (by omega)])
  rw [nI_0] at e'
  refine ⟨r', e', ⟨?_, fun i x hx => g1 i x (by omega) hx⟩, ?_⟩
  · rw [g2 0 (145 + k) (by omega), rS_same]; rfl
  · intro t i u; rw [g2 t i (by omega), rS, if_neg (by omega)]
/-! the checks -/
def plc : Option Wr → Int32
  | none => -1
  | some w => nI w.2
theorem f_nameTwice {M : gMem} {r : gRef} {T V : List Int32} {els : List Ele} (h : CX M r T V els) {k : Nat} {E : Ele} (hE : els[k]? = some E) (fu : Nat) (hfu : 1440 < fu) :
    F_SF_firstNameTwice fu k M r = .ok (plc (ckN T [] E.atts)) M r := by
  have el := h.ce.el k E hE
  have c6 := el.c6
  have inn : ∀ i (hi : i < E.atts.length) d j, i - j < d → j ≤ i → F_SF_firstNameTwice_I23 fu k d (nI i) (6 * k + i) (nI j) M r = if ((E.atts.take i).drop j).any (fun y => nmT T y.nm == nmT T E.atts[i].nm) then .ok (.inl (nI E.atts[i].nm.s)) M r else .ok (.inr ()) M r := by
    intro i hi d
    induction d with
    | zero => intro j h1; omega
    | succ d ih =>
      intro j h1 h2
      have ai := el.ats i _ (List.getElem?_eq_getElem hi)
      rw [F_SF_firstNameTwice_I23]
      by_cases q : j < i
      · have hjl : j < (E.atts.take i).length := by rw [List.length_take]; omega
        have aj := el.ats j _ (List.getElem?_eq_getElem (by omega : j < E.atts.length))
        rw [if_neg (nI_ge q (by omega)), gd_yes (vp_in_nI (by omega) (by decide)), nI_clamp (by omega), f_sameName h.tx aj.nm ai.nm fu r hfu, bnd_k, nI_1, ih (j + 1) (by omega) (by omega), List.drop_eq_getElem_cons hjl, List.any_cons, List.getElem_take, ai.nm.fs]
        cases hb : (nmT T E.atts[j].nm == nmT T E.atts[i].nm)
        · rw [if_pos (by decide), Bool.false_or]
        · rw [if_neg (by decide), Bool.true_or, if_pos rfl]
      · rw [if_pos (nI_le (by omega) (by omega)), List.drop_eq_nil_of_le (by rw [List.length_take]; omega)]; rfl
  have key : ∀ d i, E.atts.length - i < d → i ≤ E.atts.length → F_SF_firstNameTwice_L2 fu k d (nI i) M r = .ok (plc (ckN T (E.atts.take i) (E.atts.drop i))) M r := by
    intro d
    induction d with
    | zero => intro i h1; omega
    | succ d ih =>
      intro i h1 h2
      rw [F_SF_firstNameTwice_L2, el.cn]
      by_cases q : i < E.atts.length
      · have := inn i q fu 0 (by omega) (by omega)
        rw [nI_0, List.drop_zero] at this
        rw [if_neg (nI_ge q (by omega)), gd_yes (vp_in_nI (by omega) (by decide)), nI_clamp (by omega), this, nI_1, List.drop_eq_getElem_cons q, ckN]
        cases hb : (E.atts.take i).any (fun y => nmT T y.nm == nmT T E.atts[i].nm)
        · rw [if_neg (by decide), if_neg (by decide), bnd_k]
          show F_SF_firstNameTwice_L2 fu k d (nI (i + 1)) M r = _
          rw [ih (i + 1) (by omega) (by omega), List.take_add_one, List.getElem?_eq_getElem q]; rfl
        · rw [if_pos rfl, if_pos rfl, bnd_k]; rfl
      · rw [if_pos (nI_le (by omega) (by omega)), F_SF_firstNameTwice_B67, List.drop_eq_nil_of_le (by omega)]; rfl
  unfold F_SF_firstNameTwice
  have := key fu 0 (by omega) (by omega)
  rw [nI_0] at this; exact this
