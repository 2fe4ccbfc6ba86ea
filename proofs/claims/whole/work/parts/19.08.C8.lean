/-! The elements of the class; a tag read -/
def EL (M : gMem) (r : gRef) (T V : List Int32) (e : Nat) (E : Ele) : Prop :=
  (NM M T (145 + e) E.nm) ∧
  (M 29 e = nI E.atts.length) ∧
  (E.atts.length ≤ 6) ∧
  (M 30 e = nI (cntD T E.atts)) ∧
  (ATs M T V e E.atts) ∧
  (r 1 e = E.par) ∧
  (M 27 e = nI E.dp) ∧
  (E.dp ≤ 12)
theorem EL.nm {M : gMem} {r : gRef} {T V : List Int32} {e : Nat} {E : Ele} (h : EL M r T V e E) : NM M T (145 + e) E.nm := h.1
theorem EL.cn {M : gMem} {r : gRef} {T V : List Int32} {e : Nat} {E : Ele} (h : EL M r T V e E) : M 29 e = nI E.atts.length := h.2.1
theorem EL.c6 {M : gMem} {r : gRef} {T V : List Int32} {e : Nat} {E : Ele} (h : EL M r T V e E) : E.atts.length ≤ 6 := h.2.2.1
theorem EL.dn {M : gMem} {r : gRef} {T V : List Int32} {e : Nat} {E : Ele} (h : EL M r T V e E) : M 30 e = nI (cntD T E.atts) := h.2.2.2.1
theorem EL.ats {M : gMem} {r : gRef} {T V : List Int32} {e : Nat} {E : Ele} (h : EL M r T V e E) : ATs M T V e E.atts := h.2.2.2.2.1
theorem EL.par {M : gMem} {r : gRef} {T V : List Int32} {e : Nat} {E : Ele} (h : EL M r T V e E) : r 1 e = E.par := h.2.2.2.2.2.1
theorem EL.dp {M : gMem} {r : gRef} {T V : List Int32} {e : Nat} {E : Ele} (h : EL M r T V e E) : M 27 e = nI E.dp := h.2.2.2.2.2.2.1
theorem EL.d12 {M : gMem} {r : gRef} {T V : List Int32} {e : Nat} {E : Ele} (h : EL M r T V e E) : E.dp ≤ 12 := h.2.2.2.2.2.2.2
def CE (M : gMem) (r : gRef) (T V : List Int32) (els : List Ele) : Prop :=
  (M 2 0 = nI els.length) ∧
  (els.length ≤ 24) ∧
  (∀ (e : Nat) (E : Ele), els[e]? = some E → EL M r T V e E) ∧
  (∀ (e : Nat) (E : Ele), els[e]? = some E → ∀ p, E.par = some p → p < e)
theorem CE.len {M : gMem} {r : gRef} {T V : List Int32} {els : List Ele} (h : CE M r T V els) : M 2 0 = nI els.length := h.1
theorem CE.le {M : gMem} {r : gRef} {T V : List Int32} {els : List Ele} (h : CE M r T V els) : els.length ≤ 24 := h.2.1
theorem CE.el {M : gMem} {r : gRef} {T V : List Int32} {els : List Ele} (h : CE M r T V els) : ∀ (e : Nat) (E : Ele), els[e]? = some E → EL M r T V e E := h.2.2.1
theorem CE.pl {M : gMem} {r : gRef} {T V : List Int32} {els : List Ele} (h : CE M r T V els) : ∀ (e : Nat) (E : Ele), els[e]? = some E → ∀ p, E.par = some p → p < e := h.2.2.2
def chN (els : List Ele) (e : Nat) : Nat := (els.filter (fun (E : Ele) => E.par == some e)).length
def Kg (k : Nat) (M M' : gMem) : Prop := ∀ t i, ¬ (20 ≤ t ∧ t ≤ 25 ∧ 6 * k ≤ i ∧ i < 6 * k + 6) → ¬ (20 ≤ t ∧ t ≤ 22 ∧ i = 145 + k) → ¬ (26 ≤ t ∧ t ≤ 31 ∧ i = k) → t ≠ 28 → ¬ (t = 35 ∧ i = 0) → t ≠ 13 → ¬ (t = 0 ∧ i = 3) → ¬ (t = 2 ∧ i = 0) → M' t i = M t i
theorem Kg.tr {k : Nat} {M M1 M2 : gMem} (h : Kg k M M1) (h2 : Kg k M1 M2) : Kg k M M2 := fun t j a b c d e f g q => (h2 t j a b c d e f g q).trans (h t j a b c d e f g q)
theorem Kg.fr {k : Nat} {M M' : gMem} (h : Kg k M M') (hk : k < 24) : Fr M M' := fun t i q => h t i (by omega) (by omega) (by omega) (by omega) (by omega) (by omega) (by omega) (by omega)
theorem Kg.tx {k : Nat} {M M' : gMem} {T : List Int32} (h : Kg k M M') (hT : TX M T) : TX M' T := hT.of (h 0 2 (by omega) (by omega) (by omega) (by omega) (by omega) (by omega) (by omega) (by omega)) (fun i => h 12 i (by omega) (by omega) (by omega) (by omega) (by omega) (by omega) (by omega) (by omega))
theorem Kt.kg {k : Nat} {M M' : gMem} (h : Kt k M M') : Kg k M M' := fun t i a b c d e f g q => h t i a (by omega) e f g
def Rg (k : Nat) (r r' : gRef) : Prop := ∀ t i, ¬ (t = 0 ∧ (6 * k ≤ i ∧ i < 6 * k + 6 ∨ i = 145 + k)) → ¬ (t = 1 ∧ i = k) → r' t i = r t i
theorem Rg.tr {k : Nat} {r r1 r2 : gRef} (h : Rg k r r1) (h2 : Rg k r1 r2) : Rg k r r2 := fun t i a b => (h2 t i a b).trans (h t i a b)
theorem Rt.rg {k : Nat} {r r' : gRef} (h : Rt k r r') : Rg k r r' := fun t i a b => h t i (by omega)
/-- an element added -/
def AdP (M M' : gMem) (r r' : gRef) (k : Nat) (o : Option Nat) (dp : Nat) : Prop :=
  (M' 2 0 = nI (k + 1)) ∧
  (M' 27 k = nI dp) ∧
  (∀ e, M' 28 e = if e = k then (0 : Int32) else if o = some e then M 28 e + 1 else M 28 e) ∧
  (M' 29 k = 0) ∧
  (M' 30 k = 0) ∧
  (M' 31 k = 0) ∧
  (∀ t i, ¬ (27 ≤ t ∧ t ≤ 31 ∧ i = k) → t ≠ 28 → ¬ (t = 2 ∧ i = 0) → M' t i = M t i) ∧
  (r' = rS r 1 k o)
theorem AdP.sz {M M' : gMem} {r r' : gRef} {k : Nat} {o : Option Nat} {dp : Nat} (h : AdP M M' r r' k o dp) : M' 2 0 = nI (k + 1) := h.1
theorem AdP.dp {M M' : gMem} {r r' : gRef} {k : Nat} {o : Option Nat} {dp : Nat} (h : AdP M M' r r' k o dp) : M' 27 k = nI dp := h.2.1
theorem AdP.ic {M M' : gMem} {r r' : gRef} {k : Nat} {o : Option Nat} {dp : Nat} (h : AdP M M' r r' k o dp) : ∀ e, M' 28 e = if e = k then (0 : Int32) else if o = some e then M 28 e + 1 else M 28 e := h.2.2.1
theorem AdP.cn {M M' : gMem} {r r' : gRef} {k : Nat} {o : Option Nat} {dp : Nat} (h : AdP M M' r r' k o dp) : M' 29 k = 0 := h.2.2.2.1
theorem AdP.dn {M M' : gMem} {r r' : gRef} {k : Nat} {o : Option Nat} {dp : Nat} (h : AdP M M' r r' k o dp) : M' 30 k = 0 := h.2.2.2.2.1
theorem AdP.ow {M M' : gMem} {r r' : gRef} {k : Nat} {o : Option Nat} {dp : Nat} (h : AdP M M' r r' k o dp) : M' 31 k = 0 := h.2.2.2.2.2.1
theorem AdP.kp {M M' : gMem} {r r' : gRef} {k : Nat} {o : Option Nat} {dp : Nat} (h : AdP M M' r r' k o dp) : ∀ t i, ¬ (27 ≤ t ∧ t ≤ 31 ∧ i = k) → t ≠ 28 → ¬ (t = 2 ∧ i = 0) → M' t i = M t i := h.2.2.2.2.2.2.1
theorem AdP.rr {M M' : gMem} {r r' : gRef} {k : Nat} {o : Option Nat} {dp : Nat} (h : AdP M M' r r' k o dp) : r' = rS r 1 k o := h.2.2.2.2.2.2.2
theorem f_addN {M : gMem} (fu : Nat) (r : gRef) {k : Nat} (hk : M 2 0 = nI k) (h24 : k ≤ 24) :
    (24 ≤ k → F_Tr_add_n fu M r = .ok none M r) ∧ (¬ 24 ≤ k → ∃ M' r', F_Tr_add_n fu M r = .ok (some k) M' r' ∧ AdP M M' r r' k none 1) := by
  unfold F_Tr_add_n
  rw [hk]
  constructor
  · intro q; rw [if_pos (show (24 : Int32) ≤ nI k from nI_le (a := 24) q (by omega))]
  · intro q
    rw [if_neg (show ¬ (24 : Int32) ≤ nI k from nI_ge (b := 24) (by omega) (by decide)), gd_yes (vp_in_nI (by omega) (by decide)), nI_clamp (by omega), F_El_begin_n, bnd_k, nI_1]
    refine ⟨_, _, rfl, ?_⟩
    refine ⟨?_, ?_, ?_, ?_, ?_, ?_, ?_, ?_⟩
    · simp [mS]
    · simp [mS]; rfl
    · intro e; by_cases qe : e = k <;> simp [mS, qe]
    · simp [mS]
    · simp [mS]
    · simp [mS]
    · intro t i a b c; simp only [mS]; rw [if_neg (by omega), if_neg (by omega), if_neg (by omega), if_neg (by omega), if_neg (by omega), if_neg (by omega)]
    · rfl
theorem f_addS {M : gMem} (fu : Nat) (r : gRef) {k o dp : Nat} (hk : M 2 0 = nI k) (h24 : k ≤ 24) (hok : o < k) (hd : M 27 o = nI dp) (hd12 : dp ≤ 12) :
    (24 ≤ k ∨ 12 ≤ dp → F_Tr_add fu o M r = .ok none M r) ∧ (¬ (24 ≤ k ∨ 12 ≤ dp) → ∃ M' r', F_Tr_add fu o M r = .ok (some k) M' r' ∧ AdP M M' r r' k (some o) (dp + 1)) := by
  unfold F_Tr_add
  rw [hk, hd]
  constructor
  · intro q
    by_cases q1 : 24 ≤ k
    · rw [if_pos (show (24 : Int32) ≤ nI k from nI_le (a := 24) q1 (by omega))]
    · rw [if_neg (show ¬ (24 : Int32) ≤ nI k from nI_ge (b := 24) (by omega) (by decide)), if_neg (show ¬ nI dp < (12 : Int32) from nI_nlt (b := 12) (by omega) (by omega))]
  · intro q
    rw [if_neg (show ¬ (24 : Int32) ≤ nI k from nI_ge (b := 24) (by omega) (by decide)), if_pos (show nI dp < (12 : Int32) from nI_lt (b := 12) (by omega) (by decide)), gd_yes (vp_in_nI (by omega) (by decide)), nI_clamp (by omega), F_El_begin, bnd_k, nI_1]
    refine ⟨_, _, rfl, ?_⟩
    have hne : o ≠ k := by omega
    have hne' : k ≠ o := by omega
    refine ⟨?_, ?_, ?_, ?_, ?_, ?_, ?_, ?_⟩
    · simp [mS]
    · simp [mS, hd, nI_1]
    · intro e
      by_cases qe : e = k
      · subst qe; simp [mS, hne']
      · by_cases qo : e = o
        · subst qo; simp [mS, qe]
        · simp [mS, qe, qo]; intro h; exact absurd h.symm qo
    · simp [mS]
    · simp [mS]
    · simp [mS]
    · intro t i a b c; simp only [mS]; rw [if_neg (by omega), if_neg (by omega), if_neg (by omega), if_neg (by omega), if_neg (by omega), if_neg (by omega), if_neg (by omega)]
    · rfl
def sTag1 (T : List Int32) (P : Ps) : Except Wr (Ele × Bool × Nat) :=
  if pb (ch T (P.at_ + 1)) then
    if 24 ≤ P.els.length ∨ 12 ≤ dpO P.els P.opn then .error (4, P.at_)
    else match sName T (P.at_ + 1) with
    | .error e => .error e
    | .ok (l, z) => match sRest T P.at_ (T.length + 1) [] z with
      | .error e => .error e
      | .ok (atts, em, e) => .ok (⟨⟨P.at_ + 1, l, z⟩, atts, P.opn, dpO P.els P.opn + 1⟩, em, e)
  else .error (1, P.at_ + 1)
theorem sTag_eq (T : List Int32) (P : Ps) : sTag T P = match sTag1 T P with
    | .error e => .error e
    | .ok (E, em, e) => match chk T (P.els ++ [E]) P.els.length E with
      | some w => .error w
      | none => .ok ⟨e, P.els ++ [E], P.evs ++ (if em then [.b P.els.length, .z P.els.length P.opn] else [.b P.els.length]), if em then P.opn else some P.els.length⟩ := by
  unfold sTag sTag1
  split
  · split
    · rfl
    · cases sName T (P.at_ + 1) with
      | error e => rfl
      | ok lz =>
        obtain ⟨l, z⟩ := lz
        dsimp only
        cases sRest T P.at_ (T.length + 1) [] z with
        | error e => rfl
        | ok q => rfl
  · rfl
def TaP (M M' : gMem) (r r' : gRef) (T V' : List Int32) (els : List Ele) (E : Ele) (em : Bool) (a z : Nat) : Prop :=
  (CE M' r' T V' (els ++ [E])) ∧
  (TX M' T) ∧
  (M' 35 0 = nI z) ∧
  (z ≤ T.length) ∧
  (a < z) ∧
  (RW M' 3 V') ∧
  (V'.length ≤ z) ∧
  (M' 26 els.length = b2 em) ∧
  (∀ e, e < els.length + 1 → M' 28 e = nI (chN (els ++ [E]) e)) ∧
  (M' 31 els.length = 0) ∧
  (Kg els.length M M') ∧
  (Rg els.length r r') ∧
  (ch T (z - 1) = 62)
theorem TaP.ce {M M' : gMem} {r r' : gRef} {T V' : List Int32} {els : List Ele} {E : Ele} {em : Bool} {a z : Nat} (h : TaP M M' r r' T V' els E em a z) : CE M' r' T V' (els ++ [E]) := h.1
theorem TaP.tx {M M' : gMem} {r r' : gRef} {T V' : List Int32} {els : List Ele} {E : Ele} {em : Bool} {a z : Nat} (h : TaP M M' r r' T V' els E em a z) : TX M' T := h.2.1
theorem TaP.fa {M M' : gMem} {r r' : gRef} {T V' : List Int32} {els : List Ele} {E : Ele} {em : Bool} {a z : Nat} (h : TaP M M' r r' T V' els E em a z) : M' 35 0 = nI z := h.2.2.1
theorem TaP.zT {M M' : gMem} {r r' : gRef} {T V' : List Int32} {els : List Ele} {E : Ele} {em : Bool} {a z : Nat} (h : TaP M M' r r' T V' els E em a z) : z ≤ T.length := h.2.2.2.1
theorem TaP.az {M M' : gMem} {r r' : gRef} {T V' : List Int32} {els : List Ele} {E : Ele} {em : Bool} {a z : Nat} (h : TaP M M' r r' T V' els E em a z) : a < z := h.2.2.2.2.1
theorem TaP.vv {M M' : gMem} {r r' : gRef} {T V' : List Int32} {els : List Ele} {E : Ele} {em : Bool} {a z : Nat} (h : TaP M M' r r' T V' els E em a z) : RW M' 3 V' := h.2.2.2.2.2.1
theorem TaP.vz {M M' : gMem} {r r' : gRef} {T V' : List Int32} {els : List Ele} {E : Ele} {em : Bool} {a z : Nat} (h : TaP M M' r r' T V' els E em a z) : V'.length ≤ z := h.2.2.2.2.2.2.1
theorem TaP.em {M M' : gMem} {r r' : gRef} {T V' : List Int32} {els : List Ele} {E : Ele} {em : Bool} {a z : Nat} (h : TaP M M' r r' T V' els E em a z) : M' 26 els.length = b2 em := h.2.2.2.2.2.2.2.1
theorem TaP.ic {M M' : gMem} {r r' : gRef} {T V' : List Int32} {els : List Ele} {E : Ele} {em : Bool} {a z : Nat} (h : TaP M M' r r' T V' els E em a z) : ∀ e, e < els.length + 1 → M' 28 e = nI (chN (els ++ [E]) e) := h.2.2.2.2.2.2.2.2.1
theorem TaP.ow {M M' : gMem} {r r' : gRef} {T V' : List Int32} {els : List Ele} {E : Ele} {em : Bool} {a z : Nat} (h : TaP M M' r r' T V' els E em a z) : M' 31 els.length = 0 := h.2.2.2.2.2.2.2.2.2.1
theorem TaP.kg {M M' : gMem} {r r' : gRef} {T V' : List Int32} {els : List Ele} {E : Ele} {em : Bool} {a z : Nat} (h : TaP M M' r r' T V' els E em a z) : Kg els.length M M' := h.2.2.2.2.2.2.2.2.2.2.1
theorem TaP.rg {M M' : gMem} {r r' : gRef} {T V' : List Int32} {els : List Ele} {E : Ele} {em : Bool} {a z : Nat} (h : TaP M M' r r' T V' els E em a z) : Rg els.length r r' := h.2.2.2.2.2.2.2.2.2.2.2.1
theorem TaP.c62 {M M' : gMem} {r r' : gRef} {T V' : List Int32} {els : List Ele} {E : Ele} {em : Bool} {a z : Nat} (h : TaP M M' r r' T V' els E em a z) : ch T (z - 1) = 62 := h.2.2.2.2.2.2.2.2.2.2.2.2
theorem chN_app (els : List Ele) (E : Ele) (e : Nat) : chN (els ++ [E]) e = chN els e + if E.par = some e then 1 else 0 := by
  unfold chN; rw [List.filter_append, List.length_append]
  by_cases h : E.par = some e
  · simp [List.filter, h]
  · have h2 : (E.par == some e) = false := by simpa using h
    simp [List.filter, h, h2]
theorem chN_new {els : List Ele} (h : ∀ (e : Nat) (E : Ele), els[e]? = some E → ∀ p, E.par = some p → p < e) : chN els els.length = 0 := by
  unfold chN; rw [List.length_eq_zero_iff, List.filter_eq_nil_iff]
  intro E hE q
  obtain ⟨i, hi⟩ := List.mem_iff_getElem?.mp hE
  have h1 := h i E hi els.length (by simpa using q)
  have := (List.getElem?_eq_some_iff.mp hi).1
  omega
theorem EL.of {M M' : gMem} {r r' : gRef} {T V : List Int32} {k e : Nat} {E : Ele} (h : EL M r T V e E) (hek : e < k) (hk : k < 24) (W : List Int32) (hM : Kg k M M') (hr : Rg k r r') : EL M' r' T (V ++ W) e E := by
  have h6 := h.c6
  refine ⟨h.nm.of (fun t ht => hM t _ (by omega) (by omega) (by omega) (by omega) (by omega) (by omega) (by omega) (by omega)), ?_, h.c6, ?_, ?_, ?_, ?_, h.d12⟩
  · rw [hM 29 e (by omega) (by omega) (by omega) (by omega) (by omega) (by omega) (by omega) (by omega)]; exact h.cn
  · rw [hM 30 e (by omega) (by omega) (by omega) (by omega) (by omega) (by omega) (by omega) (by omega)]; exact h.dn
  · exact h.ats.of W (fun t i a b c => hM t _ (by omega) (by omega) (by omega) (by omega) (by omega) (by omega) (by omega) (by omega))
  · rw [hr 1 e (by omega) (by omega)]; exact h.par
  · rw [hM 27 e (by omega) (by omega) (by omega) (by omega) (by omega) (by omega) (by omega) (by omega)]; exact h.dp
theorem f_readTag {M : gMem} {r : gRef} {T V : List Int32} {P : Ps} (hT : TX M T) (ha : M 35 0 = nI P.at_) (haT : P.at_ ≤ T.length) (hV : RW M 3 V) (hVa : V.length ≤ P.at_) (hE : CE M r T V P.els) (ho : r 3 0 = P.opn) (hoe : ∀ o, P.opn = some o → o < P.els.length) (hic : ∀ e, e < P.els.length → M 28 e = nI (chN P.els e)) (fu : Nat) (hfu : 240 < fu) (h60 : ch T P.at_ = 60) :
    match sTag1 T P with
    | .error w => Ex (F_Rd_readTag fu M r) M w
    | .ok (E, em, z) => ∃ M' r' V', F_Rd_readTag fu M r = .ok (some P.els.length) M' r' ∧ TaP M M' r r' T V' P.els E em P.at_ z := by
  have hle := hT.le
  have q60 := lt_of_ch h60 (by decide)
  unfold F_Rd_readTag sTag1
  rw [f_pass1 hT fu r ha haT h60, bnd_k]
  have t1 : TX (mS M 35 0 (nI (P.at_ + 1))) T := hT.mv (by omega) (by decide)
  rw [f_next t1 fu r (mS_same _ _ _ _) (by omega), bnd_k, f_beginsPart, bnd_k]
  generalize hM1 : mS M 35 0 (nI (P.at_ + 1)) = M1 at *
  have m1 : ∀ t i, ¬ (t = 35 ∧ i = 0) → M1 t i = M t i := by intro t i u; subst hM1; rw [mS, if_neg u]
  have a1 : M1 35 0 = nI (P.at_ + 1) := by subst hM1; exact mS_same _ _ _ _
  have f1 : Fr M M1 := fun t i q => m1 t i (by omega)
  by_cases q1 : pb (ch T (P.at_ + 1)) = true
  · rw [if_neg (show ¬ b2 (pb (ch T (P.at_ + 1))) = 0 by rw [b2_0, q1]; decide), if_pos q1, ho]
    have k1 : M1 2 0 = nI P.els.length := by rw [m1 2 0 (by omega)]; exact hE.len
    -- behind the adding
    have core : ∀ M2 r2, ¬ (24 ≤ P.els.length) → AdP M1 M2 r r2 P.els.length P.opn (dpO P.els P.opn + 1) → dpO P.els P.opn < 12 → ∀ X, X = gO.bnd (F_Rd_readName fu (145 + P.els.length) M2 r2) (fun _ M3 r3 => F_Rd_readTag_L65 fu fu (M 35 0) P.els.length 0 M3 r3) → match ((match sName T (P.at_ + 1) with
        | .error e => .error e
        | .ok (l, z) => match sRest T P.at_ (T.length + 1) [] z with
          | .error e => .error e
          | .ok (atts, em, e) => .ok (⟨⟨P.at_ + 1, l, z⟩, atts, P.opn, dpO P.els P.opn + 1⟩, em, e)) : Except Wr (Ele × Bool × Nat)) with
        | .error w => Ex X M w
        | .ok (E, em, z) => ∃ M' r' V', X = .ok (some P.els.length) M' r' ∧ TaP M M' r r' T V' P.els E em P.at_ z := by
      intro M2 r2 h24 ad hdp X hX
      have hk : P.els.length < 24 := by omega
      have g2 : Kg P.els.length M M2 := fun t i a b c d e f g q => by rw [ad.kp t i (by omega) d q, m1 t i e]
      have t2 := g2.tx hT
      have a2 : M2 35 0 = nI (P.at_ + 1) := by rw [ad.kp 35 0 (by omega) (by omega) (by omega)]; exact a1
      have n := f_readName t2 fu r2 a2 (by omega) (145 + P.els.length) hfu
      cases hs : sName T (P.at_ + 1) with
      | error w => rw [hs] at n; rw [hX]; exact Ex.bnd _ (Ex.tr (g2.fr hk) n)
      | ok lz =>
        obtain ⟨l, z⟩ := lz
        rw [hs] at n
        obtain ⟨M3, e3, n3⟩ := n
        have nl := sName_le hs
        have g3 : Kg P.els.length M2 M3 := fun t i a b c d e f g q => n3.kp t i (by omega) e
        have t3 := g3.tx t2
        have v3 : RW M3 3 V := hV.of (by rw [n3.kp 0 3 (by omega) (by omega), ad.kp 0 3 (by omega) (by omega) (by omega), m1 0 3 (by omega)]) (fun j => by rw [n3.kp 13 j (by omega) (by omega), ad.kp 13 j (by omega) (by omega) (by omega), m1 13 j (by omega)])
        have c3 : M3 29 P.els.length = nI ([] : List Att).length := by rw [n3.kp 29 _ (by omega) (by omega), ad.cn]; rfl
        have d3 : M3 30 P.els.length = nI (cntD T []) := by rw [n3.kp 30 _ (by omega) (by omega), ad.dn]; rfl
        have w3 := f_tagLoop (first := P.at_) hk hfu fu 0 z (T.length + 1) [] V M3 (rS r2 0 (145 + P.els.length) (some 144)) t3 n3.fa v3 (by omega) (by omega) nl.2.1 c3 (by simp) d3 (fun i x h => by simp at h) (by omega) (by omega)
        rw [e3, bnd_k, ha, ← nI_0] at hX
        dsimp only
        cases hr : sRest T P.at_ (T.length + 1) [] z with
        | error w => rw [hr] at w3; rw [hX]; exact Ex.tr ((g2.tr g3).fr hk) w3
        | ok q =>
          obtain ⟨atts, em, e⟩ := q
          rw [hr] at w3
          obtain ⟨M4, r4, V4, e4, p, pz⟩ := w3
          have g4 : Kg P.els.length M M4 := (g2.tr g3).tr p.kt.kg
          have rg : Rg P.els.length r r4 := by
            intro t i u1 u2
            rw [p.rt t i (by omega), rS, if_neg (by omega), ad.rr, rS, if_neg u2]
          obtain ⟨W, hW⟩ := p.ex
          refine ⟨M4, r4, V4, hX.trans e4, ?_, g4.tx hT, p.fa, p.zT, by omega, p.vv, p.vz, p.em, ?_, ?_, g4, rg, p.c62⟩
          · refine ⟨?_, by rw [List.length_append]; exact hk, ?_, ?_⟩
            · rw [p.kt 2 0 (by omega) (by omega) (by omega) (by omega) (by omega), n3.kp 2 0 (by omega) (by omega), ad.sz, List.length_append]; rfl
            · intro j E hj
              rcases Nat.lt_or_ge j P.els.length with qj | qj
              · rw [List.getElem?_append_left qj] at hj
                rw [hW]; exact (hE.el j E hj).of qj hk W g4 rg
              · rw [List.getElem?_append_right qj] at hj
                have hz : j - P.els.length = 0 := by
                  rcases Nat.eq_zero_or_pos (j - P.els.length) with h | h
                  · exact h
                  · rw [List.getElem?_eq_none (by simp only [List.length_cons, List.length_nil]; omega)] at hj; cases hj
                rw [hz] at hj; injection hj with hj; subst hj
                rw [show j = P.els.length by omega]
                refine ⟨?_, p.cn, p.c6, p.dn, p.ats, ?_, ?_, by show dpO P.els P.opn + 1 ≤ 12; omega⟩
                · refine NM.of (M := M3) ⟨n3.fs, n3.fl, n3.fz, nl.2.2.1, nl.2.2.2, nl.2.1⟩ (fun t ht => p.kt t _ (by omega) (by omega) (by omega) (by omega) (by omega))
                · rw [p.rt 1 _ (by omega), rS, if_neg (by omega), ad.rr, rS_same]; rfl
                · rw [p.kt 27 _ (by omega) (by omega) (by omega) (by omega) (by omega), n3.kp 27 _ (by omega) (by omega), ad.dp]; rfl
            · intro j E hj pp hpp
              rcases Nat.lt_or_ge j P.els.length with qj | qj
              · rw [List.getElem?_append_left qj] at hj; exact hE.pl j E hj pp hpp
              · rw [List.getElem?_append_right qj] at hj
                have hz : j - P.els.length = 0 := by
                  rcases Nat.eq_zero_or_pos (j - P.els.length) with h | h
                  · exact h
                  · rw [List.getElem?_eq_none (by simp only [List.length_cons, List.length_nil]; omega)] at hj; cases hj
                rw [hz] at hj; injection hj with hj; subst hj
                have := hoe pp hpp; omega
          · intro j hj
            rw [p.kt 28 j (by omega) (by omega) (by omega) (by omega) (by omega), n3.kp 28 j (by omega) (by omega), ad.ic, chN_app]
            by_cases qj : j = P.els.length
            · rw [if_pos qj, qj, chN_new hE.pl, if_neg (by intro h; have := hoe _ h; omega)]; rfl
            · rw [if_neg qj, m1 28 j (by omega), hic j (by omega)]
              by_cases qo : P.opn = some j
              · rw [if_pos qo, if_pos (show Ele.par ((P.at_ + 1, l, z), atts, P.opn, dpO P.els P.opn + 1) = some j from qo), nI_1]
              · rw [if_neg qo, if_neg (show ¬ Ele.par ((P.at_ + 1, l, z), atts, P.opn, dpO P.els P.opn + 1) = some j from qo)]; rfl
          · rw [p.kt 31 _ (by omega) (by omega) (by omega) (by omega) (by omega), n3.kp 31 _ (by omega) (by omega), ad.ow]
    cases hop : P.opn with
    | none =>
      rw [hop] at core
      rw [gcs_none rfl]
      obtain ⟨A1, A2⟩ := f_addN (M := M1) fu r k1 hE.le
      have hd0 : dpO P.els none = 0 := rfl
      by_cases q2 : 24 ≤ P.els.length
      · rw [if_pos (Or.inl q2), A1 q2, bnd_k, gcs_none rfl]
        exact Ex.bnd _ (Ex.tr f1 (f_fail fu r rfl ha))
      · rw [if_neg (by rw [hd0]; omega)]
        obtain ⟨M2, r2, e2, ad⟩ := A2 q2
        rw [e2, bnd_k, gcs_some rfl, gd_yes (by omega)]
        exact core M2 r2 q2 ad (by rw [hd0]; omega) _ rfl
    | some o =>
      rw [hop] at core
      have hol := hoe o hop
      obtain ⟨Eo, hEo⟩ : ∃ Eo, P.els[o]? = some Eo := ⟨_, List.getElem?_eq_getElem hol⟩
      have eo := hE.el o Eo hEo
      have hd0 : dpO P.els (some o) = Eo.dp := by unfold dpO; simp [hEo]
      have hle24 := hE.le
      rw [gcs_some rfl, gd_yes (by omega : o < 24)]
      obtain ⟨A1, A2⟩ := f_addS (M := M1) fu r k1 hE.le hol (by rw [m1 27 o (by omega)]; exact eo.dp) eo.d12
      by_cases q2 : 24 ≤ P.els.length ∨ 12 ≤ Eo.dp
      · rw [if_pos (by rw [hd0]; exact q2), A1 q2, bnd_k, gcs_none rfl]
        exact Ex.bnd _ (Ex.tr f1 (f_fail fu r rfl ha))
      · rw [if_neg (by rw [hd0]; exact q2)]
        obtain ⟨M2, r2, e2, ad⟩ := A2 q2
        rw [e2, bnd_k, gcs_some rfl, gd_yes (by omega)]
        exact core M2 r2 (by omega) (by rw [hd0]; exact ad) (by rw [hd0]; omega) _ rfl
  · rw [if_pos (show b2 (pb (ch T (P.at_ + 1))) = 0 by rw [b2_0]; simpa using q1), if_neg q1]
    exact Ex.bnd _ (Ex.tr f1 (f_fail fu r rfl a1))
