/-! The reference's elements, its spaces -/
def paI : Option Nat → Int32
  | none => -1
  | some p => nI p
def ELr (M : gMem) (T U : List Int32) (e : Nat) (E : Ele) : Prop :=
  (∃ f, M 111 e = nI f ∧ f + (E.nm.z - E.nm.s) ≤ U.length ∧ stre U f (f + (E.nm.z - E.nm.s)) = nmT T E.nm) ∧ M 112 e = nI (E.nm.z - E.nm.s) ∧ M 113 e = czn E.nm ∧ M 114 e = nI E.nm.s ∧ M 115 e = nI E.atts.length ∧ E.atts.length ≤ 6 ∧ ATrs M T U e E.atts ∧ M 110 e = paI E.par ∧ E.nm.s < E.nm.z ∧ E.nm.z ≤ T.length ∧ E.nm.s ≤ E.nm.l ∧ E.nm.l < E.nm.z
def RE (M : gMem) (T U : List Int32) (els : List Ele) : Prop := PL M U ∧ els.length ≤ 24 ∧ ∀ (e : Nat) (E : Ele), els[e]? = some E → ELr M T U e E ∧ (∀ p, E.par = some p → p < e)
theorem RE.wf {M : gMem} {T U : List Int32} {els : List Ele} (h : RE M T U els) : WF els := fun e E hE => ⟨(h.2.2 e E hE).1.2.2.2.2.2.1, (h.2.2 e E hE).2⟩
theorem dpT_p {T : List Int32} {n : Nam} (h : n.s < n.l) : dpT T n = loT T n := by unfold dpT loT; rw [if_pos h]
theorem dpT_n {T : List Int32} {n : Nam} (h : ¬ n.s < n.l) : dpT T n = [] := by unfold dpT; rw [if_neg h]; exact stre_nil _ _
theorem loT_ne {T : List Int32} {n : Nam} (h : n.l < n.z) (hz : n.z ≤ T.length) : loT T n ≠ [] := by unfold loT; rw [stre_cons hz h]; simp
theorem nI_neg1 {k : Nat} (h : k < 2 ^ 31) : ¬ nI k < 0 := nI_pos h
section RSP
variable {M : gMem} {T U : List Int32} {els : List Ele} {r : gRef}
theorem g_declI (h : RE M T U els) {e : Nat} {E : Ele} (hE : els[e]? = some E) {p n : Nat} (hp : p + n ≤ U.length) (fu : Nat) (x1 : Int32) (hfu : 240 < fu) :
    ∀ d i, E.atts.length - i < d → i ≤ E.atts.length → F_Mo_declared_I15 fu x1 (nI p) (nI n) d (nI e) (nI (6 * e + i)) M r = (match fDe T (stre U p (p + n)) e i (E.atts.drop i) with
      | some a => .ok (.inl (nI a)) M r
      | none => .ok (.inr ()) M r) := by
  obtain ⟨⟨-, -, -, -, hc, c6, ats, -⟩, -⟩ := h.2.2 e E hE
  have he := (List.getElem?_eq_some_iff.mp hE).1
  have h24 := h.2.1
  have hU := h.1.1
  have hsl := stre_len (L := U) (s := p) hp
  intro d
  induction d with
  | zero => intro i h1; omega
  | succ d ih =>
    intro i h1 h2
    rw [F_Mo_declared_I15, gd_yes (vp_in_nI (by omega) (by decide)), nI_clamp (n := e) (by omega), hc, show (6 : Int32) = nI 6 from rfl, nI_mul, nI_add]
    by_cases q : i < E.atts.length
    · have nx := ih (i + 1) (by omega) (by omega)
      have at_ := ats i _ (List.getElem?_eq_getElem q)
      have ha : 6 * e + i < 144 := by omega
      obtain ⟨f, l1, l2, l3, l4⟩ := g_local (r := r) at_ ha fu hU
      have dc := g_declares (r := r) h.1 at_ ha fu
      obtain ⟨⟨f2, -, f3, -⟩, -, b2', -, -, -, c1, c2, c3, c4⟩ := at_
      rw [if_neg (nI_ge (by omega) (by omega)), gd_yes (vp_in_nI ha (by decide)), nI_clamp (n := 6 * e + i) (by omega), b2', nI_1, show 6 * e + i + 1 = 6 * e + (i + 1) by omega, List.drop_eq_getElem_cons q, fDe]
      -- both ways a declaration can be asked for
      have fin : ∀ b : Bool, (b = true ↔ dpT T E.atts[i].nm = stre U p (p + n)) → ∀ X : gO (Sum Int32 Unit), X = (if b then gO.bnd (F_Mo_declares fu (nI (6 * e + i)) M r) (fun v M r => if v = 0 then F_Mo_declared_I15 fu x1 (nI p) (nI n) d (nI e) (nI (6 * e + (i + 1))) M r else .ok (.inl (nI (6 * e + i))) M r) else gO.bnd (F_Mo_declares fu (nI (6 * e + i)) M r) (fun v M r => if v = 0 then F_Mo_declared_I15 fu x1 (nI p) (nI n) d (nI e) (nI (6 * e + (i + 1))) M r else F_Mo_declared_I15 fu x1 (nI p) (nI n) d (nI e) (nI (6 * e + (i + 1))) M r)) → X = (match (if isD T E.atts[i].nm && dpT T E.atts[i].nm == stre U p (p + n) then some (6 * e + i) else fDe T (stre U p (p + n)) e (i + 1) (E.atts.drop (i + 1))) with
          | some a => .ok (.inl (nI a)) M r
          | none => .ok (.inr ()) M r) := by
        intro b hb X hX
        rw [hX, dc, bnd_k, bnd_k, nx]
        cases hd : isD T E.atts[i].nm with
        | false =>
          rw [if_pos (show b2 false = 0 from rfl), if_pos (show b2 false = 0 from rfl), Bool.false_and, if_neg (show ¬ false = true by decide)]
          cases b <;> rfl
        | true =>
          rw [if_neg (show ¬ b2 true = 0 by decide), if_neg (show ¬ b2 true = 0 by decide), Bool.true_and]
          cases b with
          | true => rw [if_pos rfl, if_pos (beq_iff_eq.mpr (hb.mp rfl))]
          | false =>
            have hne : ¬ (dpT T E.atts[i].nm == stre U p (p + n)) = true := fun e2 => by have := hb.mpr (beq_iff_eq.mp e2); cases this
            rw [if_neg (show ¬ false = true by decide), if_neg hne]
      by_cases qp : E.atts[i].nm.s < E.atts[i].nm.l
      · rw [czn_p qp, if_pos (nI_pos' (by omega))]
        by_cases qn : n = 0
        · rw [if_pos (show nI n ≤ 0 by rw [qn]; decide)]
          have h9 : ¬ dpT T E.atts[i].nm = stre U p (p + n) := by
            intro e2
            rw [dpT_p qp] at e2
            exact absurd (by rw [e2, qn]; exact stre_nil _ _) (loT_ne c4 c2)
          exact fin false ⟨fun e2 => absurd e2 (by decide), fun e2 => absurd e2 h9⟩ _ rfl
        · rw [if_neg (nI_nle (by omega) (by omega)), l1, bnd_k, l2, bnd_k, g_compare h.1 fu r l3 hp hfu, bnd_k, l4]
          by_cases qc : cmpI (loT T E.atts[i].nm) (stre U p (p + n)) = 0
          · rw [if_pos qc]
            exact fin true ⟨fun _ => by rw [dpT_p qp]; exact cmpI_0.mp qc, fun _ => rfl⟩ _ rfl
          · rw [if_neg qc]
            have h9 : ¬ dpT T E.atts[i].nm = stre U p (p + n) := by
              intro e2; rw [dpT_p qp] at e2; exact absurd (cmpI_0.mpr e2) qc
            exact fin false ⟨fun e2 => absurd e2 (by decide), fun e2 => absurd e2 h9⟩ _ rfl
      · rw [czn_n qp, if_neg (by decide)]
        by_cases qn : n = 0
        · rw [if_pos (show nI n = 0 by rw [qn]; rfl)]
          have h9 : dpT T E.atts[i].nm = stre U p (p + n) := by rw [dpT_n qp, qn]; exact (stre_nil _ _).symm
          exact fin true ⟨fun _ => h9, fun _ => rfl⟩ _ rfl
        · rw [if_neg (nI_ne0 (by omega) (by omega))]
          have h9 : ¬ dpT T E.atts[i].nm = stre U p (p + n) := by
            intro e2
            rw [dpT_n qp] at e2
            have h8 := congrArg List.length e2
            rw [hsl] at h8; simp at h8; omega
          exact fin false ⟨fun e2 => absurd e2 (by decide), fun e2 => absurd e2 h9⟩ _ rfl
    · rw [if_pos (nI_le (by omega) (by omega)), List.drop_eq_nil_of_le (by omega)]; rfl
theorem g_declL (h : RE M T U els) {p n : Nat} (hp : p + n ≤ U.length) (fu : Nat) (x1 : Int32) (hfu : 240 < fu) :
    ∀ d d' o, (∀ e, o = some e → e < d ∧ e < d' ∧ e < els.length) → 0 < d → F_Mo_declared_L3 fu x1 (nI p) (nI n) (d + 1) (paI o) M r = .ok (paI (dFor T els (stre U p (p + n)) (d' + 1) o)) M r := by
  intro d
  induction d with
  | zero => intro d' o h1 h2; omega
  | succ d ih =>
    intro d' o h1 _
    rw [F_Mo_declared_L3]
    cases o with
    | none => rw [if_pos (show paI none < 0 by decide)]; rfl
    | some e =>
      obtain ⟨q1, q2, q3⟩ := h1 e rfl
      have hE : els[e]? = some els[e] := List.getElem?_eq_getElem q3
      have h24 := h.2.1
      have el := (h.2.2 e _ hE).1
      have c6 : els[e].atts.length ≤ 6 := el.2.2.2.2.2.1
      have gi := g_declI (r := r) h hE hp fu x1 hfu fu 0 (by omega) (by omega)
      rw [List.drop_zero, Nat.add_zero] at gi
      have e6 : (6 : Int32) * paI (some e) = nI (6 * e) := nI_mul 6 e
      rw [if_neg (show ¬ paI (some e) < 0 from nI_pos (by omega)), e6]
      show gO.bnd (F_Mo_declared_I15 fu x1 (nI p) (nI n) fu (nI e) (nI (6 * e)) M r) _ = _
      rw [gi, dFor, hE]
      dsimp only
      cases hf : fDe T (stre U p (p + n)) e 0 els[e].atts with
      | some a => dsimp only; rw [bnd_k]; rfl
      | none =>
        dsimp only
        rw [bnd_k]
        show gd (vp_in (nI e) 24) (F_Mo_declared_L3 fu x1 (nI p) (nI n) (d + 1) (M 110 (nI e).toNatClampNeg) M r) = _
        rw [gd_yes (vp_in_nI (by omega) (by decide)), nI_clamp (by omega), el.2.2.2.2.2.2.2.1]
        obtain ⟨d', rfl⟩ : ∃ d0, d' = d0 + 1 := ⟨d' - 1, by omega⟩
        cases hpar : els[e].par with
        | none => cases d <;> (rw [F_Mo_declared_L3, if_pos (show paI none < 0 by decide)]; rfl)
        | some q =>
          have := (h.2.2 e _ hE).2 q hpar
          exact ih d' (some q) (fun e' he => by injection he with he; subst he; exact ⟨by omega, by omega, by omega⟩) (by omega)
theorem g_declared (h : RE M T U els) {p n : Nat} (hp : p + n ≤ U.length) {fu : Nat} {o : Option Nat} (ho : ∀ e, o = some e → e < els.length) (hfu : 240 < fu) :
    F_Mo_declared fu (paI o) (nI p) (nI n) M r = .ok (paI (dFor T els (stre U p (p + n)) 25 o)) M r := by
  have := h.2.1
  unfold F_Mo_declared
  have := g_declL (r := r) h hp fu (paI o) hfu (fu - 1) 24 o (fun e he => by have := ho e he; omega) (by omega)
  rw [show fu - 1 + 1 = fu by omega] at this; exact this
theorem nI_div6 : ∀ a : Nat, a < 144 → nI a / 6 = nI (a / 6) := by decide +kernel
theorem preT_p {n : Nam} (h : n.s < n.l) : preT T n = stre T n.s (n.l - 1) := by unfold preT Nam.pz; rw [if_pos h]
theorem preT_n {n : Nam} (h : ¬ n.s < n.l) : preT T n = [] := by unfold preT Nam.pz; rw [if_neg h]; exact stre_nil _ _
theorem pool_pre {U T : List Int32} {f : Nat} {n : Nam} (h : n.s < n.l) (hl : n.l < n.z) (h3 : stre U f (f + (n.z - n.s)) = nmT T n) : stre U f (f + (n.l - 1 - n.s)) = preT T n := by
  rw [stre_take (by omega : f + (n.l - 1 - n.s) ≤ f + (n.z - n.s)), h3, preT_p h]
  unfold nmT
  rw [stre_take (by omega : n.l - 1 ≤ n.z)]
  congr 1; omega
theorem g_spaceOf (h : RE M T U els) {e i : Nat} {E : Ele} {x : Att} (hE : els[e]? = some E) (hx : E.atts[i]? = some x) {fu : Nat} (hfu : 240 < fu) : F_Mo_spaceOf fu (nI (6 * e + i)) M r = .ok (paI (spA T els e x.nm)) M r := by
  have he := (List.getElem?_eq_some_iff.mp hE).1
  have hi := (List.getElem?_eq_some_iff.mp hx).1
  have h24 := h.2.1
  obtain ⟨⟨-, -, -, -, hc, c6, ats, -⟩, -⟩ := h.2.2 e E hE
  have ha : 6 * e + i < 144 := by omega
  have hU := h.1.1
  obtain ⟨⟨f, a1, a2, a3⟩, b1, b2', b3, -, -, c1, c2, c3, c4⟩ := ats i x hx
  unfold F_Mo_spaceOf
  rw [gd_yes (vp_in_nI ha (by decide)), gd_yes (vp_in_nI ha (by decide)), gd_yes (vp_in_nI ha (by decide)), nI_clamp (by omega), b2', a1]
  unfold spA
  by_cases q : x.nm.s < x.nm.l
  · have hpre : x.nm.pre = true := by unfold Nam.pre; simpa using q
    rw [czn_p q, if_pos (nI_pos' (by omega)), nI_div6 _ ha, show (6 * e + i) / 6 = e by omega, if_pos hpre]
    have g := g_declared (r := r) h (p := f) (n := x.nm.l - 1 - x.nm.s) (by omega) (fu := fu) (o := some e) (fun k hk => by injection hk with hk; omega) hfu
    rw [pool_pre q c4 a3] at g
    have g' : F_Mo_declared fu (nI e) (nI f) (nI (x.nm.l - 1 - x.nm.s)) M r = _ := g
    rw [g', bnd_k]
  · have hpre : ¬ x.nm.pre = true := by unfold Nam.pre; simpa using q
    rw [czn_n q, if_neg (by decide), if_neg hpre]; rfl
theorem g_compareValues (hP : PL M U) {a b : Nat} {x y : Att} (hx : ATr M T U a x) (hy : ATr M T U b y) (ha : a < 144) (hb : b < 144) {fu : Nat} (hfu : 240 < fu) : F_Mo_compareValues fu (nI a) (nI b) M r = .ok (cmpI x.val y.val) M r := by
  obtain ⟨-, -, -, -, ⟨g1, a1, a2, a3⟩, a4, -⟩ := hx
  obtain ⟨-, -, -, -, ⟨g2, b1, b2', b3⟩, b4, -⟩ := hy
  unfold F_Mo_compareValues
  rw [gd_yes (vp_in_nI ha (by decide)), gd_yes (vp_in_nI ha (by decide)), gd_yes (vp_in_nI hb (by decide)), gd_yes (vp_in_nI hb (by decide)), nI_clamp (n := a) (by omega), nI_clamp (n := b) (by omega), a1, a4, b1, b4, g_compare hP fu r a2 b2' hfu, bnd_k, a3, b3]
end RSP
/-! what good declarations give -/
def GD (T : List Int32) (E : Ele) : Prop := ∀ x ∈ E.atts, isD T x.nm = true → x.nm.pre = true → x.val ≠ [] ∧ loT T x.nm ≠ [120, 109, 108] ∧ loT T x.nm ≠ [120, 109, 108, 110, 115]
def GDs (T : List Int32) (els : List Ele) : Prop := ∀ (k : Nat) (K : Ele), els[k]? = some K → GD T K
theorem ckD_good {T : List Int32} : ∀ {L : List Att}, ckD T L = none → ∀ x ∈ L, isD T x.nm = true → x.nm.pre = true → x.val ≠ [] ∧ loT T x.nm ≠ [120, 109, 108] ∧ loT T x.nm ≠ [120, 109, 108, 110, 115]
  | [], _, x, hx, _, _ => by cases hx
  | y :: L, h, x, hx, hd, hp => by
    rw [ckD] at h
    split at h
    · cases h
    · rename_i q
      rcases List.mem_cons.mp hx with hx | hx
      · subst hx
        rw [hd, hp, Bool.true_and, Bool.true_and] at q
        simp only [Bool.or_eq_true, beq_iff_eq, not_or] at q
        exact ⟨q.1.1, q.1.2, q.2⟩
      · exact ckD_good h x hx hd hp
theorem vOf_at {els : List Ele} {e j : Nat} {E : Ele} {x : Att} (h1 : els[e]? = some E) (h2 : E.atts[j]? = some x) (c6 : E.atts.length ≤ 6) : vOf els (some (6 * e + j)) = x.val := by
  have hj : j < E.atts.length := (List.getElem?_eq_some_iff.mp h2).1
  have e1 : (6 * e + j) / 6 = e := by omega
  have e2 : (6 * e + j) % 6 = j := by omega
  unfold vOf atA; simp [e1, e2, h1, h2]
theorem dFor_ne {T p : List Int32} {els : List Ele} (hg : GDs T els) (hw : WF els) (hp : p ≠ []) {d : Nat} {o : Option Nat} : vOf els (dFor T els p d o) = [] ↔ dFor T els p d o = none := by
  cases hd : dFor T els p d o with
  | none => exact ⟨fun _ => rfl, fun _ => rfl⟩
  | some a =>
    obtain ⟨e, E, j, x, h1, h2, h3, h4, h5⟩ := dFor_at hd
    subst h3
    rw [vOf_at h1 h2 (hw e E h1).1]
    have hpre : x.nm.pre = true := by
      by_cases q : x.nm.s < x.nm.l
      · unfold Nam.pre; simpa using q
      · rw [dpT_n q] at h5; exact absurd h5.symm hp
    have := hg e E h1 x (List.mem_of_getElem? h2) h4 hpre
    exact ⟨fun q => absurd q this.1, fun q => by cases q⟩
theorem dFor_xmlns {T : List Int32} {els : List Ele} (hg : GDs T els) {d : Nat} {o : Option Nat} : dFor T els [120, 109, 108, 110, 115] d o = none := by
  cases hd : dFor T els [120, 109, 108, 110, 115] d o with
  | none => rfl
  | some a =>
    obtain ⟨e, E, j, x, h1, h2, h3, h4, h5⟩ := dFor_at hd
    have q : x.nm.s < x.nm.l := by
      by_cases q : x.nm.s < x.nm.l
      · exact q
      · rw [dpT_n q] at h5; cases h5
    have hpre : x.nm.pre = true := by unfold Nam.pre; simpa using q
    have := hg e E h1 x (List.mem_of_getElem? h2) h4 hpre
    rw [dpT_p q] at h5
    exact absurd h5 this.2.2
