/-! The reference's state between two steps -/
def evI (v : Ev) : Int32 := match (v : Sum Nat (Sum (Nat × Option Nat) Int32)) with
  | .inl e => nI (1000 + e)
  | .inr (.inl (e, _)) => nI (2000 + e)
  | .inr (.inr x) => x
def evG (els : List Ele) (v : Ev) : Prop := match (v : Sum Nat (Sum (Nat × Option Nat) Int32)) with
  | .inl e => e < els.length
  | .inr (.inl (e, p)) => ∃ E, els[e]? = some E ∧ E.par = p
  | .inr (.inr x) => isCh x = true
def GC (T : List Int32) (n : Nam) : Prop := n.s < n.l → ch T (n.l - 1) = 58
/-- what holds of the spec's state itself -/
def PI (T : List Int32) (P : Ps) : Prop := GDs T P.els ∧ (∀ (e : Nat) (E : Ele), P.els[e]? = some E → GN E.nm ∧ (∀ x ∈ E.atts, GN x.nm) ∧ E.dp = dpO P.els E.par + 1 ∧ E.dp ≤ 12 ∧ chk T P.els e E = none ∧ (∀ x ∈ E.atts, GC T x.nm) ∧ (∀ x ∈ E.atts, GA T x)) ∧ (∀ v ∈ P.evs, evG P.els v)
theorem sName_pre {T : List Int32} {a l z : Nat} (hs : sName T a = .ok (l, z)) : GN ((a, l, z) : Nam) := by
  intro hl
  show a + 2 ≤ l
  have hl' : a < l := hl
  unfold sName at hs
  split at hs
  · rename_i q
    have h1 := lt_of_ch (T := T) (a := a) rfl (pb_ne q)
    have h2 := scan_lt h1 (pb_go q)
    split at hs
    · split at hs
      · injection hs with hs; injection hs with e1 e2; omega
      · cases hs
    · injection hs with hs; injection hs with e1 e2; omega
  · cases hs
theorem sAtt_n {T : List Int32} {a e : Nat} {x : Att} (h : sAtt T a = .ok (x, e)) : GN x.nm := by
  unfold sAtt at h
  cases hs : sName T a with
  | error w => rw [hs] at h; cases h
  | ok lz =>
    obtain ⟨l, z⟩ := lz
    rw [hs] at h
    dsimp only at h
    split at h
    · split at h
      · cases hv : sVal T (ch T (scan bl T (scan bl T z + 1))) (T.length + 1) (scan bl T (scan bl T z + 1) + 1) [] with
        | error w => rw [hv] at h; cases h
        | ok ev =>
          rw [hv] at h; injection h with h
          have h1 : x = (((a, l, z), ev.2) : Att) := (congrArg Prod.fst h).symm
          rw [h1]; exact sName_pre hs
      · cases h
    · cases h
theorem sRest_n {T : List Int32} {first : Nat} : ∀ {e : Nat} {atts atts' : List Att} {a z : Nat} {em : Bool}, (∀ x ∈ atts, GN x.nm) → sRest T first e atts a = .ok (atts', em, z) → (∀ x ∈ atts', GN x.nm) ∧ ch T (z - 1) = 62
  | 0, atts, atts', a, z, em, _, h => by rw [sRest] at h; cases h
  | e + 1, atts, atts', a, z, em, hg, h => by
    rw [sRest] at h
    split at h
    · rename_i q
      injection h with h; injection h with h1 h2; injection h2 with h2 h3
      subst h1; subst h2; subst h3
      exact ⟨hg, q⟩
    split at h
    · split at h
      · rename_i q2
        injection h with h; injection h with h1 h2; injection h2 with h2 h3
        subst h1; subst h2; subst h3
        exact ⟨hg, q2⟩
      · cases h
    split at h
    · cases h
    split at h
    · cases h
    cases hs : sAtt T (scan bl T a) with
    | error w => rw [hs] at h; cases h
    | ok xe =>
      obtain ⟨x, c⟩ := xe
      rw [hs] at h
      exact sRest_n (e := e) (by
        intro y hy; rw [List.mem_append] at hy
        rcases hy with hy | hy
        · exact hg y hy
        · rw [List.mem_singleton] at hy; rw [hy]; exact sAtt_n hs) h
theorem sTag1_n {T : List Int32} {P : Ps} {E : Ele} {em : Bool} {z : Nat} (h : sTag1 T P = .ok (E, em, z)) : GN E.nm ∧ (∀ x ∈ E.atts, GN x.nm) ∧ ch T (z - 1) = 62 := by
  unfold sTag1 at h
  split at h
  · split at h
    · cases h
    cases hs : sName T (P.at_ + 1) with
    | error w => rw [hs] at h; cases h
    | ok lz =>
      obtain ⟨l, y⟩ := lz
      rw [hs] at h
      dsimp only at h
      cases hr : sRest T P.at_ (T.length + 1) [] y with
      | error w => rw [hr] at h; cases h
      | ok q =>
        obtain ⟨atts, em2, e⟩ := q
        rw [hr] at h
        have w := sRest_n (by simp) hr
        injection h with h
        injection h with h1 h2
        injection h2 with h2 h3
        subst h1; subst h2; subst h3
        exact ⟨sName_pre hs, w.1, w.2⟩
  · cases h
theorem sName_c {T : List Int32} {a l z : Nat} (hs : sName T a = .ok (l, z)) : GC T ((a, l, z) : Nam) := by
  intro hl
  have hl' : a < l := hl
  show ch T (l - 1) = 58
  unfold sName at hs
  split at hs
  · split at hs
    · rename_i q
      split at hs
      · injection hs with hs; injection hs with e1 e2; subst e1; exact q
      · cases hs
    · injection hs with hs; injection hs with e1 e2; omega
  · cases hs
theorem sAtt_c {T : List Int32} {a e : Nat} {x : Att} (h : sAtt T a = .ok (x, e)) : GC T x.nm := by
  unfold sAtt at h
  cases hs : sName T a with
  | error w => rw [hs] at h; cases h
  | ok lz =>
    obtain ⟨l, z⟩ := lz
    rw [hs] at h
    dsimp only at h
    split at h
    · split at h
      · cases hv : sVal T (ch T (scan bl T (scan bl T z + 1))) (T.length + 1) (scan bl T (scan bl T z + 1) + 1) [] with
        | error w => rw [hv] at h; cases h
        | ok ev =>
          rw [hv] at h; injection h with h
          have h1 : x = (((a, l, z), ev.2) : Att) := (congrArg Prod.fst h).symm
          rw [h1]; exact sName_c hs
      · cases h
    · cases h
theorem sRest_c {T : List Int32} {first : Nat} : ∀ {e : Nat} {atts atts' : List Att} {a z : Nat} {em : Bool}, (∀ x ∈ atts, GC T x.nm) → sRest T first e atts a = .ok (atts', em, z) → (∀ x ∈ atts', GC T x.nm) ∧ ch T (z - 1) = 62
  | 0, atts, atts', a, z, em, _, h => by rw [sRest] at h; cases h
  | e + 1, atts, atts', a, z, em, hg, h => by
    rw [sRest] at h
    split at h
    · rename_i q
      injection h with h; injection h with h1 h2; injection h2 with h2 h3
      subst h1; subst h2; subst h3
      exact ⟨hg, q⟩
    split at h
    · split at h
      · rename_i q2
        injection h with h; injection h with h1 h2; injection h2 with h2 h3
        subst h1; subst h2; subst h3
        exact ⟨hg, q2⟩
      · cases h
    split at h
    · cases h
    split at h
    · cases h
    cases hs : sAtt T (scan bl T a) with
    | error w => rw [hs] at h; cases h
    | ok xe =>
      obtain ⟨x, c⟩ := xe
      rw [hs] at h
      exact sRest_c (e := e) (by
        intro y hy; rw [List.mem_append] at hy
        rcases hy with hy | hy
        · exact hg y hy
        · rw [List.mem_singleton] at hy; rw [hy]; exact sAtt_c hs) h
theorem sTag1_c {T : List Int32} {P : Ps} {E : Ele} {em : Bool} {z : Nat} (h : sTag1 T P = .ok (E, em, z)) : GC T E.nm ∧ (∀ x ∈ E.atts, GC T x.nm) ∧ ch T (z - 1) = 62 := by
  unfold sTag1 at h
  split at h
  · split at h
    · cases h
    cases hs : sName T (P.at_ + 1) with
    | error w => rw [hs] at h; cases h
    | ok lz =>
      obtain ⟨l, y⟩ := lz
      rw [hs] at h
      dsimp only at h
      cases hr : sRest T P.at_ (T.length + 1) [] y with
      | error w => rw [hr] at h; cases h
      | ok q =>
        obtain ⟨atts, em2, e⟩ := q
        rw [hr] at h
        have w := sRest_c (by simp) hr
        injection h with h
        injection h with h1 h2
        injection h2 with h2 h3
        subst h1; subst h2; subst h3
        exact ⟨sName_c hs, w.1, w.2⟩
  · cases h
theorem dpO_app {els : List Ele} {E : Ele} {o : Option Nat} (h : ∀ k, o = some k → k < els.length) : dpO (els ++ [E]) o = dpO els o := by
  cases o with
  | none => rfl
  | some k =>
    unfold dpO
    simp only [Option.bind_some, List.getElem?_append_left (h k rfl)]
theorem evG_app {els : List Ele} {E : Ele} {v : Ev} (h : evG els v) : evG (els ++ [E]) v := by
  rcases v with e | ⟨e, p⟩ | x
  · have h1 : e < els.length := h
    show e < (els ++ [E]).length; rw [List.length_append]; omega
  · obtain ⟨E2, h1, h2⟩ : ∃ E2, els[e]? = some E2 ∧ E2.par = p := h
    have := (List.getElem?_eq_some_iff.mp h1).1
    exact ⟨E2, by rw [List.getElem?_append_left this]; exact h1, h2⟩
  · exact h
theorem chk_D {T : List Int32} {els : List Ele} {k : Nat} {E : Ele} (h : chk T els k E = none) : ckD T E.atts = none := by
  unfold chk at h
  split at h
  · cases h
  · split at h
    · cases h
    · assumption
theorem chk_app {T : List Int32} {els : List Ele} {E2 : Ele} (hw : WF els) {k : Nat} (hk : k < els.length) {E : Ele} : chk T (els ++ [E2]) k E = chk T els k E := by
  have e1 : vOf (els ++ [E2]) (spE T (els ++ [E2]) k E.nm) = vOf els (spE T els k E.nm) := by
    rw [spE_app hw hk]; exact vOf_app hw
  have e2 : ∀ L, ckU T (els ++ [E2]) k L = ckU T els k L := by
    intro L
    induction L with
    | nil => rfl
    | cons x L ih => rw [ckU, ckU, vsA_app hw hk, ih]
  have e3 : ∀ L A, ckT T (els ++ [E2]) k A L = ckT T els k A L := by
    intro L
    induction L with
    | nil => intro A; rfl
    | cons x L ih =>
      intro A
      have : (fun y : Att => mts T (els ++ [E2]) k y.nm x.nm) = (fun y : Att => mts T els k y.nm x.nm) := by
        funext y; unfold mts; rw [vsA_app hw hk, vsA_app hw hk]
      rw [ckT, ckT, this, ih]
  unfold chk
  rw [e1, e2, e3]
theorem PI.tag {T : List Int32} (hT : ∀ i, i < T.length → isCh (ch T i) = true) {P Q : Ps} (h : PI T P) (hw : WF P.els) (ho : ∀ o, P.opn = some o → o < P.els.length) (hs : sTag T P = .ok Q) : PI T Q := by
  rw [sTag_eq] at hs
  cases h1 : sTag1 T P with
  | error w => rw [h1] at hs; cases hs
  | ok q =>
    obtain ⟨E, em, z⟩ := q
    rw [h1] at hs
    dsimp only at hs
    obtain ⟨w1, w2, w3, w4, w5, w6, w7, w8, w9, w10⟩ := sTag1_w hT h1
    obtain ⟨n1, n2, n3⟩ := sTag1_n h1
    cases hc : chk T (P.els ++ [E]) P.els.length E with
    | some w => rw [hc] at hs; cases hs
    | none =>
      rw [hc] at hs; injection hs with hs; subst hs
      refine ⟨?_, ?_, ?_⟩
      · intro k K hK
        rcases getl hK with ⟨q, hj⟩ | ⟨q, rfl⟩
        · exact h.1 k K hj
        · exact ckD_good (chk_D hc)
      · intro k K hK
        show GN K.nm ∧ (∀ x ∈ K.atts, GN x.nm) ∧ K.dp = dpO (P.els ++ [E]) K.par + 1 ∧ K.dp ≤ 12 ∧ chk T (P.els ++ [E]) k K = none ∧ (∀ x ∈ K.atts, GC T x.nm) ∧ (∀ x ∈ K.atts, GA T x)
        rcases getl hK with ⟨q, hj⟩ | ⟨q, rfl⟩
        · obtain ⟨g1, g2, g3, g4, g5⟩ := h.2.1 k K hj
          rw [dpO_app (fun m hm => Nat.lt_trans ((hw k K hj).2 m hm) q), chk_app hw q]
          exact ⟨g1, g2, g3, g4, g5⟩
        · rw [w6, dpO_app ho, w7, q]
          exact ⟨n1, n2, rfl, by omega, hc, (sTag1_c h1).2.1, by assumption⟩
      · intro v hv
        show evG (P.els ++ [E]) v
        have hE : (P.els ++ [E])[P.els.length]? = some E := by rw [List.getElem?_append_right (Nat.le_refl _), Nat.sub_self]; rfl
        have hb : evG (P.els ++ [E]) (Ev.b P.els.length) := by show P.els.length < (P.els ++ [E]).length; rw [List.length_append]; simp
        rcases List.mem_append.mp hv with hv | hv
        · exact evG_app (h.2.2 v hv)
        · cases em with
          | false => rw [if_neg (by decide)] at hv; rw [List.mem_singleton] at hv; rw [hv]; exact hb
          | true =>
            rw [if_pos rfl] at hv
            rcases List.mem_cons.mp hv with hv | hv
            · rw [hv]; exact hb
            · rw [List.mem_singleton] at hv; rw [hv]; exact ⟨E, hE, w6⟩
def RR (M : gMem) (T U : List Int32) (P : Ps) : Prop :=
  TXr M T ∧ M 103 0 = nI P.at_ ∧ P.at_ ≤ T.length ∧ RE M T U P.els ∧ M 107 0 = nI U.length ∧ U.length ≤ P.at_ ∧ M 109 0 = nI P.els.length ∧ M 122 0 = nI P.evs.length ∧ P.evs.length ≤ P.at_ ∧ (∀ (j : Nat) (v : Ev), P.evs[j]? = some v → M 123 j = evI v) ∧ M 124 0 = paI P.opn ∧ (∀ o, P.opn = some o → o < P.els.length) ∧ M 125 0 = nI (dpO P.els P.opn) ∧ M 104 0 = 0 ∧ M 105 0 = -1
section RRP
variable {M : gMem} {T U : List Int32} {P : Ps}
theorem RR.tx (h : RR M T U P) : TXr M T := h.1
theorem RR.fa (h : RR M T U P) : M 103 0 = nI P.at_ := h.2.1
theorem RR.aT (h : RR M T U P) : P.at_ ≤ T.length := h.2.2.1
theorem RR.re (h : RR M T U P) : RE M T U P.els := h.2.2.2.1
theorem RR.us (h : RR M T U P) : M 107 0 = nI U.length := h.2.2.2.2.1
theorem RR.ua (h : RR M T U P) : U.length ≤ P.at_ := h.2.2.2.2.2.1
theorem RR.el (h : RR M T U P) : M 109 0 = nI P.els.length := h.2.2.2.2.2.2.1
theorem RR.en (h : RR M T U P) : M 122 0 = nI P.evs.length := h.2.2.2.2.2.2.2.1
theorem RR.ea (h : RR M T U P) : P.evs.length ≤ P.at_ := h.2.2.2.2.2.2.2.2.1
theorem RR.ev (h : RR M T U P) : ∀ (j : Nat) (v : Ev), P.evs[j]? = some v → M 123 j = evI v := h.2.2.2.2.2.2.2.2.2.1
theorem RR.op (h : RR M T U P) : M 124 0 = paI P.opn := h.2.2.2.2.2.2.2.2.2.2.1
theorem RR.oe (h : RR M T U P) : ∀ o, P.opn = some o → o < P.els.length := h.2.2.2.2.2.2.2.2.2.2.2.1
theorem RR.dp (h : RR M T U P) : M 125 0 = nI (dpO P.els P.opn) := h.2.2.2.2.2.2.2.2.2.2.2.2.1
theorem RR.wy (h : RR M T U P) : M 104 0 = 0 := h.2.2.2.2.2.2.2.2.2.2.2.2.2.1
theorem RR.wp (h : RR M T U P) : M 105 0 = -1 := h.2.2.2.2.2.2.2.2.2.2.2.2.2.2
end RRP
theorem RE.of {M M' : gMem} {T U : List Int32} {els : List Ele} (h : RE M T U els) (h1 : ∀ t i, 108 = t ∨ (110 ≤ t ∧ t ≤ 121) → M' t i = M t i) : RE M' T U els := by
  refine ⟨h.1.of (fun j _ => h1 108 j (by omega)), h.2.1, fun e E hE => ?_⟩
  obtain ⟨⟨⟨f, a1, a2, a3⟩, a4, a5, a6, a7, a8, a9, a10, a11⟩, b⟩ := h.2.2 e E hE
  exact ⟨⟨⟨f, (h1 111 e (by omega)).trans a1, a2, a3⟩, (h1 112 e (by omega)).trans a4, (h1 113 e (by omega)).trans a5, (h1 114 e (by omega)).trans a6, (h1 115 e (by omega)).trans a7, a8, a9.same (fun t i p q => h1 t i (by omega)), (h1 110 e (by omega)).trans a10, a11⟩, b⟩
theorem ELr.of {M M' : gMem} {T U : List Int32} {e : Nat} {E : Ele} (h : ELr M T U e E) (W : List Int32) (h1 : ∀ t, 110 ≤ t → t ≤ 115 → M' t e = M t e) (h2 : ∀ t i, 116 ≤ t → t ≤ 121 → i < 6 → M' t (6 * e + i) = M t (6 * e + i)) : ELr M' T (U ++ W) e E := by
  obtain ⟨⟨f, a1, a2, a3⟩, a4, a5, a6, a7, a8, a9, a10, a11⟩ := h
  exact ⟨⟨f, (h1 111 (by omega) (by omega)).trans a1, by rw [List.length_append]; omega, by rw [stre_app a2]; exact a3⟩, (h1 112 (by omega) (by omega)).trans a4, (h1 113 (by omega) (by omega)).trans a5, (h1 114 (by omega) (by omega)).trans a6, (h1 115 (by omega) (by omega)).trans a7, a8, a9.of W (fun t i p q s => h2 t i p q (by omega)), (h1 110 (by omega) (by omega)).trans a10, a11⟩
theorem g_happen {M : gMem} (fu : Nat) (r : gRef) {k : Nat} (x : Int32) (h : M 122 0 = nI k) (hk : k < 300) : F_Mo_happen fu x M r = .ok () (mS (mS M 123 k x) 122 0 (nI (k + 1))) r := by
  unfold F_Mo_happen
  rw [h, gd_yes (vp_in_nI hk (by decide)), nI_clamp (by omega), mS_tag _ (t := 123) (t2 := 122) _ _ _ (by decide), h, nI_1]
/-- an event more -/
theorem ev_app {M : gMem} {evs : List Ev} {v : Ev} {n : Int32} (h : ∀ (j : Nat) (v : Ev), evs[j]? = some v → M 123 j = evI v) : ∀ (j : Nat) (w : Ev), (evs ++ [v])[j]? = some w → (mS (mS M 123 evs.length (evI v)) 122 0 n) 123 j = evI w := by
  intro j w hj
  rw [mS_tag _ (t := 122) (t2 := 123) _ _ _ (by decide)]
  rcases getl hj with ⟨q, hj⟩ | ⟨q, rfl⟩
  · rw [mS_ix _ _ _ (by omega)]; exact h j w hj
  · rw [q, mS_same]
def Sr (x : gO Int32) (M : gMem) (r : gRef) (T : List Int32) : Except Wr Ps → Prop
  | .ok Q => ∃ M' U', x = .ok 1 M' r ∧ RR M' T U' Q ∧ Rf M M'
  | .error w => Rx x M r w
