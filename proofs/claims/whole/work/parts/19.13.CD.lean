/-! Facts of the spec: weights, and what stays when elements are added -/
def attW (x : Att) : Nat := (x.nm.z - x.nm.s) + x.val.length + 4
def wA : List Att → Nat
  | [] => 0
  | x :: L => attW x + wA L
theorem wA_app : ∀ (A B : List Att), wA (A ++ B) = wA A + wA B
  | [], B => by simp [wA]
  | x :: A, B => by rw [List.cons_append, wA, wA, wA_app A B]; omega
theorem wA_rev : ∀ (A : List Att), wA A.reverse = wA A
  | [] => rfl
  | x :: A => by rw [List.reverse_cons, wA_app, wA_rev A, wA, wA, wA]; omega
theorem wA_ins (lt : Att → Att → Bool) (x : Att) : ∀ (L : List Att), wA (ins lt x L) = attW x + wA L
  | [] => rfl
  | y :: L => by
    rw [ins]; split
    · rw [wA, wA_ins lt x L, wA]; omega
    · rfl
theorem wA_fold (lt : Att → Att → Bool) : ∀ (L A : List Att), wA (L.foldl (fun L x => ins lt x L) A) = wA L + wA A
  | [], A => by simp [wA]
  | x :: L, A => by rw [List.foldl_cons, wA_fold lt L, wA_ins, wA]; omega
theorem wA_filter (p : Att → Bool) : ∀ (L : List Att), wA (L.filter p) ≤ wA L
  | [] => Nat.le_refl _
  | x :: L => by
    have := wA_filter p L
    rw [List.filter_cons]; split
    · rw [wA, wA]; omega
    · rw [wA]; omega
theorem mem_ins {lt : Att → Att → Bool} {x y : Att} : ∀ {L : List Att}, y ∈ ins lt x L → y = x ∨ y ∈ L
  | [], h => by rw [ins] at h; exact Or.inl (by simpa using h)
  | z :: L, h => by
    rw [ins] at h; split at h
    · rcases List.mem_cons.mp h with h | h
      · exact Or.inr (by rw [h]; simp)
      · rcases mem_ins h with h | h
        · exact Or.inl h
        · exact Or.inr (by simp [h])
    · rcases List.mem_cons.mp h with h | h
      · exact Or.inl h
      · exact Or.inr h
theorem mem_fold {lt : Att → Att → Bool} {y : Att} : ∀ {L A : List Att}, y ∈ L.foldl (fun L x => ins lt x L) A → y ∈ L ∨ y ∈ A
  | [], A, h => Or.inr h
  | x :: L, A, h => by
    rw [List.foldl_cons] at h
    rcases mem_fold h with h | h
    · exact Or.inl (by simp [h])
    · rcases mem_ins h with h | h
      · exact Or.inl (by simp [h])
      · exact Or.inr h
theorem mem_srt {T : List Int32} {els : List Ele} {k : Nat} {E : Ele} {y : Att} (h : y ∈ srt T els k E) : y ∈ E.atts := by
  unfold srt at h
  rw [List.mem_reverse] at h
  rcases mem_fold h with h | h
  · exact (List.mem_filter.mp h).1
  · cases h
theorem wA_srt (T : List Int32) (els : List Ele) (k : Nat) (E : Ele) : wA (srt T els k E) ≤ wA E.atts := by
  unfold srt
  rw [wA_rev, wA_fold, wA]
  exact wA_filter _ _
/-- an attribute that was read -/
def GA (T : List Int32) (x : Att) : Prop := (∀ c ∈ x.val, isCh c = true) ∧ x.nm.s < x.nm.z ∧ x.nm.z ≤ T.length
theorem sAtt_w {T : List Int32} (hT : ∀ i, i < T.length → isCh (ch T i) = true) {a e : Nat} {x : Att} (h : sAtt T a = .ok (x, e)) : (x.nm.z - x.nm.s) + x.val.length + 3 + a ≤ e ∧ e ≤ T.length ∧ GA T x := by
  unfold sAtt at h
  cases hs : sName T a with
  | error w => rw [hs] at h; cases h
  | ok lz =>
    obtain ⟨l, z⟩ := lz
    rw [hs] at h
    have nl := sName_le hs
    dsimp only at h
    have s1 := scan_ge bl T z
    generalize scan bl T z = b at *
    split at h
    · rename_i q1
      have qb := lt_of_ch q1 (by decide)
      have s3 := scan_ge bl T (b + 1)
      generalize scan bl T (b + 1) = f at *
      split at h
      · rename_i q2
        have hm : ch T f ≠ 0 := by rcases q2 with q | q <;> rw [q] <;> decide
        have qf := lt_of_ch (T := T) (a := f) rfl hm
        cases hv : sVal T (ch T f) (T.length + 1) (f + 1) [] with
        | error w => rw [hv] at h; cases h
        | ok ev =>
          obtain ⟨e2, v⟩ := ev
          rw [hv] at h
          have g := sVal_ok hT hm (by omega) (by simp) hv
          injection h with h
          have h1 : x = (((a, l, z), v) : Att) := (congrArg Prod.fst h).symm
          have h2 : e = e2 := (congrArg Prod.snd h).symm
          subst h1; subst h2
          simp only [List.length_nil] at g
          exact ⟨by show (z - a) + v.length + 3 + a ≤ e; omega, g.2.2.1, g.1, nl.1, nl.2.1⟩
      · cases h
    · cases h
theorem sRest_w {T : List Int32} (hT : ∀ i, i < T.length → isCh (ch T i) = true) {first : Nat} : ∀ {e : Nat} {atts atts' : List Att} {a z : Nat} {em : Bool}, a ≤ T.length → (∀ x ∈ atts, GA T x) → sRest T first e atts a = .ok (atts', em, z) → wA atts' + a + (if em then 2 else 1) ≤ wA atts + z ∧ z ≤ T.length ∧ (∀ x ∈ atts', GA T x)
  | 0, atts, atts', a, z, em, _, _, h => by rw [sRest] at h; cases h
  | e + 1, atts, atts', a, z, em, ha, hg, h => by
    rw [sRest] at h
    have s1 := scan_ge bl T a
    have s2 := scan_le bl ha
    generalize scan bl T a = b at *
    split at h
    · rename_i q; have := lt_of_ch q (by decide)
      injection h with h; injection h with h1 h2; injection h2 with h2 h3
      subst h1; subst h2; subst h3
      exact ⟨by rw [if_neg (by decide)]; omega, by omega, hg⟩
    split at h
    · rename_i q; have := lt_of_ch q (by decide)
      split at h
      · rename_i q2; have := lt_of_ch q2 (by decide)
        injection h with h; injection h with h1 h2; injection h2 with h2 h3
        subst h1; subst h2; subst h3
        exact ⟨by rw [if_pos rfl]; omega, by omega, hg⟩
      · cases h
    split at h
    · cases h
    rename_i q4
    split at h
    · cases h
    cases hs : sAtt T b with
    | error w => rw [hs] at h; cases h
    | ok xe =>
      obtain ⟨x, c⟩ := xe
      rw [hs] at h
      have g := sAtt_w hT hs
      have w := sRest_w hT (e := e) g.2.1 (by
        intro y hy; rw [List.mem_append] at hy
        rcases hy with hy | hy
        · exact hg y hy
        · rw [List.mem_singleton] at hy; rw [hy]; exact g.2.2) h
      have ww : wA (atts ++ [x]) = wA atts + attW x := by rw [wA_app]; rfl
      rw [ww] at w
      have wx : attW x = (x.nm.z - x.nm.s) + x.val.length + 4 := rfl
      exact ⟨by omega, w.2.1, w.2.2⟩
/-! lengths of what is written -/
theorem escV_len (c : Int32) : (escV c).length ≤ 6 := by unfold escV; (repeat' split) <;> simp
theorem escC_len (c : Int32) : (escC c).length ≤ 6 := by unfold escC; (repeat' split) <;> simp
theorem flat_len {f : Int32 → List Int32} (hf : ∀ c, (f c).length ≤ 6) : ∀ (L : List Int32), (L.flatMap f).length ≤ 6 * L.length
  | [] => Nat.le_refl _
  | c :: L => by
    have := flat_len hf L; have := hf c
    rw [List.flatMap_cons, List.length_append, List.length_cons]; omega
theorem attF_len {T : List Int32} {x : Att} (h : x.nm.z ≤ T.length) : (attF T x).length ≤ 6 * attW x := by
  unfold attF attW nmT
  have := flat_len escV_len x.val
  simp only [List.length_append, List.length_cons, List.length_nil, stre_len h]
  omega
theorem atts_len {T : List Int32} : ∀ {L : List Att}, (∀ x ∈ L, x.nm.z ≤ T.length) → (L.flatMap (attF T)).length ≤ 6 * wA L
  | [], _ => Nat.le_refl _
  | x :: L, h => by
    have h1 := attF_len (h x (by simp))
    have h2 := atts_len (L := L) (fun y hy => h y (by simp [hy]))
    rw [List.flatMap_cons, List.length_append, wA]; omega
theorem begF_len {T : List Int32} {els : List Ele} {k : Nat} {E : Ele} (h : ∀ x ∈ E.atts, GA T x) (hz : E.nm.z ≤ T.length) : (begF T els k E).length ≤ 2 + (E.nm.z - E.nm.s) + 6 * wA E.atts := by
  unfold begF nmT
  have h1 := atts_len (T := T) (L := srt T els k E) (fun x hx => (h x (mem_srt hx)).2.2)
  have h2 := wA_srt T els k E
  simp only [List.length_append, List.length_cons, List.length_nil, stre_len hz]
  omega
theorem endF_len {T : List Int32} {E : Ele} (hz : E.nm.z ≤ T.length) : (endF T E).length = 3 + (E.nm.z - E.nm.s) := by
  unfold endF nmT
  simp only [List.length_append, List.length_cons, List.length_nil, stre_len hz]
  omega
/-! elements added -/
def WF (els : List Ele) : Prop := ∀ (e : Nat) (E : Ele), els[e]? = some E → E.atts.length ≤ 6 ∧ (∀ p, E.par = some p → p < e)
theorem CE.wf {M : gMem} {r : gRef} {T V : List Int32} {els : List Ele} (h : CE M r T V els) : WF els := fun e E hE => ⟨(h.el e E hE).c6, h.pl e E hE⟩
theorem dFor_app {T p : List Int32} {els : List Ele} {E2 : Ele} (hw : WF els) : ∀ (d : Nat) (o : Option Nat), (∀ e, o = some e → e < els.length) → dFor T (els ++ [E2]) p d o = dFor T els p d o
  | 0, o, _ => rfl
  | d + 1, none, _ => rfl
  | d + 1, some e, h => by
    have he := h e rfl
    rw [dFor, dFor, List.getElem?_append_left he, List.getElem?_eq_getElem he]
    dsimp only
    cases fDe T p e 0 els[e].atts with
    | some a => rfl
    | none =>
      dsimp only
      exact dFor_app hw d _ (fun q hq => Nat.lt_trans ((hw e _ (List.getElem?_eq_getElem he)).2 q hq) he)
theorem vOf_app {T p : List Int32} {els : List Ele} {E2 : Ele} (hw : WF els) {d : Nat} {o : Option Nat} : vOf (els ++ [E2]) (dFor T els p d o) = vOf els (dFor T els p d o) := by
  cases h : dFor T els p d o with
  | none => rfl
  | some a =>
    obtain ⟨e, E, j, x, h1, h2, h3, -, -⟩ := dFor_at h
    have hl : e < els.length := (List.getElem?_eq_some_iff.mp h1).1
    have hj : j < E.atts.length := (List.getElem?_eq_some_iff.mp h2).1
    have c6 := (hw e E h1).1
    have e1 : a / 6 = e := by omega
    unfold vOf atA
    simp only [Option.bind_some, e1, List.getElem?_append_left hl]
theorem spE_app {T : List Int32} {els : List Ele} {E2 : Ele} (hw : WF els) {k : Nat} (hk : k < els.length) (n : Nam) : spE T (els ++ [E2]) k n = spE T els k n :=
  dFor_app hw 25 (some k) (fun e he => by injection he with he; omega)
theorem spA_app {T : List Int32} {els : List Ele} {E2 : Ele} (hw : WF els) {k : Nat} (hk : k < els.length) (n : Nam) : spA T (els ++ [E2]) k n = spA T els k n := by
  unfold spA; rw [dFor_app hw 25 (some k) (fun e he => by injection he with he; omega)]
theorem vsA_app {T : List Int32} {els : List Ele} {E2 : Ele} (hw : WF els) {k : Nat} (hk : k < els.length) (n : Nam) : vOf (els ++ [E2]) (spA T (els ++ [E2]) k n) = vOf els (spA T els k n) := by
  rw [spA_app hw hk]; unfold spA; split
  · exact vOf_app hw
  · rfl
theorem cBf_app {T : List Int32} {els : List Ele} {E2 : Ele} (hw : WF els) {k : Nat} (hk : k < els.length) : cBf T (els ++ [E2]) k = cBf T els k := by
  funext x y; unfold cBf; rw [vsA_app hw hk, vsA_app hw hk]
theorem news_app {T : List Int32} {els : List Ele} {E2 : Ele} (hw : WF els) {o : Option Nat} (ho : ∀ e, o = some e → e < els.length) : news T (els ++ [E2]) o = news T els o := by
  funext x; unfold news; rw [dFor_app hw 25 o ho, vOf_app hw]
theorem begF_app {T : List Int32} {els : List Ele} {E2 : Ele} (hw : WF els) {k : Nat} {E : Ele} (hE : els[k]? = some E) : begF T (els ++ [E2]) k E = begF T els k E := by
  have hk := (List.getElem?_eq_some_iff.mp hE).1
  unfold begF srt
  rw [cBf_app hw hk, news_app hw (fun e he => Nat.lt_trans ((hw k E hE).2 e he) hk)]
def evOk (n : Nat) (v : Ev) : Prop := match (v : Sum Nat (Sum (Nat × Option Nat) Int32)) with
  | .inl e => e < n
  | .inr (.inl (e, _)) => e < n
  | .inr (.inr _) => True
theorem evF_app {T : List Int32} {els : List Ele} {E2 : Ele} (hw : WF els) {v : Ev} (hv : evOk els.length v) : evF T (els ++ [E2]) v = evF T els v := by
  unfold evF
  rcases v with e | ⟨e, o⟩ | x
  · have he : e < els.length := hv
    dsimp only
    rw [List.getElem?_append_left he, List.getElem?_eq_getElem he]
    exact begF_app hw (List.getElem?_eq_getElem he)
  · have he : e < els.length := hv
    dsimp only
    rw [List.getElem?_append_left he]
  · rfl
def fmL (T : List Int32) (els : List Ele) (L : List Ev) : List Int32 := L.flatMap (evF T els)
theorem fmL_app {T : List Int32} {els : List Ele} {E2 : Ele} (hw : WF els) : ∀ {L : List Ev}, (∀ v ∈ L, evOk els.length v) → fmL T (els ++ [E2]) L = fmL T els L
  | [], _ => rfl
  | v :: L, h => by
    have h1 := fmL_app (T := T) (E2 := E2) hw (L := L) (fun y hy => h y (by simp [hy]))
    unfold fmL at h1 ⊢
    rw [List.flatMap_cons, List.flatMap_cons, h1, evF_app hw (h v (by simp))]
theorem fmL_cat (T : List Int32) (els : List Ele) (A B : List Ev) : fmL T els (A ++ B) = fmL T els A ++ fmL T els B := by
  unfold fmL; rw [List.flatMap_append]
theorem ownS_cat : ∀ (A B : List Ev) (o : Option Nat), ownS o (A ++ B) = ownS o A ++ ownS (curS o A) B
  | [], B, o => rfl
  | v :: A, B, o => by
    rcases v with e | ⟨e, p⟩ | x
    · exact ownS_cat A B (some e)
    · exact ownS_cat A B p
    · exact congrArg ((o, x) :: ·) (ownS_cat A B o)
theorem curS_cat : ∀ (A B : List Ev) (o : Option Nat), curS o (A ++ B) = curS (curS o A) B
  | [], B, o => rfl
  | v :: A, B, o => by
    rcases v with e | ⟨e, p⟩ | x
    · exact curS_cat A B (some e)
    · exact curS_cat A B p
    · exact curS_cat A B o
