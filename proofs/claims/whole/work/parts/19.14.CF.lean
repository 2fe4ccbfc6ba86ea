/-! Entering an element -/
theorem f_unless {M : gMem} (fu : Nat) (r : gRef) {a : Nat} {w : Int32} (hw : w = nI a) {o : Option Wr} (h : ∀ q, o = some q → q.1 = a ∧ q.2 ≤ 240) :
    (o = none → F_Rd_failUnlessNowhere fu w (plc o) M r = .ok () M r) ∧ (∀ q, o = some q → Ex (F_Rd_failUnlessNowhere fu w (plc o) M r) M q) := by
  unfold F_Rd_failUnlessNowhere
  constructor
  · intro q; subst q; rw [if_pos (show plc none = -1 from rfl)]
  · intro q hq
    obtain ⟨h1, h2⟩ := h q hq
    subst hq
    have hne : ¬ plc (some q) = (-1) := by
      show ¬ nI q.2 = -1
      intro e; have h3 := nI_pos (n := q.2) (by omega); rw [e] at h3; exact h3 (by decide)
    rw [if_neg hne]
    obtain ⟨b, c⟩ := q
    dsimp only at h1; subst h1
    exact Ex.bnd _ (f_fail fu r hw rfl)
theorem ckN_5 {T : List Int32} : ∀ {R L : List Att} {q : Wr}, (∀ x ∈ R, x.nm.s ≤ 240) → ckN T L R = some q → q.1 = 5 ∧ q.2 ≤ 240
  | [], L, q, _, h => by cases h
  | x :: R, L, q, hb, h => by
    rw [ckN] at h; split at h
    · injection h with h; subst h; exact ⟨rfl, hb x (by simp)⟩
    · exact ckN_5 (fun y hy => hb y (by simp [hy])) h
theorem ckD_6 {T : List Int32} : ∀ {R : List Att} {q : Wr}, (∀ x ∈ R, x.nm.s ≤ 240) → ckD T R = some q → q.1 = 6 ∧ q.2 ≤ 240
  | [], q, _, h => by cases h
  | x :: R, q, hb, h => by
    rw [ckD] at h; split at h
    · injection h with h; subst h; exact ⟨rfl, hb x (by simp)⟩
    · exact ckD_6 (fun y hy => hb y (by simp [hy])) h
theorem ckU_7 {T : List Int32} {els : List Ele} {k : Nat} : ∀ {R : List Att} {q : Wr}, (∀ x ∈ R, x.nm.s ≤ 240) → ckU T els k R = some q → q.1 = 7 ∧ q.2 ≤ 240
  | [], q, _, h => by cases h
  | x :: R, q, hb, h => by
    rw [ckU] at h; split at h
    · injection h with h; subst h; exact ⟨rfl, hb x (by simp)⟩
    · exact ckU_7 (fun y hy => hb y (by simp [hy])) h
theorem ckT_8 {T : List Int32} {els : List Ele} {k : Nat} : ∀ {R L : List Att} {q : Wr}, (∀ x ∈ R, x.nm.s ≤ 240) → ckT T els k L R = some q → q.1 = 8 ∧ q.2 ≤ 240
  | [], L, q, _, h => by cases h
  | x :: R, L, q, hb, h => by
    rw [ckT] at h; split at h
    · injection h with h; subst h; exact ⟨rfl, hb x (by simp)⟩
    · exact ckT_8 (fun y hy => hb y (by simp [hy])) h
theorem f_enter {M : gMem} {r : gRef} {T V L : List Int32} {els : List Ele} {k : Nat} {E : Ele} {em : Bool} (h : CX M r T V els) (hE : els[k]? = some E) (hL : RW M 5 L) (hem : M 26 k = b2 em) (fu : Nat) (hfu : 1440 < fu) (hl : L.length + (begF T els k E).length + (if em then (endF T E).length else 0) ≤ 1440) :
    match chk T els k E with
    | some w => Ex (F_Rd_enter fu k M r) M w
    | none => ∃ M' r', F_Rd_enter fu k M r = .ok () M' r' ∧ RW M' 5 (L ++ begF T els k E ++ (if em then endF T E else [])) ∧ Ks M M' ∧ SPk r' T els k E ∧ r' 3 0 = (if em then r 3 0 else some k) ∧ (∀ t i, t ≠ 2 → ¬ (t = 0 ∧ (6 * k ≤ i ∧ i < 6 * k + 6 ∨ i = 145 + k)) → ¬ (t = 3 ∧ i = 0) → r' t i = r t i) := by
  have el := h.ce.el k E hE
  have hT := h.tx.le
  have hs : ∀ x ∈ E.atts, x.nm.s ≤ 240 := by
    intro x hx
    obtain ⟨i, hi⟩ := List.mem_iff_getElem?.mp hx
    have a := (el.ats i x hi).nm
    have := a.sl; have := a.lz; have := a.zT; omega
  have hse : E.nm.s ≤ 240 := by have := el.nm.sl; have := el.nm.lz; have := el.nm.zT; omega
  unfold F_Rd_enter chk
  rw [f_nameTwice h hE fu hfu, bnd_k]
  obtain ⟨u1, u2⟩ := f_unless (M := M) fu r (w := 5) (a := 5) rfl (o := ckN T [] E.atts) (fun q hq => ckN_5 hs hq)
  cases h1 : ckN T [] E.atts with
  | some w => rw [h1] at u2; exact Ex.bnd _ (u2 w rfl)
  | none =>
  rw [h1] at u1
  rw [u1 rfl, bnd_k, f_wrongDecl h hE fu hfu, bnd_k]
  obtain ⟨v1, v2⟩ := f_unless (M := M) fu r (w := 6) (a := 6) rfl (o := ckD T E.atts) (fun q hq => ckD_6 hs hq)
  dsimp only
  cases h2 : ckD T E.atts with
  | some w => rw [h2] at v2; exact Ex.bnd _ (v2 w rfl)
  | none =>
  rw [h2] at v1
  obtain ⟨r1, e1, sp1, k1⟩ := f_findSpaces h hE fu hfu
  have h' : CX M r1 T V els := h.ofr (fun i => k1 1 i (by omega))
  rw [v1 rfl, bnd_k, e1, bnd_k, f_notDecl h' hE sp1 fu hfu, bnd_k]
  dsimp only
  cases hc : (E.nm.pre && vOf els (spE T els k E.nm) == []) with
  | true =>
    obtain ⟨w1, w2⟩ := f_unless (M := M) fu r1 (w := 7) (a := 7) rfl (o := some (7, E.nm.s)) (fun q hq => by injection hq with hq; subst hq; exact ⟨rfl, hse⟩)
    simp only [if_true]
    exact Ex.bnd _ (w2 _ rfl)
  | false =>
  simp only [Bool.false_eq_true, if_false]
  obtain ⟨w1, w2⟩ := f_unless (M := M) fu r1 (w := 7) (a := 7) rfl (o := ckU T els k E.atts) (fun q hq => ckU_7 hs hq)
  cases h3 : ckU T els k E.atts with
  | some w => rw [h3] at w2; exact Ex.bnd _ (w2 w rfl)
  | none =>
  rw [h3] at w1
  rw [w1 rfl, bnd_k, f_twiceSpace h' hE sp1 fu hfu, bnd_k]
  dsimp only
  obtain ⟨x1, x2⟩ := f_unless (M := M) fu r1 (w := 8) (a := 8) rfl (o := ckT T els k [] E.atts) (fun q hq => ckT_8 hs hq)
  cases h4 : ckT T els k [] E.atts with
  | some w => rw [h4] at x2; exact Ex.bnd _ (x2 w rfl)
  | none =>
  rw [h4] at x1
  obtain ⟨M2, r2, e2, g1, g2, g3⟩ := f_begin h' hE sp1 hL fu hfu (by omega)
  rw [x1 rfl, bnd_k, e2, bnd_k, g2 26 k (by omega) (by omega) (by omega), hem]
  have sp2 : SPk r2 T els k E := ⟨by rw [g3 0 _ (by decide)]; exact sp1.en, fun i x hx => by rw [g3 0 _ (by decide)]; exact sp1.at_ i x hx⟩
  cases em with
  | false =>
    rw [if_pos (show b2 false = 0 from rfl)]
    refine ⟨M2, _, rfl, by rw [if_neg (by decide), List.append_nil]; exact g1, g2, ?_, ?_, ?_⟩
    · exact ⟨by rw [rS, if_neg (by omega)]; exact sp2.en, fun i x hx => by rw [rS, if_neg (by omega)]; exact sp2.at_ i x hx⟩
    · rw [rS_same, if_neg (by decide)]
    · intro t i a1 a2 a3; rw [rS, if_neg a3, g3 t i a1, k1 t i a2]
  | true =>
    rw [if_neg (show ¬ b2 true = 0 by decide)]
    rw [if_pos rfl] at hl
    have h2' : CX M2 r2 T V els := h'.ks g2 (fun i => g3 1 i (by decide))
    obtain ⟨M3, e3, g5, g6⟩ := f_endElement h2' hE g1 fu (by rw [List.length_append]; omega) (by omega)
    rw [e3, bnd_k]
    refine ⟨M3, r2, rfl, by rw [if_pos rfl]; exact g5, g2.tr g6.ks, sp2, ?_, ?_⟩
    · rw [g3 3 0 (by decide), k1 3 0 (by omega), if_pos rfl]
    · intro t i a1 a2 a3; rw [g3 t i a1, k1 t i a2]
