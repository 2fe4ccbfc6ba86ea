/-! The state of the class between two steps of its reading -/
def Kx (M M' : gMem) : Prop := ∀ t i, (t = 0 ∧ (i = 2 ∨ i = 3) ∨ t = 12 ∨ t = 13 ∨ (t = 2 ∧ i = 0) ∨ (20 ≤ t ∧ t ≤ 25 ∧ i < 169) ∨ t = 27 ∨ t = 29 ∨ t = 30) → M' t i = M t i
theorem CX.kx {M M' : gMem} {r r' : gRef} {T V : List Int32} {els : List Ele} (h : CX M r T V els) (k : Kx M M') (hr : ∀ i, r' 1 i = r 1 i) : CX M' r' T V els := by
  refine ⟨h.tx.of (k 0 2 (by omega)) (fun j => k 12 j (by omega)), h.vv.of (k 0 3 (by omega)) (fun j => k 13 j (by omega)), ⟨?_, h.ce.le, ?_, h.ce.pl⟩, ?_, ?_⟩
  · rw [k 2 0 (by omega)]; exact h.ce.len
  · intro e E hE
    have el := h.ce.el e E hE
    have he := (List.getElem?_eq_some_iff.mp hE).1
    have h24 := h.ce.le
    have c6 := el.c6
    refine ⟨el.nm.of (fun t ht => k t _ (by omega)), ?_, el.c6, ?_, ?_, ?_, ?_, el.d12⟩
    · rw [k 29 e (by omega)]; exact el.cn
    · rw [k 30 e (by omega)]; exact el.dn
    · have := el.ats.of (M' := M') [] (fun t i a b c => k t _ (by omega)); rw [List.append_nil] at this; exact this
    · rw [hr]; exact el.par
    · rw [k 27 e (by omega)]; exact el.dp
  · rw [k 23 144 (by omega)]; exact h.z1
  · rw [k 24 144 (by omega)]; exact h.z2
def CT (M : gMem) (C : List (Option Nat × Int32)) : Prop := RW M 4 (C.map Prod.snd) ∧ (∀ j y, C[j]? = some y → ∃ o, y.1 = some o ∧ M 1 j = nI o)
def owN (C : List (Option Nat × Int32)) (e : Nat) : Nat := (C.filter (fun y => y.1 == some e)).length
theorem owN_app (C : List (Option Nat × Int32)) (o : Nat) (x : Int32) (e : Nat) : owN (C ++ [(some o, x)]) e = owN C e + if o = e then 1 else 0 := by
  unfold owN; rw [List.filter_append, List.length_append]
  by_cases h : o = e
  · subst h; simp [List.filter]
  · have h2 : ((some o : Option Nat) == some e) = false := by simpa using h
    simp [List.filter, h, h2]
def Kc (k : Nat) (M M' : gMem) : Prop := ∀ t i, t ≠ 1 → t ≠ 14 → t ≠ 15 → ¬ (t = 0 ∧ (i = 4 ∨ i = 5)) → ¬ (t = 31 ∧ i = k) → ¬ (t = 35 ∧ i = 0) → M' t i = M t i
theorem Kc.tr {k : Nat} {M M1 M2 : gMem} (h : Kc k M M1) (h2 : Kc k M1 M2) : Kc k M M2 := fun t i a b c d e f => (h2 t i a b c d e f).trans (h t i a b c d e f)
theorem Kc.rfl' (k : Nat) (M : gMem) : Kc k M M := fun _ _ _ _ _ _ _ _ => rfl
theorem Kc.fr {k : Nat} {M M' : gMem} (h : Kc k M M') : Fr M M' := fun t i q => h t i (by omega) (by omega) (by omega) (by omega) (by omega) (by omega)
theorem Kc.kx {k : Nat} {M M' : gMem} (h : Kc k M M') : Kx M M' := fun t i q => h t i (by omega) (by omega) (by omega) (by omega) (by omega) (by omega)
theorem Kc.s35 (k : Nat) (M : gMem) (v : Int32) : Kc k M (mS M 35 0 v) := fun t i _ _ _ _ _ f => by rw [mS, if_neg f]
theorem f_addContent {M : gMem} {r : gRef} {C : List (Option Nat × Int32)} {L : List Int32} (hC : CT M C) (hL : RW M 5 L) (fu : Nat) {k : Nat} {x : Int32} (hx : isCh x = true) (hc : C.length < 240) (hl : L.length + 6 ≤ 1440) (hfu : 240 < fu) :
    ∃ M', F_Rd_addContent fu k x M r = .ok () M' r ∧ CT M' (C ++ [(some k, x)]) ∧ M' 31 k = M 31 k + 1 ∧ RW M' 5 (L ++ escC x) ∧ Kc k M M' ∧ M' 35 0 = M 35 0 := by
  have n4 : nRow 4 = 240 := rfl
  obtain ⟨w, ho⟩ := hC
  have hlen : (C.map Prod.snd).length = C.length := List.length_map _
  have esl := escC_len x
  unfold F_Rd_addContent F_Tr_addContent
  rw [w.len, hlen, if_neg (show ¬ (240 : Int32) ≤ nI C.length from nI_ge (b := 240) hc (by decide)), gd_yes (vp_in_nI hc (by decide)), nI_clamp (by omega)]
  have w1 : RW (mS M 1 C.length (nI k)) 4 (C.map Prod.snd) := w.mv (by omega) (by decide)
  obtain ⟨M2, e2, g1, g2⟩ := f_put w1 fu r (isCh_ok hx) (by rw [hlen]; omega)
  rw [e2, bnd_k, bnd_k]
  have m2 : ∀ t i, t ≠ 14 → ¬ (t = 0 ∧ i = 4) → ¬ (t = 1 ∧ i = C.length) → M2 t i = M t i := fun t i a b c => by rw [g2 t i a b, mS, if_neg c]
  have l3 : RW (mS M2 31 k (M2 31 k + 1)) 5 L := (hL.of (m2 0 5 (by omega) (by omega) (by omega)) (fun j => m2 15 j (by omega) (by omega) (by omega))).mv (by omega) (by decide)
  obtain ⟨M4, e4, g3, g4⟩ := f_putContent (r := r) l3 fu (isCh_ok hx) (by omega) hfu
  rw [e4, bnd_k]
  have m4 : ∀ t i, t ≠ 15 → ¬ (t = 0 ∧ i = 5) → ¬ (t = 31 ∧ i = k) → M4 t i = M2 t i := fun t i a b c => by rw [g4 t i a b, mS, if_neg c]
  refine ⟨M4, rfl, ⟨?_, ?_⟩, ?_, g3, ?_, ?_⟩
  · rw [List.map_append]
    exact g1.of (m4 0 4 (by omega) (by omega) (by omega)) (fun j => m4 14 j (by omega) (by omega) (by omega))
  · intro j y hj
    rcases getl hj with ⟨q, hj⟩ | ⟨q, rfl⟩
    · obtain ⟨o, h1, h2⟩ := ho j y hj
      exact ⟨o, h1, by rw [m4 1 j (by omega) (by omega) (by omega), m2 1 j (by omega) (by omega) (by omega)]; exact h2⟩
    · refine ⟨k, rfl, ?_⟩
      rw [m4 1 j (by omega) (by omega) (by omega), g2 1 j (by omega) (by omega), q, mS_same]
  · rw [g4 31 k (by omega) (by omega), mS_same, m2 31 k (by omega) (by omega) (by omega)]
  · intro t i a b c d e f
    rw [m4 t i c (by omega) e, m2 t i b (by omega) (by omega)]
  · rw [m4 35 0 (by omega) (by omega) (by omega), m2 35 0 (by omega) (by omega) (by omega)]
def CR (M : gMem) (r : gRef) (T V : List Int32) (P : Ps) : Prop :=
  CX M r T V P.els ∧ M 35 0 = nI P.at_ ∧ P.at_ ≤ T.length ∧ V.length ≤ P.at_ ∧ r 3 0 = P.opn ∧ (∀ o, P.opn = some o → o < P.els.length) ∧ (∀ e, e < P.els.length → M 28 e = nI (chN P.els e)) ∧ (∀ (e : Nat) (E : Ele), P.els[e]? = some E → SPk r T P.els e E) ∧ RW M 5 (fmL T P.els P.evs) ∧ (fmL T P.els P.evs).length ≤ 6 * P.at_ ∧ CT M (ownS none P.evs) ∧ (ownS none P.evs).length ≤ P.at_ ∧ (∀ e, e < P.els.length → M 31 e = nI (owN (ownS none P.evs) e)) ∧ curS none P.evs = P.opn ∧ (∀ v ∈ P.evs, evOk P.els.length v) ∧ M 36 0 = 0 ∧ M 37 0 = -1 ∧ (∀ y ∈ ownS none P.evs, ∀ o, y.1 = some o → o < P.els.length)
section CRP
variable {M : gMem} {r : gRef} {T V : List Int32} {P : Ps}
theorem CR.cx (h : CR M r T V P) : CX M r T V P.els := h.1
theorem CR.fa (h : CR M r T V P) : M 35 0 = nI P.at_ := h.2.1
theorem CR.aT (h : CR M r T V P) : P.at_ ≤ T.length := h.2.2.1
theorem CR.va (h : CR M r T V P) : V.length ≤ P.at_ := h.2.2.2.1
theorem CR.op (h : CR M r T V P) : r 3 0 = P.opn := h.2.2.2.2.1
theorem CR.oe (h : CR M r T V P) : ∀ o, P.opn = some o → o < P.els.length := h.2.2.2.2.2.1
theorem CR.ic (h : CR M r T V P) : ∀ e, e < P.els.length → M 28 e = nI (chN P.els e) := h.2.2.2.2.2.2.1
theorem CR.sp (h : CR M r T V P) : ∀ (e : Nat) (E : Ele), P.els[e]? = some E → SPk r T P.els e E := h.2.2.2.2.2.2.2.1
theorem CR.fm (h : CR M r T V P) : RW M 5 (fmL T P.els P.evs) := h.2.2.2.2.2.2.2.2.1
theorem CR.fl (h : CR M r T V P) : (fmL T P.els P.evs).length ≤ 6 * P.at_ := h.2.2.2.2.2.2.2.2.2.1
theorem CR.ct (h : CR M r T V P) : CT M (ownS none P.evs) := h.2.2.2.2.2.2.2.2.2.2.1
theorem CR.cl (h : CR M r T V P) : (ownS none P.evs).length ≤ P.at_ := h.2.2.2.2.2.2.2.2.2.2.2.1
theorem CR.ow (h : CR M r T V P) : ∀ e, e < P.els.length → M 31 e = nI (owN (ownS none P.evs) e) := h.2.2.2.2.2.2.2.2.2.2.2.2.1
theorem CR.cu (h : CR M r T V P) : curS none P.evs = P.opn := h.2.2.2.2.2.2.2.2.2.2.2.2.2.1
theorem CR.ev (h : CR M r T V P) : ∀ v ∈ P.evs, evOk P.els.length v := h.2.2.2.2.2.2.2.2.2.2.2.2.2.2.1
theorem CR.wy (h : CR M r T V P) : M 36 0 = 0 := h.2.2.2.2.2.2.2.2.2.2.2.2.2.2.2.1
theorem CR.wp (h : CR M r T V P) : M 37 0 = -1 := h.2.2.2.2.2.2.2.2.2.2.2.2.2.2.2.2.1
theorem CR.ob (h : CR M r T V P) : ∀ y ∈ ownS none P.evs, ∀ o, y.1 = some o → o < P.els.length := h.2.2.2.2.2.2.2.2.2.2.2.2.2.2.2.2.2
theorem CR.tx (h : CR M r T V P) : TX M T := h.cx.tx
end CRP
theorem fmL_c (T : List Int32) (els : List Ele) (x : Int32) : fmL T els [Ev.c x] = escC x := by unfold fmL; simp [evF, Ev.c]
theorem ownS_c (o : Option Nat) (x : Int32) : ownS o [Ev.c x] = [(o, x)] := rfl
/-- a character of content put -/
theorem CR.put {M M' : gMem} {r : gRef} {T V : List Int32} {P : Ps} (h : CR M r T V P) {o : Nat} (ho : P.opn = some o) {x : Int32} {b : Nat} (hb : b ≤ T.length) (hab : P.at_ < b) (h1 : CT M' (ownS none P.evs ++ [(some o, x)])) (h2 : M' 31 o = M 31 o + 1) (h3 : RW M' 5 (fmL T P.els P.evs ++ escC x)) (hk : Kc o M M') (h5 : M' 35 0 = nI b) : CR M' r T V (b, P.els, P.evs ++ [Ev.c x], P.opn) := by
  have esl := escC_len x
  have e1 : ownS none (P.evs ++ [Ev.c x]) = ownS none P.evs ++ [(some o, x)] := by rw [ownS_cat, h.cu, ho]; rfl
  have e2 : fmL T P.els (P.evs ++ [Ev.c x]) = fmL T P.els P.evs ++ escC x := by rw [fmL_cat, fmL_c]
  have va := h.va; have cl := h.cl; have fl := h.fl
  refine ⟨h.cx.kx hk.kx (fun _ => rfl), h5, hb, ?_, h.op, h.oe, ?_, h.sp, ?_, ?_, ?_, ?_, ?_, ?_, ?_, ?_, ?_, ?_⟩
  · show V.length ≤ b; omega
  · intro e he; rw [hk 28 e (by omega) (by omega) (by omega) (by omega) (by omega) (by omega)]; exact h.ic e he
  · show RW M' 5 (fmL T P.els (P.evs ++ [Ev.c x])); rw [e2]; exact h3
  · show (fmL T P.els (P.evs ++ [Ev.c x])).length ≤ 6 * b; rw [e2, List.length_append]; omega
  · show CT M' (ownS none (P.evs ++ [Ev.c x])); rw [e1]; exact h1
  · show (ownS none (P.evs ++ [Ev.c x])).length ≤ b; rw [e1, List.length_append]; simp only [List.length_cons, List.length_nil]; omega
  · intro e he
    show M' 31 e = nI (owN (ownS none (P.evs ++ [Ev.c x])) e)
    rw [e1, owN_app]
    by_cases q : o = e
    · subst q; rw [if_pos rfl, h2, h.ow o he, nI_1]
    · rw [if_neg q, hk 31 e (by omega) (by omega) (by omega) (by omega) (by omega) (by omega), h.ow e he]; rfl
  · show curS none (P.evs ++ [Ev.c x]) = P.opn; rw [curS_cat, h.cu]; rfl
  · intro v hv
    show evOk P.els.length v
    rcases List.mem_append.mp hv with hv | hv
    · exact h.ev v hv
    · rw [List.mem_singleton] at hv; subst hv; exact True.intro
  · rw [hk 36 0 (by omega) (by omega) (by omega) (by omega) (by omega) (by omega)]; exact h.wy
  · rw [hk 37 0 (by omega) (by omega) (by omega) (by omega) (by omega) (by omega)]; exact h.wp
  · intro y hy p hp
    show p < P.els.length
    have hy' : y ∈ ownS none (P.evs ++ [Ev.c x]) := hy
    rw [e1] at hy'
    rcases List.mem_append.mp hy' with hy' | hy'
    · exact h.ob y hy' p hp
    · rw [List.mem_singleton] at hy'; subst hy'; injection hp with hp; subst hp; exact h.oe o ho
def Sx (x : gO Unit) (M : gMem) (T : List Int32) : Except Wr Ps → Prop
  | .ok Q => ∃ M' r' V', x = .ok () M' r' ∧ CR M' r' T V' Q ∧ Fr M M'
  | .error w => Ex x M w
/-- the place moved -/
theorem CR.mv {M : gMem} {r : gRef} {T V : List Int32} {P : Ps} (h : CR M r T V P) {b : Nat} (hb : b ≤ T.length) (hab : P.at_ ≤ b) : CR (mS M 35 0 (nI b)) r T V (b, P.els, P.evs, P.opn) := by
  have k : ∀ t i, ¬ (t = 35 ∧ i = 0) → (mS M 35 0 (nI b)) t i = M t i := fun t i q => by rw [mS, if_neg q]
  have va := h.va; have cl := h.cl; have fl := h.fl
  refine ⟨h.cx.kx (fun t i q => k t i (by omega)) (fun _ => rfl), mS_same _ _ _ _, hb, ?_, h.op, h.oe, ?_, h.sp, h.fm.mv (by omega) (by decide), ?_, ?_, ?_, ?_, h.cu, h.ev, ?_, ?_, h.ob⟩
  · show V.length ≤ b; omega
  · intro e he; rw [k 28 e (by omega)]; exact h.ic e he
  · show (fmL T P.els P.evs).length ≤ 6 * b; omega
  · exact ⟨h.ct.1.mv (by omega) (by decide), fun j y hj => by rw [k 1 j (by omega)]; exact h.ct.2 j y hj⟩
  · show (ownS none P.evs).length ≤ b; omega
  · intro e he; rw [k 31 e (by omega)]; exact h.ow e he
  · rw [k 36 0 (by omega)]; exact h.wy
  · rw [k 37 0 (by omega)]; exact h.wp
theorem st_ref {M : gMem} {r : gRef} {T V : List Int32} {P : Ps} (h : CR M r T V P) {o : Nat} (ho : P.opn = some o) (fu : Nat) (hfu : 1440 < fu) :
    Sx (gO.bnd (F_Rd_readReference fu M r) (fun v M r => F_Rd_addContent fu o v M r)) M T (match sRef T P.at_ with
      | none => .error (3, P.at_)
      | some (x, b) => .ok (b, P.els, P.evs ++ [Ev.c x], P.opn)) := by
  have hT := h.tx.le
  have g := f_reference h.tx fu r h.fa h.aT (by omega)
  cases hr : sRef T P.at_ with
  | none => rw [hr] at g; exact Ex.bnd _ g
  | some xb =>
    obtain ⟨x, b⟩ := xb
    rw [hr] at g
    have g0 : F_Rd_readReference fu M r = .ok x (mS M 35 0 (nI b)) r := g
    have g2 := sRef_ok h.aT hr
    have cl := h.cl; have fl := h.fl
    have hm := h.mv (b := b) g2.2.2.1 (by omega)
    obtain ⟨M2, e2, p1, p2, p3, p4, p5⟩ := f_addContent (r := r) hm.ct hm.fm fu (k := o) g2.1 (by show (ownS none P.evs).length < 240; omega) (by show (fmL T P.els P.evs).length + 6 ≤ 1440; omega) (by omega)
    rw [g0, bnd_k]
    refine ⟨M2, r, V, e2, ?_, ((Kc.s35 o M _).tr p4).fr⟩
    exact h.put ho g2.2.2.1 (by omega) p1 (by rw [p2, mS_tag _ (t := 35) (t2 := 31) _ _ _ (by decide)]) p3 ((Kc.s35 o M _).tr p4) (by rw [p5, mS_same])
theorem f_nextm1 {M : gMem} {T : List Int32} (h : TX M T) (fu : Nat) (r : gRef) {a : Nat} (ha : M 35 0 = nI a) (hb : a < 2 ^ 31) (h1 : 1 ≤ a) : F_Rd_next fu (-1) M r = .ok (ch T (a - 1)) M r :=
  f_nextN h fu r (by rw [ha, show (-1 : Int32) = 0 - nI 1 from rfl, ← pk_sub h1]; grind) (by omega)
theorem f_nextm2 {M : gMem} {T : List Int32} (h : TX M T) (fu : Nat) (r : gRef) {a : Nat} (ha : M 35 0 = nI a) (hb : a < 2 ^ 31) (h1 : 2 ≤ a) : F_Rd_next fu (-2) M r = .ok (ch T (a - 2)) M r :=
  f_nextN h fu r (by rw [ha, show (-2 : Int32) = 0 - nI 2 from rfl, ← pk_sub h1]; grind) (by omega)
theorem st_plain {M : gMem} {r : gRef} {T V : List Int32} {P : Ps} (h : CR M r T V P) {o : Nat} (ho : P.opn = some o) (h2 : 2 ≤ P.at_) (fu : Nat) (hfu : 1440 < fu) :
    Sx (F_Rd_readPlain fu o M r) M T (if ch T P.at_ = 0 ∨ (ch T P.at_ = 62 ∧ ch T (P.at_ - 1) = 93 ∧ ch T (P.at_ - 2) = 93) then .error (1, P.at_) else .ok (P.at_ + 1, P.els, P.evs ++ [Ev.c (ch T P.at_)], P.opn)) := by
  have hT := h.tx.le
  have aT := h.aT
  have cl := h.cl; have fl := h.fl
  unfold F_Rd_readPlain
  rw [f_next h.tx fu r h.fa (by omega), bnd_k]
  have bad : Sx (gO.bnd (F_Rd_fail fu 1 (M 35 0) M r) (fun _ _ _ => .no)) M T (.error (1, P.at_)) := Ex.bnd _ (f_fail fu r rfl h.fa)
  have good : ch T P.at_ ≠ 0 → Sx (gO.bnd (F_Rd_addContent fu o (ch T P.at_) M r) (fun _ M r => .ok () (mS M 35 0 ((M 35 0) + 1)) r)) M T (.ok (P.at_ + 1, P.els, P.evs ++ [Ev.c (ch T P.at_)], P.opn)) := by
    intro q
    have qb := lt_of_ch (T := T) (a := P.at_) rfl q
    obtain ⟨M2, e2, p1, p2, p3, p4, p5⟩ := f_addContent (r := r) h.ct h.fm fu (k := o) (h.tx.okc _ qb) (by omega) (by omega) (by omega)
    rw [e2, bnd_k, p5, h.fa, nI_1]
    refine ⟨_, r, V, rfl, ?_, (p4.tr (Kc.s35 o M2 _)).fr⟩
    refine h.put ho (by omega) (by omega) ⟨p1.1.mv (by omega) (by decide), fun j y hj => ?_⟩ ?_ (p3.mv (by omega) (by decide)) (p4.tr (Kc.s35 o M2 _)) (mS_same _ _ _ _)
    · rw [mS_tag _ (t := 35) (t2 := 1) _ _ _ (by decide)]; exact p1.2 j y hj
    · rw [mS_tag _ (t := 35) (t2 := 31) _ _ _ (by decide)]; exact p2
  by_cases q1 : ch T P.at_ = 62
  · have q0 : ch T P.at_ ≠ 0 := by rw [q1]; decide
    rw [if_pos q1, f_nextm1 h.tx fu r h.fa (by omega) (by omega), bnd_k]
    by_cases q2 : ch T (P.at_ - 1) = 93
    · rw [if_pos q2, f_nextm2 h.tx fu r h.fa (by omega) h2, bnd_k]
      by_cases q3 : ch T (P.at_ - 2) = 93
      · rw [if_pos q3, if_neg q0, if_pos (Or.inr ⟨q1, q2, q3⟩)]; exact bad
      · rw [if_neg q3, if_neg q0, if_neg (fun q => q.elim q0 (fun q => q3 q.2.2))]; exact good q0
    · rw [if_neg q2, if_neg q0, if_neg (fun q => q.elim q0 (fun q => q2 q.2.1))]; exact good q0
  · rw [if_neg q1]
    by_cases q0 : ch T P.at_ = 0
    · rw [if_pos q0, if_pos (Or.inl q0)]; exact bad
    · rw [if_neg q0, if_neg (fun q => q.elim q0 (fun q => q1 q.1))]; exact good q0
theorem st_comment {M : gMem} {r : gRef} {T V : List Int32} {P : Ps} (h : CR M r T V P) (fu : Nat) (hfu : 1440 < fu) :
    Sx (F_Rd_passComment fu M r) M T (match sCom T P.at_ with
      | .error e => .error e
      | .ok b => .ok (b, P.els, P.evs, P.opn)) := by
  have g := f_passComment h.tx fu r h.fa h.aT (by omega)
  cases hc : sCom T P.at_ with
  | error w => rw [hc] at g; exact g
  | ok b =>
    rw [hc] at g
    have g2 := sCom_ok h.aT hc
    exact ⟨_, r, V, g, h.mv g2.2.1 (by omega), (Fr.rfl' M).s (by omega)⟩
