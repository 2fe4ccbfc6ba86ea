/-! The form that the class writes -/
def Ks (M M' : gMem) : Prop := ∀ t i, t ≠ 15 → ¬ (t = 0 ∧ i = 5) → ¬ (t = 34 ∧ i = 0) → M' t i = M t i
theorem Ks.tr {M M1 M2 : gMem} (h : Ks M M1) (h2 : Ks M1 M2) : Ks M M2 := fun t i a b c => (h2 t i a b c).trans (h t i a b c)
theorem Ks.rfl' (M : gMem) : Ks M M := fun _ _ _ _ _ => rfl
theorem Kr.ks {M M' : gMem} (h : Kr 5 M M') : Ks M M' := fun t i a b _ => h t i a b
theorem Ks.fr {M M' : gMem} (h : Ks M M') : Fr M M' := fun t i q => h t i (by omega) (by omega) (by omega)
theorem Ks.s (M : gMem) (v : Int32) : Ks M (mS M 34 0 v) := fun t i _ _ c => by rw [mS, if_neg c]
theorem CX.ks {M M' : gMem} {r r' : gRef} {T V : List Int32} {els : List Ele} (h : CX M r T V els) (hk : Ks M M') (hr : ∀ i, r' 1 i = r 1 i) : CX M' r' T V els := by
  have k : ∀ t i, t ≠ 15 → t ≠ 0 → t ≠ 34 → M' t i = M t i := fun t i a b c => hk t i a (by omega) (by omega)
  refine ⟨h.tx.of (hk 0 2 (by omega) (by omega) (by omega)) (fun j => k 12 j (by omega) (by omega) (by omega)), h.vv.of (hk 0 3 (by omega) (by omega) (by omega)) (fun j => k 13 j (by omega) (by omega) (by omega)), ⟨?_, h.ce.le, ?_, h.ce.pl⟩, ?_, ?_⟩
  · rw [k 2 0 (by omega) (by omega) (by omega)]; exact h.ce.len
  · intro e E hE
    have el := h.ce.el e E hE
    refine ⟨el.nm.of (fun t ht => k t _ (by omega) (by omega) (by omega)), ?_, el.c6, ?_, ?_, ?_, ?_, el.d12⟩
    · rw [k 29 e (by omega) (by omega) (by omega)]; exact el.cn
    · rw [k 30 e (by omega) (by omega) (by omega)]; exact el.dn
    · have := el.ats.of (M' := M') [] (fun t i a b _ => k t _ (by omega) (by omega) (by omega)); rw [List.append_nil] at this; exact this
    · rw [hr]; exact el.par
    · rw [k 27 e (by omega) (by omega) (by omega)]; exact el.dp
  · rw [k 23 144 (by omega) (by omega) (by omega)]; exact h.z1
  · rw [k 24 144 (by omega) (by omega) (by omega)]; exact h.z2
theorem Kr.cx {M M' : gMem} {r : gRef} {T V : List Int32} {els : List Ele} (hk : Kr 5 M M') (h : CX M r T V els) : CX M' r T V els := h.ks hk.ks (fun _ => rfl)
theorem ok_list {R : List Int32} (h : ∀ c ∈ R, cOK c) (j : Nat) : cOK (ch R j) := by
  by_cases q : j < R.length
  · rw [ch_in q]; exact h _ (List.getElem_mem q)
  · rw [ch_out (by omega)]; exact cOK_0
theorem ok_dec {R : List Int32} (h : ∀ c ∈ R, isCh c = true) (j : Nat) : cOK (ch R j) := ok_list (fun c hc => isCh_ok (h c hc)) j
abbrev Pu (x : gO Unit) (M : gMem) (r : gRef) (L R : List Int32) : Prop := ∃ M', x = .ok () M' r ∧ RW M' 5 (L ++ R) ∧ Kr 5 M M'
theorem Pu.ret {x : gO Unit} {M : gMem} {r : gRef} {L R : List Int32} (h : Pu x M r L R) : Pu (gO.bnd x (fun _ M r => .ok () M r)) M r L R := by
  obtain ⟨M', e, h1, h2⟩ := h; exact ⟨M', by rw [e]; rfl, h1, h2⟩
theorem f_putContent {M : gMem} {r : gRef} {L : List Int32} (h : RW M 5 L) (fu : Nat) {c : Int32} (hc : cOK c) (hl : L.length + (escC c).length ≤ 1440) (hfu : 240 < fu) : Pu (F_FW_putContent fu c M r) M r L (escC c) := by
  have n5 : nRow 5 = 1440 := rfl
  unfold F_FW_putContent; unfold escC at hl ⊢
  split
  · rename_i q; rw [if_pos q] at hl; exact Pu.ret (f_puts 18 rfl (ok_dec (by decide)) (by decide) hfu h (by rw [n5]; exact hl))
  rename_i q1; rw [if_neg q1] at hl
  split
  · rename_i q; rw [if_pos q] at hl; exact Pu.ret (f_puts 19 rfl (ok_dec (by decide)) (by decide) hfu h (by rw [n5]; exact hl))
  rename_i q2; rw [if_neg q2] at hl
  split
  · rename_i q; rw [if_pos q] at hl; exact Pu.ret (f_puts 20 rfl (ok_dec (by decide)) (by decide) hfu h (by rw [n5]; exact hl))
  rename_i q3; rw [if_neg q3] at hl
  exact Pu.ret (f_put h fu r hc (by rw [n5]; exact hl))
theorem f_putInValue {M : gMem} {r : gRef} {L : List Int32} (h : RW M 5 L) (fu : Nat) {c : Int32} (hc : cOK c) (hl : L.length + (escV c).length ≤ 1440) (hfu : 240 < fu) : Pu (F_FW_putInValue fu c M r) M r L (escV c) := by
  have n5 : nRow 5 = 1440 := rfl
  unfold F_FW_putInValue; unfold escV at hl ⊢
  split
  · rename_i q; rw [if_pos q] at hl; exact Pu.ret (f_puts 18 rfl (ok_dec (by decide)) (by decide) hfu h (by rw [n5]; exact hl))
  rename_i q1; rw [if_neg q1] at hl
  split
  · rename_i q; rw [if_pos q] at hl; exact Pu.ret (f_puts 19 rfl (ok_dec (by decide)) (by decide) hfu h (by rw [n5]; exact hl))
  rename_i q2; rw [if_neg q2] at hl
  split
  · rename_i q; rw [if_pos q] at hl; exact Pu.ret (f_puts 21 rfl (ok_dec (by decide)) (by decide) hfu h (by rw [n5]; exact hl))
  rename_i q3; rw [if_neg q3] at hl
  split
  · rename_i q; rw [if_pos q] at hl; exact Pu.ret (f_puts 13 rfl (ok_dec (by decide)) (by decide) hfu h (by rw [n5]; exact hl))
  rename_i q4; rw [if_neg q4] at hl
  exact Pu.ret (f_put h fu r hc (by rw [n5]; exact hl))
theorem f_putName {M : gMem} {r : gRef} {T L : List Int32} (hT : TX M T) {k : Nat} {n : Nam} (hn : NM M T k n) (h : RW M 5 L) (fu : Nat) (hl : L.length + (nmT T n).length ≤ 1440) (hfu : 240 < fu) : Pu (F_FW_putName fu k M r) M r L (nmT T n) := by
  have n5 : nRow 5 = 1440 := rfl
  have hle := hT.le
  have l1 := hn.sl; have l2 := hn.lz; have l3 := hn.zT
  have key : ∀ d i M1 L1, n.z - i < d → i ≤ n.z → TX M1 T → M1 22 k = nI n.z → RW M1 5 L1 → L1.length + (n.z - i) ≤ 1440 → Pu (F_FW_putName_L5 fu k d (nI i) M1 r) M1 r L1 (stre T i n.z) := by
    intro d
    induction d with
    | zero => intro i M1 L1 h1; omega
    | succ d ih =>
      intro i M1 L1 h1 h2 t1 z1 w1 c1
      rw [F_FW_putName_L5, z1]
      by_cases q : i < n.z
      · obtain ⟨M2, e2, g1, g2⟩ := f_put w1 fu r (t1.okk i) (by omega)
        rw [if_neg (nI_ge q (by omega)), f_rowAt t1.rw fu r (by omega), bnd_k, e2, bnd_k, nI_1, stre_cons l3 q]
        obtain ⟨M3, e3, g3, g4⟩ := ih (i + 1) M2 (L1 ++ [ch T i]) (by omega) (by omega) (t1.of (g2 0 2 (by omega) (by omega)) (fun j => g2 12 j (by omega) (by omega))) (by rw [g2 22 k (by omega) (by omega)]; exact z1) g1 (by rw [List.length_append]; simp only [List.length_cons, List.length_nil]; omega)
        exact ⟨M3, e3, by rw [List.append_assoc] at g3; exact g3, g2.tr g4⟩
      · rw [if_pos (nI_le (by omega) (by omega)), F_FW_putName_B37, stre_end (by omega)]
        exact ⟨M1, rfl, by rw [List.append_nil]; exact w1, Kr.rfl' 5 M1⟩
  unfold F_FW_putName
  rw [hn.fs]
  unfold nmT at hl; rw [stre_len l3] at hl
  exact key fu n.s M L (by omega) (by omega) hT hn.fz h hl
theorem f_putAttribute {M : gMem} {r : gRef} {T V L : List Int32} {els : List Ele} (hX : CX M r T V els) {a : Nat} {x : Att} (ha : AT M T V a x) (h : RW M 5 L) (fu : Nat) (hl : L.length + (attF T x).length ≤ 1440) (hfu : 240 < fu) : Pu (F_FW_putAttribute fu a M r) M r L (attF T x) := by
  have n5 : nRow 5 = 1440 := rfl
  have hV : V.length ≤ 240 := hX.vv.le
  obtain ⟨s, v1, v2, v3, v4⟩ := ha.vs
  unfold attF at hl
  simp only [List.length_append, List.length_cons, List.length_nil] at hl
  have key : ∀ d i M1 L1, s + x.val.length - i < d → s ≤ i → i ≤ s + x.val.length → RW M1 3 V → M1 24 a = nI (s + x.val.length) → RW M1 5 L1 → L1.length + ((stre V i (s + x.val.length)).flatMap escV).length + 1 ≤ 1440 → Pu (F_FW_putAttribute_L31 fu a d (nI i) M1 r) M1 r L1 ((stre V i (s + x.val.length)).flatMap escV ++ [34]) := by
    intro d
    induction d with
    | zero => intro i M1 L1 h1; omega
    | succ d ih =>
      intro i M1 L1 h1 h2 h3 t1 z1 w1 c1
      rw [F_FW_putAttribute_L31, z1]
      by_cases q : i < s + x.val.length
      · rw [stre_cons v3 q, List.flatMap_cons] at c1 ⊢
        rw [List.length_append] at c1
        obtain ⟨M2, e2, g1, g2⟩ := f_putInValue (r := r) w1 fu (t1.okc i) (by omega) hfu
        rw [if_neg (nI_ge q (by omega)), f_rowAt t1 fu r (by omega), bnd_k, e2, bnd_k, nI_1]
        obtain ⟨M3, e3, g3, g4⟩ := ih (i + 1) M2 (L1 ++ escV (ch V i)) (by omega) (by omega) (by omega) (t1.of (g2 0 3 (by omega) (by omega)) (fun j => g2 13 j (by omega) (by omega))) (by rw [g2 24 a (by omega) (by omega)]; exact z1) g1 (by rw [List.length_append]; omega)
        exact ⟨M3, e3, by rw [List.append_assoc] at g3; rw [List.append_assoc]; exact g3, g2.tr g4⟩
      · rw [stre_end (by omega)] at c1 ⊢
        rw [if_pos (nI_le (by omega) (by omega)), F_FW_putAttribute_B60]
        exact Pu.ret (f_put w1 fu r (isCh_ok (by decide)) (by rw [n5]; simp only [List.flatMap_nil, List.length_nil] at c1; omega))
  obtain ⟨M1, e1, g1, k1⟩ := f_put h fu r (c := 32) (isCh_ok (by decide)) (by rw [n5]; omega)
  have x1 := k1.cx hX
  have nm1 : NM M1 T a x.nm := ha.nm.of (fun t ht => k1 t a (by omega) (by omega))
  obtain ⟨M2, e2, g2, k2⟩ := f_putName (r := r) x1.tx nm1 g1 fu (by rw [List.length_append]; simp only [List.length_cons, List.length_nil]; omega) hfu
  obtain ⟨M3, e3, g3, k3⟩ := f_puts (fu := fu) (r := r) 12 (R := [61, 34]) rfl (ok_dec (by decide)) (by decide) hfu g2 (by rw [n5]; simp only [List.length_append, List.length_cons, List.length_nil]; omega)
  have k := (k1.tr k2).tr k3
  have x3 := k.cx hX
  obtain ⟨M4, e4, g4, k4⟩ := key fu s M3 _ (by omega) (by omega) (by omega) x3.vv (by rw [k 24 a (by omega) (by omega)]; exact v2) g3 (by rw [v4]; simp only [List.length_append, List.length_cons, List.length_nil]; omega)
  unfold F_FW_putAttribute
  rw [e1, bnd_k, e2, bnd_k, e3, bnd_k, k 23 a (by omega) (by omega), v1]
  refine ⟨M4, e4, ?_, k.tr k4⟩
  rw [v4] at g4
  unfold attF
  simpa only [List.append_assoc] using g4
theorem f_endElement {M : gMem} {r : gRef} {T V L : List Int32} {els : List Ele} (hX : CX M r T V els) {k : Nat} {E : Ele} (hE : els[k]? = some E) (h : RW M 5 L) (fu : Nat) (hl : L.length + (endF T E).length ≤ 1440) (hfu : 240 < fu) : Pu (F_FW_endElement fu k M r) M r L (endF T E) := by
  have n5 : nRow 5 = 1440 := rfl
  have el := hX.ce.el k E hE
  unfold endF at hl
  simp only [List.length_append, List.length_cons, List.length_nil] at hl
  obtain ⟨M1, e1, g1, k1⟩ := f_puts (fu := fu) (r := r) 22 (R := [60, 47]) rfl (ok_dec (by decide)) (by decide) hfu h (by rw [n5]; simp only [List.length_cons, List.length_nil]; omega)
  have x1 := k1.cx hX
  obtain ⟨M2, e2, g2, k2⟩ := f_putName (r := r) x1.tx (x1.ce.el k E hE).nm g1 fu (by rw [List.length_append]; simp only [List.length_cons, List.length_nil]; omega) hfu
  obtain ⟨M3, e3, g3, k3⟩ := f_put g2 fu r (c := 62) (isCh_ok (by decide)) (by rw [n5]; simp only [List.length_append, List.length_cons, List.length_nil]; omega)
  unfold F_FW_endElement
  rw [e1, bnd_k, e2, bnd_k, e3, bnd_k]
  refine ⟨M3, rfl, ?_, (k1.tr k2).tr k3⟩
  unfold endF; simpa only [List.append_assoc] using g3
