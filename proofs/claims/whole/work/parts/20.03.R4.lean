/-! The reference: values and attributes -/
theorem push_eq {M : gMem} {k : Nat} (h : M 107 0 = nI k) (hk : k < 2 ^ 31) (v : Int32) : mS (mS M 108 (M 107 0).toNatClampNeg v) 107 0 (((mS M 108 (M 107 0).toNatClampNeg v) 107 0) + 1) = mS (mS M 108 k v) 107 0 (nI (k + 1)) := by
  rw [mS_tag _ (t := 108) (t2 := 107) _ _ _ (by decide), h, nI_clamp hk, nI_1]
theorem PL.push {M : gMem} {U : List Int32} (h : PL M U) (c : Int32) (hU : U.length < 240) : PL (mS (mS M 108 U.length c) 107 0 (nI (U.length + 1))) (U ++ [c]) := by
  refine ⟨by rw [List.length_append]; simp only [List.length_cons, List.length_nil]; omega, fun j hj => ?_⟩
  rw [List.length_append] at hj; simp only [List.length_cons, List.length_nil] at hj
  rw [mS_tag _ (t := 107) (t2 := 108) _ _ _ (by decide), ch_app]
  by_cases q : j < U.length
  · rw [if_pos q, mS_ix _ _ _ (by omega)]; exact h.2 j q
  · rw [if_neg q, show j = U.length by omega, mS_same, Nat.sub_self]; rfl
def Qv (a : Nat) (M M' : gMem) : Prop := ∀ t i, t ≠ 103 → t ≠ 107 → t ≠ 108 → ¬ ((t = 120 ∨ t = 121) ∧ i = a) → M' t i = M t i
theorem Qv.tr {a : Nat} {M M1 M2 : gMem} (h : Qv a M M1) (h2 : Qv a M1 M2) : Qv a M M2 := fun t i p q s u => (h2 t i p q s u).trans (h t i p q s u)
theorem Qv.rf {a : Nat} {M M' : gMem} (h : Qv a M M') : Rf M M' := fun t i q => h t i (by omega) (by omega) (by omega) (by omega)
theorem g_valueLoop {T U : List Int32} {m : Int32} (hm : m ≠ 0) {fu a : Nat} {r : gRef} (ha : a < 144) (hfu : 240 < fu) :
    ∀ d b e acc M, TXr M T → M 103 0 = nI b → PL M (U ++ acc) → M 107 0 = nI (U ++ acc).length → (U ++ acc).length ≤ b → b ≤ T.length → M 120 a = nI U.length → T.length - b < d → T.length - b < e →
    match sVal T m e b acc with
    | .ok (z, v) => ∃ M', F_Mo_readValue_L51 fu (nI a) d m M r = .ok 1 M' r ∧ M' 103 0 = nI z ∧ M' 107 0 = nI (U ++ v).length ∧ PL M' (U ++ v) ∧ M' 120 a = nI U.length ∧ M' 121 a = nI v.length ∧ Qv a M M' ∧ (U ++ v).length ≤ z
    | .error w => Rx (F_Mo_readValue_L51 fu (nI a) d m M r) M r w := by
  intro d
  induction d with
  | zero => intro b e acc M _ _ _ _ _ _ _ h1; omega
  | succ d ih =>
    intro b e acc M hT hb hP hu hub hbT h120 h1 h2
    obtain ⟨e, rfl⟩ : ∃ e', e = e' + 1 := ⟨e - 1, by omega⟩
    have hle := hT.le
    rw [F_Mo_readValue_L51, hb, g_here hT fu r (by omega), bnd_k, sVal]
    by_cases q1 : ch T b = m
    · have q2 := lt_of_ch q1 hm
      rw [if_pos q1, if_pos q1, F_Mo_readValue_B174, gd_yes (vp_in_nI ha (by decide)), gd_yes (vp_in_nI ha (by decide)), hb, nI_1, nI_clamp (by omega)]
      have e1 : (mS M 103 0 (nI (b + 1))) 107 0 = nI (U ++ acc).length := by rw [mS_tag _ (t := 103) (t2 := 107) _ _ _ (by decide)]; exact hu
      have e2 : (mS M 103 0 (nI (b + 1))) 120 a = nI U.length := by rw [mS_tag _ (t := 103) (t2 := 120) _ _ _ (by decide)]; exact h120
      rw [e1, e2, List.length_append, pk_sub (by omega), Nat.add_sub_cancel_left]
      refine ⟨_, rfl, ?_, ?_, ?_, ?_, mS_same _ _ _ _, ?_, by omega⟩
      · rw [mS_tag _ (t := 121) (t2 := 103) _ _ _ (by decide), mS_same]
      · rw [mS_tag _ (t := 121) (t2 := 107) _ _ _ (by decide), e1]
      · exact hP.of (fun j _ => by rw [mS_tag _ (t := 121) (t2 := 108) _ _ _ (by decide), mS_tag _ (t := 103) (t2 := 108) _ _ _ (by decide)])
      · rw [mS_tag _ (t := 121) (t2 := 120) _ _ _ (by decide), e2]
      · intro t i p q s u; rw [mS, if_neg (by omega), mS, if_neg (by omega)]
    rw [if_neg q1, if_neg q1, hb, g_here hT fu r (by omega), bnd_k, hb, hT.len]
    by_cases qe : b = T.length
    · have h0 : ch T b = 0 := ch_out (by omega)
      rw [if_pos (show nI b = nI T.length by rw [qe]), if_neg (show ¬ ch T b = 60 by rw [h0]; decide), if_pos h0]
      exact g_fail fu r rfl rfl
    have qb : b < T.length := by omega
    have h0 : ch T b ≠ 0 := isCh_ne (hT.okc b qb)
    rw [if_neg (fun q => qe ((nI_eq (by omega) (by omega)).mp q))]
    by_cases q2 : ch T b = 60
    · rw [if_pos q2, if_pos q2]; exact g_fail fu r rfl rfl
    rw [if_neg q2, if_neg q2, if_neg h0]
    have fin : ∀ (y : Int32) (c : Nat) (M2 : gMem), M2 = mS (mS (mS M 103 0 (nI c)) 108 (U ++ acc).length y) 107 0 (nI ((U ++ acc).length + 1)) → b < c → c ≤ T.length →
        match sVal T m e c (acc ++ [y]) with
        | .ok (z, v) => ∃ M', F_Mo_readValue_L51 fu (nI a) d m M2 r = .ok 1 M' r ∧ M' 103 0 = nI z ∧ M' 107 0 = nI (U ++ v).length ∧ PL M' (U ++ v) ∧ M' 120 a = nI U.length ∧ M' 121 a = nI v.length ∧ Qv a M M' ∧ (U ++ v).length ≤ z
        | .error w => Rx (F_Mo_readValue_L51 fu (nI a) d m M2 r) M r w := by
      intro y c M2 hM2 hbc hcT
      have pl2 : PL (mS M 103 0 (nI c)) (U ++ acc) := hP.of (fun j _ => mS_tag _ _ _ _ (by decide))
      have pp := pl2.push y (by omega)
      rw [← hM2] at pp
      have k2 : Qv a M M2 := fun t i p q s u => by subst hM2; rw [mS, if_neg (by omega), mS, if_neg (by omega), mS, if_neg (by omega)]
      have h2a : M2 120 a = nI U.length := by subst hM2; rw [mS_tag _ (t := 107) (t2 := 120) _ _ _ (by decide), mS_tag _ (t := 108) (t2 := 120) _ _ _ (by decide), mS_tag _ (t := 103) (t2 := 120) _ _ _ (by decide)]; exact h120
      have hln : (U ++ (acc ++ [y])).length = (U ++ acc).length + 1 := by rw [← List.append_assoc, List.length_append (bs := [y])]; rfl
      have g5 := ih c e (acc ++ [y]) M2 (k2.rf.tx hT) (by subst hM2; rw [mS_tag _ (t := 107) (t2 := 103) _ _ _ (by decide), mS_tag _ (t := 108) (t2 := 103) _ _ _ (by decide), mS_same]) (by rw [← List.append_assoc]; exact pp) (by subst hM2; rw [mS_same, hln]) (by omega) hcT h2a (by omega) (by omega)
      cases hs : sVal T m e c (acc ++ [y]) with
      | error w => rw [hs] at g5; exact Rx.tr k2.rf g5
      | ok zv =>
        obtain ⟨z, v⟩ := zv
        rw [hs] at g5
        obtain ⟨M3, e3, p1, p2, p3, p4, p5, p6, p7⟩ := g5
        exact ⟨M3, e3, p1, p2, p3, p4, p5, k2.tr p6, p7⟩
    by_cases q4 : ch T b = 38
    · rw [if_pos q4, if_pos q4]
      have g := g_reference hT fu r hb q4 hfu
      cases hr : sRef T b with
      | none =>
        rw [hr] at g
        have g' : F_Mo_reference fu M r = .ok (-1) M r := g
        rw [g', bnd_k, if_neg (by decide)]
        exact g_fail fu r rfl rfl
      | some xc =>
        obtain ⟨x, c⟩ := xc
        rw [hr] at g
        have g' : F_Mo_reference fu M r = .ok x (mS M 103 0 (nI c)) r := g
        have g2 := sRef_ok hbT hr
        have x0 : 0 ≤ x := by have := (isCh_r g2.1).1; rw [Int32.le_iff_toInt_le]; exact this
        have e1 : (mS M 103 0 (nI c)) 107 0 = nI (U ++ acc).length := by rw [mS_tag _ (t := 103) (t2 := 107) _ _ _ (by decide)]; exact hu
        rw [g', bnd_k, if_pos x0, gd_yes (by rw [e1]; exact vp_in_nI (by omega) (by decide)), push_eq e1 (by omega) x]
        exact fin x c _ rfl (by omega) g2.2.2.1
    rw [if_neg q4, if_neg q4]
    have e1 : (mS M 103 0 (nI (b + 1))) 107 0 = nI (U ++ acc).length := by rw [mS_tag _ (t := 103) (t2 := 107) _ _ _ (by decide)]; exact hu
    by_cases q5 : ch T b = 10
    · rw [if_pos q5, if_pos q5, nI_1, gd_yes (by rw [e1]; exact vp_in_nI (by omega) (by decide)), push_eq e1 (by omega) 32]
      exact fin 32 (b + 1) _ rfl (by omega) (by omega)
    · rw [if_neg q5, if_neg q5, nI_1, gd_yes (by rw [e1]; exact vp_in_nI (by omega) (by decide)), push_eq e1 (by omega) (ch T b)]
      exact fin _ (b + 1) _ rfl (by omega) (by omega)
theorem g_readValue {M : gMem} {T U : List Int32} (hT : TXr M T) (fu : Nat) (r : gRef) {a b : Nat} (ha : a < 144) (hb : M 103 0 = nI b) (hbT : b ≤ T.length) (hP : PL M U) (hu : M 107 0 = nI U.length) (hub : U.length ≤ b) (hfu : 240 < fu) :
    (ch T b = 34 ∨ ch T b = 39 → match sVal T (ch T b) (T.length + 1) (b + 1) [] with
      | .ok (z, v) => ∃ M', F_Mo_readValue fu (nI a) M r = .ok 1 M' r ∧ M' 103 0 = nI z ∧ M' 107 0 = nI (U ++ v).length ∧ PL M' (U ++ v) ∧ M' 120 a = nI U.length ∧ M' 121 a = nI v.length ∧ Qv a M M' ∧ (U ++ v).length ≤ z
      | .error w => Rx (F_Mo_readValue fu (nI a) M r) M r w) ∧ (¬ (ch T b = 34 ∨ ch T b = 39) → Rx (F_Mo_readValue fu (nI a) M r) M r (1, b)) := by
  have hle := hT.le
  unfold F_Mo_readValue
  rw [hb, g_here hT fu r (by omega), bnd_k]
  have core : ch T b ≠ 0 → ∀ X, X = gd (vp_in (nI a) 144) (F_Mo_readValue_L51 fu (nI a) fu (ch T b) (mS (mS M 103 0 ((M 103 0) + 1)) 120 (nI a).toNatClampNeg ((mS M 103 0 ((M 103 0) + 1)) 107 0)) r) → match sVal T (ch T b) (T.length + 1) (b + 1) [] with
      | .ok (z, v) => ∃ M', X = .ok 1 M' r ∧ M' 103 0 = nI z ∧ M' 107 0 = nI (U ++ v).length ∧ PL M' (U ++ v) ∧ M' 120 a = nI U.length ∧ M' 121 a = nI v.length ∧ Qv a M M' ∧ (U ++ v).length ≤ z
      | .error w => Rx X M r w := by
    intro hm X hX
    have qb := lt_of_ch (T := T) (a := b) rfl hm
    have e1 : (mS M 103 0 (nI (b + 1))) 107 0 = nI U.length := by rw [mS_tag _ (t := 103) (t2 := 107) _ _ _ (by decide)]; exact hu
    rw [gd_yes (vp_in_nI ha (by decide)), hb, nI_1, e1, nI_clamp (by omega)] at hX
    have k0 : Qv a M (mS (mS M 103 0 (nI (b + 1))) 120 a (nI U.length)) := fun t i p q s u => by rw [mS, if_neg (by omega), mS, if_neg (by omega)]
    have g := g_valueLoop (T := T) (U := U) hm (r := r) ha hfu fu (b + 1) (T.length + 1) [] _ (k0.rf.tx hT) (by rw [mS_tag _ (t := 120) (t2 := 103) _ _ _ (by decide), mS_same]) (by rw [List.append_nil]; exact hP.of (fun j _ => by rw [mS_tag _ (t := 120) (t2 := 108) _ _ _ (by decide), mS_tag _ (t := 103) (t2 := 108) _ _ _ (by decide)])) (by rw [List.append_nil, mS_tag _ (t := 120) (t2 := 107) _ _ _ (by decide)]; exact e1) (by rw [List.append_nil]; omega) (by omega) (mS_same _ _ _ _) (by omega) (by omega)
    rw [← hX] at g
    cases hs : sVal T (ch T b) (T.length + 1) (b + 1) [] with
    | error w => rw [hs] at g; exact Rx.tr k0.rf g
    | ok zv =>
      obtain ⟨z, v⟩ := zv
      rw [hs] at g
      obtain ⟨M3, e3, p1, p2, p3, p4, p5, p6, p7⟩ := g
      exact ⟨M3, e3, p1, p2, p3, p4, p5, k0.tr p6, p7⟩
  rw [hb] at core
  by_cases q1 : ch T b = 34
  · refine ⟨fun _ => ?_, fun h => absurd (Or.inl q1) h⟩
    rw [if_pos q1, hb]; exact core (by rw [q1]; decide) _ rfl
  by_cases q2 : ch T b = 39
  · refine ⟨fun _ => ?_, fun h => absurd (Or.inr q2) h⟩
    rw [if_neg q1, if_pos q2, hb]; exact core (by rw [q2]; decide) _ rfl
  · refine ⟨fun h => absurd h (fun q => q.elim q1 q2), fun _ => ?_⟩
    rw [if_neg q1, if_neg q2]; exact g_fail fu r rfl hb
/-- an attribute of the reference: its name and value lie in the pool -/
def ATr (M : gMem) (T U : List Int32) (a : Nat) (x : Att) : Prop :=
  (∃ f, M 116 a = nI f ∧ f + (x.nm.z - x.nm.s) ≤ U.length ∧ stre U f (f + (x.nm.z - x.nm.s)) = nmT T x.nm) ∧ M 117 a = nI (x.nm.z - x.nm.s) ∧ M 118 a = czn x.nm ∧ M 119 a = nI x.nm.s ∧ (∃ g, M 120 a = nI g ∧ g + x.val.length ≤ U.length ∧ stre U g (g + x.val.length) = x.val) ∧ M 121 a = nI x.val.length ∧ x.nm.s < x.nm.z ∧ x.nm.z ≤ T.length ∧ x.nm.s ≤ x.nm.l ∧ x.nm.l < x.nm.z
theorem ATr.of {M M' : gMem} {T U : List Int32} {a : Nat} {x : Att} (h : ATr M T U a x) (W : List Int32) (h1 : ∀ t, 116 ≤ t → t ≤ 121 → M' t a = M t a) : ATr M' T (U ++ W) a x := by
  obtain ⟨⟨f, a1, a2, a3⟩, b1, b2, b3, ⟨g, c1, c2, c3⟩, d1, d2⟩ := h
  refine ⟨⟨f, (h1 116 (by omega) (by omega)).trans a1, by rw [List.length_append]; omega, by rw [stre_app a2]; exact a3⟩, (h1 117 (by omega) (by omega)).trans b1, (h1 118 (by omega) (by omega)).trans b2, (h1 119 (by omega) (by omega)).trans b3, ⟨g, (h1 120 (by omega) (by omega)).trans c1, by rw [List.length_append]; omega, by rw [stre_app c2]; exact c3⟩, (h1 121 (by omega) (by omega)).trans d1, d2⟩
def Qa (a e : Nat) (M M' : gMem) : Prop := ∀ t i, t ≠ 103 → t ≠ 107 → t ≠ 108 → t ≠ 131 → t ≠ 132 → t ≠ 133 → ¬ (116 ≤ t ∧ t ≤ 121 ∧ i = a) → ¬ (t = 115 ∧ i = e) → M' t i = M t i
theorem Qa.rf {a e : Nat} {M M' : gMem} (h : Qa a e M M') : Rf M M' := fun t i q => h t i (by omega) (by omega) (by omega) (by omega) (by omega) (by omega) (by omega) (by omega)
theorem sName_lz {T : List Int32} {a l z : Nat} (hs : sName T a = .ok (l, z)) : l < z := by
  unfold sName at hs
  split at hs
  · rename_i q
    have h1 := lt_of_ch (T := T) (a := a) rfl (pb_ne q)
    have h2 := scan_lt h1 (pb_go q)
    split at hs
    · split at hs
      · rename_i q2
        have h4 := lt_of_ch (T := T) (a := scan gon T a + 1) rfl (pb_ne q2)
        have h5 := scan_lt h4 (pb_go q2)
        injection hs with hs; injection hs with e1 e2; omega
      · cases hs
    · injection hs with hs; injection hs with e1 e2; omega
  · cases hs
theorem g_readAttribute {M : gMem} {T U : List Int32} (hT : TXr M T) (fu : Nat) (r : gRef) {e c b : Nat} (he : e < 24) (hc : M 115 e = nI c) (hc6 : c < 6) (hb : M 103 0 = nI b) (hbT : b ≤ T.length) (hP : PL M U) (hu : M 107 0 = nI U.length) (hub : U.length ≤ b) (hfu : 240 < fu) :
    match sAtt T b with
    | .ok (x, z) => ∃ M', F_Mo_readAttribute fu (nI e) M r = .ok 1 M' r ∧ M' 103 0 = nI z ∧ M' 115 e = nI (c + 1) ∧ ATr M' T (U ++ (nmT T x.nm ++ x.val)) (6 * e + c) x ∧ PL M' (U ++ (nmT T x.nm ++ x.val)) ∧ M' 107 0 = nI (U ++ (nmT T x.nm ++ x.val)).length ∧ Qa (6 * e + c) e M M' ∧ (U ++ (nmT T x.nm ++ x.val)).length ≤ z
    | .error w => Rx (F_Mo_readAttribute fu (nI e) M r) M r w := by
  have hle := hT.le
  have ha : 6 * e + c < 144 := by omega
  have vin : vp_in (nI (6 * e + c)) 144 := vp_in_nI ha (by decide)
  unfold F_Mo_readAttribute
  rw [nI_clamp (n := e) (by omega), hc, show (6 : Int32) = nI 6 from rfl, nI_mul, nI_add, gd_yes (vp_in_nI he (by decide)), gd_yes vin, nI_clamp (n := 6 * e + c) (by omega), hb]
  have q0 : Qa (6 * e + c) e M (mS M 119 (6 * e + c) (nI b)) := fun t i _ _ _ _ _ _ u _ => by rw [mS, if_neg (by omega)]
  have n := g_readName (q0.rf.tx hT) fu r (U := U) (by rw [mS_tag _ (t := 119) (t2 := 103) _ _ _ (by decide)]; exact hb) hbT (by rw [mS_tag _ (t := 119) (t2 := 107) _ _ _ (by decide)]; exact hu) hub (hP.of (fun j _ => mS_tag _ _ _ _ (by decide))) hfu
  unfold sAtt
  cases hs : sName T b with
  | error w => rw [hs] at n; exact Rx.if0 _ (Rx.tr q0.rf n)
  | ok lz =>
    obtain ⟨l, z⟩ := lz
    rw [hs] at n
    obtain ⟨M1, e1, n1, n2, n3, n4, n5, n6, n7⟩ := n
    have nl := sName_le hs
    have nlz := sName_lz hs
    rw [e1, bnd_k, if_neg (by decide), gd_yes vin, gd_yes vin, gd_yes vin]
    have w1 : (mS M1 116 (6 * e + c) (M1 131 0)) 132 0 = nI (z - b) := by rw [mS_tag _ (t := 116) (t2 := 132) _ _ _ (by decide)]; exact n4
    rw [w1]
    have w2 : (mS (mS M1 116 (6 * e + c) (M1 131 0)) 117 (6 * e + c) (nI (z - b))) 133 0 = czn ((b, l, z) : Nam) := by rw [mS_tag _ (t := 117) (t2 := 133) _ _ _ (by decide), mS_tag _ (t := 116) (t2 := 133) _ _ _ (by decide)]; exact n5
    rw [w2, n3]
    generalize hM2 : mS (mS (mS M1 116 (6 * e + c) (nI U.length)) 117 (6 * e + c) (nI (z - b))) 118 (6 * e + c) (czn ((b, l, z) : Nam)) = M2
    have k12 : ∀ t i, ¬ (116 ≤ t ∧ t ≤ 118 ∧ i = 6 * e + c) → M2 t i = M1 t i := fun t i u => by subst hM2; rw [mS, if_neg (by omega), mS, if_neg (by omega), mS, if_neg (by omega)]
    have m116 : M2 116 (6 * e + c) = nI U.length := by subst hM2; rw [mS_tag _ (t := 118) (t2 := 116) _ _ _ (by decide), mS_tag _ (t := 117) (t2 := 116) _ _ _ (by decide), mS_same]
    have m117 : M2 117 (6 * e + c) = nI (z - b) := by subst hM2; rw [mS_tag _ (t := 118) (t2 := 117) _ _ _ (by decide), mS_same]
    have m118 : M2 118 (6 * e + c) = czn ((b, l, z) : Nam) := by subst hM2; exact mS_same _ _ _ _
    have q2 : Qa (6 * e + c) e M M2 := fun t i a1 a2 a3 a4 a5 a6 u v => by rw [k12 t i (by omega), n7 t i a1 a2 a3 a4 a5 a6]; exact q0 t i a1 a2 a3 a4 a5 a6 u v
    have m119 : M2 119 (6 * e + c) = nI b := by rw [k12 119 _ (by omega), n7 119 _ (by omega) (by omega) (by omega) (by omega) (by omega) (by omega), mS_same]
    have t2 := q2.rf.tx hT
    have a2 : M2 103 0 = nI z := by rw [k12 103 0 (by omega)]; exact n1
    have p2 : PL M2 (U ++ stre T b z) := n6.of (fun j _ => k12 108 j (by omega))
    have hsl := stre_len (L := T) (s := b) nl.2.1
    have u2 : M2 107 0 = nI (U ++ stre T b z).length := by rw [k12 107 0 (by omega), n2, List.length_append, hsl]
    rw [g_skip t2 fu r a2 nl.2.1 hfu, bnd_k]
    dsimp only
    have s1 := scan_ge bl T z
    have s2 := scan_le bl nl.2.1
    generalize scan bl T z = f at *
    have t3 : TXr (mS M2 103 0 (nI f)) T := t2.mv (by omega) (by omega)
    by_cases q1 : ch T f = 61
    · have qf := lt_of_ch q1 (by decide)
      rw [if_pos q1, g_over1 t3 fu r (mS_same _ _ _ _) (by omega) q1, bnd_k, if_neg (show ¬ (1 : Int32) = 0 by decide), mS_mS, g_skip (t2.mv (by omega) (by omega)) fu r (mS_same _ _ _ _) (by omega : f + 1 ≤ T.length) hfu, bnd_k, mS_mS]
      have s3 := scan_ge bl T (f + 1)
      have s4 := scan_le bl (by omega : f + 1 ≤ T.length)
      generalize scan bl T (f + 1) = g at *
      have t4 : TXr (mS M2 103 0 (nI g)) T := t2.mv (by omega) (by omega)
      have q4 : Qa (6 * e + c) e M (mS M2 103 0 (nI g)) := fun t i a1 a2 a3 a4 a5 a6 u v => by rw [mS, if_neg (by omega)]; exact q2 t i a1 a2 a3 a4 a5 a6 u v
      obtain ⟨v1, v2⟩ := g_readValue t4 fu r ha (mS_same _ _ _ _) s4 (p2.of (fun j _ => mS_tag _ _ _ _ (by decide))) (by rw [mS_tag _ (t := 103) (t2 := 107) _ _ _ (by decide)]; exact u2) (by rw [List.length_append, hsl]; omega) hfu
      by_cases q5 : ch T g = 34 ∨ ch T g = 39
      · rw [if_pos q5]
        have v3 := v1 q5
        cases hv : sVal T (ch T g) (T.length + 1) (g + 1) [] with
        | error w => rw [hv] at v3; exact Rx.if0 _ (Rx.tr q4.rf v3)
        | ok zv =>
          obtain ⟨y, v⟩ := zv
          rw [hv] at v3
          obtain ⟨M5, e5, r1, r2, r3, r4, r5, r6, r7⟩ := v3
          have hc5 : M5 115 e = nI c := by
            rw [r6 115 e (by omega) (by omega) (by omega) (by omega), mS_tag _ (t := 103) (t2 := 115) _ _ _ (by decide), k12 115 e (by omega), n7 115 e (by omega) (by omega) (by omega) (by omega) (by omega) (by omega), mS_tag _ (t := 119) (t2 := 115) _ _ _ (by decide)]; exact hc
          rw [e5, bnd_k, if_neg (show ¬ (1 : Int32) = 0 by decide), gd_yes (vp_in_nI he (by decide)), gd_yes (vp_in_nI he (by decide)), if_neg (nI_pos (by omega)), hc5, nI_1]
          have app : U ++ stre T b z ++ v = U ++ (nmT T (Att.nm (((b, l, z), v) : Att)) ++ Att.val (((b, l, z), v) : Att)) := List.append_assoc _ _ _
          have kM : ∀ t i, t ≠ 103 → t ≠ 107 → t ≠ 108 → t ≠ 115 → ¬ ((t = 120 ∨ t = 121) ∧ i = 6 * e + c) → (mS M5 115 e (nI (c + 1))) t i = M2 t i := fun t i a1 a2 a3 a4 a5 => by rw [mS_tag _ _ _ _ a4, r6 t i a1 a2 a3 a5, mS_tag _ _ _ _ a1]
          refine ⟨_, rfl, ?_, mS_same _ _ _ _, ?_, ?_, ?_, ?_, ?_⟩
          · rw [mS_tag _ (t := 115) (t2 := 103) _ _ _ (by decide)]; exact r1
          · rw [← app]
            refine ⟨⟨U.length, by rw [kM 116 _ (by omega) (by omega) (by omega) (by omega) (by omega)]; exact m116, ?_, ?_⟩, by rw [kM 117 _ (by omega) (by omega) (by omega) (by omega) (by omega)]; exact m117, by rw [kM 118 _ (by omega) (by omega) (by omega) (by omega) (by omega)]; exact m118, by rw [kM 119 _ (by omega) (by omega) (by omega) (by omega) (by omega)]; exact m119, ⟨(U ++ stre T b z).length, by rw [mS_tag _ (t := 115) (t2 := 120) _ _ _ (by decide)]; exact r4, ?_, ?_⟩, by rw [mS_tag _ (t := 115) (t2 := 121) _ _ _ (by decide)]; exact r5, nl.1, nl.2.1, nl.2.2.1, nlz⟩
            · show U.length + (z - b) ≤ _; rw [List.length_append, List.length_append, hsl]; omega
            · show stre (U ++ stre T b z ++ v) U.length (U.length + (z - b)) = stre T b z
              rw [stre_app (by rw [List.length_append, hsl]; omega), ← hsl, stre_all]
            · show (U ++ stre T b z).length + v.length ≤ _; rw [List.length_append (bs := v)]; omega
            · show stre (U ++ stre T b z ++ v) (U ++ stre T b z).length ((U ++ stre T b z).length + v.length) = v
              exact stre_all
          · rw [← app]; exact r3.of (fun j _ => mS_tag _ _ _ _ (by decide))
          · rw [← app, mS_tag _ (t := 115) (t2 := 107) _ _ _ (by decide)]; exact r2
          · intro t i a1 a2 a3 a4 a5 a6 u v9
            rw [mS, if_neg (by omega), r6 t i a1 a2 a3 (by omega)]; exact q4 t i a1 a2 a3 a4 a5 a6 u v9
          · rw [← app]; exact r7
      · rw [if_neg q5]; exact Rx.if0 _ (Rx.tr q4.rf (v2 q5))
    · rw [if_neg q1]
      exact Rx.if0 _ (Rx.tr (q2.rf.s (by omega)) (g_over0 t3 fu r (mS_same _ _ _ _) (by omega) q1))
