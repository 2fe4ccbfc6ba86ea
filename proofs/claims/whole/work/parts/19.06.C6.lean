/-! Attributes and tags of the class -/
def AT (M : gMem) (T V : List Int32) (a : Nat) (x : Att) : Prop :=
  (NM M T a x.nm) ∧
  (M 25 a = b2 (isD T x.nm)) ∧
  (∃ s, M 23 a = nI s ∧ M 24 a = nI (s + x.val.length) ∧ s + x.val.length ≤ V.length ∧ stre V s (s + x.val.length) = x.val)
theorem AT.nm {M : gMem} {T V : List Int32} {a : Nat} {x : Att} (h : AT M T V a x) : NM M T a x.nm := h.1
theorem AT.dc {M : gMem} {T V : List Int32} {a : Nat} {x : Att} (h : AT M T V a x) : M 25 a = b2 (isD T x.nm) := h.2.1
theorem AT.vs {M : gMem} {T V : List Int32} {a : Nat} {x : Att} (h : AT M T V a x) : ∃ s, M 23 a = nI s ∧ M 24 a = nI (s + x.val.length) ∧ s + x.val.length ≤ V.length ∧ stre V s (s + x.val.length) = x.val := h.2.2
theorem AT.of {M M' : gMem} {T V : List Int32} {a : Nat} {x : Att} (h : AT M T V a x) (W : List Int32) (h1 : ∀ t, 20 ≤ t → t ≤ 25 → M' t a = M t a) : AT M' T (V ++ W) a x := by
  refine ⟨h.nm.of (fun t ht => h1 t (by omega) (by omega)), (h1 25 (by omega) (by omega)).trans h.dc, ?_⟩
  obtain ⟨s, e1, e2, e3, e4⟩ := h.vs
  exact ⟨s, (h1 23 (by omega) (by omega)).trans e1, (h1 24 (by omega) (by omega)).trans e2, by rw [List.length_append]; omega, by rw [stre_app e3]; exact e4⟩
def Ka (j k : Nat) (M M' : gMem) : Prop := ∀ t i, ¬ (i = j ∧ 20 ≤ t ∧ t ≤ 25) → ¬ (i = k ∧ (t = 29 ∨ t = 30)) → ¬ (t = 35 ∧ i = 0) → t ≠ 13 → ¬ (t = 0 ∧ i = 3) → M' t i = M t i
theorem Ka.fr {j k : Nat} {M M' : gMem} (h : Ka j k M M') (hj : j < 144) : Fr M M' := fun t i q => h t i (by omega) (by omega) (by omega) (by omega) (by omega)
theorem Ka.tx {j k : Nat} {M M' : gMem} {T : List Int32} (h : Ka j k M M') (hT : TX M T) : TX M' T := hT.of (h 0 2 (by omega) (by omega) (by omega) (by omega) (by omega)) (fun i => h 12 i (by omega) (by omega) (by omega) (by omega) (by omega))
theorem f_readValue {M : gMem} {T V : List Int32} (hT : TX M T) (fu : Nat) (r : gRef) {b : Nat} (ha : M 35 0 = nI b) (hbT : b ≤ T.length) (hV : RW M 3 V) (hVb : V.length ≤ b) (k : Nat) (hk : k < 144) (hfu : 240 < fu) :
    (ch T b = 34 ∨ ch T b = 39 → match sVal T (ch T b) (T.length + 1) (b + 1) [] with
      | .ok (z, v) => ∃ M', F_Rd_readValue fu k M r = .ok () M' r ∧ M' 35 0 = nI z ∧ M' 23 k = nI V.length ∧ M' 24 k = nI (V.length + v.length) ∧ RW M' 3 (V ++ v) ∧ (∀ t j, ¬ (t = 35 ∧ j = 0) → ¬ ((t = 23 ∨ t = 24) ∧ j = k) → t ≠ 13 → ¬ (t = 0 ∧ j = 3) → M' t j = M t j) ∧ (V ++ v).length ≤ z ∧ b < z ∧ z ≤ T.length
      | .error w => Ex (F_Rd_readValue fu k M r) M w) ∧ (¬ (ch T b = 34 ∨ ch T b = 39) → Ex (F_Rd_readValue fu k M r) M (1, b)) := by
  have hle := hT.le
  unfold F_Rd_readValue
  rw [f_next hT fu r ha (by omega), bnd_k]
  have hcore : ch T b ≠ 0 → ∀ X, X = F_Rd_readValue_L53 fu k fu (ch T b) 0 (mS (mS M 35 0 ((M 35 0) + 1)) 23 k ((mS M 35 0 ((M 35 0) + 1)) 0 3)) r → match sVal T (ch T b) (T.length + 1) (b + 1) [] with
      | .ok (z, v) => ∃ M', X = .ok () M' r ∧ M' 35 0 = nI z ∧ M' 23 k = nI V.length ∧ M' 24 k = nI (V.length + v.length) ∧ RW M' 3 (V ++ v) ∧ (∀ t j, ¬ (t = 35 ∧ j = 0) → ¬ ((t = 23 ∨ t = 24) ∧ j = k) → t ≠ 13 → ¬ (t = 0 ∧ j = 3) → M' t j = M t j) ∧ (V ++ v).length ≤ z ∧ b < z ∧ z ≤ T.length
      | .error w => Ex X M w := by
    intro hm X hX
    have qb := lt_of_ch (T := T) (a := b) rfl hm
    rw [ha, nI_1, mS_tag _ (t := 35) (t2 := 0) _ _ _ (by decide), hV.len, ← nI_0] at hX
    have g := f_valueLoop (T := T) (V := V) hm (k := k) (r := r) hk hfu fu 0 (b + 1) (T.length + 1) [] (mS (mS M 35 0 (nI (b + 1))) 23 k (nI V.length)) ((hT.mv (by omega) (by decide)).mv (by omega) (by decide)) (by rw [mS_tag _ (t := 23) (t2 := 35) _ _ _ (by decide), mS_same]) (by rw [List.append_nil]; exact (hV.mv (by omega) (by decide)).mv (by omega) (by decide)) (by rw [List.append_nil]; omega) (by omega) (by omega) (by omega) (by omega)
    rw [← hX] at g
    cases hs : sVal T (ch T b) (T.length + 1) (b + 1) [] with
    | error w => rw [hs] at g; exact Ex.tr (((Fr.rfl' M).s (by omega)).s (by omega)) g
    | ok zv =>
      obtain ⟨z, v⟩ := zv
      rw [hs] at g; obtain ⟨M3, e3, p1, p2, p3, p4, p5, p6, p7⟩ := g
      refine ⟨M3, e3, p1, ?_, ?_, p3, ?_, p5, by omega, p7⟩
      · rw [p4 23 k (by omega) (by omega) (by omega) (by omega), mS_same]
      · rw [p2, List.length_append]
      · intro t j a1 a2 a3 a4
        rw [p4 t j a1 (by omega) a3 a4, mS, if_neg (by omega), mS, if_neg a1]
  by_cases q1 : ch T b = 34
  · refine ⟨fun _ => ?_, fun h => absurd (Or.inl q1) h⟩
    rw [if_pos q1]; exact hcore (by rw [q1]; decide) _ rfl
  by_cases q2 : ch T b = 39
  · refine ⟨fun _ => ?_, fun h => absurd (Or.inr q2) h⟩
    rw [if_neg q1, if_pos q2]; exact hcore (by rw [q2]; decide) _ rfl
  · refine ⟨fun h => absurd h (fun q => q.elim q1 q2), fun _ => ?_⟩
    rw [if_neg q1, if_neg q2]; exact Ex.bnd _ (f_fail fu r rfl ha)
theorem f_readAttribute {M : gMem} {T V : List Int32} (hT : TX M T) (fu : Nat) (r : gRef) {a : Nat} (ha : M 35 0 = nI a) (haT : a ≤ T.length) (hV : RW M 3 V) (hVa : V.length ≤ a) {k c : Nat} (hk : k < 24) (hc : M 29 k = nI c) (hc6 : c < 6) (hfu : 240 < fu) :
    match sAtt T a with
    | .ok (x, e) => ∃ M', F_Rd_readAttribute fu k M r = .ok () M' (rS r 0 (6 * k + c) (some 144)) ∧ M' 35 0 = nI e ∧ M' 29 k = nI (c + 1) ∧ M' 30 k = M 30 k + b2 (isD T x.nm) ∧ AT M' T (V ++ x.val) (6 * k + c) x ∧ RW M' 3 (V ++ x.val) ∧ Ka (6 * k + c) k M M' ∧ (V ++ x.val).length ≤ e ∧ a < e ∧ e ≤ T.length
    | .error w => Ex (F_Rd_readAttribute fu k M r) M w := by
  have hle := hT.le
  unfold F_Rd_readAttribute
  rw [hc, gd_yes (vp_in_nI hc6 (by decide)), nI_clamp (by omega)]
  have g1 := f_readName hT fu r ha haT (6 * k + c) hfu
  unfold sAtt
  cases hs : sName T a with
  | error w => rw [hs] at g1; exact Ex.bnd _ g1
  | ok lz =>
    obtain ⟨l, z⟩ := lz
    rw [hs] at g1
    obtain ⟨M1, e1, n1⟩ := g1
    have nl := sName_le hs
    have k1 : Ka (6 * k + c) k M M1 := fun t i a1 a2 a3 a4 a5 => n1.kp t i (by omega) a3
    have t1 := k1.tx hT
    have nm1 : NM M1 T (6 * k + c) ⟨a, l, z⟩ := ⟨n1.fs, n1.fl, n1.fz, nl.2.2.1, nl.2.2.2, nl.2.1⟩
    rw [e1, bnd_k, f_isDecl t1 nm1 fu _ hfu, bnd_k, gd_yes (b2_01 _)]
    have t2 : TX (mS M1 25 (6 * k + c) (b2 (isD T ⟨a, l, z⟩))) T := t1.mv (by omega) (by decide)
    have a2 : (mS M1 25 (6 * k + c) (b2 (isD T ⟨a, l, z⟩))) 35 0 = nI z := by rw [mS_tag _ (t := 25) (t2 := 35) _ _ _ (by decide)]; exact n1.fa
    rw [f_passBlanks t2 fu _ a2 nl.2.1 hfu, bnd_k]
    have s1 := scan_ge bl T z
    have s2 := scan_le bl nl.2.1
    generalize hM2 : mS M1 25 (6 * k + c) (b2 (isD T ⟨a, l, z⟩)) = M2 at *
    have v1 : RW M1 3 V := hV.of (n1.kp 0 3 (by omega) (by omega)) (fun j => n1.kp 13 j (by omega) (by omega))
    have v2 : RW M2 3 V := by subst hM2; exact v1.mv (by omega) (by decide)
    have d2 : M2 25 (6 * k + c) = b2 (isD T ⟨a, l, z⟩) := by subst hM2; exact mS_same _ _ _ _
    have m2 : ∀ t i, ¬ (t = 25 ∧ i = 6 * k + c) → M2 t i = M1 t i := by intro t i u; subst hM2; rw [mS, if_neg u]
    have k2 : Ka (6 * k + c) k M M2 := by
      intro t i u1 u2 u3 u4 u5; rw [m2 t i (by omega)]; exact k1 t i u1 u2 u3 u4 u5
    dsimp only
    generalize scan bl T z = b at *
    have t3 : TX (mS M2 35 0 (nI b)) T := t2.mv (by omega) (by decide)
    by_cases q1 : ch T b = 61
    · have qb := lt_of_ch q1 (by decide)
      rw [if_pos q1, f_pass1 t3 fu _ (mS_same _ _ _ _) s2 q1, bnd_k, mS_mS, f_passBlanks (t2.mv (by omega) (by decide)) fu _ (mS_same _ _ _ _) (by omega : b + 1 ≤ T.length) hfu, bnd_k, mS_mS]
      have s3 := scan_ge bl T (b + 1)
      have s4 := scan_le bl (by omega : b + 1 ≤ T.length)
      generalize scan bl T (b + 1) = f at *
      have t4 : TX (mS M2 35 0 (nI f)) T := t2.mv (by omega) (by decide)
      have k4 : Ka (6 * k + c) k M (mS M2 35 0 (nI f)) := by
        intro t i u1 u2 u3 u4 u5; rw [mS, if_neg u3]; exact k2 t i u1 u2 u3 u4 u5
      have v4 : RW (mS M2 35 0 (nI f)) 3 V := v2.mv (by omega) (by decide)
      obtain ⟨g5, g6⟩ := f_readValue t4 fu (rS r 0 (6 * k + c) (some 144)) (mS_same _ _ _ _) s4 v4 (by omega) (6 * k + c) (by omega) hfu
      by_cases q2 : ch T f = 34 ∨ ch T f = 39
      · rw [if_pos q2]
        have g7 := g5 q2
        cases hv : sVal T (ch T f) (T.length + 1) (f + 1) [] with
        | error w => rw [hv] at g7; exact Ex.bnd _ (Ex.tr (k4.fr (by omega)) g7)
        | ok ev =>
          obtain ⟨e, v⟩ := ev
          rw [hv] at g7
          obtain ⟨M5, e5, p1, p2, p3, p4, p5, p6, p7, p8⟩ := g7
          rw [e5, bnd_k]
          have kk : ∀ t i, ¬ (t = 35 ∧ i = 0) → ¬ ((t = 23 ∨ t = 24) ∧ i = 6 * k + c) → t ≠ 13 → ¬ (t = 0 ∧ i = 3) → M5 t i = M2 t i := by
            intro t i u1 u2 u3 u4; rw [p5 t i u1 u2 u3 u4, mS, if_neg u1]
          have kM : ∀ t i, ¬ (i = 6 * k + c ∧ 20 ≤ t ∧ t ≤ 25) → ¬ (t = 35 ∧ i = 0) → t ≠ 13 → ¬ (t = 0 ∧ i = 3) → M5 t i = M t i := by
            intro t i u1 u2 u3 u4; rw [kk t i u2 (by omega) u3 u4, m2 t i (by omega), n1.kp t i (by omega) u2]
          have c5 : M5 29 k = nI c := by rw [kM 29 k (by omega) (by omega) (by omega) (by omega)]; exact hc
          have d5 : M5 25 (6 * k + c) = b2 (isD T ⟨a, l, z⟩) := by rw [kk 25 _ (by omega) (by omega) (by omega) (by omega)]; exact d2
          have dd : M5 30 k = M 30 k := kM 30 k (by omega) (by omega) (by omega) (by omega)
          have nm5 : NM M5 T (6 * k + c) ⟨a, l, z⟩ := nm1.of (fun t ht => by rw [kk t _ (by omega) (by omega) (by omega) (by omega), m2 t _ (by omega)])
          have at5 : AT M5 T (V ++ v) (6 * k + c) ⟨⟨a, l, z⟩, v⟩ := ⟨nm5, d5, V.length, p2, p3, by rw [List.length_append]; exact Nat.le_refl _, stre_all⟩
          rw [mS_tag _ (t := 29) (t2 := 25) _ _ _ (by decide), d5, c5, nI_1]
          cases hd : isD T ⟨a, l, z⟩ with
          | false =>
            rw [if_pos (by decide)]
            refine ⟨_, rfl, ?_, mS_same _ _ _ _, ?_, ?_, p4.mv (by omega) (by decide), ?_, p6, by omega, p8⟩
            · rw [mS_tag _ (t := 29) (t2 := 35) _ _ _ (by decide)]; exact p1
            · rw [mS_tag _ (t := 29) (t2 := 30) _ _ _ (by decide), dd]; show M 30 k = M 30 k + b2 (isD T ((a, l, z) : Nam)); rw [hd]; exact (Int32.add_zero _).symm
            · have := at5.of (M' := mS M5 29 k (nI (c + 1))) [] (fun t h1 h2 => mS_tag _ _ _ _ (by omega))
              rw [List.append_nil] at this; exact this
            · intro t i u1 u2 u3 u4 u5; rw [mS, if_neg (by omega)]; exact kM t i u1 u3 u4 u5
          | true =>
            rw [if_neg (by decide), mS_tag _ (t := 29) (t2 := 30) _ _ _ (by decide), dd]
            refine ⟨_, rfl, ?_, ?_, ?_, ?_, (p4.mv (by omega) (by decide)).mv (by omega) (by decide), ?_, p6, by omega, p8⟩
            · rw [mS_tag _ (t := 30) (t2 := 35) _ _ _ (by decide), mS_tag _ (t := 29) (t2 := 35) _ _ _ (by decide)]; exact p1
            · rw [mS_tag _ (t := 30) (t2 := 29) _ _ _ (by decide), mS_same]
            · rw [mS_same]; show M 30 k + 1 = M 30 k + b2 (isD T ((a, l, z) : Nam)); rw [hd]; rfl
            · have := at5.of (M' := mS (mS M5 29 k (nI (c + 1))) 30 k (M 30 k + 1)) [] (fun t h1 h2 => by rw [mS_tag _ _ _ _ (by omega), mS_tag _ _ _ _ (by omega)])
              rw [List.append_nil] at this; exact this
            · intro t i u1 u2 u3 u4 u5; rw [mS, if_neg (by omega), mS, if_neg (by omega)]; exact kM t i u1 u3 u4 u5
      · rw [if_neg q2]; exact Ex.bnd _ (Ex.tr (k4.fr (by omega)) (g6 q2))
    · rw [if_neg q1]
      refine Ex.bnd _ (Ex.tr (Fr.s (k2.fr (by omega)) (by omega)) (f_pass0 t3 fu _ (mS_same _ _ _ _) s2 q1))
