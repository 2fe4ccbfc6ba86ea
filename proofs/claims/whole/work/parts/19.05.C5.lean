/-! Names and attributes of the class -/
def NM (M : gMem) (T : List Int32) (k : Nat) (n : Nam) : Prop :=
  (M 20 k = nI n.s) ∧
  (M 21 k = nI n.l) ∧
  (M 22 k = nI n.z) ∧
  (n.s ≤ n.l) ∧
  (n.l ≤ n.z) ∧
  (n.z ≤ T.length)
theorem NM.fs {M : gMem} {T : List Int32} {k : Nat} {n : Nam} (h : NM M T k n) : M 20 k = nI n.s := h.1
theorem NM.fl {M : gMem} {T : List Int32} {k : Nat} {n : Nam} (h : NM M T k n) : M 21 k = nI n.l := h.2.1
theorem NM.fz {M : gMem} {T : List Int32} {k : Nat} {n : Nam} (h : NM M T k n) : M 22 k = nI n.z := h.2.2.1
theorem NM.sl {M : gMem} {T : List Int32} {k : Nat} {n : Nam} (h : NM M T k n) : n.s ≤ n.l := h.2.2.2.1
theorem NM.lz {M : gMem} {T : List Int32} {k : Nat} {n : Nam} (h : NM M T k n) : n.l ≤ n.z := h.2.2.2.2.1
theorem NM.zT {M : gMem} {T : List Int32} {k : Nat} {n : Nam} (h : NM M T k n) : n.z ≤ T.length := h.2.2.2.2.2
theorem NM.of {M M' : gMem} {T : List Int32} {k : Nat} {n : Nam} (h : NM M T k n) (h1 : ∀ t, t = 20 ∨ t = 21 ∨ t = 22 → M' t k = M t k) : NM M' T k n :=
  ⟨(h1 20 (by omega)).trans h.fs, (h1 21 (by omega)).trans h.fl, (h1 22 (by omega)).trans h.fz, h.sl, h.lz, h.zT⟩
theorem f_hasPrefix {M : gMem} {T : List Int32} {k : Nat} {n : Nam} (h : NM M T k n) (hT : T.length ≤ 240) (fu : Nat) (r : gRef) : F_Nm_hasPrefix fu k M r = .ok (b2 n.pre) M r := by
  have := h.sl; have := h.lz; have := h.zT
  unfold F_Nm_hasPrefix Nam.pre
  rw [h.fs, h.fl]
  by_cases q : n.l ≤ n.s
  · rw [if_pos (nI_le q (by omega))]; simp [b2, Nat.not_lt.mpr q]
  · rw [if_neg (nI_ge (by omega) (by omega))]; simp [b2, Nat.lt_of_not_le q]
theorem f_prefixEnd {M : gMem} {T : List Int32} {k : Nat} {n : Nam} (h : NM M T k n) (hT : T.length ≤ 240) (fu : Nat) (r : gRef) : F_Nm_prefixEnd fu k M r = .ok (nI n.pz) M r := by
  have := h.sl; have := h.lz; have := h.zT
  unfold F_Nm_prefixEnd Nam.pz
  rw [f_hasPrefix h hT, bnd_k, h.fs, h.fl]
  unfold Nam.pre
  by_cases q : n.s < n.l
  · rw [if_pos q, decide_eq_true q, if_neg (by decide), show (1 : Int32) = nI 1 from rfl, pk_sub (by omega)]
  · rw [if_neg q, decide_eq_false q, if_pos (by decide)]
theorem f_declaredStart {M : gMem} {T : List Int32} {k : Nat} {n : Nam} (h : NM M T k n) (hT : T.length ≤ 240) (fu : Nat) (r : gRef) : F_At_declaredStart fu k M r = .ok (nI (if n.s < n.l then n.l else n.z)) M r := by
  unfold F_At_declaredStart
  rw [f_hasPrefix h hT, bnd_k, h.fl, h.fz]
  unfold Nam.pre
  by_cases q : n.s < n.l
  · rw [if_pos q, decide_eq_true q, if_neg (by decide)]
  · rw [if_neg q, decide_eq_false q, if_pos (by decide)]
theorem b2_nb (b : Bool) : gNb (b2 b) := by cases b; exact gNb_0; exact gNb_1
theorem b2_01 (b : Bool) : b2 b = 0 ∨ b2 b = 1 := by cases b <;> simp [b2]
theorem f_isDecl {M : gMem} {T : List Int32} (hT : TX M T) {k : Nat} {n : Nam} (h : NM M T k n) (fu : Nat) (r : gRef) (hfu : 240 < fu) : F_Tr_isDeclaration fu k M r = .ok (b2 (isD T n)) M r := by
  have := h.sl; have := h.lz; have := h.zT
  unfold F_Tr_isDeclaration isD
  rw [f_hasPrefix h hT.le, bnd_k]
  by_cases q : n.s < n.l
  · rw [if_neg (by rw [b2_0]; simp [Nam.pre, q]), f_prefixEnd h hT.le, bnd_k, h.fs, f_stretchIs hT.rw fu r 2 (R := [120, 109, 108, 110, 115]) rfl (by decide) (by unfold Nam.pz; split <;> omega) (by unfold Nam.pz; split <;> omega) hfu, bnd_k, gd_yes (b2_nb _), if_pos q]
    unfold Nam.pz; rw [if_pos q]
  · rw [if_pos (by rw [b2_0]; simp [Nam.pre, q]), h.fs, h.fz, f_stretchIs hT.rw fu r 2 (R := [120, 109, 108, 110, 115]) rfl (by decide) (by omega) h.zT hfu, bnd_k, gd_yes (b2_nb _), if_neg q]
/-- only the place and the values have changed, and the value's end -/
def Kv (k : Nat) (M M' : gMem) : Prop := ∀ t j, ¬ (t = 35 ∧ j = 0) → ¬ (t = 24 ∧ j = k) → t ≠ 13 → ¬ (t = 0 ∧ j = 3) → M' t j = M t j
theorem Kv.tr {k : Nat} {M M1 M2 : gMem} (h : Kv k M M1) (h2 : Kv k M1 M2) : Kv k M M2 := fun t j a b c d => (h2 t j a b c d).trans (h t j a b c d)
theorem Kr.kv {k : Nat} {M M' : gMem} (h : Kr 3 M M') : Kv k M M' := fun t j _ _ c d => h t j c d
theorem Kv.s35 (k : Nat) (M : gMem) (v : Int32) : Kv k M (mS M 35 0 v) := fun t j a _ _ _ => by rw [mS, if_neg a]
theorem Kv.fr {k : Nat} {M M' : gMem} (h : Kv k M M') (hk : k < 144) : Fr M M' := fun t i q => h t i (by omega) (by omega) (by omega) (by omega)
theorem Kv.tx {k : Nat} {M M' : gMem} {T : List Int32} (h : Kv k M M') (hT : TX M T) : TX M' T := hT.of (h 0 2 (by omega) (by omega) (by omega) (by omega)) (fun j => h 12 j (by omega) (by omega) (by omega) (by omega))
theorem isCh_blank {c : Int32} (h : isCh c = true) : isCh (if c = 10 then 32 else c) = true := by
  split
  · decide
  · exact h
theorem f_valueLoop {T V : List Int32} {m : Int32} (hm : m ≠ 0) {fu k : Nat} {r : gRef} (hk : k < 144) (hfu : 240 < fu) :
    ∀ d n b e acc M, TX M T → M 35 0 = nI b → RW M 3 (V ++ acc) → (V ++ acc).length ≤ b → n + 1 ≤ b → b ≤ T.length → T.length - n < d → T.length - b < e →
    match sVal T m e b acc with
    | .ok (z, v) => ∃ M', F_Rd_readValue_L53 fu k d m (nI n) M r = .ok () M' r ∧ M' 35 0 = nI z ∧ M' 24 k = nI (V ++ v).length ∧ RW M' 3 (V ++ v) ∧ Kv k M M' ∧ (V ++ v).length ≤ z ∧ b < z ∧ z ≤ T.length
    | .error w => Ex (F_Rd_readValue_L53 fu k d m (nI n) M r) M w := by
  intro d
  induction d with
  | zero => intro n b e acc M _ _ _ _ _ _ h1; omega
  | succ d ih =>
    intro n b e acc M hT ha hV hVb hnb hbT h1 h2
    obtain ⟨e, rfl⟩ : ∃ e', e = e' + 1 := ⟨e - 1, by omega⟩
    have hle := hT.le
    rw [F_Rd_readValue_L53, hT.len, if_neg (nI_ge (by omega) (by omega)), f_next hT fu r ha (by omega), bnd_k, sVal]
    by_cases q1 : ch T b = m
    · have q2 := lt_of_ch q1 hm
      rw [if_pos q1, if_pos q1, F_Rd_readValue_B165, f_pass1 hT fu r ha hbT q1, bnd_k]
      refine ⟨_, rfl, ?_, ?_, ?_, ?_, by omega, by omega, by omega⟩
      · rw [mS_tag _ (t := 24) (t2 := 35) _ _ _ (by decide), mS_same]
      · rw [mS_same, mS_tag _ (t := 35) (t2 := 0) _ _ _ (by decide), hV.len]
      · exact (hV.mv (by omega) (by decide)).mv (by omega) (by decide)
      · intro t j a1 a2 a3 a4; rw [mS, if_neg a2, mS, if_neg a1]
    rw [if_neg q1, if_neg q1, f_next hT fu r ha (by omega), bnd_k]
    by_cases q2 : ch T b = 60
    · rw [if_pos q2, if_pos q2]; exact Ex.bnd _ (f_fail fu r rfl ha)
    rw [if_neg q2, if_neg q2]
    by_cases q3 : ch T b = 0
    · rw [if_pos q3, if_pos q3]; exact Ex.bnd _ (f_fail fu r rfl ha)
    rw [if_neg q3, if_neg q3]
    have qb := lt_of_ch (T := T) (a := b) rfl q3
    have hnr : nRow 3 = 240 := rfl
    by_cases q4 : ch T b = 38
    · rw [if_pos q4, if_pos q4]
      have g := f_reference hT fu r ha hbT hfu
      cases hr : sRef T b with
      | none => rw [hr] at g; exact Ex.bnd _ g
      | some xb =>
        obtain ⟨x, c⟩ := xb
        rw [hr] at g
        have g' : F_Rd_readReference fu M r = .ok x (mS M 35 0 (nI c)) r := g
        have g2 := sRef_ok hbT hr
        rw [g', bnd_k]
        obtain ⟨M2, e2, g3, g4⟩ := f_put (hV.mv (t := 35) (i := 0) (v := nI c) (by omega) (by decide)) fu r (isCh_ok g2.1) (by omega)
        rw [e2, bnd_k, nI_1]
        have k2 : Kv k M M2 := (Kv.s35 k M _).tr g4.kv
        have a2 : M2 35 0 = nI c := (g4 35 0 (by decide) (by decide)).trans (mS_same _ _ _ _)
        have g5 := ih (n + 1) c e (acc ++ [x]) M2 (k2.tx hT) a2 (by rw [← List.append_assoc]; exact g3) (by rw [← List.append_assoc, List.length_append]; simp only [List.length_cons, List.length_nil]; omega) (by omega) g2.2.2.1 (by omega) (by omega)
        show match sVal T m e c (acc ++ [x]) with | .ok (z, v) => _ | .error w => _
        cases hs : sVal T m e c (acc ++ [x]) with
        | error w => rw [hs] at g5; exact Ex.tr (k2.fr hk) g5
        | ok zv =>
          obtain ⟨z, v⟩ := zv
          rw [hs] at g5; obtain ⟨M3, e3, p1, p2, p3, p4, p5, p6, p7⟩ := g5
          exact ⟨M3, e3, p1, p2, p3, k2.tr p4, p5, by omega, p7⟩
    rw [if_neg q4, if_neg q4]
    -- a character of its own
    have fin : ∀ y, cOK y → ∀ X, X = (gO.bnd (F_Row_put fu 3 y M r) (fun v30 M30 r30 => F_Rd_readValue_L53 fu k d m (nI n + 1) (mS M30 35 0 ((M30 35 0) + 1)) r30)) → match sVal T m e (b + 1) (acc ++ [y]) with
        | .ok (z, v) => ∃ M', X = .ok () M' r ∧ M' 35 0 = nI z ∧ M' 24 k = nI (V ++ v).length ∧ RW M' 3 (V ++ v) ∧ Kv k M M' ∧ (V ++ v).length ≤ z ∧ b < z ∧ z ≤ T.length
        | .error w => Ex X M w := by
      intro y hy X hX
      obtain ⟨M2, e2, g3, g4⟩ := f_put hV fu r hy (by omega)
      have a2 : M2 35 0 = nI b := (g4 35 0 (by decide) (by decide)).trans ha
      rw [e2, bnd_k, a2, nI_1, nI_1] at hX
      subst hX
      have k2 : Kv k M (mS M2 35 0 (nI (b + 1))) := (g4.kv).tr (Kv.s35 k M2 _)
      have g5 := ih (n + 1) (b + 1) e (acc ++ [y]) (mS M2 35 0 (nI (b + 1))) (k2.tx hT) (mS_same _ _ _ _) (by rw [← List.append_assoc]; exact g3.mv (by omega) (by decide)) (by rw [← List.append_assoc, List.length_append]; simp only [List.length_cons, List.length_nil]; omega) (by omega) (by omega) (by omega) (by omega)
      cases hs : sVal T m e (b + 1) (acc ++ [y]) with
      | error w => rw [hs] at g5; exact Ex.tr (k2.fr hk) g5
      | ok zv =>
        obtain ⟨z, v⟩ := zv
        rw [hs] at g5; obtain ⟨M3, e3, p1, p2, p3, p4, p5, p6, p7⟩ := g5
        exact ⟨M3, e3, p1, p2, p3, k2.tr p4, p5, by omega, p7⟩
    by_cases q5 : ch T b = 10
    · rw [if_pos q5, if_pos q5]; exact fin 32 (isCh_ok (by decide)) _ rfl
    · rw [if_neg q5, if_neg q5]; exact fin _ (hT.okk b) _ rfl
theorem sVal_ok {T : List Int32} (hT : ∀ i, i < T.length → isCh (ch T i) = true) {m : Int32} (hm : m ≠ 0) : ∀ {e b : Nat} {acc v : List Int32} {z : Nat}, b ≤ T.length → (∀ c ∈ acc, isCh c = true) → sVal T m e b acc = .ok (z, v) → (∀ c ∈ v, isCh c = true) ∧ b < z ∧ z ≤ T.length ∧ v.length + b < acc.length + z
  | 0, b, acc, v, z, hb, ha, h => by rw [sVal] at h; cases h
  | e + 1, b, acc, v, z, hb, ha, h => by
    rw [sVal] at h
    split at h
    · rename_i q; have := lt_of_ch q hm
      injection h with h; injection h with e1 e2; subst e1; subst e2
      exact ⟨ha, by omega, by omega, by omega⟩
    split at h
    · cases h
    split at h
    · cases h
    rename_i q0
    have qb := lt_of_ch (T := T) (a := b) rfl q0
    split at h
    · split at h
      · cases h
      · rename_i x c hr
        have g := sRef_ok hb hr
        have := sVal_ok hT hm (e := e) (b := c) g.2.2.1 (by intro y hy; rw [List.mem_append] at hy; rcases hy with hy | hy; exact ha y hy; simp at hy; subst hy; exact g.1) h
        rw [List.length_append] at this; simp only [List.length_cons, List.length_nil] at this
        exact ⟨this.1, by omega, this.2.2.1, by omega⟩
    · have := sVal_ok hT hm (e := e) (b := b + 1) (by omega) (by intro y hy; rw [List.mem_append] at hy; rcases hy with hy | hy; exact ha y hy; simp at hy; subst hy; exact isCh_blank (hT b qb)) h
      rw [List.length_append] at this; simp only [List.length_cons, List.length_nil] at this
      exact ⟨this.1, by omega, this.2.2.1, by omega⟩
