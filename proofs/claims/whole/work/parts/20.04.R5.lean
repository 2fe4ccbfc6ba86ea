/-! The reference: what is left of a tag; comparing; declarations -/
def Qt (e : Nat) (M M' : gMem) : Prop := ∀ t i, t ≠ 103 → t ≠ 107 → t ≠ 108 → t ≠ 131 → t ≠ 132 → t ≠ 133 → ¬ (116 ≤ t ∧ t ≤ 121 ∧ 6 * e ≤ i ∧ i < 6 * e + 6) → ¬ (t = 115 ∧ i = e) → M' t i = M t i
theorem Qt.tr {e : Nat} {M M1 M2 : gMem} (h : Qt e M M1) (h2 : Qt e M1 M2) : Qt e M M2 := fun t i a b c d f g u v => (h2 t i a b c d f g u v).trans (h t i a b c d f g u v)
theorem Qt.rf {e : Nat} {M M' : gMem} (h : Qt e M M') : Rf M M' := fun t i q => h t i (by omega) (by omega) (by omega) (by omega) (by omega) (by omega) (by omega) (by omega)
theorem Qa.qt {e c : Nat} {M M' : gMem} (hc : c < 6) (h : Qa (6 * e + c) e M M') : Qt e M M' := fun t i a b c d f g u v => h t i a b c d f g (by omega) v
theorem Qt.s103 (e : Nat) (M : gMem) (v : Int32) : Qt e M (mS M 103 0 v) := fun t i a _ _ _ _ _ _ _ => by rw [mS, if_neg (by omega)]
def ATrs (M : gMem) (T U : List Int32) (e : Nat) (L : List Att) : Prop := ∀ i x, L[i]? = some x → ATr M T U (6 * e + i) x
theorem ATrs.of {M M' : gMem} {T U : List Int32} {e : Nat} {L : List Att} (h : ATrs M T U e L) (W : List Int32) (h1 : ∀ t i, 116 ≤ t → t ≤ 121 → i < L.length → M' t (6 * e + i) = M t (6 * e + i)) : ATrs M' T (U ++ W) e L := by
  intro i x hi
  have hl : i < L.length := (List.getElem?_eq_some_iff.mp hi).1
  exact (h i x hi).of W (fun t a b => h1 t i a b hl)
theorem ATrs.same {M M' : gMem} {T U : List Int32} {e : Nat} {L : List Att} (h : ATrs M T U e L) (h1 : ∀ t i, 116 ≤ t → t ≤ 121 → M' t i = M t i) : ATrs M' T U e L := by
  have := h.of (M' := M') [] (fun t i a b _ => h1 t _ a b); rw [List.append_nil] at this; exact this
theorem g_fail0 {M : gMem} (fu : Nat) (r : gRef) {w p : Int32} {a b : Nat} (hw : w = nI a) (hp : p = nI b) (k : Int32) : Rx (gO.bnd (F_Mo_fail fu w p M r) (fun v M r => if v = 0 then (.ok 0 M r) else (.ok k M r))) M r (a, b) := by
  unfold F_Mo_fail
  rw [bnd_k, if_pos rfl]
  refine ⟨_, rfl, ?_, mS_same _ _ _ _ |>.trans hp, ((Rf.rfl' M).s (by omega)).s (by omega)⟩
  rw [mS_tag _ (t := 105) (t2 := 104) _ _ _ (by decide), mS_same]; exact hw
def RrP (M M' : gMem) (T U U' : List Int32) (e : Nat) (atts : List Att) (z : Nat) : Prop :=
  M' 103 0 = nI z ∧ M' 107 0 = nI U'.length ∧ PL M' U' ∧ U'.length ≤ z ∧ (∃ W, U' = U ++ W) ∧ M' 115 e = nI atts.length ∧ atts.length ≤ 6 ∧ ATrs M' T U' e atts ∧ Qt e M M'
theorem g_readRest {T : List Int32} {fu first e : Nat} {r : gRef} (he : e < 24) (hfu : 240 < fu) :
    ∀ d a f atts U M, TXr M T → M 103 0 = nI a → PL M U → M 107 0 = nI U.length → U.length ≤ a → a ≤ T.length → M 115 e = nI atts.length → atts.length ≤ 6 → ATrs M T U e atts → T.length - a < d → T.length - a < f →
    match sRest T first f atts a with
    | .ok (atts', em, z) => ∃ M' U', F_Mo_readRest_L0 fu (nI e) (nI first) d M r = .ok (if em then 2 else 1) M' r ∧ RrP M M' T U U' e atts' z
    | .error w => Rx (F_Mo_readRest_L0 fu (nI e) (nI first) d M r) M r w := by
  intro d
  induction d with
  | zero => intro a f atts U M _ _ _ _ _ _ _ _ _ h1; omega
  | succ d ih =>
    intro a f atts U M hT ha hP hu hub haT hc hc6 hat h1 h2
    obtain ⟨f, rfl⟩ : ∃ f', f = f' + 1 := ⟨f - 1, by omega⟩
    have hle := hT.le
    rw [F_Mo_readRest_L0, g_skip hT fu r ha haT hfu, bnd_k, sRest]
    have s1 := scan_ge bl T a
    have s2 := scan_le bl haT
    generalize scan bl T a = b at *
    have t1 : TXr (mS M 103 0 (nI b)) T := hT.mv (by omega) (by omega)
    have q1' : Qt e M (mS M 103 0 (nI b)) := Qt.s103 e M _
    rw [mS_same, g_here t1 fu r (by omega), bnd_k]
    -- the end of the tag
    have fin : ∀ p, b < p → p ≤ T.length → RrP M (mS M 103 0 (nI p)) T U U e atts p := fun p h3 h4 => ⟨mS_same _ _ _ _, by rw [mS_tag _ (t := 103) (t2 := 107) _ _ _ (by decide)]; exact hu, hP.of (fun j _ => mS_tag _ _ _ _ (by decide)), by omega, ⟨[], by simp⟩, by rw [mS_tag _ (t := 103) (t2 := 115) _ _ _ (by decide)]; exact hc, hc6, hat.same (fun t i a b => mS_tag _ _ _ _ (by omega)), Qt.s103 e M _⟩
    by_cases q1 : ch T b = 62
    · have qb := lt_of_ch q1 (by decide)
      rw [if_pos q1, if_pos q1, if_pos q1, mS_same, mS_mS, nI_1]
      exact ⟨_, U, rfl, fin (b + 1) (by omega) (by omega)⟩
    rw [if_neg q1, if_neg q1]
    by_cases q2 : ch T b = 47
    · have qb := lt_of_ch q2 (by decide)
      have t2 : TXr (mS M 103 0 (nI (b + 1))) T := hT.mv (by omega) (by omega)
      rw [if_pos q2, if_pos q2, if_neg q1, mS_same, mS_mS, nI_1]
      by_cases q3 : ch T (b + 1) = 62
      · have qb2 := lt_of_ch q3 (by decide)
        rw [if_pos q3, g_over1 t2 fu r (mS_same _ _ _ _) (by omega) q3, bnd_k, if_neg (show ¬ (1 : Int32) = 0 by decide), mS_mS]
        exact ⟨_, U, rfl, fin (b + 2) (by omega) (by omega)⟩
      · rw [if_neg q3]
        exact Rx.if0 (fun M r => .ok 2 M r) (Rx.tr ((Rf.rfl' M).s (by omega)) (g_over0 t2 fu r (mS_same _ _ _ _) (by omega) q3))
    rw [if_neg q2, if_neg q2]
    have bad : Rx (gO.bnd (F_Mo_fail fu 1 ((mS M 103 0 (nI b)) 103 0) (mS M 103 0 (nI b)) r) (fun v M r => if v = 0 then (.ok 0 M r) else (.ok 1 M r))) M r (1, b) := Rx.tr q1'.rf (g_fail0 fu r rfl (mS_same _ _ _ _) 1)
    by_cases q4 : b = a
    · rw [if_pos (Or.inl q4), if_pos (show nI (b - a) = 0 by rw [q4, Nat.sub_self]; rfl)]
      exact bad
    rw [if_neg (show ¬ nI (b - a) = 0 from nI_ne0 (by omega) (by omega)), g_starts, bnd_k]
    by_cases q5 : pb (ch T b) = true
    · rw [if_neg (show ¬ (b = a ∨ pb (ch T b) = false) by rw [q5]; simp [q4]), if_neg (show ¬ b2 (pb (ch T b)) = 0 by rw [b2_0, q5]; decide), gd_yes (vp_in_nI he (by decide)), nI_clamp (n := e) (by omega), mS_tag _ (t := 103) (t2 := 115) _ _ _ (by decide), hc]
      by_cases q6 : 6 ≤ atts.length
      · rw [if_pos q6, if_pos (show nI atts.length = (6 : Int32) by rw [show atts.length = 6 by omega]; rfl)]
        exact Rx.tr q1'.rf (g_fail0 fu r rfl rfl 1)
      · rw [if_neg q6, if_neg (show ¬ nI atts.length = (6 : Int32) from fun q => by have := (nI_eq (b := 6) (by omega) (by decide)).mp q; omega)]
        have g := g_readAttribute t1 fu r he (by rw [mS_tag _ (t := 103) (t2 := 115) _ _ _ (by decide)]; exact hc) (by omega) (mS_same _ _ _ _) s2 (hP.of (fun j _ => mS_tag _ _ _ _ (by decide))) (by rw [mS_tag _ (t := 103) (t2 := 107) _ _ _ (by decide)]; exact hu) (by omega) hfu
        cases hs : sAtt T b with
        | error w => rw [hs] at g; exact Rx.if0 _ (Rx.tr q1'.rf g)
        | ok xz =>
          obtain ⟨x, c⟩ := xz
          rw [hs] at g
          obtain ⟨M2, e2, r1, r2, r3, r4, r5, r6, r7⟩ := g
          have qq : Qt e M M2 := q1'.tr (r6.qt (by omega))
          have sw := sAtt_w hT.okc hs
          rw [e2, bnd_k, if_neg (show ¬ (1 : Int32) = 0 by decide)]
          have g2 := ih c f (atts ++ [x]) (U ++ (nmT T x.nm ++ x.val)) M2 (qq.rf.tx hT) r1 r4 r5 r7 sw.2.1 (by rw [r2, List.length_append]; rfl) (by rw [List.length_append]; simp only [List.length_cons, List.length_nil]; omega) (by
            intro i y hi
            rcases getl hi with ⟨q, hj⟩ | ⟨q, rfl⟩
            · exact (hat i y hj).of _ (fun t h3 h4 => by rw [r6 t _ (by omega) (by omega) (by omega) (by omega) (by omega) (by omega) (by omega) (by omega), mS_tag _ _ _ _ (by omega)])
            · rw [q]; exact r3) (by omega) (by omega)
          dsimp only
          cases hr : sRest T first f (atts ++ [x]) c with
          | error w => rw [hr] at g2; exact Rx.tr qq.rf g2
          | ok q =>
            obtain ⟨atts', em, z⟩ := q
            rw [hr] at g2
            obtain ⟨M3, U3, e3, p1, p2, p3, p4, ⟨W, p5⟩, p6, p7, p8, p9⟩ := g2
            exact ⟨M3, U3, e3, p1, p2, p3, p4, ⟨nmT T x.nm ++ x.val ++ W, by rw [p5]; simp only [List.append_assoc]⟩, p6, p7, p8, qq.tr p9⟩
    · rw [if_pos (show b = a ∨ pb (ch T b) = false from Or.inr (by simpa using q5)), if_pos (show b2 (pb (ch T b)) = 0 by rw [b2_0]; simpa using q5)]
      exact bad
/-! comparing -/
def cmpI (A B : List Int32) : Int32 := if A = B then 0 else if lxl A B then -1 else 1
theorem cmpI_cons (a b : Int32) (A B : List Int32) : cmpI (a :: A) (b :: B) = if a = b then cmpI A B else if b ≤ a then 1 else -1 := by
  unfold cmpI
  by_cases h : a = b
  · subst h; simp [lxl]
  · by_cases h2 : a < b
    · have h3 : ¬ b ≤ a := Int32.not_le.mpr h2
      simp [lxl, h, h2, h3]
    · have h3 : b ≤ a := Int32.not_lt.mp h2
      simp [lxl, h, h2, h3]
theorem g_compare {M : gMem} {U : List Int32} (h : PL M U) (fu : Nat) (r : gRef) {f n g m : Nat} (h1 : f + n ≤ U.length) (h2 : g + m ≤ U.length) (hfu : 240 < fu) :
    F_Mo_compare fu (nI f) (nI n) (nI g) (nI m) M r = .ok (cmpI (stre U f (f + n)) (stre U g (g + m))) M r := by
  have hle := h.1
  have key : ∀ d k, U.length - k < d → k ≤ n → k ≤ m → F_Mo_compare_L3 fu (nI f) (nI n) (nI g) (nI m) d (nI k) M r = .ok (cmpI (stre U (f + k) (f + n)) (stre U (g + k) (g + m))) M r := by
    intro d
    induction d with
    | zero => intro k q; omega
    | succ d ih =>
      intro k q1 q2 q3
      rw [F_Mo_compare_L3, F_Mo_compare_B70]
      have fin : (k = n ∨ k = m) → (if nI m ≤ nI n then (if nI n ≤ nI m then (.ok 0 M r : gO Int32) else (.ok 1 M r)) else (.ok (-1) M r)) = .ok (cmpI (stre U (f + k) (f + n)) (stre U (g + k) (g + m))) M r := by
        intro hk
        by_cases c1 : m ≤ n
        · rw [if_pos (nI_le c1 (by omega))]
          have e1 : stre U (g + k) (g + m) = [] := stre_end (by omega)
          by_cases c2 : n ≤ m
          · have e2 : stre U (f + k) (f + n) = [] := stre_end (by omega)
            rw [if_pos (nI_le c2 (by omega)), e1, e2]; rfl
          · rw [if_neg (nI_ge (by omega) (by omega)), e1, stre_cons h1 (by omega)]; rfl
        · have e2 : stre U (f + k) (f + n) = [] := stre_end (by omega)
          rw [if_neg (nI_ge (by omega) (by omega)), e2, stre_cons h2 (by omega)]; rfl
      by_cases c1 : n ≤ k
      · rw [if_pos (nI_le c1 (by omega))]; exact fin (by omega)
      · rw [if_neg (nI_ge (by omega) (by omega))]
        by_cases c2 : m ≤ k
        · rw [if_pos (nI_le c2 (by omega))]; exact fin (by omega)
        · rw [if_neg (nI_ge (by omega) (by omega)), nI_add, nI_add, gd_yes (vp_in_nI (by omega) (by decide)), gd_yes (vp_in_nI (by omega) (by decide)), gd_yes (vp_in_nI (by omega) (by decide)), gd_yes (vp_in_nI (by omega) (by decide)), nI_clamp (by omega), nI_clamp (by omega), h.2 _ (by omega), h.2 _ (by omega), nI_1, ih (k + 1) (by omega) (by omega) (by omega), stre_cons h1 (by omega : f + k < f + n), stre_cons h2 (by omega : g + k < g + m)]
          rw [cmpI_cons, show f + (k + 1) = f + k + 1 by omega, show g + (k + 1) = g + k + 1 by omega]
          by_cases c3 : ch U (f + k) = ch U (g + k)
          · rw [if_pos c3, if_pos c3]
          · rw [if_neg c3, if_neg c3]
            by_cases c5 : ch U (g + k) ≤ ch U (f + k)
            · rw [if_pos c5, if_pos c5]
            · rw [if_neg c5, if_neg c5]
  unfold F_Mo_compare
  have := key fu 0 (by omega) (by omega) (by omega)
  rw [nI_0] at this; exact this
theorem cmpI_0 {A B : List Int32} : cmpI A B = 0 ↔ A = B := by
  unfold cmpI; constructor
  · intro h; split at h
    · assumption
    · split at h <;> exact absurd h (by decide)
  · intro h; rw [if_pos h]
/-! names in the pool -/
theorem stre_drop (L : List Int32) (s k z : Nat) : stre L (s + k) z = (stre L s z).drop k := by
  unfold stre; rw [List.drop_take, List.drop_drop]; congr 1; omega
theorem stre_take {L : List Int32} {s y z : Nat} (h : y ≤ z) : stre L s y = (stre L s z).take (y - s) := by
  unfold stre; rw [List.take_take]; congr 1; omega
theorem czn_p {n : Nam} (h : n.s < n.l) : czn n = nI (n.l - 1 - n.s) := by unfold czn; rw [if_pos h]
theorem czn_n {n : Nam} (h : ¬ n.s < n.l) : czn n = -1 := by unfold czn; rw [if_neg h]
section GNM
variable {M : gMem} {T U : List Int32} {a : Nat} {x : Att} {r : gRef}
theorem g_local (h : ATr M T U a x) (ha : a < 144) (fu : Nat) (hU : U.length ≤ 240) : ∃ f, F_Mo_local fu (nI a) M r = .ok (nI f) M r ∧ F_Mo_localSize fu (nI a) M r = .ok (nI (x.nm.z - x.nm.l)) M r ∧ f + (x.nm.z - x.nm.l) ≤ U.length ∧ stre U f (f + (x.nm.z - x.nm.l)) = loT T x.nm := by
  obtain ⟨⟨f, a1, a2, a3⟩, b1, b2, b3, -, -, c1, c2, c3, c4⟩ := h
  refine ⟨f + (x.nm.l - x.nm.s), ?_, ?_, by omega, ?_⟩
  · unfold F_Mo_local
    rw [gd_yes (vp_in_nI ha (by decide)), gd_yes (vp_in_nI ha (by decide)), nI_clamp (by omega), a1, b2]
    by_cases q : x.nm.s < x.nm.l
    · rw [czn_p q, nI_add, nI_1]; congr 1; exact congrArg nI (by omega)
    · rw [czn_n q, show x.nm.l - x.nm.s = 0 by omega, show nI f + -1 + 1 = nI f by grind]; rfl
  · unfold F_Mo_localSize
    rw [gd_yes (vp_in_nI ha (by decide)), gd_yes (vp_in_nI ha (by decide)), nI_clamp (by omega), b1, b2]
    by_cases q : x.nm.s < x.nm.l
    · rw [czn_p q, pk_sub (by omega), show (1 : Int32) = nI 1 from rfl, pk_sub (by omega)]; congr 1; exact congrArg nI (by omega)
    · rw [czn_n q, show x.nm.z - x.nm.l = x.nm.z - x.nm.s by omega, show nI (x.nm.z - x.nm.s) - -1 - 1 = nI (x.nm.z - x.nm.s) by grind]
  · have e : f + (x.nm.l - x.nm.s) + (x.nm.z - x.nm.l) = f + (x.nm.z - x.nm.s) := by omega
    rw [e, stre_drop, a3]
    unfold loT nmT
    have e2 : x.nm.l = x.nm.s + (x.nm.l - x.nm.s) := by omega
    rw [show stre T x.nm.l x.nm.z = stre T (x.nm.s + (x.nm.l - x.nm.s)) x.nm.z by rw [← e2], stre_drop]
theorem g_isXmlns (h : PL M U) {f n : Nat} (h1 : f + n ≤ U.length) (fu : Nat) : F_Mo_isXmlns fu (nI f) (nI n) M r = .ok (b2 (stre U f (f + n) == [120, 109, 108, 110, 115])) M r := by
  have hle := h.1
  unfold F_Mo_isXmlns
  by_cases q : n = 5
  · subst q
    rw [if_pos (show nI 5 = 5 from rfl), nI_1, nI_2, nI_3, nI_4, gd_yes (vp_in_nI (by omega) (by decide)), nI_clamp (by omega), gd_yes (vp_in_nI (by omega) (by decide)), nI_clamp (by omega), gd_yes (vp_in_nI (by omega) (by decide)), nI_clamp (by omega), gd_yes (vp_in_nI (by omega) (by decide)), nI_clamp (by omega), gd_yes (vp_in_nI (by omega) (by decide)), nI_clamp (by omega), h.2 _ (by omega), h.2 _ (by omega), h.2 _ (by omega), h.2 _ (by omega), h.2 _ (by omega)]
    have e : stre U f (f + 5) = [ch U f, ch U (f + 1), ch U (f + 2), ch U (f + 3), ch U (f + 4)] := by
      rw [stre_cons h1 (by omega), stre_cons h1 (by omega), stre_cons h1 (by omega), stre_cons h1 (by omega), stre_cons h1 (by omega), stre_end (by omega)]
    rw [e]
    by_cases q0 : ch U f = 120
    · rw [if_pos q0, q0]
      by_cases q1 : ch U (f + 1) = 109
      · rw [if_pos q1, q1]
        by_cases q2 : ch U (f + 2) = 108
        · rw [if_pos q2, q2]
          by_cases q3 : ch U (f + 3) = 110
          · rw [if_pos q3, q3]
            by_cases q4 : ch U (f + 4) = 115
            · rw [if_pos q4, q4]; rfl
            · rw [if_neg q4]; simp [b2, q4]
          · rw [if_neg q3]; simp [b2, q3]
        · rw [if_neg q2]; simp [b2, q2]
      · rw [if_neg q1]; simp [b2, q1]
    · rw [if_neg q0]; simp [b2, q0]
  · have e : (stre U f (f + n) == [120, 109, 108, 110, 115]) = false := by
      apply beq_eq_false_iff_ne.mpr; intro e; apply q
      have := stre_len (L := U) (s := f) h1
      rw [e] at this; simp at this; omega
    rw [if_neg (show ¬ nI n = (5 : Int32) from fun e2 => q ((nI_eq (b := 5) (by omega) (by decide)).mp e2)), e]; rfl
theorem g_declares (hP : PL M U) (h : ATr M T U a x) (ha : a < 144) (fu : Nat) : F_Mo_declares fu (nI a) M r = .ok (b2 (isD T x.nm)) M r := by
  have hle := hP.1
  obtain ⟨⟨f, a1, a2, a3⟩, b1, b2', b3, -, -, c1, c2, c3, c4⟩ := h
  unfold F_Mo_declares isD
  rw [gd_yes (vp_in_nI ha (by decide)), gd_yes (vp_in_nI ha (by decide)), gd_yes (vp_in_nI ha (by decide)), gd_yes (vp_in_nI ha (by decide)), nI_clamp (by omega), b2', a1, b1]
  by_cases q : x.nm.s < x.nm.l
  · rw [czn_p q, if_pos (nI_pos' (by omega)), g_isXmlns hP (by omega), bnd_k, gd_yes (b2_nb _), if_pos q]
    have e1 : stre U f (f + (x.nm.l - 1 - x.nm.s)) = stre T x.nm.s (x.nm.l - 1) := by
      rw [stre_take (by omega : f + (x.nm.l - 1 - x.nm.s) ≤ f + (x.nm.z - x.nm.s)), a3]
      unfold nmT
      rw [stre_take (by omega : x.nm.l - 1 ≤ x.nm.z)]
      congr 1; omega
    rw [e1]
  · rw [czn_n q, if_neg (by decide), g_isXmlns hP a2, bnd_k, gd_yes (b2_nb _), if_neg q, a3]; rfl
end GNM
