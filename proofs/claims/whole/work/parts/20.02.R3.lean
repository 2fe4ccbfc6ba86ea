/-! The reference: numbers and references -/
theorem g_digit (fu : Nat) (c : Int32) (M : gMem) (r : gRef) {b : Nat} (hb : b = 10 ∨ b = 16) : F_Mo_digit fu c (nI b) M r = .ok (if dgt b c then nI (dv c) else -1) M r := by
  have e10 : F_Mo_digit fu c 10 M r = .ok (if d10 c then dvi c else -1) M r := by unfold F_Mo_digit d10 dvi; grind
  have e16 : F_Mo_digit fu c 16 M r = .ok (if d16 c then dvi c else -1) M r := by unfold F_Mo_digit d16 d10 dvi; grind
  rcases hb with rfl | rfl
  · rw [show nI 10 = 10 from rfl, e10, show dgt 10 c = d10 c from rfl]
    by_cases q : d10 c = true
    · rw [if_pos q, if_pos q, (dvi_n (d10_16 q)).1]
    · rw [if_neg q, if_neg q]
  · rw [show nI 16 = 16 from rfl, e16, show dgt 16 c = d16 c from rfl]
    by_cases q : d16 c = true
    · rw [if_pos q, if_pos q, (dvi_n q).1]
    · rw [if_neg q, if_neg q]
theorem dgt0 {b : Nat} (hb : b = 10 ∨ b = 16) : dgt b 0 = false := by rcases hb with rfl | rfl <;> rfl
theorem g_numbered {M : gMem} {T : List Int32} (h : TXr M T) (fu : Nat) (r : gRef) {a : Nat} (hb : a ≤ T.length) {B : Nat} (hB : B = 10 ∨ B = 16) (hfu : 240 < fu) :
    match sNum T B a with
    | some (x, b) => F_Mo_numbered fu (nI a) (nI B) M r = .ok x (mS M 103 0 (nI b)) r
    | none => F_Mo_numbered fu (nI a) (nI B) M r = .ok (-1) M r := by
  have hle := h.le
  have key : ∀ d p w v, T.length - p < d → a ≤ p → p ≤ T.length → w ≤ 15999 → (w = v ∨ (126 < w ∧ 126 < v)) → ∃ w2, w2 ≤ 15999 ∧ (w2 = (stre T p (scan (dgt B) T p)).foldl (fun n c => n * B + dv c) v ∨ (126 < w2 ∧ 126 < (stre T p (scan (dgt B) T p)).foldl (fun n c => n * B + dv c) v)) ∧ F_Mo_numbered_L5 fu (nI a) (nI B) d (nI p) (nI w) M r = F_Mo_numbered_B55 fu (nI a) (nI B) (nI (scan (dgt B) T p)) (nI w2) M r := by
    intro d
    induction d with
    | zero => intro p w v h1; omega
    | succ d ih =>
      intro p w v h1 h2 h3 h4 h5
      rw [F_Mo_numbered_L5, g_here h fu r (by omega), bnd_k, g_digit fu _ _ _ hB, bnd_k]
      by_cases q : dgt B (ch T p) = true
      · have qp : p < T.length := lt_of_ch rfl (fun e => by rw [e, dgt0 hB] at q; cases q)
        have hdv := dgt_r hB q
        rw [if_pos q, if_neg (nI_pos (by omega)), stre_scan qp q, List.foldl_cons, scan_step qp q]
        by_cases q9 : w ≤ 999
        · rw [if_pos (show nI w ≤ (999 : Int32) from nI_le (b := 999) q9 (by decide)), g_here h fu r (by omega), bnd_k, g_digit fu _ _ _ hB, if_pos q, bnd_k, nI_mul, nI_add, nI_1]
          refine ih (p + 1) (B * w + dv (ch T p)) (v * B + dv (ch T p)) (by omega) (by omega) (by omega) ?_ ?_
          · rcases hB with rfl | rfl <;> omega
          · rcases hB with rfl | rfl <;> omega
        · rw [if_neg (show ¬ nI w ≤ (999 : Int32) from nI_ge (a := 999) (by omega) (by omega)), nI_1, show (999 : Int32) = nI 999 from rfl]
          refine ih (p + 1) 999 (v * B + dv (ch T p)) (by omega) (by omega) (by omega) (by omega) (Or.inr ⟨by omega, ?_⟩)
          rcases hB with rfl | rfl <;> omega
      · rw [if_neg q, if_pos (by decide), scan_stop (Or.inr (by simpa using q)), stre_nil]
        exact ⟨w, h4, h5, rfl⟩
  obtain ⟨w2, k1, k2, k3⟩ := key fu a 0 0 (by omega) (Nat.le_refl _) hb (by omega) (Or.inl rfl)
  rw [nI_0] at k3
  unfold F_Mo_numbered sNum
  rw [k3]
  have g2 := scan_le (dgt B) hb
  have g1 := scan_ge (dgt B) T a
  have hnil : scan (dgt B) T a = a → num B (stre T a (scan (dgt B) T a)) = 0 := by intro e; rw [e, stre_nil]; rfl
  change (w2 = num B (stre T a (scan (dgt B) T a)) ∨ (126 < w2 ∧ 126 < num B (stre T a (scan (dgt B) T a)))) at k2
  generalize num B (stre T a (scan (dgt B) T a)) = v at *
  generalize scan (dgt B) T a = b at *
  have hv : isN w2 = isN v := by
    rcases k2 with k2 | k2
    · rw [k2]
    · have f : ∀ u, 126 < u → isN u = false := by intro u hu; unfold isN; simp; omega
      rw [f w2 k2.1, f v k2.2]
  have hcw : isCh (nI w2) = isN w2 := by
    by_cases q : w2 ≤ 999
    · exact isCh_N q
    · have : isN w2 = false := by unfold isN; simp; omega
      rw [this]
      unfold isCh
      have e1 : nI w2 ≠ 10 := fun e => by have := (nI_eq (b := 10) (by omega) (by decide)).mp e; omega
      have e2 : ¬ nI w2 ≤ 126 := nI_ge (a := 126) (by omega) (by omega)
      simp [e1, e2]
  rw [F_Mo_numbered_B55]
  by_cases qe : b = a
  · have := hnil qe
    rw [if_neg (show ¬ (ch T b = 59 ∧ isN v = true) by rw [this]; exact fun q => absurd q.2 (by decide)), if_pos (show nI b = nI a by rw [qe])]
  · rw [if_neg (fun q => qe ((nI_eq (by omega) (by omega)).mp q)), g_here h fu r (by omega), bnd_k]
    by_cases q1 : ch T b = 59
    · rw [if_pos q1, g_isCharacter, bnd_k, hcw, hv]
      by_cases q2 : isN v = true
      · have q3 : v ≤ 126 := by unfold isN at q2; simp at q2; omega
        have hw : w2 = v := by rcases k2 with k2 | k2; exact k2; omega
        rw [if_pos (And.intro q1 q2), if_neg (show ¬ b2 (isN v) = 0 by rw [b2_0, q2]; decide), hw, nI_1]
      · rw [if_neg (fun q => q2 q.2), if_pos (show b2 (isN v) = 0 by rw [b2_0]; simpa using q2)]
    · rw [if_neg (fun q => q1 q.1), if_neg q1]
theorem nI_2 (a : Nat) : nI a + 2 = nI (a + 2) := nI_add a 2
theorem nI_3 (a : Nat) : nI a + 3 = nI (a + 3) := nI_add a 3
theorem nI_4 (a : Nat) : nI a + 4 = nI (a + 4) := nI_add a 4
theorem nI_5 (a : Nat) : nI a + 5 = nI (a + 5) := nI_add a 5
theorem g_stands2 {M : gMem} {T : List Int32} (h : TXr M T) (fu : Nat) (r : gRef) {p : Nat} (hp : p < 2 ^ 30) (x y : Int32) : F_Mo_stands fu (nI p) x y 0 0 M r = .ok (b2 (isAt T p [x, y, 59])) M r := by
  unfold F_Mo_stands
  rw [nI_1, nI_2, nI_3, nI_4, g_here h fu r (by omega), bnd_k, isAt3]
  by_cases q1 : ch T p = x
  · rw [if_pos q1, q1, g_here h fu r (by omega), bnd_k]
    by_cases q2 : ch T (p + 1) = y
    · rw [if_pos q2, q2, g_here h fu r (by omega), bnd_k, if_pos rfl]
      by_cases q3 : ch T (p + 2) = 59
      · rw [if_pos q3, q3, if_pos rfl]; simp [b2]
      · rw [if_neg q3]; simp [b2, q3]
    · rw [if_neg q2]; simp [b2, q2]
  · rw [if_neg q1]; simp [b2, q1]
theorem g_stands3 {M : gMem} {T : List Int32} (h : TXr M T) (fu : Nat) (r : gRef) {p : Nat} (hp : p < 2 ^ 30) (x y z : Int32) (hz : z ≠ 0) : F_Mo_stands fu (nI p) x y z 0 M r = .ok (b2 (isAt T p [x, y, z, 59])) M r := by
  unfold F_Mo_stands
  have e : isAt T p [x, y, z, 59] = (ch T p == x && (ch T (p + 1) == y && (ch T (p + 2) == z && ch T (p + 3) == 59))) := by simp [isAt]
  rw [nI_1, nI_2, nI_3, nI_4, g_here h fu r (by omega), bnd_k, e]
  by_cases q1 : ch T p = x
  · rw [if_pos q1, q1, g_here h fu r (by omega), bnd_k]
    by_cases q2 : ch T (p + 1) = y
    · rw [if_pos q2, q2, g_here h fu r (by omega), bnd_k, if_neg hz]
      by_cases q3 : ch T (p + 2) = z
      · rw [if_pos q3, q3, if_neg hz, g_here h fu r (by omega), bnd_k, if_pos rfl]
        by_cases q4 : ch T (p + 3) = 59
        · rw [if_pos q4, q4, if_pos rfl]; simp [b2]
        · rw [if_neg q4]; simp [b2, q4]
      · rw [if_neg q3]; simp [b2, q3]
    · rw [if_neg q2]; simp [b2, q2]
  · rw [if_neg q1]; simp [b2, q1]
theorem g_stands4 {M : gMem} {T : List Int32} (h : TXr M T) (fu : Nat) (r : gRef) {p : Nat} (hp : p < 2 ^ 30) (x y z w : Int32) (hz : z ≠ 0) (hw : w ≠ 0) : F_Mo_stands fu (nI p) x y z w M r = .ok (b2 (isAt T p [x, y, z, w, 59])) M r := by
  unfold F_Mo_stands
  have e : isAt T p [x, y, z, w, 59] = (ch T p == x && (ch T (p + 1) == y && (ch T (p + 2) == z && (ch T (p + 3) == w && ch T (p + 4) == 59)))) := by simp [isAt]
  rw [nI_1, nI_2, nI_3, nI_4, g_here h fu r (by omega), bnd_k, e]
  by_cases q1 : ch T p = x
  · rw [if_pos q1, q1, g_here h fu r (by omega), bnd_k]
    by_cases q2 : ch T (p + 1) = y
    · rw [if_pos q2, q2, g_here h fu r (by omega), bnd_k, if_neg hz]
      by_cases q3 : ch T (p + 2) = z
      · rw [if_pos q3, q3, if_neg hz, g_here h fu r (by omega), bnd_k, if_neg hw]
        by_cases q4 : ch T (p + 3) = w
        · rw [if_pos q4, q4, if_neg hw, g_here h fu r (by omega), bnd_k]
          by_cases q5 : ch T (p + 4) = 59
          · rw [if_pos q5, q5]; simp [b2]
          · rw [if_neg q5]; simp [b2, q5]
        · rw [if_neg q4]; simp [b2, q4]
      · rw [if_neg q3]; simp [b2, q3]
    · rw [if_neg q2]; simp [b2, q2]
  · rw [if_neg q1]; simp [b2, q1]
theorem g_reference {M : gMem} {T : List Int32} (h : TXr M T) (fu : Nat) (r : gRef) {a : Nat} (ha : M 103 0 = nI a) (h38 : ch T a = 38) (hfu : 240 < fu) :
    match sRef T a with
    | some (x, b) => F_Mo_reference fu M r = .ok x (mS M 103 0 (nI b)) r
    | none => F_Mo_reference fu M r = .ok (-1) M r := by
  have hle := h.le
  have qa := lt_of_ch h38 (by decide)
  unfold F_Mo_reference sRef
  have iA : ∀ L, isAt T a (38 :: L) = isAt T (a + 1) L := by intro L; rw [isAt, h38]; rfl
  rw [iA, iA, iA, iA, iA, iA, iA, ha, nI_1, nI_1, nI_2, nI_3, nI_4, nI_5, g_here h fu r (by omega), bnd_k]
  by_cases q0 : ch T (a + 1) = 35
  · have n1 : ∀ x L, x ≠ 35 → ¬ isAt T (a + 1) (x :: L) = true := by
      intro x L hx e; rw [isAt, q0, Bool.and_eq_true, beq_iff_eq] at e; exact hx e.1.symm
    have l1 := lt_of_ch q0 (by decide)
    rw [if_neg (n1 108 _ (by decide)), if_neg (n1 103 _ (by decide)), if_neg (n1 97 _ (by decide)), if_neg (n1 113 _ (by decide)), if_neg (n1 97 _ (by decide)), if_pos q0, g_here h fu r (by omega), bnd_k]
    have i2 : isAt T (a + 1) [35, 120] = (ch T (a + 1 + 1) == 120) := by simp [isAt, q0]
    have i1 : isAt T (a + 1) [35] = true := by simp [isAt, q0]
    rw [i2, i1]
    by_cases q1 : ch T (a + 1 + 1) = 120
    · have l2 := lt_of_ch q1 (by decide)
      rw [if_pos q1, q1, if_pos (show ((120 : Int32) == 120) = true from rfl)]
      have g := g_numbered h fu r (a := a + 3) (by omega) (B := 16) (Or.inr rfl) hfu
      cases hn : sNum T 16 (a + 3) with
      | none => rw [hn] at g; have g' : F_Mo_numbered fu (nI (a + 1 + 2)) 16 M r = .ok (-1) M r := g; dsimp only; rw [g', bnd_k]
      | some xb => obtain ⟨x, b⟩ := xb; rw [hn] at g; have g' : F_Mo_numbered fu (nI (a + 1 + 2)) 16 M r = .ok x (mS M 103 0 (nI b)) r := g; dsimp only; rw [g', bnd_k]
    · rw [if_neg q1, if_neg (show ¬ (ch T (a + 1 + 1) == 120) = true by simp [q1]), if_pos rfl]
      have g := g_numbered h fu r (a := a + 2) (by omega) (B := 10) (Or.inl rfl) hfu
      cases hn : sNum T 10 (a + 2) with
      | none => rw [hn] at g; have g' : F_Mo_numbered fu (nI (a + 1 + 1)) 10 M r = .ok (-1) M r := g; dsimp only; rw [g', bnd_k]
      | some xb => obtain ⟨x, b⟩ := xb; rw [hn] at g; have g' : F_Mo_numbered fu (nI (a + 1 + 1)) 10 M r = .ok x (mS M 103 0 (nI b)) r := g; dsimp only; rw [g', bnd_k]
  · have n6 : ¬ isAt T (a + 1) [35, 120] = true := by intro e; rw [isAt, Bool.and_eq_true, beq_iff_eq] at e; exact q0 e.1
    have n7 : ¬ isAt T (a + 1) [35] = true := by intro e; rw [isAt, Bool.and_eq_true, beq_iff_eq] at e; exact q0 e.1
    rw [if_neg q0, g_stands2 h fu r (by omega), bnd_k]
    by_cases q1 : isAt T (a + 1) [108, 116, 59] = true
    · rw [if_pos q1, q1, if_neg (show ¬ b2 true = 0 by decide)]
    rw [if_neg q1, if_pos (show b2 (isAt T (a + 1) [108, 116, 59]) = 0 by rw [b2_0]; simpa using q1), g_stands2 h fu r (by omega), bnd_k]
    by_cases q2 : isAt T (a + 1) [103, 116, 59] = true
    · rw [if_pos q2, q2, if_neg (show ¬ b2 true = 0 by decide)]
    rw [if_neg q2, if_pos (show b2 (isAt T (a + 1) [103, 116, 59]) = 0 by rw [b2_0]; simpa using q2), g_stands3 h fu r (by omega) _ _ _ (by decide), bnd_k]
    by_cases q3 : isAt T (a + 1) [97, 109, 112, 59] = true
    · rw [if_pos q3, q3, if_neg (show ¬ b2 true = 0 by decide)]
    rw [if_neg q3, if_pos (show b2 (isAt T (a + 1) [97, 109, 112, 59]) = 0 by rw [b2_0]; simpa using q3), g_stands4 h fu r (by omega) _ _ _ _ (by decide) (by decide), bnd_k]
    by_cases q4 : isAt T (a + 1) [113, 117, 111, 116, 59] = true
    · rw [if_pos q4, q4, if_neg (show ¬ b2 true = 0 by decide), if_neg (show ¬ b2 true = 0 by decide)]
    have q4' : b2 (isAt T (a + 1) [113, 117, 111, 116, 59]) = 0 := by rw [b2_0]; simpa using q4
    rw [if_neg q4, if_pos q4', g_stands4 h fu r (by omega) _ _ _ _ (by decide) (by decide), bnd_k]
    by_cases q5 : isAt T (a + 1) [97, 112, 111, 115, 59] = true
    · rw [if_pos q5, q5, if_neg (show ¬ b2 true = 0 by decide), if_pos q4']
    · rw [if_neg q5, if_pos (show b2 (isAt T (a + 1) [97, 112, 111, 115, 59]) = 0 by rw [b2_0]; simpa using q5), if_neg n6, if_neg n7]
