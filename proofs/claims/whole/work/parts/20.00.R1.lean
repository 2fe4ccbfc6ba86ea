/-! The reference's reading of characters, against the spec -/
def TXr (M : gMem) (T : List Int32) : Prop := M 101 0 = nI T.length ∧ T.length ≤ 240 ∧ (∀ i, i < T.length → M 102 i = ch T i) ∧ (∀ i, i < T.length → isCh (ch T i) = true)
theorem TXr.len {M : gMem} {T : List Int32} (h : TXr M T) : M 101 0 = nI T.length := h.1
theorem TXr.le {M : gMem} {T : List Int32} (h : TXr M T) : T.length ≤ 240 := h.2.1
theorem TXr.chr {M : gMem} {T : List Int32} (h : TXr M T) : ∀ i, i < T.length → M 102 i = ch T i := h.2.2.1
theorem TXr.okc {M : gMem} {T : List Int32} (h : TXr M T) : ∀ i, i < T.length → isCh (ch T i) = true := h.2.2.2
theorem TXr.of {M M' : gMem} {T : List Int32} (h : TXr M T) (h1 : ∀ t i, t = 101 ∨ t = 102 → M' t i = M t i) : TXr M' T :=
  ⟨(h1 101 0 (by omega)).trans h.len, h.le, fun i hi => (h1 102 i (by omega)).trans (h.chr i hi), h.okc⟩
theorem TXr.mv {M : gMem} {T : List Int32} (h : TXr M T) {t i : Nat} {v : Int32} (h2 : t ≠ 101) (h3 : t ≠ 102) : TXr (mS M t i v) T :=
  h.of (fun t2 i2 q => by rw [mS, if_neg (by omega)])
/-- what the reference's reading leaves as it was -/
def Rf (M M' : gMem) : Prop := ∀ t i, (t ≤ 102 ∨ t = 106 ∨ (126 ≤ t ∧ t ≤ 130)) → M' t i = M t i
theorem Rf.rfl' (M : gMem) : Rf M M := fun _ _ _ => rfl
theorem Rf.tr {M M1 M2 : gMem} (h : Rf M M1) (h2 : Rf M1 M2) : Rf M M2 := fun t i q => (h2 t i q).trans (h t i q)
theorem Rf.s {M M1 : gMem} (h : Rf M M1) {t i : Nat} {v : Int32} (h2 : ¬ (t ≤ 102 ∨ t = 106 ∨ (126 ≤ t ∧ t ≤ 130))) : Rf M (mS M1 t i v) := by
  intro t2 i2 q; rw [← h t2 i2 q, mS, if_neg]; intro e; rw [e.1] at q; exact h2 q
theorem Rf.tx {M M' : gMem} {T : List Int32} (h : Rf M M') (hT : TXr M T) : TXr M' T := hT.of (fun t i q => h t i (by omega))
def Rx (x : gO Int32) (M : gMem) (r : gRef) (w : Wr) : Prop := ∃ M', x = .ok 0 M' r ∧ M' 104 0 = nI w.1 ∧ M' 105 0 = nI w.2 ∧ Rf M M'
theorem Rx.tr {x : gO Int32} {M M1 : gMem} {r : gRef} {w : Wr} (h : Rf M M1) (h2 : Rx x M1 r w) : Rx x M r w := by
  obtain ⟨M2, a, b, c, d⟩ := h2; exact ⟨M2, a, b, c, h.tr d⟩
theorem g_fail {M : gMem} (fu : Nat) (r : gRef) {w p : Int32} {a b : Nat} (hw : w = nI a) (hp : p = nI b) : Rx (gO.bnd (F_Mo_fail fu w p M r) (fun v M r => gd (gNb v) (.ok v M r))) M r (a, b) := by
  unfold F_Mo_fail
  rw [bnd_k, gd_yes gNb_0]
  refine ⟨_, rfl, ?_, mS_same _ _ _ _ |>.trans hp, ((Rf.rfl' M).s (by omega)).s (by omega)⟩
  rw [mS_tag _ (t := 105) (t2 := 104) _ _ _ (by decide), mS_same]; exact hw
/-- handed on: when it failed it is 0 -/
theorem Rx.if0 {x : gO Int32} {M : gMem} {r : gRef} {w : Wr} (f : gMem → gRef → gO Int32) (h : Rx x M r w) : Rx (gO.bnd x (fun v M r => if v = 0 then (.ok 0 M r) else f M r)) M r w := by
  obtain ⟨M2, a, b, c, d⟩ := h
  exact ⟨M2, by rw [a, bnd_k, if_pos rfl], b, c, d⟩
theorem Rx.nb {x : gO Int32} {M : gMem} {r : gRef} {w : Wr} (h : Rx x M r w) : Rx (gO.bnd x (fun v M r => gd (gNb v) (.ok v M r))) M r w := by
  obtain ⟨M2, a, b, c, d⟩ := h
  exact ⟨M2, by rw [a, bnd_k, gd_yes gNb_0], b, c, d⟩
theorem g_here {M : gMem} {T : List Int32} (h : TXr M T) (fu : Nat) (r : gRef) {b : Nat} (hb : b < 2 ^ 31) : F_Mo_here fu (nI b) M r = .ok (ch T b) M r := by
  unfold F_Mo_here
  have := h.le
  rw [h.len]
  by_cases q : b < T.length
  · rw [if_neg (nI_ge q (by omega)), gd_yes (vp_in_nI (by omega) (by decide)), nI_clamp hb, h.chr b q]
  · rw [if_pos (nI_le (by omega) hb), ch_out (by omega)]
theorem g_blank (fu : Nat) (c : Int32) (M : gMem) (r : gRef) : F_Mo_blank fu c M r = .ok (b2 (bl c)) M r := by
  unfold F_Mo_blank b2 bl; grind
theorem g_starts (fu : Nat) (c : Int32) (M : gMem) (r : gRef) : F_Mo_starts fu c M r = .ok (b2 (pb c)) M r := by
  unfold F_Mo_starts b2 pb; grind
theorem g_goesOn (fu : Nat) (c : Int32) (M : gMem) (r : gRef) : F_Mo_goesOn fu c M r = .ok (b2 (gon c)) M r := by
  unfold F_Mo_goesOn; rw [g_starts]; unfold b2 gon; simp only [bnd_k]; grind
theorem g_isCharacter (fu : Nat) (c : Int32) (M : gMem) (r : gRef) : F_Mo_isCharacter fu c M r = .ok (b2 (isCh c)) M r := by
  unfold F_Mo_isCharacter b2 isCh; grind
theorem g_over1 {M : gMem} {T : List Int32} (h : TXr M T) (fu : Nat) (r : gRef) {a : Nat} (ha : M 103 0 = nI a) (hb : a < 2 ^ 31) {c : Int32} (hc : ch T a = c) : F_Mo_over fu c M r = .ok 1 (mS M 103 0 (nI (a + 1))) r := by
  unfold F_Mo_over; rw [ha, g_here h fu r hb, bnd_k, if_pos hc, ha, nI_1]
theorem g_over0 {M : gMem} {T : List Int32} (h : TXr M T) (fu : Nat) (r : gRef) {a : Nat} (ha : M 103 0 = nI a) (hb : a < 2 ^ 31) {c : Int32} (hc : ch T a ≠ c) : Rx (F_Mo_over fu c M r) M r (1, a) := by
  unfold F_Mo_over; rw [ha, g_here h fu r hb, bnd_k, if_neg hc]; exact g_fail fu r rfl ha
theorem g_skip {M : gMem} {T : List Int32} (h : TXr M T) (fu : Nat) (r : gRef) {a : Nat} (ha : M 103 0 = nI a) (hb : a ≤ T.length) (hfu : 240 < fu) :
    F_Mo_skip fu M r = .ok (nI (scan bl T a - a)) (mS M 103 0 (nI (scan bl T a))) r := by
  have hle := h.le
  have key : ∀ d b, T.length - b < d → a ≤ b → b ≤ T.length → scan bl T a = scan bl T b → F_Mo_skip_L2 fu d (nI (b - a)) (mS M 103 0 (nI b)) r = .ok (nI (scan bl T a - a)) (mS M 103 0 (nI (scan bl T a))) r := by
    intro d
    induction d with
    | zero => intro b h1; omega
    | succ d ih =>
      intro b h1 h2 h3 h4
      have hT : TXr (mS M 103 0 (nI b)) T := h.mv (by omega) (by omega)
      rw [F_Mo_skip_L2, mS_same, g_here hT fu r (by omega), bnd_k, g_blank, bnd_k]
      by_cases q2 : bl (ch T b) = true
      · have q : b < T.length := lt_of_ch rfl (fun e => by rw [e] at q2; exact absurd q2 (by decide))
        rw [if_neg (by rw [b2_0, q2]; decide), mS_same, mS_mS, nI_1, nI_1, show b - a + 1 = b + 1 - a by omega]
        exact ih (b + 1) (by omega) (by omega) (by omega) (h4.trans (scan_step q q2))
      · rw [if_pos (by rw [b2_0]; simpa using q2), F_Mo_skip_B33, h4, scan_stop (Or.inr (by simpa using q2))]
  have := key fu a (by omega) (by omega) hb rfl
  rw [Nat.sub_self, nI_0, ← ha, mS_self] at this
  unfold F_Mo_skip; exact this
/-- a place gone to, or a fault -/
def Lr (x : gO Int32) (M : gMem) (r : gRef) : Except Wr Nat → Prop
  | .ok b => x = .ok 1 (mS M 103 0 (nI b)) r
  | .error w => Rx x M r w
theorem Lr.fr {x : gO Int32} {M : gMem} {r : gRef} {v : Int32} {res : Except Wr Nat} (h : Lr x (mS M 103 0 v) r res) : Lr x M r res := by
  cases res with
  | ok b => have h1 : x = .ok 1 (mS (mS M 103 0 v) 103 0 (nI b)) r := h
            rw [mS_mS] at h1; exact h1
  | error w => exact Rx.tr ((Rf.rfl' M).s (by omega)) h
theorem g_comment {M : gMem} {T : List Int32} (h : TXr M T) (fu : Nat) (r : gRef) {s : Nat} (ha : M 103 0 = nI (s + 2)) (h60 : ch T s = 60) (h33 : ch T (s + 1) = 33) (hfu : 240 < fu) : Lr (F_Mo_comment fu M r) M r (sCom T s) := by
  have hle := h.le
  have q0 := lt_of_ch h60 (by decide)
  have q1 := lt_of_ch h33 (by decide)
  -- two dashes seen, and what is due behind them
  have at2 : ∀ p, 2 ≤ p → p ≤ T.length → ch T (p - 2) = 45 → ch T (p - 1) = 45 → pa T (p - 2) [45, 45, 62] = if ch T p = 62 then .ok (p + 1) else .error (1, p) := by
    intro p h1 h2 h3 h4
    rw [pa, if_pos h3, show p - 2 + 1 = p - 1 by omega, pa, if_pos h4, show p - 1 + 1 = p by omega, pa]; rfl
  have key : ∀ d p, T.length - p < d → p ≤ T.length →
      Lr (F_Mo_comment_L22 fu d 0 (mS M 103 0 (nI p)) r) M r (pa T (fat [45, 45] T (T.length - p) p) [45, 45, 62]) ∧
      (1 ≤ p → ch T (p - 1) = 45 → Lr (F_Mo_comment_L22 fu d 1 (mS M 103 0 (nI p)) r) M r (pa T (fat [45, 45] T (T.length - (p - 1)) (p - 1)) [45, 45, 62])) ∧
      (2 ≤ p → ch T (p - 2) = 45 → ch T (p - 1) = 45 → Lr (F_Mo_comment_L22 fu d 2 (mS M 103 0 (nI p)) r) M r (pa T (p - 2) [45, 45, 62])) := by
    intro d
    induction d with
    | zero => intro p h1; omega
    | succ d ih =>
      intro p h1 h2
      have hT : TXr (mS M 103 0 (nI p)) T := h.mv (by omega) (by omega)
      have endf : ∀ x, p = T.length → F_Mo_comment_L22 fu (d + 1) x (mS M 103 0 (nI p)) r = gO.bnd (F_Mo_fail fu 1 ((mS M 103 0 (nI p)) 103 0) (mS M 103 0 (nI p)) r) (fun v M r => gd (gNb v) (.ok v M r)) := by
        intro x q; rw [F_Mo_comment_L22, hT.len, mS_same, if_pos (nI_le (by omega) (by omega)), F_Mo_comment_B82, mS_same]
      have failT : p = T.length → Rx (gO.bnd (F_Mo_fail fu 1 ((mS M 103 0 (nI p)) 103 0) (mS M 103 0 (nI p)) r) (fun v M r => gd (gNb v) (.ok v M r))) M r (1, T.length) := fun q => Rx.tr ((Rf.rfl' M).s (by omega)) (g_fail fu r rfl (by rw [mS_same, q]))
      have st : ∀ x : Int32, x ≠ 2 → p < T.length → F_Mo_comment_L22 fu (d + 1) x (mS M 103 0 (nI p)) r = if ch T p = 45 then F_Mo_comment_L22 fu d (x + 1) (mS M 103 0 (nI (p + 1))) r else F_Mo_comment_L22 fu d 0 (mS M 103 0 (nI (p + 1))) r := by
        intro x hx q
        rw [F_Mo_comment_L22, hT.len, mS_same, if_neg (nI_ge q (by omega)), gd_yes (vp_in_nI (by omega) (by decide)), if_neg hx, nI_clamp (by omega), hT.chr p q, mS_mS, nI_1]
      have fs : ∀ p, p < T.length → fat [45, 45] T (T.length - p) p = if isAt T p [45, 45] then p else fat [45, 45] T (T.length - (p + 1)) (p + 1) := by
        intro p q; rw [show T.length - p = (T.length - (p + 1)) + 1 by omega, fat]
      have pe : pa T T.length [45, 45, 62] = .error (1, T.length) := by rw [pa, if_neg (by rw [ch_out (Nat.le_refl _)]; decide)]
      refine ⟨?_, ?_, ?_⟩
      · rcases Nat.lt_or_ge p T.length with q | q
        · rw [st 0 (by decide) q]
          by_cases qc : ch T p = 45
          · rw [if_pos qc]
            have := (ih (p + 1) (by omega) (by omega)).2.1 (by omega) qc
            exact this
          · rw [if_neg qc, fs p q, isAt2, if_neg (by simp [qc])]
            exact (ih (p + 1) (by omega) (by omega)).1
        · have e : p = T.length := by omega
          rw [endf 0 e, show T.length - p = 0 by omega, fat, e, pe]
          rw [← e]; exact e ▸ failT e
      · intro p1 pc
        rcases Nat.lt_or_ge p T.length with q | q
        · rw [st 1 (by decide) q, fs (p - 1) (by omega), isAt2, pc, show p - 1 + 1 = p by omega]
          by_cases qc : ch T p = 45
          · rw [if_pos qc, qc, if_pos (by decide)]
            have := (ih (p + 1) (by omega) (by omega)).2.2 (by omega) (by rw [show p + 1 - 2 = p - 1 by omega]; exact pc) qc
            rw [show p + 1 - 2 = p - 1 by omega] at this
            exact this
          · rw [if_neg qc, if_neg (by simp [qc]), fs p q, isAt2, if_neg (by simp [qc])]
            exact (ih (p + 1) (by omega) (by omega)).1
        · have e : p = T.length := by omega
          have hf : fat [45, 45] T (T.length - (p - 1)) (p - 1) = T.length := by
            rw [fs (p - 1) (by omega), isAt2, show p - 1 + 1 = p by omega, ch_out (by omega : T.length ≤ p), if_neg (by simp), show T.length - p = 0 by omega, fat]; exact e
          rw [endf 1 e, hf, pe]
          exact failT e
      · intro p2 pc1 pc2
        rw [at2 p p2 h2 pc1 pc2]
        rcases Nat.lt_or_ge p T.length with q | q
        · rw [F_Mo_comment_L22, hT.len, mS_same, if_neg (nI_ge q (by omega)), gd_yes (vp_in_nI (by omega) (by decide)), if_pos rfl]
          by_cases qc : ch T p = 62
          · rw [if_pos qc, g_over1 hT fu r (mS_same _ _ _ _) (by omega) qc, bnd_k, gd_yes gNb_1, mS_mS]; rfl
          · rw [if_neg qc]
            exact Rx.tr ((Rf.rfl' M).s (by omega)) (Rx.nb (g_over0 hT fu r (mS_same _ _ _ _) (by omega) qc))
        · have e : p = T.length := by omega
          rw [endf 2 e, if_neg (by rw [ch_out (by omega)]; decide)]
          rw [show (1, p) = ((1, T.length) : Wr) by rw [e]]; exact failT e
  unfold F_Mo_comment sCom
  rw [pa, if_pos h60, pa, if_pos h33, pa]
  by_cases q2 : ch T (s + 1 + 1) = 45
  · have l2 := lt_of_ch q2 (by decide)
    rw [if_pos q2, g_over1 h fu r ha (by omega) q2, bnd_k, if_neg (by decide), pa]
    have t1 : TXr (mS M 103 0 (nI (s + 2 + 1))) T := h.mv (by omega) (by omega)
    by_cases q3 : ch T (s + 1 + 1 + 1) = 45
    · have l3 := lt_of_ch q3 (by decide)
      rw [if_pos q3, g_over1 t1 fu r (mS_same _ _ _ _) (by omega) q3, bnd_k, if_neg (by decide), mS_mS, pa]
      exact (key fu (s + 2 + 1 + 1) (by omega) (by omega)).1
    · rw [if_neg q3]
      exact Rx.tr ((Rf.rfl' M).s (by omega)) (Rx.if0 _ (g_over0 t1 fu r (mS_same _ _ _ _) (by omega) q3))
  · rw [if_neg q2]
    exact Rx.if0 _ (g_over0 h fu r ha (by omega) q2)
theorem scan_fin {p : Int32 → Bool} {T : List Int32} (h0 : p 0 = false) : ∀ (d a : Nat), T.length - a < d → p (ch T (scan p T a)) = false
  | 0, a, h => by omega
  | d + 1, a, h => by
    by_cases q : a < T.length
    · cases hp : p (ch T a) with
      | true => rw [scan_step q hp]; exact scan_fin h0 d (a + 1) (by omega)
      | false => rw [scan_stop (Or.inr hp)]; exact hp
    · rw [scan_stop (Or.inl (by omega)), ch_out (by omega)]; exact h0
theorem sPro_le {T : List Int32} : ∀ (e : Nat) {a b : Nat}, a ≤ T.length → sPro T e a = .ok b → a ≤ b ∧ b ≤ T.length ∧ bl (ch T b) = false ∧ ¬ (ch T b = 60 ∧ ch T (b + 1) = 33)
  | 0, a, b, _, h => by cases h
  | e + 1, a, b, ha, h => by
    rw [sPro] at h
    have s1 := scan_ge bl T a
    have s2 := scan_le bl ha
    split at h
    · cases hc : sCom T (scan bl T a) with
      | error w => rw [hc] at h; cases h
      | ok c =>
        rw [hc] at h
        have g1 := sCom_ok s2 hc
        have g2 := sPro_le e g1.2.1 h
        exact ⟨by omega, g2.2⟩
    · rename_i q
      injection h with h; subst h
      exact ⟨s1, s2, scan_fin rfl (T.length - a + 1) a (by omega), q⟩
