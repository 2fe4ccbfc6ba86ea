/-! The class's reading of characters, against the spec -/
theorem bnd_k {α β : Type} (v : α) (M : gMem) (r : gRef) (f : α → gMem → gRef → gO β) : gO.bnd (.ok v M r) f = f v M r := rfl
theorem bnd_x {α β : Type} (k : Nat) (M : gMem) (r : gRef) (f : α → gMem → gRef → gO β) : gO.bnd (.ex k M r) f = .ex k M r := rfl
def TX (M : gMem) (T : List Int32) : Prop :=
  (M 0 2 = nI T.length) ∧
  (T.length ≤ 240) ∧
  (∀ i, i < T.length → M 12 i = ch T i) ∧
  (∀ i, i < T.length → isCh (ch T i) = true)
theorem TX.len {M : gMem} {T : List Int32} (h : TX M T) : M 0 2 = nI T.length := h.1
theorem TX.le {M : gMem} {T : List Int32} (h : TX M T) : T.length ≤ 240 := h.2.1
theorem TX.chr {M : gMem} {T : List Int32} (h : TX M T) : ∀ i, i < T.length → M 12 i = ch T i := h.2.2.1
theorem TX.okc {M : gMem} {T : List Int32} (h : TX M T) : ∀ i, i < T.length → isCh (ch T i) = true := h.2.2.2
theorem TX.mv {M : gMem} {T : List Int32} (h : TX M T) {t i : Nat} {v : Int32} (h2 : ¬ (t = 0 ∧ i = 2)) (h3 : t ≠ 12) : TX (mS M t i v) T := by
  refine ⟨?_, h.le, ?_, h.okc⟩
  · rw [← h.len]; unfold mS; rw [if_neg (by omega)]
  · intro j hj; rw [← h.chr j hj]; exact mS_tag M _ _ _ (Ne.symm h3)
theorem ch_out {T : List Int32} {a : Nat} (h : T.length ≤ a) : ch T a = 0 := by
  unfold ch; simp [List.getD, h]
theorem ch_in {T : List Int32} {a : Nat} (h : a < T.length) : ch T a = T[a] := by unfold ch; simp [List.getD, h]
theorem drop_ch {T : List Int32} {a : Nat} (h : a < T.length) : T.drop a = ch T a :: T.drop (a + 1) := by
  rw [List.drop_eq_getElem_cons h, ch_in h]
theorem isCh_r {c : Int32} (h : isCh c = true) : 0 ≤ c.toInt ∧ c.toInt ≤ 126 := by
  have h1 : 0 ≤ c ∧ c ≤ 126 := by unfold isCh at h; grind
  rw [Int32.le_iff_toInt_le, Int32.le_iff_toInt_le] at h1
  exact h1
theorem isCh_ok {c : Int32} (h : isCh c = true) : cOK c := by
  have h1 := isCh_r h
  have h2 : c.toNatClampNeg = c.toInt.toNat := rfl
  refine ⟨c.toNatClampNeg, by omega, ?_⟩
  rw [← Int32.toInt_inj, nI_toInt (by omega)]; omega
theorem isCh_ne {c : Int32} (h : isCh c = true) : c ≠ 0 := by intro q; subst q; exact absurd h (by decide)
theorem TX.ne {M : gMem} {T : List Int32} (h : TX M T) {a : Nat} (ha : a < T.length) : ch T a ≠ 0 := isCh_ne (h.okc a ha)
theorem TX.okk {M : gMem} {T : List Int32} (h : TX M T) (a : Nat) : cOK (ch T a) := by
  by_cases q : a < T.length
  · exact isCh_ok (h.okc a q)
  · rw [ch_out (by omega)]; exact cOK_0
theorem f_nextN {M : gMem} {T : List Int32} (h : TX M T) (fu : Nat) (r : gRef) {x : Int32} {b : Nat} (hx : M 35 0 + x = nI b) (hb : b < 2 ^ 31) : F_Rd_next fu x M r = .ok (ch T b) M r := by
  unfold F_Rd_next
  rw [hx, if_neg (nI_pos hb), h.len]
  by_cases q : b < T.length
  · have := h.le
    rw [if_neg (nI_ge q (by omega)), gd_yes (vp_in_nI (by show b < 240; omega) (by decide)), nI_clamp hb, h.chr b q, gd_yes (gNc_ok (isCh_ok (h.okc b q)))]
  · rw [if_pos (nI_le (by omega) hb), ch_out (by omega)]
theorem f_next {M : gMem} {T : List Int32} (h : TX M T) (fu : Nat) (r : gRef) {a : Nat} (ha : M 35 0 = nI a) (hb : a < 2 ^ 31) : F_Rd_next fu 0 M r = .ok (ch T a) M r :=
  f_nextN h fu r (by rw [ha, ← nI_0, nI_add]; rfl) hb
theorem f_nextk {M : gMem} {T : List Int32} (h : TX M T) (fu : Nat) (r : gRef) {a : Nat} (ha : M 35 0 = nI a) (k : Nat) (hb : a + k < 2 ^ 31) : F_Rd_next fu (nI k) M r = .ok (ch T (a + k)) M r :=
  f_nextN h fu r (by rw [ha, nI_add]) hb
theorem f_next1 {M : gMem} {T : List Int32} (h : TX M T) (fu : Nat) (r : gRef) {a : Nat} (ha : M 35 0 = nI a) (hb : a + 1 < 2 ^ 31) : F_Rd_next fu 1 M r = .ok (ch T (a + 1)) M r := f_nextk h fu r ha 1 hb
theorem f_next2 {M : gMem} {T : List Int32} (h : TX M T) (fu : Nat) (r : gRef) {a : Nat} (ha : M 35 0 = nI a) (hb : a + 2 < 2 ^ 31) : F_Rd_next fu 2 M r = .ok (ch T (a + 2)) M r := f_nextk h fu r ha 2 hb
theorem f_isBlank (fu : Nat) (c : Int32) (M : gMem) (r : gRef) : F_MR_isBlank fu c M r = .ok (b2 (bl c)) M r := by
  unfold F_MR_isBlank b2 bl; grind
theorem f_beginsPart (fu : Nat) (c : Int32) (M : gMem) (r : gRef) : F_MR_beginsPart fu c M r = .ok (b2 (pb c)) M r := by
  unfold F_MR_beginsPart b2 pb; grind
theorem f_goesOnPart (fu : Nat) (c : Int32) (M : gMem) (r : gRef) : F_MR_goesOnPart fu c M r = .ok (b2 (gon c)) M r := by
  unfold F_MR_goesOnPart; rw [f_beginsPart]; unfold b2 gon; simp only [bnd_k]; grind
theorem f_isCharacter (fu : Nat) (c : Int32) (M : gMem) (r : gRef) : F_MR_isCharacter fu c M r = .ok (b2 (isCh c)) M r := by
  unfold F_MR_isCharacter b2 isCh; grind
theorem b2_0 (b : Bool) : (b2 b = 0) = (b = false) := by cases b <;> simp [b2]
/-! scanning -/
theorem scan_stop {p : Int32 → Bool} {T : List Int32} {a : Nat} (h : T.length ≤ a ∨ p (ch T a) = false) : scan p T a = a := by
  unfold scan
  rcases Nat.lt_or_ge a T.length with q | q
  · have h2 : p (ch T a) = false := by rcases h with h | h; · omega
                                       · exact h
    rw [drop_ch q, List.takeWhile_cons, h2]; rfl
  · rw [List.drop_eq_nil_of_le q]; rfl
theorem scan_step {p : Int32 → Bool} {T : List Int32} {a : Nat} (q : a < T.length) (h : p (ch T a) = true) : scan p T a = scan p T (a + 1) := by
  unfold scan
  rw [drop_ch q, List.takeWhile_cons, h]; simp only [if_true, List.length_cons]; omega
theorem scan_ge (p : Int32 → Bool) (T : List Int32) (a : Nat) : a ≤ scan p T a := Nat.le_add_right _ _
theorem scan_le (p : Int32 → Bool) {T : List Int32} {a : Nat} (h : a ≤ T.length) : scan p T a ≤ T.length := by
  unfold scan
  have h1 : ((T.drop a).takeWhile p).length ≤ (T.drop a).length := (List.takeWhile_sublist p).length_le
  rw [List.length_drop] at h1; omega
theorem f_passBlanks {M : gMem} {T : List Int32} (h : TX M T) (fu : Nat) (r : gRef) {a : Nat} (ha : M 35 0 = nI a) (hb : a ≤ T.length) (hfu : 240 < fu) :
    F_Rd_passBlanks fu M r = .ok (b2 (a < scan bl T a)) (mS M 35 0 (nI (scan bl T a))) r := by
  have hle := h.le
  have key : ∀ d b, T.length - b < d → a ≤ b → b ≤ T.length → scan bl T a = scan bl T b → F_Rd_passBlanks_L5 fu d (nI a) (mS M 35 0 (nI b)) r = .ok (b2 (a < scan bl T a)) (mS M 35 0 (nI (scan bl T a))) r := by
    intro d
    induction d with
    | zero => intro b h1; omega
    | succ d ih =>
      intro b h1 h2 h3 h4
      have hT : TX (mS M 35 0 (nI b)) T := h.mv (by omega) (by decide)
      have fin : ∀ b, a ≤ b → b ≤ T.length → F_Rd_passBlanks_B43 fu (nI a) (mS M 35 0 (nI b)) r = .ok (b2 (a < b)) (mS M 35 0 (nI b)) r := by
        intro b q1 q2
        unfold F_Rd_passBlanks_B43
        rw [mS_same]
        by_cases q : b ≤ a
        · rw [if_pos (nI_le q (by omega))]; simp [b2, Nat.not_lt.mpr q]
        · rw [if_neg (nI_ge (by omega) (by omega))]; simp [b2, Nat.lt_of_not_le q]
      rw [F_Rd_passBlanks_L5, hT.len, mS_same]
      by_cases q : b < T.length
      · rw [if_neg (nI_ge q (by omega)), f_next hT fu r (mS_same _ _ _ _) (by omega), bnd_k, f_isBlank, bnd_k]
        by_cases q2 : bl (ch T b) = true
        · rw [if_neg (by rw [b2_0, q2]; decide), mS_same, mS_mS, nI_1]
          exact ih (b + 1) (by omega) (by omega) (by omega) (h4.trans (scan_step q q2))
        · rw [if_pos (by rw [b2_0]; simpa using q2), fin b h2 h3]
          rw [h4, scan_stop (Or.inr (by simpa using q2))]
      · rw [if_pos (nI_le (by omega) (by omega)), fin b h2 h3, h4, scan_stop (Or.inl (by omega))]
  unfold F_Rd_passBlanks
  have := key fu a (by omega) (by omega) hb rfl
  rw [← ha, mS_self, ha] at this
  rw [ha]; exact this
