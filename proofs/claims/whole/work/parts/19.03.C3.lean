/-! Comments, references -/
theorem Lx.fr {x : gO Unit} {M : gMem} {r : gRef} {v : Int32} {res : Except Wr Nat} (h : Lx x (mS M 35 0 v) r res) : Lx x M r res := by
  cases res with
  | ok b => have h1 : x = .ok () (mS (mS M 35 0 v) 35 0 (nI b)) r := h
            rw [mS_mS] at h1; exact h1
  | error w => exact Ex.tr ((Fr.rfl' M).s (by omega)) h
theorem Lx.ret {x : gO Unit} {M : gMem} {r : gRef} {res : Except Wr Nat} (h : Lx x M r res) : Lx (gO.bnd x (fun _ M r => .ok () M r)) M r res := by
  cases res with
  | ok b => have h1 : x = _ := h
            rw [h1]; rfl
  | error w => exact Ex.bnd _ h
theorem pa_ok {T : List Int32} : ∀ {L : List Int32} {a b : Nat}, (∀ c ∈ L, c ≠ 0) → a ≤ T.length → pa T a L = .ok b → b = a + L.length ∧ b ≤ T.length
  | [], a, b, _, ha, h => by simp [pa] at h; subst h; exact ⟨rfl, ha⟩
  | c :: L, a, b, hz, ha, h => by
    rw [pa] at h
    split at h
    · rename_i q
      have h1 := lt_of_ch q (hz c (by simp))
      have h2 := pa_ok (L := L) (a := a + 1) (fun d hd => hz d (by simp [hd])) (by omega) h
      simp only [List.length_cons]; omega
    · cases h
theorem fat_le {L T : List Int32} : ∀ {d a : Nat}, a ≤ fat L T d a ∧ fat L T d a ≤ a + d
  | 0, a => ⟨Nat.le_refl _, Nat.le_refl _⟩
  | d + 1, a => by
    rw [fat]; split
    · omega
    · have := fat_le (L := L) (T := T) (d := d) (a := a + 1); omega
theorem sCom_ok {T : List Int32} {a c : Nat} (ha : a ≤ T.length) (h : sCom T a = .ok c) : a + 7 ≤ c ∧ c ≤ T.length ∧ ch T (c - 1) = 62 := by
  unfold sCom at h
  split at h
  · cases h
  · rename_i b hb
    have h1 := pa_ok (by decide) ha hb
    have h2 := fat_le (L := [45, 45]) (T := T) (d := T.length - b) (a := b)
    generalize fat [45, 45] T (T.length - b) b = e at *
    have h3 := pa_ok (by decide) (by omega) h
    simp only [List.length_cons, List.length_nil] at h1 h3
    refine ⟨by omega, by omega, ?_⟩
    simp only [pa] at h
    split at h <;> try (cases h)
    split at h <;> try (cases h)
    split at h <;> try (cases h)
    rename_i q; rw [show e + 1 + 1 + 1 - 1 = e + 1 + 1 by omega]; exact q
theorem isAt2 (T : List Int32) (a : Nat) (x y : Int32) : isAt T a [x, y] = (ch T a == x && ch T (a + 1) == y) := by simp [isAt]
theorem f_passComment {M : gMem} {T : List Int32} (h : TX M T) (fu : Nat) (r : gRef) {a : Nat} (ha : M 35 0 = nI a) (hb : a ≤ T.length) (hfu : 240 < fu) :
    Lx (F_Rd_passComment fu M r) M r (sCom T a) := by
  have hle := h.le
  have key : ∀ d b, T.length - b < d → b ≤ T.length → F_Rd_passComment_L6 fu d (mS M 35 0 (nI b)) r = F_Rd_passComment_B53 fu (mS M 35 0 (nI (fat [45, 45] T (T.length - b) b))) r := by
    intro d
    induction d with
    | zero => intro b h1; omega
    | succ d ih =>
      intro b h1 h3
      have hT : TX (mS M 35 0 (nI b)) T := h.mv (by omega) (by decide)
      rw [F_Rd_passComment_L6, hT.len, mS_same]
      by_cases q : b < T.length
      · rw [if_neg (nI_ge q (by omega)), f_next hT fu r (mS_same _ _ _ _) (by omega), bnd_k, show T.length - b = (T.length - (b + 1)) + 1 by omega, fat, isAt2]
        by_cases q2 : ch T b = 45
        · rw [if_pos q2, q2, f_next1 hT fu r (mS_same _ _ _ _) (by omega), bnd_k]
          by_cases q3 : ch T (b + 1) = 45
          · rw [if_pos q3, q3, if_pos (by decide)]
          · rw [if_neg q3, if_neg (by simp [q3]), mS_same, mS_mS, nI_1, ih (b + 1) (by omega) (by omega)]
        · rw [if_neg q2, if_neg (by simp [q2]), mS_same, mS_mS, nI_1, ih (b + 1) (by omega) (by omega)]
      · rw [if_pos (nI_le (by omega) (by omega)), show T.length - b = 0 by omega, fat]
  unfold F_Rd_passComment sCom
  have h1 := f_passAll h fu r ha hb 0 (L := [60, 33, 45, 45]) rfl (by decide) (by decide) hfu
  cases hp : pa T a [60, 33, 45, 45] with
  | error w => rw [hp] at h1; exact Ex.bnd _ h1
  | ok b =>
    rw [hp] at h1
    have h2 := pa_ok (by decide) hb hp
    have h1' : F_Rd_passAll fu 0 M r = .ok () (mS M 35 0 (nI b)) r := h1
    rw [h1', bnd_k, key fu b (by omega) h2.2, F_Rd_passComment_B53]
    have h3 := fat_le (L := [45, 45]) (T := T) (d := T.length - b) (a := b)
    exact Lx.ret (Lx.fr (f_passAll (h.mv (by omega) (by decide)) fu r (mS_same _ _ _ _) (by omega) 1 (L := [45, 45, 62]) rfl (by decide) (by decide) hfu))
theorem f_prolog {M : gMem} {T : List Int32} (h : TX M T) (fu : Nat) (r : gRef) {a : Nat} (ha : M 35 0 = nI a) (hb : a ≤ T.length) (hfu : 240 < fu) :
    Lx (F_Rd_passBlanksAndComments fu M r) M r (sPro T (T.length + 1) a) := by
  have hle := h.le
  have key : ∀ d k a e, T.length - k < d → k ≤ scan bl T a → a ≤ T.length → T.length - a < e → Lx (F_Rd_passBlanksAndComments_L7 fu d (nI k) (mS M 35 0 (nI (scan bl T a))) r) M r (sPro T e a) := by
    intro d
    induction d with
    | zero => intro k a e h1; omega
    | succ d ih =>
      intro k a e h1 h2 h3 h4
      obtain ⟨e, rfl⟩ : ∃ e', e = e' + 1 := ⟨e - 1, by omega⟩
      have g1 := scan_ge bl T a
      have g2 := scan_le bl h3
      rw [sPro]
      generalize scan bl T a = b at *
      have hT : TX (mS M 35 0 (nI b)) T := h.mv (by omega) (by decide)
      rw [F_Rd_passBlanksAndComments_L7, hT.len]
      by_cases q : k < T.length
      · rw [if_neg (nI_ge q (by omega)), f_next hT fu r (mS_same _ _ _ _) (by omega), bnd_k]
        by_cases q2 : ch T b = 60
        · rw [if_pos q2, f_next1 hT fu r (mS_same _ _ _ _) (by omega), bnd_k]
          by_cases q3 : ch T (b + 1) = 33
          · rw [if_pos (show ch T (b + 1) = 33 from q3), if_pos ⟨q2, q3⟩]
            have h5 := f_passComment hT fu r (mS_same _ _ _ _) g2 hfu
            cases hc : sCom T b with
            | error w => rw [hc] at h5; exact Ex.tr ((Fr.rfl' M).s (by omega)) (Ex.bnd _ h5)
            | ok c =>
              rw [hc] at h5
              have h6 := sCom_ok g2 hc
              have h5' : F_Rd_passComment fu (mS M 35 0 (nI b)) r = .ok () (mS (mS M 35 0 (nI b)) 35 0 (nI c)) r := h5
              rw [h5', bnd_k, mS_mS, f_passBlanks (h.mv (by omega) (by decide)) fu r (mS_same _ _ _ _) h6.2.1 hfu, bnd_k, mS_mS, nI_1]
              have h7 := scan_ge bl T c
              exact ih (k + 1) c e (by omega) (by omega) h6.2.1 (by omega)
          · rw [if_neg (show ¬ ch T (b + 1) = 33 from q3), if_neg (by simp [q3])]; rfl
        · rw [if_neg q2, if_neg (by simp [q2])]; rfl
      · have h8 : ch T b = 0 := ch_out (by omega)
        rw [if_pos (nI_le (by omega) (by omega)), if_neg (by rw [h8]; exact fun q => absurd q.1 (by decide))]; rfl
  unfold F_Rd_passBlanksAndComments
  rw [f_passBlanks h fu r ha hb hfu, bnd_k]
  have := key fu 0 a (T.length + 1) (by omega) (by omega) hb (by omega)
  rw [nI_0] at this
  exact this
/-! numbers -/
def dvi (c : Int32) : Int32 := if 97 ≤ c then c - 97 + 10 else if 65 ≤ c then c - 65 + 10 else c - 48
theorem f_digit10 (fu : Nat) (c : Int32) (M : gMem) (r : gRef) : F_MR_digit fu c 10 M r = .ok (if d10 c then dvi c else -1) M r := by
  unfold F_MR_digit d10 dvi; grind
theorem f_digit16 (fu : Nat) (c : Int32) (M : gMem) (r : gRef) : F_MR_digit fu c 16 M r = .ok (if d16 c then dvi c else -1) M r := by
  unfold F_MR_digit d16 d10 dvi; grind
theorem dvi_r {c : Int32} (h : d16 c = true) : 0 ≤ dvi c ∧ dvi c ≤ 15 := by
  unfold d16 d10 at h; unfold dvi; grind
theorem dvi_n {c : Int32} (h : d16 c = true) : dvi c = nI (dv c) ∧ dv c ≤ 15 := by
  obtain ⟨h1, h2⟩ := dvi_r h
  rw [Int32.le_iff_toInt_le] at h1 h2
  have h3 : (dvi c).toNatClampNeg = (dvi c).toInt.toNat := rfl
  have h4 : dv c = (dvi c).toNatClampNeg := rfl
  have h0 : (0 : Int32).toInt = 0 := rfl
  have h5 : (15 : Int32).toInt = 15 := rfl
  refine ⟨?_, by omega⟩
  rw [← Int32.toInt_inj, nI_toInt (by omega)]; omega
theorem d10_16 {c : Int32} (h : d10 c = true) : d16 c = true := by unfold d16; rw [h]; rfl
theorem f_digit (fu : Nat) (c : Int32) (M : gMem) (r : gRef) {b : Nat} (hb : b = 10 ∨ b = 16) : F_MR_digit fu c (nI b) M r = .ok (if dgt b c then nI (dv c) else -1) M r := by
  rcases hb with rfl | rfl
  · rw [show nI 10 = 10 from rfl, f_digit10]; rw [show dgt 10 c = d10 c from rfl]
    by_cases q : d10 c = true
    · rw [if_pos q, if_pos q, (dvi_n (d10_16 q)).1]
    · rw [if_neg q, if_neg q]
  · rw [show nI 16 = 16 from rfl, f_digit16]; rw [show dgt 16 c = d16 c from rfl]
    by_cases q : d16 c = true
    · rw [if_pos q, if_pos q, (dvi_n q).1]
    · rw [if_neg q, if_neg q]
theorem dgt_r {b : Nat} {c : Int32} (hb : b = 10 ∨ b = 16) (h : dgt b c = true) : dv c ≤ 15 := by
  rcases hb with rfl | rfl
  · exact (dvi_n (d10_16 h)).2
  · exact (dvi_n h).2
theorem nI_mul (a b : Nat) : nI a * nI b = nI (a * b) := (Int32.ofNat_mul a b).symm
theorem isCh_N {w : Nat} (h : w ≤ 999) : isCh (nI w) = isN w := by
  unfold isCh isN
  have e : ∀ k : Nat, k < 2 ^ 31 → ((nI w == nI k) = (w == k)) ∧ (decide (nI k ≤ nI w) = decide (k ≤ w)) ∧ (decide (nI w ≤ nI k) = decide (w ≤ k)) := by
    intro k hk
    refine ⟨?_, ?_, ?_⟩
    · rw [Bool.eq_iff_iff, beq_iff_eq, beq_iff_eq, nI_eq (show w < 2 ^ 31 by omega) hk]
    · exact decide_eq_decide.mpr (nI_leI hk (show w < 2 ^ 31 by omega))
    · exact decide_eq_decide.mpr (nI_leI (show w < 2 ^ 31 by omega) hk)
  rw [show (10 : Int32) = nI 10 from rfl, show (32 : Int32) = nI 32 from rfl, show (126 : Int32) = nI 126 from rfl, (e 10 (by decide)).1, (e 32 (by decide)).2.1, (e 126 (by decide)).2.2]
theorem nI_ok {w : Nat} (h : w < 65536) : cOK (nI w) := ⟨w, h, rfl⟩
theorem iC_n {w : Nat} (h : w < 65536) : iC (nI w) = nI w := i2c_ok (nI_ok h)
theorem stre_scan {p : Int32 → Bool} {T : List Int32} {a : Nat} (q : a < T.length) (h : p (ch T a) = true) : stre T a (scan p T a) = ch T a :: stre T (a + 1) (scan p T (a + 1)) := by
  have h1 := scan_ge p T (a + 1)
  unfold stre
  rw [scan_step q h, drop_ch q, show scan p T (a + 1) - a = (scan p T (a + 1) - (a + 1)) + 1 by omega, List.take_succ_cons]
theorem stre_nil (T : List Int32) (a : Nat) : stre T a a = [] := by unfold stre; rw [Nat.sub_self]; rfl
theorem f_number {M : gMem} {T : List Int32} (h : TX M T) (fu : Nat) (r : gRef) {a : Nat} (ha : M 35 0 = nI a) (hb : a ≤ T.length) {B : Nat} (hB : B = 10 ∨ B = 16) (hfu : 240 < fu) :
    match sNum T B a with
    | some (x, b) => F_Rd_readNumber fu (nI B) M r = .ok x (mS M 35 0 (nI b)) r
    | none => ∃ b, F_Rd_readNumber fu (nI B) M r = .ok 0 (mS M 35 0 (nI b)) r := by
  have hle := h.le
  have key : ∀ d b v, T.length - b < d → b ≤ T.length → F_Rd_readNumber_L2 fu (nI B) d (nI (min v 127)) (mS M 35 0 (nI b)) r = F_Rd_readNumber_B60 fu (nI B) (nI (min ((stre T b (scan (dgt B) T b)).foldl (fun n c => n * B + dv c) v) 127)) (mS M 35 0 (nI (scan (dgt B) T b))) r := by
    intro d
    induction d with
    | zero => intro b v h1; omega
    | succ d ih =>
      intro b v h1 h3
      have hT : TX (mS M 35 0 (nI b)) T := h.mv (by omega) (by decide)
      rw [F_Rd_readNumber_L2, hT.len, mS_same]
      by_cases q : b < T.length
      · rw [if_neg (nI_ge q (by omega)), f_next hT fu r (mS_same _ _ _ _) (by omega), bnd_k, f_digit fu _ _ _ hB, bnd_k]
        by_cases q2 : dgt B (ch T b) = true
        · have h5 := dgt_r hB q2
          have h6 : ¬ nI (dv (ch T b)) < 0 := nI_pos (by omega)
          have hmm : min v 127 * B ≤ 127 * 16 := Nat.mul_le_mul (by omega) (by omega)
          rw [if_pos q2, if_neg h6, f_next hT fu r (mS_same _ _ _ _) (by omega), bnd_k, f_digit fu _ _ _ hB, if_pos q2, bnd_k, F_Ma_min, bnd_k, mS_same, mS_mS, nI_1, nI_mul, nI_add, show (127 : Int32) = nI 127 from rfl]
          have h7 : (if nI (min v 127 * B + dv (ch T b)) ≤ nI 127 then nI (min v 127 * B + dv (ch T b)) else nI 127) = nI (min (v * B + dv (ch T b)) 127) := by
            have h8 : (min v 127 * B + dv (ch T b) ≤ 127 ∧ min (v * B + dv (ch T b)) 127 = min v 127 * B + dv (ch T b)) ∨ (127 < min v 127 * B + dv (ch T b) ∧ min (v * B + dv (ch T b)) 127 = 127) := by
              rcases hB with rfl | rfl <;> omega
            rcases h8 with ⟨h8, h9⟩ | ⟨h8, h9⟩
            · rw [if_pos (nI_le h8 (by omega)), h9]
            · rw [if_neg (nI_ge h8 (by omega)), h9]
          rw [h7, ih (b + 1) _ (by omega) (by omega), stre_scan q q2, List.foldl_cons, ← scan_step q q2]
        · rw [if_neg q2, if_pos (by decide), scan_stop (Or.inr (by simpa using q2)), stre_nil]; rfl
      · rw [if_pos (nI_le (by omega) (by omega)), scan_stop (Or.inl (by omega)), stre_nil]; rfl
  have h1 := key fu a 0 (by omega) hb
  rw [← ha, mS_self, show nI (min 0 127) = 0 from nI_0] at h1
  unfold F_Rd_readNumber sNum
  rw [h1]
  have g2 := scan_le (dgt B) hb
  unfold num
  generalize scan (dgt B) T a = b at *
  generalize (stre T a b).foldl (fun n c => n * B + dv c) 0 = v at *
  have hT : TX (mS M 35 0 (nI b)) T := h.mv (by omega) (by decide)
  rw [F_Rd_readNumber_B60, f_next hT fu r (mS_same _ _ _ _) (by omega), bnd_k, f_isCharacter, bnd_k]
  have hv : isCh (nI (min v 127)) = isN v := by
    rw [isCh_N (by omega)]; unfold isN
    by_cases q : v ≤ 127
    · rw [show min v 127 = v by omega]
    · rw [show min v 127 = 127 by omega]; simp; omega
  rw [hv]
  by_cases q1 : ch T b = 59
  · by_cases q2 : isN v = true
    · have q3 : v ≤ 126 := by unfold isN at q2; simp at q2; omega
      rw [if_pos (And.intro q1 q2), if_pos q1, q2, if_neg (by rw [b2_0]; decide), show min v 127 = v by omega, iC_n (by omega), gd_yes (gNc_ok (nI_ok (by omega))), mS_same, mS_mS, nI_1]
    · rw [if_neg (fun q => q2 q.2), if_pos q1, if_pos (by rw [b2_0]; simpa using q2)]; exact ⟨_, rfl⟩
  · rw [if_neg (fun q => q1 q.1), if_neg q1]; exact ⟨_, rfl⟩
theorem sNum_ok {T : List Int32} {B a b : Nat} {x : Int32} (ha : a ≤ T.length) (h : sNum T B a = some (x, b)) : isCh x = true ∧ a < b ∧ b ≤ T.length ∧ ch T (b - 1) = 59 := by
  unfold sNum at h
  split at h
  · rename_i q
    injection h with h; injection h with h1 h2
    have g1 := scan_ge (dgt B) T a
    have g2 := lt_of_ch q.1 (by decide)
    have q3 : num B (stre T a (scan (dgt B) T a)) ≤ 126 := by have := q.2; unfold isN at this; simp at this; omega
    refine ⟨?_, by omega, by omega, ?_⟩
    · rw [← h1, isCh_N (by omega)]; exact q.2
    · rw [← h2, Nat.add_sub_cancel]; exact q.1
  · cases h
theorem isAt_le {T : List Int32} : ∀ {L : List Int32} {a : Nat}, (∀ c ∈ L, c ≠ 0) → a ≤ T.length → isAt T a L = true → a + L.length ≤ T.length
  | [], a, _, ha, _ => ha
  | c :: L, a, hz, ha, h => by
    rw [isAt, Bool.and_eq_true, beq_iff_eq] at h
    have h1 := lt_of_ch h.1 (hz c (by simp))
    have h2 := isAt_le (L := L) (a := a + 1) (fun d hd => hz d (by simp [hd])) (by omega) h.2
    simp only [List.length_cons]; omega
theorem isAt_last {T : List Int32} : ∀ {L : List Int32} {a : Nat} {c : Int32}, isAt T a (L ++ [c]) = true → ch T (a + L.length) = c
  | [], a, c, h => by simpa [isAt] using h
  | x :: L, a, c, h => by
    rw [List.cons_append, isAt, Bool.and_eq_true] at h
    have := isAt_last (L := L) h.2
    rw [List.length_cons, ← Nat.add_assoc, Nat.add_right_comm]; exact this
theorem f_reference {M : gMem} {T : List Int32} (h : TX M T) (fu : Nat) (r : gRef) {a : Nat} (ha : M 35 0 = nI a) (hb : a ≤ T.length) (hfu : 240 < fu) :
    match sRef T a with
    | some (x, b) => F_Rd_readReference fu M r = .ok x (mS M 35 0 (nI b)) r
    | none => Ex (F_Rd_readReference fu M r) M (3, a) := by
  have hc : ∀ k : Nat, k < 65536 → gNc (nI k) := fun k hk => gNc_ok (nI_ok hk)
  unfold F_Rd_readReference sRef
  rw [f_passIf h fu r ha hb 3 (L := [38, 108, 116, 59]) rfl (by decide) hfu]
  by_cases q1 : isAt T a [38, 108, 116, 59] = true
  · rw [if_pos q1, if_pos q1, bnd_k, if_neg (by decide), gd_yes (show gNc 60 from hc 60 (by decide))]; rfl
  rw [if_neg q1, if_neg q1, bnd_k, if_pos rfl, f_passIf h fu r ha hb 4 (L := [38, 103, 116, 59]) rfl (by decide) hfu]
  by_cases q2 : isAt T a [38, 103, 116, 59] = true
  · rw [if_pos q2, if_pos q2, bnd_k, if_neg (by decide), gd_yes (show gNc 62 from hc 62 (by decide))]; rfl
  rw [if_neg q2, if_neg q2, bnd_k, if_pos rfl, f_passIf h fu r ha hb 5 (L := [38, 97, 109, 112, 59]) rfl (by decide) hfu]
  by_cases q3 : isAt T a [38, 97, 109, 112, 59] = true
  · rw [if_pos q3, if_pos q3, bnd_k, if_neg (by decide), gd_yes (show gNc 38 from hc 38 (by decide))]; rfl
  rw [if_neg q3, if_neg q3, bnd_k, if_pos rfl, f_passIf h fu r ha hb 6 (L := [38, 113, 117, 111, 116, 59]) rfl (by decide) hfu]
  by_cases q4 : isAt T a [38, 113, 117, 111, 116, 59] = true
  · rw [if_pos q4, if_pos q4, bnd_k, if_neg (by decide), gd_yes (show gNc 34 from hc 34 (by decide))]; rfl
  rw [if_neg q4, if_neg q4, bnd_k, if_pos rfl, f_passIf h fu r ha hb 7 (L := [38, 97, 112, 111, 115, 59]) rfl (by decide) hfu]
  by_cases q5 : isAt T a [38, 97, 112, 111, 115, 59] = true
  · rw [if_pos q5, if_pos q5, bnd_k, if_neg (by decide), gd_yes (show gNc 39 from hc 39 (by decide))]; rfl
  rw [if_neg q5, if_neg q5, bnd_k, if_pos rfl, f_passIf h fu r ha hb 8 (L := [38, 35, 120]) rfl (by decide) hfu]
  by_cases q6 : isAt T a [38, 35, 120] = true
  · rw [if_pos q6, if_pos q6, bnd_k, if_neg (by decide)]
    have g := isAt_le (by decide) hb q6
    have g1 := f_number (h.mv (t := 35) (i := 0) (v := nI (a + 3)) (by omega) (by decide)) fu r (mS_same _ _ _ _) g (B := 16) (Or.inr rfl) hfu
    cases hn : sNum T 16 (a + 3) with
    | none =>
      rw [hn] at g1; obtain ⟨b, g1⟩ := g1
      have g1' : F_Rd_readNumber fu 16 (mS M 35 0 (nI (a + 3))) r = _ := g1
      show Ex (gO.bnd (F_Rd_readNumber fu 16 (mS M 35 0 (nI (a + 3))) r) _) _ _
      rw [g1', bnd_k, if_pos rfl]
      exact Ex.bnd _ (Ex.tr (((Fr.rfl' M).s (by omega)).s (by omega)) (f_fail fu r rfl ha))
    | some xb =>
      obtain ⟨x, b⟩ := xb
      rw [hn] at g1
      have g1' : F_Rd_readNumber fu 16 (mS M 35 0 (nI (a + 3))) r = _ := g1
      have g2 := (sNum_ok g hn).1
      show gO.bnd (F_Rd_readNumber fu 16 (mS M 35 0 (nI (a + 3))) r) _ = _
      rw [g1', bnd_k, if_neg (isCh_ne g2), gd_yes (gNc_ok (isCh_ok g2)), mS_mS]
  rw [if_neg q6, if_neg q6, bnd_k, if_pos rfl, f_passIf h fu r ha hb 9 (L := [38, 35]) rfl (by decide) hfu]
  by_cases q7 : isAt T a [38, 35] = true
  · rw [if_pos q7, if_pos q7, bnd_k, if_neg (by decide)]
    have g := isAt_le (by decide) hb q7
    have g1 := f_number (h.mv (t := 35) (i := 0) (v := nI (a + 2)) (by omega) (by decide)) fu r (mS_same _ _ _ _) g (B := 10) (Or.inl rfl) hfu
    cases hn : sNum T 10 (a + 2) with
    | none =>
      rw [hn] at g1; obtain ⟨b, g1⟩ := g1
      have g1' : F_Rd_readNumber fu 10 (mS M 35 0 (nI (a + 2))) r = _ := g1
      show Ex (gO.bnd (F_Rd_readNumber fu 10 (mS M 35 0 (nI (a + 2))) r) _) _ _
      rw [g1', bnd_k, if_pos rfl]
      exact Ex.bnd _ (Ex.tr (((Fr.rfl' M).s (by omega)).s (by omega)) (f_fail fu r rfl ha))
    | some xb =>
      obtain ⟨x, b⟩ := xb
      rw [hn] at g1
      have g1' : F_Rd_readNumber fu 10 (mS M 35 0 (nI (a + 2))) r = _ := g1
      have g2 := (sNum_ok g hn).1
      show gO.bnd (F_Rd_readNumber fu 10 (mS M 35 0 (nI (a + 2))) r) _ = _
      rw [g1', bnd_k, if_neg (isCh_ne g2), gd_yes (gNc_ok (isCh_ok g2)), mS_mS]
  rw [if_neg q7, if_neg q7, bnd_k, if_pos rfl]
  exact Ex.bnd _ (f_fail fu r rfl ha)
theorem sRef_ok {T : List Int32} {a b : Nat} {x : Int32} (ha : a ≤ T.length) (h : sRef T a = some (x, b)) : isCh x = true ∧ a + 3 ≤ b ∧ b ≤ T.length ∧ ch T (b - 1) = 59 := by
  unfold sRef at h
  have st : ∀ (L : List Int32) (y : Int32), (∀ c ∈ L ++ [59], c ≠ 0) → isCh y = true → 2 ≤ L.length → isAt T a (L ++ [59]) = true → some (y, a + (L.length + 1)) = some (x, b) → isCh x = true ∧ a + 3 ≤ b ∧ b ≤ T.length ∧ ch T (b - 1) = 59 := by
    intro L y h1 h2 h3 h4 h5
    injection h5 with h5; injection h5 with e1 e2
    have g1 := isAt_le h1 ha h4
    have g2 := isAt_last h4
    rw [List.length_append] at g1
    simp only [List.length_cons, List.length_nil] at g1
    subst e1; subst e2
    exact ⟨h2, by omega, by omega, by rw [← Nat.add_assoc, Nat.add_sub_cancel]; exact g2⟩
  split at h
  · rename_i q; exact st [38, 108, 116] 60 (by decide) (by decide) (by decide) q h
  split at h
  · rename_i q; exact st [38, 103, 116] 62 (by decide) (by decide) (by decide) q h
  split at h
  · rename_i q; exact st [38, 97, 109, 112] 38 (by decide) (by decide) (by decide) q h
  split at h
  · rename_i q; exact st [38, 113, 117, 111, 116] 34 (by decide) (by decide) (by decide) q h
  split at h
  · rename_i q; exact st [38, 97, 112, 111, 115] 39 (by decide) (by decide) (by decide) q h
  split at h
  · rename_i q
    have g1 := isAt_le (by decide) ha q
    have g2 := sNum_ok g1 h
    simp only [List.length_cons, List.length_nil] at g1 g2
    exact ⟨g2.1, by omega, g2.2.2.1, g2.2.2.2⟩
  split at h
  · rename_i q
    have g1 := isAt_le (by decide) ha q
    have g2 := sNum_ok g1 h
    simp only [List.length_cons, List.length_nil] at g1 g2
    exact ⟨g2.1, by omega, g2.2.2.1, g2.2.2.2⟩
  · cases h
