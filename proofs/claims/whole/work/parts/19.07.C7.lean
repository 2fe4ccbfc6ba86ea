/-! Tags of the class -/
def cntD (T : List Int32) (L : List Att) : Nat := (L.filter (fun x => isD T x.nm)).length
def Kt (k : Nat) (M M' : gMem) : Prop := ∀ t i, ¬ (20 ≤ t ∧ t ≤ 25 ∧ 6 * k ≤ i ∧ i < 6 * k + 6) → ¬ (i = k ∧ (t = 26 ∨ t = 29 ∨ t = 30)) → ¬ (t = 35 ∧ i = 0) → t ≠ 13 → ¬ (t = 0 ∧ i = 3) → M' t i = M t i
theorem Kt.tr {k : Nat} {M M1 M2 : gMem} (h : Kt k M M1) (h2 : Kt k M1 M2) : Kt k M M2 := fun t j a b c d e => (h2 t j a b c d e).trans (h t j a b c d e)
theorem Kt.fr {k : Nat} {M M' : gMem} (h : Kt k M M') (hk : k < 24) : Fr M M' := fun t i q => h t i (by omega) (by omega) (by omega) (by omega) (by omega)
theorem Kt.tx {k : Nat} {M M' : gMem} {T : List Int32} (h : Kt k M M') (hT : TX M T) : TX M' T := hT.of (h 0 2 (by omega) (by omega) (by omega) (by omega) (by omega)) (fun i => h 12 i (by omega) (by omega) (by omega) (by omega) (by omega))
theorem Kt.at35 (k : Nat) (M : gMem) (v : Int32) : Kt k M (mS M 35 0 v) := fun t i a b c d e => by rw [mS, if_neg c]
theorem Kt.at26 (k : Nat) (M : gMem) (v : Int32) : Kt k M (mS M 26 k v) := fun t i a b c d e => by rw [mS, if_neg (by omega)]
theorem Ka.kt {k c : Nat} {M M' : gMem} (hc : c < 6) (h : Ka (6 * k + c) k M M') : Kt k M M' := fun t i u1 u2 u3 u4 u5 => h t i (by omega) (by omega) u3 u4 u5
/-- the references that reading a tag's attributes changes -/
def Rt (k : Nat) (r r' : gRef) : Prop := ∀ t i, ¬ (t = 0 ∧ 6 * k ≤ i ∧ i < 6 * k + 6) → r' t i = r t i
theorem Rt.tr {k : Nat} {r r1 r2 : gRef} (h : Rt k r r1) (h2 : Rt k r1 r2) : Rt k r r2 := fun t i a => (h2 t i a).trans (h t i a)
theorem Rt.s {k c : Nat} (r : gRef) (v : Option Nat) (hc : c < 6) : Rt k r (rS r 0 (6 * k + c) v) := fun t i a => by rw [rS, if_neg (by omega)]
def ATs (M : gMem) (T V : List Int32) (k : Nat) (L : List Att) : Prop := ∀ i x, L[i]? = some x → AT M T V (6 * k + i) x
theorem ATs.of {M M' : gMem} {T V : List Int32} {k : Nat} {L : List Att} (h : ATs M T V k L) (W : List Int32) (h1 : ∀ t i, 20 ≤ t → t ≤ 25 → i < L.length → M' t (6 * k + i) = M t (6 * k + i)) : ATs M' T (V ++ W) k L := by
  intro i x hi
  have hl : i < L.length := (List.getElem?_eq_some_iff.mp hi).1
  exact (h i x hi).of W (fun t a b => h1 t i a b hl)
def TgP (M M' : gMem) (r r' : gRef) (T V V' : List Int32) (k : Nat) (atts : List Att) (em : Bool) (z : Nat) : Prop :=
  (M' 35 0 = nI z) ∧
  (M' 29 k = nI atts.length) ∧
  (atts.length ≤ 6) ∧
  (M' 30 k = nI (cntD T atts)) ∧
  (ATs M' T V' k atts) ∧
  (RW M' 3 V') ∧
  (V'.length ≤ z) ∧
  (∃ W, V' = V ++ W) ∧
  (M' 26 k = b2 em) ∧
  (Kt k M M') ∧
  (Rt k r r') ∧
  (z ≤ T.length) ∧
  (ch T (z - 1) = 62)
theorem TgP.fa {M M' : gMem} {r r' : gRef} {T V V' : List Int32} {k : Nat} {atts : List Att} {em : Bool} {z : Nat} (h : TgP M M' r r' T V V' k atts em z) : M' 35 0 = nI z := h.1
theorem TgP.cn {M M' : gMem} {r r' : gRef} {T V V' : List Int32} {k : Nat} {atts : List Att} {em : Bool} {z : Nat} (h : TgP M M' r r' T V V' k atts em z) : M' 29 k = nI atts.length := h.2.1
theorem TgP.c6 {M M' : gMem} {r r' : gRef} {T V V' : List Int32} {k : Nat} {atts : List Att} {em : Bool} {z : Nat} (h : TgP M M' r r' T V V' k atts em z) : atts.length ≤ 6 := h.2.2.1
theorem TgP.dn {M M' : gMem} {r r' : gRef} {T V V' : List Int32} {k : Nat} {atts : List Att} {em : Bool} {z : Nat} (h : TgP M M' r r' T V V' k atts em z) : M' 30 k = nI (cntD T atts) := h.2.2.2.1
theorem TgP.ats {M M' : gMem} {r r' : gRef} {T V V' : List Int32} {k : Nat} {atts : List Att} {em : Bool} {z : Nat} (h : TgP M M' r r' T V V' k atts em z) : ATs M' T V' k atts := h.2.2.2.2.1
theorem TgP.vv {M M' : gMem} {r r' : gRef} {T V V' : List Int32} {k : Nat} {atts : List Att} {em : Bool} {z : Nat} (h : TgP M M' r r' T V V' k atts em z) : RW M' 3 V' := h.2.2.2.2.2.1
theorem TgP.vz {M M' : gMem} {r r' : gRef} {T V V' : List Int32} {k : Nat} {atts : List Att} {em : Bool} {z : Nat} (h : TgP M M' r r' T V V' k atts em z) : V'.length ≤ z := h.2.2.2.2.2.2.1
theorem TgP.ex {M M' : gMem} {r r' : gRef} {T V V' : List Int32} {k : Nat} {atts : List Att} {em : Bool} {z : Nat} (h : TgP M M' r r' T V V' k atts em z) : ∃ W, V' = V ++ W := h.2.2.2.2.2.2.2.1
theorem TgP.em {M M' : gMem} {r r' : gRef} {T V V' : List Int32} {k : Nat} {atts : List Att} {em : Bool} {z : Nat} (h : TgP M M' r r' T V V' k atts em z) : M' 26 k = b2 em := h.2.2.2.2.2.2.2.2.1
theorem TgP.kt {M M' : gMem} {r r' : gRef} {T V V' : List Int32} {k : Nat} {atts : List Att} {em : Bool} {z : Nat} (h : TgP M M' r r' T V V' k atts em z) : Kt k M M' := h.2.2.2.2.2.2.2.2.2.1
theorem TgP.rt {M M' : gMem} {r r' : gRef} {T V V' : List Int32} {k : Nat} {atts : List Att} {em : Bool} {z : Nat} (h : TgP M M' r r' T V V' k atts em z) : Rt k r r' := h.2.2.2.2.2.2.2.2.2.2.1
theorem TgP.zT {M M' : gMem} {r r' : gRef} {T V V' : List Int32} {k : Nat} {atts : List Att} {em : Bool} {z : Nat} (h : TgP M M' r r' T V V' k atts em z) : z ≤ T.length := h.2.2.2.2.2.2.2.2.2.2.2.1
theorem TgP.c62 {M M' : gMem} {r r' : gRef} {T V V' : List Int32} {k : Nat} {atts : List Att} {em : Bool} {z : Nat} (h : TgP M M' r r' T V V' k atts em z) : ch T (z - 1) = 62 := h.2.2.2.2.2.2.2.2.2.2.2.2
theorem f_B120 {M : gMem} {T V : List Int32} (hT : TX M T) (fu : Nat) (r : gRef) {b : Nat} (ha : M 35 0 = nI b) (hb : b ≤ T.length) {k : Nat} {atts : List Att} (hV : RW M 3 V) (hVb : V.length ≤ b) (hc : M 29 k = nI atts.length) (hc6 : atts.length ≤ 6) (hd : M 30 k = nI (cntD T atts)) (hat : ATs M T V k atts) (hfu : 240 < fu) :
    (ch T b = 62 → ∃ M', F_Rd_readTag_B120 fu k M r = .ok (some k) M' r ∧ TgP M M' r r T V V k atts false (b + 1)) ∧
    (ch T b = 47 → ch T (b + 1) = 62 → ∃ M', F_Rd_readTag_B120 fu k M r = .ok (some k) M' r ∧ TgP M M' r r T V V k atts true (b + 2)) ∧
    (ch T b = 47 → ch T (b + 1) ≠ 62 → Ex (F_Rd_readTag_B120 fu k M r) M (1, b + 1)) ∧
    (ch T b ≠ 47 → ch T b ≠ 62 → Ex (F_Rd_readTag_B120 fu k M r) M (1, b)) := by
  have hle := hT.le
  have atsn : ∀ M', (∀ t i, 20 ≤ t → t ≤ 25 → M' t i = M t i) → ATs M' T V k atts := by
    intro M' h1; have := hat.of (M' := M') [] (fun t i a b _ => h1 t _ a b); rw [List.append_nil] at this; exact this
  have h0 : isAt T b [47] = (ch T b == 47) := by simp [isAt]
  unfold F_Rd_readTag_B120
  rw [f_passIf hT fu r ha hb 10 (L := [47]) rfl (by decide) hfu, h0]
  refine ⟨?_, ?_, ?_, ?_⟩
  · intro q
    rw [q, if_neg (by decide), bnd_k, gd_yes (Or.inl rfl), f_pass1 (hT.mv (by omega) (by decide)) fu r (by rw [mS_tag _ (t := 26) (t2 := 35) _ _ _ (by decide)]; exact ha) hb q, bnd_k]
    have := lt_of_ch q (by decide)
    refine ⟨_, rfl, ?_⟩
    refine ⟨mS_same _ _ _ _, ?_, hc6, ?_, atsn _ ?_, (hV.mv (by omega) (by decide)).mv (by omega) (by decide), by omega, ⟨[], by simp⟩, ?_, (Kt.at26 k M _).tr (Kt.at35 k _ _), fun _ _ _ => rfl, by omega, q⟩
    · rw [mS_tag _ (t := 35) (t2 := 29) _ _ _ (by decide), mS_tag _ (t := 26) (t2 := 29) _ _ _ (by decide)]; exact hc
    · rw [mS_tag _ (t := 35) (t2 := 30) _ _ _ (by decide), mS_tag _ (t := 26) (t2 := 30) _ _ _ (by decide)]; exact hd
    · intro t i a b; rw [mS_tag _ _ _ _ (by omega), mS_tag _ _ _ _ (by omega)]
    · rw [mS_tag _ (t := 35) (t2 := 26) _ _ _ (by decide), mS_same]; rfl
  · intro q q2
    have := lt_of_ch q (by decide)
    have := lt_of_ch q2 (by decide)
    rw [q, if_pos (by decide), bnd_k, gd_yes (Or.inr rfl), f_pass1 ((hT.mv (by omega) (by decide)).mv (by omega) (by decide)) fu r (a := b + 1) (by rw [mS_tag _ (t := 26) (t2 := 35) _ _ _ (by decide), mS_same]; rfl) (by omega) q2, bnd_k]
    refine ⟨_, rfl, ?_⟩
    refine ⟨mS_same _ _ _ _, ?_, hc6, ?_, atsn _ ?_, ((hV.mv (by omega) (by decide)).mv (by omega) (by decide)).mv (by omega) (by decide), by omega, ⟨[], by simp⟩, ?_, ((Kt.at35 k M _).tr (Kt.at26 k _ _)).tr (Kt.at35 k _ _), fun _ _ _ => rfl, by omega, q2⟩
    · rw [mS_tag _ (t := 35) (t2 := 29) _ _ _ (by decide), mS_tag _ (t := 26) (t2 := 29) _ _ _ (by decide), mS_tag _ (t := 35) (t2 := 29) _ _ _ (by decide)]; exact hc
    · rw [mS_tag _ (t := 35) (t2 := 30) _ _ _ (by decide), mS_tag _ (t := 26) (t2 := 30) _ _ _ (by decide), mS_tag _ (t := 35) (t2 := 30) _ _ _ (by decide)]; exact hd
    · intro t i a b; rw [mS_tag _ _ _ _ (by omega), mS_tag _ _ _ _ (by omega), mS_tag _ _ _ _ (by omega)]
    · rw [mS_tag _ (t := 35) (t2 := 26) _ _ _ (by decide), mS_same]; rfl
  · intro q q2
    have := lt_of_ch q (by decide)
    rw [q, if_pos (by decide), bnd_k, gd_yes (Or.inr rfl)]
    refine Ex.bnd _ (Ex.tr (((Fr.rfl' M).s (by omega)).s (by omega)) (f_pass0 ((hT.mv (by omega) (by decide)).mv (by omega) (by decide)) fu r (a := b + 1) (by rw [mS_tag _ (t := 26) (t2 := 35) _ _ _ (by decide), mS_same]; rfl) (by omega) q2))
  · intro q q2
    rw [if_neg (by simpa using q), bnd_k, gd_yes (Or.inl rfl)]
    refine Ex.bnd _ (Ex.tr ((Fr.rfl' M).s (by omega)) (f_pass0 (hT.mv (by omega) (by decide)) fu r (by rw [mS_tag _ (t := 26) (t2 := 35) _ _ _ (by decide)]; exact ha) hb q2))
theorem cntD_app (T : List Int32) (L : List Att) (x : Att) : nI (cntD T (L ++ [x])) = nI (cntD T L) + b2 (isD T x.nm) := by
  unfold cntD; rw [List.filter_append, List.length_append]
  cases h : isD T x.nm
  · simp [List.filter, h, b2]
  · simp only [List.filter, h, b2, if_true, List.length_cons, List.length_nil]; exact (nI_1 _).symm
theorem f_tagLoop {T : List Int32} {fu first k : Nat} (hk : k < 24) (hfu : 240 < fu) :
    ∀ d n a e atts V M r, TX M T → M 35 0 = nI a → RW M 3 V → V.length ≤ a → n + 1 ≤ a → a ≤ T.length → M 29 k = nI atts.length → atts.length ≤ 6 → M 30 k = nI (cntD T atts) → ATs M T V k atts → T.length - n < d → T.length - a < e →
    match sRest T first e atts a with
    | .ok (atts', em, z) => ∃ M' r' V', F_Rd_readTag_L65 fu d (nI first) k (nI n) M r = .ok (some k) M' r' ∧ TgP M M' r r' T V V' k atts' em z ∧ a < z
    | .error w => Ex (F_Rd_readTag_L65 fu d (nI first) k (nI n) M r) M w := by
  intro d
  induction d with
  | zero => intro n a e atts V M r _ _ _ _ _ _ _ _ _ _ h1; omega
  | succ d ih =>
    intro n a e atts V M r hT ha hV hVa hna haT hc hc6 hd hat h1 h2
    obtain ⟨e, rfl⟩ : ∃ e', e = e' + 1 := ⟨e - 1, by omega⟩
    have hle := hT.le
    rw [F_Rd_readTag_L65, hT.len, if_neg (nI_ge (by omega) (by omega)), f_passBlanks hT fu r ha haT hfu, bnd_k, sRest]
    have s1 := scan_ge bl T a
    have s2 := scan_le bl haT
    generalize scan bl T a = b at *
    have k1 : Kt k M (mS M 35 0 (nI b)) := Kt.at35 k M _
    have t1 := k1.tx hT
    have hat1 : ATs (mS M 35 0 (nI b)) T V k atts := by
      have := hat.of (M' := mS M 35 0 (nI b)) [] (fun t i a b _ => mS_tag _ _ _ _ (by omega)); rw [List.append_nil] at this; exact this
    have c1 : (mS M 35 0 (nI b)) 29 k = nI atts.length := by rw [mS_tag _ (t := 35) (t2 := 29) _ _ _ (by decide)]; exact hc
    have dd1 : (mS M 35 0 (nI b)) 30 k = nI (cntD T atts) := by rw [mS_tag _ (t := 35) (t2 := 30) _ _ _ (by decide)]; exact hd
    have v1 : RW (mS M 35 0 (nI b)) 3 V := hV.mv (by omega) (by decide)
    obtain ⟨B1, B2, B3, B4⟩ := f_B120 t1 fu r (mS_same _ _ _ _) s2 (k := k) (atts := atts) v1 (by omega) c1 hc6 dd1 hat1 hfu
    -- the end of the tag, however it was come to
    have fin : (b = a ∨ pb (ch T b) = false) → ∀ X, X = F_Rd_readTag_B120 fu k (mS M 35 0 (nI b)) r → match (if ch T b = 62 then .ok (atts, false, b + 1) else if ch T b = 47 then (if ch T (b + 1) = 62 then .ok (atts, true, b + 2) else .error (1, b + 1)) else (.error (1, b) : Except Wr (List Att × Bool × Nat))) with
        | .ok (atts', em, z) => ∃ M' r' V', X = .ok (some k) M' r' ∧ TgP M M' r r' T V V' k atts' em z ∧ a < z
        | .error w => Ex X M w := by
      intro _ X hX
      have up : ∀ {M' : gMem} {em : Bool} {z : Nat}, TgP (mS M 35 0 (nI b)) M' r r T V V k atts em z → TgP M M' r r T V V k atts em z := fun {M' em z} h => ⟨h.fa, h.cn, h.c6, h.dn, h.ats, h.vv, h.vz, h.ex, h.em, k1.tr h.kt, h.rt, h.zT, h.c62⟩
      by_cases q1 : ch T b = 62
      · rw [if_pos q1]; obtain ⟨M', e1, p⟩ := B1 q1
        exact ⟨M', r, V, hX.trans e1, up p, by omega⟩
      rw [if_neg q1]
      by_cases q2 : ch T b = 47
      · rw [if_pos q2]
        by_cases q3 : ch T (b + 1) = 62
        · rw [if_pos q3]; obtain ⟨M', e1, p⟩ := B2 q2 q3
          exact ⟨M', r, V, hX.trans e1, up p, by omega⟩
        · rw [if_neg q3, hX]; exact Ex.tr (k1.fr hk) (B3 q2 q3)
      · rw [if_neg q2, hX]; exact Ex.tr (k1.fr hk) (B4 q2 q1)
    by_cases q0 : b = a ∨ pb (ch T b) = false
    · have hX : (if b2 (decide (a < b)) = 0 then F_Rd_readTag_B120 fu k (mS M 35 0 (nI b)) r else gO.bnd (F_Rd_next fu 0 (mS M 35 0 (nI b)) r) (fun v35 M35 r35 => gO.bnd (F_MR_beginsPart fu v35 M35 r35) (fun v36 M36 r36 => if v36 = 0 then (F_Rd_readTag_B120 fu k M36 r36) else (if (M36 29 k) < 6 then (gO.bnd (F_Rd_readAttribute fu k M36 r36) (fun v39 M39 r39 => F_Rd_readTag_L65 fu d (nI first) k (nI n + 1) M39 r39)) else (gO.bnd (F_Rd_fail fu 4 (nI first) M36 r36) (fun _ _ _ => .no)))))) = F_Rd_readTag_B120 fu k (mS M 35 0 (nI b)) r := by
        by_cases q5 : a < b
        · rw [if_neg (by rw [b2_0]; simpa using q5), f_next t1 fu r (mS_same _ _ _ _) (by omega), bnd_k, f_beginsPart, bnd_k, if_pos]
          rw [b2_0]; rcases q0 with q | q; omega; exact q
        · rw [if_pos (by rw [b2_0]; simpa using q5)]
      have g := fin q0 _ hX
      by_cases q1 : ch T b = 62
      · simp only [if_pos q1] at g ⊢; exact g
      by_cases q2 : ch T b = 47
      · simp only [if_neg q1, if_pos q2] at g ⊢; exact g
      · simp only [if_neg q1, if_neg q2, if_pos q0] at g ⊢; exact g
    · have q5 : a < b := by omega
      have q6 : pb (ch T b) = true := by cases h : pb (ch T b); exact absurd (Or.inr h) q0; rfl
      have q7 : ch T b ≠ 62 := by intro q; rw [q] at q6; exact absurd q6 (by decide)
      have q8 : ch T b ≠ 47 := by intro q; rw [q] at q6; exact absurd q6 (by decide)
      rw [if_neg q7, if_neg q8, if_neg q0, if_neg (show ¬ b2 (decide (a < b)) = 0 by rw [b2_0]; simpa using q5), f_next t1 fu r (mS_same _ _ _ _) (by omega), bnd_k, f_beginsPart, bnd_k, if_neg (show ¬ b2 (pb (ch T b)) = 0 by rw [b2_0, q6]; decide), c1]
      by_cases q9 : 6 ≤ atts.length
      · rw [if_pos q9, if_neg (show ¬ nI atts.length < 6 from nI_nlt (b := 6) q9 (by omega))]
        exact Ex.bnd _ (Ex.tr (k1.fr hk) (f_fail fu r rfl rfl))
      · rw [if_neg q9, if_pos (show nI atts.length < 6 from nI_lt (b := 6) (by omega) (by decide))]
        have g := f_readAttribute t1 fu r (mS_same _ _ _ _) s2 v1 (by omega) hk c1 (by omega) hfu
        cases hs : sAtt T b with
        | error w => rw [hs] at g; exact Ex.bnd _ (Ex.tr (k1.fr hk) g)
        | ok xe =>
          obtain ⟨x, c⟩ := xe
          rw [hs] at g
          obtain ⟨M2, e2, p1, p2, p3, p4, p5, p6, p7, p8, p9⟩ := g
          have k2 : Kt k M M2 := k1.tr (p6.kt (by omega))
          rw [e2, bnd_k, nI_1]
          have g2 := ih (n + 1) c e (atts ++ [x]) (V ++ x.val) M2 (rS r 0 (6 * k + atts.length) (some 144)) (k2.tx hT) p1 p5 p7 (by omega) p9 (by rw [p2, List.length_append]; rfl) (by rw [List.length_append]; simp only [List.length_cons, List.length_nil]; omega) (by rw [p3, dd1, cntD_app]) (by
            intro i y hi
            rcases Nat.lt_or_ge i atts.length with qi | qi
            · rw [List.getElem?_append_left qi] at hi
              exact (hat1 i y hi).of x.val (fun t h3 h4 => p6 t _ (by omega) (by omega) (by omega) (by omega) (by omega))
            · rw [List.getElem?_append_right qi] at hi
              have : i - atts.length = 0 := by
                rcases Nat.eq_zero_or_pos (i - atts.length) with h | h
                · exact h
                · rw [List.getElem?_eq_none (by simp only [List.length_cons, List.length_nil]; omega)] at hi; cases hi
              rw [this] at hi; injection hi with hi; subst hi
              rw [show i = atts.length by omega]; exact p4) (by omega) (by omega)
          dsimp only
          cases hr : sRest T first e (atts ++ [x]) c with
          | error w => rw [hr] at g2; exact Ex.tr (k2.fr hk) g2
          | ok q =>
            obtain ⟨atts', em, z⟩ := q
            rw [hr] at g2
            obtain ⟨M3, r3, V3, e3, p, pz⟩ := g2
            refine ⟨M3, r3, V3, e3, ⟨p.fa, p.cn, p.c6, p.dn, p.ats, p.vv, p.vz, ?_, p.em, k2.tr p.kt, (Rt.s r _ (by omega)).tr p.rt, p.zT, p.c62⟩, by omega⟩
            obtain ⟨W, hW⟩ := p.ex; exact ⟨x.val ++ W, by rw [hW, List.append_assoc]⟩
