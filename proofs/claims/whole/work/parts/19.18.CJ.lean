/-! The class's reading as a whole -/
theorem bnd_assoc {α β γ : Type} (x : gO α) (f : α → gMem → gRef → gO β) (g : β → gMem → gRef → gO γ) : gO.bnd (gO.bnd x f) g = gO.bnd x (fun v M r => gO.bnd (f v M r) g) := by
  rcases x with _ | ⟨v, M, r⟩ | ⟨k, M, r⟩ <;> rfl
theorem f_conLoop {T : List Int32} {fu k1 : Nat} (hfu : 1440 < fu) : ∀ d n e P M r V, CR M r T V P → n + 1 ≤ P.at_ → 2 ≤ P.at_ → T.length - n < d → T.length - P.at_ < e →
    match sCon T e P with
    | .error w => Ex (F_Rd_readText_L19 fu k1 d (nI n) M r) M w
    | .ok Q => ∃ M' r' V', F_Rd_readText_L19 fu k1 d (nI n) M r = F_Rd_readText_B156 fu k1 M' r' ∧ CR M' r' T V' Q ∧ Fr M M' := by
  intro d
  induction d with
  | zero => intro n e P M r V _ _ _ h1; omega
  | succ d ih =>
    intro n e P M r V h hn h2 hd he
    obtain ⟨e, rfl⟩ : ∃ e', e = e' + 1 := ⟨e - 1, by omega⟩
    have hT := h.tx.le
    have aT := h.aT
    have h24 : P.els.length ≤ 24 := h.cx.ce.le
    rw [F_Rd_readText_L19, h.tx.len, if_neg (nI_ge (by omega : n < T.length) (by omega)), h.op, sCon]
    cases hop : P.opn with
    | none => rw [gcs_none rfl]; exact ⟨M, r, V, rfl, h, Fr.rfl' M⟩
    | some o =>
      have hol := h.oe o hop
      obtain ⟨E, hE⟩ : ∃ E, P.els[o]? = some E := ⟨_, List.getElem?_eq_getElem hol⟩
      have hop2 : r 3 0 = some o := h.op.trans hop
      have nx := f_next h.tx fu r h.fa (by omega)
      have nx1 := f_next1 h.tx fu r h.fa (by omega)
      have nx2 := f_next2 h.tx fu r h.fa (by omega)
      have o24 : o < 24 := by omega
      rw [gcs_some rfl, gd_yes o24, nx, bnd_k]
      dsimp only
      rw [hE]
      dsimp only
      -- a step done, the loop goes on
      have go9 : ∀ (x : gO Unit) (res : Except Wr Ps), Sx x M T res → (∀ Q, res = .ok Q → P.at_ < Q.at_) → ∀ X, X = gO.bnd x (fun _ M r => F_Rd_readText_L19 fu k1 d (nI n + 1) M r) →
          match ((match res with
            | .error e => .error e
            | .ok Q => sCon T e Q) : Except Wr Ps) with
          | .error w => Ex X M w
          | .ok Q => ∃ M' r' V', X = F_Rd_readText_B156 fu k1 M' r' ∧ CR M' r' T V' Q ∧ Fr M M' := by
        intro x res hs ha X hX
        cases res with
        | error w => rw [hX]; exact Ex.bnd _ hs
        | ok Q =>
          obtain ⟨M2, r2, V2, e2, c2, f2⟩ := hs
          have a2 := ha Q rfl
          have a3 := c2.aT
          rw [e2, bnd_k, nI_1] at hX
          have g := ih (n + 1) e Q M2 r2 V2 c2 (by omega) (by omega) (by omega) (by omega)
          dsimp only
          cases hc : sCon T e Q with
          | error w => rw [hc] at g; rw [hX]; exact Ex.tr f2 g
          | ok Q2 =>
            rw [hc] at g
            obtain ⟨M3, r3, V3, e3, c3, f3⟩ := g
            exact ⟨M3, r3, V3, hX.trans e3, c3, f2.tr f3⟩
      unfold sStep
      by_cases q1 : ch T P.at_ = 38
      · rw [if_pos q1, if_pos q1, hop2, gcs_some rfl, gd_yes o24]
        refine go9 _ _ (st_ref h hop fu hfu) ?_ _ (bnd_assoc _ _ _).symm
        intro Q hQ
        cases hr : sRef T P.at_ with
        | none => rw [hr] at hQ; cases hQ
        | some xb =>
          obtain ⟨x, b⟩ := xb
          rw [hr] at hQ; injection hQ with hQ; subst hQ
          have := sRef_ok aT hr
          show P.at_ < b; omega
      rw [if_neg q1, if_neg q1, nx, bnd_k]
      by_cases q2 : ch T P.at_ = 60
      · rw [if_pos q2, if_pos q2, nx1, bnd_k]
        by_cases q3 : ch T (P.at_ + 1) = 47
        · rw [if_pos q3, if_pos q3, hop2, gcs_some rfl, gd_yes o24]
          refine go9 _ _ (st_end h hop hE q2 q3 fu hfu) ?_ _ rfl
          intro Q hQ
          unfold sEnd at hQ
          cases hs : sName T (P.at_ + 2) with
          | error w => rw [hs] at hQ; cases hQ
          | ok lz =>
            obtain ⟨l, z⟩ := lz
            rw [hs] at hQ
            have nl := sName_le hs
            have s1 := scan_ge bl T z
            dsimp only at hQ
            split at hQ
            · split at hQ
              · injection hQ with hQ; subst hQ; show P.at_ < scan bl T z + 1; omega
              · cases hQ
            · cases hQ
        · rw [if_neg q3, if_neg q3, nx1, bnd_k]
          by_cases q4 : ch T (P.at_ + 1) = 33
          · rw [if_pos q4, if_pos q4, nx2, bnd_k]
            by_cases q5 : ch T (P.at_ + 2) = 91
            · rw [if_pos q5, if_pos q5, hop2, gcs_some rfl, gd_yes o24]
              refine go9 _ _ (st_section h hop fu hfu) ?_ _ rfl
              intro Q hQ
              unfold sSec at hQ
              cases hp : pa T P.at_ [60, 33, 91, 67, 68, 65, 84, 65, 91] with
              | error w => rw [hp] at hQ; cases hQ
              | ok b =>
                rw [hp] at hQ
                have g2 := pa_ok (by decide) aT hp
                have f1 := fat_le (L := [93, 93, 62]) (T := T) (d := T.length - b) (a := b)
                dsimp only at hQ
                cases hq : pa T (fat [93, 93, 62] T (T.length - b) b) [93, 93, 62] with
                | error w => rw [hq] at hQ; cases hQ
                | ok z =>
                  rw [hq] at hQ; injection hQ with hQ; subst hQ
                  have g3 := pa_ok (by decide) (by omega) hq
                  simp only [List.length_cons, List.length_nil] at g2 g3
                  show P.at_ < z; omega
            · rw [if_neg q5, if_neg q5]
              refine go9 _ _ (st_comment h fu hfu) ?_ _ rfl
              intro Q hQ
              cases hc : sCom T P.at_ with
              | error w => rw [hc] at hQ; cases hQ
              | ok b =>
                rw [hc] at hQ; injection hQ with hQ; subst hQ
                have := sCom_ok aT hc
                show P.at_ < b; omega
          · rw [if_neg q4, if_neg q4]
            have g := st_tag h q2 fu hfu
            cases hs : sTag T P with
            | error w =>
              rw [hs] at g
              rcases g with g | ⟨k24, M1, r1, e1, f1, g⟩
              · exact Ex.bnd _ g
              · rw [e1, bnd_k, gcs_some rfl, gd_yes k24]
                exact Ex.bnd _ (Ex.tr f1 g)
            | ok Q =>
              rw [hs] at g
              obtain ⟨k24, az, M1, r1, M2, r2, V2, e1, e2, c2, f2⟩ := g
              rw [e1, bnd_k, gcs_some rfl, gd_yes k24]
              exact go9 (F_Rd_enter fu P.els.length M1 r1) (.ok Q) ⟨M2, r2, V2, e2, c2, f2⟩ (fun Q' hQ' => by injection hQ' with hQ'; subst hQ'; omega) _ rfl
      · rw [if_neg q2, if_neg q2, hop2, gcs_some rfl, gd_yes o24]
        refine go9 _ _ (st_plain h hop h2 fu hfu) ?_ _ rfl
        intro Q hQ
        split at hQ
        · cases hQ
        · injection hQ with hQ; subst hQ; show P.at_ < P.at_ + 1; omega
theorem f_epilog {M : gMem} {r : gRef} {T V : List Int32} {Q : Ps} (h : CR M r T V Q) (fu k1 : Nat) (hfu : 1440 < fu) :
    match ((match sPro T (T.length + 1) Q.at_ with
      | .error e => .error e
      | .ok b => if b < T.length then .error (1, if ch T b = 60 then b + 1 else b) else .ok Q) : Except Wr Ps) with
    | .error w => Ex (F_Rd_readText_B156 fu k1 M r) M w
    | .ok _ => ∃ M', F_Rd_readText_B156 fu k1 M r = .ok () M' r ∧ CR M' r T V (T.length, Q.els, Q.evs, Q.opn) ∧ Fr M M' := by
  have hT := h.tx.le
  have aT := h.aT
  unfold F_Rd_readText_B156
  have g := f_prolog h.tx fu r h.fa aT (by omega)
  have pge : ∀ e a b, a ≤ T.length → sPro T e a = .ok b → a ≤ b ∧ b ≤ T.length := by
    intro e
    induction e with
    | zero => intro a b _ hq; cases hq
    | succ e ih =>
      intro a b ha hq
      rw [sPro] at hq
      have s1 := scan_ge bl T a
      have s2 := scan_le bl ha
      split at hq
      · cases hc : sCom T (scan bl T a) with
        | error w => rw [hc] at hq; cases hq
        | ok c =>
          rw [hc] at hq
          have := sCom_ok s2 hc
          have := ih c b this.2.1 hq
          omega
      · injection hq with hq; omega
  cases hp : sPro T (T.length + 1) Q.at_ with
  | error w => rw [hp] at g; exact Ex.bnd _ g
  | ok b =>
    rw [hp] at g
    have g' : F_Rd_passBlanksAndComments fu M r = .ok () (mS M 35 0 (nI b)) r := g
    have hb := pge _ _ _ aT hp
    have c1 := h.mv (b := b) hb.2 hb.1
    rw [g', bnd_k, c1.tx.len, mS_same]
    dsimp only
    by_cases q : b < T.length
    · rw [if_pos q, if_neg (nI_ge q (by omega)), f_next c1.tx fu r (mS_same _ _ _ _) (by omega), bnd_k]
      by_cases q2 : ch T b = 60
      · rw [if_pos q2, if_pos q2]
        exact Ex.bnd _ (Ex.tr ((Fr.rfl' M).s (by omega)) (f_fail fu r rfl (nI_1 b)))
      · rw [if_neg q2, if_neg q2]
        exact Ex.bnd _ (Ex.tr ((Fr.rfl' M).s (by omega)) (f_fail fu r rfl rfl))
    · rw [if_neg q, if_pos (nI_le (by omega) (by omega))]
      have : b = T.length := by omega
      subst this
      exact ⟨_, rfl, c1, (Fr.rfl' M).s (by omega)⟩
theorem f_copyOf {M : gMem} {i j : Nat} {L : List Int32} (hij : i ≠ j) (h : RW M j L) (hl : L.length ≤ nRow i) (fu : Nat) (r : gRef) (hfu : 1440 < fu) : ∃ M', F_Row_copyOf fu i j M r = .ok () M' r ∧ RW M' i L ∧ Kr i M M' := by
  have n1 := nRow_le (i := i)
  have key : ∀ d k M1, L.length - k < d → k ≤ L.length → RW M1 j L → RW M1 i (L.take k) → ∃ M', F_Row_copyOf_L7 fu i j d (nI k) M1 r = .ok () M' r ∧ RW M' i L ∧ Kr i M1 M' := by
    intro d
    induction d with
    | zero => intro k M1 h1; omega
    | succ d ih =>
      intro k M1 h1 h2 w1 w2
      rw [F_Row_copyOf_L7, w1.len]
      by_cases q : k < L.length
      · obtain ⟨M2, e2, g1, g2⟩ := f_put w2 fu r (w1.okc k) (by rw [List.length_take]; omega)
        rw [if_neg (nI_ge q (by omega)), f_rowAt w1 fu r (by omega), bnd_k, e2, bnd_k, nI_1]
        obtain ⟨M3, e3, g3, g4⟩ := ih (k + 1) M2 (by omega) (by omega) (w1.of (g2 0 j (by omega) (by omega)) (fun q => g2 (10 + j) q (by omega) (by omega))) (by
          rw [List.take_add_one, List.getElem?_eq_getElem q, ← ch_in q]; exact g1)
        exact ⟨M3, e3, g3, g2.tr g4⟩
      · rw [if_pos (nI_le (by omega) (by omega)), F_Row_copyOf_B30]
        rw [List.take_of_length_le (by omega)] at w2
        exact ⟨M1, rfl, w2, Kr.rfl' i M1⟩
  unfold F_Row_copyOf
  have h0 : RW (mS M 0 i 0) i (L.take 0) := by
    refine ⟨by rw [mS_same]; rfl, by simp, fun q hq => by simp at hq, fun q => ?_⟩
    rw [List.take_zero, ch_out (by simp)]; exact cOK_0
  obtain ⟨M2, e2, g1, g2⟩ := key fu 0 (mS M 0 i 0) (by omega) (by omega) (h.mv (by omega) (by omega)) h0
  rw [nI_0] at e2
  refine ⟨M2, e2, g1, fun t q a b => ?_⟩
  rw [g2 t q a b, mS, if_neg (by omega)]
theorem f_readText {M : gMem} {r : gRef} {T : List Int32} (h0 : RW M 0 T) (hT : ∀ i, i < T.length → isCh (ch T i) = true) (z1 : M 23 144 = 0) (z2 : M 24 144 = 0) (fu : Nat) (hfu : 1440 < fu) :
    match sDoc T with
    | .error w => Ex (F_Rd_readText fu 0 M r) M w
    | .ok Q => ∃ M' r' V, F_Rd_readText fu 0 M r = .ok () M' r' ∧ CR M' r' T V (T.length, Q.els, Q.evs, Q.opn) ∧ Fr M M' := by
  have hle : T.length ≤ 240 := h0.le
  obtain ⟨M1, e1, w1, k1⟩ := f_copyOf (i := 2) (j := 0) (by decide) h0 hle fu r hfu
  unfold F_Rd_readText F_Rd_beginWith F_Tr_beginWith
  rw [e1, bnd_k, bnd_k, bnd_k]
  generalize hM2 : (mS (mS (mS (mS (mS (mS (mS M1 0 3 0) 0 4 0) 2 0 0) 0 5 0) 35 0 0) 36 0 0) 37 0 (-1)) = M2
  have f2 : ∀ t i, ¬ (t = 0 ∧ 2 ≤ i ∧ i ≤ 5) → t ≠ 12 → ¬ (t = 2 ∧ i = 0) → ¬ (t = 35 ∧ i = 0) → ¬ (t = 36 ∧ i = 0) → ¬ (t = 37 ∧ i = 0) → M2 t i = M t i := by
    intro t i a1 a2 a3 a4 a5 a6
    subst hM2
    simp only [mS]
    rw [if_neg (by omega), if_neg (by omega), if_neg (by omega), if_neg (by omega), if_neg (by omega), if_neg (by omega), if_neg (by omega), k1 t i (by omega) (by omega)]
  have fr2 : Fr M M2 := fun t i q => f2 t i (by omega) (by omega) (by omega) (by omega) (by omega) (by omega)
  have r0 : ∀ i, 3 ≤ i → i ≤ 5 → RW M2 i [] := by
    intro i a b
    have hz : M2 0 i = 0 := by
      subst hM2
      have : i = 3 ∨ i = 4 ∨ i = 5 := by omega
      rcases this with rfl | rfl | rfl <;> simp [mS]
    exact ⟨by rw [hz]; rfl, by simp, fun q hq => by simp at hq, fun q => by rw [ch_out (by simp)]; exact cOK_0⟩
  have t2 : TX M2 T := by
    refine ⟨?_, hle, ?_, hT⟩
    · subst hM2; simp only [mS]; rw [if_neg (by omega), if_neg (by omega), if_neg (by omega), if_neg (by omega), if_neg (by omega), if_neg (by omega), if_neg (by omega)]; exact w1.len
    · intro j hj; subst hM2; simp only [mS]; rw [if_neg (by omega), if_neg (by omega), if_neg (by omega), if_neg (by omega), if_neg (by omega), if_neg (by omega), if_neg (by omega)]; exact w1.chr j hj
  have c0 : CR M2 (rS r 3 0 none) T [] (0, [], [], none) := by
    have nil1 : ∀ (e : Nat) (E : Ele), (([] : List Ele))[e]? = some E → False := fun e E hE => by simp at hE
    have cx0 : CX M2 (rS r 3 0 none) T [] ([] : List Ele) := by
      refine ⟨t2, r0 3 (by omega) (by omega), ⟨?_, Nat.zero_le _, fun e E hE => (nil1 e E hE).elim, fun e E hE => (nil1 e E hE).elim⟩, ?_, ?_⟩
      · subst hM2; simp [mS]; rfl
      · rw [f2 23 144 (by omega) (by omega) (by omega) (by omega) (by omega) (by omega)]; exact z1
      · rw [f2 24 144 (by omega) (by omega) (by omega) (by omega) (by omega) (by omega)]; exact z2
    refine ⟨cx0, ?_, Nat.zero_le _, Nat.zero_le _, rS_same _ _ _ _, ?_, ?_, ?_, r0 5 (by omega) (by omega), Nat.zero_le _, ⟨r0 4 (by omega) (by omega), ?_⟩, Nat.zero_le _, ?_, rfl, ?_, ?_, ?_, ?_⟩
    · subst hM2; simp [mS]; rfl
    · intro o ho; cases ho
    · intro e he; exact absurd he (Nat.not_lt_zero e)
    · intro e E hE; exact (nil1 e E hE).elim
    · intro j y hj
      have : (([] : List (Option Nat × Int32)))[j]? = some y := hj
      simp at this
    · intro e he; exact absurd he (Nat.not_lt_zero e)
    · intro v hv
      have : v ∈ ([] : List Ev) := hv
      cases this
    · subst hM2; simp [mS]
    · subst hM2; simp [mS]
    · intro y hy
      have : y ∈ ([] : List (Option Nat × Int32)) := hy
      cases this
  have g := f_prolog c0.tx fu (rS r 3 0 none) c0.fa (Nat.zero_le _) (by omega)
  unfold sDoc
  have pge : ∀ e a b, a ≤ T.length → sPro T e a = .ok b → b ≤ T.length := by
    intro e
    induction e with
    | zero => intro a b _ hq; cases hq
    | succ e ih =>
      intro a b ha hq
      rw [sPro] at hq
      have s2 := scan_le bl ha
      split at hq
      · cases hc : sCom T (scan bl T a) with
        | error w => rw [hc] at hq; cases hq
        | ok c => rw [hc] at hq; exact ih c b (sCom_ok s2 hc).2.1 hq
      · injection hq with hq; omega
  cases hp : sPro T (T.length + 1) 0 with
  | error w =>
    have g2 : Lx _ M2 _ (sPro T (T.length + 1) 0) := g
    rw [hp] at g2; exact Ex.bnd _ (Ex.tr fr2 g2)
  | ok a =>
    have g2 : Lx (F_Rd_passBlanksAndComments fu M2 (rS r 3 0 none)) M2 (rS r 3 0 none) (sPro T (T.length + 1) 0) := g
    rw [hp] at g2
    have g' : F_Rd_passBlanksAndComments fu M2 (rS r 3 0 none) = .ok () (mS M2 35 0 (nI a)) (rS r 3 0 none) := g2
    have ha := pge _ _ _ (Nat.zero_le _) hp
    have c1 : CR (mS M2 35 0 (nI a)) (rS r 3 0 none) T [] ((a, [], [], none) : Ps) := c0.mv (b := a) ha (Nat.zero_le _)
    have fr3 : Fr M (mS M2 35 0 (nI a)) := fr2.s (by omega)
    rw [g', bnd_k]
    dsimp only
    by_cases q : ch T a = 60
    · rw [if_pos q]
      have g := st_tag c1 q fu hfu
      cases hs : sTag T (a, [], [], none) with
      | error w =>
        rw [hs] at g
        rcases g with g | ⟨k24, M3, r3, e3, f3, g⟩
        · exact Ex.bnd _ (Ex.tr fr3 g)
        · rw [e3, bnd_k, gcs_some rfl, gd_yes k24]
          exact Ex.bnd _ (Ex.tr (fr3.tr f3) g)
      | ok P =>
        rw [hs] at g
        obtain ⟨k24, az, M3, r3, M4, r4, V4, e3, e4, c4, f4⟩ := g
        rw [e3, bnd_k, gcs_some rfl, gd_yes k24, e4, bnd_k]
        have az' : a + 2 ≤ P.at_ := az
        have g := f_conLoop (T := T) (k1 := 0) hfu fu 0 (T.length + 1) P M4 r4 V4 c4 (by omega) (by omega) (by omega) (by omega)
        rw [nI_0] at g
        dsimp only
        cases hc : sCon T (T.length + 1) P with
        | error w => rw [hc] at g; exact Ex.tr (fr3.tr f4) g
        | ok Q =>
          rw [hc] at g
          obtain ⟨M5, r5, V5, e5, c5, f5⟩ := g
          rw [e5]
          have g := f_epilog c5 fu 0 hfu
          have f6 := (fr3.tr f4).tr f5
          dsimp only
          cases hpp : sPro T (T.length + 1) Q.at_ with
          | error w => rw [hpp] at g; exact Ex.tr f6 g
          | ok b =>
            rw [hpp] at g
            dsimp only at g ⊢
            by_cases qb : b < T.length
            · rw [if_pos qb] at g ⊢; exact Ex.tr f6 g
            · rw [if_neg qb] at g ⊢
              obtain ⟨M7, e7, c7, f7⟩ := g
              exact ⟨M7, r5, V5, e7, c7, f6.tr f7⟩
    · rw [if_neg q]
      unfold F_Rd_readTag
      exact Ex.bnd _ (Ex.bnd _ (Ex.tr fr3 (f_pass0 c1.tx fu _ c1.fa ha q)))
