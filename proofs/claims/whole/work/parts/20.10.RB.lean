/-! The reference: content, the whole reading -/
theorem Sr.nb {x : gO Int32} {M : gMem} {r : gRef} {T : List Int32} {res : Except Wr Ps} (h : Sr x M r T res) : Sr (gO.bnd x (fun v M r => gd (gNb v) (.ok v M r))) M r T res := by
  cases res with
  | error w => exact Rx.nb h
  | ok Q =>
    obtain ⟨M', U', e, h1, h2⟩ := h
    exact ⟨M', U', by rw [e, bnd_k, gd_yes gNb_1], h1, h2⟩
theorem g_readMarked {M : gMem} {r : gRef} {T U : List Int32} {P : Ps} (h : RR M T U P) (hp : PI T P) {o : Nat} {E : Ele} (ho : P.opn = some o) (hE : P.els[o]? = some E) (h60 : ch T P.at_ = 60) (fu : Nat) (hfu : 240 < fu) :
    Sr (F_Mo_readMarked fu M r) M r T (if ch T (P.at_ + 1) = 47 then sEnd T P o E
    else if ch T (P.at_ + 1) = 33 then
      if ch T (P.at_ + 2) = 91 then sSec T P
      else match sCom T P.at_ with
        | .error e => .error e
        | .ok b => .ok (b, P.els, P.evs, P.opn)
    else sTag T P) := by
  have hle := h.tx.le
  have aT := h.aT
  unfold F_Mo_readMarked
  rw [h.fa, nI_1, g_here h.tx fu r (by omega), bnd_k]
  by_cases q1 : ch T (P.at_ + 1) = 47
  · rw [if_pos q1, if_pos q1]; exact Sr.nb (g_readEnd h hp ho hE h60 q1 fu hfu)
  rw [if_neg q1, if_neg q1]
  by_cases q2 : ch T (P.at_ + 1) = 33
  · have l2 := lt_of_ch q2 (by decide)
    have t2 : TXr (mS M 103 0 (nI (P.at_ + 2))) T := h.tx.mv (by omega) (by omega)
    rw [if_pos q2, if_pos q2, h.fa, nI_2, mS_same, g_here t2 fu r (by omega), bnd_k]
    by_cases q3 : ch T (P.at_ + 2) = 91
    · rw [if_pos q3, if_pos q3, mS_same, mS_mS, nI_1]
      exact Sr.nb (g_readSection h h60 q2 q3 fu hfu)
    · rw [if_neg q3, if_neg q3]
      have g := g_comment t2 fu r (s := P.at_) (mS_same _ _ _ _) h60 q2 hfu
      refine Sr.nb ?_
      cases hc : sCom T P.at_ with
      | error w => rw [hc] at g; exact Rx.tr ((Rf.rfl' M).s (by omega)) g
      | ok b =>
        rw [hc] at g
        have g' : F_Mo_comment fu (mS M 103 0 (nI (P.at_ + 2))) r = .ok 1 (mS (mS M 103 0 (nI (P.at_ + 2))) 103 0 (nI b)) r := g
        rw [mS_mS] at g'
        have g2 := sCom_ok aT hc
        exact ⟨_, U, g', h.at g2.2.1 (by omega), (Rf.rfl' M).s (by omega)⟩
  · rw [if_neg q2, if_neg q2]; exact Sr.nb (g_readTag h hp h60 fu hfu)
/-- what a step does to the spec's state -/
theorem step_facts {T : List Int32} (hT : ∀ i, i < T.length → isCh (ch T i) = true) {P Q : Ps} {o : Nat} {E : Ele} (hp : PI T P) (hw : WF P.els) (ho : P.opn = some o) (hE : P.els[o]? = some E) (aT : P.at_ ≤ T.length) (hs : sStep T P o E = .ok Q) :
    P.at_ < Q.at_ ∧ PI T Q ∧ ((ch T P.at_ ≠ 38 ∧ ch T P.at_ ≠ 60 ∧ Q.at_ = P.at_ + 1) ∨ ((ch T P.at_ = 38 ∨ ch T P.at_ = 60) ∧ ch T (Q.at_ - 1) ≠ 93)) := by
  have ol : ∀ k, P.opn = some k → k < P.els.length := fun k hk => by rw [ho] at hk; injection hk with hk; subst hk; exact (List.getElem?_eq_some_iff.mp hE).1
  have pic : ∀ (b : Nat) (L : List Ev) (p : Option Nat), (∀ v ∈ L, evG P.els v) → PI T ((b, P.els, P.evs ++ L, p) : Ps) := fun b L p hL => ⟨hp.1, hp.2.1, fun v hv => by
    rcases List.mem_append.mp hv with hv | hv
    · exact hp.2.2 v hv
    · exact hL v hv⟩
  unfold sStep at hs
  split at hs
  · rename_i q1
    cases hr : sRef T P.at_ with
    | none => rw [hr] at hs; cases hs
    | some xb =>
      obtain ⟨x, b⟩ := xb
      rw [hr] at hs; injection hs with hs; subst hs
      have g := sRef_ok aT hr
      refine ⟨by show P.at_ < b; omega, pic b [Ev.c x] _ (fun v hv => by rw [List.mem_singleton] at hv; rw [hv]; exact g.1), Or.inr ⟨Or.inl q1, ?_⟩⟩
      show ch T (b - 1) ≠ 93; rw [g.2.2.2]; decide
  rename_i q1
  split at hs
  · rename_i q2
    split at hs
    · unfold sEnd at hs
      cases hn : sName T (P.at_ + 2) with
      | error w => rw [hn] at hs; cases hs
      | ok lz =>
        obtain ⟨l, z⟩ := lz
        rw [hn] at hs
        have nl := sName_le hn
        have s1 := scan_ge bl T z
        dsimp only at hs
        split at hs
        · split at hs
          · rename_i q4
            injection hs with hs; subst hs
            refine ⟨by show P.at_ < scan bl T z + 1; omega, pic _ [Ev.z o E.par] _ (fun v hv => by rw [List.mem_singleton] at hv; rw [hv]; exact ⟨E, hE, rfl⟩), Or.inr ⟨Or.inr q2, ?_⟩⟩
            show ch T (scan bl T z + 1 - 1) ≠ 93; rw [Nat.add_sub_cancel, q4]; decide
          · cases hs
        · cases hs
    split at hs
    · split at hs
      · unfold sSec at hs
        cases hq : pa T P.at_ [60, 33, 91, 67, 68, 65, 84, 65, 91] with
        | error w => rw [hq] at hs; cases hs
        | ok b =>
          rw [hq] at hs
          have g2 := pa_ok (by decide) aT hq
          have f1 := fat_le (L := [93, 93, 62]) (T := T) (d := T.length - b) (a := b)
          dsimp only at hs
          cases hr : pa T (fat [93, 93, 62] T (T.length - b) b) [93, 93, 62] with
          | error w => rw [hr] at hs; cases hs
          | ok z =>
            rw [hr] at hs; injection hs with hs; subst hs
            have g3 := pa_ok (by decide) (by omega) hr
            simp only [List.length_cons, List.length_nil] at g2 g3
            have hz : ch T (z - 1) = 62 := by
              generalize fat [93, 93, 62] T (T.length - b) b = f at *
              simp only [pa] at hr
              split at hr <;> try (cases hr)
              split at hr <;> try (cases hr)
              split at hr <;> try (cases hr)
              rename_i q9; rw [show f + 1 + 1 + 1 - 1 = f + 1 + 1 by omega]; exact q9
            refine ⟨by show P.at_ < z; omega, pic _ _ _ (fun v hv => ?_), Or.inr ⟨Or.inr q2, by show ch T (z - 1) ≠ 93; rw [hz]; decide⟩⟩
            obtain ⟨c, hc, rfl⟩ := List.mem_map.mp hv
            show isCh c = true
            unfold stre at hc
            have hc2 := List.mem_of_mem_drop (List.mem_of_mem_take hc)
            obtain ⟨j, hj, rfl⟩ := List.mem_iff_getElem.mp hc2
            rw [← ch_in hj]; exact hT j hj
      · cases hc : sCom T P.at_ with
        | error w => rw [hc] at hs; cases hs
        | ok b =>
          rw [hc] at hs; injection hs with hs; subst hs
          have g := sCom_ok aT hc
          have := pic b [] P.opn (fun v hv => by cases hv)
          rw [List.append_nil] at this
          exact ⟨by show P.at_ < b; omega, this, Or.inr ⟨Or.inr q2, by show ch T (b - 1) ≠ 93; rw [g.2.2]; decide⟩⟩
    · have hs2 := hs
      rw [sTag_eq] at hs2
      cases h1 : sTag1 T P with
      | error w => rw [h1] at hs2; cases hs2
      | ok q =>
        obtain ⟨E2, em, z⟩ := q
        rw [h1] at hs2
        have w := sTag1_w hT h1
        have n := sTag1_n h1
        dsimp only at hs2
        cases hc : chk T (P.els ++ [E2]) P.els.length E2 with
        | some w => rw [hc] at hs2; cases hs2
        | none =>
          rw [hc] at hs2; injection hs2 with hs2
          have az : Q.at_ = z := by rw [← hs2]; rfl
          refine ⟨?_, hp.tag hT hw ol hs, Or.inr ⟨Or.inr q2, ?_⟩⟩
          · rw [az]; have := w.1; cases em <;> simp at this <;> omega
          · rw [az, n.2.2]; decide
  · rename_i q2
    split at hs
    · cases hs
    · rename_i q3
      injection hs with hs; subst hs
      have q0 : ch T P.at_ ≠ 0 := fun e => q3 (Or.inl e)
      exact ⟨by show P.at_ < P.at_ + 1; omega, pic _ [Ev.c (ch T P.at_)] _ (fun v hv => by rw [List.mem_singleton] at hv; rw [hv]; exact hT _ (lt_of_ch rfl q0)), Or.inl ⟨q1, q2, rfl⟩⟩
def BR (T : List Int32) (x : Int32) (a : Nat) : Prop := ∃ k : Nat, x = nI k ∧ k ≤ a ∧ (0 < k ↔ ch T (a - 1) = 93) ∧ (1 < k ↔ ch T (a - 1) = 93 ∧ ch T (a - 2) = 93)
theorem g_content {T : List Int32} {fu : Nat} {r : gRef} (hfu : 240 < fu) : ∀ d e x P M U, RR M T U P → PI T P → BR T x P.at_ → 2 ≤ P.at_ → T.length - P.at_ < d → T.length - P.at_ < e →
    match sCon T e P with
    | .error w => Rx (F_Mo_readContent_L2 fu d x M r) M r w
    | .ok Q => ∃ M' U', F_Mo_readContent_L2 fu d x M r = .ok 1 M' r ∧ RR M' T U' Q ∧ PI T Q ∧ Q.opn = none ∧ Rf M M' := by
  intro d
  induction d with
  | zero => intro e x P M U _ _ _ _ h1; omega
  | succ d ih =>
    intro e x P M U h hp hb h2 h3 h4
    obtain ⟨e, rfl⟩ : ∃ e', e = e' + 1 := ⟨e - 1, by omega⟩
    have hle := h.tx.le
    have aT := h.aT
    have ea := h.ea
    rw [F_Mo_readContent_L2, h.op, sCon]
    cases hop : P.opn with
    | none => rw [if_pos (show paI none < 0 by decide)]; exact ⟨M, U, rfl, h, hp, hop, Rf.rfl' M⟩
    | some o =>
      have hol := h.oe o hop
      have h24 : P.els.length ≤ 24 := h.re.2.1
      obtain ⟨E, hE⟩ : ∃ E, P.els[o]? = some E := ⟨_, List.getElem?_eq_getElem hol⟩
      rw [if_neg (show ¬ paI (some o) < 0 from nI_pos (by omega)), h.fa, g_here h.tx fu r (by omega), bnd_k, h.fa, h.tx.len]
      dsimp only
      rw [hE]
      dsimp only
      by_cases qe : P.at_ = T.length
      · have h0 : ch T P.at_ = 0 := ch_out (by omega)
        have hs : sStep T P o E = .error (1, P.at_) := by unfold sStep; rw [if_neg (by rw [h0]; decide), if_neg (by rw [h0]; decide), if_pos (Or.inl h0)]
        rw [if_pos (show nI P.at_ = nI T.length by rw [qe]), hs]
        exact g_fail fu r rfl rfl
      have qa : P.at_ < T.length := by omega
      have q0 : ch T P.at_ ≠ 0 := isCh_ne (h.tx.okc _ qa)
      rw [if_neg (fun q => qe ((nI_eq (by omega) (by omega)).mp q))]
      -- a step and what follows, with the brackets as counted
      have X : ∀ (k : Int32), (∀ Q, sStep T P o E = .ok Q → BR T k Q.at_) → ¬ (ch T P.at_ = 62 ∧ ch T (P.at_ - 1) = 93 ∧ ch T (P.at_ - 2) = 93) →
          ∀ Y, Y = (if ch T P.at_ = 60 then (gO.bnd (F_Mo_readMarked fu M r) (fun v M r => if v = 0 then (.ok 0 M r) else (F_Mo_readContent_L2 fu d k M r))) else (if ch T P.at_ = 38 then (gO.bnd (F_Mo_reference fu M r) (fun v M1 r => if 0 ≤ v then (gO.bnd (F_Mo_happen fu v M1 r) (fun _ M r => F_Mo_readContent_L2 fu d k M r)) else (gO.bnd (F_Mo_fail fu 3 (M 103 0) M1 r) (fun v M r => gd (gNb v) (.ok v M r))))) else (gO.bnd (F_Mo_happen fu (ch T P.at_) M r) (fun _ M r => F_Mo_readContent_L2 fu d k (mS M 103 0 ((M 103 0) + 1)) r)))) →
          match ((match sStep T P o E with
            | .error e => .error e
            | .ok Q => sCon T e Q) : Except Wr Ps) with
          | .error w => Rx Y M r w
          | .ok Q => ∃ M' U', Y = .ok 1 M' r ∧ RR M' T U' Q ∧ PI T Q ∧ Q.opn = none ∧ Rf M M' := by
        intro k hk hno Y hY
        -- going on from a state that was reached
        have goon : ∀ (Q : Ps) (M2 : gMem) (U2 : List Int32), sStep T P o E = .ok Q → RR M2 T U2 Q → Rf M M2 → Y = F_Mo_readContent_L2 fu d k M2 r → match sCon T e Q with
            | .error w => Rx Y M r w
            | .ok Q => ∃ M' U', Y = .ok 1 M' r ∧ RR M' T U' Q ∧ PI T Q ∧ Q.opn = none ∧ Rf M M' := by
          intro Q M2 U2 hs c2 f2 hY2
          obtain ⟨s1, s2, -⟩ := step_facts h.tx.okc hp h.re.wf hop hE aT hs
          have g := ih e k Q M2 U2 c2 s2 (hk Q hs) (by omega) (by have := c2.aT; omega) (by have := c2.aT; omega)
          cases hc : sCon T e Q with
          | error w => rw [hc] at g; rw [hY2]; exact Rx.tr f2 g
          | ok Q2 =>
            rw [hc] at g
            obtain ⟨M3, U3, e3, g1, g2, g3, g4⟩ := g
            exact ⟨M3, U3, hY2.trans e3, g1, g2, g3, f2.tr g4⟩
        by_cases c60 : ch T P.at_ = 60
        · rw [if_pos c60] at hY
          have g := g_readMarked (r := r) h hp hop hE c60 fu hfu
          have hss : sStep T P o E = (if ch T (P.at_ + 1) = 47 then sEnd T P o E
              else if ch T (P.at_ + 1) = 33 then
                if ch T (P.at_ + 2) = 91 then sSec T P
                else match sCom T P.at_ with
                  | .error e => .error e
                  | .ok b => .ok (b, P.els, P.evs, P.opn)
              else sTag T P) := by
            unfold sStep; rw [if_neg (by rw [c60]; decide), if_pos c60]; rfl
          rw [← hss] at g
          cases hs : sStep T P o E with
          | error w => rw [hs] at g; rw [hY]; exact Rx.if0 _ g
          | ok Q =>
            rw [hs] at g
            obtain ⟨M2, U2, e2, c2, f2⟩ := g
            rw [e2, bnd_k, if_neg (show ¬ (1 : Int32) = 0 by decide)] at hY
            exact goon Q M2 U2 hs c2 f2 hY
        rw [if_neg c60] at hY
        by_cases c38 : ch T P.at_ = 38
        · rw [if_pos c38] at hY
          have g := g_reference h.tx fu r h.fa c38 hfu
          have hss : sStep T P o E = (match sRef T P.at_ with
              | none => .error (3, P.at_)
              | some (x, b) => .ok (b, P.els, P.evs ++ [Ev.c x], P.opn)) := by
            unfold sStep; rw [if_pos c38]; rfl
          cases hr : sRef T P.at_ with
          | none =>
            rw [hr] at g hss
            have g' : F_Mo_reference fu M r = .ok (-1) M r := g
            rw [hss, hY, g', bnd_k, if_neg (by decide)]
            exact g_fail fu r rfl h.fa
          | some xb =>
            obtain ⟨y, b⟩ := xb
            rw [hr] at g hss
            have g' : F_Mo_reference fu M r = .ok y (mS M 103 0 (nI b)) r := g
            have g2 := sRef_ok aT hr
            have y0 : 0 ≤ y := by have := (isCh_r g2.1).1; rw [Int32.le_iff_toInt_le]; exact this
            have c1 := h.at (b := b) g2.2.2.1 (by omega)
            have en1 : (mS M 103 0 (nI b)) 122 0 = nI P.evs.length := c1.en
            rw [g', bnd_k, if_pos y0, g_happen fu r _ en1 (by omega), bnd_k] at hY
            have c2 : RR (mS (mS (mS M 103 0 (nI b)) 123 P.evs.length (evI (Ev.c y))) 122 0 (nI (P.evs.length + 1))) T U (b, P.els, P.evs ++ [Ev.c y], P.opn) := h.happ (Ev.c y) g2.2.2.1 (by omega) _ rfl _ (by rw [mS_tag _ (t := 122) (t2 := 103) _ _ _ (by decide), mS_tag _ (t := 123) (t2 := 103) _ _ _ (by decide), mS_same]) (fun t i a => by simp only [mS]; simp [a])
            rw [hss]
            exact goon _ _ U (by rw [hss]) c2 ((((Rf.rfl' M).s (by omega)).s (by omega)).s (by omega)) hY
        · rw [if_neg c38, g_happen fu r _ h.en (by omega), bnd_k] at hY
          have hss : sStep T P o E = .ok (P.at_ + 1, P.els, P.evs ++ [Ev.c (ch T P.at_)], P.opn) := by
            unfold sStep; rw [if_neg c38, if_neg c60, if_neg (fun q => q.elim q0 hno)]
          have e103 : (mS (mS M 123 P.evs.length (ch T P.at_)) 122 0 (nI (P.evs.length + 1))) 103 0 = nI P.at_ := by rw [mS_tag _ (t := 122) (t2 := 103) _ _ _ (by decide), mS_tag _ (t := 123) (t2 := 103) _ _ _ (by decide)]; exact h.fa
          rw [e103, nI_1] at hY
          have c2 : RR (mS (mS (mS M 123 P.evs.length (ch T P.at_)) 122 0 (nI (P.evs.length + 1))) 103 0 (nI (P.at_ + 1))) T U (P.at_ + 1, P.els, P.evs ++ [Ev.c (ch T P.at_)], P.opn) := h.happ (Ev.c (ch T P.at_)) (by omega) (by omega) _ rfl _ (mS_same _ _ _ _) (fun t i a => mS_tag _ _ _ _ a)
          rw [hss]
          exact goon _ _ U hss c2 ((((Rf.rfl' M).s (by omega)).s (by omega)).s (by omega)) hY
      obtain ⟨k, hk1, hk2, hk3, hk4⟩ := hb
      have br0 : ch T P.at_ ≠ 93 → ∀ Q, sStep T P o E = .ok Q → BR T 0 Q.at_ := by
        intro hc Q hs
        obtain ⟨s1, -, s3⟩ := step_facts h.tx.okc hp h.re.wf hop hE aT hs
        have : ch T (Q.at_ - 1) ≠ 93 := by
          rcases s3 with ⟨-, -, s3⟩ | ⟨-, s3⟩
          · rw [s3, Nat.add_sub_cancel]; exact hc
          · exact s3
        exact ⟨0, nI_0.symm, Nat.zero_le _, ⟨fun q => by omega, fun q => absurd q this⟩, ⟨fun q => by omega, fun q => absurd q.1 this⟩⟩
      by_cases c62 : ch T P.at_ = 62
      · have n93 : ch T P.at_ ≠ 93 := by rw [c62]; decide
        rw [if_pos c62, hk1]
        by_cases qk : k ≤ 1
        · rw [if_pos (show nI k ≤ (1 : Int32) from nI_le (b := 1) qk (by decide)), if_neg n93]
          have hno : ¬ (ch T P.at_ = 62 ∧ ch T (P.at_ - 1) = 93 ∧ ch T (P.at_ - 2) = 93) := fun q => by have := hk4.mpr q.2; omega
          have := X 0 (br0 n93) hno _ rfl
          rw [h.fa] at this
          exact this
        · have hbad := hk4.mp (by omega)
          have hs : sStep T P o E = .error (1, P.at_) := by unfold sStep; rw [if_neg (by rw [c62]; decide), if_neg (by rw [c62]; decide), if_pos (Or.inr ⟨c62, hbad⟩)]
          rw [if_neg (show ¬ nI k ≤ (1 : Int32) from nI_ge (a := 1) (by omega) (by omega)), hs]
          exact g_fail fu r rfl rfl
      · have hno : ¬ (ch T P.at_ = 62 ∧ ch T (P.at_ - 1) = 93 ∧ ch T (P.at_ - 2) = 93) := fun q => c62 q.1
        rw [if_neg c62]
        by_cases c93 : ch T P.at_ = 93
        · rw [if_pos c93]
          have := X (x + 1) (by
            intro Q hs
            obtain ⟨s1, -, s3⟩ := step_facts h.tx.okc hp h.re.wf hop hE aT hs
            rcases s3 with ⟨-, -, s3⟩ | ⟨s3, -⟩
            · rw [s3, hk1, nI_1]
              refine ⟨k + 1, rfl, by omega, ⟨fun _ => by rw [Nat.add_sub_cancel]; exact c93, fun _ => by omega⟩, ⟨fun q => ?_, fun q => ?_⟩⟩
              · rw [Nat.add_sub_cancel, show P.at_ + 1 - 2 = P.at_ - 1 by omega]; exact ⟨c93, hk3.mp (by omega)⟩
              · rw [show P.at_ + 1 - 2 = P.at_ - 1 by omega] at q; have := hk3.mpr q.2; omega
            · rw [c93] at s3; rcases s3 with s3 | s3 <;> exact absurd s3 (by decide)) hno _ rfl
          rw [h.fa] at this
          exact this
        · rw [if_neg c93]
          have := X 0 (br0 c93) hno _ rfl
          rw [h.fa] at this
          exact this
