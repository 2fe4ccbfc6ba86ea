/-! The steps of the class's reading -/
theorem CR.mv2 {M M' : gMem} {r r' : gRef} {T V : List Int32} {P : Ps} (h : CR M r T V P) {b : Nat} (hb : b ≤ T.length) (hab : P.at_ ≤ b) (k : ∀ t i, ¬ (t = 35 ∧ i = 0) → ¬ (20 ≤ t ∧ t ≤ 22 ∧ i = 169) → M' t i = M t i) (h5 : M' 35 0 = nI b) (hr : ∀ t i, ¬ (t = 0 ∧ i = 169) → r' t i = r t i) : CR M' r' T V (b, P.els, P.evs, P.opn) := by
  have va := h.va; have cl := h.cl; have fl := h.fl
  refine ⟨h.cx.kx (fun t i q => k t i (by omega) (by omega)) (fun i => hr 1 i (by omega)), h5, hb, ?_, ?_, h.oe, ?_, ?_, ?_, ?_, ?_, ?_, ?_, h.cu, h.ev, ?_, ?_, h.ob⟩
  · show V.length ≤ b; omega
  · rw [hr 3 0 (by omega)]; exact h.op
  · intro e he; rw [k 28 e (by omega) (by omega)]; exact h.ic e he
  · intro e E hE
    have he := (List.getElem?_eq_some_iff.mp hE).1
    have h24 : P.els.length ≤ 24 := h.cx.ce.le
    have he2 : e < P.els.length := he
    have sp := h.sp e E hE
    refine ⟨by rw [hr 0 _ (by omega)]; exact sp.en, fun i x hx => ?_⟩
    have hi := (List.getElem?_eq_some_iff.mp hx).1
    have c6 := (h.cx.ce.el e E hE).c6
    rw [hr 0 _ (by omega)]; exact sp.at_ i x hx
  · exact h.fm.of (k 0 5 (by omega) (by omega)) (fun j => k 15 j (by omega) (by omega))
  · show (fmL T P.els P.evs).length ≤ 6 * b; omega
  · exact ⟨h.ct.1.of (k 0 4 (by omega) (by omega)) (fun j => k 14 j (by omega) (by omega)), fun j y hj => by rw [k 1 j (by omega) (by omega)]; exact h.ct.2 j y hj⟩
  · show (ownS none P.evs).length ≤ b; omega
  · intro e he; rw [k 31 e (by omega) (by omega)]; exact h.ow e he
  · rw [k 36 0 (by omega) (by omega)]; exact h.wy
  · rw [k 37 0 (by omega) (by omega)]; exact h.wp
theorem st_end {M : gMem} {r : gRef} {T V : List Int32} {P : Ps} (h : CR M r T V P) {o : Nat} {E : Ele} (ho : P.opn = some o) (hE : P.els[o]? = some E) (h60 : ch T P.at_ = 60) (h47 : ch T (P.at_ + 1) = 47) (fu : Nat) (hfu : 1440 < fu) :
    Sx (F_Rd_readEndTag fu o M r) M T (sEnd T P o E) := by
  have hT := h.tx.le
  have aT := h.aT
  have q1 := lt_of_ch h60 (by decide)
  have q2 := lt_of_ch h47 (by decide)
  have h24 : P.els.length ≤ 24 := h.cx.ce.le
  have hol : o < P.els.length := h.oe o ho
  unfold F_Rd_readEndTag sEnd
  have g1 := f_passAll h.tx fu r h.fa aT 14 (L := [60, 47]) rfl (by decide) (by decide) (by omega)
  rw [show pa T P.at_ [60, 47] = .ok (P.at_ + 1 + 1) by simp [pa, h60, h47]] at g1
  have g1' : F_Rd_passAll fu 14 M r = .ok () (mS M 35 0 (nI (P.at_ + 2))) r := g1
  rw [g1', bnd_k]
  have c1 := h.mv (b := P.at_ + 2) (by omega) (by omega)
  have n1 := f_readName c1.tx fu r (mS_same _ _ _ _) (by omega : P.at_ + 2 ≤ T.length) 169 (by omega)
  cases hs : sName T (P.at_ + 2) with
  | error w => rw [hs] at n1; exact Ex.bnd _ (Ex.tr ((Fr.rfl' M).s (by omega)) n1)
  | ok lz =>
    obtain ⟨l, z⟩ := lz
    rw [hs] at n1
    obtain ⟨M2, e2, n2⟩ := n1
    have nl := sName_le hs
    rw [e2, bnd_k]
    have k2 : ∀ t i, ¬ (t = 35 ∧ i = 0) → ¬ (20 ≤ t ∧ t ≤ 22 ∧ i = 169) → M2 t i = M t i := fun t i a b => by rw [n2.kp t i (by omega) a, mS, if_neg a]
    have c2 : CR M2 (rS r 0 169 (some 144)) T V (z, P.els, P.evs, P.opn) := h.mv2 nl.2.1 (by omega) k2 n2.fa (fun t i a => by rw [rS, if_neg a])
    have nm2 : NM M2 T 169 ((P.at_ + 2, l, z) : Nam) := ⟨n2.fs, n2.fl, n2.fz, nl.2.2.1, nl.2.2.2, nl.2.1⟩
    have el2 := c2.cx.ce.el o E hE
    have f2 : Fr M M2 := fun t i q => k2 t i (by omega) (by omega)
    rw [f_sameName c2.tx el2.nm nm2 fu _ hfu, bnd_k]
    dsimp only
    by_cases q3 : stre T (P.at_ + 2) z = nmT T E.nm
    · rw [if_pos q3, if_neg (show ¬ b2 (nmT T E.nm == nmT T ((P.at_ + 2, l, z) : Nam)) = 0 by
        rw [b2_0]; simp only [Bool.not_eq_false]; exact beq_iff_eq.mpr q3.symm)]
      rw [f_passBlanks c2.tx fu _ n2.fa nl.2.1 (by omega), bnd_k]
      have s1 := scan_ge bl T z
      have s2 := scan_le bl nl.2.1
      generalize scan bl T z = b at *
      have t3 : TX (mS M2 35 0 (nI b)) T := c2.tx.mv (by omega) (by decide)
      by_cases q4 : ch T b = 62
      · have qb := lt_of_ch q4 (by decide)
        rw [if_pos q4, f_pass1 t3 fu _ (mS_same _ _ _ _) s2 q4, bnd_k, mS_mS]
        have c3 := c2.mv (b := b + 1) (by omega) (by show z ≤ b + 1; omega)
        have fl := h.fl
        have hlen : (endF T E).length = 3 + (E.nm.z - E.nm.s) := endF_len el2.nm.zT
        have hl2 : z - (P.at_ + 2) = E.nm.z - E.nm.s := by
          have e1 := stre_len (L := T) (s := P.at_ + 2) nl.2.1
          have e3 := stre_len (L := T) (s := E.nm.s) el2.nm.zT
          rw [q3] at e1; unfold nmT at e1; omega
        obtain ⟨M4, e4, g4, k4⟩ := f_endElement (r := rS r 0 169 (some 144)) c3.cx hE c3.fm fu (by show (fmL T P.els P.evs).length + _ ≤ 1440; omega) (by omega)
        rw [e4, bnd_k]
        have par4 : (rS r 0 169 (some 144)) 1 o = E.par := el2.par
        rw [par4]
        have fin : CR M4 (rS (rS r 0 169 (some 144)) 3 0 E.par) T V (b + 1, P.els, P.evs ++ [Ev.z o E.par], E.par) := by
          have e1 : ownS none (P.evs ++ [Ev.z o E.par]) = ownS none P.evs := by rw [ownS_cat]; exact List.append_nil _
          have e3 : fmL T P.els (P.evs ++ [Ev.z o E.par]) = fmL T P.els P.evs ++ endF T E := by
            rw [fmL_cat]; unfold fmL; simp [evF, Ev.z, hE]
          have kx := k4.ks
          have kk : ∀ t i, t ≠ 15 → ¬ (t = 0 ∧ i = 5) → M4 t i = (mS M2 35 0 (nI (b + 1))) t i := fun t i a b => k4 t i a b
          refine ⟨c3.cx.ks kx (fun i => by rw [rS, if_neg (by omega)]), ?_, ?_, ?_, rS_same _ _ _ _, ?_, ?_, ?_, ?_, ?_, ?_, ?_, ?_, ?_, ?_, ?_, ?_, ?_⟩
          · rw [kk 35 0 (by omega) (by omega)]; exact c3.fa
          · exact c3.aT
          · exact c3.va
          · intro p hp; have := h.cx.ce.pl o E hE p hp; show p < P.els.length; omega
          · intro e he; rw [kk 28 e (by omega) (by omega)]; exact c3.ic e he
          · intro e E2 hE2
            have sp := c3.sp e E2 hE2
            exact ⟨by rw [rS, if_neg (by omega)]; exact sp.en, fun i x hx => by rw [rS, if_neg (by omega)]; exact sp.at_ i x hx⟩
          · show RW M4 5 (fmL T P.els (P.evs ++ [Ev.z o E.par])); rw [e3]; exact g4
          · show (fmL T P.els (P.evs ++ [Ev.z o E.par])).length ≤ 6 * (b + 1); rw [e3, List.length_append]; omega
          · show CT M4 (ownS none (P.evs ++ [Ev.z o E.par])); rw [e1]
            exact ⟨c3.ct.1.of (kk 0 4 (by omega) (by omega)) (fun j => kk 14 j (by omega) (by omega)), fun j y hj => by rw [kk 1 j (by omega) (by omega)]; exact c3.ct.2 j y hj⟩
          · show (ownS none (P.evs ++ [Ev.z o E.par])).length ≤ b + 1; rw [e1]; exact c3.cl
          · intro e he
            show M4 31 e = nI (owN (ownS none (P.evs ++ [Ev.z o E.par])) e)
            rw [e1, kk 31 e (by omega) (by omega)]; exact c3.ow e he
          · show curS none (P.evs ++ [Ev.z o E.par]) = E.par; rw [curS_cat]; rfl
          · intro v hv
            show evOk P.els.length v
            rcases List.mem_append.mp hv with hv | hv
            · exact h.ev v hv
            · rw [List.mem_singleton] at hv; subst hv; exact hol
          · rw [kk 36 0 (by omega) (by omega)]; exact c3.wy
          · rw [kk 37 0 (by omega) (by omega)]; exact c3.wp
          · intro y hy
            have hy' : y ∈ ownS none (P.evs ++ [Ev.z o E.par]) := hy
            rw [e1] at hy'; exact h.ob y hy'
        have f4 : Fr M M4 := (f2.s (by omega)).tr k4.ks.fr
        cases hp : E.par with
        | none => rw [hp] at fin; rw [gcs_none rfl]; exact ⟨M4, _, V, rfl, fin, f4⟩
        | some p =>
          have hpl := h.cx.ce.pl o E hE p hp
          rw [hp] at fin; rw [gcs_some rfl, gd_yes (by omega : p < 24)]; exact ⟨M4, _, V, rfl, fin, f4⟩
      · rw [if_neg q4]
        exact Ex.bnd _ (Ex.tr (f2.s (by omega)) (f_pass0 t3 fu _ (mS_same _ _ _ _) s2 q4))
    · rw [if_neg q3, if_pos (show b2 (nmT T E.nm == nmT T ((P.at_ + 2, l, z) : Nam)) = 0 by
        rw [b2_0]; exact beq_eq_false_iff_ne.mpr (fun e => q3 e.symm))]
      exact Ex.bnd _ (Ex.tr f2 (f_fail fu _ rfl n2.fs))
theorem isAt3 (T : List Int32) (a : Nat) (x y z : Int32) : isAt T a [x, y, z] = (ch T a == x && (ch T (a + 1) == y && ch T (a + 2) == z)) := by simp [isAt]
theorem st_section {M : gMem} {r : gRef} {T V : List Int32} {P : Ps} (h : CR M r T V P) {o : Nat} (ho : P.opn = some o) (fu : Nat) (hfu : 1440 < fu) :
    Sx (F_Rd_readSection fu o M r) M T (sSec T P) := by
  have hT := h.tx.le
  have aT := h.aT
  have key : ∀ d b evs M, CR M r T V (b, P.els, evs, P.opn) → T.length - b < d → Sx (F_Rd_readSection_L7 fu o d M r) M T (match pa T (fat [93, 93, 62] T (T.length - b) b) [93, 93, 62] with
      | .error e => .error e
      | .ok z => .ok (z, P.els, evs ++ (stre T b (fat [93, 93, 62] T (T.length - b) b)).map Ev.c, P.opn)) := by
    intro d
    induction d with
    | zero => intro b evs M _ h1; omega
    | succ d ih =>
      intro b evs M c h1
      have bT : b ≤ T.length := c.aT
      have fa : M 35 0 = nI b := c.fa
      have cl : (ownS none evs).length ≤ b := c.cl
      have fl : (fmL T P.els evs).length ≤ 6 * b := c.fl
      -- the end of the section
      have fin : fat [93, 93, 62] T (T.length - b) b = b → Sx (F_Rd_readSection_B74 fu o M r) M T (match pa T (fat [93, 93, 62] T (T.length - b) b) [93, 93, 62] with
          | .error e => .error e
          | .ok z => .ok (z, P.els, evs ++ (stre T b (fat [93, 93, 62] T (T.length - b) b)).map Ev.c, P.opn)) := by
        intro hf
        rw [hf, F_Rd_readSection_B74, stre_nil, List.map_nil, List.append_nil]
        have g := Lx.ret (f_passAll c.tx fu r fa bT 16 (L := [93, 93, 62]) rfl (by decide) (by decide) (by omega))
        cases hp : pa T b [93, 93, 62] with
        | error w => rw [hp] at g; exact g
        | ok z =>
          rw [hp] at g
          have g2 := pa_ok (by decide) bT hp
          exact ⟨_, r, V, g, c.mv g2.2 (by show b ≤ z; omega), (Fr.rfl' M).s (by omega)⟩
      rw [F_Rd_readSection_L7, c.tx.len, fa]
      by_cases q : b < T.length
      · have hfs : fat [93, 93, 62] T (T.length - b) b = if isAt T b [93, 93, 62] then b else fat [93, 93, 62] T (T.length - (b + 1)) (b + 1) := by
          rw [show T.length - b = (T.length - (b + 1)) + 1 by omega, fat]
        -- one more character
        have more : isAt T b [93, 93, 62] = false → Sx (gO.bnd (F_Rd_addContent fu o (ch T b) M r) (fun _ M r => F_Rd_readSection_L7 fu o d (mS M 35 0 ((M 35 0) + 1)) r)) M T (match pa T (fat [93, 93, 62] T (T.length - b) b) [93, 93, 62] with
            | .error e => .error e
            | .ok z => .ok (z, P.els, evs ++ (stre T b (fat [93, 93, 62] T (T.length - b) b)).map Ev.c, P.opn)) := by
          intro hn
          rw [hfs, hn, if_neg (by decide)]
          have hcb := c.tx.okc b q
          obtain ⟨M2, e2, p1, p2, p3, p4, p5⟩ := f_addContent (r := r) c.ct c.fm fu (k := o) hcb (by show (ownS none evs).length < 240; omega) (by show (fmL T P.els evs).length + 6 ≤ 1440; omega) (by omega)
          rw [e2, bnd_k, p5, fa, nI_1]
          have kk := p4.tr (Kc.s35 o M2 (nI (b + 1)))
          have c2 := c.put (M' := mS M2 35 0 (nI (b + 1))) ho (x := ch T b) (b := b + 1) (by omega) (by show b < b + 1; omega) ⟨p1.1.mv (by omega) (by decide), fun j y hj => by rw [mS_tag _ (t := 35) (t2 := 1) _ _ _ (by decide)]; exact p1.2 j y hj⟩ (by rw [mS_tag _ (t := 35) (t2 := 31) _ _ _ (by decide)]; exact p2) (p3.mv (by omega) (by decide)) kk (mS_same _ _ _ _)
          have g := ih (b + 1) (evs ++ [Ev.c (ch T b)]) _ c2 (by omega)
          have f1 := fat_le (L := [93, 93, 62]) (T := T) (d := T.length - (b + 1)) (a := b + 1)
          generalize fat [93, 93, 62] T (T.length - (b + 1)) (b + 1) = f at *
          rw [stre_cons (by omega) (by omega : b < f), List.map_cons]
          cases hp : pa T f [93, 93, 62] with
          | error w => rw [hp] at g; exact Ex.tr kk.fr g
          | ok z =>
            rw [hp] at g
            obtain ⟨M3, r3, V3, e3, g3, g4⟩ := g
            refine ⟨M3, r3, V3, e3, ?_, kk.fr.tr g4⟩
            have : evs ++ [Ev.c (ch T b)] ++ List.map Ev.c (stre T (b + 1) f) = evs ++ Ev.c (ch T b) :: List.map Ev.c (stre T (b + 1) f) := by simp
            rw [this] at g3; exact g3
        rw [if_neg (nI_ge q (by omega)), f_next c.tx fu r fa (by omega), bnd_k]
        by_cases q1 : ch T b = 93
        · rw [if_pos q1, f_next1 c.tx fu r fa (by omega), bnd_k]
          by_cases q2 : ch T (b + 1) = 93
          · rw [if_pos q2, f_next2 c.tx fu r fa (by omega), bnd_k]
            by_cases q3 : ch T (b + 2) = 62
            · rw [if_pos q3]
              exact fin (by rw [hfs, isAt3, q1, q2, q3]; rfl)
            · rw [if_neg q3, f_next c.tx fu r fa (by omega), bnd_k]
              exact more (by rw [isAt3]; simp [q3])
          · rw [if_neg q2, f_next c.tx fu r fa (by omega), bnd_k]
            exact more (by rw [isAt3]; simp [q2])
        · rw [if_neg q1, f_next c.tx fu r fa (by omega), bnd_k]
          exact more (by rw [isAt3]; simp [q1])
      · rw [if_pos (nI_le (by omega) (by omega))]
        exact fin (by rw [show T.length - b = 0 by omega, fat])
  unfold F_Rd_readSection sSec
  have g1 := f_passAll h.tx fu r h.fa aT 15 (L := [60, 33, 91, 67, 68, 65, 84, 65, 91]) rfl (by decide) (by decide) (by omega)
  cases hp : pa T P.at_ [60, 33, 91, 67, 68, 65, 84, 65, 91] with
  | error w => rw [hp] at g1; exact Ex.bnd _ g1
  | ok b =>
    rw [hp] at g1
    have g1' : F_Rd_passAll fu 15 M r = .ok () (mS M 35 0 (nI b)) r := g1
    have g2 := pa_ok (by decide) aT hp
    rw [g1', bnd_k]
    have g := key fu b P.evs _ (h.mv g2.2 (by omega)) (by omega)
    dsimp only
    cases hq : pa T (fat [93, 93, 62] T (T.length - b) b) [93, 93, 62] with
    | error w => rw [hq] at g; exact Ex.tr ((Fr.rfl' M).s (by omega)) g
    | ok z =>
      rw [hq] at g
      obtain ⟨M3, r3, V3, e3, g3, g4⟩ := g
      exact ⟨M3, r3, V3, e3, g3, ((Fr.rfl' M).s (by omega)).tr g4⟩
