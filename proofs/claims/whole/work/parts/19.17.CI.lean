/-! A tag read and entered -/
theorem sTag1_w {T : List Int32} (hT : ∀ i, i < T.length → isCh (ch T i) = true) {P : Ps} {E : Ele} {em : Bool} {z : Nat} (h : sTag1 T P = .ok (E, em, z)) : (E.nm.z - E.nm.s) + wA E.atts + P.at_ + 1 + (if em then 2 else 1) ≤ z ∧ z ≤ T.length ∧ (∀ x ∈ E.atts, GA T x) ∧ E.nm.z ≤ T.length ∧ E.nm.s < E.nm.z ∧ E.par = P.opn ∧ E.dp = dpO P.els P.opn + 1 ∧ E.nm.s = P.at_ + 1 ∧ P.els.length < 24 ∧ dpO P.els P.opn < 12 := by
  unfold sTag1 at h
  split at h
  · split at h
    · cases h
    rename_i q2
    cases hs : sName T (P.at_ + 1) with
    | error w => rw [hs] at h; cases h
    | ok lz =>
      obtain ⟨l, y⟩ := lz
      rw [hs] at h
      have nl := sName_le hs
      dsimp only at h
      cases hr : sRest T P.at_ (T.length + 1) [] y with
      | error w => rw [hr] at h; cases h
      | ok q =>
        obtain ⟨atts, em2, e⟩ := q
        rw [hr] at h
        have w := sRest_w hT nl.2.1 (by simp) hr
        injection h with h
        injection h with h1 h2
        injection h2 with h2 h3
        subst h1; subst h2; subst h3
        have w1 : wA atts + y + (if em2 then 2 else 1) ≤ 0 + e := w.1
        refine ⟨?_, w.2.1, w.2.2, nl.2.1, nl.1, rfl, rfl, rfl, by omega, by omega⟩
        show (y - (P.at_ + 1)) + wA atts + P.at_ + 1 + (if em2 then 2 else 1) ≤ e
        omega
  · cases h
theorem st_tag {M : gMem} {r : gRef} {T V : List Int32} {P : Ps} (h : CR M r T V P) (h60 : ch T P.at_ = 60) (fu : Nat) (hfu : 1440 < fu) :
    match sTag T P with
    | .error w => Ex (F_Rd_readTag fu M r) M w ∨ (P.els.length < 24 ∧ ∃ M1 r1, F_Rd_readTag fu M r = .ok (some P.els.length) M1 r1 ∧ Fr M M1 ∧ Ex (F_Rd_enter fu P.els.length M1 r1) M1 w)
    | .ok Q => P.els.length < 24 ∧ P.at_ + 2 ≤ Q.at_ ∧ ∃ M1 r1 M' r' V', F_Rd_readTag fu M r = .ok (some P.els.length) M1 r1 ∧ F_Rd_enter fu P.els.length M1 r1 = .ok () M' r' ∧ CR M' r' T V' Q ∧ Fr M M' := by
  have hT := h.tx.le
  have aT := h.aT
  have g := f_readTag h.tx h.fa h.aT h.cx.vv h.va h.cx.ce h.op h.oe h.ic fu (by omega) h60
  rw [sTag_eq]
  cases hs : sTag1 T P with
  | error w => rw [hs] at g; exact Or.inl g
  | ok q =>
    obtain ⟨E, em, z⟩ := q
    rw [hs] at g
    obtain ⟨M1, r1, V1, e1, p⟩ := g
    obtain ⟨w1, w2, w3, w4, w5, w6, w7, w8, w9, w10⟩ := sTag1_w h.tx.okc hs
    have hE : (P.els ++ [E])[P.els.length]? = some E := by rw [List.getElem?_append_right (Nat.le_refl _), Nat.sub_self]; rfl
    have kg : ∀ t i, ¬ (20 ≤ t ∧ t ≤ 25 ∧ 6 * P.els.length ≤ i ∧ i < 6 * P.els.length + 6) → ¬ (20 ≤ t ∧ t ≤ 22 ∧ i = 145 + P.els.length) → ¬ (26 ≤ t ∧ t ≤ 31 ∧ i = P.els.length) → t ≠ 28 → ¬ (t = 35 ∧ i = 0) → t ≠ 13 → ¬ (t = 0 ∧ i = 3) → ¬ (t = 2 ∧ i = 0) → M1 t i = M t i := p.kg
    have x1 : CX M1 r1 T V1 (P.els ++ [E]) := ⟨p.tx, p.vv, p.ce, by rw [kg 23 144 (by omega) (by omega) (by omega) (by omega) (by omega) (by omega) (by omega) (by omega)]; exact h.cx.z1, by rw [kg 24 144 (by omega) (by omega) (by omega) (by omega) (by omega) (by omega) (by omega) (by omega)]; exact h.cx.z2⟩
    have fm1 : RW M1 5 (fmL T P.els P.evs) := h.fm.of (kg 0 5 (by omega) (by omega) (by omega) (by omega) (by omega) (by omega) (by omega) (by omega)) (fun j => kg 15 j (by omega) (by omega) (by omega) (by omega) (by omega) (by omega) (by omega) (by omega))
    have fl := h.fl
    have bl1 : (begF T (P.els ++ [E]) P.els.length E).length ≤ 2 + (E.nm.z - E.nm.s) + 6 * wA E.atts := begF_len w3 w4
    have bl2 : (endF T E).length = 3 + (E.nm.z - E.nm.s) := endF_len w4
    have cap : (fmL T P.els P.evs).length + (begF T (P.els ++ [E]) P.els.length E).length + (if em then (endF T E).length else 0) ≤ 6 * z := by
      cases em with
      | false => rw [if_neg (by decide)] at w1 ⊢; omega
      | true => rw [if_pos rfl] at w1 ⊢; omega
    have g := f_enter x1 hE fm1 p.em fu hfu (by omega)
    dsimp only
    cases hc : chk T (P.els ++ [E]) P.els.length E with
    | some w => rw [hc] at g; exact Or.inr ⟨w9, M1, r1, e1, p.kg.fr w9, g⟩
    | none =>
      rw [hc] at g
      obtain ⟨M2, r2, e2, g1, g2, g3, g4, g5⟩ := g
      have wf := h.cx.ce.wf
      have az : P.at_ + 2 ≤ z := by cases em <;> simp at w1 <;> omega
      refine ⟨w9, az, M1, r1, M2, r2, V1, e1, e2, ?_, (p.kg.fr w9).tr g2.fr⟩
      -- the new state
      have m2 : ∀ t i, t ≠ 15 → ¬ (t = 0 ∧ i = 5) → ¬ (t = 34 ∧ i = 0) → M2 t i = M1 t i := g2
      have mm : ∀ t i, t = 1 ∨ t = 14 ∨ (t = 0 ∧ i = 4) ∨ t = 36 ∨ t = 37 ∨ (t = 31 ∧ i ≠ P.els.length) → M2 t i = M t i := fun t i q => by rw [m2 t i (by omega) (by omega) (by omega), kg t i (by omega) (by omega) (by omega) (by omega) (by omega) (by omega) (by omega) (by omega)]
      have hnew : ∀ o, ownS o (if em then [Ev.b P.els.length, Ev.z P.els.length P.opn] else [Ev.b P.els.length]) = [] := by intro o; cases em <;> rfl
      have eO : ownS none (P.evs ++ (if em then [Ev.b P.els.length, Ev.z P.els.length P.opn] else [Ev.b P.els.length])) = ownS none P.evs := by rw [ownS_cat, hnew, List.append_nil]
      have eF : fmL T (P.els ++ [E]) (P.evs ++ (if em then [Ev.b P.els.length, Ev.z P.els.length P.opn] else [Ev.b P.els.length])) = fmL T P.els P.evs ++ begF T (P.els ++ [E]) P.els.length E ++ (if em then endF T E else []) := by
        rw [fmL_cat, fmL_app wf h.ev, List.append_assoc]
        congr 1
        cases em
        · unfold fmL; simp [evF, Ev.b, hE]
        · unfold fmL; simp [evF, Ev.b, Ev.z, hE]
      have len1 : (P.els ++ [E]).length = P.els.length + 1 := by rw [List.length_append]; rfl
      have op2 : r1 3 0 = P.opn := by rw [p.rg 3 0 (by omega) (by omega)]; exact h.op
      refine ⟨x1.ks g2 (fun i => g5 1 i (by omega) (by omega) (by omega)), ?_, p.zT, p.vz, ?_, ?_, ?_, ?_, ?_, ?_, ?_, ?_, ?_, ?_, ?_, ?_, ?_, ?_⟩
      · rw [m2 35 0 (by omega) (by omega) (by omega)]; exact p.fa
      · show r2 3 0 = if em then P.opn else some P.els.length
        rw [g4, op2]
      · intro o ho
        show o < (P.els ++ [E]).length
        rw [len1]
        have ho' : (if em then P.opn else some P.els.length) = some o := ho
        cases em with
        | false => rw [if_neg (by decide)] at ho'; injection ho' with ho'; omega
        | true => rw [if_pos rfl] at ho'; have := h.oe o ho'; omega
      · intro e he
        have he' : e < (P.els ++ [E]).length := he
        rw [len1] at he'
        rw [m2 28 e (by omega) (by omega) (by omega)]; exact p.ic e he'
      · intro e E2 hE2
        have hE2' : (P.els ++ [E])[e]? = some E2 := hE2
        show SPk r2 T (P.els ++ [E]) e E2
        rcases getl hE2' with ⟨q, hj⟩ | ⟨q, rfl⟩
        · have sp := h.sp e E2 hj
          have c6 := (wf e E2 hj).1
          have rr : ∀ i, i < 169 → ¬ (6 * P.els.length ≤ i ∧ i < 6 * P.els.length + 6 ∨ i = 145 + P.els.length) → r2 0 i = r 0 i := fun i _ hi => by
            rw [g5 0 i (by omega) (by omega) (by omega), p.rg 0 i (by omega) (by omega)]
          refine ⟨?_, fun i x hx => ?_⟩
          · rw [rr _ (by omega) (by omega), spE_app wf q]; exact sp.en
          · have hi := (List.getElem?_eq_some_iff.mp hx).1
            rw [rr _ (by omega) (by omega), spA_app wf q]; exact sp.at_ i x hx
        · rw [q]; exact g3
      · show RW M2 5 (fmL T (P.els ++ [E]) (P.evs ++ _)); rw [eF]; exact g1
      · show (fmL T (P.els ++ [E]) (P.evs ++ _)).length ≤ 6 * z
        rw [eF, List.length_append, List.length_append]
        cases em with
        | false => rw [if_neg (by decide)] at cap ⊢; simp only [List.length_nil]; omega
        | true => rw [if_pos rfl] at cap ⊢; omega
      · show CT M2 (ownS none (P.evs ++ _)); rw [eO]
        exact ⟨h.ct.1.of (mm 0 4 (by omega)) (fun j => mm 14 j (by omega)), fun j y hj => by rw [mm 1 j (by omega)]; exact h.ct.2 j y hj⟩
      · show (ownS none (P.evs ++ _)).length ≤ z; rw [eO]; have := h.cl; omega
      · intro e he
        have he' : e < (P.els ++ [E]).length := he
        rw [len1] at he'
        show M2 31 e = nI (owN (ownS none (P.evs ++ _)) e)
        rw [eO]
        by_cases qe : e = P.els.length
        · subst qe
          rw [m2 31 _ (by omega) (by omega) (by omega), p.ow]
          have : owN (ownS none P.evs) P.els.length = 0 := by
            unfold owN; rw [List.length_eq_zero_iff, List.filter_eq_nil_iff]
            intro y hy q
            have := h.ob y hy P.els.length (by simpa using q); omega
          rw [this]; rfl
        · rw [mm 31 e (by omega)]; exact h.ow e (by omega)
      · show curS none (P.evs ++ _) = _
        rw [curS_cat]; cases em <;> rfl
      · intro v hv
        show evOk (P.els ++ [E]).length v
        rw [len1]
        rcases List.mem_append.mp hv with hv | hv
        · have := h.ev v hv
          rcases v with e | ⟨e, o⟩ | x
          · have h9 : e < P.els.length := this; show e < P.els.length + 1; omega
          · have h9 : e < P.els.length := this; show e < P.els.length + 1; omega
          · exact True.intro
        · cases em with
          | false => simp at hv; subst hv; show P.els.length < P.els.length + 1; omega
          | true =>
            simp at hv
            rcases hv with hv | hv
            · subst hv; show P.els.length < P.els.length + 1; omega
            · subst hv; show P.els.length < P.els.length + 1; omega
      · rw [mm 36 0 (by omega)]; exact h.wy
      · rw [mm 37 0 (by omega)]; exact h.wp
      · intro y hy o ho
        have hy' : y ∈ ownS none (P.evs ++ (if em then [Ev.b P.els.length, Ev.z P.els.length P.opn] else [Ev.b P.els.length])) := hy
        rw [eO] at hy'
        show o < (P.els ++ [E]).length
        rw [len1]; have := h.ob y hy' o ho; omega
