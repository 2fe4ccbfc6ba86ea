/-! The reference's tag, its form -/
def aAt (E : Ele) (i : Nat) : Att := E.atts.getD i (((0, 0, 0), []) : Att)
theorem aAt_in {E : Ele} {i : Nat} (h : i < E.atts.length) : E.atts[i]? = some (aAt E i) := by
  unfold aAt; rw [List.getD_eq_getElem?_getD, List.getElem?_eq_getElem h]; rfl
theorem aAt_mem {E : Ele} {i : Nat} (h : i < E.atts.length) : aAt E i ∈ E.atts := List.mem_of_getElem? (aAt_in h)
theorem pw_at {E : Ele} {R : Att → Att → Prop} (h : E.atts.Pairwise R) {i j : Nat} (hi : i < j) (hj : j < E.atts.length) : R (aAt E i) (aAt E j) := by
  have h1 := aAt_in (E := E) (i := i) (by omega)
  have h2 := aAt_in (E := E) hj
  have := (List.pairwise_iff_getElem.mp h) i j (by omega) hj hi
  rw [List.getElem?_eq_getElem (by omega)] at h1 h2
  injection h1 with h1; injection h2 with h2
  rw [← h1, ← h2]; exact this
theorem tri_at {T : List Int32} {els : List Ele} {k : Nat} {E : Ele} (h : Tri T els k E.atts) {i j : Nat} (hi : i < E.atts.length) (hj : j < E.atts.length) (hne : i ≠ j) : cBf T els k (aAt E i) (aAt E j) = true ∨ cBf T els k (aAt E j) (aAt E i) = true := by
  rcases Nat.lt_or_ge i j with q | q
  · exact pw_at h q hj
  · exact (pw_at h (show j < i by omega) hi).symm
/-- the bits of what is written -/
theorem bit_at : ∀ m : Nat, m < 64 → ∀ i : Nat, i < 6 → (((nI m >>> (nI i &&& 31)) &&& 1 = 0) ↔ m.testBit i = false) := by decide +kernel
theorem bit_set : ∀ m : Nat, m < 64 → ∀ i : Nat, i < 6 → nI m ||| (1 <<< (nI i &&& 31)) = nI (m ||| 1 <<< i) ∧ (m ||| 1 <<< i) < 64 := by decide +kernel
theorem bit_or (m i j : Nat) : (m ||| 1 <<< i).testBit j = (m.testBit j || decide (i = j)) := by
  rw [Nat.testBit_or, Nat.shiftLeft_eq, Nat.one_mul, Nat.testBit_two_pow]
def cntB (m : Nat) : Nat → Nat
  | 0 => 0
  | n + 1 => cntB m n + (if m.testBit n then 1 else 0)
theorem cntB_le (m : Nat) : ∀ n, cntB m n ≤ n
  | 0 => Nat.le_refl _
  | n + 1 => by have := cntB_le m n; rw [cntB]; split <;> omega
theorem cntB_all {m : Nat} : ∀ {n : Nat}, cntB m n = n → ∀ j, j < n → m.testBit j = true
  | 0, _, j, h => by omega
  | n + 1, h, j, hj => by
    have := cntB_le m n
    rw [cntB] at h
    split at h
    · rename_i q
      by_cases e : j = n
      · rw [e]; exact q
      · exact cntB_all (n := n) (by omega) j (by omega)
    · omega
theorem cntB_full {m : Nat} : ∀ {n : Nat}, (∀ j, j < n → m.testBit j = true) → cntB m n = n
  | 0, _ => rfl
  | n + 1, h => by rw [cntB, cntB_full (fun j hj => h j (by omega)), if_pos (h n (by omega))]
theorem cntB_set {m b : Nat} (hb : m.testBit b = false) : ∀ {n : Nat}, cntB (m ||| 1 <<< b) n = cntB m n + (if b < n then 1 else 0)
  | 0 => rfl
  | n + 1 => by
    rw [cntB, cntB, cntB_set hb, bit_or]
    by_cases e : b = n
    · subst e; rw [hb]; simp
    · have : (decide (b = n)) = false := by simpa using e
      rw [this, Bool.or_false]
      by_cases q : b < n
      · rw [if_pos q, if_pos (show b < n + 1 by omega)]; omega
      · rw [if_neg q, if_neg (show ¬ b < n + 1 by omega)]; omega
def BP (T : List Int32) (els : List Ele) (k : Nat) (E : Ele) (m i : Nat) : Option Nat → Prop
  | none => ∀ j, j < i → m.testBit j = true
  | some b => b < i ∧ m.testBit b = false ∧ ∀ j, j < i → m.testBit j = false → j ≠ b → cBf T els k (aAt E b) (aAt E j) = true
def bI (e : Nat) : Option Nat → Int32
  | none => -1
  | some b => nI (6 * e + b)
section RTG
variable {T U : List Int32} {els : List Ele} {r : gRef} {e : Nat} {E : Ele}
theorem g_best {M : gMem} (h : RE M T U els) (hE : els[e]? = some E) (hg : GDs T els) (hn : ∀ x ∈ E.atts, GN x.nm) (hnm : E.atts.Pairwise (fun x y => nmT T x.nm ≠ nmT T y.nm)) (tri : Tri T els e E.atts) {fu : Nat} (hfu : 240 < fu) {m : Nat} (hm : m < 64) (x3 : Int32) :
    ∀ d i o, E.atts.length - i < d → i ≤ E.atts.length → BP T els e E m i o → ∃ o', F_Mo_writeTag_I45 fu (nI e) d (nI m) x3 (bI e o) (nI (6 * e + i)) M r = .ok (.inr (bI e o')) M r ∧ BP T els e E m E.atts.length o' := by
  have he := (List.getElem?_eq_some_iff.mp hE).1
  have h24 := h.2.1
  obtain ⟨⟨-, -, -, -, hc, c6, ats, -⟩, -⟩ := h.2.2 e E hE
  intro d
  induction d with
  | zero => intro i o h1; omega
  | succ d ih =>
    intro i o h1 h2 hb
    rw [F_Mo_writeTag_I45, gd_yes (vp_in_nI (by omega) (by decide)), nI_clamp (n := e) (by omega), hc, show (6 : Int32) = nI 6 from rfl, nI_mul, nI_add]
    by_cases q : i < E.atts.length
    · rw [if_neg (nI_ge (by omega) (by omega)), pk_sub (by omega), Nat.add_sub_cancel_left, nI_1, show 6 * e + i + 1 = 6 * e + (i + 1) by omega]
      by_cases qb : m.testBit i = false
      · rw [if_pos ((bit_at m hm i (by omega)).mpr qb)]
        cases o with
        | none =>
          rw [if_pos (show bI e none < 0 from (by decide : (-1 : Int32) < 0))]
          refine ih (i + 1) (some i) (by omega) (by omega) ⟨by omega, qb, fun j hj hbj hne => ?_⟩
          have := hb j (by omega)
          rw [this] at hbj; cases hbj
        | some b =>
          obtain ⟨b1, b2', b3⟩ := hb
          rw [if_neg (show ¬ bI e (some b) < 0 from nI_pos (by omega))]
          have hne : nmT T (aAt E i).nm ≠ nmT T (aAt E b).nm := fun e2 => pw_at hnm b1 q e2.symm
          obtain ⟨v, g1, g2⟩ := g_order (r := r) h hE hg hn hfu (aAt_in q) (aAt_in (i := b) (by omega)) hne
          have g1' : F_Mo_order fu (nI (6 * e + i)) (bI e (some b)) M r = .ok v M r := g1
          rw [g1', bnd_k]
          by_cases qv : 0 ≤ v
          · rw [if_pos qv]
            have nv : ¬ cBf T els e (aAt E i) (aAt E b) = true := fun c => absurd (g2.mpr c) (Int32.not_lt.mpr qv)
            refine ih (i + 1) (some b) (by omega) (by omega) ⟨by omega, b2', fun j hj hbj hne2 => ?_⟩
            by_cases e2 : j = i
            · rw [e2]; exact (tri_at tri (i := b) (j := i) (by omega) q (by omega)).resolve_right nv
            · exact b3 j (by omega) hbj hne2
          · rw [if_neg qv]
            have nv : cBf T els e (aAt E i) (aAt E b) = true := g2.mp (Int32.not_le.mp qv)
            refine ih (i + 1) (some i) (by omega) (by omega) ⟨by omega, qb, fun j hj hbj hne2 => ?_⟩
            by_cases e2 : j = b
            · rw [e2]; exact nv
            · exact cBf_tr nv (b3 j (by omega) hbj e2)
      · rw [if_neg (fun c => qb ((bit_at m hm i (by omega)).mp c))]
        have qb' : m.testBit i = true := by simpa using qb
        refine ih (i + 1) o (by omega) (by omega) ?_
        cases o with
        | none =>
          intro j hj
          by_cases e2 : j = i
          · rw [e2]; exact qb'
          · exact hb j (by omega)
        | some b =>
          obtain ⟨b1, b2', b3⟩ := hb
          refine ⟨by omega, b2', fun j hj hbj hne2 => ?_⟩
          by_cases e2 : j = i
          · rw [e2, qb'] at hbj; cases hbj
          · exact b3 j (by omega) hbj hne2
    · rw [if_pos (nI_le (by omega) (by omega))]
      have : i = E.atts.length := by omega
      subst this
      exact ⟨o, rfl, hb⟩
theorem g_tagL (hE : els[e]? = some E) (hg : GDs T els) (hn : ∀ x ∈ E.atts, GN x.nm) (hnm : E.atts.Pairwise (fun x y => nmT T x.nm ≠ nmT T y.nm)) (tri : Tri T els e E.atts) {fu : Nat} (hfu : 240 < fu) :
    ∀ d m c M L O R, E.atts.length - c < d → m < 64 → cntB m E.atts.length = c → RE M T U els → FB M L → L.length + (R.flatMap (attF T)).length + 1 ≤ 1440 → srt T els e E = O ++ R → (∀ y, y ∈ R ↔ ∃ j, j < E.atts.length ∧ m.testBit j = false ∧ y = aAt E j ∧ news T els E.par y = true) →
      Pw (F_Mo_writeTag_L26 fu (nI e) d (nI m) (nI c) M r) M r L (R.flatMap (attF T) ++ [62]) := by
  intro d
  induction d with
  | zero => intro m c M L O R h1; omega
  | succ d ih =>
    intro m c M L O R h1 hm hcn h hL hl hs hR
    have he := (List.getElem?_eq_some_iff.mp hE).1
    have h24 := h.2.1
    obtain ⟨⟨-, -, -, -, hc, c6, ats, -⟩, -⟩ := h.2.2 e E hE
    have cle := cntB_le m E.atts.length
    have so := srt_ord tri
    rw [F_Mo_writeTag_L26, gd_yes (vp_in_nI (by omega) (by decide)), nI_clamp (n := e) (by omega), hc]
    by_cases q : E.atts.length ≤ c
    · rw [if_pos (nI_le q (by omega)), F_Mo_writeTag_B151]
      have hR0 : R = [] := by
        cases R with
        | nil => rfl
        | cons y R =>
          obtain ⟨j, j1, j2, -⟩ := (hR y).mp List.mem_cons_self
          rw [cntB_all (by omega) j j1] at j2; cases j2
      rw [hR0]
      exact (g_write hL fu 62 (by omega)).ret
    · rw [if_neg (nI_ge (by omega) (by omega))]
      have hb0 : BP T els e E m 0 none := fun j hj => absurd hj (Nat.not_lt_zero j)
      obtain ⟨o, g1, g2⟩ := g_best (r := r) h hE hg hn hnm tri hfu hm (nI c) fu 0 none (by omega) (by omega) hb0
      rw [Nat.add_zero] at g1
      have g1' : F_Mo_writeTag_I45 fu (nI e) fu (nI m) (nI c) (-1) (6 * nI e) M r = .ok (.inr (bI e o)) M r := by
        rw [show (6 : Int32) * nI e = nI (6 * e) from nI_mul 6 e]; exact g1
      cases o with
      | none => have := cntB_full g2; omega
      | some b =>
        obtain ⟨b1, b2', b3⟩ := g2
        rw [g1', bnd_k]
        show Pw (gO.bnd (F_Mo_isWritten fu (nI (6 * e + b)) M r) _) M r L _
        rw [g_isWritten h hE hg hfu (aAt_in b1), bnd_k, show (6 : Int32) * nI e = nI (6 * e) from nI_mul 6 e]
        show Pw (if b2 (news T els E.par (aAt E b)) = 0 then F_Mo_writeTag_L26 fu (nI e) d (nI m ||| (1 <<< ((nI (6 * e + b) - nI (6 * e)) &&& 31))) (nI c + 1) M r else gO.bnd (F_Mo_writeAttribute fu (nI (6 * e + b)) M r) (fun v30 M30 r30 => F_Mo_writeTag_L26 fu (nI e) d (nI m ||| (1 <<< ((nI (6 * e + b) - nI (6 * e)) &&& 31))) (nI c + 1) M30 r30)) M r L _
        obtain ⟨s1, s2⟩ := bit_set m hm b (by omega)
        rw [pk_sub (by omega), Nat.add_sub_cancel_left, s1, nI_1]
        have cn : cntB (m ||| 1 <<< b) E.atts.length = c + 1 := by rw [cntB_set b2', if_pos b1, hcn]
        have tb : ∀ j, (m ||| 1 <<< b).testBit j = false ↔ m.testBit j = false ∧ j ≠ b := by
          intro j; rw [bit_or]
          by_cases e2 : b = j
          · subst e2; simp
          · simp [e2, Ne.symm e2]
        by_cases qn : news T els E.par (aAt E b) = true
        · rw [if_neg (show ¬ b2 (news T els E.par (aAt E b)) = 0 by rw [qn]; decide)]
          have mb : aAt E b ∈ R := (hR _).mpr ⟨b, b1, b2', rfl, qn⟩
          cases R with
          | nil => cases mb
          | cons y R =>
            have pwR : (y :: R).Pairwise (fun a b => cBf T els e a b = true) := by rw [hs] at so; exact (List.pairwise_append.mp so).2.1
            rw [List.pairwise_cons] at pwR
            have hy : y = aAt E b := by
              obtain ⟨j, j1, j2, j3, -⟩ := (hR y).mp List.mem_cons_self
              by_cases e2 : j = b
              · rw [j3, e2]
              · have c1 := b3 j j1 j2 e2
                rw [← j3] at c1
                rcases List.mem_cons.mp mb with c2 | c2
                · exact c2.symm
                · have c3 := pwR.1 _ c2
                  rw [cBf_asy c1] at c3; cases c3
            rw [List.flatMap_cons, List.length_append] at hl
            rw [List.flatMap_cons, List.append_assoc, hy]
            rw [hy] at hl
            refine (g_writeAtt fu hfu (show 6 * e + b < 144 by omega) h.1 (ats b _ (aAt_in b1)) hL (by omega)).bnd (fun M1 B1 k1 => ?_)
            refine ih (m ||| 1 <<< b) (c + 1) M1 _ (O ++ [aAt E b]) R (by omega) s2 cn (h.kf k1) B1 (by rw [List.length_append]; omega) (by rw [hs, hy, List.append_assoc]; rfl) (fun z => ?_)
            constructor
            · intro hz
              obtain ⟨j, j1, j2, j3, j4⟩ := (hR z).mp (List.mem_cons_of_mem _ hz)
              refine ⟨j, j1, (tb j).mpr ⟨j2, fun e2 => ?_⟩, j3, j4⟩
              have c1 := pwR.1 z hz
              rw [hy, j3, e2, cBf_irr] at c1; cases c1
            · rintro ⟨j, j1, j2, j3, j4⟩
              obtain ⟨j5, j6⟩ := (tb j).mp j2
              rcases List.mem_cons.mp ((hR z).mpr ⟨j, j1, j5, j3, j4⟩) with c1 | c1
              · have c2 := b3 j j1 j5 j6
                rw [← j3, c1, hy, cBf_irr] at c2; cases c2
              · exact c1
        · rw [if_pos (show b2 (news T els E.par (aAt E b)) = 0 by rw [b2_0]; simpa using qn)]
          refine ih (m ||| 1 <<< b) (c + 1) M L O R (by omega) s2 cn h hL hl hs (fun z => ?_)
          constructor
          · intro hz
            obtain ⟨j, j1, j2, j3, j4⟩ := (hR z).mp hz
            refine ⟨j, j1, (tb j).mpr ⟨j2, fun e2 => ?_⟩, j3, j4⟩
            rw [j3, e2] at j4; exact qn j4
          · rintro ⟨j, j1, j2, j3, j4⟩
            exact (hR z).mpr ⟨j, j1, ((tb j).mp j2).1, j3, j4⟩
theorem g_writeTag {M : gMem} {L : List Int32} (h : RE M T U els) (hE : els[e]? = some E) (hg : GDs T els) (hn : ∀ x ∈ E.atts, GN x.nm) (hc : ∀ x ∈ E.atts, GC T x.nm) (hk : chk T els e E = none) {fu : Nat} (hfu : 240 < fu) (hL : FB M L) (hl : L.length + (begF T els e E).length ≤ 1440) :
    Pw (F_Mo_writeTag fu (nI e) M r) M r L (begF T els e E) := by
  have he := (List.getElem?_eq_some_iff.mp hE).1
  have h24 := h.2.1
  obtain ⟨⟨⟨f, a1, a2, a3⟩, a4, -, -, -, c6, ats, -, d1, d2, d3, d4⟩, -⟩ := h.2.2 e E hE
  have hnl : (nmT T E.nm).length = E.nm.z - E.nm.s := stre_len d2
  have tri := tri_of hk hg (fun x hx => by
    obtain ⟨i, hi⟩ := List.mem_iff_getElem?.mp hx
    have := ats i x hi
    exact ⟨this.2.2.2.2.2.2.2.2.1, this.2.2.2.2.2.2.2.2.2, this.2.2.2.2.2.2.2.1⟩) hc
  have hnm := (ckN_pw (chk_all hk).1).2
  have eF : begF T els e E = 60 :: (nmT T E.nm ++ ((srt T els e E).flatMap (attF T) ++ [62])) := by unfold begF; simp
  have lF : (begF T els e E).length = 1 + (nmT T E.nm).length + ((srt T els e E).flatMap (attF T)).length + 1 := by unfold begF; simp only [List.length_append, List.length_cons, List.length_nil]
  unfold F_Mo_writeTag
  rw [eF]
  refine g_writes2 hL fu 60 (by omega) (fun M1 B1 k1 => ?_)
  try dsimp only
  rw [gd_yes (vp_in_nI (by omega) (by decide)), gd_yes (vp_in_nI (by omega) (by decide)), nI_clamp (n := e) (by omega), k1 111 e (by decide) (by decide), k1 112 e (by decide) (by decide), a1, a4]
  have gs := g_stretch (r := r) fu a2 hfu (h.1.kf k1) B1 (by rw [len_snoc]; omega)
  rw [a3] at gs
  refine gs.bnd (fun M2 B2 k2 => ?_)
  exact g_tagL hE hg hn hnm tri hfu fu 0 0 M2 _ [] (srt T els e E) (by omega) (by decide) (by
      have : ∀ n, cntB 0 n = 0 := by
        intro n; induction n with
        | zero => rfl
        | succ n ih => rw [cntB, ih, Nat.zero_testBit]; rfl
      exact this _) ((h.kf k1).kf k2) B2 (by rw [List.length_append, len_snoc]; omega) rfl (fun y => by
      rw [mem_srt2]
      constructor
      · rintro ⟨m1, m2⟩
        obtain ⟨j, hj⟩ := List.mem_iff_getElem?.mp m1
        have hjl := (List.getElem?_eq_some_iff.mp hj).1
        have := aAt_in hjl
        rw [hj] at this; injection this with this
        exact ⟨j, hjl, Nat.zero_testBit j, this, m2⟩
      · rintro ⟨j, j1, -, j3, j4⟩
        rw [j3] at j4 ⊢
        exact ⟨aAt_mem j1, j4⟩)
end RTG
theorem evI_c {x : Int32} (h : isCh x = true) : x < 2000 ∧ x < 1000 := by
  have := isCh_r h
  constructor <;> (rw [Int32.lt_iff_toInt_lt]) 
  · have e1 : (2000 : Int32).toInt = 2000 := rfl
    omega
  · have e1 : (1000 : Int32).toInt = 1000 := rfl
    omega
theorem g_writeForm {T U : List Int32} {P : Ps} {r : gRef} {fu : Nat} (hfu : 240 < fu) {M : gMem} (h : RR M T U P) (hp : PI T P) (hlen : (fmL T P.els P.evs).length ≤ 1440) :
    ∃ M', F_Mo_writeForm fu M r = .ok () M' r ∧ FB M' (fmL T P.els P.evs) ∧ Kf M M' := by
  have hea := h.ea
  have haT := h.aT
  have hle := h.tx.le
  have key : ∀ d j M L, P.evs.length - j < d → j ≤ P.evs.length → RE M T U P.els → M 122 0 = nI P.evs.length → (∀ (j : Nat) (v : Ev), P.evs[j]? = some v → M 123 j = evI v) → FB M L → L.length + (fmL T P.els (P.evs.drop j)).length ≤ 1440 → Pw (F_Mo_writeForm_L7 fu d (nI j) M r) M r L (fmL T P.els (P.evs.drop j)) := by
    intro d
    induction d with
    | zero => intro j M L h1; omega
    | succ d ih =>
      intro j M L h1 h2 hR hn hev hL hl
      rw [F_Mo_writeForm_L7, hn]
      by_cases q : P.evs.length ≤ j
      · rw [if_pos (nI_le q (by omega)), List.drop_eq_nil_of_le q]; exact Pw.nil hL
      · have qj : j < P.evs.length := by omega
        have hj := List.getElem?_eq_getElem qj
        have hv := hp.2.2 P.evs[j] (List.getElem_mem qj)
        have hm := hev j _ hj
        rw [if_neg (nI_ge (by omega) (by omega)), gd_yes (vp_in_nI (by omega) (by decide)), nI_clamp (n := j) (by omega), hm, nI_1]
        rw [List.drop_eq_getElem_cons qj]
        rw [List.drop_eq_getElem_cons qj] at hl
        have fc : ∀ v W, fmL T P.els (v :: W) = evF T P.els v ++ fmL T P.els W := fun v W => by unfold fmL; rw [List.flatMap_cons]
        rw [fc] at hl ⊢
        rw [List.length_append] at hl
        have nx : ∀ M1 L1, FB M1 L1 → Kf M M1 → L1.length + (fmL T P.els (P.evs.drop (j + 1))).length ≤ 1440 → Pw (F_Mo_writeForm_L7 fu d (nI (j + 1)) M1 r) M1 r L1 (fmL T P.els (P.evs.drop (j + 1))) := fun M1 L1 B1 k1 hl1 => ih (j + 1) M1 L1 (by omega) (by omega) (hR.kf k1) ((k1 122 0 (by decide) (by decide)).trans hn) (fun j v hj => (k1 123 j (by decide) (by decide)).trans (hev j v hj)) B1 hl1
        generalize P.evs[j] = v at *
        rcases v with e | ⟨e, p⟩ | x
        · have he : e < P.els.length := hv
          have hE := List.getElem?_eq_getElem he
          have h24 := hR.2.1
          obtain ⟨n1, n2, -, -, n5, n6, -⟩ := hp.2.1 e _ hE
          have eF : evF T P.els (Sum.inl e) = begF T P.els e P.els[e] := by show (match P.els[e]? with | none => [] | some E => begF T P.els e E) = _; rw [hE]
          have eI : evI (Sum.inl e) = nI (1000 + e) := rfl
          rw [eI, if_pos (show nI (1000 + e) < 2000 from by have := nI_lt (a := 1000 + e) (b := 2000) (by omega) (by decide); exact this), if_neg (show ¬ nI (1000 + e) < 1000 from by have := nI_nlt (a := 1000 + e) (b := 1000) (by omega) (by omega); exact this), show nI (1000 + e) - 1000 = nI e from by have := pk_sub (a := 1000 + e) (b := 1000) (by omega); rw [Nat.add_sub_cancel_left] at this; exact this]
          rw [eF] at hl ⊢
          exact (g_writeTag hR hE hp.1 n2 n6 n5 hfu hL (by omega)).bnd (fun M1 B1 k1 => nx M1 _ B1 k1 (by rw [List.length_append]; omega))
        · obtain ⟨E, hE, -⟩ : ∃ E, P.els[e]? = some E ∧ E.par = p := hv
          have he := (List.getElem?_eq_some_iff.mp hE).1
          have h24 := hR.2.1
          obtain ⟨⟨⟨f, a1, a2, a3⟩, a4, -, -, -, -, -, -, d1, d2, -⟩, -⟩ := hR.2.2 e E hE
          have hnl : (nmT T E.nm).length = E.nm.z - E.nm.s := stre_len d2
          have eF : evF T P.els (Sum.inr (Sum.inl (e, p))) = 60 :: (47 :: (nmT T E.nm ++ [62])) := by show (match P.els[e]? with | none => [] | some E => endF T E) = _; rw [hE]; unfold endF; simp
          have eI : evI (Sum.inr (Sum.inl (e, p))) = nI (2000 + e) := rfl
          rw [eI, if_neg (show ¬ nI (2000 + e) < 2000 from by have := nI_nlt (a := 2000 + e) (b := 2000) (by omega) (by omega); exact this), show nI (2000 + e) - 2000 = nI e from by have := pk_sub (a := 2000 + e) (b := 2000) (by omega); rw [Nat.add_sub_cancel_left] at this; exact this]
          rw [eF] at hl ⊢
          simp only [List.length_cons, List.length_append, List.length_nil] at hl
          rw [show ∀ W : List Int32, (60 :: (47 :: (nmT T E.nm ++ [62]))) ++ W = 60 :: (47 :: (nmT T E.nm ++ (62 :: W))) from fun W => by simp]
          refine g_writes2 hL fu 60 (by omega) (fun M1 B1 k1 => ?_)
          refine g_writes2 B1 fu 47 (by rw [len_snoc]; omega) (fun M2 B2 k2 => ?_)
          have k12 := k1.tr k2
          try dsimp only
          rw [gd_yes (vp_in_nI (by omega) (by decide)), gd_yes (vp_in_nI (by omega) (by decide)), nI_clamp (n := e) (by omega), k12 111 e (by decide) (by decide), k12 112 e (by decide) (by decide), a1, a4]
          have gs := g_stretch (r := r) fu a2 hfu (hR.1.kf k12) B2 (by rw [len_snoc, len_snoc]; omega)
          rw [a3] at gs
          refine gs.bnd (fun M3 B3 k3 => ?_)
          refine g_writes2 B3 fu 62 (by rw [List.length_append, len_snoc, len_snoc]; omega) (fun M4 B4 k4 => ?_)
          exact nx M4 _ B4 ((k12.tr k3).tr k4) (by rw [len_snoc, List.length_append, len_snoc, len_snoc]; omega)
        · have hx : isCh x = true := hv
          have eF : evF T P.els (Sum.inr (Sum.inr x)) = escC x := rfl
          have eI : evI (Sum.inr (Sum.inr x)) = x := rfl
          rw [eI, if_pos (evI_c hx).1, if_pos (evI_c hx).2]
          rw [eF] at hl ⊢
          exact (g_safeC hL fu x (by omega)).bnd (fun M1 B1 k1 => nx M1 _ B1 k1 (by rw [List.length_append]; omega))
  unfold F_Mo_writeForm
  have k0 : Kf M (mS M 126 0 0) := fun t i a _ => mS_tag _ _ _ _ a
  have b0 : FB (mS M 126 0 0) [] := ⟨mS_same _ _ _ _, fun j hj => absurd hj (Nat.not_lt_zero j)⟩
  have := key fu 0 (mS M 126 0 0) [] (by omega) (by omega) (h.re.kf k0) ((k0 122 0 (by decide) (by decide)).trans h.en) (fun j v hj => (k0 123 j (by decide) (by decide)).trans (h.ev j v hj)) b0 (by rw [List.drop_zero]; simpa using hlen)
  rw [List.drop_zero] at this
  obtain ⟨M', e1, b1, k1⟩ := this
  exact ⟨M', e1, b1, k0.tr k1⟩
