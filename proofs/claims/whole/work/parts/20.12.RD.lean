/-! The reference's writing -/
def FB (M : gMem) (L : List Int32) : Prop := M 126 0 = nI L.length ∧ ∀ j, j < L.length → M 127 j = ch L j
def Kf (M M' : gMem) : Prop := ∀ t i, t ≠ 126 → t ≠ 127 → M' t i = M t i
theorem Kf.rfl' (M : gMem) : Kf M M := fun _ _ _ _ => rfl
theorem Kf.tr {M M1 M2 : gMem} (h : Kf M M1) (h2 : Kf M1 M2) : Kf M M2 := fun t i a b => (h2 t i a b).trans (h t i a b)
def Pw (x : gO Unit) (M : gMem) (r : gRef) (L R : List Int32) : Prop := ∃ M', x = .ok () M' r ∧ FB M' (L ++ R) ∧ Kf M M'
theorem Pw.bnd {x : gO Unit} {M : gMem} {r : gRef} {L R R2 : List Int32} {f : Unit → gMem → gRef → gO Unit} (h : Pw x M r L R) (h2 : ∀ M', FB M' (L ++ R) → Kf M M' → Pw (f () M' r) M' r (L ++ R) R2) : Pw (gO.bnd x f) M r L (R ++ R2) := by
  obtain ⟨M1, e1, b1, k1⟩ := h
  obtain ⟨M2, e2, b2, k2⟩ := h2 M1 b1 k1
  exact ⟨M2, by rw [e1, bnd_k]; exact e2, by rw [← List.append_assoc]; exact b2, k1.tr k2⟩
theorem Pw.ret {x : gO Unit} {M : gMem} {r : gRef} {L R : List Int32} (h : Pw x M r L R) : Pw (gO.bnd x (fun _ M r => .ok () M r)) M r L R := by
  obtain ⟨M1, e1, b1, k1⟩ := h
  exact ⟨M1, by rw [e1, bnd_k], b1, k1⟩
theorem Pw.nil {M : gMem} {r : gRef} {L : List Int32} (h : FB M L) : Pw (.ok () M r) M r L [] := ⟨M, rfl, by rw [List.append_nil]; exact h, Kf.rfl' M⟩
theorem g_write {M : gMem} {r : gRef} {L : List Int32} (h : FB M L) (fu : Nat) (c : Int32) (hl : L.length < 2200) : Pw (F_Mo_write fu c M r) M r L [c] := by
  unfold F_Mo_write
  rw [h.1, gd_yes (vp_in_nI hl (by decide)), nI_clamp (by omega), mS_tag _ (t := 127) (t2 := 126) _ _ _ (by decide), h.1, nI_1]
  refine ⟨_, rfl, ⟨?_, ?_⟩, ?_⟩
  · rw [mS_same, List.length_append]; rfl
  · intro j hj
    rw [List.length_append] at hj
    have hj' : j < L.length + 1 := hj
    rw [mS_tag _ (t := 126) (t2 := 127) _ _ _ (by decide), ch_app]
    by_cases q : j = L.length
    · rw [q, mS_same, if_neg (Nat.lt_irrefl _), Nat.sub_self]; rfl
    · rw [mS_ix _ _ _ q, if_pos (by omega)]; exact h.2 j (by omega)
  · intro t i a b; rw [mS_tag _ _ _ _ a, mS_tag _ _ _ _ b]
theorem g_writes2 {M : gMem} {r : gRef} {L R : List Int32} (h : FB M L) (fu : Nat) (c : Int32) (hl : L.length < 2200) {f : Unit → gMem → gRef → gO Unit} (h2 : ∀ M', FB M' (L ++ [c]) → Kf M M' → Pw (f () M' r) M' r (L ++ [c]) R) : Pw (gO.bnd (F_Mo_write fu c M r) f) M r L (c :: R) := (g_write h fu c hl).bnd (R2 := R) h2
theorem len_snoc (L : List Int32) (c : Int32) : (L ++ [c]).length = L.length + 1 := by rw [List.length_append]; rfl
theorem g_wrefE {M : gMem} {r : gRef} {X : List Int32} (h : FB M X) (fu : Nat) (hl : X.length < 2200) : Pw (gO.bnd (F_Mo_write fu 59 M r) (fun _ M r => .ok () M r)) M r X [59] := (g_write h fu 59 hl).ret
theorem g_wrefD {M : gMem} {r : gRef} {X : List Int32} (h : FB M X) (fu : Nat) (d : Int32) (hl : X.length + 1 < 2200) : Pw (if d ≤ 0 then (gO.bnd (F_Mo_write fu 59 M r) (fun _ M r => .ok () M r)) else (gO.bnd (F_Mo_write fu d M r) (fun _ M r => gO.bnd (F_Mo_write fu 59 M r) (fun _ M r => .ok () M r)))) M r X ((if d ≤ 0 then [] else [d]) ++ [59]) := by
  by_cases qd : d ≤ 0
  · rw [if_pos qd, if_pos qd, List.nil_append]; exact g_wrefE h fu (by omega)
  · rw [if_neg qd, if_neg qd]
    exact g_writes2 h fu d (by omega) (fun M4 h4 _ => g_wrefE h4 fu (by rw [len_snoc]; omega))
theorem g_wrefC {M : gMem} {r : gRef} {X : List Int32} (h : FB M X) (fu : Nat) (c d : Int32) (hl : X.length + 2 < 2200) : Pw (if c ≤ 0 then (if d ≤ 0 then (gO.bnd (F_Mo_write fu 59 M r) (fun _ M r => .ok () M r)) else (gO.bnd (F_Mo_write fu d M r) (fun _ M r => gO.bnd (F_Mo_write fu 59 M r) (fun _ M r => .ok () M r)))) else (gO.bnd (F_Mo_write fu c M r) (fun _ M r => if d ≤ 0 then (gO.bnd (F_Mo_write fu 59 M r) (fun _ M r => .ok () M r)) else (gO.bnd (F_Mo_write fu d M r) (fun _ M r => gO.bnd (F_Mo_write fu 59 M r) (fun _ M r => .ok () M r)))))) M r X ((if c ≤ 0 then [] else [c]) ++ ((if d ≤ 0 then [] else [d]) ++ [59])) := by
  by_cases qc : c ≤ 0
  · rw [if_pos qc, if_pos qc, List.nil_append]; exact g_wrefD h fu d (by omega)
  · rw [if_neg qc, if_neg qc]
    exact g_writes2 h fu c (by omega) (fun M4 h4 _ => g_wrefD h4 fu d (by rw [len_snoc]; omega))
theorem g_wref {M : gMem} {r : gRef} {L : List Int32} (h : FB M L) (fu : Nat) (a b c d : Int32) (hl : L.length + 6 ≤ 2200) : Pw (F_Mo_writeReference fu a b c d M r) M r L (38 :: (a :: (b :: ((if c ≤ 0 then [] else [c]) ++ ((if d ≤ 0 then [] else [d]) ++ [59]))))) := by
  unfold F_Mo_writeReference
  refine g_writes2 h fu 38 (by omega) (fun M1 h1 _ => ?_)
  refine g_writes2 h1 fu a (by rw [len_snoc]; omega) (fun M2 h2 _ => ?_)
  refine g_writes2 h2 fu b (by rw [len_snoc, len_snoc]; omega) (fun M3 h3 _ => ?_)
  exact g_wrefC h3 fu c d (by rw [len_snoc, len_snoc, len_snoc]; omega)
theorem g_safeC {M : gMem} {r : gRef} {L : List Int32} (h : FB M L) (fu : Nat) (c : Int32) (hl : L.length + 6 ≤ 2200) : Pw (F_Mo_writeSafe fu c 0 M r) M r L (escC c) := by
  unfold F_Mo_writeSafe escC
  by_cases q1 : c = 38
  · rw [if_pos q1, if_pos q1]; exact (g_wref h fu 97 109 112 0 hl).ret
  rw [if_neg q1, if_neg q1]
  by_cases q2 : c = 60
  · rw [if_pos q2, if_pos q2]; exact (g_wref h fu 108 116 0 0 hl).ret
  rw [if_neg q2, if_neg q2]
  by_cases q3 : c = 62
  · rw [if_pos q3, if_pos q3, if_pos rfl]; exact (g_wref h fu 103 116 0 0 hl).ret
  rw [if_neg q3, if_neg q3]
  have fin := (g_write h fu c (by omega) (r := r)).ret
  rw [if_pos rfl, if_pos rfl, ite_self, ite_self]
  exact fin
theorem g_safeV {M : gMem} {r : gRef} {L : List Int32} (h : FB M L) (fu : Nat) (c : Int32) (hl : L.length + 6 ≤ 2200) : Pw (F_Mo_writeSafe fu c 1 M r) M r L (escV c) := by
  unfold F_Mo_writeSafe escV
  have n1 : ¬ (1 : Int32) = 0 := by decide
  have fin := (g_write h fu c (by omega) (r := r)).ret
  by_cases q1 : c = 38
  · rw [if_pos q1, if_pos q1]; exact (g_wref h fu 97 109 112 0 hl).ret
  rw [if_neg q1, if_neg q1]
  by_cases q2 : c = 60
  · rw [if_pos q2, if_pos q2]; exact (g_wref h fu 108 116 0 0 hl).ret
  rw [if_neg q2, if_neg q2, if_neg n1]
  by_cases q4 : c = 34
  · have q3 : ¬ c = 62 := by rw [q4]; decide
    rw [if_neg q3, if_pos q4, if_pos q4, if_neg n1]; exact (g_wref h fu 113 117 111 116 hl).ret
  rw [if_neg q4, if_neg q4, ite_self]
  by_cases q5 : c = 10
  · rw [if_pos q5, if_pos q5, if_neg n1]; exact (g_wref h fu 35 120 65 0 hl).ret
  · rw [if_neg q5, if_neg q5]; exact fin
theorem PL.kf {M M' : gMem} {U : List Int32} (h : PL M U) (k : Kf M M') : PL M' U := h.of (fun j _ => k 108 j (by decide) (by decide))
theorem RE.kf {M M' : gMem} {T U : List Int32} {els : List Ele} (h : RE M T U els) (k : Kf M M') : RE M' T U els := h.of (fun t i q => k t i (by omega) (by omega))
theorem ATr.kf {M M' : gMem} {T U : List Int32} {a : Nat} {x : Att} (h : ATr M T U a x) (k : Kf M M') : ATr M' T U a x := by
  have := h.of (M' := M') [] (fun t p q => k t a (by omega) (by omega)); rw [List.append_nil] at this; exact this
theorem g_stretch {U : List Int32} {r : gRef} (fu : Nat) {f n : Nat} (hf : f + n ≤ U.length) (hfu : 240 < fu) {M : gMem} {L : List Int32} (hP : PL M U) (h : FB M L) (hl : L.length + n ≤ 2200) :
    Pw (F_Mo_writeStretch fu (nI f) (nI n) M r) M r L (stre U f (f + n)) := by
  have hU := hP.1
  have key : ∀ d k M L, U.length - k < d → k ≤ f + n → PL M U → FB M L → L.length + (f + n - k) ≤ 2200 → Pw (F_Mo_writeStretch_L2 fu (nI f) (nI n) d (nI k) M r) M r L (stre U k (f + n)) := by
    intro d
    induction d with
    | zero => intro k M L h1; omega
    | succ d ih =>
      intro k M L h1 h2 hP h hl
      rw [F_Mo_writeStretch_L2, nI_add]
      by_cases q : f + n ≤ k
      · rw [if_pos (nI_le q (by omega)), stre_end q]; exact Pw.nil h
      · rw [if_neg (nI_ge (by omega) (by omega)), gd_yes (vp_in_nI (by omega) (by decide)), nI_clamp (by omega), hP.2 k (by omega), stre_cons hf (by omega)]
        refine g_writes2 h fu _ (by omega) (fun M1 b1 k1 => ?_)
        try dsimp only
        rw [nI_1]
        exact ih (k + 1) M1 _ (by omega) (by omega) (hP.kf k1) b1 (by simp only [List.length_append, List.length_cons, List.length_nil]; omega)
  unfold F_Mo_writeStretch
  exact key fu f M L (by omega) (by omega) hP h (by omega)
theorem g_writeAtt {T U : List Int32} {r : gRef} (fu : Nat) (hfu : 240 < fu) {a : Nat} {x : Att} (ha : a < 144) {M : gMem} {L : List Int32} (hP : PL M U) (hx : ATr M T U a x) (h : FB M L) (hl : L.length + (attF T x).length ≤ 1440) :
    Pw (F_Mo_writeAttribute fu (nI a) M r) M r L (attF T x) := by
  have hU := hP.1
  have hle : (attF T x).length = 1 + (nmT T x.nm).length + 2 + (x.val.flatMap escV).length + 1 := by unfold attF; simp only [List.length_append, List.length_cons, List.length_nil]
  have key : ∀ d k M L, x.val.length - k < d → k ≤ x.val.length → PL M U → ATr M T U a x → FB M L → L.length + ((x.val.drop k).flatMap escV).length + 1 ≤ 1440 → ∀ g, M 120 a = nI g → g + x.val.length ≤ U.length → stre U g (g + x.val.length) = x.val → Pw (F_Mo_writeAttribute_L41 fu (nI a) d (nI (g + k)) M r) M r L ((x.val.drop k).flatMap escV ++ [34]) := by
    intro d
    induction d with
    | zero => intro k M L h1; omega
    | succ d ih =>
      intro k M L h1 h2 hP hx h hl g g1 g2 g3
      have g4 : M 121 a = nI x.val.length := hx.2.2.2.2.2.1
      rw [F_Mo_writeAttribute_L41, gd_yes (vp_in_nI ha (by decide)), gd_yes (vp_in_nI ha (by decide)), nI_clamp (n := a) (by omega), g1, g4, nI_add]
      by_cases q : x.val.length ≤ k
      · rw [if_pos (nI_le (by omega) (by omega)), List.drop_eq_nil_of_le q]
        unfold F_Mo_writeAttribute_B75
        exact (g_write h fu 34 (by omega)).ret
      · rw [if_neg (nI_ge (by omega) (by omega)), gd_yes (vp_in_nI (by omega) (by decide)), nI_clamp (n := g + k) (by omega), hP.2 _ (by omega)]
        have hk : k < x.val.length := by omega
        have e1 : ch U (g + k) = ch x.val k := by
          have e2 : (stre U (g + k) (g + x.val.length)) = x.val.drop k := by rw [stre_drop, g3]
          rw [stre_cons g2 (by omega), drop_ch hk] at e2
          injection e2
        rw [e1, drop_ch hk, List.flatMap_cons, List.append_assoc]
        rw [drop_ch hk, List.flatMap_cons, List.length_append] at hl
        refine (g_safeV h fu _ (by omega)).bnd (fun M1 b1 k1 => ?_)
        try dsimp only
        rw [nI_1, show g + k + 1 = g + (k + 1) by omega]
        exact ih (k + 1) M1 _ (by omega) (by omega) (hP.kf k1) (hx.kf k1) b1 (by rw [List.length_append]; omega) g ((k1 120 a (by decide) (by decide)).trans g1) g2 g3
  have hx0 := hx
  obtain ⟨⟨f, a1, a2, a3⟩, b1, -, -, ⟨g, c1, c2, c3⟩, -, d1, d2, d3, d4⟩ := hx
  have hnl : (nmT T x.nm).length = x.nm.z - x.nm.s := stre_len d2
  unfold F_Mo_writeAttribute
  have eF : attF T x = 32 :: (nmT T x.nm ++ (61 :: 34 :: (x.val.flatMap escV ++ [34]))) := by unfold attF; simp
  rw [eF]
  refine g_writes2 h fu 32 (by omega) (fun M1 b1' k1 => ?_)
  try dsimp only
  rw [gd_yes (vp_in_nI ha (by decide)), gd_yes (vp_in_nI ha (by decide)), nI_clamp (n := a) (by omega), k1 116 a (by decide) (by decide), k1 117 a (by decide) (by decide), a1, b1]
  have gs := g_stretch (r := r) fu a2 hfu (hP.kf k1) b1' (by simp only [List.length_append, List.length_cons, List.length_nil]; omega)
  rw [a3] at gs
  refine gs.bnd (fun M2 b2' k2 => ?_)
  try dsimp only
  have l2 : ((L ++ [32]) ++ nmT T x.nm).length = L.length + 1 + (nmT T x.nm).length := by simp only [List.length_append, List.length_cons, List.length_nil]
  refine g_writes2 b2' fu 61 (by omega) (fun M3 b3' k3 => ?_)
  try dsimp only
  refine g_writes2 b3' fu 34 (by rw [List.length_append, l2]; simp only [List.length_cons, List.length_nil]; omega) (fun M4 b4' k4 => ?_)
  try dsimp only
  have k14 : Kf M M4 := ((k1.tr k2).tr k3).tr k4
  rw [gd_yes (vp_in_nI ha (by decide)), k14 120 a (by decide) (by decide), c1]
  have := key fu 0 M4 _ (by omega) (by omega) (hP.kf k14) (hx0.kf k14) b4' (by rw [List.drop_zero, List.length_append, List.length_append, l2]; simp only [List.length_cons, List.length_nil]; omega) g ((k14 120 a (by decide) (by decide)).trans c1) c2 c3
  rw [List.drop_zero, Nat.add_zero] at this
  exact this
