/-! The order of a tag's attributes -/
theorem lxl_irr : ∀ A : List Int32, lxl A A = false
  | [] => rfl
  | a :: A => by rw [lxl, if_pos rfl]; exact lxl_irr A
theorem lxl_tr : ∀ {A B C : List Int32}, lxl A B = true → lxl B C = true → lxl A C = true
  | [], [], _, h, _ => by cases h
  | [], _ :: _, [], _, h => by cases h
  | [], _ :: _, _ :: _, _, _ => rfl
  | _ :: _, [], _, h, _ => by cases h
  | _ :: _, _ :: _, [], _, h => by cases h
  | a :: A, b :: B, c :: C, h1, h2 => by
    rw [lxl] at h1 h2 ⊢
    by_cases q1 : a = b
    · subst q1
      rw [if_pos rfl] at h1
      by_cases q2 : a = c
      · rw [if_pos q2] at h2 ⊢; exact lxl_tr h1 h2
      · rw [if_neg q2] at h2 ⊢; exact h2
    · rw [if_neg q1] at h1
      by_cases q2 : b = c
      · subst q2; rw [if_neg q1]; exact h1
      · rw [if_neg q2] at h2
        have g1 : a < b := by simpa using h1
        have g2 : b < c := by simpa using h2
        have g3 : a < c := Int32.lt_trans g1 g2
        rw [if_neg (fun e => by subst e; exact Int32.lt_irrefl g3)]; simpa using g3
theorem lxl_tri : ∀ {A B : List Int32}, A ≠ B → lxl A B = true ∨ lxl B A = true
  | [], [], h => absurd rfl h
  | [], _ :: _, _ => Or.inl rfl
  | _ :: _, [], _ => Or.inr rfl
  | a :: A, b :: B, h => by
    rw [lxl, lxl]
    by_cases q : a = b
    · subst q; rw [if_pos rfl, if_pos rfl]; exact lxl_tri (fun e => h (by rw [e]))
    · rw [if_neg q, if_neg (Ne.symm q)]
      by_cases q2 : a < b
      · exact Or.inl (by simpa using q2)
      · have q3 : b ≤ a := Int32.not_lt.mp q2
        exact Or.inr (by simpa using Int32.lt_of_le_of_ne q3 (Ne.symm q))
theorem cmpI_neg {A B : List Int32} : cmpI A B < 0 ↔ lxl A B = true := by
  unfold cmpI
  by_cases q : A = B
  · subst q; rw [if_pos rfl, lxl_irr]; exact ⟨fun h => absurd h (by decide), fun h => by cases h⟩
  · rw [if_neg q]
    by_cases q2 : lxl A B = true
    · rw [if_pos q2]; exact ⟨fun _ => q2, fun _ => by decide⟩
    · rw [if_neg q2]; exact ⟨fun h => absurd h (by decide), fun h => absurd h q2⟩
section CBO
variable {T : List Int32} {els : List Ele} {k : Nat}
theorem cBf_irr (x : Att) : cBf T els k x x = false := by
  unfold cBf
  by_cases q : isD T x.nm = true
  · rw [if_pos q, if_pos q]; exact lxl_irr _
  · rw [if_neg q, if_neg q, if_pos rfl]; exact lxl_irr _
theorem cBf_tr {x y z : Att} (h1 : cBf T els k x y = true) (h2 : cBf T els k y z = true) : cBf T els k x z = true := by
  unfold cBf at *
  by_cases qx : isD T x.nm = true
  · rw [if_pos qx] at h1 ⊢
    by_cases qz : isD T z.nm = true
    · rw [if_pos qz]
      by_cases qy : isD T y.nm = true
      · rw [if_pos qy] at h1 h2; rw [if_pos qz] at h2; exact lxl_tr h1 h2
      · rw [if_neg qy, if_pos qz] at h2; cases h2
    · rw [if_neg qz]
  · rw [if_neg qx] at h1 ⊢
    by_cases qy : isD T y.nm = true
    · rw [if_pos qy] at h1; cases h1
    · rw [if_neg qy] at h1 h2
      by_cases qz : isD T z.nm = true
      · rw [if_pos qz] at h2; cases h2
      · rw [if_neg qz] at h2 ⊢
        generalize vOf els (spA T els k x.nm) = a at *
        generalize vOf els (spA T els k y.nm) = b at *
        generalize vOf els (spA T els k z.nm) = c at *
        by_cases e1 : a = b
        · subst e1
          rw [if_pos rfl] at h1
          by_cases e2 : a = c
          · subst e2; rw [if_pos rfl] at h2 ⊢; exact lxl_tr h1 h2
          · rw [if_neg e2] at h2 ⊢; exact h2
        · rw [if_neg e1] at h1
          by_cases e2 : b = c
          · subst e2; rw [if_neg e1]; exact h1
          · rw [if_neg e2] at h2
            have h3 := lxl_tr h1 h2
            rw [if_neg (fun e => by subst e; rw [lxl_irr] at h3; cases h3)]; exact h3
theorem cBf_asy {x y : Att} (h1 : cBf T els k x y = true) : cBf T els k y x = false := by
  cases h2 : cBf T els k y x with
  | false => rfl
  | true => have := cBf_tr h1 h2; rw [cBf_irr] at this; cases this
end CBO
/-! insertion gives what is in order -/
theorem in_ins {lt : Att → Att → Bool} {x y : Att} : ∀ {L : List Att}, y = x ∨ y ∈ L → y ∈ ins lt x L
  | [], h => by rcases h with h | h; rw [h]; exact List.mem_cons_self; cases h
  | z :: L, h => by
    rw [ins]
    by_cases q : lt x z = true
    · rw [if_pos q]
      rcases h with h | h
      · exact List.mem_cons_of_mem _ (in_ins (Or.inl h))
      · rcases List.mem_cons.mp h with h | h
        · rw [h]; exact List.mem_cons_self
        · exact List.mem_cons_of_mem _ (in_ins (Or.inr h))
    · rw [if_neg q]
      rcases h with h | h
      · rw [h]; exact List.mem_cons_self
      · exact List.mem_cons_of_mem _ h
theorem ins_ord {lt : Att → Att → Bool} (tr : ∀ a b c, lt a b = true → lt b c = true → lt a c = true) {x : Att} : ∀ {L : List Att}, L.Pairwise (fun a b => lt b a = true) → (∀ y ∈ L, lt x y = true ∨ lt y x = true) → (ins lt x L).Pairwise (fun a b => lt b a = true)
  | [], _, _ => by rw [ins]; exact List.pairwise_singleton _ _
  | z :: L, h, ht => by
    rw [ins]
    rw [List.pairwise_cons] at h
    by_cases q : lt x z = true
    · rw [if_pos q, List.pairwise_cons]
      refine ⟨fun y hy => ?_, ins_ord tr h.2 (fun y hy => ht y (List.mem_cons_of_mem _ hy))⟩
      rcases mem_ins hy with hy | hy
      · rw [hy]; exact q
      · exact h.1 y hy
    · rw [if_neg q, List.pairwise_cons, List.pairwise_cons]
      have hz : lt z x = true := by
        rcases ht z List.mem_cons_self with h | h
        · exact absurd h q
        · exact h
      refine ⟨fun y hy => ?_, h.1, h.2⟩
      rcases List.mem_cons.mp hy with hy | hy
      · rw [hy]; exact hz
      · exact tr _ _ _ (h.1 y hy) hz
theorem fold_ord {lt : Att → Att → Bool} (tr : ∀ a b c, lt a b = true → lt b c = true → lt a c = true) : ∀ {L A : List Att}, A.Pairwise (fun a b => lt b a = true) → L.Pairwise (fun x y => lt x y = true ∨ lt y x = true) → (∀ x ∈ L, ∀ y ∈ A, lt x y = true ∨ lt y x = true) → (L.foldl (fun L x => ins lt x L) A).Pairwise (fun a b => lt b a = true)
  | [], A, h, _, _ => h
  | x :: L, A, h, hp, ht => by
    rw [List.foldl_cons]
    rw [List.pairwise_cons] at hp
    refine fold_ord tr (ins_ord tr h (ht x List.mem_cons_self)) hp.2 (fun y hy z hz => ?_)
    rcases mem_ins hz with hz | hz
    · rw [hz]; exact (hp.1 y hy).symm
    · exact ht y (List.mem_cons_of_mem _ hy) z hz
theorem in_fold {lt : Att → Att → Bool} {y : Att} : ∀ {L A : List Att}, y ∈ L ∨ y ∈ A → y ∈ L.foldl (fun L x => ins lt x L) A
  | [], A, h => by rcases h with h | h; cases h; exact h
  | x :: L, A, h => by
    rw [List.foldl_cons]
    refine in_fold ?_
    rcases h with h | h
    · rcases List.mem_cons.mp h with h | h
      · exact Or.inr (in_ins (Or.inl h))
      · exact Or.inl h
    · exact Or.inr (in_ins (Or.inr h))
theorem mem_srt2 {T : List Int32} {els : List Ele} {k : Nat} {E : Ele} {y : Att} : y ∈ srt T els k E ↔ y ∈ E.atts ∧ news T els E.par y = true := by
  unfold srt
  rw [List.mem_reverse]
  constructor
  · intro h
    rcases mem_fold h with h | h
    · exact List.mem_filter.mp h
    · cases h
  · intro h; exact in_fold (Or.inl (List.mem_filter.mpr h))
def Tri (T : List Int32) (els : List Ele) (k : Nat) (L : List Att) : Prop := L.Pairwise (fun x y => cBf T els k x y = true ∨ cBf T els k y x = true)
theorem srt_ord {T : List Int32} {els : List Ele} {k : Nat} {E : Ele} (h : Tri T els k E.atts) : (srt T els k E).Pairwise (fun a b => cBf T els k a b = true) := by
  unfold srt
  rw [List.pairwise_reverse]
  exact fold_ord (lt := cBf T els k) (fun _ _ _ => cBf_tr) List.Pairwise.nil (List.Pairwise.sublist List.filter_sublist h) (fun _ _ _ h => by cases h)
/-! a checked element's attributes -/
theorem ckN_pw {T : List Int32} : ∀ {L A : List Att}, ckN T A L = none → (∀ x ∈ L, ∀ y ∈ A, nmT T y.nm ≠ nmT T x.nm) ∧ L.Pairwise (fun x y => nmT T x.nm ≠ nmT T y.nm)
  | [], A, _ => ⟨fun _ h => (by cases h), List.Pairwise.nil⟩
  | x :: L, A, h => by
    rw [ckN] at h
    split at h
    · cases h
    · rename_i q
      obtain ⟨h1, h2⟩ := ckN_pw h
      have q2 : ∀ y ∈ A, nmT T y.nm ≠ nmT T x.nm := by
        intro y hy e
        exact q (List.any_eq_true.mpr ⟨y, hy, beq_iff_eq.mpr e⟩)
      refine ⟨fun z hz y hy => ?_, List.pairwise_cons.mpr ⟨fun z hz => h1 z hz x (List.mem_append.mpr (Or.inr List.mem_cons_self)), h2⟩⟩
      rcases List.mem_cons.mp hz with hz | hz
      · rw [hz]; exact q2 y hy
      · exact h1 z hz y (List.mem_append.mpr (Or.inl hy))
theorem ckT_pw {T : List Int32} {els : List Ele} {k : Nat} : ∀ {L A : List Att}, ckT T els k A L = none → (∀ x ∈ L, ∀ y ∈ A, mts T els k y.nm x.nm = false) ∧ L.Pairwise (fun x y => mts T els k x.nm y.nm = false)
  | [], A, _ => ⟨fun _ h => (by cases h), List.Pairwise.nil⟩
  | x :: L, A, h => by
    rw [ckT] at h
    split at h
    · cases h
    · rename_i q
      obtain ⟨h1, h2⟩ := ckT_pw h
      have q2 : ∀ y ∈ A, mts T els k y.nm x.nm = false := by
        intro y hy
        cases hm : mts T els k y.nm x.nm with
        | false => rfl
        | true => exact absurd (List.any_eq_true.mpr ⟨y, hy, hm⟩) q
      refine ⟨fun z hz y hy => ?_, List.pairwise_cons.mpr ⟨fun z hz => h1 z hz x (List.mem_append.mpr (Or.inr List.mem_cons_self)), h2⟩⟩
      rcases List.mem_cons.mp hz with hz | hz
      · rw [hz]; exact q2 y hy
      · exact h1 z hz y (List.mem_append.mpr (Or.inl hy))
theorem ckU_all {T : List Int32} {els : List Ele} {k : Nat} : ∀ {L : List Att}, ckU T els k L = none → ∀ x ∈ L, isD T x.nm = false → x.nm.pre = true → vOf els (spA T els k x.nm) ≠ []
  | [], _, x, hx, _, _ => by cases hx
  | y :: L, h, x, hx, h2, h3 => by
    rw [ckU] at h
    split at h
    · cases h
    · rename_i q
      rcases List.mem_cons.mp hx with hx | hx
      · subst hx; rw [h2, h3] at q; intro e2; rw [e2] at q; exact q rfl
      · exact ckU_all h x hx h2 h3
theorem chk_all {T : List Int32} {els : List Ele} {k : Nat} {E : Ele} (h : chk T els k E = none) : ckN T [] E.atts = none ∧ ckD T E.atts = none ∧ (E.nm.pre = true → vOf els (spE T els k E.nm) ≠ []) ∧ ckU T els k E.atts = none ∧ ckT T els k [] E.atts = none := by
  unfold chk at h
  cases h1 : ckN T [] E.atts with
  | some w => rw [h1] at h; cases h
  | none =>
    rw [h1] at h
    cases h2 : ckD T E.atts with
    | some w => rw [h2] at h; cases h
    | none =>
      rw [h2] at h
      dsimp only at h
      split at h
      · cases h
      · rename_i q
        cases h3 : ckU T els k E.atts with
        | some w => rw [h3] at h; cases h
        | none =>
          rw [h3] at h
          exact ⟨rfl, rfl, fun hp e => q (by rw [hp, e]; rfl), rfl, h⟩
theorem nm_split {T : List Int32} {n : Nam} (h : n.s < n.l) (hl : n.l < n.z) (hz : n.z ≤ T.length) : nmT T n = preT T n ++ (ch T (n.l - 1) :: loT T n) := by
  unfold nmT loT
  rw [preT_p h]
  have e1 : stre T (n.l - 1) n.z = ch T (n.l - 1) :: stre T n.l n.z := by
    rw [stre_cons hz (by omega), show n.l - 1 + 1 = n.l by omega]
  rw [← e1]
  unfold stre
  have e2 : T.drop (n.l - 1) = (T.drop n.s).drop (n.l - 1 - n.s) := by rw [List.drop_drop]; congr 1; omega
  rw [e2, show n.z - n.s = (n.l - 1 - n.s) + (n.z - (n.l - 1)) by omega, List.take_add]
def GB (T : List Int32) (n : Nam) : Prop := n.s ≤ n.l ∧ n.l < n.z ∧ n.z ≤ T.length
theorem tri_of {T : List Int32} {els : List Ele} {k : Nat} {E : Ele} (h : chk T els k E = none) (hg : GDs T els) (hb : ∀ x ∈ E.atts, GB T x.nm) (hc : ∀ x ∈ E.atts, GC T x.nm) : Tri T els k E.atts := by
  obtain ⟨n1, -, -, u1, t1⟩ := chk_all h
  have pw := List.Pairwise.and (ckN_pw n1).2 (ckT_pw t1).2
  refine List.Pairwise.imp_of_mem (fun {x y} hx hy hh => ?_) pw
  obtain ⟨hn, ht⟩ := hh
  have bx := hb x hx
  have by_ := hb y hy
  unfold cBf
  by_cases dx : isD T x.nm = true
  · rw [if_pos dx]
    by_cases dy : isD T y.nm = true
    · rw [if_pos dy, if_pos dy, if_pos dx]
      refine lxl_tri (fun e => hn ?_)
      by_cases px : x.nm.s < x.nm.l
      · by_cases py : y.nm.s < y.nm.l
        · rw [dpT_p px, dpT_p py] at e
          have ex : preT T x.nm = [120, 109, 108, 110, 115] := by unfold isD at dx; rw [if_pos px] at dx; rw [preT_p px]; exact beq_iff_eq.mp dx
          have ey : preT T y.nm = [120, 109, 108, 110, 115] := by unfold isD at dy; rw [if_pos py] at dy; rw [preT_p py]; exact beq_iff_eq.mp dy
          rw [nm_split px bx.2.1 bx.2.2, nm_split py by_.2.1 by_.2.2, ex, ey, e, hc x hx px, hc y hy py]
        · rw [dpT_p px, dpT_n py] at e; exact absurd e (loT_ne bx.2.1 bx.2.2)
      · by_cases py : y.nm.s < y.nm.l
        · rw [dpT_n px, dpT_p py] at e; exact absurd e.symm (loT_ne by_.2.1 by_.2.2)
        · have ex : nmT T x.nm = [120, 109, 108, 110, 115] := by unfold isD at dx; rw [if_neg px] at dx; exact beq_iff_eq.mp dx
          have ey : nmT T y.nm = [120, 109, 108, 110, 115] := by unfold isD at dy; rw [if_neg py] at dy; exact beq_iff_eq.mp dy
          rw [ex, ey]
    · rw [if_neg dy]; exact Or.inl rfl
  · rw [if_neg dx]
    by_cases dy : isD T y.nm = true
    · rw [if_pos dy, if_pos dy, if_neg dx]; exact Or.inr rfl
    · rw [if_neg dy, if_neg dy, if_neg dx]
      by_cases ev : vOf els (spA T els k x.nm) = vOf els (spA T els k y.nm)
      · rw [if_pos ev, if_pos ev.symm]
        refine lxl_tri (fun e => ?_)
        by_cases e0 : vOf els (spA T els k x.nm) = []
        · have np : ∀ z ∈ E.atts, ¬ isD T z.nm = true → vOf els (spA T els k z.nm) = [] → ¬ z.nm.s < z.nm.l := by
            intro z hz dz vz pz
            exact ckU_all u1 z hz (by simpa using dz) (by unfold Nam.pre; simpa using pz) vz
          have px := np x hx dx e0
          have py := np y hy dy (ev ▸ e0)
          apply hn
          unfold nmT
          unfold loT at e
          rw [show x.nm.s = x.nm.l by have := bx.1; omega, show y.nm.s = y.nm.l by have := by_.1; omega]; exact e
        · have : mts T els k x.nm y.nm = true := by
            unfold mts
            rw [← ev, e, beq_self_eq_true, beq_self_eq_true, beq_eq_false_iff_ne.mpr e0]; rfl
          rw [this] at ht; cases ht
      · rw [if_neg ev, if_neg (Ne.symm ev)]; exact lxl_tri ev
