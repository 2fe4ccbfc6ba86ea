/-! The reference's order, and what it writes of a tag -/
section ROR
variable {M : gMem} {T U : List Int32} {els : List Ele} {r : gRef} {e : Nat} {E : Ele}
theorem g_cmpLocal (h : RE M T U els) {a b : Nat} {x y : Att} (hx : ATr M T U a x) (hy : ATr M T U b y) (ha : a < 144) (hb : b < 144) {fu : Nat} (hfu : 240 < fu) :
    (gO.bnd (F_Mo_local fu (nI a) M r) (fun v97 M97 r97 => gO.bnd (F_Mo_localSize fu (nI a) M97 r97) (fun v98 M98 r98 => gO.bnd (F_Mo_local fu (nI b) M98 r98) (fun v99 M99 r99 => gO.bnd (F_Mo_localSize fu (nI b) M99 r99) (fun v100 M100 r100 => gO.bnd (F_Mo_compare fu v97 v98 v99 v100 M100 r100) (fun v101 M101 r101 => (.ok v101 M101 r101 : gO Int32))))))) = .ok (cmpI (loT T x.nm) (loT T y.nm)) M r := by
  obtain ⟨f1, l1, l2, l3, l4⟩ := g_local (r := r) hx ha fu h.1.1
  obtain ⟨f2, k1, k2, k3, k4⟩ := g_local (r := r) hy hb fu h.1.1
  rw [l1, bnd_k, l2, bnd_k, k1, bnd_k, k2, bnd_k, g_compare h.1 fu r l3 k3 hfu, bnd_k, l4, k4]
theorem spA_at (h : RE M T U els) {n : Nam} {a : Nat} (hs : spA T els e n = some a) : ∃ y, a < 144 ∧ ATr M T U a y ∧ vOf els (some a) = y.val := by
  have hs2 := hs
  unfold spA at hs2
  split at hs2
  · obtain ⟨k, K, m, y, g1, g2, g3, -, -⟩ := dFor_at hs2
    subst g3
    exact ⟨y, spA_lt h.wf h.2.1 hs, (h.2.2 k K g1).1.2.2.2.2.2.2.1 m y g2, vOf_at g1 g2 (h.wf k K g1).1⟩
  · cases hs2
theorem g_order (h : RE M T U els) (hE : els[e]? = some E) (hg : GDs T els) (hn : ∀ x ∈ E.atts, GN x.nm) {fu : Nat} (hfu : 240 < fu) {i j : Nat} {x y : Att} (hi : E.atts[i]? = some x) (hj : E.atts[j]? = some y) (hne : nmT T x.nm ≠ nmT T y.nm) :
    ∃ v, F_Mo_order fu (nI (6 * e + i)) (nI (6 * e + j)) M r = .ok v M r ∧ (v < 0 ↔ cBf T els e x y = true) := by
  have he := (List.getElem?_eq_some_iff.mp hE).1
  have hil := (List.getElem?_eq_some_iff.mp hi).1
  have hjl := (List.getElem?_eq_some_iff.mp hj).1
  have h24 := h.2.1
  obtain ⟨⟨-, -, -, -, hc, c6, ats, -⟩, -⟩ := h.2.2 e E hE
  have ax := ats i x hi
  have ay := ats j y hj
  have ha : 6 * e + i < 144 := by omega
  have hb : 6 * e + j < 144 := by omega
  have cl := g_cmpLocal (r := r) h ax ay ha hb hfu
  have mx := List.mem_of_getElem? hi
  have my := List.mem_of_getElem? hj
  have bx : x.nm.l < x.nm.z ∧ x.nm.s ≤ x.nm.l ∧ x.nm.z ≤ T.length := ⟨ax.2.2.2.2.2.2.2.2.2, ax.2.2.2.2.2.2.2.2.1, ax.2.2.2.2.2.2.2.1⟩
  have by_ : y.nm.l < y.nm.z ∧ y.nm.s ≤ y.nm.l ∧ y.nm.z ≤ T.length := ⟨ay.2.2.2.2.2.2.2.2.2, ay.2.2.2.2.2.2.2.2.1, ay.2.2.2.2.2.2.2.1⟩
  have zx : x.nm.z - x.nm.s ≤ 240 := by obtain ⟨⟨f, -, b, -⟩, -⟩ := ax; have := h.1.1; omega
  have zy : y.nm.z - y.nm.s ≤ 240 := by obtain ⟨⟨f, -, b, -⟩, -⟩ := ay; have := h.1.1; omega
  have cx : M 118 (6 * e + i) = czn x.nm := ax.2.2.1
  have cy : M 118 (6 * e + j) = czn y.nm := ay.2.2.1
  unfold F_Mo_order cBf
  rw [g_declares h.1 ax ha fu, bnd_k, g_declares h.1 ay hb fu, bnd_k]
  cases dx : isD T x.nm with
  | true =>
    cases dy : isD T y.nm with
    | true =>
      rw [if_pos rfl, if_neg (show ¬ b2 true = 0 by decide), gd_yes (vp_in_nI ha (by decide)), nI_clamp (n := 6 * e + i) (by omega), cx, if_pos rfl, if_pos rfl]
      by_cases px : x.nm.s < x.nm.l
      · rw [czn_p px, if_pos (nI_pos' (by omega)), gd_yes (vp_in_nI hb (by decide)), nI_clamp (n := 6 * e + j) (by omega), cy, dpT_p px]
        by_cases py : y.nm.s < y.nm.l
        · rw [czn_p py, if_pos (nI_pos' (by omega)), cl, dpT_p py]
          exact ⟨_, rfl, cmpI_neg⟩
        · rw [czn_n py, if_neg (by decide), dpT_n py]
          refine ⟨_, rfl, ⟨fun q => absurd q (by decide), fun q => ?_⟩⟩
          cases hl : loT T x.nm with
          | nil => exact absurd hl (loT_ne bx.1 bx.2.2)
          | cons a L => rw [hl] at q; cases q
      · rw [czn_n px, if_neg (by decide), dpT_n px]
        refine ⟨_, rfl, ⟨fun _ => ?_, fun _ => by decide⟩⟩
        by_cases py : y.nm.s < y.nm.l
        · rw [dpT_p py]
          cases hl : loT T y.nm with
          | nil => exact absurd hl (loT_ne by_.1 by_.2.2)
          | cons a L => rfl
        · exfalso; apply hne
          have ex : nmT T x.nm = [120, 109, 108, 110, 115] := by unfold isD at dx; rw [if_neg px] at dx; exact beq_iff_eq.mp dx
          have ey : nmT T y.nm = [120, 109, 108, 110, 115] := by unfold isD at dy; rw [if_neg py] at dy; exact beq_iff_eq.mp dy
          rw [ex, ey]
    | false =>
      rw [if_neg (show ¬ b2 true = b2 false by decide), if_neg (show ¬ b2 true = 0 by decide), if_pos rfl, if_neg (show ¬ false = true by decide)]
      exact ⟨_, rfl, ⟨fun _ => rfl, fun _ => by decide⟩⟩
  | false =>
    cases dy : isD T y.nm with
    | true =>
      rw [if_neg (show ¬ b2 false = b2 true by decide), if_pos (show b2 false = 0 from rfl), if_neg (show ¬ false = true by decide), if_pos rfl]
      exact ⟨_, rfl, ⟨fun q => absurd q (by decide), fun q => by cases q⟩⟩
    | false =>
      rw [if_pos rfl, if_pos (show b2 false = 0 from rfl), g_spaceOf h hE hi hfu, bnd_k, g_spaceOf h hE hj hfu, bnd_k, if_neg (show ¬ false = true by decide), if_neg (show ¬ false = true by decide)]
      have ne : ∀ {z : Att} {a : Nat}, z ∈ E.atts → z.nm.l < z.nm.z ∧ z.nm.s ≤ z.nm.l ∧ z.nm.z ≤ T.length → spA T els e z.nm = some a → vOf els (some a) ≠ [] := by
        intro z a hz bz hs hv
        have hs2 := hs
        unfold spA at hs2
        split at hs2
        · rename_i hp
          have hp' : z.nm.s < z.nm.l := by unfold Nam.pre at hp; simpa using hp
          have := (dFor_ne hg h.wf (preT_ne hp' (hn z hz) bz.2.2 (by omega)) (d := 25) (o := some e)).mp (by rw [hs2]; exact hv)
          rw [this] at hs2; cases hs2
        · cases hs2
      cases sx : spA T els e x.nm with
      | none =>
        rw [if_pos (show paI none < 0 by decide), if_neg (show ¬ 0 ≤ paI none by decide)]
        cases sy : spA T els e y.nm with
        | none =>
          rw [if_neg (show ¬ 0 ≤ paI none by decide), cl, if_pos rfl]
          exact ⟨_, rfl, cmpI_neg⟩
        | some b =>
          obtain ⟨y2, p6, p7, p8⟩ := spA_at h sy
          have vy := ne my by_ sy
          rw [if_pos (show 0 ≤ paI (some b) from nI_pos' (by omega)), if_neg (show ¬ vOf els none = vOf els (some b) from fun q => vy (by rw [← q]; rfl))]
          refine ⟨_, rfl, ⟨fun _ => ?_, fun _ => by decide⟩⟩
          show lxl [] (vOf els (some b)) = true
          cases hv : vOf els (some b) with
          | nil => exact absurd hv vy
          | cons c L => rfl
      | some a =>
        obtain ⟨y1, p2, p3, p4⟩ := spA_at h sx
        have vx := ne mx bx sx
        rw [if_neg (show ¬ paI (some a) < 0 from nI_pos (by omega)), if_pos (show 0 ≤ paI (some a) from nI_pos' (by omega))]
        cases sy : spA T els e y.nm with
        | none =>
          rw [if_neg (show ¬ 0 ≤ paI none by decide), if_neg (show ¬ vOf els (some a) = vOf els none from fun q => vx (by rw [q]; rfl)), if_neg (show ¬ 0 ≤ paI none by decide)]
          refine ⟨_, rfl, ⟨fun q => absurd q (by decide), fun q => ?_⟩⟩
          have q' : lxl (vOf els (some a)) [] = true := q
          cases hv : vOf els (some a) with
          | nil => exact absurd hv vx
          | cons c L => rw [hv] at q'; cases q'
        | some b =>
          obtain ⟨y2, p6, p7, p8⟩ := spA_at h sy
          rw [if_pos (show 0 ≤ paI (some b) from nI_pos' (by omega))]
          show ∃ v, gO.bnd (F_Mo_compareValues fu (nI a) (nI b) M r) _ = .ok v M r ∧ _
          rw [g_compareValues h.1 p3 p7 p2 p6 hfu, bnd_k, p4, p8]
          by_cases qv : cmpI y1.val y2.val = 0
          · rw [if_pos qv, cl, if_pos (cmpI_0.mp qv)]
            exact ⟨_, rfl, cmpI_neg⟩
          · rw [if_neg qv, if_neg (fun q => qv (cmpI_0.mpr q))]
            exact ⟨_, rfl, cmpI_neg⟩
theorem g_isWritten (h : RE M T U els) (hE : els[e]? = some E) (hg : GDs T els) {fu : Nat} (hfu : 240 < fu) {i : Nat} {x : Att} (hi : E.atts[i]? = some x) :
    F_Mo_isWritten fu (nI (6 * e + i)) M r = .ok (b2 (news T els E.par x)) M r := by
  have he := (List.getElem?_eq_some_iff.mp hE).1
  have hil := (List.getElem?_eq_some_iff.mp hi).1
  have h24 := h.2.1
  have hU := h.1.1
  have hpar := (h.2.2 e E hE).2
  obtain ⟨⟨-, -, -, -, hc, c6, ats, hp0, -⟩, -⟩ := h.2.2 e E hE
  have ax := ats i x hi
  have ha : 6 * e + i < 144 := by omega
  have mx := List.mem_of_getElem? hi
  have zx : x.nm.z - x.nm.s ≤ 240 := by obtain ⟨⟨f, -, b, -⟩, -⟩ := ax; omega
  have cx : M 118 (6 * e + i) = czn x.nm := ax.2.2.1
  have bl : x.nm.l < x.nm.z := ax.2.2.2.2.2.2.2.2.2
  have vx : M 121 (6 * e + i) = nI x.val.length := ax.2.2.2.2.2.1
  have vl : x.val.length ≤ 240 := by obtain ⟨-, -, -, -, ⟨g, -, b, -⟩, -⟩ := ax; omega
  unfold F_Mo_isWritten news
  rw [g_declares h.1 ax ha fu, bnd_k]
  cases dx : isD T x.nm with
  | false => rw [if_pos (show b2 false = 0 from rfl)]; rfl
  | true =>
    rw [if_neg (show ¬ b2 true = 0 by decide)]
    obtain ⟨f, l1, l2, l3, l4⟩ := g_local (r := r) ax ha fu hU
    unfold F_Mo_isNews
    rw [nI_div6 _ ha, show (6 * e + i) / 6 = e by omega, gd_yes (vp_in_nI (by omega) (by decide)), l1, bnd_k, gd_yes (vp_in_nI ha (by decide)), nI_clamp (n := 6 * e + i) (by omega), nI_clamp (n := e) (by omega), cx, hp0]
    -- behind the search
    have fin : ∀ o, o = dFor T els (dpT T x.nm) 25 E.par → (∀ a, o = some a → ∃ y, a < 144 ∧ ATr M T U a y ∧ vOf els (some a) = y.val) → ∀ z : gO Int32, (o = none → z = .ok (b2 (!([] == x.val))) M r) → gO.bnd (if 0 ≤ paI o then (gO.bnd (F_Mo_compareValues fu (nI (6 * e + i)) (paI o) M r) (fun v29 M29 r29 => if v29 = 0 then (.ok 0 M29 r29) else (.ok 1 M29 r29))) else z) (fun v7 M7 r7 => if v7 = 0 then (.ok 0 M7 r7) else (.ok 1 M7 r7)) = .ok (b2 (!true || !(vOf els o == x.val))) M r := by
      intro o ho hat z hz
      have tail : ∀ b : Bool, (if b2 b = 0 then (.ok 0 M r : gO Int32) else .ok 1 M r) = .ok (b2 b) M r := by intro b; cases b <;> rfl
      cases o with
      | none =>
        rw [if_neg (show ¬ 0 ≤ paI none by decide), hz rfl, bnd_k, tail]; rfl
      | some a =>
        obtain ⟨y, q1, q2, q3⟩ := hat a rfl
        rw [if_pos (show 0 ≤ paI (some a) from nI_pos' (by omega))]
        show gO.bnd (gO.bnd (F_Mo_compareValues fu (nI (6 * e + i)) (nI a) M r) _) _ = _
        rw [g_compareValues h.1 ax q2 ha q1 hfu, bnd_k, q3]
        by_cases qc : cmpI x.val y.val = 0
        · rw [if_pos qc, bnd_k, if_pos rfl, beq_iff_eq.mpr (cmpI_0.mp qc).symm]; rfl
        · have : (y.val == x.val) = false := beq_eq_false_iff_ne.mpr (fun q => qc (cmpI_0.mpr q.symm))
          rw [if_neg qc, bnd_k, if_neg (by decide), this]; rfl
    have hat : ∀ a, dFor T els (dpT T x.nm) 25 E.par = some a → ∃ y, a < 144 ∧ ATr M T U a y ∧ vOf els (some a) = y.val := by
      intro a hs
      have hlt := dFor_lt h.wf h24 hs
      obtain ⟨k, K, m, y, g1, g2, g3, -, -⟩ := dFor_at hs
      subst g3
      exact ⟨y, hlt, (h.2.2 k K g1).1.2.2.2.2.2.2.1 m y g2, vOf_at g1 g2 (h.wf k K g1).1⟩
    have ho : ∀ k, E.par = some k → k < els.length := fun k hk => by have := hpar k hk; omega
    by_cases px : x.nm.s < x.nm.l
    · have hv := (hg e E hE x mx dx (by unfold Nam.pre; simpa using px)).1
      have gd' := g_declared (r := r) h l3 ho hfu
      rw [l4, ← dpT_p px] at gd'
      rw [czn_p px, if_pos (nI_pos' (by omega)), l2, bnd_k, gd', bnd_k]
      refine fin _ rfl hat _ (fun _ => ?_)
      rw [gd_yes (vp_in_nI ha (by decide)), cx, czn_p px, if_pos (nI_pos' (by omega))]
      have : ([] == x.val) = false := beq_eq_false_iff_ne.mpr (Ne.symm hv)
      rw [this]; rfl
    · have gd' := g_declared (r := r) h (p := f) (n := 0) (by omega) ho hfu
      rw [Nat.add_zero, stre_nil, ← dpT_n (T := T) px, nI_0] at gd'
      rw [czn_n px, if_neg (by decide), gd', bnd_k]
      refine fin _ rfl hat _ (fun _ => ?_)
      rw [gd_yes (vp_in_nI ha (by decide)), cx, czn_n px, if_neg (by decide), gd_yes (vp_in_nI ha (by decide)), vx]
      cases hv : x.val with
      | nil => rw [if_pos (by decide)]; rfl
      | cons c L => rw [hv] at vl; rw [if_neg (nI_nle (by rw [List.length_cons]; omega) (by omega))]; rfl
end ROR
