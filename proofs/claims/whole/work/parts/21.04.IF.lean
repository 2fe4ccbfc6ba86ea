/-! element, name, content, space: the answers -/
theorem Kf.m100 (M : gMem) (v : Int32) : ∀ t i, t ≠ 100 → (mS M 100 0 v) t i = M t i := fun t i q => mS_tag _ _ _ _ q
/-- the reference's space of an element's name -/
def spO (T : List Int32) (els : List Ele) (e : Nat) (n : Nam) : Option Nat := if vOf els (spE T els e n) = [] then none else spE T els e n
section ACC
variable {M : gMem} {T U : List Int32} {els : List Ele} {r : gRef}
theorem g_elSpace (h : RE M T U els) {e : Nat} {E : Ele} (hE : els[e]? = some E) {fu : Nat} (hfu : 240 < fu) : F_Mo_elementSpace fu (nI e) M r = .ok (paI (spO T els e E.nm)) M r := by
  have he := (List.getElem?_eq_some_iff.mp hE).1
  have h24 := h.2.1
  have hU := h.1.1
  obtain ⟨⟨⟨f, a1, a2, a3⟩, a4, a5, -, -, -, -, -, d1, d2, d3, d4⟩, -⟩ := h.2.2 e E hE
  have fin : ∀ o, o = spE T els e E.nm → (if paI o < 0 then (.ok (paI o) M r : gO Int32) else (gd (vp_in (paI o) 144) (if (M 121 (paI o).toNatClampNeg) = 0 then (.ok (-1) M r) else (.ok (paI o) M r)))) = .ok (paI (spO T els e E.nm)) M r := by
    intro o ho
    cases o with
    | none =>
      have : spO T els e E.nm = none := by unfold spO; rw [← ho]; split <;> rfl
      rw [if_pos (show paI none < 0 by decide), this]
    | some a =>
      have hlt := dFor_lt h.wf h24 ho.symm
      obtain ⟨k, K, m, y, g1, g2, g3, -, -⟩ := dFor_at ho.symm
      have hv : vOf els (spE T els e E.nm) = y.val := by rw [← ho, g3]; exact vOf_at g1 g2 (h.wf k K g1).1
      have ay := (h.2.2 k K g1).1.2.2.2.2.2.2.1 m y g2
      rw [← g3] at ay
      have v1 : M 121 a = nI y.val.length := ay.2.2.2.2.2.1
      have vl : y.val.length ≤ 240 := by obtain ⟨-, -, -, -, ⟨g, -, b, -⟩, -⟩ := ay; omega
      have e9 : (paI (some a)).toNatClampNeg = a := nI_clamp (n := a) (by omega)
      rw [if_neg (show ¬ paI (some a) < 0 from nI_pos (by omega)), gd_yes (show vp_in (paI (some a)) 144 from vp_in_nI hlt (by decide)), e9, v1]
      unfold spO
      rw [hv, ← ho]
      by_cases q : y.val = []
      · rw [if_pos ((len0 vl).mpr q), if_pos q]; rfl
      · rw [if_neg (fun q2 => q ((len0 vl).mp q2)), if_neg q]
  unfold F_Mo_elementSpace
  rw [gd_yes (vp_in_nI (by omega) (by decide)), gd_yes (vp_in_nI (by omega) (by decide)), gd_yes (vp_in_nI (by omega) (by decide)), nI_clamp (n := e) (by omega), a5, a1]
  have ho : ∀ k, some e = some k → k < els.length := fun k hk => by injection hk with hk; omega
  by_cases q : E.nm.s < E.nm.l
  · have g := g_declared (r := r) h (p := f) (n := E.nm.l - 1 - E.nm.s) (by omega) (fu := fu) (o := some e) ho hfu
    rw [pool_pre q d4 a3] at g
    have g' : F_Mo_declared fu (nI e) (nI f) (nI (E.nm.l - 1 - E.nm.s)) M r = .ok (paI (spE T els e E.nm)) M r := g
    rw [czn_p q, if_pos (nI_pos' (by omega)), g', bnd_k]
    exact fin _ rfl
  · have g := g_declared (r := r) h (p := f) (n := 0) (by omega) (fu := fu) (o := some e) ho hfu
    rw [Nat.add_zero, stre_nil, ← preT_n (T := T) q, nI_0] at g
    have g' : F_Mo_declared fu (nI e) (nI f) 0 M r = .ok (paI (spE T els e E.nm)) M r := g
    rw [czn_n q, if_neg (by decide), g', bnd_k]
    exact fin _ rfl
theorem spO_at (h : RE M T U els) {e : Nat} {n : Nam} {a : Nat} (hs : spO T els e n = some a) : a < 144 ∧ ∃ y, ATr M T U a y ∧ y.val = vOf els (spE T els e n) ∧ y.val ≠ [] := by
  unfold spO at hs
  split at hs
  · cases hs
  · rename_i q
    have hlt := dFor_lt h.wf h.2.1 hs
    obtain ⟨k, K, m, y, g1, g2, g3, -, -⟩ := dFor_at hs
    have hv : vOf els (spE T els e n) = y.val := by rw [hs, g3]; exact vOf_at g1 g2 (h.wf k K g1).1
    have ay := (h.2.2 k K g1).1.2.2.2.2.2.2.1 m y g2
    rw [← g3] at ay
    exact ⟨hlt, y, ay, hv.symm, hv ▸ q⟩
theorem spO_none {e : Nat} {n : Nam} (hs : spO T els e n = none) : vOf els (spE T els e n) = [] := by
  unfold spO at hs
  split at hs
  · assumption
  · rw [hs]; rfl
end ACC
/-- no such element, on both sides -/
theorem no_el {M : gMem} {r : gRef} (h : TT M r) (fu : Nat) (x : Int32) : (F_Tr_find fu x M r = .ok none M r ∧ F_Mo_noElement fu x M r = .ok 1 M r) ∨ (∃ T V U P e, CR M r T V P ∧ RS M T U P ∧ PI T P ∧ x = nI e ∧ e < P.els.length ∧ e < 24 ∧ F_Tr_find fu x M r = .ok (some e) M r ∧ F_Mo_noElement fu x M r = .ok 0 M r) := by
  unfold F_Tr_find F_Mo_noElement
  rcases h with ⟨a, b, c⟩ | ⟨T, V, U, P, a, b, c⟩
  · left
    refine ⟨?_, by rw [if_pos c]⟩
    by_cases q : x < 0
    · rw [if_pos q]
    · rw [if_neg q, a, if_pos (Int32.not_lt.mp q)]
  · have h1 : ¬ M 106 0 = 0 := by rw [b.2.2.2.2.2.2]; decide
    have h24 := b.1.2.1
    rw [if_neg h1]
    by_cases q : x < 0
    · left; rw [if_pos q, if_pos q]; exact ⟨rfl, rfl⟩
    · obtain ⟨n, hn, rfl⟩ := nI_of q
      rw [if_neg q, if_neg q, a.cx.ce.len, b.2.1]
      by_cases q2 : n < P.els.length
      · right
        refine ⟨T, V, U, P, n, a, b, c.1, rfl, q2, by omega, ?_, by rw [if_pos (nI_lt q2 (by omega))]⟩
        rw [if_neg (nI_ge q2 (by omega)), gd_yes (vp_in_nI (by omega) (by decide)), nI_clamp hn]
      · left
        rw [if_pos (nI_le (by omega) hn), if_neg (nI_nlt (by omega) hn)]; exact ⟨rfl, rfl⟩
theorem s_name {M : gMem} {r : gRef} (h : Iv M r) (fu : Nat) (x1 x2 : Int32) : P2 (F_MR_name fu x1 x2 M r) (fun M r => F_Mo_name fu x1 x2 M r) (fun k c => k = 2 ∧ c = 1) := by
  have bad : F_MR_name fu x1 x2 M r = .ex 2 M r → F_Mo_name fu x1 x2 M r = .ok 0 (mS M 100 0 1) r → P2 (F_MR_name fu x1 x2 M r) (fun M r => F_Mo_name fu x1 x2 M r) (fun k c => k = 2 ∧ c = 1) := fun e1 e2 => Or.inr ⟨2, M, r, 0, _, e1, e2, ⟨rfl, mS_same _ _ _ _⟩, h.thr 1⟩
  rcases no_el h.2.2.2.2.2.2 fu x1 with ⟨n1, n2⟩ | ⟨T, V, U, P, e, a, b, c, rfl, he, h24, n1, n2⟩
  · exact bad (by unfold F_MR_name; rw [n1, bnd_k, gcs_none rfl]) (by unfold F_Mo_name; rw [n2, bnd_k, if_neg (by decide)])
  · have hE := List.getElem?_eq_getElem he
    have el := a.cx.ce.el e _ hE
    obtain ⟨⟨⟨f, a1, a2, a3⟩, a4, -⟩, -⟩ := b.1.2.2 e _ hE
    have hU := b.1.1.1
    have hT := a.tx.le
    have nm := el.nm
    have s1 := nm.sl; have s2 := nm.lz; have s3 := nm.zT
    by_cases q : x2 < 0
    · exact bad (by unfold F_MR_name; rw [n1, bnd_k, gcs_some rfl, gd_yes h24, if_pos q]) (by unfold F_Mo_name; rw [n2, bnd_k, if_pos rfl, if_pos q])
    · obtain ⟨n, hn, rfl⟩ := nI_of q
      by_cases q2 : n < P.els[e].nm.z - P.els[e].nm.s
      · have hc : ch U (f + n) = ch T (P.els[e].nm.s + n) := by
          have e1 : stre U (f + n) (f + (P.els[e].nm.z - P.els[e].nm.s)) = stre T (P.els[e].nm.s + n) P.els[e].nm.z := by
            rw [stre_drop, a3]; unfold nmT; rw [← stre_drop]
          rw [stre_cons a2 (by omega), stre_cons s3 (by omega)] at e1
          injection e1
        have ok := a.tx.okk (P.els[e].nm.s + n)
        refine Or.inl ⟨ch T (P.els[e].nm.s + n), M, r, mS M 100 0 0, ?_, ?_, mS_same _ _ _ _, h.thr 0⟩
        · unfold F_MR_name
          rw [n1, bnd_k, gcs_some rfl, gd_yes h24, if_neg q, nm.fz, nm.fs, pk_sub (by omega), if_pos (nI_lt q2 (by omega)), nI_add, f_rowAt a.tx.rw fu r (by omega), bnd_k, gd_yes (gNc_ok ok)]
        · show F_Mo_name fu (nI e) (nI n) M r = _
          unfold F_Mo_name
          rw [n2, bnd_k, if_pos rfl, if_neg q, gd_yes (vp_in_nI h24 (by decide)), nI_clamp (n := e) (by omega), a4, if_pos (nI_lt q2 (by omega)), gd_yes (vp_in_nI h24 (by decide)), mS_tag _ (t := 100) (t2 := 111) _ _ _ (by decide), a1, nI_add, gd_yes (vp_in_nI (by omega) (by decide)), nI_clamp (n := f + n) (by omega), mS_tag _ (t := 100) (t2 := 108) _ _ _ (by decide), b.1.1.2 (f + n) (by omega), hc, iC_ok ok, gd_yes (gNc_ok ok)]
      · have q3 : ¬ nI n < nI (P.els[e].nm.z - P.els[e].nm.s) := nI_nlt (by omega) hn
        exact bad (by unfold F_MR_name; rw [n1, bnd_k, gcs_some rfl, gd_yes h24, if_neg q, nm.fz, nm.fs, pk_sub (by omega), if_neg q3]) (by unfold F_Mo_name; rw [n2, bnd_k, if_pos rfl, if_neg q, gd_yes (vp_in_nI h24 (by decide)), nI_clamp (n := e) (by omega), a4, if_neg q3])
theorem s_content {M : gMem} {r : gRef} (h : Iv M r) (fu : Nat) (hfu : 240 < fu) (x1 x2 : Int32) : P2 (F_MR_content fu x1 x2 M r) (fun M r => F_Mo_content fu x1 x2 M r) (fun k c => k = 2 ∧ c = 1) := by
  have bad : F_MR_content fu x1 x2 M r = .ex 2 M r → F_Mo_content fu x1 x2 M r = .ok 0 (mS M 100 0 1) r → P2 (F_MR_content fu x1 x2 M r) (fun M r => F_Mo_content fu x1 x2 M r) (fun k c => k = 2 ∧ c = 1) := fun e1 e2 => Or.inr ⟨2, M, r, 0, _, e1, e2, ⟨rfl, mS_same _ _ _ _⟩, h.thr 1⟩
  rcases no_el h.2.2.2.2.2.2 fu x1 with ⟨n1, n2⟩ | ⟨T, V, U, P, e, a, b, c, rfl, he, h24, n1, n2⟩
  · exact bad (by unfold F_MR_content; rw [n1, bnd_k, gcs_none rfl]) (by unfold F_Mo_content; rw [n2, bnd_k, if_neg (by decide)])
  · have hT := a.tx.le
    have aT := a.aT
    have cl := a.cl
    have l24 := b.1.2.1
    have b0 : RS (mS M 100 0 0) T U P := b.of (fun t i p q => mS_tag _ _ _ _ (by omega))
    have own1 := fun x => g_own (r := r) b c he x fu hfu
    have own2 := fun x => g_own (r := r) b0 c he x fu hfu
    have ol : (owL e (ownS none P.evs)).length ≤ 240 := by
      rw [owL_len]; unfold owN
      have := List.length_filter_le (fun y : Option Nat × Int32 => y.1 == some e) (ownS none P.evs)
      omega
    rcases f_ownAt (r := r) a.ct (by omega) (fun y hy o ho => by have := a.ob y hy o ho; omega) h24 x2 fu hfu with ⟨p, p1, p2, p3, p4, p5⟩ | ⟨p1, p2⟩
    · obtain ⟨n, hn, rfl⟩ := nI_of (Int32.not_lt.mpr p3)
      rw [nI_clamp hn] at p4 p5
      have ok := a.ct.1.okc p
      have oa : owA 0 (nI n) (owL e (ownS none P.evs)) = ch (owL e (ownS none P.evs)) n := by
        have := owA_nn (owL e (ownS none P.evs)) 0 n (by omega) hn (by omega)
        rw [Nat.sub_zero, if_pos p4] at this; exact this
      rw [p5] at ok
      have nn0 : 0 ≤ ch (owL e (ownS none P.evs)) n := by obtain ⟨w, hw, e9⟩ := ok; rw [e9]; exact nI_pos' (by omega)
      refine Or.inl ⟨ch (owL e (ownS none P.evs)) n, M, r, mS M 100 0 0, ?_, ?_, mS_same _ _ _ _, h.thr 0⟩
      · unfold F_MR_content
        rw [n1, bnd_k, gcs_some rfl, gd_yes h24, p1, bnd_k, if_neg (show ¬ nI p = -1 from fun q => by have := nI_pos (n := p) (by omega); rw [q] at this; exact this (by decide)), f_rowAt a.ct.1 fu r (by omega), bnd_k, p5, gd_yes (gNc_ok ok)]
      · show F_Mo_content fu (nI e) (nI n) M r = _
        unfold F_Mo_content
        rw [n2, bnd_k, if_pos rfl, if_pos (nI_pos' hn), own1, bnd_k, oa, if_pos nn0, own2, bnd_k, oa, iC_ok ok, gd_yes (gNc_ok ok)]
    · refine bad ?_ ?_
      · unfold F_MR_content
        rw [n1, bnd_k, gcs_some rfl, gd_yes h24, p1, bnd_k, if_pos rfl]
      · unfold F_Mo_content
        rw [n2, bnd_k, if_pos rfl]
        by_cases q : 0 ≤ x2
        · obtain ⟨n, hn, rfl⟩ := nI_of (Int32.not_lt.mpr q)
          rw [nI_clamp hn] at p2
          have oa : owA 0 (nI n) (owL e (ownS none P.evs)) = -1 := by
            have := owA_nn (owL e (ownS none P.evs)) 0 n (by omega) hn (by omega)
            rw [Nat.sub_zero, if_neg (fun q3 => p2 ⟨q, q3⟩)] at this; exact this
          rw [if_pos q, own1, bnd_k, oa, if_neg (by decide)]
        · rw [if_neg q]
theorem s_space {M : gMem} {r : gRef} (h : Iv M r) (fu : Nat) (hfu : 240 < fu) (x1 x2 : Int32) : P2 (F_MR_space fu x1 x2 M r) (fun M r => F_Mo_space fu x1 x2 M r) (fun k c => k = 2 ∧ c = 1) := by
  have bad : ∀ v, F_MR_space fu x1 x2 M r = .ex 2 M r → F_Mo_space fu x1 x2 M r = .ok 0 (mS (mS M 100 0 v) 100 0 1) r → P2 (F_MR_space fu x1 x2 M r) (fun M r => F_Mo_space fu x1 x2 M r) (fun k c => k = 2 ∧ c = 1) := fun v e1 e2 => Or.inr ⟨2, M, r, 0, _, e1, e2, ⟨rfl, mS_same _ _ _ _⟩, (h.thr v).thr 1⟩
  rcases no_el h.2.2.2.2.2.2 fu x1 with ⟨n1, n2⟩ | ⟨T, V, U, P, e, a, b, c, rfl, he, h24, n1, n2⟩
  · exact bad 1 (by unfold F_MR_space; rw [n1, bnd_k, gcs_none rfl]) (by unfold F_Mo_space; rw [n2, bnd_k, if_neg (by decide), mS_mS])
  · have hE := List.getElem?_eq_getElem he
    have b0 : RS (mS M 100 0 0) T U P := b.of (fun t i p q => mS_tag _ _ _ _ (by omega))
    have sp := (a.sp e _ hE).en
    obtain ⟨hV, hlt⟩ := f_spV a.cx (p := preT T P.els[e].nm) (d := 25) (o := some e)
    have hV' : VL M V ((spE T P.els e P.els[e].nm).getD 144) (vOf P.els (spE T P.els e P.els[e].nm)) := hV
    have hlt' : (spE T P.els e P.els[e].nm).getD 144 < 145 := hlt
    have vv : RW M 3 V := a.cx.vv
    have vle : V.length ≤ 240 := vv.le
    obtain ⟨s, v1, v2, v3, v4⟩ := hV'
    have es := g_elSpace (r := r) b0.1 hE hfu
    have evl : F_At_valueLength fu ((spE T P.els e P.els[e].nm).getD 144) M r = .ok (nI (vOf P.els (spE T P.els e P.els[e].nm)).length) M r := f_valueLength ⟨s, v1, v2, v3, v4⟩ fu r
    have vl240 : (vOf P.els (spE T P.els e P.els[e].nm)).length ≤ 240 := by omega
    have clsN : ¬ x2 < 0 → ¬ x2 < nI (vOf P.els (spE T P.els e P.els[e].nm)).length → F_MR_space fu (nI e) x2 M r = .ex 2 M r := by
      intro q q2
      unfold F_MR_space
      rw [n1, bnd_k, gcs_some rfl, gd_yes h24, if_neg q, gcs_some sp, gd_yes hlt', evl, bnd_k, if_neg q2]
    have clsM : x2 < 0 → F_MR_space fu (nI e) x2 M r = .ex 2 M r := by
      intro q
      unfold F_MR_space
      rw [n1, bnd_k, gcs_some rfl, gd_yes h24, if_pos q]
    have refB : (F_Mo_space fu (nI e) x2 M r) = (if paI (spO T P.els e P.els[e].nm) < 0 then (.ok 0 (mS (mS M 100 0 0) 100 0 1) r) else (if x2 < 0 then (.ok 0 (mS (mS M 100 0 0) 100 0 1) r) else (gd (vp_in (paI (spO T P.els e P.els[e].nm)) 144) (if x2 < ((mS M 100 0 0) 121 (paI (spO T P.els e P.els[e].nm)).toNatClampNeg) then (gd (vp_in (paI (spO T P.els e P.els[e].nm)) 144) (gd (vp_in (((mS (mS M 100 0 0) 100 0 0) 120 (paI (spO T P.els e P.els[e].nm)).toNatClampNeg) + x2) 260) (gd (gNc (iC ((mS (mS M 100 0 0) 100 0 0) 108 (((mS (mS M 100 0 0) 100 0 0) 120 (paI (spO T P.els e P.els[e].nm)).toNatClampNeg) + x2).toNatClampNeg))) (.ok (iC ((mS (mS M 100 0 0) 100 0 0) 108 (((mS (mS M 100 0 0) 100 0 0) 120 (paI (spO T P.els e P.els[e].nm)).toNatClampNeg) + x2).toNatClampNeg)) (mS (mS M 100 0 0) 100 0 0) r)))) else (.ok 0 (mS (mS M 100 0 0) 100 0 1) r))))) := by
      unfold F_Mo_space
      rw [n2, bnd_k, if_pos rfl, es, bnd_k]
    cases ho : spO T P.els e P.els[e].nm with
    | none =>
      have v0 := spO_none ho
      refine bad 0 ?_ (by rw [refB, ho, if_pos (show paI none < 0 by decide)])
      by_cases q : x2 < 0
      · exact clsM q
      · exact clsN q (by rw [v0]; exact q)
    | some k =>
      obtain ⟨k144, y, ay, y1, y2⟩ := spO_at b0.1 ho
      obtain ⟨-, -, -, -, ⟨g, c1, c2, c3⟩, c4, -⟩ := ay
      have hU := b.1.1.1
      have e9 : (paI (some k)).toNatClampNeg = k := nI_clamp (n := k) (by omega)
      have vin : vp_in (paI (some k)) 144 := vp_in_nI k144 (by decide)
      by_cases q : x2 < 0
      · exact bad 0 (clsM q) (by rw [refB, ho, if_neg (show ¬ paI (some k) < 0 from nI_pos (by omega)), if_pos q])
      · obtain ⟨n, hn, rfl⟩ := nI_of q
        by_cases q2 : n < y.val.length
        · have q2' : n < (vOf P.els (spE T P.els e P.els[e].nm)).length := by rw [← y1]; exact q2
          have hc : ch U (g + n) = ch V (s + n) := by
            have e1 : stre U (g + n) (g + y.val.length) = y.val.drop n := by rw [stre_drop, c3]
            have e2 : stre V (s + n) (s + (vOf P.els (spE T P.els e P.els[e].nm)).length) = (vOf P.els (spE T P.els e P.els[e].nm)).drop n := by rw [stre_drop, v4]
            rw [← y1, ← e1] at e2
            rw [stre_cons (by rw [y1]; omega) (by omega), stre_cons c2 (by omega)] at e2
            injection e2 with e2; exact e2.symm
          have ok := vv.okc (s + n)
          refine Or.inl ⟨ch V (s + n), M, r, mS (mS M 100 0 0) 100 0 0, ?_, ?_, mS_same _ _ _ _, (h.thr 0).thr 0⟩
          · unfold F_MR_space
            rw [n1, bnd_k, gcs_some rfl, gd_yes h24, if_neg q, gcs_some sp, gd_yes hlt', evl, bnd_k, if_pos (nI_lt q2' (by omega)), gcs_some sp, gd_yes hlt', v1, nI_add, f_rowAt vv fu r (by omega), bnd_k, gd_yes (gNc_ok ok)]
          · show F_Mo_space fu (nI e) (nI n) M r = _
            rw [refB, ho, if_neg (show ¬ paI (some k) < 0 from nI_pos (by omega)), if_neg q, gd_yes vin, e9, c4, if_pos (nI_lt q2 (by omega)), gd_yes vin, mS_mS, c1, nI_add, gd_yes (vp_in_nI (by omega) (by decide)), nI_clamp (n := g + n) (by omega), b0.1.1.2 (g + n) (by omega), hc, iC_ok ok, gd_yes (gNc_ok ok)]
        · exact bad 0 (clsN q (by rw [← y1]; exact nI_nlt (by omega) hn)) (by rw [refB, ho, if_neg (show ¬ paI (some k) < 0 from nI_pos (by omega)), if_neg q, gd_yes vin, e9, c4, if_neg (nI_nlt (by omega) hn)])
