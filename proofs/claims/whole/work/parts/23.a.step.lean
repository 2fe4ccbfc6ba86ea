/-! One call of the law, over what holds between two calls -/
theorem ok_inj {α : Type} {v v' : α} {M M' : gMem} {r r' : gRef} (h : gO.ok v M r = gO.ok v' M' r') : v = v' ∧ M = M' ∧ r = r' := by
  unfold gO.ok at h
  injection h with h; injection h with h; injection h with h1 h; injection h with h2 h3
  exact ⟨h1, h2, h3⟩
theorem ex_inj {α : Type} {v v' : Nat} {M M' : gMem} {r r' : gRef} (h : (gO.ex v M r : gO α) = gO.ex v' M' r') : v = v' ∧ M = M' ∧ r = r' := by
  unfold gO.ex at h
  injection h with h; injection h with h; injection h with h1 h; injection h with h2 h3
  exact ⟨h1, h2, h3⟩
theorem ok_ne_ex {α : Type} {v : α} {k : Nat} {M M' : gMem} {r r' : gRef} : gO.ok v M r ≠ gO.ex k M' r' := by
  intro h; unfold gO.ok gO.ex at h; injection h with h; cases h
theorem ok_ne_no {α : Type} {v : α} {M : gMem} {r : gRef} : gO.ok v M r ≠ .no := by intro h; unfold gO.ok gO.no at h; cases h
theorem ex_ne_no {α : Type} {k : Nat} {M : gMem} {r : gRef} : (gO.ex k M r : gO α) ≠ .no := by intro h; unfold gO.ex gO.no at h; cases h
theorem P2.no {A : gO Int32} {B : gMem → gRef → gO Int32} {cd : Nat → Int32 → Prop} (h : P2 A B cd) : A ≠ .no := by
  rcases h with ⟨v, M1, r1, M2, e, -⟩ | ⟨k, M1, r1, b, M2, e, -⟩
  · rw [e]; exact ok_ne_no
  · rw [e]; exact ex_ne_no
theorem P2.pr {A : gO Int32} {B : gMem → gRef → gO Int32} {cd : Nat → Int32 → Prop} (h : P2 A B cd) {v : Int32} {M1 : gMem} {r1 : gRef} (hA : A = .ok v M1 r1) : ∃ M2, B M1 r1 = .ok v M2 r1 ∧ M2 100 0 = 0 ∧ Iv M2 r1 := by
  rcases h with ⟨v', M1', r1', M2, e, q⟩ | ⟨k, M1', r1', b, M2, e, -⟩
  · rw [e] at hA; obtain ⟨rfl, rfl, rfl⟩ := ok_inj hA; exact ⟨M2, q⟩
  · rw [e] at hA; exact absurd hA.symm ok_ne_ex
theorem P2.pt {A : gO Int32} {B : gMem → gRef → gO Int32} {cd : Nat → Int32 → Prop} (h : P2 A B cd) {k : Nat} {M1 : gMem} {r1 : gRef} (hA : A = .ex k M1 r1) : ∃ b M2, B M1 r1 = .ok b M2 r1 ∧ cd k (M2 100 0) ∧ Iv M2 r1 := by
  rcases h with ⟨v', M1', r1', M2, e, q⟩ | ⟨k', M1', r1', b, M2, e, q⟩
  · rw [e] at hA; exact absurd hA ok_ne_ex
  · rw [e] at hA; obtain ⟨rfl, rfl, rfl⟩ := ex_inj hA; exact ⟨b, M2, q⟩
theorem PU.no {A : gO Unit} {B : gMem → gRef → gO Unit} {cd : Nat → Int32 → Prop} (h : PU A B cd) : A ≠ .no := by
  rcases h with ⟨M1, r1, M2, e, -⟩ | ⟨k, M1, r1, M2, e, -⟩
  · rw [e]; exact ok_ne_no
  · rw [e]; exact ex_ne_no
theorem PU.pr {A : gO Unit} {B : gMem → gRef → gO Unit} {cd : Nat → Int32 → Prop} (h : PU A B cd) {M1 : gMem} {r1 : gRef} (hA : A = .ok () M1 r1) : ∃ M2, B M1 r1 = .ok () M2 r1 ∧ M2 100 0 = 0 ∧ Iv M2 r1 := by
  rcases h with ⟨M1', r1', M2, e, q⟩ | ⟨k, M1', r1', M2, e, -⟩
  · rw [e] at hA; obtain ⟨-, rfl, rfl⟩ := ok_inj hA; exact ⟨M2, q⟩
  · rw [e] at hA; exact absurd hA.symm ok_ne_ex
theorem PU.pt {A : gO Unit} {B : gMem → gRef → gO Unit} {cd : Nat → Int32 → Prop} (h : PU A B cd) {k : Nat} {M1 : gMem} {r1 : gRef} (hA : A = .ex k M1 r1) : ∃ M2, B M1 r1 = .ok () M2 r1 ∧ cd k (M2 100 0) ∧ Iv M2 r1 := by
  rcases h with ⟨M1', r1', M2, e, q⟩ | ⟨k', M1', r1', M2, e, q⟩
  · rw [e] at hA; exact absurd hA ok_ne_ex
  · rw [e] at hA; obtain ⟨rfl, rfl, rfl⟩ := ex_inj hA; exact ⟨M2, q⟩
section GMO
variable {l : Launch} {s0 : State} {D : va_G} {aC : Nat → ClassId} {y : MethodName} {cw : Cond} {fr lo mt st : Nat} {av : List Value} {M M2 : gMem} {r r2 : gRef} {ow : Int64} {pr' : Option Value → gMem → gRef → Prop}
theorem gm_ok {F : gO Int32} {b : Int32} (h : gMet l s0 D aC y cw fr lo mt st av M r ow (qI F) (qT F)) (e : F = .ok b M2 r2) (hp : pr' (some (.int b)) M2 r2) : gMet l s0 D aC y cw fr lo mt st av M r ow pr' (fun _ _ _ => False) :=
  h.mono (fun w M' r' hq => by obtain ⟨x, rfl, hq⟩ := hq; rw [e] at hq; obtain ⟨rfl, rfl, rfl⟩ := ok_inj hq; exact hp) (fun ek M' r' hq => absurd (e.symm.trans hq) ok_ne_ex)
theorem gm_okV {F : gO Unit} (h : gMet l s0 D aC y cw fr lo mt st av M r ow (qV F) (qT F)) (e : F = .ok () M2 r2) (hp : pr' none M2 r2) : gMet l s0 D aC y cw fr lo mt st av M r ow pr' (fun _ _ _ => False) :=
  h.mono (fun w M' r' hq => by obtain ⟨rfl, hq⟩ := hq; rw [e] at hq; obtain ⟨-, rfl, rfl⟩ := ok_inj hq; exact hp) (fun ek M' r' hq => absurd (e.symm.trans hq) ok_ne_ex)
end GMO
theorem no_of {α : Type} {F : gO α} {v : α} {M : gMem} {r : gRef} (e : F = .ok v M r) : F ≠ .no := by rw [e]; exact ok_ne_no

set_option maxHeartbeats 4000000 in
set_option maxRecDepth 100000 in
theorem w_step {p : Program} {l : Launch} {e : Env} {R : Room} {s0 : State} {m : MethodId} {args : Array Value} {below : List Frame} {meth : Method} {c : Code} {H : Heap} {locs : List Loc} {cells slots : Nat} {Q : State → Prop} {D : va_G} {aC : Nat → ClassId} {b L : Nat} {xs : Nat → Int32} {i : Int32} {ls : Array Slot} {ow : Int64} {a0 : Array Value} {M : gMem} {r : gRef} (G : gG l s0 D aC a0) (B : gB s0 D aC p e s0 m meth c R_La code 7 ret) (hX : va_X b L xs s0 s0.heap) (hbl : b < s0.heap.size) (hRm : 16 ≤ R.frames ∧ 604 ≤ R.locals) (hC : cells + 1 ≤ R.cells ∧ slots + 6 ≤ R.slots) (h1 : vp_in (i + 1) L) (h2 : vp_in (i + 2) L) (hl : lv_has ls 7 [(4, .int i), (3, .ref (s0.heap.size + 401)), (2, .ref (s0.heap.size + 383)), (1, .ref (s0.heap.size + 0)), (0, .ref b)]) (hw : gWd s0 D aC M r ow H locs) (hI : Iv M r) (k : ∀ M r ow H locs ls, Iv M r → lv_has ls 7 [(4, .int i), (3, .ref (s0.heap.size + 401)), (2, .ref (s0.heap.size + 383)), (1, .ref (s0.heap.size + 0)), (0, .ref b)] → gWd s0 D aC M r ow H locs → W p l e R s0 m args below meth c H locs (cells + 1) (slots + 6) Q (F0 m 669 ls [])) : ∀ q ∈ [108, 166, 177, 221, 234, 247, 315, 383, 451, 519, 532, 588, 632, 656], W p l e R s0 m args below meth c H locs cells slots Q (F0 m q ls []) := by
  have hT : ∀ M r ow, gMet l s0 D aC y_Mo_thrown (Cond.code y_Mo_thrown b_Mo_thrown 1 (some .int)) 0 0 0 0 [.ref (s0.heap.size + 383)] M r ow (fun v M1 r1 => v = some (.int (M 100 0)) ∧ M1 = M ∧ r1 = r) (fun _ _ _ => False) := fun M r ow => c_Mo_thrown G M r ow
  have h1450 : 1450 < 2000 := by decide
  have h1440 : 1440 < 2000 := by decide
  have h240 : 240 < 2000 := by decide
  intro q hq
  simp only [List.mem_cons, List.not_mem_nil, or_false] at hq
  rcases hq with rfl | rfl | rfl | rfl | rfl | rfl | rfl | rfl | rfl | rfl | rfl | rfl | rfl | rfl
  · have sp := s_type hI 2000 (((xs (i + 1).toNatClampNeg).toUInt32 % 65536).toInt32) (cOK_i2c _)
    have hA := c_La_type G M r ow (((xs (i + 1).toNatClampNeg).toUInt32 % 65536).toInt32) ⟨by decide, by decide⟩ (t_MR_type G M r ow 2000 (((xs (i + 1).toNatClampNeg).toUInt32 % 65536).toInt32) sp.no) (fun v M1 r1 h => ⟨_, h.choose_spec.1⟩) (fun ek M1 r1 h => by obtain ⟨b, M2, -, hc, -⟩ := sp.pt h; rcases hc with hc | hc; exact Or.inl hc.1; exact Or.inr hc.1)
    refine w_type (pB := fun v ow1 w M2 r2 => ∃ a, w = some (.int a) ∧ M2 100 0 = v ∧ (v = 0 → ow1 = a.toInt64) ∧ Iv M2 r2) (I := Iv) B hX hbl hRm hC h1 h2 hl hw hA (fr := 1) (lo := 21) ⟨by decide, by decide⟩ (fun v M1 r1 ow1 hp => ?_) hT (fun _ _ _ _ _ h => h) k
    rcases hp with ⟨rfl, a, ⟨x, hx, hF⟩, rfl⟩ | ⟨rfl, rfl, hF⟩ | ⟨rfl, rfl, hF⟩
    · injection hx with hx; injection hx with hx; subst hx
      obtain ⟨M2, e2, z, iv⟩ := sp.pr hF
      exact gm_ok (t_Mo_type G M1 r1 _ 2000 (((xs (i + 1).toNatClampNeg).toUInt32 % 65536).toInt32) (no_of e2)) e2 ⟨_, rfl, z, fun _ => rfl, iv⟩
    · obtain ⟨b2, M2, e2, hc, iv⟩ := sp.pt hF
      exact gm_ok (t_Mo_type G M1 r1 _ 2000 (((xs (i + 1).toNatClampNeg).toUInt32 % 65536).toInt32) (no_of e2)) e2 ⟨_, rfl, (by rcases hc with ⟨hc, h⟩ | ⟨hc, h⟩; exact h; exact absurd hc (by decide)), fun h => absurd h (by decide), iv⟩
    · obtain ⟨b2, M2, e2, hc, iv⟩ := sp.pt hF
      exact gm_ok (t_Mo_type G M1 r1 _ 2000 (((xs (i + 1).toNatClampNeg).toUInt32 % 65536).toInt32) (no_of e2)) e2 ⟨_, rfl, (by rcases hc with ⟨hc, h⟩ | ⟨hc, h⟩; exact absurd hc (by decide); exact h), fun h => absurd h (by decide), iv⟩
  · obtain ⟨M1, r1, M2, e1, e2, iv⟩ := s_wipe hI 2000
    refine w_wipe (pA := fun v M r => v = none ∧ M = M1 ∧ r = r1) (pB := fun v w M2 r2 => v = none ∧ w = none ∧ Iv M2 r2) (I := Iv) B hX hbl hRm hC h1 h2 hl hw (fr := 0) (lo := 0) (fr2 := 0) (lo2 := 0) ⟨by decide, by decide⟩ (gm_okV (t_MR_wipe G M r ow 2000 (no_of e1)) e1 ⟨rfl, rfl, rfl⟩) (fun v M1 r1 h => h.1) ⟨by decide, by decide⟩ (fun v M9 r9 hp => ?_) (fun _ _ _ _ h => h) k
    obtain ⟨rfl, rfl, rfl⟩ := hp
    exact gm_okV (t_Mo_wipe G _ _ _ 2000 (no_of e2)) e2 ⟨rfl, rfl, iv⟩
  · have sp := s_read hI 2000 h1440
    have hA := c_La_read G M r ow ⟨by decide, by decide⟩ (t_MR_read G M r ow 2000 sp.no) (fun v M1 r1 h => ⟨_, h.choose_spec.1⟩) (fun ek M1 r1 h => by obtain ⟨b, M2, -, hc, -⟩ := sp.pt h; exact hc.1)
    refine w_read (pB := fun v ow1 w M2 r2 => ∃ a, w = some (.int a) ∧ M2 100 0 = v ∧ (v = 0 → ow1 = a.toInt64) ∧ Iv M2 r2) (I := Iv) B hX hbl hRm hC h1 h2 hl hw hA (fr := 9) (lo := 208) ⟨by decide, by decide⟩ (fun v M1 r1 ow1 hp => ?_) hT (fun _ _ _ _ _ h => h) k
    rcases hp with ⟨rfl, a, ⟨x, hx, hF⟩, rfl⟩ | ⟨rfl, rfl, hF⟩
    · injection hx with hx; injection hx with hx; subst hx
      obtain ⟨M2, e2, z, iv⟩ := sp.pr hF
      exact gm_ok (t_Mo_read G M1 r1 _ 2000 (no_of e2)) e2 ⟨_, rfl, z, fun _ => rfl, iv⟩
    · obtain ⟨b2, M2, e2, hc, iv⟩ := sp.pt hF
      exact gm_ok (t_Mo_read G M1 r1 _ 2000 (no_of e2)) e2 ⟨_, rfl, hc.2, fun h => absurd h (by decide), iv⟩
  · obtain ⟨v0, M1, r1, M2, e1, e2, iv⟩ := s_reason hI 2000
    refine w_reason (pA := fun v M r => v = some (.int v0) ∧ M = M1 ∧ r = r1) (pB := fun v w M2 r2 => ∃ a, v = some (.int a) ∧ w = some (.int a) ∧ Iv M2 r2) (I := Iv) B hX hbl hRm hC h1 h2 hl hw (fr := 0) (lo := 0) (fr2 := 0) (lo2 := 0) ⟨by decide, by decide⟩ (gm_ok (t_MR_reason G M r ow 2000 (no_of e1)) e1 ⟨rfl, rfl, rfl⟩) (fun v M1 r1 h => ⟨_, h.1⟩) ⟨by decide, by decide⟩ (fun v M9 r9 hp => ?_) (fun _ _ _ _ h => h) k
    obtain ⟨rfl, rfl, rfl⟩ := hp
    exact gm_ok (t_Mo_reason G _ _ _ 2000 (no_of e2)) e2 ⟨_, rfl, rfl, iv⟩
  · obtain ⟨v0, M1, r1, M2, e1, e2, iv⟩ := s_place hI 2000
    refine w_place (pA := fun v M r => v = some (.int v0) ∧ M = M1 ∧ r = r1) (pB := fun v w M2 r2 => ∃ a, v = some (.int a) ∧ w = some (.int a) ∧ Iv M2 r2) (I := Iv) B hX hbl hRm hC h1 h2 hl hw (fr := 0) (lo := 0) (fr2 := 0) (lo2 := 0) ⟨by decide, by decide⟩ (gm_ok (t_MR_place G M r ow 2000 (no_of e1)) e1 ⟨rfl, rfl, rfl⟩) (fun v M1 r1 h => ⟨_, h.1⟩) ⟨by decide, by decide⟩ (fun v M9 r9 hp => ?_) (fun _ _ _ _ h => h) k
    obtain ⟨rfl, rfl, rfl⟩ := hp
    exact gm_ok (t_Mo_place G _ _ _ 2000 (no_of e2)) e2 ⟨_, rfl, rfl, iv⟩
  · have sp := s_element hI 2000 h240 (xs (i + 1).toNatClampNeg) (xs (i + 2).toNatClampNeg)
    have hA := c_La_element G M r ow (xs (i + 1).toNatClampNeg) (xs (i + 2).toNatClampNeg) ⟨by decide, by decide⟩ (t_MR_element G M r ow 2000 (xs (i + 1).toNatClampNeg) (xs (i + 2).toNatClampNeg) sp.no) (fun v M1 r1 h => ⟨_, h.choose_spec.1⟩) (fun ek M1 r1 h => by obtain ⟨b, M2, -, hc, -⟩ := sp.pt h; rcases hc with hc | hc; exact Or.inl hc.1; exact Or.inr hc.1)
    refine w_element (pB := fun v ow1 w M2 r2 => ∃ a, w = some (.int a) ∧ M2 100 0 = v ∧ (v = 0 → ow1 = a.toInt64) ∧ Iv M2 r2) (I := Iv) B hX hbl hRm hC h1 h2 hl hw hA (fr := 4) (lo := 91) ⟨by decide, by decide⟩ (fun v M1 r1 ow1 hp => ?_) hT (fun _ _ _ _ _ h => h) k
    rcases hp with ⟨rfl, a, ⟨x, hx, hF⟩, rfl⟩ | ⟨rfl, rfl, hF⟩ | ⟨rfl, rfl, hF⟩
    · injection hx with hx; injection hx with hx; subst hx
      obtain ⟨M2, e2, z, iv⟩ := sp.pr hF
      exact gm_ok (t_Mo_element G M1 r1 _ 2000 (xs (i + 1).toNatClampNeg) (xs (i + 2).toNatClampNeg) (no_of e2)) e2 ⟨_, rfl, z, fun _ => rfl, iv⟩
    · obtain ⟨b2, M2, e2, hc, iv⟩ := sp.pt hF
      exact gm_ok (t_Mo_element G M1 r1 _ 2000 (xs (i + 1).toNatClampNeg) (xs (i + 2).toNatClampNeg) (no_of e2)) e2 ⟨_, rfl, (by rcases hc with ⟨hc, h⟩ | ⟨hc, h⟩; exact h; exact absurd hc (by decide)), fun h => absurd h (by decide), iv⟩
    · obtain ⟨b2, M2, e2, hc, iv⟩ := sp.pt hF
      exact gm_ok (t_Mo_element G M1 r1 _ 2000 (xs (i + 1).toNatClampNeg) (xs (i + 2).toNatClampNeg) (no_of e2)) e2 ⟨_, rfl, (by rcases hc with ⟨hc, h⟩ | ⟨hc, h⟩; exact absurd hc (by decide); exact h), fun h => absurd h (by decide), iv⟩
  · have sp := s_name hI 2000 (xs (i + 1).toNatClampNeg) (xs (i + 2).toNatClampNeg)
    have hA := c_La_name G M r ow (xs (i + 1).toNatClampNeg) (xs (i + 2).toNatClampNeg) ⟨by decide, by decide⟩ (t_MR_name G M r ow 2000 (xs (i + 1).toNatClampNeg) (xs (i + 2).toNatClampNeg) sp.no) (fun v M1 r1 h => ⟨_, h.choose_spec.1⟩) (fun ek M1 r1 h => by obtain ⟨b, M2, -, hc, -⟩ := sp.pt h; exact hc.1)
    refine w_name (pB := fun v ow1 w M2 r2 => ∃ a, w = some (.int a) ∧ M2 100 0 = v ∧ (v = 0 → ow1 = a.toInt64) ∧ Iv M2 r2) (I := Iv) B hX hbl hRm hC h1 h2 hl hw hA (fr := 1) (lo := 21) ⟨by decide, by decide⟩ (fun v M1 r1 ow1 hp => ?_) hT (fun _ _ _ _ _ h => h) k
    rcases hp with ⟨rfl, a, ⟨x, hx, hF⟩, rfl⟩ | ⟨rfl, rfl, hF⟩
    · injection hx with hx; injection hx with hx; subst hx
      obtain ⟨M2, e2, z, iv⟩ := sp.pr hF
      exact gm_ok (t_Mo_name G M1 r1 _ 2000 (xs (i + 1).toNatClampNeg) (xs (i + 2).toNatClampNeg) (no_of e2)) e2 ⟨_, rfl, z, fun _ => rfl, iv⟩
    · obtain ⟨b2, M2, e2, hc, iv⟩ := sp.pt hF
      exact gm_ok (t_Mo_name G M1 r1 _ 2000 (xs (i + 1).toNatClampNeg) (xs (i + 2).toNatClampNeg) (no_of e2)) e2 ⟨_, rfl, hc.2, fun h => absurd h (by decide), iv⟩
  · have sp := s_content hI 2000 h240 (xs (i + 1).toNatClampNeg) (xs (i + 2).toNatClampNeg)
    have hA := c_La_content G M r ow (xs (i + 1).toNatClampNeg) (xs (i + 2).toNatClampNeg) ⟨by decide, by decide⟩ (t_MR_content G M r ow 2000 (xs (i + 1).toNatClampNeg) (xs (i + 2).toNatClampNeg) sp.no) (fun v M1 r1 h => ⟨_, h.choose_spec.1⟩) (fun ek M1 r1 h => by obtain ⟨b, M2, -, hc, -⟩ := sp.pt h; exact hc.1)
    refine w_content (pB := fun v ow1 w M2 r2 => ∃ a, w = some (.int a) ∧ M2 100 0 = v ∧ (v = 0 → ow1 = a.toInt64) ∧ Iv M2 r2) (I := Iv) B hX hbl hRm hC h1 h2 hl hw hA (fr := 1) (lo := 26) ⟨by decide, by decide⟩ (fun v M1 r1 ow1 hp => ?_) hT (fun _ _ _ _ _ h => h) k
    rcases hp with ⟨rfl, a, ⟨x, hx, hF⟩, rfl⟩ | ⟨rfl, rfl, hF⟩
    · injection hx with hx; injection hx with hx; subst hx
      obtain ⟨M2, e2, z, iv⟩ := sp.pr hF
      exact gm_ok (t_Mo_content G M1 r1 _ 2000 (xs (i + 1).toNatClampNeg) (xs (i + 2).toNatClampNeg) (no_of e2)) e2 ⟨_, rfl, z, fun _ => rfl, iv⟩
    · obtain ⟨b2, M2, e2, hc, iv⟩ := sp.pt hF
      exact gm_ok (t_Mo_content G M1 r1 _ 2000 (xs (i + 1).toNatClampNeg) (xs (i + 2).toNatClampNeg) (no_of e2)) e2 ⟨_, rfl, hc.2, fun h => absurd h (by decide), iv⟩
  · have sp := s_space hI 2000 h240 (xs (i + 1).toNatClampNeg) (xs (i + 2).toNatClampNeg)
    have hA := c_La_space G M r ow (xs (i + 1).toNatClampNeg) (xs (i + 2).toNatClampNeg) ⟨by decide, by decide⟩ (t_MR_space G M r ow 2000 (xs (i + 1).toNatClampNeg) (xs (i + 2).toNatClampNeg) sp.no) (fun v M1 r1 h => ⟨_, h.choose_spec.1⟩) (fun ek M1 r1 h => by obtain ⟨b, M2, -, hc, -⟩ := sp.pt h; exact hc.1)
    refine w_space (pB := fun v ow1 w M2 r2 => ∃ a, w = some (.int a) ∧ M2 100 0 = v ∧ (v = 0 → ow1 = a.toInt64) ∧ Iv M2 r2) (I := Iv) B hX hbl hRm hC h1 h2 hl hw hA (fr := 4) (lo := 91) ⟨by decide, by decide⟩ (fun v M1 r1 ow1 hp => ?_) hT (fun _ _ _ _ _ h => h) k
    rcases hp with ⟨rfl, a, ⟨x, hx, hF⟩, rfl⟩ | ⟨rfl, rfl, hF⟩
    · injection hx with hx; injection hx with hx; subst hx
      obtain ⟨M2, e2, z, iv⟩ := sp.pr hF
      exact gm_ok (t_Mo_space G M1 r1 _ 2000 (xs (i + 1).toNatClampNeg) (xs (i + 2).toNatClampNeg) (no_of e2)) e2 ⟨_, rfl, z, fun _ => rfl, iv⟩
    · obtain ⟨b2, M2, e2, hc, iv⟩ := sp.pt hF
      exact gm_ok (t_Mo_space G M1 r1 _ 2000 (xs (i + 1).toNatClampNeg) (xs (i + 2).toNatClampNeg) (no_of e2)) e2 ⟨_, rfl, hc.2, fun h => absurd h (by decide), iv⟩
  · obtain ⟨v0, M1, r1, M2, e1, e2, iv⟩ := s_form hI 2000
    refine w_form (pA := fun v M r => v = some (.int v0) ∧ M = M1 ∧ r = r1) (pB := fun v w M2 r2 => ∃ a, v = some (.int a) ∧ w = some (.int a) ∧ Iv M2 r2) (I := Iv) B hX hbl hRm hC h1 h2 hl hw (fr := 0) (lo := 0) (fr2 := 0) (lo2 := 0) ⟨by decide, by decide⟩ (gm_ok (t_MR_form G M r ow 2000 (no_of e1)) e1 ⟨rfl, rfl, rfl⟩) (fun v M1 r1 h => ⟨_, h.1⟩) ⟨by decide, by decide⟩ (fun v M9 r9 hp => ?_) (fun _ _ _ _ h => h) k
    obtain ⟨rfl, rfl, rfl⟩ := hp
    exact gm_ok (t_Mo_form G _ _ _ 2000 (no_of e2)) e2 ⟨_, rfl, rfl, iv⟩
  · have sp := s_formAt hI 2000 (xs (i + 1).toNatClampNeg)
    have hA := c_La_formAt G M r ow (xs (i + 1).toNatClampNeg) ⟨by decide, by decide⟩ (t_MR_formAt G M r ow 2000 (xs (i + 1).toNatClampNeg) sp.no) (fun v M1 r1 h => ⟨_, h.choose_spec.1⟩) (fun ek M1 r1 h => by obtain ⟨b, M2, -, hc, -⟩ := sp.pt h; exact hc.1)
    refine w_formAt (pB := fun v ow1 w M2 r2 => ∃ a, w = some (.int a) ∧ M2 100 0 = v ∧ (v = 0 → ow1 = a.toInt64) ∧ Iv M2 r2) (I := Iv) B hX hbl hRm hC h1 h2 hl hw hA (fr := 0) (lo := 0) ⟨by decide, by decide⟩ (fun v M1 r1 ow1 hp => ?_) hT (fun _ _ _ _ _ h => h) k
    rcases hp with ⟨rfl, a, ⟨x, hx, hF⟩, rfl⟩ | ⟨rfl, rfl, hF⟩
    · injection hx with hx; injection hx with hx; subst hx
      obtain ⟨M2, e2, z, iv⟩ := sp.pr hF
      exact gm_ok (t_Mo_formAt G M1 r1 _ 2000 (xs (i + 1).toNatClampNeg) (no_of e2)) e2 ⟨_, rfl, z, fun _ => rfl, iv⟩
    · obtain ⟨b2, M2, e2, hc, iv⟩ := sp.pt hF
      exact gm_ok (t_Mo_formAt G M1 r1 _ 2000 (xs (i + 1).toNatClampNeg) (no_of e2)) e2 ⟨_, rfl, hc.2, fun h => absurd h (by decide), iv⟩
  · have sp := s_retype hI 2000 h1440
    have hA := c_La_retype G M r ow ⟨by decide, by decide⟩ (t_MR_retype G M r ow 2000 sp.no) (fun v M1 r1 h => ⟨_, h.choose_spec.1⟩) (fun ek M1 r1 h => by obtain ⟨b, M2, -, hc, -⟩ := sp.pt h; exact hc.1)
    refine w_retype (pB := fun v ow1 w M2 r2 => ∃ a, w = some (.int a) ∧ M2 100 0 = v ∧ (v = 0 → ow1 = a.toInt64) ∧ Iv M2 r2) (I := Iv) B hX hbl hRm hC h1 h2 hl hw hA (fr := 0) (lo := 0) ⟨by decide, by decide⟩ (fun v M1 r1 ow1 hp => ?_) hT (fun _ _ _ _ _ h => h) k
    rcases hp with ⟨rfl, a, ⟨x, hx, hF⟩, rfl⟩ | ⟨rfl, rfl, hF⟩
    · injection hx with hx; injection hx with hx; subst hx
      obtain ⟨M2, e2, z, iv⟩ := sp.pr hF
      exact gm_ok (t_Mo_retype G M1 r1 _ 2000 (no_of e2)) e2 ⟨_, rfl, z, fun _ => rfl, iv⟩
    · obtain ⟨b2, M2, e2, hc, iv⟩ := sp.pt hF
      exact gm_ok (t_Mo_retype G M1 r1 _ 2000 (no_of e2)) e2 ⟨_, rfl, hc.2, fun h => absurd h (by decide), iv⟩
  · have sp := s_keep hI 2000 h1440
    have hA := c_La_keep G M r ow ⟨by decide, by decide⟩ (t_MR_keep G M r ow 2000 sp.no) (fun v M1 r1 h => h.1) (fun ek M1 r1 h => by obtain ⟨M2, -, hc, -⟩ := sp.pt h; exact hc.1)
    refine w_keep (pB := fun v ow1 w M2 r2 => w = none ∧ M2 100 0 = v ∧ Iv M2 r2) (I := Iv) B hX hbl hRm hC h1 h2 hl hw hA (fr := 0) (lo := 0) ⟨by decide, by decide⟩ (fun v M1 r1 ow1 hp => ?_) hT (fun _ _ _ _ _ h => h) k
    rcases hp with ⟨rfl, ⟨-, hF⟩, rfl⟩ | ⟨rfl, rfl, hF⟩
    · obtain ⟨M2, e2, z, iv⟩ := sp.pr hF
      exact gm_okV (t_Mo_keep G M1 r1 _ 2000 (no_of e2)) e2 ⟨rfl, z, iv⟩
    · obtain ⟨M2, e2, hc, iv⟩ := sp.pt hF
      exact gm_okV (t_Mo_keep G M1 r1 _ 2000 (no_of e2)) e2 ⟨rfl, hc.2, iv⟩
  · obtain ⟨v0, M1, r1, M2, e1, e2, iv⟩ := s_same hI 2000 h1450
    refine w_same (pA := fun v M r => v = some (.int v0) ∧ M = M1 ∧ r = r1) (pB := fun v w M2 r2 => ∃ a, v = some (.int a) ∧ w = some (.int a) ∧ Iv M2 r2) (I := Iv) B hX hbl hRm hC h1 h2 hl hw (fr := 2) (lo := 43) (fr2 := 0) (lo2 := 0) ⟨by decide, by decide⟩ (gm_ok (t_MR_same G M r ow 2000 (no_of e1)) e1 ⟨rfl, rfl, rfl⟩) (fun v M1 r1 h => ⟨_, h.1⟩) ⟨by decide, by decide⟩ (fun v M9 r9 hp => ?_) (fun _ _ _ _ h => h) k
    obtain ⟨rfl, rfl, rfl⟩ := hp
    exact gm_ok (t_Mo_same G _ _ _ 2000 (no_of e2)) e2 ⟨_, rfl, rfl, iv⟩
