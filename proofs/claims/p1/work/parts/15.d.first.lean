/-! The first call -/
theorem gMet.mono {l : Launch} {s0 : State} {D : va_G} {aC : Nat → ClassId} {y : MethodName} {cw : Cond} {fr lo mt st : Nat} {av : List Value} {M : gMem} {r : gRef} {ow : Int64} {pr pr' : Option Value → gMem → gRef → Prop} {pt pt' : Nat → gMem → gRef → Prop} (h : gMet l s0 D aC y cw fr lo mt st av M r ow pr pt) (h1 : ∀ v M r, pr v M r → pr' v M r) (h2 : ∀ ek M r, pt ek M r → pt' ek M r) : gMet l s0 D aC y cw fr lo mt st av M r ow pr' pt' := by
  intro p e ha hc hk s m args below hf hap hP hT
  obtain ⟨k, o, a1, a2, a3, hQ, hL⟩ := h p e ha hc hk s m args below hf hap hP hT
  refine ⟨k, o, a1, a2, a3, ?_, hL⟩
  match o, hQ with
  | .returned v, hQ => obtain ⟨M1, r1, b1, b2⟩ := hQ; exact ⟨M1, r1, b1, h1 _ _ _ b2⟩
  | .threw x, hQ => obtain ⟨ek, M1, r1, b1, b2, b3⟩ := hQ; exact ⟨ek, M1, r1, b1, b2, h2 _ _ _ b3⟩
theorem cOK_i2c (x : Int32) : cOK (x.toUInt32 % 65536).toInt32 := by
  refine ⟨(x.toUInt32 % 65536).toNat, ?_, ?_⟩
  · rw [UInt32.toNat_mod]
    exact Nat.mod_lt _ (by decide)
  · generalize x.toUInt32 % 65536 = u
    apply Int32.toBitVec_inj.mp
    simp [nI]
theorem gM0_c (t j : Nat) (h1 : t ≠ 37) (h2 : t ≠ 105) : cOK (gM0 t j) := by
  unfold gM0
  rw [if_neg h1, if_neg h2]
  exact cOK_0
set_option maxHeartbeats 4000000 in
set_option maxRecDepth 100000 in
theorem w_first {p : Program} {l : Launch} {e : Env} {R : Room} {s0 : State} {m : MethodId} {args : Array Value} {below : List Frame} {meth : Method} {c : Code} {H : Heap} {locs : List Loc} {cells slots : Nat} {Q : State → Prop} {D : va_G} {aC : Nat → ClassId} {b L : Nat} {xs : Nat → Int32} {i : Int32} {ls : Array Slot} {ow : Int64} {a0 : Array Value} (G : gG l s0 D aC a0) (B : gB s0 D aC p e s0 m meth c R_La code 7 ret) (hX : va_X b L xs s0 s0.heap) (hbl : b < s0.heap.size) (hRm : 16 ≤ R.frames ∧ 604 ≤ R.locals) (hC : cells + 1 ≤ R.cells ∧ slots + 6 ≤ R.slots) (h1 : vp_in (i + 1) L) (h2 : vp_in (i + 2) L) (hl : lv_has ls 7 [(4, .int i), (3, .ref (s0.heap.size + 401)), (2, .ref (s0.heap.size + 383)), (1, .ref (s0.heap.size + 0)), (0, .ref b)]) (hw : gWd s0 D aC gM0 gR0 ow H locs) (k : ∀ M r ow H locs ls, lv_has ls 7 [(4, .int i), (3, .ref (s0.heap.size + 401)), (2, .ref (s0.heap.size + 383)), (1, .ref (s0.heap.size + 0)), (0, .ref b)] → gWd s0 D aC M r ow H locs → W p l e R s0 m args below meth c H locs (cells + 1) (slots + 6) Q (F0 m 669 ls [])) : ∀ q ∈ [108, 166, 177, 221, 234, 247, 315, 383, 451, 519, 532, 588, 632, 656], W p l e R s0 m args below meth c H locs cells slots Q (F0 m q ls []) := by
  have hT : ∀ M r ow, gMet l s0 D aC y_Mo_thrown (Cond.code y_Mo_thrown b_Mo_thrown 1 (some .int)) 0 0 0 0 [.ref (s0.heap.size + 383)] M r ow (fun v M1 r1 => v = some (.int (M 100 0)) ∧ M1 = M ∧ r1 = r) (fun _ _ _ => False) := fun M r ow => c_Mo_thrown G M r ow
  have k' : ∀ M r ow H locs ls, True → lv_has ls 7 [(4, .int i), (3, .ref (s0.heap.size + 401)), (2, .ref (s0.heap.size + 383)), (1, .ref (s0.heap.size + 0)), (0, .ref b)] → gWd s0 D aC M r ow H locs → W p l e R s0 m args below meth c H locs (cells + 1) (slots + 6) Q (F0 m 669 ls []) := fun M r ow H locs ls _ => k M r ow H locs ls
  intro q hq
  simp only [List.mem_cons, List.not_mem_nil, or_false] at hq
  rcases hq with rfl | rfl | rfl | rfl | rfl | rfl | rfl | rfl | rfl | rfl | rfl | rfl | rfl | rfl
  · have hA := c_La_type G gM0 gR0 ow ((xs (i + 1).toNatClampNeg).toUInt32 % 65536).toInt32 ⟨by decide, by decide⟩ (c_MR_type G gM0 gR0 ow 0 (by decide) rfl _ (cOK_i2c _)) (fun v M1 r1 h => ⟨_, h.2.2.1⟩) (fun ek M1 r1 h => by rcases h.1 with h | h; exact Or.inl h.1; exact Or.inr h.1)
    refine w_type (pB := fun v ow1 w M2 r2 => ∃ a, w = some (.int a) ∧ M2 100 0 = v ∧ (v = 0 → ow1 = a.toInt64) ∧ True) (I := fun _ _ => True) B hX hbl hRm hC h1 h2 hl hw hA (fr := 1) (lo := 40) ⟨by decide, by decide⟩ (fun v M1 r1 ow1 hp => ?_) hT (fun _ _ _ _ _ h => h) k'
    rcases hp with ⟨rfl, a, ⟨c1, -, c2, rfl, rfl⟩, rfl⟩ | ⟨rfl, rfl, c1, rfl, rfl⟩ | ⟨rfl, rfl, c1, rfl, rfl⟩
    · cases c2
      refine (c_Mo_type G _ _ _ 0 (by decide) rfl _).mono (fun w M2 r2 h => ?_) (fun _ _ _ h => h)
      rcases h.1 with ⟨d1, -⟩ | ⟨-, d1, -⟩ | ⟨-, -, d2, d3⟩
      · exact absurd d1 c1
      · exact absurd d1 (by decide)
      · exact ⟨_, d2, by rw [d3]; rfl, fun _ => rfl, trivial⟩
    · refine (c_Mo_type G _ _ _ 0 (by decide) rfl _).mono (fun w M2 r2 h => ?_) (fun _ _ _ h => h)
      rcases c1 with ⟨-, c1⟩ | ⟨c1, -⟩
      · rcases h.1 with ⟨-, d2, d3⟩ | ⟨d1, -⟩ | ⟨d1, -⟩
        · exact ⟨_, d2, by rw [d3]; rfl, fun h => absurd h (by decide), trivial⟩
        · exact absurd c1 d1
        · exact absurd c1 d1
      · exact absurd c1 (by decide)
    · rcases c1 with ⟨c1, -⟩ | ⟨-, -, c1⟩
      · exact absurd c1 (by decide)
      · exact absurd c1 (by decide)
  · refine w_wipe (pB := fun v w _ _ => v = none ∧ w = none ∧ True) (I := fun _ _ => True) B hX hbl hRm hC h1 h2 hl hw (fr := 0) (lo := 0) (fr2 := 0) (lo2 := 0) ⟨by decide, by decide⟩ (c_MR_wipe G gM0 gR0 ow) (fun v M1 r1 h => h.1) ⟨by decide, by decide⟩ (fun v M1 r1 hp => ?_) (fun _ _ _ _ h => h) k'
    obtain ⟨rfl, rfl, rfl⟩ := hp
    exact (c_Mo_wipe G _ _ _).mono (fun w M2 r2 h => ⟨rfl, h.1, trivial⟩) (fun _ _ _ h => h)
  · have hA := c_La_read G gM0 gR0 ow ⟨by decide, by decide⟩ (c_MR_read_0 G gM0 gR0 ow rfl (fun j => gM0_c _ j (by decide) (by decide)) (fun j => gM0_c _ j (by decide) (by decide))) (fun v M1 r1 h => h.elim) (fun ek M1 r1 h => h.1)
    refine w_read (pB := fun v ow1 w M2 r2 => ∃ a, w = some (.int a) ∧ M2 100 0 = v ∧ (v = 0 → ow1 = a.toInt64) ∧ True) (I := fun _ _ => True) B hX hbl hRm hC h1 h2 hl hw hA (fr := 3) (lo := 120) ⟨by decide, by decide⟩ (fun v M1 r1 ow1 hp => ?_) hT (fun _ _ _ _ _ h => h) k'
    rcases hp with ⟨rfl, a, h0, rfl⟩ | ⟨rfl, rfl, ⟨c1, rfl, rfl⟩⟩
    · exact h0.elim
    · exact (c_Mo_read_0 G _ _ _ rfl).mono (fun w M2 r2 h => ⟨_, h.1, by rw [h.2.1]; rfl, fun h => absurd h (by decide), trivial⟩) (fun _ _ _ h => h)
  · refine w_reason (pB := fun v w _ _ => ∃ a, v = some (.int a) ∧ w = some (.int a) ∧ True) (I := fun _ _ => True) B hX hbl hRm hC h1 h2 hl hw (fr := 0) (lo := 0) (fr2 := 0) (lo2 := 0) ⟨by decide, by decide⟩ (c_MR_reason G gM0 gR0 ow) (fun v M1 r1 h => ⟨_, h.1⟩) ⟨by decide, by decide⟩ (fun v M1 r1 hp => ?_) (fun _ _ _ _ h => h) k'
    obtain ⟨rfl, rfl, rfl⟩ := hp
    exact (c_Mo_reason G _ _ _).mono (fun w M2 r2 h => ⟨_, rfl, h.1, trivial⟩) (fun _ _ _ h => h)
  · refine w_place (pB := fun v w _ _ => ∃ a, v = some (.int a) ∧ w = some (.int a) ∧ True) (I := fun _ _ => True) B hX hbl hRm hC h1 h2 hl hw (fr := 0) (lo := 0) (fr2 := 0) (lo2 := 0) ⟨by decide, by decide⟩ (c_MR_place G gM0 gR0 ow) (fun v M1 r1 h => ⟨_, h.1⟩) ⟨by decide, by decide⟩ (fun v M1 r1 hp => ?_) (fun _ _ _ _ h => h) k'
    obtain ⟨rfl, rfl, rfl⟩ := hp
    exact (c_Mo_place G _ _ _).mono (fun w M2 r2 h => ⟨_, rfl, h.1, trivial⟩) (fun _ _ _ h => h)
  · have hA := c_La_element G gM0 gR0 ow (xs (i + 1).toNatClampNeg) (xs (i + 2).toNatClampNeg) ⟨by decide, by decide⟩ (c_MR_element_0 G gM0 gR0 ow rfl (xs (i + 1).toNatClampNeg) (xs (i + 2).toNatClampNeg)) (fun v M1 r1 h => h.elim) (fun ek M1 r1 h => Or.inl h.1)
    refine w_element (pB := fun v ow1 w M2 r2 => ∃ a, w = some (.int a) ∧ M2 100 0 = v ∧ (v = 0 → ow1 = a.toInt64) ∧ True) (I := fun _ _ => True) B hX hbl hRm hC h1 h2 hl hw hA (fr := 1) (lo := 40) ⟨by decide, by decide⟩ (fun v M1 r1 ow1 hp => ?_) hT (fun _ _ _ _ _ h => h) k'
    rcases hp with ⟨rfl, a, h0, rfl⟩ | ⟨rfl, rfl, ⟨c1, rfl, rfl⟩⟩ | ⟨rfl, rfl, c1, -⟩
    · exact h0.elim
    · exact (c_Mo_element_0 G _ _ _ rfl _ _).mono (fun w M2 r2 h => ⟨_, h.1, by rw [h.2.1]; rfl, fun h => absurd h (by decide), trivial⟩) (fun _ _ _ h => h)
    · exact absurd c1 (by decide)
  · have hA := c_La_name G gM0 gR0 ow (xs (i + 1).toNatClampNeg) (xs (i + 2).toNatClampNeg) ⟨by decide, by decide⟩ (c_MR_name_0 G gM0 gR0 ow rfl (xs (i + 1).toNatClampNeg) (xs (i + 2).toNatClampNeg)) (fun v M1 r1 h => h.elim) (fun ek M1 r1 h => h.1)
    refine w_name (pB := fun v ow1 w M2 r2 => ∃ a, w = some (.int a) ∧ M2 100 0 = v ∧ (v = 0 → ow1 = a.toInt64) ∧ True) (I := fun _ _ => True) B hX hbl hRm hC h1 h2 hl hw hA (fr := 1) (lo := 40) ⟨by decide, by decide⟩ (fun v M1 r1 ow1 hp => ?_) hT (fun _ _ _ _ _ h => h) k'
    rcases hp with ⟨rfl, a, h0, rfl⟩ | ⟨rfl, rfl, ⟨c1, rfl, rfl⟩⟩
    · exact h0.elim
    · exact (c_Mo_name_0 G _ _ _ rfl _ _).mono (fun w M2 r2 h => ⟨_, h.1, by rw [h.2.1]; rfl, fun h => absurd h (by decide), trivial⟩) (fun _ _ _ h => h)
  · have hA := c_La_content G gM0 gR0 ow (xs (i + 1).toNatClampNeg) (xs (i + 2).toNatClampNeg) ⟨by decide, by decide⟩ (c_MR_content_0 G gM0 gR0 ow rfl (xs (i + 1).toNatClampNeg) (xs (i + 2).toNatClampNeg)) (fun v M1 r1 h => h.elim) (fun ek M1 r1 h => h.1)
    refine w_content (pB := fun v ow1 w M2 r2 => ∃ a, w = some (.int a) ∧ M2 100 0 = v ∧ (v = 0 → ow1 = a.toInt64) ∧ True) (I := fun _ _ => True) B hX hbl hRm hC h1 h2 hl hw hA (fr := 1) (lo := 40) ⟨by decide, by decide⟩ (fun v M1 r1 ow1 hp => ?_) hT (fun _ _ _ _ _ h => h) k'
    rcases hp with ⟨rfl, a, h0, rfl⟩ | ⟨rfl, rfl, ⟨c1, rfl, rfl⟩⟩
    · exact h0.elim
    · exact (c_Mo_content_0 G _ _ _ rfl _ _).mono (fun w M2 r2 h => ⟨_, h.1, by rw [h.2.1]; rfl, fun h => absurd h (by decide), trivial⟩) (fun _ _ _ h => h)
  · have hA := c_La_space G gM0 gR0 ow (xs (i + 1).toNatClampNeg) (xs (i + 2).toNatClampNeg) ⟨by decide, by decide⟩ (c_MR_space_0 G gM0 gR0 ow rfl (xs (i + 1).toNatClampNeg) (xs (i + 2).toNatClampNeg)) (fun v M1 r1 h => h.elim) (fun ek M1 r1 h => h.1)
    refine w_space (pB := fun v ow1 w M2 r2 => ∃ a, w = some (.int a) ∧ M2 100 0 = v ∧ (v = 0 → ow1 = a.toInt64) ∧ True) (I := fun _ _ => True) B hX hbl hRm hC h1 h2 hl hw hA (fr := 1) (lo := 40) ⟨by decide, by decide⟩ (fun v M1 r1 ow1 hp => ?_) hT (fun _ _ _ _ _ h => h) k'
    rcases hp with ⟨rfl, a, h0, rfl⟩ | ⟨rfl, rfl, ⟨c1, rfl, rfl⟩⟩
    · exact h0.elim
    · exact (c_Mo_space_0 G _ _ _ rfl _ _).mono (fun w M2 r2 h => ⟨_, h.1, by rw [h.2.1]; rfl, fun h => absurd h (by decide), trivial⟩) (fun _ _ _ h => h)
  · refine w_form (pB := fun v w _ _ => ∃ a, v = some (.int a) ∧ w = some (.int a) ∧ True) (I := fun _ _ => True) B hX hbl hRm hC h1 h2 hl hw (fr := 0) (lo := 0) (fr2 := 0) (lo2 := 0) ⟨by decide, by decide⟩ (c_MR_form G gM0 gR0 ow) (fun v M1 r1 h => ⟨_, h.1⟩) ⟨by decide, by decide⟩ (fun v M1 r1 hp => ?_) (fun _ _ _ _ h => h) k'
    obtain ⟨rfl, rfl, rfl⟩ := hp
    exact (c_Mo_form_0 G _ _ _ rfl).mono (fun w M2 r2 h => ⟨_, rfl, h.1, trivial⟩) (fun _ _ _ h => h)
  · have hA := c_La_formAt G gM0 gR0 ow (xs (i + 1).toNatClampNeg) ⟨by decide, by decide⟩ (c_MR_formAt G gM0 gR0 ow 0 (by decide) rfl (fun j => gM0_c _ j (by decide) (by decide)) (xs (i + 1).toNatClampNeg)) (fun v M1 r1 h => ⟨_, h.2.2.1⟩) (fun ek M1 r1 h => h.1)
    refine w_formAt (pB := fun v ow1 w M2 r2 => ∃ a, w = some (.int a) ∧ M2 100 0 = v ∧ (v = 0 → ow1 = a.toInt64) ∧ True) (I := fun _ _ => True) B hX hbl hRm hC h1 h2 hl hw hA (fr := 0) (lo := 0) ⟨by decide, by decide⟩ (fun v M1 r1 ow1 hp => ?_) hT (fun _ _ _ _ _ h => h) k'
    rcases hp with ⟨rfl, a, h0, rfl⟩ | ⟨rfl, rfl, ⟨c0, c1, rfl, rfl⟩⟩
    · exact absurd (h0.2.1 : _ < (0 : Int32)) h0.1
    · exact (c_Mo_formAt_0 G _ _ _ rfl _).mono (fun w M2 r2 h => ⟨_, h.1, by rw [h.2.1]; rfl, fun h => absurd h (by decide), trivial⟩) (fun _ _ _ h => h)
  · have hA := c_La_retype G gM0 gR0 ow ⟨by decide, by decide⟩ (c_MR_retype_0 G gM0 gR0 ow rfl) (fun v M1 r1 h => h.elim) (fun ek M1 r1 h => h.1)
    refine w_retype (pB := fun v ow1 w M2 r2 => ∃ a, w = some (.int a) ∧ M2 100 0 = v ∧ (v = 0 → ow1 = a.toInt64) ∧ True) (I := fun _ _ => True) B hX hbl hRm hC h1 h2 hl hw hA (fr := 0) (lo := 0) ⟨by decide, by decide⟩ (fun v M1 r1 ow1 hp => ?_) hT (fun _ _ _ _ _ h => h) k'
    rcases hp with ⟨rfl, a, h0, rfl⟩ | ⟨rfl, rfl, ⟨c1, rfl, rfl⟩⟩
    · exact h0.elim
    · exact (c_Mo_retype_0 G _ _ _ rfl).mono (fun w M2 r2 h => ⟨_, h.1, by rw [h.2.1]; rfl, fun h => absurd h (by decide), trivial⟩) (fun _ _ _ h => h)
  · have hA := c_La_keep G gM0 gR0 ow ⟨by decide, by decide⟩ (c_MR_keep_0 G gM0 gR0 ow rfl) (fun v M1 r1 h => h.elim) (fun ek M1 r1 h => h.1)
    refine w_keep (pB := fun v _ w M2 _ => w = none ∧ M2 100 0 = v ∧ True) (I := fun _ _ => True) B hX hbl hRm hC h1 h2 hl hw hA (fr := 0) (lo := 0) ⟨by decide, by decide⟩ (fun v M1 r1 ow1 hp => ?_) hT (fun _ _ _ _ _ h => h) k'
    rcases hp with ⟨rfl, h0, rfl⟩ | ⟨rfl, rfl, ⟨c1, rfl, rfl⟩⟩
    · exact h0.elim
    · exact (c_Mo_keep_0 G _ _ _ rfl).mono (fun w M2 r2 h => ⟨h.1, by rw [h.2.1]; rfl, trivial⟩) (fun _ _ _ h => h)
  · refine w_same (pB := fun v w _ _ => ∃ a, v = some (.int a) ∧ w = some (.int a) ∧ True) (I := fun _ _ => True) B hX hbl hRm hC h1 h2 hl hw (fr := 0) (lo := 0) (fr2 := 0) (lo2 := 0) ⟨by decide, by decide⟩ (c_MR_same_0 G gM0 gR0 ow rfl) (fun v M1 r1 h => ⟨_, h.1⟩) ⟨by decide, by decide⟩ (fun v M1 r1 hp => ?_) (fun _ _ _ _ h => h) k'
    obtain ⟨rfl, rfl, rfl⟩ := hp
    exact (c_Mo_same_0 G _ _ _ rfl).mono (fun w M2 r2 h => ⟨_, rfl, h.1, trivial⟩) (fun _ _ _ h => h)
