/-! numbers -/
theorem gi_in {x : Int32} {n N : Nat} (h0 : ¬ x < 0) (h1 : ¬ nI n ≤ x) (hn : n ≤ N) (hN : N < 2 ^ 31) : vp_in x N := by
  obtain ⟨j, hj, rfl⟩ := nI_of h0
  rw [nI_leI (by omega) hj] at h1
  exact vp_in_nI (by omega) hN
theorem gi_in0 {n N : Nat} (h : n < N) (hN : N < 2 ^ 31) : vp_in (nI n) N := vp_in_nI h hN
/-- a character's number -/
def cOK (x : Int32) : Prop := ∃ q : Nat, q < 65536 ∧ x = nI q
theorem cOK.nar {x : Int32} (h : cOK x) : narrow .char (.int x) = .int x := by
  obtain ⟨q, hq, rfl⟩ := h
  exact (pk_charN hq).1
theorem cOK.vp {x : Int32} (h : cOK x) : vp_nar .char x = x := by
  have := h.nar
  unfold vp_nar
  rw [this]
theorem cOK_0 : cOK 0 := ⟨0, by decide, rfl⟩
theorem nRow_lt : ∀ i, i < 6 → nRow i < 2 ^ 31 := by decide
