/-! setting a number or a reference changes one cell -/
theorem gc_t0 {b : Nat} {aC : Nat → ClassId} {M : gMem} {r : gRef} {ow : Int64} {x : Int32} {j : Nat} {K2 i2 : Nat} (h : (K2, i2) ≠ (1, j)) (hv : gv K2 i2 = true) : gc b aC (mS M 0 j x) r ow K2 i2 = gc b aC M r ow K2 i2 := by
  have h1 : K2 = 1 → i2 = j → False := fun a b => h (by rw [a, b])
  clear h
  unfold gc
  split <;> simp only [gv, decide_eq_true_eq] at hv <;> first | rfl | (rw [mS_fn _ _ _ (by omega)]; done) | (exact (h1 rfl hv).elim) | (simp [mS, rS]; done) | (have h2 : ¬ i2 = j := h1 rfl; simp [mS, rS, h2]; done) | (have h2 : ¬ i2 = j := h1 rfl; rw [mS_fn _ _ _ (by omega)]; done) | (have h3 : i2 ≠ 0 := fun q => hv.2 (by rw [q]; rfl); rw [mS_fn _ _ _ (by omega)]; done) | (exfalso; omega)
theorem gc_t2 {b : Nat} {aC : Nat → ClassId} {M : gMem} {r : gRef} {ow : Int64} {x : Int32} {K2 i2 : Nat} (h : (K2, i2) ≠ (3, 0)) (hv : gv K2 i2 = true) : gc b aC (mS M 2 0 x) r ow K2 i2 = gc b aC M r ow K2 i2 := by
  have h1 : K2 = 3 → i2 = 0 → False := fun a b => h (by rw [a, b])
  clear h
  unfold gc
  split <;> simp only [gv, decide_eq_true_eq] at hv <;> first | rfl | (rw [mS_fn _ _ _ (by omega)]; done) | (exact (h1 rfl hv).elim) | (simp [mS, rS]; done) | (have h2 : ¬ i2 = 0 := h1 rfl; simp [mS, rS, h2]; done) | (have h2 : ¬ i2 = 0 := h1 rfl; rw [mS_fn _ _ _ (by omega)]; done) | (have h3 : i2 ≠ 0 := fun q => hv.2 (by rw [q]; rfl); rw [mS_fn _ _ _ (by omega)]; done) | (exfalso; omega)
theorem gc_t20 {b : Nat} {aC : Nat → ClassId} {M : gMem} {r : gRef} {ow : Int64} {x : Int32} {j : Nat} {K2 i2 : Nat} (h : (K2, i2) ≠ (7, j)) (hv : gv K2 i2 = true) : gc b aC (mS M 20 j x) r ow K2 i2 = gc b aC M r ow K2 i2 := by
  have h1 : K2 = 7 → i2 = j → False := fun a b => h (by rw [a, b])
  clear h
  unfold gc
  split <;> simp only [gv, decide_eq_true_eq] at hv <;> first | rfl | (rw [mS_fn _ _ _ (by omega)]; done) | (exact (h1 rfl hv).elim) | (simp [mS, rS]; done) | (have h2 : ¬ i2 = j := h1 rfl; simp [mS, rS, h2]; done) | (have h2 : ¬ i2 = j := h1 rfl; rw [mS_fn _ _ _ (by omega)]; done) | (have h3 : i2 ≠ 0 := fun q => hv.2 (by rw [q]; rfl); rw [mS_fn _ _ _ (by omega)]; done) | (exfalso; omega)
theorem gc_t21 {b : Nat} {aC : Nat → ClassId} {M : gMem} {r : gRef} {ow : Int64} {x : Int32} {j : Nat} {K2 i2 : Nat} (h : (K2, i2) ≠ (7, j)) (hv : gv K2 i2 = true) : gc b aC (mS M 21 j x) r ow K2 i2 = gc b aC M r ow K2 i2 := by
  have h1 : K2 = 7 → i2 = j → False := fun a b => h (by rw [a, b])
  clear h
  unfold gc
  split <;> simp only [gv, decide_eq_true_eq] at hv <;> first | rfl | (rw [mS_fn _ _ _ (by omega)]; done) | (exact (h1 rfl hv).elim) | (simp [mS, rS]; done) | (have h2 : ¬ i2 = j := h1 rfl; simp [mS, rS, h2]; done) | (have h2 : ¬ i2 = j := h1 rfl; rw [mS_fn _ _ _ (by omega)]; done) | (have h3 : i2 ≠ 0 := fun q => hv.2 (by rw [q]; rfl); rw [mS_fn _ _ _ (by omega)]; done) | (exfalso; omega)
theorem gc_t22 {b : Nat} {aC : Nat → ClassId} {M : gMem} {r : gRef} {ow : Int64} {x : Int32} {j : Nat} {K2 i2 : Nat} (h : (K2, i2) ≠ (7, j)) (hv : gv K2 i2 = true) : gc b aC (mS M 22 j x) r ow K2 i2 = gc b aC M r ow K2 i2 := by
  have h1 : K2 = 7 → i2 = j → False := fun a b => h (by rw [a, b])
  clear h
  unfold gc
  split <;> simp only [gv, decide_eq_true_eq] at hv <;> first | rfl | (rw [mS_fn _ _ _ (by omega)]; done) | (exact (h1 rfl hv).elim) | (simp [mS, rS]; done) | (have h2 : ¬ i2 = j := h1 rfl; simp [mS, rS, h2]; done) | (have h2 : ¬ i2 = j := h1 rfl; rw [mS_fn _ _ _ (by omega)]; done) | (have h3 : i2 ≠ 0 := fun q => hv.2 (by rw [q]; rfl); rw [mS_fn _ _ _ (by omega)]; done) | (exfalso; omega)
theorem gc_t23 {b : Nat} {aC : Nat → ClassId} {M : gMem} {r : gRef} {ow : Int64} {x : Int32} {j : Nat} {K2 i2 : Nat} (h : (K2, i2) ≠ (6, j)) (hv : gv K2 i2 = true) : gc b aC (mS M 23 j x) r ow K2 i2 = gc b aC M r ow K2 i2 := by
  have h1 : K2 = 6 → i2 = j → False := fun a b => h (by rw [a, b])
  clear h
  unfold gc
  split <;> simp only [gv, decide_eq_true_eq] at hv <;> first | rfl | (rw [mS_fn _ _ _ (by omega)]; done) | (exact (h1 rfl hv).elim) | (simp [mS, rS]; done) | (have h2 : ¬ i2 = j := h1 rfl; simp [mS, rS, h2]; done) | (have h2 : ¬ i2 = j := h1 rfl; rw [mS_fn _ _ _ (by omega)]; done) | (have h3 : i2 ≠ 0 := fun q => hv.2 (by rw [q]; rfl); rw [mS_fn _ _ _ (by omega)]; done) | (exfalso; omega)
theorem gc_t24 {b : Nat} {aC : Nat → ClassId} {M : gMem} {r : gRef} {ow : Int64} {x : Int32} {j : Nat} {K2 i2 : Nat} (h : (K2, i2) ≠ (6, j)) (hv : gv K2 i2 = true) : gc b aC (mS M 24 j x) r ow K2 i2 = gc b aC M r ow K2 i2 := by
  have h1 : K2 = 6 → i2 = j → False := fun a b => h (by rw [a, b])
  clear h
  unfold gc
  split <;> simp only [gv, decide_eq_true_eq] at hv <;> first | rfl | (rw [mS_fn _ _ _ (by omega)]; done) | (exact (h1 rfl hv).elim) | (simp [mS, rS]; done) | (have h2 : ¬ i2 = j := h1 rfl; simp [mS, rS, h2]; done) | (have h2 : ¬ i2 = j := h1 rfl; rw [mS_fn _ _ _ (by omega)]; done) | (have h3 : i2 ≠ 0 := fun q => hv.2 (by rw [q]; rfl); rw [mS_fn _ _ _ (by omega)]; done) | (exfalso; omega)
theorem gc_t25 {b : Nat} {aC : Nat → ClassId} {M : gMem} {r : gRef} {ow : Int64} {x : Int32} {j : Nat} {K2 i2 : Nat} (h : (K2, i2) ≠ (6, j)) (hv : gv K2 i2 = true) : gc b aC (mS M 25 j x) r ow K2 i2 = gc b aC M r ow K2 i2 := by
  have h1 : K2 = 6 → i2 = j → False := fun a b => h (by rw [a, b])
  clear h
  unfold gc
  split <;> simp only [gv, decide_eq_true_eq] at hv <;> first | rfl | (rw [mS_fn _ _ _ (by omega)]; done) | (exact (h1 rfl hv).elim) | (simp [mS, rS]; done) | (have h2 : ¬ i2 = j := h1 rfl; simp [mS, rS, h2]; done) | (have h2 : ¬ i2 = j := h1 rfl; rw [mS_fn _ _ _ (by omega)]; done) | (have h3 : i2 ≠ 0 := fun q => hv.2 (by rw [q]; rfl); rw [mS_fn _ _ _ (by omega)]; done) | (exfalso; omega)
theorem gc_t26 {b : Nat} {aC : Nat → ClassId} {M : gMem} {r : gRef} {ow : Int64} {x : Int32} {j : Nat} {K2 i2 : Nat} (h : (K2, i2) ≠ (8, j)) (hv : gv K2 i2 = true) : gc b aC (mS M 26 j x) r ow K2 i2 = gc b aC M r ow K2 i2 := by
  have h1 : K2 = 8 → i2 = j → False := fun a b => h (by rw [a, b])
  clear h
  unfold gc
  split <;> simp only [gv, decide_eq_true_eq] at hv <;> first | rfl | (rw [mS_fn _ _ _ (by omega)]; done) | (exact (h1 rfl hv).elim) | (simp [mS, rS]; done) | (have h2 : ¬ i2 = j := h1 rfl; simp [mS, rS, h2]; done) | (have h2 : ¬ i2 = j := h1 rfl; rw [mS_fn _ _ _ (by omega)]; done) | (have h3 : i2 ≠ 0 := fun q => hv.2 (by rw [q]; rfl); rw [mS_fn _ _ _ (by omega)]; done) | (exfalso; omega)
theorem gc_t27 {b : Nat} {aC : Nat → ClassId} {M : gMem} {r : gRef} {ow : Int64} {x : Int32} {j : Nat} {K2 i2 : Nat} (h : (K2, i2) ≠ (8, j)) (hv : gv K2 i2 = true) : gc b aC (mS M 27 j x) r ow K2 i2 = gc b aC M r ow K2 i2 := by
  have h1 : K2 = 8 → i2 = j → False := fun a b => h (by rw [a, b])
  clear h
  unfold gc
  split <;> simp only [gv, decide_eq_true_eq] at hv <;> first | rfl | (rw [mS_fn _ _ _ (by omega)]; done) | (exact (h1 rfl hv).elim) | (simp [mS, rS]; done) | (have h2 : ¬ i2 = j := h1 rfl; simp [mS, rS, h2]; done) | (have h2 : ¬ i2 = j := h1 rfl; rw [mS_fn _ _ _ (by omega)]; done) | (have h3 : i2 ≠ 0 := fun q => hv.2 (by rw [q]; rfl); rw [mS_fn _ _ _ (by omega)]; done) | (exfalso; omega)
theorem gc_t28 {b : Nat} {aC : Nat → ClassId} {M : gMem} {r : gRef} {ow : Int64} {x : Int32} {j : Nat} {K2 i2 : Nat} (h : (K2, i2) ≠ (8, j)) (hv : gv K2 i2 = true) : gc b aC (mS M 28 j x) r ow K2 i2 = gc b aC M r ow K2 i2 := by
  have h1 : K2 = 8 → i2 = j → False := fun a b => h (by rw [a, b])
  clear h
  unfold gc
  split <;> simp only [gv, decide_eq_true_eq] at hv <;> first | rfl | (rw [mS_fn _ _ _ (by omega)]; done) | (exact (h1 rfl hv).elim) | (simp [mS, rS]; done) | (have h2 : ¬ i2 = j := h1 rfl; simp [mS, rS, h2]; done) | (have h2 : ¬ i2 = j := h1 rfl; rw [mS_fn _ _ _ (by omega)]; done) | (have h3 : i2 ≠ 0 := fun q => hv.2 (by rw [q]; rfl); rw [mS_fn _ _ _ (by omega)]; done) | (exfalso; omega)
theorem gc_t29 {b : Nat} {aC : Nat → ClassId} {M : gMem} {r : gRef} {ow : Int64} {x : Int32} {j : Nat} {K2 i2 : Nat} (h : (K2, i2) ≠ (8, j)) (hv : gv K2 i2 = true) : gc b aC (mS M 29 j x) r ow K2 i2 = gc b aC M r ow K2 i2 := by
  have h1 : K2 = 8 → i2 = j → False := fun a b => h (by rw [a, b])
  clear h
  unfold gc
  split <;> simp only [gv, decide_eq_true_eq] at hv <;> first | rfl | (rw [mS_fn _ _ _ (by omega)]; done) | (exact (h1 rfl hv).elim) | (simp [mS, rS]; done) | (have h2 : ¬ i2 = j := h1 rfl; simp [mS, rS, h2]; done) | (have h2 : ¬ i2 = j := h1 rfl; rw [mS_fn _ _ _ (by omega)]; done) | (have h3 : i2 ≠ 0 := fun q => hv.2 (by rw [q]; rfl); rw [mS_fn _ _ _ (by omega)]; done) | (exfalso; omega)
theorem gc_t30 {b : Nat} {aC : Nat → ClassId} {M : gMem} {r : gRef} {ow : Int64} {x : Int32} {j : Nat} {K2 i2 : Nat} (h : (K2, i2) ≠ (8, j)) (hv : gv K2 i2 = true) : gc b aC (mS M 30 j x) r ow K2 i2 = gc b aC M r ow K2 i2 := by
  have h1 : K2 = 8 → i2 = j → False := fun a b => h (by rw [a, b])
  clear h
  unfold gc
  split <;> simp only [gv, decide_eq_true_eq] at hv <;> first | rfl | (rw [mS_fn _ _ _ (by omega)]; done) | (exact (h1 rfl hv).elim) | (simp [mS, rS]; done) | (have h2 : ¬ i2 = j := h1 rfl; simp [mS, rS, h2]; done) | (have h2 : ¬ i2 = j := h1 rfl; rw [mS_fn _ _ _ (by omega)]; done) | (have h3 : i2 ≠ 0 := fun q => hv.2 (by rw [q]; rfl); rw [mS_fn _ _ _ (by omega)]; done) | (exfalso; omega)
theorem gc_t31 {b : Nat} {aC : Nat → ClassId} {M : gMem} {r : gRef} {ow : Int64} {x : Int32} {j : Nat} {K2 i2 : Nat} (h : (K2, i2) ≠ (8, j)) (hv : gv K2 i2 = true) : gc b aC (mS M 31 j x) r ow K2 i2 = gc b aC M r ow K2 i2 := by
  have h1 : K2 = 8 → i2 = j → False := fun a b => h (by rw [a, b])
  clear h
  unfold gc
  split <;> simp only [gv, decide_eq_true_eq] at hv <;> first | rfl | (rw [mS_fn _ _ _ (by omega)]; done) | (exact (h1 rfl hv).elim) | (simp [mS, rS]; done) | (have h2 : ¬ i2 = j := h1 rfl; simp [mS, rS, h2]; done) | (have h2 : ¬ i2 = j := h1 rfl; rw [mS_fn _ _ _ (by omega)]; done) | (have h3 : i2 ≠ 0 := fun q => hv.2 (by rw [q]; rfl); rw [mS_fn _ _ _ (by omega)]; done) | (exfalso; omega)
theorem gc_t34 {b : Nat} {aC : Nat → ClassId} {M : gMem} {r : gRef} {ow : Int64} {x : Int32} {K2 i2 : Nat} (h : (K2, i2) ≠ (10, 0)) (hv : gv K2 i2 = true) : gc b aC (mS M 34 0 x) r ow K2 i2 = gc b aC M r ow K2 i2 := by
  have h1 : K2 = 10 → i2 = 0 → False := fun a b => h (by rw [a, b])
  clear h
  unfold gc
  split <;> simp only [gv, decide_eq_true_eq] at hv <;> first | rfl | (rw [mS_fn _ _ _ (by omega)]; done) | (exact (h1 rfl hv).elim) | (simp [mS, rS]; done) | (have h2 : ¬ i2 = 0 := h1 rfl; simp [mS, rS, h2]; done) | (have h2 : ¬ i2 = 0 := h1 rfl; rw [mS_fn _ _ _ (by omega)]; done) | (have h3 : i2 ≠ 0 := fun q => hv.2 (by rw [q]; rfl); rw [mS_fn _ _ _ (by omega)]; done) | (exfalso; omega)
theorem gc_t35 {b : Nat} {aC : Nat → ClassId} {M : gMem} {r : gRef} {ow : Int64} {x : Int32} {K2 i2 : Nat} (h : (K2, i2) ≠ (12, 0)) (hv : gv K2 i2 = true) : gc b aC (mS M 35 0 x) r ow K2 i2 = gc b aC M r ow K2 i2 := by
  have h1 : K2 = 12 → i2 = 0 → False := fun a b => h (by rw [a, b])
  clear h
  unfold gc
  split <;> simp only [gv, decide_eq_true_eq] at hv <;> first | rfl | (rw [mS_fn _ _ _ (by omega)]; done) | (exact (h1 rfl hv).elim) | (simp [mS, rS]; done) | (have h2 : ¬ i2 = 0 := h1 rfl; simp [mS, rS, h2]; done) | (have h2 : ¬ i2 = 0 := h1 rfl; rw [mS_fn _ _ _ (by omega)]; done) | (have h3 : i2 ≠ 0 := fun q => hv.2 (by rw [q]; rfl); rw [mS_fn _ _ _ (by omega)]; done) | (exfalso; omega)
theorem gc_t36 {b : Nat} {aC : Nat → ClassId} {M : gMem} {r : gRef} {ow : Int64} {x : Int32} {K2 i2 : Nat} (h : (K2, i2) ≠ (12, 0)) (hv : gv K2 i2 = true) : gc b aC (mS M 36 0 x) r ow K2 i2 = gc b aC M r ow K2 i2 := by
  have h1 : K2 = 12 → i2 = 0 → False := fun a b => h (by rw [a, b])
  clear h
  unfold gc
  split <;> simp only [gv, decide_eq_true_eq] at hv <;> first | rfl | (rw [mS_fn _ _ _ (by omega)]; done) | (exact (h1 rfl hv).elim) | (simp [mS, rS]; done) | (have h2 : ¬ i2 = 0 := h1 rfl; simp [mS, rS, h2]; done) | (have h2 : ¬ i2 = 0 := h1 rfl; rw [mS_fn _ _ _ (by omega)]; done) | (have h3 : i2 ≠ 0 := fun q => hv.2 (by rw [q]; rfl); rw [mS_fn _ _ _ (by omega)]; done) | (exfalso; omega)
theorem gc_t37 {b : Nat} {aC : Nat → ClassId} {M : gMem} {r : gRef} {ow : Int64} {x : Int32} {K2 i2 : Nat} (h : (K2, i2) ≠ (12, 0)) (hv : gv K2 i2 = true) : gc b aC (mS M 37 0 x) r ow K2 i2 = gc b aC M r ow K2 i2 := by
  have h1 : K2 = 12 → i2 = 0 → False := fun a b => h (by rw [a, b])
  clear h
  unfold gc
  split <;> simp only [gv, decide_eq_true_eq] at hv <;> first | rfl | (rw [mS_fn _ _ _ (by omega)]; done) | (exact (h1 rfl hv).elim) | (simp [mS, rS]; done) | (have h2 : ¬ i2 = 0 := h1 rfl; simp [mS, rS, h2]; done) | (have h2 : ¬ i2 = 0 := h1 rfl; rw [mS_fn _ _ _ (by omega)]; done) | (have h3 : i2 ≠ 0 := fun q => hv.2 (by rw [q]; rfl); rw [mS_fn _ _ _ (by omega)]; done) | (exfalso; omega)
theorem gc_t100 {b : Nat} {aC : Nat → ClassId} {M : gMem} {r : gRef} {ow : Int64} {x : Int32} {K2 i2 : Nat} (h : (K2, i2) ≠ (14, 0)) (hv : gv K2 i2 = true) : gc b aC (mS M 100 0 x) r ow K2 i2 = gc b aC M r ow K2 i2 := by
  have h1 : K2 = 14 → i2 = 0 → False := fun a b => h (by rw [a, b])
  clear h
  unfold gc
  split <;> simp only [gv, decide_eq_true_eq] at hv <;> first | rfl | (rw [mS_fn _ _ _ (by omega)]; done) | (exact (h1 rfl hv).elim) | (simp [mS, rS]; done) | (have h2 : ¬ i2 = 0 := h1 rfl; simp [mS, rS, h2]; done) | (have h2 : ¬ i2 = 0 := h1 rfl; rw [mS_fn _ _ _ (by omega)]; done) | (have h3 : i2 ≠ 0 := fun q => hv.2 (by rw [q]; rfl); rw [mS_fn _ _ _ (by omega)]; done) | (exfalso; omega)
theorem gc_t101 {b : Nat} {aC : Nat → ClassId} {M : gMem} {r : gRef} {ow : Int64} {x : Int32} {K2 i2 : Nat} (h : (K2, i2) ≠ (14, 0)) (hv : gv K2 i2 = true) : gc b aC (mS M 101 0 x) r ow K2 i2 = gc b aC M r ow K2 i2 := by
  have h1 : K2 = 14 → i2 = 0 → False := fun a b => h (by rw [a, b])
  clear h
  unfold gc
  split <;> simp only [gv, decide_eq_true_eq] at hv <;> first | rfl | (rw [mS_fn _ _ _ (by omega)]; done) | (exact (h1 rfl hv).elim) | (simp [mS, rS]; done) | (have h2 : ¬ i2 = 0 := h1 rfl; simp [mS, rS, h2]; done) | (have h2 : ¬ i2 = 0 := h1 rfl; rw [mS_fn _ _ _ (by omega)]; done) | (have h3 : i2 ≠ 1 := fun q => hv.2 (by rw [q]; rfl); rw [mS_fn _ _ _ (by omega)]; done) | (exfalso; omega)
theorem gc_t103 {b : Nat} {aC : Nat → ClassId} {M : gMem} {r : gRef} {ow : Int64} {x : Int32} {K2 i2 : Nat} (h : (K2, i2) ≠ (14, 0)) (hv : gv K2 i2 = true) : gc b aC (mS M 103 0 x) r ow K2 i2 = gc b aC M r ow K2 i2 := by
  have h1 : K2 = 14 → i2 = 0 → False := fun a b => h (by rw [a, b])
  clear h
  unfold gc
  split <;> simp only [gv, decide_eq_true_eq] at hv <;> first | rfl | (rw [mS_fn _ _ _ (by omega)]; done) | (exact (h1 rfl hv).elim) | (simp [mS, rS]; done) | (have h2 : ¬ i2 = 0 := h1 rfl; simp [mS, rS, h2]; done) | (have h2 : ¬ i2 = 0 := h1 rfl; rw [mS_fn _ _ _ (by omega)]; done) | (have h3 : i2 ≠ 3 := fun q => hv.2 (by rw [q]; rfl); rw [mS_fn _ _ _ (by omega)]; done) | (exfalso; omega)
theorem gc_t104 {b : Nat} {aC : Nat → ClassId} {M : gMem} {r : gRef} {ow : Int64} {x : Int32} {K2 i2 : Nat} (h : (K2, i2) ≠ (14, 0)) (hv : gv K2 i2 = true) : gc b aC (mS M 104 0 x) r ow K2 i2 = gc b aC M r ow K2 i2 := by
  have h1 : K2 = 14 → i2 = 0 → False := fun a b => h (by rw [a, b])
  clear h
  unfold gc
  split <;> simp only [gv, decide_eq_true_eq] at hv <;> first | rfl | (rw [mS_fn _ _ _ (by omega)]; done) | (exact (h1 rfl hv).elim) | (simp [mS, rS]; done) | (have h2 : ¬ i2 = 0 := h1 rfl; simp [mS, rS, h2]; done) | (have h2 : ¬ i2 = 0 := h1 rfl; rw [mS_fn _ _ _ (by omega)]; done) | (have h3 : i2 ≠ 4 := fun q => hv.2 (by rw [q]; rfl); rw [mS_fn _ _ _ (by omega)]; done) | (exfalso; omega)
theorem gc_t105 {b : Nat} {aC : Nat → ClassId} {M : gMem} {r : gRef} {ow : Int64} {x : Int32} {K2 i2 : Nat} (h : (K2, i2) ≠ (14, 0)) (hv : gv K2 i2 = true) : gc b aC (mS M 105 0 x) r ow K2 i2 = gc b aC M r ow K2 i2 := by
  have h1 : K2 = 14 → i2 = 0 → False := fun a b => h (by rw [a, b])
  clear h
  unfold gc
  split <;> simp only [gv, decide_eq_true_eq] at hv <;> first | rfl | (rw [mS_fn _ _ _ (by omega)]; done) | (exact (h1 rfl hv).elim) | (simp [mS, rS]; done) | (have h2 : ¬ i2 = 0 := h1 rfl; simp [mS, rS, h2]; done) | (have h2 : ¬ i2 = 0 := h1 rfl; rw [mS_fn _ _ _ (by omega)]; done) | (have h3 : i2 ≠ 5 := fun q => hv.2 (by rw [q]; rfl); rw [mS_fn _ _ _ (by omega)]; done) | (exfalso; omega)
theorem gc_t106 {b : Nat} {aC : Nat → ClassId} {M : gMem} {r : gRef} {ow : Int64} {x : Int32} {K2 i2 : Nat} (h : (K2, i2) ≠ (14, 0)) (hv : gv K2 i2 = true) : gc b aC (mS M 106 0 x) r ow K2 i2 = gc b aC M r ow K2 i2 := by
  have h1 : K2 = 14 → i2 = 0 → False := fun a b => h (by rw [a, b])
  clear h
  unfold gc
  split <;> simp only [gv, decide_eq_true_eq] at hv <;> first | rfl | (rw [mS_fn _ _ _ (by omega)]; done) | (exact (h1 rfl hv).elim) | (simp [mS, rS]; done) | (have h2 : ¬ i2 = 0 := h1 rfl; simp [mS, rS, h2]; done) | (have h2 : ¬ i2 = 0 := h1 rfl; rw [mS_fn _ _ _ (by omega)]; done) | (have h3 : i2 ≠ 6 := fun q => hv.2 (by rw [q]; rfl); rw [mS_fn _ _ _ (by omega)]; done) | (exfalso; omega)
theorem gc_t107 {b : Nat} {aC : Nat → ClassId} {M : gMem} {r : gRef} {ow : Int64} {x : Int32} {K2 i2 : Nat} (h : (K2, i2) ≠ (14, 0)) (hv : gv K2 i2 = true) : gc b aC (mS M 107 0 x) r ow K2 i2 = gc b aC M r ow K2 i2 := by
  have h1 : K2 = 14 → i2 = 0 → False := fun a b => h (by rw [a, b])
  clear h
  unfold gc
  split <;> simp only [gv, decide_eq_true_eq] at hv <;> first | rfl | (rw [mS_fn _ _ _ (by omega)]; done) | (exact (h1 rfl hv).elim) | (simp [mS, rS]; done) | (have h2 : ¬ i2 = 0 := h1 rfl; simp [mS, rS, h2]; done) | (have h2 : ¬ i2 = 0 := h1 rfl; rw [mS_fn _ _ _ (by omega)]; done) | (have h3 : i2 ≠ 7 := fun q => hv.2 (by rw [q]; rfl); rw [mS_fn _ _ _ (by omega)]; done) | (exfalso; omega)
theorem gc_t109 {b : Nat} {aC : Nat → ClassId} {M : gMem} {r : gRef} {ow : Int64} {x : Int32} {K2 i2 : Nat} (h : (K2, i2) ≠ (14, 0)) (hv : gv K2 i2 = true) : gc b aC (mS M 109 0 x) r ow K2 i2 = gc b aC M r ow K2 i2 := by
  have h1 : K2 = 14 → i2 = 0 → False := fun a b => h (by rw [a, b])
  clear h
  unfold gc
  split <;> simp only [gv, decide_eq_true_eq] at hv <;> first | rfl | (rw [mS_fn _ _ _ (by omega)]; done) | (exact (h1 rfl hv).elim) | (simp [mS, rS]; done) | (have h2 : ¬ i2 = 0 := h1 rfl; simp [mS, rS, h2]; done) | (have h2 : ¬ i2 = 0 := h1 rfl; rw [mS_fn _ _ _ (by omega)]; done) | (have h3 : i2 ≠ 9 := fun q => hv.2 (by rw [q]; rfl); rw [mS_fn _ _ _ (by omega)]; done) | (exfalso; omega)
theorem gc_t122 {b : Nat} {aC : Nat → ClassId} {M : gMem} {r : gRef} {ow : Int64} {x : Int32} {K2 i2 : Nat} (h : (K2, i2) ≠ (14, 0)) (hv : gv K2 i2 = true) : gc b aC (mS M 122 0 x) r ow K2 i2 = gc b aC M r ow K2 i2 := by
  have h1 : K2 = 14 → i2 = 0 → False := fun a b => h (by rw [a, b])
  clear h
  unfold gc
  split <;> simp only [gv, decide_eq_true_eq] at hv <;> first | rfl | (rw [mS_fn _ _ _ (by omega)]; done) | (exact (h1 rfl hv).elim) | (simp [mS, rS]; done) | (have h2 : ¬ i2 = 0 := h1 rfl; simp [mS, rS, h2]; done) | (have h2 : ¬ i2 = 0 := h1 rfl; rw [mS_fn _ _ _ (by omega)]; done) | (have h3 : i2 ≠ 22 := fun q => hv.2 (by rw [q]; rfl); rw [mS_fn _ _ _ (by omega)]; done) | (exfalso; omega)
theorem gc_t124 {b : Nat} {aC : Nat → ClassId} {M : gMem} {r : gRef} {ow : Int64} {x : Int32} {K2 i2 : Nat} (h : (K2, i2) ≠ (14, 0)) (hv : gv K2 i2 = true) : gc b aC (mS M 124 0 x) r ow K2 i2 = gc b aC M r ow K2 i2 := by
  have h1 : K2 = 14 → i2 = 0 → False := fun a b => h (by rw [a, b])
  clear h
  unfold gc
  split <;> simp only [gv, decide_eq_true_eq] at hv <;> first | rfl | (rw [mS_fn _ _ _ (by omega)]; done) | (exact (h1 rfl hv).elim) | (simp [mS, rS]; done) | (have h2 : ¬ i2 = 0 := h1 rfl; simp [mS, rS, h2]; done) | (have h2 : ¬ i2 = 0 := h1 rfl; rw [mS_fn _ _ _ (by omega)]; done) | (have h3 : i2 ≠ 24 := fun q => hv.2 (by rw [q]; rfl); rw [mS_fn _ _ _ (by omega)]; done) | (exfalso; omega)
theorem gc_t125 {b : Nat} {aC : Nat → ClassId} {M : gMem} {r : gRef} {ow : Int64} {x : Int32} {K2 i2 : Nat} (h : (K2, i2) ≠ (14, 0)) (hv : gv K2 i2 = true) : gc b aC (mS M 125 0 x) r ow K2 i2 = gc b aC M r ow K2 i2 := by
  have h1 : K2 = 14 → i2 = 0 → False := fun a b => h (by rw [a, b])
  clear h
  unfold gc
  split <;> simp only [gv, decide_eq_true_eq] at hv <;> first | rfl | (rw [mS_fn _ _ _ (by omega)]; done) | (exact (h1 rfl hv).elim) | (simp [mS, rS]; done) | (have h2 : ¬ i2 = 0 := h1 rfl; simp [mS, rS, h2]; done) | (have h2 : ¬ i2 = 0 := h1 rfl; rw [mS_fn _ _ _ (by omega)]; done) | (have h3 : i2 ≠ 25 := fun q => hv.2 (by rw [q]; rfl); rw [mS_fn _ _ _ (by omega)]; done) | (exfalso; omega)
theorem gc_t126 {b : Nat} {aC : Nat → ClassId} {M : gMem} {r : gRef} {ow : Int64} {x : Int32} {K2 i2 : Nat} (h : (K2, i2) ≠ (14, 0)) (hv : gv K2 i2 = true) : gc b aC (mS M 126 0 x) r ow K2 i2 = gc b aC M r ow K2 i2 := by
  have h1 : K2 = 14 → i2 = 0 → False := fun a b => h (by rw [a, b])
  clear h
  unfold gc
  split <;> simp only [gv, decide_eq_true_eq] at hv <;> first | rfl | (rw [mS_fn _ _ _ (by omega)]; done) | (exact (h1 rfl hv).elim) | (simp [mS, rS]; done) | (have h2 : ¬ i2 = 0 := h1 rfl; simp [mS, rS, h2]; done) | (have h2 : ¬ i2 = 0 := h1 rfl; rw [mS_fn _ _ _ (by omega)]; done) | (have h3 : i2 ≠ 26 := fun q => hv.2 (by rw [q]; rfl); rw [mS_fn _ _ _ (by omega)]; done) | (exfalso; omega)
theorem gc_t128 {b : Nat} {aC : Nat → ClassId} {M : gMem} {r : gRef} {ow : Int64} {x : Int32} {K2 i2 : Nat} (h : (K2, i2) ≠ (14, 0)) (hv : gv K2 i2 = true) : gc b aC (mS M 128 0 x) r ow K2 i2 = gc b aC M r ow K2 i2 := by
  have h1 : K2 = 14 → i2 = 0 → False := fun a b => h (by rw [a, b])
  clear h
  unfold gc
  split <;> simp only [gv, decide_eq_true_eq] at hv <;> first | rfl | (rw [mS_fn _ _ _ (by omega)]; done) | (exact (h1 rfl hv).elim) | (simp [mS, rS]; done) | (have h2 : ¬ i2 = 0 := h1 rfl; simp [mS, rS, h2]; done) | (have h2 : ¬ i2 = 0 := h1 rfl; rw [mS_fn _ _ _ (by omega)]; done) | (have h3 : i2 ≠ 28 := fun q => hv.2 (by rw [q]; rfl); rw [mS_fn _ _ _ (by omega)]; done) | (exfalso; omega)
theorem gc_t129 {b : Nat} {aC : Nat → ClassId} {M : gMem} {r : gRef} {ow : Int64} {x : Int32} {K2 i2 : Nat} (h : (K2, i2) ≠ (14, 0)) (hv : gv K2 i2 = true) : gc b aC (mS M 129 0 x) r ow K2 i2 = gc b aC M r ow K2 i2 := by
  have h1 : K2 = 14 → i2 = 0 → False := fun a b => h (by rw [a, b])
  clear h
  unfold gc
  split <;> simp only [gv, decide_eq_true_eq] at hv <;> first | rfl | (rw [mS_fn _ _ _ (by omega)]; done) | (exact (h1 rfl hv).elim) | (simp [mS, rS]; done) | (have h2 : ¬ i2 = 0 := h1 rfl; simp [mS, rS, h2]; done) | (have h2 : ¬ i2 = 0 := h1 rfl; rw [mS_fn _ _ _ (by omega)]; done) | (have h3 : i2 ≠ 29 := fun q => hv.2 (by rw [q]; rfl); rw [mS_fn _ _ _ (by omega)]; done) | (exfalso; omega)
theorem gc_t131 {b : Nat} {aC : Nat → ClassId} {M : gMem} {r : gRef} {ow : Int64} {x : Int32} {K2 i2 : Nat} (h : (K2, i2) ≠ (14, 0)) (hv : gv K2 i2 = true) : gc b aC (mS M 131 0 x) r ow K2 i2 = gc b aC M r ow K2 i2 := by
  have h1 : K2 = 14 → i2 = 0 → False := fun a b => h (by rw [a, b])
  clear h
  unfold gc
  split <;> simp only [gv, decide_eq_true_eq] at hv <;> first | rfl | (rw [mS_fn _ _ _ (by omega)]; done) | (exact (h1 rfl hv).elim) | (simp [mS, rS]; done) | (have h2 : ¬ i2 = 0 := h1 rfl; simp [mS, rS, h2]; done) | (have h2 : ¬ i2 = 0 := h1 rfl; rw [mS_fn _ _ _ (by omega)]; done) | (have h3 : i2 ≠ 31 := fun q => hv.2 (by rw [q]; rfl); rw [mS_fn _ _ _ (by omega)]; done) | (exfalso; omega)
theorem gc_t132 {b : Nat} {aC : Nat → ClassId} {M : gMem} {r : gRef} {ow : Int64} {x : Int32} {K2 i2 : Nat} (h : (K2, i2) ≠ (14, 0)) (hv : gv K2 i2 = true) : gc b aC (mS M 132 0 x) r ow K2 i2 = gc b aC M r ow K2 i2 := by
  have h1 : K2 = 14 → i2 = 0 → False := fun a b => h (by rw [a, b])
  clear h
  unfold gc
  split <;> simp only [gv, decide_eq_true_eq] at hv <;> first | rfl | (rw [mS_fn _ _ _ (by omega)]; done) | (exact (h1 rfl hv).elim) | (simp [mS, rS]; done) | (have h2 : ¬ i2 = 0 := h1 rfl; simp [mS, rS, h2]; done) | (have h2 : ¬ i2 = 0 := h1 rfl; rw [mS_fn _ _ _ (by omega)]; done) | (have h3 : i2 ≠ 32 := fun q => hv.2 (by rw [q]; rfl); rw [mS_fn _ _ _ (by omega)]; done) | (exfalso; omega)
theorem gc_t133 {b : Nat} {aC : Nat → ClassId} {M : gMem} {r : gRef} {ow : Int64} {x : Int32} {K2 i2 : Nat} (h : (K2, i2) ≠ (14, 0)) (hv : gv K2 i2 = true) : gc b aC (mS M 133 0 x) r ow K2 i2 = gc b aC M r ow K2 i2 := by
  have h1 : K2 = 14 → i2 = 0 → False := fun a b => h (by rw [a, b])
  clear h
  unfold gc
  split <;> simp only [gv, decide_eq_true_eq] at hv <;> first | rfl | (rw [mS_fn _ _ _ (by omega)]; done) | (exact (h1 rfl hv).elim) | (simp [mS, rS]; done) | (have h2 : ¬ i2 = 0 := h1 rfl; simp [mS, rS, h2]; done) | (have h2 : ¬ i2 = 0 := h1 rfl; rw [mS_fn _ _ _ (by omega)]; done) | (have h3 : i2 ≠ 33 := fun q => hv.2 (by rw [q]; rfl); rw [mS_fn _ _ _ (by omega)]; done) | (exfalso; omega)
theorem gc_r0 {b : Nat} {aC : Nat → ClassId} {M : gMem} {r : gRef} {ow : Int64} {y : Option Nat} {j : Nat} {K2 i2 : Nat} (h : (K2, i2) ≠ (7, j)) (hv : gv K2 i2 = true) : gc b aC M (rS r 0 j y) ow K2 i2 = gc b aC M r ow K2 i2 := by
  have h1 : K2 = 7 → i2 = j → False := fun a b => h (by rw [a, b])
  clear h
  unfold gc
  split <;> simp only [gv, decide_eq_true_eq] at hv <;> first | rfl | (rw [mS_fn _ _ _ (by omega)]; done) | (exact (h1 rfl hv).elim) | (simp [mS, rS]; done) | (have h2 : ¬ i2 = j := h1 rfl; simp [mS, rS, h2]; done) | (have h2 : ¬ i2 = j := h1 rfl; rw [mS_fn _ _ _ (by omega)]; done) | (have h3 : i2 ≠ 0 := fun q => hv.2 (by rw [q]; rfl); rw [mS_fn _ _ _ (by omega)]; done) | (exfalso; omega)
theorem gc_r1 {b : Nat} {aC : Nat → ClassId} {M : gMem} {r : gRef} {ow : Int64} {y : Option Nat} {j : Nat} {K2 i2 : Nat} (h : (K2, i2) ≠ (8, j)) (hv : gv K2 i2 = true) : gc b aC M (rS r 1 j y) ow K2 i2 = gc b aC M r ow K2 i2 := by
  have h1 : K2 = 8 → i2 = j → False := fun a b => h (by rw [a, b])
  clear h
  unfold gc
  split <;> simp only [gv, decide_eq_true_eq] at hv <;> first | rfl | (rw [mS_fn _ _ _ (by omega)]; done) | (exact (h1 rfl hv).elim) | (simp [mS, rS]; done) | (have h2 : ¬ i2 = j := h1 rfl; simp [mS, rS, h2]; done) | (have h2 : ¬ i2 = j := h1 rfl; rw [mS_fn _ _ _ (by omega)]; done) | (have h3 : i2 ≠ 0 := fun q => hv.2 (by rw [q]; rfl); rw [mS_fn _ _ _ (by omega)]; done) | (exfalso; omega)
theorem gc_r3 {b : Nat} {aC : Nat → ClassId} {M : gMem} {r : gRef} {ow : Int64} {y : Option Nat} {K2 i2 : Nat} (h : (K2, i2) ≠ (12, 0)) (hv : gv K2 i2 = true) : gc b aC M (rS r 3 0 y) ow K2 i2 = gc b aC M r ow K2 i2 := by
  have h1 : K2 = 12 → i2 = 0 → False := fun a b => h (by rw [a, b])
  clear h
  unfold gc
  split <;> simp only [gv, decide_eq_true_eq] at hv <;> first | rfl | (rw [mS_fn _ _ _ (by omega)]; done) | (exact (h1 rfl hv).elim) | (simp [mS, rS]; done) | (have h2 : ¬ i2 = 0 := h1 rfl; simp [mS, rS, h2]; done) | (have h2 : ¬ i2 = 0 := h1 rfl; rw [mS_fn _ _ _ (by omega)]; done) | (have h3 : i2 ≠ 0 := fun q => hv.2 (by rw [q]; rfl); rw [mS_fn _ _ _ (by omega)]; done) | (exfalso; omega)
theorem gc_t10 {b : Nat} {aC : Nat → ClassId} {M : gMem} {r : gRef} {ow : Int64} {x : Int32} {j : Nat} {K2 i2 : Nat} (h : (K2, i2) ≠ (2, 0)) (hv : gv K2 i2 = true) : gc b aC (mS M 10 j x) r ow K2 i2 = gc b aC M r ow K2 i2 := by
  have h1 : K2 = 2 → i2 = 0 → False := fun a b => h (by rw [a, b])
  clear h
  unfold gc
  split <;> simp only [gv, decide_eq_true_eq] at hv <;> first | rfl | (rw [mS_fn _ _ _ (by omega)]; done) | (exact (h1 rfl hv).elim) | (simp [mS, rS]; done) | (have h2 : ¬ i2 = 0 := h1 rfl; simp [mS, rS, h2]; done) | (have h2 : ¬ i2 = 0 := h1 rfl; rw [mS_fn _ _ _ (by omega)]; done) | (have h3 : i2 ≠ 0 := fun q => hv.2 (by rw [q]; rfl); rw [mS_fn _ _ _ (by omega)]; done) | (exfalso; omega)
theorem gc_t11 {b : Nat} {aC : Nat → ClassId} {M : gMem} {r : gRef} {ow : Int64} {x : Int32} {j : Nat} {K2 i2 : Nat} (h : (K2, i2) ≠ (2, 1)) (hv : gv K2 i2 = true) : gc b aC (mS M 11 j x) r ow K2 i2 = gc b aC M r ow K2 i2 := by
  have h1 : K2 = 2 → i2 = 1 → False := fun a b => h (by rw [a, b])
  clear h
  unfold gc
  split <;> simp only [gv, decide_eq_true_eq] at hv <;> first | rfl | (rw [mS_fn _ _ _ (by omega)]; done) | (exact (h1 rfl hv).elim) | (simp [mS, rS]; done) | (have h2 : ¬ i2 = 1 := h1 rfl; simp [mS, rS, h2]; done) | (have h2 : ¬ i2 = 1 := h1 rfl; rw [mS_fn _ _ _ (by omega)]; done) | (have h3 : i2 ≠ 0 := fun q => hv.2 (by rw [q]; rfl); rw [mS_fn _ _ _ (by omega)]; done) | (exfalso; omega)
theorem gc_t12 {b : Nat} {aC : Nat → ClassId} {M : gMem} {r : gRef} {ow : Int64} {x : Int32} {j : Nat} {K2 i2 : Nat} (h : (K2, i2) ≠ (2, 2)) (hv : gv K2 i2 = true) : gc b aC (mS M 12 j x) r ow K2 i2 = gc b aC M r ow K2 i2 := by
  have h1 : K2 = 2 → i2 = 2 → False := fun a b => h (by rw [a, b])
  clear h
  unfold gc
  split <;> simp only [gv, decide_eq_true_eq] at hv <;> first | rfl | (rw [mS_fn _ _ _ (by omega)]; done) | (exact (h1 rfl hv).elim) | (simp [mS, rS]; done) | (have h2 : ¬ i2 = 2 := h1 rfl; simp [mS, rS, h2]; done) | (have h2 : ¬ i2 = 2 := h1 rfl; rw [mS_fn _ _ _ (by omega)]; done) | (have h3 : i2 ≠ 0 := fun q => hv.2 (by rw [q]; rfl); rw [mS_fn _ _ _ (by omega)]; done) | (exfalso; omega)
theorem gc_t13 {b : Nat} {aC : Nat → ClassId} {M : gMem} {r : gRef} {ow : Int64} {x : Int32} {j : Nat} {K2 i2 : Nat} (h : (K2, i2) ≠ (2, 3)) (hv : gv K2 i2 = true) : gc b aC (mS M 13 j x) r ow K2 i2 = gc b aC M r ow K2 i2 := by
  have h1 : K2 = 2 → i2 = 3 → False := fun a b => h (by rw [a, b])
  clear h
  unfold gc
  split <;> simp only [gv, decide_eq_true_eq] at hv <;> first | rfl | (rw [mS_fn _ _ _ (by omega)]; done) | (exact (h1 rfl hv).elim) | (simp [mS, rS]; done) | (have h2 : ¬ i2 = 3 := h1 rfl; simp [mS, rS, h2]; done) | (have h2 : ¬ i2 = 3 := h1 rfl; rw [mS_fn _ _ _ (by omega)]; done) | (have h3 : i2 ≠ 0 := fun q => hv.2 (by rw [q]; rfl); rw [mS_fn _ _ _ (by omega)]; done) | (exfalso; omega)
theorem gc_t14 {b : Nat} {aC : Nat → ClassId} {M : gMem} {r : gRef} {ow : Int64} {x : Int32} {j : Nat} {K2 i2 : Nat} (h : (K2, i2) ≠ (2, 4)) (hv : gv K2 i2 = true) : gc b aC (mS M 14 j x) r ow K2 i2 = gc b aC M r ow K2 i2 := by
  have h1 : K2 = 2 → i2 = 4 → False := fun a b => h (by rw [a, b])
  clear h
  unfold gc
  split <;> simp only [gv, decide_eq_true_eq] at hv <;> first | rfl | (rw [mS_fn _ _ _ (by omega)]; done) | (exact (h1 rfl hv).elim) | (simp [mS, rS]; done) | (have h2 : ¬ i2 = 4 := h1 rfl; simp [mS, rS, h2]; done) | (have h2 : ¬ i2 = 4 := h1 rfl; rw [mS_fn _ _ _ (by omega)]; done) | (have h3 : i2 ≠ 0 := fun q => hv.2 (by rw [q]; rfl); rw [mS_fn _ _ _ (by omega)]; done) | (exfalso; omega)
theorem gc_t15 {b : Nat} {aC : Nat → ClassId} {M : gMem} {r : gRef} {ow : Int64} {x : Int32} {j : Nat} {K2 i2 : Nat} (h : (K2, i2) ≠ (2, 5)) (hv : gv K2 i2 = true) : gc b aC (mS M 15 j x) r ow K2 i2 = gc b aC M r ow K2 i2 := by
  have h1 : K2 = 2 → i2 = 5 → False := fun a b => h (by rw [a, b])
  clear h
  unfold gc
  split <;> simp only [gv, decide_eq_true_eq] at hv <;> first | rfl | (rw [mS_fn _ _ _ (by omega)]; done) | (exact (h1 rfl hv).elim) | (simp [mS, rS]; done) | (have h2 : ¬ i2 = 5 := h1 rfl; simp [mS, rS, h2]; done) | (have h2 : ¬ i2 = 5 := h1 rfl; rw [mS_fn _ _ _ (by omega)]; done) | (have h3 : i2 ≠ 0 := fun q => hv.2 (by rw [q]; rfl); rw [mS_fn _ _ _ (by omega)]; done) | (exfalso; omega)
theorem gc_t1 {b : Nat} {aC : Nat → ClassId} {M : gMem} {r : gRef} {ow : Int64} {x : Int32} {j : Nat} {K2 i2 : Nat} (h : (K2, i2) ≠ (4, 0)) (hv : gv K2 i2 = true) : gc b aC (mS M 1 j x) r ow K2 i2 = gc b aC M r ow K2 i2 := by
  have h1 : K2 = 4 → i2 = 0 → False := fun a b => h (by rw [a, b])
  clear h
  unfold gc
  split <;> simp only [gv, decide_eq_true_eq] at hv <;> first | rfl | (rw [mS_fn _ _ _ (by omega)]; done) | (exact (h1 rfl hv).elim) | (simp [mS, rS]; done) | (have h2 : ¬ i2 = 0 := h1 rfl; simp [mS, rS, h2]; done) | (have h2 : ¬ i2 = 0 := h1 rfl; rw [mS_fn _ _ _ (by omega)]; done) | (have h3 : i2 ≠ 0 := fun q => hv.2 (by rw [q]; rfl); rw [mS_fn _ _ _ (by omega)]; done) | (exfalso; omega)
theorem gc_t102 {b : Nat} {aC : Nat → ClassId} {M : gMem} {r : gRef} {ow : Int64} {x : Int32} {j : Nat} {K2 i2 : Nat} (h : (K2, i2) ≠ (15, 2)) (hv : gv K2 i2 = true) : gc b aC (mS M 102 j x) r ow K2 i2 = gc b aC M r ow K2 i2 := by
  have h1 : K2 = 15 → i2 = 2 → False := fun a b => h (by rw [a, b])
  clear h
  unfold gc
  split <;> simp only [gv, decide_eq_true_eq] at hv <;> first | rfl | (rw [mS_fn _ _ _ (by omega)]; done) | (exact (h1 rfl hv).elim) | (simp [mS, rS]; done) | (have h2 : ¬ i2 = 2 := h1 rfl; simp [mS, rS, h2]; done) | (have h2 : ¬ i2 = 2 := h1 rfl; rw [mS_fn _ _ _ (by omega)]; done) | (have h3 : i2 ≠ 2 := fun q => hv.2 (by rw [q]; rfl); rw [mS_fn _ _ _ (by omega)]; done) | (exfalso; omega)
theorem gc_t108 {b : Nat} {aC : Nat → ClassId} {M : gMem} {r : gRef} {ow : Int64} {x : Int32} {j : Nat} {K2 i2 : Nat} (h : (K2, i2) ≠ (15, 8)) (hv : gv K2 i2 = true) : gc b aC (mS M 108 j x) r ow K2 i2 = gc b aC M r ow K2 i2 := by
  have h1 : K2 = 15 → i2 = 8 → False := fun a b => h (by rw [a, b])
  clear h
  unfold gc
  split <;> simp only [gv, decide_eq_true_eq] at hv <;> first | rfl | (rw [mS_fn _ _ _ (by omega)]; done) | (exact (h1 rfl hv).elim) | (simp [mS, rS]; done) | (have h2 : ¬ i2 = 8 := h1 rfl; simp [mS, rS, h2]; done) | (have h2 : ¬ i2 = 8 := h1 rfl; rw [mS_fn _ _ _ (by omega)]; done) | (have h3 : i2 ≠ 8 := fun q => hv.2 (by rw [q]; rfl); rw [mS_fn _ _ _ (by omega)]; done) | (exfalso; omega)
theorem gc_t110 {b : Nat} {aC : Nat → ClassId} {M : gMem} {r : gRef} {ow : Int64} {x : Int32} {j : Nat} {K2 i2 : Nat} (h : (K2, i2) ≠ (15, 10)) (hv : gv K2 i2 = true) : gc b aC (mS M 110 j x) r ow K2 i2 = gc b aC M r ow K2 i2 := by
  have h1 : K2 = 15 → i2 = 10 → False := fun a b => h (by rw [a, b])
  clear h
  unfold gc
  split <;> simp only [gv, decide_eq_true_eq] at hv <;> first | rfl | (rw [mS_fn _ _ _ (by omega)]; done) | (exact (h1 rfl hv).elim) | (simp [mS, rS]; done) | (have h2 : ¬ i2 = 10 := h1 rfl; simp [mS, rS, h2]; done) | (have h2 : ¬ i2 = 10 := h1 rfl; rw [mS_fn _ _ _ (by omega)]; done) | (have h3 : i2 ≠ 10 := fun q => hv.2 (by rw [q]; rfl); rw [mS_fn _ _ _ (by omega)]; done) | (exfalso; omega)
theorem gc_t111 {b : Nat} {aC : Nat → ClassId} {M : gMem} {r : gRef} {ow : Int64} {x : Int32} {j : Nat} {K2 i2 : Nat} (h : (K2, i2) ≠ (15, 11)) (hv : gv K2 i2 = true) : gc b aC (mS M 111 j x) r ow K2 i2 = gc b aC M r ow K2 i2 := by
  have h1 : K2 = 15 → i2 = 11 → False := fun a b => h (by rw [a, b])
  clear h
  unfold gc
  split <;> simp only [gv, decide_eq_true_eq] at hv <;> first | rfl | (rw [mS_fn _ _ _ (by omega)]; done) | (exact (h1 rfl hv).elim) | (simp [mS, rS]; done) | (have h2 : ¬ i2 = 11 := h1 rfl; simp [mS, rS, h2]; done) | (have h2 : ¬ i2 = 11 := h1 rfl; rw [mS_fn _ _ _ (by omega)]; done) | (have h3 : i2 ≠ 11 := fun q => hv.2 (by rw [q]; rfl); rw [mS_fn _ _ _ (by omega)]; done) | (exfalso; omega)
theorem gc_t112 {b : Nat} {aC : Nat → ClassId} {M : gMem} {r : gRef} {ow : Int64} {x : Int32} {j : Nat} {K2 i2 : Nat} (h : (K2, i2) ≠ (15, 12)) (hv : gv K2 i2 = true) : gc b aC (mS M 112 j x) r ow K2 i2 = gc b aC M r ow K2 i2 := by
  have h1 : K2 = 15 → i2 = 12 → False := fun a b => h (by rw [a, b])
  clear h
  unfold gc
  split <;> simp only [gv, decide_eq_true_eq] at hv <;> first | rfl | (rw [mS_fn _ _ _ (by omega)]; done) | (exact (h1 rfl hv).elim) | (simp [mS, rS]; done) | (have h2 : ¬ i2 = 12 := h1 rfl; simp [mS, rS, h2]; done) | (have h2 : ¬ i2 = 12 := h1 rfl; rw [mS_fn _ _ _ (by omega)]; done) | (have h3 : i2 ≠ 12 := fun q => hv.2 (by rw [q]; rfl); rw [mS_fn _ _ _ (by omega)]; done) | (exfalso; omega)
theorem gc_t113 {b : Nat} {aC : Nat → ClassId} {M : gMem} {r : gRef} {ow : Int64} {x : Int32} {j : Nat} {K2 i2 : Nat} (h : (K2, i2) ≠ (15, 13)) (hv : gv K2 i2 = true) : gc b aC (mS M 113 j x) r ow K2 i2 = gc b aC M r ow K2 i2 := by
  have h1 : K2 = 15 → i2 = 13 → False := fun a b => h (by rw [a, b])
  clear h
  unfold gc
  split <;> simp only [gv, decide_eq_true_eq] at hv <;> first | rfl | (rw [mS_fn _ _ _ (by omega)]; done) | (exact (h1 rfl hv).elim) | (simp [mS, rS]; done) | (have h2 : ¬ i2 = 13 := h1 rfl; simp [mS, rS, h2]; done) | (have h2 : ¬ i2 = 13 := h1 rfl; rw [mS_fn _ _ _ (by omega)]; done) | (have h3 : i2 ≠ 13 := fun q => hv.2 (by rw [q]; rfl); rw [mS_fn _ _ _ (by omega)]; done) | (exfalso; omega)
theorem gc_t114 {b : Nat} {aC : Nat → ClassId} {M : gMem} {r : gRef} {ow : Int64} {x : Int32} {j : Nat} {K2 i2 : Nat} (h : (K2, i2) ≠ (15, 14)) (hv : gv K2 i2 = true) : gc b aC (mS M 114 j x) r ow K2 i2 = gc b aC M r ow K2 i2 := by
  have h1 : K2 = 15 → i2 = 14 → False := fun a b => h (by rw [a, b])
  clear h
  unfold gc
  split <;> simp only [gv, decide_eq_true_eq] at hv <;> first | rfl | (rw [mS_fn _ _ _ (by omega)]; done) | (exact (h1 rfl hv).elim) | (simp [mS, rS]; done) | (have h2 : ¬ i2 = 14 := h1 rfl; simp [mS, rS, h2]; done) | (have h2 : ¬ i2 = 14 := h1 rfl; rw [mS_fn _ _ _ (by omega)]; done) | (have h3 : i2 ≠ 14 := fun q => hv.2 (by rw [q]; rfl); rw [mS_fn _ _ _ (by omega)]; done) | (exfalso; omega)
theorem gc_t115 {b : Nat} {aC : Nat → ClassId} {M : gMem} {r : gRef} {ow : Int64} {x : Int32} {j : Nat} {K2 i2 : Nat} (h : (K2, i2) ≠ (15, 15)) (hv : gv K2 i2 = true) : gc b aC (mS M 115 j x) r ow K2 i2 = gc b aC M r ow K2 i2 := by
  have h1 : K2 = 15 → i2 = 15 → False := fun a b => h (by rw [a, b])
  clear h
  unfold gc
  split <;> simp only [gv, decide_eq_true_eq] at hv <;> first | rfl | (rw [mS_fn _ _ _ (by omega)]; done) | (exact (h1 rfl hv).elim) | (simp [mS, rS]; done) | (have h2 : ¬ i2 = 15 := h1 rfl; simp [mS, rS, h2]; done) | (have h2 : ¬ i2 = 15 := h1 rfl; rw [mS_fn _ _ _ (by omega)]; done) | (have h3 : i2 ≠ 15 := fun q => hv.2 (by rw [q]; rfl); rw [mS_fn _ _ _ (by omega)]; done) | (exfalso; omega)
theorem gc_t116 {b : Nat} {aC : Nat → ClassId} {M : gMem} {r : gRef} {ow : Int64} {x : Int32} {j : Nat} {K2 i2 : Nat} (h : (K2, i2) ≠ (15, 16)) (hv : gv K2 i2 = true) : gc b aC (mS M 116 j x) r ow K2 i2 = gc b aC M r ow K2 i2 := by
  have h1 : K2 = 15 → i2 = 16 → False := fun a b => h (by rw [a, b])
  clear h
  unfold gc
  split <;> simp only [gv, decide_eq_true_eq] at hv <;> first | rfl | (rw [mS_fn _ _ _ (by omega)]; done) | (exact (h1 rfl hv).elim) | (simp [mS, rS]; done) | (have h2 : ¬ i2 = 16 := h1 rfl; simp [mS, rS, h2]; done) | (have h2 : ¬ i2 = 16 := h1 rfl; rw [mS_fn _ _ _ (by omega)]; done) | (have h3 : i2 ≠ 16 := fun q => hv.2 (by rw [q]; rfl); rw [mS_fn _ _ _ (by omega)]; done) | (exfalso; omega)
theorem gc_t117 {b : Nat} {aC : Nat → ClassId} {M : gMem} {r : gRef} {ow : Int64} {x : Int32} {j : Nat} {K2 i2 : Nat} (h : (K2, i2) ≠ (15, 17)) (hv : gv K2 i2 = true) : gc b aC (mS M 117 j x) r ow K2 i2 = gc b aC M r ow K2 i2 := by
  have h1 : K2 = 15 → i2 = 17 → False := fun a b => h (by rw [a, b])
  clear h
  unfold gc
  split <;> simp only [gv, decide_eq_true_eq] at hv <;> first | rfl | (rw [mS_fn _ _ _ (by omega)]; done) | (exact (h1 rfl hv).elim) | (simp [mS, rS]; done) | (have h2 : ¬ i2 = 17 := h1 rfl; simp [mS, rS, h2]; done) | (have h2 : ¬ i2 = 17 := h1 rfl; rw [mS_fn _ _ _ (by omega)]; done) | (have h3 : i2 ≠ 17 := fun q => hv.2 (by rw [q]; rfl); rw [mS_fn _ _ _ (by omega)]; done) | (exfalso; omega)
theorem gc_t118 {b : Nat} {aC : Nat → ClassId} {M : gMem} {r : gRef} {ow : Int64} {x : Int32} {j : Nat} {K2 i2 : Nat} (h : (K2, i2) ≠ (15, 18)) (hv : gv K2 i2 = true) : gc b aC (mS M 118 j x) r ow K2 i2 = gc b aC M r ow K2 i2 := by
  have h1 : K2 = 15 → i2 = 18 → False := fun a b => h (by rw [a, b])
  clear h
  unfold gc
  split <;> simp only [gv, decide_eq_true_eq] at hv <;> first | rfl | (rw [mS_fn _ _ _ (by omega)]; done) | (exact (h1 rfl hv).elim) | (simp [mS, rS]; done) | (have h2 : ¬ i2 = 18 := h1 rfl; simp [mS, rS, h2]; done) | (have h2 : ¬ i2 = 18 := h1 rfl; rw [mS_fn _ _ _ (by omega)]; done) | (have h3 : i2 ≠ 18 := fun q => hv.2 (by rw [q]; rfl); rw [mS_fn _ _ _ (by omega)]; done) | (exfalso; omega)
theorem gc_t119 {b : Nat} {aC : Nat → ClassId} {M : gMem} {r : gRef} {ow : Int64} {x : Int32} {j : Nat} {K2 i2 : Nat} (h : (K2, i2) ≠ (15, 19)) (hv : gv K2 i2 = true) : gc b aC (mS M 119 j x) r ow K2 i2 = gc b aC M r ow K2 i2 := by
  have h1 : K2 = 15 → i2 = 19 → False := fun a b => h (by rw [a, b])
  clear h
  unfold gc
  split <;> simp only [gv, decide_eq_true_eq] at hv <;> first | rfl | (rw [mS_fn _ _ _ (by omega)]; done) | (exact (h1 rfl hv).elim) | (simp [mS, rS]; done) | (have h2 : ¬ i2 = 19 := h1 rfl; simp [mS, rS, h2]; done) | (have h2 : ¬ i2 = 19 := h1 rfl; rw [mS_fn _ _ _ (by omega)]; done) | (have h3 : i2 ≠ 19 := fun q => hv.2 (by rw [q]; rfl); rw [mS_fn _ _ _ (by omega)]; done) | (exfalso; omega)
theorem gc_t120 {b : Nat} {aC : Nat → ClassId} {M : gMem} {r : gRef} {ow : Int64} {x : Int32} {j : Nat} {K2 i2 : Nat} (h : (K2, i2) ≠ (15, 20)) (hv : gv K2 i2 = true) : gc b aC (mS M 120 j x) r ow K2 i2 = gc b aC M r ow K2 i2 := by
  have h1 : K2 = 15 → i2 = 20 → False := fun a b => h (by rw [a, b])
  clear h
  unfold gc
  split <;> simp only [gv, decide_eq_true_eq] at hv <;> first | rfl | (rw [mS_fn _ _ _ (by omega)]; done) | (exact (h1 rfl hv).elim) | (simp [mS, rS]; done) | (have h2 : ¬ i2 = 20 := h1 rfl; simp [mS, rS, h2]; done) | (have h2 : ¬ i2 = 20 := h1 rfl; rw [mS_fn _ _ _ (by omega)]; done) | (have h3 : i2 ≠ 20 := fun q => hv.2 (by rw [q]; rfl); rw [mS_fn _ _ _ (by omega)]; done) | (exfalso; omega)
theorem gc_t121 {b : Nat} {aC : Nat → ClassId} {M : gMem} {r : gRef} {ow : Int64} {x : Int32} {j : Nat} {K2 i2 : Nat} (h : (K2, i2) ≠ (15, 21)) (hv : gv K2 i2 = true) : gc b aC (mS M 121 j x) r ow K2 i2 = gc b aC M r ow K2 i2 := by
  have h1 : K2 = 15 → i2 = 21 → False := fun a b => h (by rw [a, b])
  clear h
  unfold gc
  split <;> simp only [gv, decide_eq_true_eq] at hv <;> first | rfl | (rw [mS_fn _ _ _ (by omega)]; done) | (exact (h1 rfl hv).elim) | (simp [mS, rS]; done) | (have h2 : ¬ i2 = 21 := h1 rfl; simp [mS, rS, h2]; done) | (have h2 : ¬ i2 = 21 := h1 rfl; rw [mS_fn _ _ _ (by omega)]; done) | (have h3 : i2 ≠ 21 := fun q => hv.2 (by rw [q]; rfl); rw [mS_fn _ _ _ (by omega)]; done) | (exfalso; omega)
theorem gc_t123 {b : Nat} {aC : Nat → ClassId} {M : gMem} {r : gRef} {ow : Int64} {x : Int32} {j : Nat} {K2 i2 : Nat} (h : (K2, i2) ≠ (15, 23)) (hv : gv K2 i2 = true) : gc b aC (mS M 123 j x) r ow K2 i2 = gc b aC M r ow K2 i2 := by
  have h1 : K2 = 15 → i2 = 23 → False := fun a b => h (by rw [a, b])
  clear h
  unfold gc
  split <;> simp only [gv, decide_eq_true_eq] at hv <;> first | rfl | (rw [mS_fn _ _ _ (by omega)]; done) | (exact (h1 rfl hv).elim) | (simp [mS, rS]; done) | (have h2 : ¬ i2 = 23 := h1 rfl; simp [mS, rS, h2]; done) | (have h2 : ¬ i2 = 23 := h1 rfl; rw [mS_fn _ _ _ (by omega)]; done) | (have h3 : i2 ≠ 23 := fun q => hv.2 (by rw [q]; rfl); rw [mS_fn _ _ _ (by omega)]; done) | (exfalso; omega)
theorem gc_t127 {b : Nat} {aC : Nat → ClassId} {M : gMem} {r : gRef} {ow : Int64} {x : Int32} {j : Nat} {K2 i2 : Nat} (h : (K2, i2) ≠ (15, 27)) (hv : gv K2 i2 = true) : gc b aC (mS M 127 j x) r ow K2 i2 = gc b aC M r ow K2 i2 := by
  have h1 : K2 = 15 → i2 = 27 → False := fun a b => h (by rw [a, b])
  clear h
  unfold gc
  split <;> simp only [gv, decide_eq_true_eq] at hv <;> first | rfl | (rw [mS_fn _ _ _ (by omega)]; done) | (exact (h1 rfl hv).elim) | (simp [mS, rS]; done) | (have h2 : ¬ i2 = 27 := h1 rfl; simp [mS, rS, h2]; done) | (have h2 : ¬ i2 = 27 := h1 rfl; rw [mS_fn _ _ _ (by omega)]; done) | (have h3 : i2 ≠ 27 := fun q => hv.2 (by rw [q]; rfl); rw [mS_fn _ _ _ (by omega)]; done) | (exfalso; omega)
theorem gc_t130 {b : Nat} {aC : Nat → ClassId} {M : gMem} {r : gRef} {ow : Int64} {x : Int32} {j : Nat} {K2 i2 : Nat} (h : (K2, i2) ≠ (15, 30)) (hv : gv K2 i2 = true) : gc b aC (mS M 130 j x) r ow K2 i2 = gc b aC M r ow K2 i2 := by
  have h1 : K2 = 15 → i2 = 30 → False := fun a b => h (by rw [a, b])
  clear h
  unfold gc
  split <;> simp only [gv, decide_eq_true_eq] at hv <;> first | rfl | (rw [mS_fn _ _ _ (by omega)]; done) | (exact (h1 rfl hv).elim) | (simp [mS, rS]; done) | (have h2 : ¬ i2 = 30 := h1 rfl; simp [mS, rS, h2]; done) | (have h2 : ¬ i2 = 30 := h1 rfl; rw [mS_fn _ _ _ (by omega)]; done) | (have h3 : i2 ≠ 30 := fun q => hv.2 (by rw [q]; rfl); rw [mS_fn _ _ _ (by omega)]; done) | (exfalso; omega)
theorem gc_r2 {b : Nat} {aC : Nat → ClassId} {M : gMem} {r : gRef} {ow : Int64} {y : Option Nat} {j : Nat} {K2 i2 : Nat} (h : (K2, i2) ≠ (11, 0)) (hv : gv K2 i2 = true) : gc b aC M (rS r 2 j y) ow K2 i2 = gc b aC M r ow K2 i2 := by
  have h1 : K2 = 11 → i2 = 0 → False := fun a b => h (by rw [a, b])
  clear h
  unfold gc
  split <;> simp only [gv, decide_eq_true_eq] at hv <;> first | rfl | (rw [mS_fn _ _ _ (by omega)]; done) | (exact (h1 rfl hv).elim) | (simp [mS, rS]; done) | (have h2 : ¬ i2 = 0 := h1 rfl; simp [mS, rS, h2]; done) | (have h2 : ¬ i2 = 0 := h1 rfl; rw [mS_fn _ _ _ (by omega)]; done) | (have h3 : i2 ≠ 0 := fun q => hv.2 (by rw [q]; rfl); rw [mS_fn _ _ _ (by omega)]; done) | (exfalso; omega)
