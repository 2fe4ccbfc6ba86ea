/-! The system's cells: offsets, kinds; the state: numbers M (by field and index), references r, the law's own long -/
def gk (k : Nat) : Nat × Nat :=
  if k < 16 then ([(0, 0), (1, 0), (2, 0), (1, 1), (2, 1), (3, 0), (1, 2), (2, 2), (1, 3), (2, 3), (1, 4), (2, 4), (4, 0), (5, 0), (6, 144), (7, 144)] : List (Nat × Nat)).getD k (99, k)
  else if k < 376 then (if (k - 16) % 15 = 0 then (8, (k - 16) / 15) else if (k - 16) % 15 = 1 then (7, 145 + (k - 16) / 15) else if (k - 16) % 15 = 2 then (9, (k - 16) / 15) else if (k - 16) % 15 % 2 = 1 then (6, 6 * ((k - 16) / 15) + ((k - 16) % 15 - 3) / 2) else (7, 6 * ((k - 16) / 15) + ((k - 16) % 15 - 3) / 2))
  else ([(10, 0), (1, 5), (2, 5), (11, 0), (12, 0), (7, 169), (13, 0), (14, 0), (15, 2), (15, 8), (15, 10), (15, 11), (15, 12), (15, 13), (15, 14), (15, 15), (15, 16), (15, 17), (15, 18), (15, 19), (15, 20), (15, 21), (15, 23), (15, 27), (15, 30), (16, 0)] : List (Nat × Nat)).getD (k - 376) (99, k)
def oRow (i : Nat) : Nat := ([1, 3, 6, 8, 10, 377] : List Nat).getD i 0
def oAt (a : Nat) : Nat := if a < 144 then 19 + 15 * (a / 6) + 2 * (a % 6) else 14
def oNm (n : Nat) : Nat := if n < 144 then 20 + 15 * (n / 6) + 2 * (n % 6) else if n = 144 then 15 else if n < 169 then 17 + 15 * (n - 145) else 381
def oEl (e : Nat) : Nat := 16 + 15 * e
def oAs (e : Nat) : Nat := 18 + 15 * e
def oMa (f : Nat) : Nat := ([0, 0, 384, 0, 0, 0, 0, 0, 385, 0, 386, 387, 388, 389, 390, 391, 392, 393, 394, 395, 396, 397, 0, 398, 0, 0, 0, 399, 0, 0, 400, 0, 0, 0] : List Nat).getD f 0
def nMa (f : Nat) : Nat := ([0, 0, 240, 0, 0, 0, 0, 0, 260, 0, 24, 24, 24, 24, 24, 24, 144, 144, 144, 144, 144, 144, 0, 300, 0, 0, 0, 2200, 0, 0, 2200, 0, 0, 0] : List Nat).getD f 0
def nRow (i : Nat) : Nat := ([240, 1440, 240, 240, 240, 1440] : List Nat).getD i 0
def go (K i : Nat) : Nat := match K with
  | 0 => 0
  | 1 => oRow i
  | 2 => oRow i + 1
  | 3 => 5
  | 4 => 12
  | 5 => 13
  | 6 => oAt i
  | 7 => oNm i
  | 8 => oEl i
  | 9 => oAs i
  | 10 => 376
  | 11 => 379
  | 12 => 380
  | 13 => 382
  | 14 => 383
  | 15 => oMa i
  | _ => 401
set_option maxRecDepth 20000 in
theorem go_gk : ∀ k, k < 402 → go (gk k).1 (gk k).2 = k := by decide +kernel
def gv (K i : Nat) : Bool := match K with
  | 1 => decide (i < 6)
  | 2 => decide (i < 6)
  | 6 => decide (i < 145)
  | 7 => decide (i < 170)
  | 8 => decide (i < 24)
  | 9 => decide (i < 24)
  | 15 => decide (i < 34 ∧ nMa i ≠ 0)
  | _ => decide (i = 0)
theorem gv_gk : ∀ k, k < 402 → gv (gk k).1 (gk k).2 = true := by decide +kernel
theorem gk_Row : ∀ i, i < 6 → gk (oRow i) = (1, i) ∧ gk (oRow i + 1) = (2, i) ∧ oRow i + 1 < 402 := by decide +kernel
theorem gk_At : ∀ a, a < 145 → gk (oAt a) = (6, a) ∧ oAt a < 402 := by decide +kernel
theorem gk_Nm : ∀ n, n < 170 → gk (oNm n) = (7, n) ∧ oNm n < 402 := by decide +kernel
theorem gk_El : ∀ e, e < 24 → gk (oEl e) = (8, e) ∧ oEl e < 402 := by decide +kernel
theorem gk_As : ∀ e, e < 24 → gk (oAs e) = (9, e) ∧ oAs e < 402 := by decide +kernel
theorem gk_Ma : ∀ f, f < 34 → nMa f ≠ 0 → gk (oMa f) = (15, f) ∧ oMa f < 402 := by decide +kernel
def gq (b : Nat) (o : Nat → Nat) (x : Option Nat) : Option Nat := x.map (fun i => b + o i)
abbrev gMem : Type := Nat → Nat → Int32
abbrev gRef : Type := Nat → Nat → Option Nat
/-- the cell of a kind and index -/
def gc (b : Nat) (aC : Nat → ClassId) (M : gMem) (r : gRef) (ow : Int64) (K i : Nat) : va_E := match K with
  | 0 => .inr (0, [.ref (b + 1), .ref (b + 3), .ref (b + 5), .ref (b + 376), .ref (b + 380)])
  | 1 => .inr (1, [.ref (b + (oRow i + 1)), .int (M 0 i)])
  | 2 => .inl (aC 0, nRow i, .inl (M (10 + i)))
  | 3 => .inr (5, [.ref (b + 6), .ref (b + 8), .ref (b + 10), .ref (b + 12), .ref (b + 13), .ref (b + 14), .int (M 2 0)])
  | 4 => .inl (aC 1, 240, .inl (M 1))
  | 5 => .inl (aC 3, 24, .inr (.inr (.inr (.inr (fun j => some (b + oEl j))))))
  | 6 => .inr (2, [.ref (b + oNm i), .int (M 23 i), .int (M 24 i), .int (M 25 i)])
  | 7 => .inr (3, [.int (M 20 i), .int (M 21 i), .int (M 22 i), va_rf (gq b oAt (r 0 i))])
  | 8 => .inr (4, [.int (nI i), .ref (b + oNm (145 + i)), .ref (b + oAs i), va_rf (gq b oEl (r 1 i)), .int (M 26 i), .int (M 27 i), .int (M 28 i), .int (M 29 i), .int (M 30 i), .int (M 31 i)])
  | 9 => .inl (aC 4, 6, .inr (.inr (.inr (.inr (fun j => some (b + oAt (6 * i + j)))))))
  | 10 => .inr (6, [.ref (b + 5), .ref (b + 377), .ref (b + 379), .int (M 34 0)])
  | 11 => .inl (aC 4, 6, .inr (.inr (.inr (.inr (fun j => gq b oAt (r 2 j))))))
  | 12 => .inr (8, [.ref (b + 5), .ref (b + 376), .ref (b + 382), .ref (b + 6), .ref (b + 381), .int (M 35 0), va_rf (gq b oEl (r 3 0)), .int (M 36 0), .int (M 37 0)])
  | 13 => .inr (7, [.ref (b + 5)])
  | 14 => .inr (9, [.int (M 100 0), .int (M 101 0), .ref (b + 384), .int (M 103 0), .int (M 104 0), .int (M 105 0), .int (M 106 0), .int (M 107 0), .ref (b + 385), .int (M 109 0), .ref (b + 386), .ref (b + 387), .ref (b + 388), .ref (b + 389), .ref (b + 390), .ref (b + 391), .ref (b + 392), .ref (b + 393), .ref (b + 394), .ref (b + 395), .ref (b + 396), .ref (b + 397), .int (M 122 0), .ref (b + 398), .int (M 124 0), .int (M 125 0), .int (M 126 0), .ref (b + 399), .int (M 128 0), .int (M 129 0), .ref (b + 400), .int (M 131 0), .int (M 132 0), .int (M 133 0)])
  | 15 => .inl (aC 1, nMa i, .inl (M (100 + i)))
  | _ => .inl (aC 2, 1, .inr (.inl (fun _ => ow)))
def gW (b : Nat) (aC : Nat → ClassId) (M : gMem) (r : gRef) (ow : Int64) (k : Nat) : va_E := gc b aC M r ow (gk k).1 (gk k).2
def gTy (aC : Nat → ClassId) : List (ClassId × FieldType) := [(aC 0, .char), (aC 1, .int), (aC 2, .long), (aC 3, .object R_El), (aC 4, .object R_At)]
/-- a number is set, a reference is set -/
def mS (M : gMem) (t i : Nat) (v : Int32) : gMem := fun t2 i2 => if t2 = t ∧ i2 = i then v else M t2 i2
def rS (r : gRef) (t i : Nat) (v : Option Nat) : gRef := fun t2 i2 => if t2 = t ∧ i2 = i then v else r t2 i2
theorem mS_same (M : gMem) (t i : Nat) (v : Int32) : mS M t i v t i = v := by simp [mS]
theorem mS_tag (M : gMem) {t t2 : Nat} (i i2 : Nat) (v : Int32) (h : t2 ≠ t) : mS M t i v t2 i2 = M t2 i2 := by simp [mS, h]
theorem mS_ix (M : gMem) (t : Nat) {i i2 : Nat} (v : Int32) (h : i2 ≠ i) : mS M t i v t i2 = M t i2 := by simp [mS, h]
theorem mS_row (M : gMem) (t i : Nat) (v : Int32) : mS M t i v t = upd (M t) i v := by funext j; by_cases h : j = i <;> simp [mS, upd, h]
theorem mS_fn (M : gMem) {t t2 : Nat} (i : Nat) (v : Int32) (h : t2 ≠ t) : mS M t i v t2 = M t2 := by funext j; simp [mS, h]
theorem rS_same (r : gRef) (t i : Nat) (v : Option Nat) : rS r t i v t i = v := by simp [rS]
theorem rS_tag (r : gRef) {t t2 : Nat} (i i2 : Nat) (v : Option Nat) (h : t2 ≠ t) : rS r t i v t2 i2 = r t2 i2 := by simp [rS, h]
theorem rS_ix (r : gRef) (t : Nat) {i i2 : Nat} (v : Option Nat) (h : i2 ≠ i) : rS r t i v t i2 = r t i2 := by simp [rS, h]
/-- one cell set: the world of the new state -/
theorem gW_up {b : Nat} {aC : Nat → ClassId} {M M' : gMem} {r r' : gRef} {ow ow' : Int64} {K i : Nat} {el : va_E} (hk : gk (go K i) = (K, i)) (hc : gc b aC M' r' ow' K i = el) (hn : ∀ K2 i2, (K2, i2) ≠ (K, i) → gv K2 i2 = true → gc b aC M' r' ow' K2 i2 = gc b aC M r ow K2 i2) :
    ∀ k, k < 402 → va_up (gW b aC M r ow) (go K i) el k = gW b aC M' r' ow' k := by
  intro k hk2
  by_cases h : k = go K i
  · subst h
    rw [va_up_self]
    unfold gW
    rw [hk]
    exact hc.symm
  · rw [va_up_ne _ _ h]
    unfold gW
    refine (hn _ _ ?_ (gv_gk k hk2)).symm
    intro q
    apply h
    have h3 := go_gk k hk2
    rw [show (gk k).1 = K from congrArg Prod.fst q, show (gk k).2 = i from congrArg Prod.snd q] at h3
    exact h3.symm
