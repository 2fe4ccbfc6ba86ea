/-! What a method does, as a function over the state: returned, thrown, or not within the rules -/
def gO (α : Type) : Type := Option (Sum (α × gMem × gRef) (Nat × gMem × gRef))
def gO.ok {α : Type} (v : α) (M : gMem) (r : gRef) : gO α := some (Sum.inl (v, M, r))
def gO.ex {α : Type} (k : Nat) (M : gMem) (r : gRef) : gO α := some (Sum.inr (k, M, r))
def gO.no {α : Type} : gO α := none
def gO.bnd {α β : Type} (x : gO α) (f : α → gMem → gRef → gO β) : gO β := match (x : Option (Sum (α × gMem × gRef) (Nat × gMem × gRef))) with
  | some (Sum.inl (v, M, r)) => f v M r
  | some (Sum.inr (k, M, r)) => .ex k M r
  | none => .no
noncomputable def gd {α : Type} (P : Prop) (x : gO α) : gO α := @ite (gO α) P (Classical.propDecidable P) x .no
def gcs {α : Type} (x : Option Nat) (a : α) (f : Nat → α) : α := match x with
  | none => a
  | some k => f k
def gsm {α β γ : Type} (x : Sum α β) (f : α → γ) (g : β → γ) : γ := match x with
  | .inl v => f v
  | .inr v => g v
theorem bnd_ok {α β : Type} {x : gO α} {f : α → gMem → gRef → gO β} {v : α} {M : gMem} {r : gRef} (h : x = .ok v M r) : gO.bnd x f = f v M r := by rw [h]; rfl
theorem bnd_ex {α β : Type} {x : gO α} {f : α → gMem → gRef → gO β} {k : Nat} {M : gMem} {r : gRef} (h : x = .ex k M r) : gO.bnd x f = .ex k M r := by rw [h]; rfl
theorem bnc {α β : Type} {x y : gO α} {f : α → gMem → gRef → gO β} (h : x = y) : gO.bnd x f = gO.bnd y f := by rw [h]
theorem nn {α β : Type} {F : gO β} {x : gO α} {f : α → gMem → gRef → gO β} (hno : F ≠ .no) (hF : F = gO.bnd x f) : x ≠ .no := by
  intro q; exact hno (by rw [hF, q]; rfl)
theorem nn2 {α β γ : Type} {F : gO β} {x : gO γ} {f : γ → gMem → gRef → gO α} {g : α → gMem → gRef → gO β} (hno : F ≠ .no) (hF : F = gO.bnd (gO.bnd x f) g) : x ≠ .no := by
  intro q; exact hno (by rw [hF, q]; rfl)
theorem gd_yes {α : Type} {P : Prop} {x : gO α} (h : P) : gd P x = x := @if_pos P (Classical.propDecidable P) h _ _ _
theorem ng {β : Type} {F : gO β} {P : Prop} {x : gO β} (hno : F ≠ .no) (hF : F = gd P x) : P := by
  by_cases h : P
  · exact h
  · exact absurd (hF.trans (@if_neg P (Classical.propDecidable P) h _ _ _)) hno
theorem ng2 {α β : Type} {F : gO β} {P : Prop} {x : gO α} {g : α → gMem → gRef → gO β} (hno : F ≠ .no) (hF : F = gO.bnd (gd P x) g) : P := by
  by_cases h : P
  · exact h
  · exact absurd (hF.trans (bnc (@if_neg P (Classical.propDecidable P) h _ _ _))) hno
theorem gcs_none {α : Type} {x : Option Nat} {a : α} {f : Nat → α} (h : x = none) : gcs x a f = a := by rw [h]; rfl
theorem gcs_some {α : Type} {x : Option Nat} {a : α} {f : Nat → α} {k : Nat} (h : x = some k) : gcs x a f = f k := by rw [h]; rfl
def iC (x : Int32) : Int32 := (x.toUInt32 % 65536).toInt32
theorem vin_lt {x : Int32} {n : Nat} (h : vp_in x n) : x.toNatClampNeg < n := Nat.lt_of_not_le (fun q => h (Or.inr q))
theorem iC_ok {x : Int32} (h : cOK x) : iC x = x := i2c_ok h
def gNc (x : Int32) : Prop := narrow .char (.int x) = .int x
def gNb (x : Int32) : Prop := narrow .boolean (.int x) = .int x
theorem gNc_ok {x : Int32} (h : cOK x) : gNc x := h.nar
theorem gNb_0 : gNb 0 := rfl
theorem gNb_1 : gNb 1 := rfl
/-- how a function's outcome is said in a contract -/
def qI (F : gO Int32) : Option Value → gMem → gRef → Prop := fun v M1 r1 => ∃ x, v = some (.int x) ∧ F = .ok x M1 r1
def qV (F : gO Unit) : Option Value → gMem → gRef → Prop := fun v M1 r1 => v = none ∧ F = .ok () M1 r1
def qE (b : Nat) (F : gO (Option Nat)) : Option Value → gMem → gRef → Prop := fun v M1 r1 => ∃ o, v = some (va_rf (gq b oEl o)) ∧ F = .ok o M1 r1
def qA (b : Nat) (F : gO (Option Nat)) : Option Value → gMem → gRef → Prop := fun v M1 r1 => ∃ o, v = some (va_rf (gq b oAt o)) ∧ F = .ok o M1 r1
def qT {α : Type} (F : gO α) : Nat → gMem → gRef → Prop := fun ek M1 r1 => F = .ex ek M1 r1
theorem gsw5 {x : Int32} (h0 : ¬ x = 0) (h1 : ¬ x = 1) (h2 : ¬ x = 2) (h3 : ¬ x = 3) (h4 : ¬ x = 4) : x.toInt < 0 ∨ 4 < x.toInt := by
  rw [← Int32.toInt_inj] at h0 h1 h2 h3 h4
  have e0 : (0 : Int32).toInt = 0 := rfl
  have e1 : (1 : Int32).toInt = 1 := rfl
  have e2 : (2 : Int32).toInt = 2 := rfl
  have e3 : (3 : Int32).toInt = 3 := rfl
  have e4 : (4 : Int32).toInt = 4 := rfl
  omega
def gSt : List (List Int32) := [[60, 33, 45, 45], [45, 45, 62], [120, 109, 108, 110, 115], [38, 108, 116, 59], [38, 103, 116, 59], [38, 97, 109, 112, 59], [38, 113, 117, 111, 116, 59], [38, 97, 112, 111, 115, 59], [38, 35, 120], [38, 35], [47], [120, 109, 108], [61, 34], [38, 35, 120, 65, 59], [60, 47], [60, 33, 91, 67, 68, 65, 84, 65, 91], [93, 93, 62], [120, 109, 108, 110, 115], [38, 97, 109, 112, 59], [38, 108, 116, 59], [38, 103, 116, 59], [38, 113, 117, 111, 116, 59], [60, 47]]
def gSn : Nat := 23
def F_St_length (_ : Nat) (q : Nat) (M : gMem) (r : gRef) : gO Int32 := .ok (nI (gSt.getD q []).length) M r
noncomputable def F_St_charAt (_ : Nat) (q : Nat) (x : Int32) (M : gMem) (r : gRef) : gO Int32 := gd (vp_in x (gSt.getD q []).length) (.ok ((gSt.getD q []).getD x.toNatClampNeg 0) M r)
def F_Ma_min (_ : Nat) (x y : Int32) (M : gMem) (r : gRef) : gO Int32 := .ok (if x ≤ y then x else y) M r
