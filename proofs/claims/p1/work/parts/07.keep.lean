/-! What is known of the law's start, at every later state -/
/-- U is a state behind the law's start s0: warmer tables, the old cells as they were -/
def gX (s0 U : State) : Prop := s0.WarmedH U.vm ∧ ∀ q, q < s0.heap.size → U.heap[q]? = s0.heap[q]?
theorem gX.warm {s0 s U : State} (h : gX s0 s) (hW : s.WarmedH U.vm) (hH : ∀ q, q < s0.heap.size → U.heap[q]? = s0.heap[q]?) : gX s0 U := ⟨State.WarmedH.trans h.1 hW, hH⟩
theorem gX_statics {s0 U : State} (h : gX s0 U) {O f d : String} {a0 : Array Value} (hl : (Cond.laysStatic O f d).before a0 s0 = true) :
    ∃ c k i fd a cell, U.vm.findClass O = some c ∧ U.fieldFound? O f d = some (c, k, i, fd) ∧ fd.isStatic = true ∧ k.statics = some a ∧ U.heap[a]? = some cell ∧ cell.vm.isStatics = true ∧ cell.cls = c ∧ fd.slot < cell.slots.size ∧ k.staticTypes[fd.slot]? = some fd.type ∧
      (∃ k0, s0.fieldFound? O f d = some (c, k0, i, fd) ∧ k0.statics = some a) ∧ s0.heap[a]? = some cell := by
  obtain ⟨c, k, i, fd, a, cell, hc, hi, hst, ha, hcell, hs, hcls, hlt, hty⟩ := Cond.laysStatic_spec hl
  obtain ⟨k', hi', hek⟩ := State.fieldFound?_setVm h.1.alike hi
  exact ⟨c, k', i, fd, a, cell, by rw [h.1.alike.findClass]; exact hc, hi', hst, by rw [hek]; exact ha, by rw [h.2 a (Array.getElem?_eq_some_iff.mp hcell).1]; exact hcell, hs, hcls, hlt, by rw [hek]; exact hty, ⟨k, hi, ha⟩, hcell⟩
theorem gX_lays {s0 U : State} (h : gX s0 U) {O f d : String} {a0 a1 : Array Value} (hl : (Cond.laysStatic O f d).before a0 s0 = true) : (Cond.laysStatic O f d).before a1 U = true := by
  obtain ⟨c, k, i, fd, a, cell, hc, hi, hst, ha, hcell, hs, hcls, hlt, hty, -⟩ := gX_statics h hl
  exact Cond.laysStatic_of hc hi hst ha hcell hs hcls hlt hty
theorem gX_isRef {s0 U : State} (h : gX s0 U) {O f d : String} {a0 a1 : Array Value} (hl : (Cond.laysStatic O f d).before a0 s0 = true) (hr : (Cond.isRef (.static O f d)).before a0 s0 = true) : (Cond.isRef (.static O f d)).before a1 U = true := by
  obtain ⟨c, k, i, fd, a, cell, hc, hi, hst, ha, hcell, hs, hcls, hlt, hty, ⟨k0, hi0, ha0⟩, hcell0⟩ := gX_statics h hl
  obtain ⟨u, hu⟩ := Cond.staticRefV hi0 hst ha0 hcell0 hs hr
  have he : (Term.static O f d).eval a1 U none [] U = cell.slots[fd.slot]? := by
    simp [Term.eval, State.fieldNamed?, hi, hst, ha, hcell, hs]
  have h2 : (Cond.isRef (.static O f d)).holds a1 U none U [] = true := by
    obtain ⟨v, ok⟩ := u
    have hu : cell.slots[fd.slot]? = some v := hu
    cases v <;> first | (cases ok; done) | simp [Cond.holds, Cond.value, he, hu]
  exact h2
theorem gX_notCast {s0 U : State} (h : gX s0 U) {A B : String} {a0 : Array Value} (hr : (Cond.not (Cond.castable A B)).before a0 s0 = true) : ∀ c t : ClassId, U.vm.findClass A = some c → U.vm.findClass B = some t → U.vm.assignable c t = false := by
  intro c t hc ht
  obtain ⟨c2, t2, h1, h2, h3⟩ := va_Nc.moved h.1.alike (va_Nc.of hr)
  cases hc.symm.trans h1
  cases ht.symm.trans h2
  exact h3
