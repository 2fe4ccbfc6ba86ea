/-! The law's own small methods: a call of the class, its answer or what it threw -/
/-- such a method's contract: its number, the state, the law's long -/
def gLt (l : Launch) (s0 : State) (D : va_G) (aC : Nat → ClassId) (y : MethodName) (cw : Cond) (fr lo : Nat) (av : List Value) (M : gMem) (r : gRef) (ow : Int64) (post : Int32 → gMem → gRef → Int64 → Prop) : Prop :=
  gt_Met l y cw (gRm fr lo 1 6) (fun v U => v = av.toArray ∧ s0.WarmedH U.vm ∧ gWd s0 D aC M r ow U.heap []) (fun _ _ o t => ∃ v M1 r1 ow1, o = .returned (some (.int v)) ∧ gWd s0 D aC M1 r1 ow1 t.heap [] ∧ post v M1 r1 ow1) 1 6 1 6 (fun q => s0.heap.size ≤ q)
theorem gl_of {l : Launch} {s0 : State} {D : va_G} {aC : Nat → ClassId} {a0 : Array Value} (G : gG l s0 D aC a0) {y : MethodName} {cc : ByteArray} {n : Nat} {hh : List (Nat × Nat × Nat × Nat)} {fr lo : Nat} {av : List Value} {M : gMem} {r : gRef} {ow : Int64} {post : Int32 → gMem → gRef → Int64 → Prop}
    (hy : plainName y.cls = true) (hn : (lg_sl av).length ≤ n)
    (body : ∀ p e s m below meth c ls, gB s0 D aC p e s m meth c y.cls cc n (some .int) → c.exceptionTable.toList.map (fun h => (h.startPc, h.endPc, h.handlerPc, h.catchType)) = hh → lv_has ls n (lv_args 0 av) → gWd s0 D aC M r ow s.heap [] →
      W p l e (gRm fr lo 1 6) s m av.toArray below meth c s.heap [] 0 0 (gt_Q below (fun _ o t => ∃ v M1 r1 ow1, o = .returned (some (.int v)) ∧ gWd s0 D aC M1 r1 ow1 t.heap [] ∧ post v M1 r1 ow1) s 1 6 1 6 (fun q => s0.heap.size ≤ q)) (F0 m 0 ls [])) :
    gLt l s0 D aC y (Cond.codeWith y cc n (some .int) hh) fr lo av M r ow post := by
  refine gt_ofWW hy ?_
  intro p e s m args below meth c s₁ B hml hv
  obtain ⟨rfl, hW, hw⟩ := hv
  obtain ⟨m9, meth9, c9, hn9, h1, h2, -, -, h5, -⟩ := Cond.codeWith_spec (atoms_spec (ws := [Cond.codeWith y cc n (some .int) hh]) B.pre _ (List.mem_singleton.mpr rfl))
  cases B.named.symm.trans hn9
  cases B.method.symm.trans h1
  cases (Stand.of_body B).code.symm.trans h2
  rw [lg_entry_eq]
  exact body p e s m below meth c _ ⟨B.exec, B.bytes, hml, B.returns, B.notSynchronized, findClass_of_methodNamed B.named, G.2.1.T.warm hW, va_K.moved hW.alike G.2.2, hW, G.1 e B.admits⟩ h5 (lv_entry av hn) hw
theorem gh_tab1 {l : List ExceptionTableEntry} {a b c d : Nat} (h : l.map (fun h => (h.startPc, h.endPc, h.handlerPc, h.catchType)) = [(a, b, c, d)]) : l = [⟨a, b, c, d⟩] := by
  match l, h with
  | [⟨x, y, z, w⟩], h =>
    simp only [List.map_cons, List.map_nil, List.cons.injEq, Prod.mk.injEq, and_true] at h
    obtain ⟨rfl, rfl, rfl, rfl⟩ := h
    rfl
theorem gh_tab2 {l : List ExceptionTableEntry} {a b c d a2 b2 c2 d2 : Nat} (h : l.map (fun h => (h.startPc, h.endPc, h.handlerPc, h.catchType)) = [(a, b, c, d), (a2, b2, c2, d2)]) : l = [⟨a, b, c, d⟩, ⟨a2, b2, c2, d2⟩] := by
  match l, h with
  | [⟨x, y, z, w⟩, ⟨x2, y2, z2, w2⟩], h =>
    simp only [List.map_cons, List.map_nil, List.cons.injEq, Prod.mk.injEq, and_true] at h
    obtain ⟨⟨rfl, rfl, rfl, rfl⟩, rfl, rfl, rfl, rfl⟩ := h
    rfl
section GLR
variable {p : Program} {l : Launch} {e : Env} {s : State} {m : MethodId} {args : Array Value} {below : List Frame} {meth : Method} {c : Code} {H : Heap} {locs : List Loc} {cells slots : Nat} {Q : State → Prop} {R : Room}
variable {cc : ByteArray} {pc : Nat} {ls : Array Slot} {rest : List Value} {D : va_G} {s0 : State} {aC : Nat → ClassId} {M : gMem} {r : gRef} {ow : Int64} {cls : String} {n : Nat} {post : Int32 → gMem → gRef → Int64 → Prop}
theorem gl_ret {v : Int32} (B : gB s0 D aC p e s m meth c cls cc n (some .int)) (hw : gWd s0 D aC M r ow H locs) (hc : cells ≤ 1) (hs : slots ≤ 6) (hdg : decode cc pc = .ok (.ireturn, 1)) (hp : post v M r ow) : W p l e R s m args below meth c H locs cells slots (gt_Q below (fun _ o t => ∃ v M1 r1 ow1, o = .returned (some (.int v)) ∧ gWd s0 D aC M1 r1 ow1 t.heap [] ∧ post v M1 r1 ow1) s 1 6 1 6 (fun q => s0.heap.size ≤ q)) (F0 m pc ls [.int v]) :=
  gt_iret B.1 B.2.1 B.2.2.2.1 B.2.2.2.2.1 hc hs hw.free hdg (fun t ht => ⟨v, M, r, ow, rfl, by rw [ht]; exact hw.none, hp⟩)
/-- an exception's class can be assigned to itself -/
theorem gh_self {ek : Nat} {nm : String} {cX : ClassId} (T : gT s) (hnm : gEn ek = nm) (hc : s.vm.findClass nm = some cX) : s.vm.assignable cX cX = true := by
  have hb : (Cond.castable nm nm).before #[] s = true := by
    rw [← hnm]
    match ek with
    | 0 => exact kb_IA_IA T
    | 1 => exact kb_IS_IS T
    | q + 2 => exact kb_IO_IO T
  obtain ⟨c3, c4, h3, h4, h5⟩ := Cond.castable_spec hb
  cases h3.symm.trans hc
  cases h4.symm.trans hc
  exact h5
theorem gh_find {ek x : Nat} (B : gB s0 D aC p e s m meth c cls cc n (some .int)) (hE : gE s0 ek x H) : ∃ ce : Cell, H[x]? = some ce ∧ ce.vm = .none ∧ s.vm.findClass (gEn ek) = some ce.cls := by
  obtain ⟨ce, h1, h2, h3⟩ := hE
  exact ⟨ce, h1, h2, by rw [B.2.2.2.2.2.2.2.2.1.alike.findClass]; exact h3⟩
end GLR
