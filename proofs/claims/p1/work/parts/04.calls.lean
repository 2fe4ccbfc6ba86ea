/-! Calls by contract, returning or throwing -/
section GC
variable {p : Program} {l : Launch} {e : Env} {R : Room} {s : State} {m : MethodId} {args : Array Value} {below : List Frame} {meth : Method} {c : Code} {H : Heap} {locs : List Loc} {cells slots : Nat} {Q : State → Prop}
variable {cc : ByteArray} {pc : Nat} {ls : Array Slot} {As rest st : List Value} {y : MethodName} {cw : Cond} {bytes : ByteArray} {maxL mc ms mt st0 : Nat} {ret : Option FieldType} {rm : Room} {Pc : Array Value → State → Prop} {Qc : Array Value → State → Outcome → State → Prop} {free : Addr → Prop} {own C host : String} {index : Nat} {b : Addr} {a : Array Value}
/-- how the walk goes on behind a call -/
def gt_On (p : Program) (l : Launch) (e : Env) (R : Room) (s : State) (m : MethodId) (args : Array Value) (below : List Frame) (meth : Method) (c : Code) (H : Heap) (locs : List Loc) (cells slots mc ms mt st0 : Nat) (Q : State → Prop) (pc : Nat) (ls : Array Slot) (rest : List Value) (Qa : State → Outcome → State → Prop) (free : Addr → Prop) : Prop :=
  (∀ (v : Option Value) (st t : State) (L : List Loc), st.heap = H → Qa st (.returned v) t → (∀ q ∈ L, free q.base) → W p l e R s m args below meth c t.heap (locs ++ L) (cells + mc) (slots + ms) Q (F0 m (pc + 3) ls (v.toList ++ rest))) ∧
  ∀ (x : Addr) (st t : State) (L : List Loc), st.heap = H → Qa st (.threw x) t → (∀ q ∈ L, free q.base) → gt_WT p l e R s m args below meth c t.heap (locs ++ L) (cells + mt) (slots + st0) Q (F0 m pc ls rest) x
theorem gt_core {ig : Instr} {g : JFrame} (hM : gt_Met l y cw rm Pc Qc mc ms mt st0 free) (hb : c.code = cc) (hsize : ls.size = c.maxLocals)
    (hspec : ∀ (U : State) (mk : MethodId), U.methodNamed? y = some mk → cw.before a U = true → ∃ methY cY, U.vm.method? mk = some methY ∧ methY.code = some cY ∧ cY.maxLocals = maxL)
    (hcw : ∀ U : State, s.WarmedH U.vm → cw.before a U = true) (hini : ∀ U : State, s.WarmedH U.vm → (Cond.initialized y.cls).before a U = true)
    (hWd : (rest.map fun v => v.category).sum ≤ 8) (hR : rm.frames + 1 ≤ R.frames ∧ 8 + (maxL + 11) + rm.locals ≤ R.locals) (hC : cells + rm.cells ≤ R.cells ∧ slots + rm.slots ≤ R.slots) (hdg : decode cc pc = .ok (ig, 3))
    (hPc : ∀ U : State, U.heap = H → s.WarmedH U.vm → Pc a U)
    (hstep : ∀ T : State, T.heap = H → Stand p l e R s m args below meth c T locs cells slots → ∃ (vm₁ : Vm) (mk : MethodId), Stand p l e R s m args below meth c (T.setVm vm₁) locs cells slots ∧ (T.setVm vm₁).methodNamed? y = some mk ∧
      ∀ target, (∀ acts, Steps p.tables e below (doInvoke e ((T.setVm vm₁).setTop (F0 m pc ls rest)) acts mk a).1 target) → Steps p.tables e below (T.setTop g) target)
    (k : gt_On p l e R s m args below meth c H locs cells slots mc ms mt st0 Q pc ls rest (Qc a) free) : W p l e R s m args below meth c H locs cells slots Q g := by
  intro T hT X
  obtain ⟨vm₁, mk, X₁, hnamed, hst⟩ := hstep T hT X
  obtain ⟨methY, cY, h1, h2, h3⟩ := hspec _ mk hnamed (hcw _ X₁.warmed)
  obtain ⟨o, t, U', L, X', hL, hh, hq, hsteps⟩ := gt_back hM X₁ (g := F0 m pc ls rest) (Wd := 8) rfl hsize (by rw [hb]; exact hdg) (by
    show 2 * 0 + (rest.map fun v => v.category).sum ≤ 8
    omega) hnamed h1 h2 h3 hR.1 hR.2 hC.1 hC.2 (hcw _ X₁.warmed) (hini _ X₁.warmed) (hPc _ hT X₁.warmed)
  cases o with
  | returned v =>
    obtain ⟨t2, a1, b1⟩ := k.1 v ((T.setVm vm₁).calling (F0 m pc ls rest) mk a) t L hT hq hL U' hh X'
    exact ⟨t2, hst _ (fun acts => by rw [doInvoke_state]; exact hsteps.trans a1), b1⟩
  | threw x =>
    obtain ⟨t2, a1, b1⟩ := k.2 x ((T.setVm vm₁).calling (F0 m pc ls rest) mk a) t L hT hq hL U' hh X'
    exact ⟨t2, hst _ (fun acts => by rw [doInvoke_state]; exact hsteps.trans a1), b1⟩
theorem gt_specC {bytes : ByteArray} {ret : Option FieldType} (U : State) (mk : MethodId) (hn : U.methodNamed? y = some mk) (h : (Cond.code y bytes maxL ret).before a U = true) : ∃ methY cY, U.vm.method? mk = some methY ∧ methY.code = some cY ∧ cY.maxLocals = maxL := by
  obtain ⟨methY, cY, h1, h2, -, h4, -⟩ := Cond.code_spec hn h
  exact ⟨methY, cY, h1, h2, h4⟩
theorem gt_specW {bytes : ByteArray} {ret : Option FieldType} {hh : List (Nat × Nat × Nat × Nat)} (U : State) (mk : MethodId) (hn : U.methodNamed? y = some mk) (h : (Cond.codeWith y bytes maxL ret hh).before a U = true) : ∃ methY cY, U.vm.method? mk = some methY ∧ methY.code = some cY ∧ cY.maxLocals = maxL := by
  obtain ⟨m9, methY, cY, hn9, h1, h2, -, h4, -⟩ := Cond.codeWith_spec h
  cases hn.symm.trans hn9
  exact ⟨methY, cY, h1, h2, h4⟩
/-- a table's word holds at every warmer state -/
theorem gt_word {w : Cond} (hw : (w.onTables && w.keeps) = true) (h : w.before args s = true) {a : Array Value} (U : State) (hW : s.WarmedH U.vm) : w.before a U = true := word_at hW (Or.inl hw) h
/-- invokevirtual -/
theorem gt_callV (hexec : p.tables.exec = Jvm.exec) (hb : c.code = cc) (hsize : ls.size = c.maxLocals) (hown : s.vm.findClass own = some m.cls) (hM : gt_Met l y (Cond.code y bytes maxL ret) rm Pc Qc mc ms mt st0 free)
    (hcode : (Cond.code y bytes maxL ret).before args s = true) (hini : (Cond.initialized y.cls).before args s = true) (hlink : (Cond.methodLink own index y).before args s = true) (hinst : (Cond.instanceMethod y).before args s = true) (hsel : (Cond.selects y.cls y y).before args s = true)
    (hy : y.cls ≠ "java/lang/invoke/MethodHandle" ∧ y.cls ≠ "java/lang/invoke/VarHandle" ∧ (parseMethodDescriptor y.desc).map (fun d => d.parameters.length) = some As.length)
    (hrec : ∃ cell : Cell, H[b]? = some cell ∧ cell.vm.isStatics = false ∧ s.vm.findClass y.cls = some cell.cls) (hst : st = As.reverse ++ .ref b :: rest)
    (hWd : (rest.map fun v => v.category).sum ≤ 8) (hR : rm.frames + 1 ≤ R.frames ∧ 8 + (maxL + 11) + rm.locals ≤ R.locals) (hC : cells + rm.cells ≤ R.cells ∧ slots + rm.slots ≤ R.slots) (hdg : decode cc pc = .ok (.invokevirtual index, 3))
    (hPc : ∀ U : State, U.heap = H → s.WarmedH U.vm → Pc (Value.ref b :: As).toArray U)
    (k : gt_On p l e R s m args below meth c H locs cells slots mc ms mt st0 Q pc ls rest (Qc (Value.ref b :: As).toArray) free) : W p l e R s m args below meth c H locs cells slots Q (F0 m pc ls st) := by
  subst hst
  refine gt_core (maxL := maxL) hM hb hsize gt_specC (gt_word rfl hcode) (gt_word rfl hini) hWd hR hC hdg hPc ?_ k
  intro T hT X
  obtain ⟨mk, methM, hnamed, hmethM, hstM, habM⟩ := Cond.instanceMethod_spec hinst
  obtain ⟨methM', cM, hmethM', -, -, -, -, -, -, hsigM⟩ := Cond.code_spec hnamed hcode
  cases hmethM.symm.trans hmethM'
  obtain ⟨cellB, hcell, hobj, hcls⟩ := hrec
  obtain ⟨c2, r2, m2, q1, q2, q3, q4, kP, hkP, hkPi⟩ := Cond.selects_spec hsel
  cases hcls.symm.trans q1
  cases (State.methodFound?_of_named hnamed ⟨hy.1, hy.2.1⟩).symm.trans q2
  cases hnamed.symm.trans q3
  have hselP : selectMethod e.platform s.vm cellB.cls mk = .method mk := by rw [Launch.admits_selectMethod X.admits]; exact q4
  obtain ⟨vm₁, X₁, hstep₁⟩ := X.invokevirtual hexec hown hlink hnamed hmethM hstM hkP hkPi ⟨hy.1, hy.2.1⟩ (a := b) (cell := cellB) (by rw [hT]; exact hcell)
    (fun z h => by rw [h] at hobj; cases hobj) hselP hmethM habM hkP hkPi (g := F0 m pc ls (As.reverse ++ .ref b :: rest)) rfl (argsL := As) (rest := rest) (by have h9 := hy.2.2; rw [hsigM] at h9; exact (Option.some.inj h9).symm) rfl (by rw [hb]; exact hdg)
  exact ⟨vm₁, mk, X₁, X₁.named hnamed, hstep₁⟩
/-- invokevirtual of a nest mate's private method -/
theorem gt_callVN (hexec : p.tables.exec = Jvm.exec) (hb : c.code = cc) (hsize : ls.size = c.maxLocals) (hown : s.vm.findClass own = some m.cls) (hM : gt_Met l y (Cond.code y bytes maxL ret) rm Pc Qc mc ms mt st0 free)
    (hcode : (Cond.code y bytes maxL ret).before args s = true) (hini : (Cond.initialized y.cls).before args s = true) (hlink : (Cond.methodLinkNest own index y host).before args s = true) (hinst : (Cond.instanceMethod y).before args s = true) (hsel : (Cond.selects y.cls y y).before args s = true)
    (hy : y.cls ≠ "java/lang/invoke/MethodHandle" ∧ y.cls ≠ "java/lang/invoke/VarHandle" ∧ (parseMethodDescriptor y.desc).map (fun d => d.parameters.length) = some As.length)
    (hrec : ∃ cell : Cell, H[b]? = some cell ∧ cell.vm.isStatics = false ∧ s.vm.findClass y.cls = some cell.cls) (hst : st = As.reverse ++ .ref b :: rest)
    (hWd : (rest.map fun v => v.category).sum ≤ 8) (hR : rm.frames + 1 ≤ R.frames ∧ 8 + (maxL + 11) + rm.locals ≤ R.locals) (hC : cells + rm.cells ≤ R.cells ∧ slots + rm.slots ≤ R.slots) (hdg : decode cc pc = .ok (.invokevirtual index, 3))
    (hPc : ∀ U : State, U.heap = H → s.WarmedH U.vm → Pc (Value.ref b :: As).toArray U)
    (k : gt_On p l e R s m args below meth c H locs cells slots mc ms mt st0 Q pc ls rest (Qc (Value.ref b :: As).toArray) free) : W p l e R s m args below meth c H locs cells slots Q (F0 m pc ls st) := by
  subst hst
  refine gt_core (maxL := maxL) hM hb hsize gt_specC (gt_word rfl hcode) (gt_word rfl hini) hWd hR hC hdg hPc ?_ k
  intro T hT X
  obtain ⟨mk, methM, hnamed, hmethM, hstM, habM⟩ := Cond.instanceMethod_spec hinst
  obtain ⟨methM', cM, hmethM', -, -, -, -, -, -, hsigM⟩ := Cond.code_spec hnamed hcode
  cases hmethM.symm.trans hmethM'
  obtain ⟨cellB, hcell, hobj, hcls⟩ := hrec
  obtain ⟨c2, r2, m2, q1, q2, q3, q4, kP, hkP, hkPi⟩ := Cond.selects_spec hsel
  cases hcls.symm.trans q1
  cases (State.methodFound?_of_named hnamed ⟨hy.1, hy.2.1⟩).symm.trans q2
  cases hnamed.symm.trans q3
  have hselP : selectMethod e.platform s.vm cellB.cls mk = .method mk := by rw [Launch.admits_selectMethod X.admits]; exact q4
  obtain ⟨vm₁, X₁, hstep₁⟩ := X.invokevirtualNest hexec hown hlink hnamed hmethM hstM hkP hkPi ⟨hy.1, hy.2.1⟩ (a := b) (cell := cellB) (by rw [hT]; exact hcell)
    (fun z h => by rw [h] at hobj; cases hobj) hselP hmethM habM hkP hkPi (g := F0 m pc ls (As.reverse ++ .ref b :: rest)) rfl (argsL := As) (rest := rest) (by have h9 := hy.2.2; rw [hsigM] at h9; exact (Option.some.inj h9).symm) rfl (by rw [hb]; exact hdg)
  exact ⟨vm₁, mk, X₁, X₁.named hnamed, hstep₁⟩
/-- invokestatic -/
theorem gt_callS (hexec : p.tables.exec = Jvm.exec) (hb : c.code = cc) (hsize : ls.size = c.maxLocals) (hown : s.vm.findClass own = some m.cls) (hM : gt_Met l y (Cond.code y bytes maxL ret) rm Pc Qc mc ms mt st0 free)
    (hcode : (Cond.code y bytes maxL ret).before args s = true) (hini : (Cond.initialized y.cls).before args s = true) (hlink : (Cond.methodLink own index y).before args s = true) (hstat : (Cond.static y).before args s = true)
    (hy : y.cls ≠ "java/lang/invoke/MethodHandle" ∧ y.cls ≠ "java/lang/invoke/VarHandle" ∧ (parseMethodDescriptor y.desc).map (fun d => d.parameters.length) = some As.length) (hst : st = As.reverse ++ rest)
    (hWd : (rest.map fun v => v.category).sum ≤ 8) (hR : rm.frames + 1 ≤ R.frames ∧ 8 + (maxL + 11) + rm.locals ≤ R.locals) (hC : cells + rm.cells ≤ R.cells ∧ slots + rm.slots ≤ R.slots) (hdg : decode cc pc = .ok (.invokestatic index, 3))
    (hPc : ∀ U : State, U.heap = H → s.WarmedH U.vm → Pc As.toArray U)
    (k : gt_On p l e R s m args below meth c H locs cells slots mc ms mt st0 Q pc ls rest (Qc As.toArray) free) : W p l e R s m args below meth c H locs cells slots Q (F0 m pc ls st) := by
  subst hst
  refine gt_core (maxL := maxL) hM hb hsize gt_specC (gt_word rfl hcode) (gt_word rfl hini) hWd hR hC hdg hPc ?_ k
  intro T hT X
  obtain ⟨mk, hnamed⟩ := Cond.code_named hcode
  obtain ⟨methM, cM, hmethM, -, -, -, -, -, -, hsigM⟩ := Cond.code_spec hnamed hcode
  have hstatic : methM.isStatic = true := Cond.static_spec hnamed hmethM hstat
  obtain ⟨kP, hkP, -⟩ := className_of_methodNamed hnamed
  have hinitP : kP.init = .initialized := Cond.initialized_spec (findClass_of_methodNamed hnamed) hkP hini
  obtain ⟨vm₁, X₁, hstep₁⟩ := X.invokestatic hexec hown hlink hnamed hmethM hstatic hkP hinitP ⟨hy.1, hy.2.1⟩ (g := F0 m pc ls (As.reverse ++ rest)) rfl (argsL := As) (rest := rest) (by have h9 := hy.2.2; rw [hsigM] at h9; exact (Option.some.inj h9).symm) rfl (by rw [hb]; exact hdg)
  exact ⟨vm₁, mk, X₁, X₁.named hnamed, hstep₁⟩
theorem gt_callSN (hexec : p.tables.exec = Jvm.exec) (hb : c.code = cc) (hsize : ls.size = c.maxLocals) (hown : s.vm.findClass own = some m.cls) (hM : gt_Met l y (Cond.code y bytes maxL ret) rm Pc Qc mc ms mt st0 free)
    (hcode : (Cond.code y bytes maxL ret).before args s = true) (hini : (Cond.initialized y.cls).before args s = true) (hlink : (Cond.methodLinkNest own index y host).before args s = true) (hstat : (Cond.static y).before args s = true)
    (hy : y.cls ≠ "java/lang/invoke/MethodHandle" ∧ y.cls ≠ "java/lang/invoke/VarHandle" ∧ (parseMethodDescriptor y.desc).map (fun d => d.parameters.length) = some As.length) (hst : st = As.reverse ++ rest)
    (hWd : (rest.map fun v => v.category).sum ≤ 8) (hR : rm.frames + 1 ≤ R.frames ∧ 8 + (maxL + 11) + rm.locals ≤ R.locals) (hC : cells + rm.cells ≤ R.cells ∧ slots + rm.slots ≤ R.slots) (hdg : decode cc pc = .ok (.invokestatic index, 3))
    (hPc : ∀ U : State, U.heap = H → s.WarmedH U.vm → Pc As.toArray U)
    (k : gt_On p l e R s m args below meth c H locs cells slots mc ms mt st0 Q pc ls rest (Qc As.toArray) free) : W p l e R s m args below meth c H locs cells slots Q (F0 m pc ls st) := by
  subst hst
  refine gt_core (maxL := maxL) hM hb hsize gt_specC (gt_word rfl hcode) (gt_word rfl hini) hWd hR hC hdg hPc ?_ k
  intro T hT X
  obtain ⟨mk, hnamed⟩ := Cond.code_named hcode
  obtain ⟨methM, cM, hmethM, -, -, -, -, -, -, hsigM⟩ := Cond.code_spec hnamed hcode
  have hstatic : methM.isStatic = true := Cond.static_spec hnamed hmethM hstat
  obtain ⟨kP, hkP, -⟩ := className_of_methodNamed hnamed
  have hinitP : kP.init = .initialized := Cond.initialized_spec (findClass_of_methodNamed hnamed) hkP hini
  obtain ⟨vm₁, X₁, hstep₁⟩ := X.invokestaticNest hexec hown hlink hnamed hmethM hstatic hkP hinitP ⟨hy.1, hy.2.1⟩ (g := F0 m pc ls (As.reverse ++ rest)) rfl (argsL := As) (rest := rest) (by have h9 := hy.2.2; rw [hsigM] at h9; exact (Option.some.inj h9).symm) rfl (by rw [hb]; exact hdg)
  exact ⟨vm₁, mk, X₁, X₁.named hnamed, hstep₁⟩
/-- a static method with an exception table -/
theorem gt_callSW {hh : List (Nat × Nat × Nat × Nat)} (hexec : p.tables.exec = Jvm.exec) (hb : c.code = cc) (hsize : ls.size = c.maxLocals) (hown : s.vm.findClass own = some m.cls) (hM : gt_Met l y (Cond.codeWith y bytes maxL ret hh) rm Pc Qc mc ms mt st0 free)
    (hcode : (Cond.codeWith y bytes maxL ret hh).before args s = true) (hini : (Cond.initialized y.cls).before args s = true) (hlink : (Cond.methodLink own index y).before args s = true) (hstat : (Cond.static y).before args s = true)
    (hy : y.cls ≠ "java/lang/invoke/MethodHandle" ∧ y.cls ≠ "java/lang/invoke/VarHandle" ∧ (parseMethodDescriptor y.desc).map (fun d => d.parameters.length) = some As.length) (hst : st = As.reverse ++ rest)
    (hWd : (rest.map fun v => v.category).sum ≤ 8) (hR : rm.frames + 1 ≤ R.frames ∧ 8 + (maxL + 11) + rm.locals ≤ R.locals) (hC : cells + rm.cells ≤ R.cells ∧ slots + rm.slots ≤ R.slots) (hdg : decode cc pc = .ok (.invokestatic index, 3))
    (hPc : ∀ U : State, U.heap = H → s.WarmedH U.vm → Pc As.toArray U)
    (k : gt_On p l e R s m args below meth c H locs cells slots mc ms mt st0 Q pc ls rest (Qc As.toArray) free) : W p l e R s m args below meth c H locs cells slots Q (F0 m pc ls st) := by
  subst hst
  refine gt_core (maxL := maxL) hM hb hsize gt_specW (gt_word rfl hcode) (gt_word rfl hini) hWd hR hC hdg hPc ?_ k
  intro T hT X
  obtain ⟨mk, methM, cM, hnamed, hmethM, -, -, -, -, -, -, hsigM⟩ := Cond.codeWith_spec hcode
  have hstatic : methM.isStatic = true := Cond.static_spec hnamed hmethM hstat
  obtain ⟨kP, hkP, -⟩ := className_of_methodNamed hnamed
  have hinitP : kP.init = .initialized := Cond.initialized_spec (findClass_of_methodNamed hnamed) hkP hini
  obtain ⟨vm₁, X₁, hstep₁⟩ := X.invokestatic hexec hown hlink hnamed hmethM hstatic hkP hinitP ⟨hy.1, hy.2.1⟩ (g := F0 m pc ls (As.reverse ++ rest)) rfl (argsL := As) (rest := rest) (by have h9 := hy.2.2; rw [hsigM] at h9; exact (Option.some.inj h9).symm) rfl (by rw [hb]; exact hdg)
  exact ⟨vm₁, mk, X₁, X₁.named hnamed, hstep₁⟩
/-- invokespecial of a constructor -/
theorem gt_callI (hexec : p.tables.exec = Jvm.exec) (hb : c.code = cc) (hsize : ls.size = c.maxLocals) (hown : s.vm.findClass own = some m.cls) (hM : gt_Met l y (Cond.code y bytes maxL none) rm Pc Qc mc ms mt st0 free)
    (hcode : (Cond.code y bytes maxL none).before args s = true) (hini : (Cond.initialized y.cls).before args s = true) (hlink : (Cond.methodLink own index y).before args s = true) (hinst : (Cond.instanceMethod y).before args s = true) (hy1 : y.name = "<init>")
    (hy : y.cls ≠ "java/lang/invoke/MethodHandle" ∧ y.cls ≠ "java/lang/invoke/VarHandle" ∧ (parseMethodDescriptor y.desc).map (fun d => d.parameters.length) = some As.length) (hst : st = As.reverse ++ .ref b :: rest)
    (hWd : (rest.map fun v => v.category).sum ≤ 8) (hR : rm.frames + 1 ≤ R.frames ∧ 8 + (maxL + 11) + rm.locals ≤ R.locals) (hC : cells + rm.cells ≤ R.cells ∧ slots + rm.slots ≤ R.slots) (hdg : decode cc pc = .ok (.invokespecial index, 3))
    (hPc : ∀ U : State, U.heap = H → s.WarmedH U.vm → Pc (Value.ref b :: As).toArray U)
    (k : gt_On p l e R s m args below meth c H locs cells slots mc ms mt st0 Q pc ls rest (Qc (Value.ref b :: As).toArray) free) : W p l e R s m args below meth c H locs cells slots Q (F0 m pc ls st) := by
  subst hst
  refine gt_core (maxL := maxL) hM hb hsize gt_specC (gt_word rfl hcode) (gt_word rfl hini) hWd hR hC hdg hPc ?_ k
  intro T hT X
  have hpl : e.platform.magicAccessors = ({} : Platform).magicAccessors := by rw [X.admits.platform]
  have hlen : ∀ sig, parseMethodDescriptor y.desc = some sig → As.length = sig.parameters.length := fun sig h => by have h9 := hy.2.2; rw [h] at h9; exact (Option.some.inj h9).symm
  obtain ⟨mk, methM, cM, kP, vm₁, hnamed, hmethM, hcodeM, -, hlocalsM, -, hkP, -, hW₁, hstep₁⟩ := Steps.initColdArgs (e := e) X.here hexec X.warmed hpl hown hy1 ⟨hy.1, hy.2.1⟩ hlink hinst hcode (f := F0 m pc ls (As.reverse ++ .ref b :: rest)) rfl hlen rfl (by rw [hb]; exact hdg)
  have X₁ := X.noted hW₁
  exact ⟨vm₁, mk, X₁, X₁.named hnamed, hstep₁⟩
theorem gt_callIN (hexec : p.tables.exec = Jvm.exec) (hb : c.code = cc) (hsize : ls.size = c.maxLocals) (hown : s.vm.findClass own = some m.cls) (hM : gt_Met l y (Cond.code y bytes maxL none) rm Pc Qc mc ms mt st0 free)
    (hcode : (Cond.code y bytes maxL none).before args s = true) (hini : (Cond.initialized y.cls).before args s = true) (hlink : (Cond.methodLinkNest own index y host).before args s = true) (hinst : (Cond.instanceMethod y).before args s = true) (hy1 : y.name = "<init>")
    (hy : y.cls ≠ "java/lang/invoke/MethodHandle" ∧ y.cls ≠ "java/lang/invoke/VarHandle" ∧ (parseMethodDescriptor y.desc).map (fun d => d.parameters.length) = some As.length) (hst : st = As.reverse ++ .ref b :: rest)
    (hWd : (rest.map fun v => v.category).sum ≤ 8) (hR : rm.frames + 1 ≤ R.frames ∧ 8 + (maxL + 11) + rm.locals ≤ R.locals) (hC : cells + rm.cells ≤ R.cells ∧ slots + rm.slots ≤ R.slots) (hdg : decode cc pc = .ok (.invokespecial index, 3))
    (hPc : ∀ U : State, U.heap = H → s.WarmedH U.vm → Pc (Value.ref b :: As).toArray U)
    (k : gt_On p l e R s m args below meth c H locs cells slots mc ms mt st0 Q pc ls rest (Qc (Value.ref b :: As).toArray) free) : W p l e R s m args below meth c H locs cells slots Q (F0 m pc ls st) := by
  subst hst
  refine gt_core (maxL := maxL) hM hb hsize gt_specC (gt_word rfl hcode) (gt_word rfl hini) hWd hR hC hdg hPc ?_ k
  intro T hT X
  have hpl : e.platform.magicAccessors = ({} : Platform).magicAccessors := by rw [X.admits.platform]
  have hlen : ∀ sig, parseMethodDescriptor y.desc = some sig → As.length = sig.parameters.length := fun sig h => by have h9 := hy.2.2; rw [h] at h9; exact (Option.some.inj h9).symm
  obtain ⟨mk, methM, cM, kP, vm₁, hnamed, hmethM, hcodeM, -, hlocalsM, -, hkP, -, hW₁, hstep₁⟩ := Steps.initColdArgsNest (e := e) X.here hexec X.warmed hpl hown hy1 ⟨hy.1, hy.2.1⟩ hlink hinst hcode (f := F0 m pc ls (As.reverse ++ .ref b :: rest)) rfl hlen rfl (by rw [hb]; exact hdg)
  have X₁ := X.noted hW₁
  exact ⟨vm₁, mk, X₁, X₁.named hnamed, hstep₁⟩
end GC
