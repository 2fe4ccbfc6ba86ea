/-! Handlers whose class may still be to be resolved -/
section GHC
theorem gh_go {E : CtlPost} {e : Env} {d : Bool} {acts : List Action} {s : State} {f : JFrame} {a : Addr} {Q : Handler → Pre} {x : ExceptionTableEntry} {t : List ExceptionTableEntry} {c : ClassId} {cell : Cell} (hx : covers x f.pc = true) (h0 : x.catchType ≠ 0)
    (hl : s.vm.ClassLinks e.platform f.method.cls x.catchType c) (hcell : s.heap[a]? = some cell) (hobj : ∀ k, cell.vm ≠ .statics k)
    (hk : ∃ k, (s.vm.noted f.method.cls x.catchType (.cls c)).classes[cell.cls]? = some k) (hc : ∃ k, (s.vm.noted f.method.cls x.catchType (.cls c)).classes[c]? = some k) :
    wp (findHandler.go f a (x :: t)) Q E e d acts s ↔
      if (s.vm.noted f.method.cls x.catchType (.cls c)).assignable cell.cls c = true then Q (.found x.handlerPc) d acts (s.setVm (s.vm.noted f.method.cls x.catchType (.cls c))) else wp (findHandler.go f a t) Q E e d acts (s.setVm (s.vm.noted f.method.cls x.catchType (.cls c))) := by
  have hsz : (s.vm.noted f.method.cls x.catchType (.cls c)).classes.size ≤ s.vm.classes.size := by no_record
  obtain ⟨ha, ht⟩ := (resolveClass_links e.toSetting hl).op (op := VmOp.resolveClass f.method.cls x.catchType) rfl
  simp only [covers] at hx
  cases hfit : (s.vm.noted f.method.cls x.catchType (.cls c)).assignable cell.cls c <;>
    simp [findHandler.go, hx, h0, ha, ht, hsz, hcell, hobj, hk, hc, hfit, VmOp.dirties, VmOp.acts]
/-- the search finds h, and leaves the tables vm' -/
def gh_Finds (e : Env) (s : State) (f : JFrame) (a : Addr) (h : Handler) (vm' : Vm) : Prop :=
  ∀ (Q : Handler → Pre) (E : CtlPost) (d : Bool) (acts : List Action), wp (findHandler f a) Q E e d acts s ↔ Q h d acts (s.setVm vm')
theorem gh_step {e : Env} {s : State} {a : Addr} {f : JFrame} {r : List Frame} {pc : Nat} {vm' : Vm} (hfind : gh_Finds e s f a (.found pc) vm') :
    (stepThrowing e s a (.java f :: r)).Is ((s.setVm vm').setFrames (.java { f with pc := pc, stack := [.ref a] } :: r)) [] := by
  simp only [stepThrowing, searchFrame, vmDo]
  generalize hr : Sem.go _ e false [] s = res
  obtain ⟨as, rfl, ha⟩ := Sem.eq_ok_of hr (a := Handler.found pc) (s' := s.setVm vm') (acts' := []) (by simp [hfind _ _ _ _])
  exact ⟨rfl, ha⟩
theorem gh_caught {tb : Tables} {e : Env} {s target : State} {g : JFrame} {c : Code} {below : List Frame} {a : Addr} (h : At s g.method c below) {pc : Nat} {vm' : Vm} (hfind : gh_Finds e ((s.setTop g).pushFrame (.throwing a)) g a (.found pc) vm')
    (hrest : Steps tb e below ((s.setVm vm').setTop { g with pc := pc, stack := [.ref a] }) target) :
    Steps tb e below ((s.setTop g).pushFrame (.throwing a)) target := by
  obtain ⟨hgo, hw⟩ := h.throwing a
  refine Steps.head hgo hw ?_
  rw [stepThread_throwing (frames_entered h.top _), (gh_step hfind).1]
  obtain ⟨g₀, hg⟩ := Option.isSome_iff_exists.mp h.top
  obtain ⟨r, hr⟩ := State.topJava?_eq_some.mp hg
  have hr' : (s.setVm vm').frames = .java g₀ :: r := hr
  rw [State.setTop_of_frames _ hr'] at hrest
  rw [show ((s.setTop g).pushFrame (.throwing a)).setVm vm' = ((s.setVm vm').setTop g).pushFrame (.throwing a) from rfl, State.pushFrame, State.setFrames_setFrames, State.setTop_of_frames _ hr', State.setFrames_setFrames, hr]
  exact hrest
/-- one entry, which takes the exception -/
theorem gh_one {e : Env} {s : State} {f : JFrame} {a : Addr} {meth : Method} {code : Code} {x : ExceptionTableEntry} {t : List ExceptionTableEntry} {c : ClassId} {cell : Cell} (hm : s.vm.method? f.method = some meth) (hc : meth.code = some code) (htab : code.exceptionTable.toList = x :: t) (hx : covers x f.pc = true) (h0 : x.catchType ≠ 0)
    (hl : s.vm.ClassLinks e.platform f.method.cls x.catchType c) (hcell : s.heap[a]? = some cell) (hobj : ∀ k, cell.vm ≠ .statics k)
    (hk : ∃ k, (s.vm.noted f.method.cls x.catchType (.cls c)).classes[cell.cls]? = some k) (hk2 : ∃ k, (s.vm.noted f.method.cls x.catchType (.cls c)).classes[c]? = some k) (hfit : (s.vm.noted f.method.cls x.catchType (.cls c)).assignable cell.cls c = true) :
    gh_Finds e s f a (.found x.handlerPc) (s.vm.noted f.method.cls x.catchType (.cls c)) := by
  intro Q E d acts
  rw [W.findHandler_eq hm hc, htab, gh_go hx h0 hl hcell hobj hk hk2, if_pos hfit]
/-- the first entry passes the exception by, the second takes it -/
theorem gh_two {e : Env} {s : State} {f : JFrame} {a : Addr} {meth : Method} {code : Code} {x y : ExceptionTableEntry} {t : List ExceptionTableEntry} {c c2 : ClassId} {cell : Cell} {v1 v2 : Vm} (hm : s.vm.method? f.method = some meth) (hc : meth.code = some code) (htab : code.exceptionTable.toList = x :: y :: t) (hx : covers x f.pc = true) (h0 : x.catchType ≠ 0) (hy : covers y f.pc = true) (hy0 : y.catchType ≠ 0)
    (hl : s.vm.ClassLinks e.platform f.method.cls x.catchType c) (hv1 : s.vm.noted f.method.cls x.catchType (.cls c) = v1) (hl2 : v1.ClassLinks e.platform f.method.cls y.catchType c2) (hv2 : v1.noted f.method.cls y.catchType (.cls c2) = v2) (hcell : s.heap[a]? = some cell) (hobj : ∀ k, cell.vm ≠ .statics k)
    (hk : ∃ k, v1.classes[cell.cls]? = some k) (hk1 : ∃ k, v1.classes[c]? = some k) (hno : v1.assignable cell.cls c = false) (hk2 : ∃ k, v2.classes[cell.cls]? = some k) (hk3 : ∃ k, v2.classes[c2]? = some k) (hfit : v2.assignable cell.cls c2 = true) :
    gh_Finds e s f a (.found y.handlerPc) v2 := by
  intro Q E d acts
  rw [W.findHandler_eq hm hc, htab, gh_go hx h0 hl hcell hobj (by rw [hv1]; exact hk) (by rw [hv1]; exact hk1), hv1, if_neg (by rw [hno]; decide)]
  refine (gh_go (s := s.setVm v1) hy hy0 hl2 hcell hobj (by show ∃ k, (v1.noted f.method.cls y.catchType (.cls c2)).classes[cell.cls]? = some k; rw [hv2]; exact hk2) (by show ∃ k, (v1.noted f.method.cls y.catchType (.cls c2)).classes[c2]? = some k; rw [hv2]; exact hk3)).trans ?_
  show (if (v1.noted f.method.cls y.catchType (.cls c2)).assignable cell.cls c2 = true then Q (.found y.handlerPc) d acts ((s.setVm v1).setVm (v1.noted f.method.cls y.catchType (.cls c2))) else _) ↔ _
  rw [hv2, if_pos hfit]
  exact Iff.rfl
end GHC
section GHW
variable {p : Program} {l : Launch} {e : Env} {R : Room} {s : State} {m : MethodId} {args : Array Value} {below : List Frame} {meth : Method} {c : Code} {H : Heap} {locs : List Loc} {cells slots : Nat} {Q : State → Prop} {pc : Nat} {ls : Array Slot} {rest : List Value}
/-- the class that a handler names, at a warmer state: found, and noted -/
theorem gh_link {T : State} (X : Stand p l e R s m args below meth c T locs cells slots) {own nm : String} {ix : Nat} {cT : ClassId} (hown : s.vm.findClass own = some m.cls) (hlink : (Cond.classLink own ix nm).before args s = true) (hcT : s.vm.findClass nm = some cT) {vm1 : Vm} (hW1 : s.WarmedH vm1) :
    vm1.ClassLinks e.platform m.cls ix cT ∧ s.WarmedH (vm1.noted m.cls ix (.cls cT)) ∧ ∃ k, (vm1.noted m.cls ix (.cls cT)).classes[cT]? = some k := by
  have hpl : e.platform.magicAccessors = ({} : Platform).magicAccessors := by rw [X.admits.platform]
  obtain ⟨c', hc', hcl⟩ := Cond.classLink_spec hown hlink e.platform hpl
  cases hcT.symm.trans hc'
  obtain ⟨dk, _, _, kt, hd, _, _, _, _, hkt, _, hopen⟩ := hcl.here
  have hW' : s.WarmedH (vm1.noted m.cls ix (.cls cT)) := hW1.noted hd hopen (State.rightAt_cls hcl)
  obtain ⟨kt', hkt', -⟩ := hW'.alike.2.2 _ _ hkt
  exact ⟨hW1.classLinks hcl, hW', kt', hkt'⟩
/-- caught by the first entry -/
theorem gh_catch1 {x : Addr} {own nm : String} {cell : Cell} {cT : ClassId} {en : ExceptionTableEntry} {t : List ExceptionTableEntry} (htab : c.exceptionTable.toList = en :: t) (hcov : covers en pc = true) (h0 : en.catchType ≠ 0)
    (hown : s.vm.findClass own = some m.cls) (hlink : (Cond.classLink own en.catchType nm).before args s = true) (hcT : s.vm.findClass nm = some cT) (hcell : H[x]? = some cell) (hvm : cell.vm = .none) (hcls : s.vm.findClass nm = some cell.cls) (hfit : s.vm.assignable cell.cls cT = true)
    (k : W p l e R s m args below meth c H locs cells slots Q (F0 m en.handlerPc ls [.ref x])) : gt_WT p l e R s m args below meth c H locs cells slots Q (F0 m pc ls rest) x := by
  intro T hT X
  obtain ⟨h1, h2, h3⟩ := gh_link X hown hlink hcT X.warmed
  obtain ⟨t2, a1, b1⟩ := k (T.setVm (T.vm.noted m.cls en.catchType (.cls cT))) hT (X.noted h2)
  cases hcls.symm.trans hcT
  refine ⟨t2, gh_caught (g := F0 m pc ls rest) X.here (gh_one (meth := meth) (code := c) (cell := cell) X.method' X.code htab hcov h0 h1 (by show T.heap[x]? = _; rw [hT]; exact hcell) (fun k hk => by rw [hvm] at hk; cases hk) h3 h3 ?_) a1, b1⟩
  show (T.vm.noted m.cls en.catchType (.cls cell.cls)).assignable cell.cls cell.cls = true
  rw [h2.alike.assignable]
  exact hfit
/-- caught by the second entry: the first one's class is another -/
theorem gh_catch2 {x : Addr} {own nm nm2 : String} {cell : Cell} {cT : ClassId} {en en2 : ExceptionTableEntry} {t : List ExceptionTableEntry} (htab : c.exceptionTable.toList = en :: en2 :: t) (hcov : covers en pc = true) (h0 : en.catchType ≠ 0) (hcov2 : covers en2 pc = true) (h02 : en2.catchType ≠ 0)
    (hown : s.vm.findClass own = some m.cls) (hlink : (Cond.classLink own en.catchType nm).before args s = true) (hcT : s.vm.findClass nm = some cT) (hlink2 : (Cond.classLink own en2.catchType nm2).before args s = true) (hcell : H[x]? = some cell) (hvm : cell.vm = .none) (hcls : s.vm.findClass nm2 = some cell.cls) (hno : s.vm.assignable cell.cls cT = false) (hfit : s.vm.assignable cell.cls cell.cls = true)
    (k : W p l e R s m args below meth c H locs cells slots Q (F0 m en2.handlerPc ls [.ref x])) : gt_WT p l e R s m args below meth c H locs cells slots Q (F0 m pc ls rest) x := by
  intro T hT X
  obtain ⟨h1, h2, h3⟩ := gh_link X hown hlink hcT X.warmed
  obtain ⟨g1, g2, g3⟩ := gh_link X hown hlink2 hcls h2
  obtain ⟨kx, hkx⟩ := Vm.classAt_of_findClass hcls
  obtain ⟨k1, hk1, -⟩ := h2.alike.2.2 _ _ hkx
  obtain ⟨t2, a1, b1⟩ := k (T.setVm ((T.vm.noted m.cls en.catchType (.cls cT)).noted m.cls en2.catchType (.cls cell.cls))) hT (X.noted g2)
  refine ⟨t2, gh_caught (g := F0 m pc ls rest) X.here (gh_two (meth := meth) (code := c) (cell := cell) X.method' X.code htab hcov h0 hcov2 h02 h1 rfl g1 rfl (by show T.heap[x]? = _; rw [hT]; exact hcell) (fun k hk => by rw [hvm] at hk; cases hk) ⟨k1, hk1⟩ h3 ?_ g3 g3 ?_) a1, b1⟩
  · show (T.vm.noted m.cls en.catchType (.cls cT)).assignable cell.cls cT = false
    rw [h2.alike.assignable]
    exact hno
  · show ((T.vm.noted m.cls en.catchType (.cls cT)).noted m.cls en2.catchType (.cls cell.cls)).assignable cell.cls cell.cls = true
    rw [g2.alike.assignable]
    exact hfit
end GHW
