/-! A walk begun anew at the state where it stands; throwing a new exception with a message; calls that may throw; handlers -/
section GR
variable {p : Program} {l : Launch} {e : Env} {R : Room} {s : State} {m : MethodId} {args : Array Value} {below : List Frame} {meth : Method} {c : Code} {T : State} {H : Heap} {locs : List Loc} {cells slots : Nat} {Q : State → Prop}
theorem gt_rebase (X : Stand p l e R s m args below meth c T locs cells slots) {R' : Room} (h1 : R'.frames ≤ R.frames) (h2 : R'.locals ≤ R.locals) (h3 : cells + R'.cells ≤ R.cells) (h4 : slots + R'.slots ≤ R.slots) :
    Stand p l e R' (T.setFrames (.invoking m args :: below)) m args below meth c T [] 0 0 := by
  obtain ⟨g₀, hfr⟩ := X.frames_eq
  have hcur : T.cur < T.threads.size := State.cur_lt_of_frames hfr
  have hF : (T.setFrames (.invoking m args :: below)).frames = .invoking m args :: below := State.frames_setFrames _ hcur
  have hroom : (T.setFrames (.invoking m args :: below)).hasRoom e.platform R' = true := by
    obtain ⟨r1, r2, r3, r4⟩ := State.hasRoom_stack X.room
    have r5 := State.hasRoom_real X.room
    have h := X.room
    simp only [State.hasRoom, Bool.and_eq_true, decide_eq_true_eq] at h
    rw [State.localsInUse_invoking X.frames X.method X.code] at r3 r4 r5
    rw [X.frames, List.length_cons] at r1 r2
    have hU : (T.setFrames (.invoking m args :: below)).localsInUse = stackWeight below + vmFrameWords + (c.maxLocals + 11) := State.localsInUse_invoking hF X.method' X.code
    have hz := X.heapSize
    have hu := X.used
    have hl := X.limits
    have hby := X.bytes
    simp only [State.hasRoom, Bool.and_eq_true, decide_eq_true_eq, hF, hU, List.length_cons, State.stackLimits_setFrames, State.stackBytes_setFrames, hl, hby]
    refine ⟨⟨⟨⟨by omega, by omega, by omega, by omega, by omega, h.1.1.1.2.2.2.2.2⟩, ?_⟩, ?_⟩, X.book⟩
    · have := h.1.1.2
      show T.heap.size + R'.cells ≤ e.platform.maxCells
      omega
    · have := h.1.2
      show T.slotsUsed + R'.slots ≤ e.platform.maxSlots
      omega
  have hm : ∀ x, (T.setFrames (.invoking m args :: below)).vm.method? x = s.vm.method? x := fun x => by
    show T.vm.method? x = _
    rw [X.warmed.alike.method?]
  have hc : ∀ x, (T.setFrames (.invoking m args :: below)).code? x = s.code? x := fun x => by rw [State.code?_eq, State.code?_eq, hm]
  have hhears : (T.setFrames (.invoking m args :: below)).hears m below = true := by
    have h := X.hears
    unfold State.hears at h ⊢
    cases below with
    | nil => rw [hm]; exact h
    | cons f r => cases f <;> first | exact h | (dsimp only at h ⊢; rw [hc]; exact h) | (dsimp only at h ⊢; rw [hm]; exact h)
  obtain ⟨th, hth, -⟩ := State.frames_cons hfr
  have hself : (T.setFrames (.invoking m args :: below)).setFrames T.frames = T := by rw [State.setFrames_setFrames, State.setFrames_self hth]
  have hdrop : T.heap.toList.drop T.heap.size = [] := List.drop_of_length_le (by simp)
  refine ⟨X.admits, X.cas, X.clock, hF, hroom, hhears, X.method', X.code, X.here, X.tail, State.WarmedH.refl _, ?_, ?_, ?_, Nat.le_refl _, Nat.le_refl _, ?_, ?_, ?_⟩
  · rw [State.stackLimits_setFrames]
  · rw [State.stackBytes_setFrames]
  · show T = { (T.setFrames (.invoking m args :: below)).setFrames T.frames with heap := T.heap, slotsUsed := T.slotsUsed }
    rw [hself]
  · show T.slotsUsed = T.slotsUsed + ((T.heap.toList.drop T.heap.size).map (·.slots.size)).sum
    rw [hdrop]; rfl
  · show ((T.heap.toList.drop T.heap.size).map (·.slots.size)).sum ≤ 0
    rw [hdrop]; exact Nat.le_refl _
  · intro a c' hc'
    exact ⟨c', hc', rfl, rfl, fun _ _ => rfl⟩
/-- what moved since a state in the middle has moved since the start -/
theorem gt_since (X : Stand p l e R s m args below meth c T locs cells slots) {t : State} {L : List Loc} {k n mc ms : Nat} (hmc : cells + k ≤ mc) (hms : slots + n ≤ ms)
    (h : gt_End (T.setFrames (.invoking m args :: below)) t L k n) : gt_End s t (locs ++ L) mc ms := by
  obtain ⟨hW, e1, q2, q3, q4, q5, q6⟩ := h
  refine ⟨State.WarmedH.trans X.warmed (State.WarmedH.of_rootvm (u := T) rfl hW), ?_⟩
  obtain ⟨g₀, hfr⟩ := X.frames_eq
  obtain ⟨th, hth, -⟩ := State.frames_cons hfr
  have hB : T.sameButNew ({ T with heap := t.heap, slotsUsed := t.slotsUsed } : State) L k n := by
    refine ⟨?_, q2, q3, q4, q5, q6⟩
    show ({ T with heap := t.heap, slotsUsed := t.slotsUsed } : State) = { T.setFrames T.frames with heap := t.heap, slotsUsed := t.slotsUsed }
    rw [State.setFrames_self hth]
  have hC := ((X.same.trans (hB.setVm s.vm)).setFrames t.frames X.cur).mono hmc hms
  have he : ({ t with vm := s.vm } : State) = ({ ({ T with heap := t.heap, slotsUsed := t.slotsUsed } : State).setVm s.vm with vm := s.vm } : State).setFrames t.frames := by
    have e2 : ({ t with vm := s.vm } : State) = ({ t with vm := (T.setFrames (.invoking m args :: below)).vm } : State).setVm s.vm := rfl
    rw [e2, e1]
    show _ = _
    rw [State.setFrames_setFrames]
    rfl
  rw [he]
  exact hC
end GR
section GX
variable {p : Program} {l : Launch} {e : Env} {R : Room} {s : State} {m : MethodId} {args : Array Value} {below : List Frame} {meth : Method} {c : Code} {H : Heap} {locs : List Loc} {cells slots : Nat} {Q : State → Prop}
variable {cc : ByteArray} {pc : Nat} {ls : Array Slot} {rest : List Value}
/-- throw new X(text): new, dup, ldc, invokespecial, athrow -/
theorem gt_throw (hexec : p.tables.exec = Jvm.exec) (hb : c.code = cc) (hsize : ls.size = c.maxLocals) (htr : e.platform.stackTraces = false) {own cls tx : String} {names : List String} {ia ib ic : Nat} {q0 : Nat}
    (hown : s.vm.findClass own = some m.cls) (hcls : Bundle.fit cls = true) (hnames : ∀ n ∈ names, Bundle.fit n = true)
    (hat : ∀ U : State, U.heap = H → s.WarmedH U.vm → (∀ a ∈ Bundle.ownAtoms own ic cls names, a.before args U = true) ∧ (Cond.classLink own ia cls).before args U = true ∧ (Cond.initialized cls).before args U = true ∧ vk_R own ib tx q0 U)
    (d0 : decode cc pc = .ok (.new ia, 3)) (d3 : decode cc (pc + 3) = .ok (.dup, 1)) (d4 : decode cc (pc + 4) = .ok (.ldc ib, 2)) (d6 : decode cc (pc + 6) = .ok (.invokespecial ic, 3)) (d9 : decode cc (pc + 9) = .ok (.athrow, 1))
    (hout : ∀ x ∈ c.exceptionTable.toList, covers x (pc + 9) = false) (hlocks : meth.locks = false)
    {mc ms mt st : Nat} {free : Addr → Prop} {Qc : State → Outcome → State → Prop}
    (hR1 : cells + 1 ≤ R.cells) (hR2 : slots + 6 ≤ R.slots) (hmc : cells + 1 ≤ mt) (hms : slots + 6 ≤ st) (hRf : names.length + 3 < R.frames) (hRl : (rest.map fun v => v.category).sum + 1 + (13 * (names.length + 1) + 42) ≤ R.locals)
    (hf : ∀ q ∈ locs, free q.base)
    (hq : ∀ t : State, (∀ q, q < H.size → t.heap[q]? = H[q]?) → H.size ≤ t.heap.size → s.WarmedH t.vm → (∃ ce, t.heap[H.size]? = some ce ∧ ce.vm = .none ∧ s.vm.findClass cls = some ce.cls) → Qc s (.threw H.size) t) :
    W p l e R s m args below meth c H locs cells slots (gt_Q below Qc s mc ms mt st free) (F0 m pc ls rest) := by
  intro T hT X
  have X' := gt_rebase X (R' := { frames := R.frames, locals := R.locals, cells := R.cells - cells, slots := R.slots - slots }) (Nat.le_refl _) (Nat.le_refl _) (by show cells + (R.cells - cells) ≤ _; omega) (by show slots + (R.slots - slots) ≤ _; omega)
  have hh : (T.setFrames (.invoking m args :: below)).heap = H := hT
  obtain ⟨ha, hcl, hini, hstr⟩ := hat (T.setFrames (.invoking m args :: below)) hT X.warmed
  have hown' : (T.setFrames (.invoking m args :: below)).vm.findClass own = some m.cls := by
    show T.vm.findClass own = _
    rw [X.warmed.alike.findClass]; exact hown
  have hins : (Cond.instantiable cls 6).before args (T.setFrames (.invoking m args :: below)) = true := ha _ (by simp [Bundle.ownAtoms])
  obtain ⟨cX, kX, hfc, -⟩ := Cond.instantiable_spec hins
  generalize hs' : T.setFrames (.invoking m args :: below) = s' at *
  have w : W p l e { frames := R.frames, locals := R.locals, cells := R.cells - cells, slots := R.slots - slots } s' m args below meth c H [] 0 0 (fun U => U.status = .running ∧ Ended U below (.threw H.size) ∧ gt_End s' U [] 1 6 ∧ ∃ ce, U.heap[H.size]? = some ce ∧ Bundle.OwnCell args s' cls H.size (.ref q0) ce) (F0 m pc ls rest) := by
    refine W.newcK hexec hb hown' hcl hins hini rfl d0 (by show 0 + 1 ≤ R.cells - cells; omega) (by show 0 + 6 ≤ R.slots - slots; omega) hfc rfl fun H' kC hkC e1 z1 o1 => ?_
    refine lv_dup hexec hb d3 rfl ?_
    refine va_ldcS hexec hb hown' hstr d4 ?_
    intro T2 hT2 X2
    obtain ⟨U, u1, u2, u3, u4, u5, u6⟩ := X2.ctorThrowS hexec htr hown' hcls hnames ha (fun x hx => absurd hx List.not_mem_nil) hfc hkC (a := H.size) (by rw [hT2]; exact e1) (by rw [hh]; exact Nat.le_refl _)
      (msg := .ref q0) rfl (g := F0 m (pc + 3 + 1 + 2) ls (.ref q0 :: .ref H.size :: .ref H.size :: rest)) rfl hsize rfl rfl (rest := rest) rfl (by rw [hb]; exact d6) (by rw [hb]; exact d9) hout hRf (by
        show 2 * 0 + ((Value.ref H.size :: rest).map fun v => v.category).sum + _ ≤ R.locals
        rw [List.map_cons, List.sum_cons]
        show 2 * 0 + (1 + _) + _ ≤ R.locals
        omega) hlocks
    exact ⟨U, u1, u2, u3, ⟨u4, u5⟩, u6⟩
  obtain ⟨t, st9, r1, r2, r3, ce, r5, r6⟩ := w T hT X'
  subst hs'
  refine ⟨t, st9, .threw H.size, r1, r2, hq t ?_ ?_ ?_ ⟨ce, r5, r6.vm, ?_⟩, locs ++ [], gt_since X hmc hms r3, ?_⟩
  · intro q hq'
    have hq2 : q < (T.setFrames (.invoking m args :: below)).heap.size := by rw [hh]; exact hq'
    have h1 : (T.setFrames (.invoking m args :: below)).heap[q]? = some ((T.setFrames (.invoking m args :: below)).heap[q]'hq2) := Array.getElem?_eq_getElem hq2
    have h2 := r3.2.old_cell h1
    have h3 : t.heap[q]? = some ((T.setFrames (.invoking m args :: below)).heap[q]'hq2) := h2
    rw [h3, ← h1, hh]
  · have := r3.2.2.1
    rw [hh] at this
    exact this
  · exact (gt_since X hmc hms r3).1
  · have := r6.cls
    have h2 : T.vm.findClass cls = some ce.cls := this
    rw [X.warmed.alike.findClass] at h2
    exact h2
  · intro q hq'
    rw [List.append_nil] at hq'
    exact hf q hq'
/-- the exception leaves this frame too -/
theorem gt_leave {x : Addr} (hout : ∀ y ∈ c.exceptionTable.toList, covers y pc = false) (hlocks : meth.locks = false) {mc ms mt st : Nat} {free : Addr → Prop} {Qc : State → Outcome → State → Prop}
    (hmc : cells ≤ mt) (hms : slots ≤ st) (hf : ∀ q ∈ locs, free q.base) (hq : ∀ t : State, t.heap = H → s.WarmedH t.vm → Qc s (.threw x) t) :
    gt_WT p l e R s m args below meth c H locs cells slots (gt_Q below Qc s mc ms mt st free) (F0 m pc ls rest) x := by
  intro T hT X
  obtain ⟨h1, h2, h3, h4, h5⟩ := X.leaveThrown x (g := F0 m pc ls rest) rfl rfl rfl hout hlocks
  exact ⟨_, h1, .threw x, h2, h3, hq _ hT h4, locs, ⟨h4, h5.mono hmc hms⟩, hf⟩
/-- the exception is caught here -/
theorem gt_caught {x : Addr} {hpc : Nat} (hfind : ∀ T : State, T.heap = H → s.WarmedH T.vm → T.vm.method? m = some meth → Finds e ((T.setTop (F0 m pc ls rest)).pushFrame (.throwing x)) (F0 m pc ls rest) x (.found hpc))
    (k : W p l e R s m args below meth c H locs cells slots Q (F0 m hpc ls [.ref x])) : gt_WT p l e R s m args below meth c H locs cells slots Q (F0 m pc ls rest) x := by
  intro T hT X
  obtain ⟨t, a1, b1⟩ := k T hT X
  exact ⟨t, Steps.caught (g := F0 m pc ls rest) X.here (hfind T hT X.warmed X.method') a1, b1⟩
end GX
