/-! Making objects and arrays at known addresses; ends of methods -/
section GM
variable {p : Program} {l : Launch} {e : Env} {R : Room} {s : State} {m : MethodId} {args : Array Value} {below : List Frame} {meth : Method} {c : Code} {H : Heap} {locs : List Loc} {cells slots : Nat} {Q : State → Prop}
variable {cc : ByteArray} {pc : Nat} {ls : Array Slot} {rest : List Value} {D : va_G} {cl : List vw_C} {k n : Nat} {tys : List (ClassId × FieldType)} {w : Nat → va_E} {H0 : Heap} {own C : String} {T : u_T} {N ci index : Nat} {Ts : List Cond} {fs : List Value}
theorem gw.pushed {H1 : Heap} {el : va_E} (hP : gw D cl H0 n w H locs) (hz : H.size = H0.size + n) (z1 : H1.size = H0.size + n + 1) (o1 : ∀ q, q < H0.size + n → H1[q]? = H[q]?) (he : va_at D cl (H0.size + n, el) H1) : gw D cl H0 (n + 1) (va_up w n el) H1 locs := by
  refine ⟨?_, by have := hP.2.1; omega, fun q h1 h2 => (o1 q (by omega)).trans (hP.2.2.1 q h1 h2), hP.2.2.2⟩
  rw [← gl_push]
  refine (hP.1.kept (fun k q hq => o1 _ (by have := (hP.1 k q hq).lt; omega))).app (fun k q hq => ?_)
  have h9 : k < 1 := (List.getElem?_eq_some_iff.mp hq).1
  rw [show k = 0 by omega] at hq
  cases hq
  exact he
theorem gw_new (hexec : p.tables.exec = Jvm.exec) (hb : c.code = cc) (hts : ∀ w ∈ Ts, w.before args s = true) (hown : s.vm.findClass own = some m.cls) (hK : va_K D cl tys s) (hP : gw D cl H0 n w H locs) (hz : H.size = H0.size + n) (hin : ∀ w ∈ u_ws C T N, w ∈ Ts) (ty : Nat → FieldType) (hty : ∀ k, k < N → parseFieldDescriptor (T k).2.2.1 = some (ty k)) (hc : cl[ci]? = some (C, T, N))
    (hcl : (Cond.classLink own index C).before args s = true) (hinst : (Cond.instantiable C N).before args s = true) (hini : (Cond.initialized C).before args s = true) (hfs : ∀ j, j < N → defaultValue (ty j) = vp_V fs j) (hcells : cells + 1 ≤ R.cells) (hslots : slots + N ≤ R.slots) (hdg : decode cc pc = .ok (.new index, 3))
    (kk : ∀ H1 : Heap, gw D cl H0 (n + 1) (va_up w n (.inr (ci, fs))) H1 locs → H1.size = H0.size + (n + 1) → W p l e R s m args below meth c H1 locs (cells + 1) (slots + N) Q (F0 m (pc + 3) ls (.ref (H0.size + n) :: rest))) : W p l e R s m args below meth c H locs cells slots Q (F0 m pc ls rest) := by
  have hKn := hK.1 ci _ hc
  refine W.newcK hexec hb hown hcl hinst hini rfl hdg hcells hslots hKn.2.1 hz fun H1 kC hkC e1 z1 o1 => ?_
  exact kk H1 (hP.pushed hz z1 o1 ⟨_, hc, (u_born ty hts hin hKn hkC e1 hty).to hfs⟩) z1
theorem gw_newa (hexec : p.tables.exec = Jvm.exec) (hb : c.code = cc) (hK : va_K D cl tys s) (hP : gw D cl H0 n w H locs) (hz : H.size = H0.size + n) {atype : ArrayType} {ty : FieldType} {cA : ClassId} (hty : newarray.typeOf atype = ty) (harr : (Cond.arrayClass ty).before args s = true) (t0 : Nat) (ht : tys[t0]? = some (cA, ty)) (hprim : va_RA s cA ty → s.vm.findClass ("[" ++ ty.toString) = some cA)
    {x : Int32} {N' : Nat} {a0 : vp_A} (ha : vp_cell cA a0 = arrV cA N' (fun _ => defaultValue ty)) (hn : ¬ x < 0) (hN : x.toNatClampNeg = N') (hbytes : N' * componentBytes ty ≤ 536870912) (hcells : cells + 1 ≤ R.cells) (hslots : slots + N' ≤ R.slots) (hdg : decode cc pc = .ok (.newarray atype, 2))
    (kk : ∀ H1 : Heap, gw D cl H0 (n + 1) (va_up w n (.inl (cA, a0))) H1 locs → H1.size = H0.size + (n + 1) → W p l e R s m args below meth c H1 locs (cells + 1) (slots + N') Q (F0 m (pc + 2) ls (.ref (H0.size + n) :: rest))) : W p l e R s m args below meth c H locs cells slots Q (F0 m pc ls (.int x :: rest)) := by
  subst hty
  refine va_newaK hexec hb harr rfl hdg rfl hn hN hbytes hcells hslots hz fun H1 cA' e1 z1 o1 hAr hNm => ?_
  have h9 : cA' = cA := Option.some.inj (hNm.symm.trans (hprim (hK.2 t0 _ ht).2))
  subst h9
  refine kk H1 (hP.pushed hz z1 o1 ?_) z1
  show H1[H0.size + n]? = some (vp_cell _ _)
  rw [ha]
  exact e1
theorem gw_newq (hexec : p.tables.exec = Jvm.exec) (hb : c.code = cc) (hown : s.vm.findClass own = some m.cls) (hK : va_K D cl tys s) (hP : gw D cl H0 n w H locs) (hz : H.size = H0.size + n) {cA : ClassId} (hcl : (Cond.classLink own index C).before args s = true) (hover : (Cond.arrayOver (.object C)).before args s = true) (t0 : Nat) (ht : tys[t0]? = some (cA, .object C))
    {x : Int32} {N' : Nat} (hn : ¬ x < 0) (hN : x.toNatClampNeg = N') (hbytes : N' * 4 ≤ 536870912) (hcells : cells + 1 ≤ R.cells) (hslots : slots + N' ≤ R.slots) (hdg : decode cc pc = .ok (.anewarray index, 3))
    (kk : ∀ H1 : Heap, gw D cl H0 (n + 1) (va_up w n (.inl (cA, N', .inr (.inr (.inr (.inr (fun _ => none))))))) H1 locs → H1.size = H0.size + (n + 1) → W p l e R s m args below meth c H1 locs (cells + 1) (slots + N') Q (F0 m (pc + 3) ls (.ref (H0.size + n) :: rest))) : W p l e R s m args below meth c H locs cells slots Q (F0 m pc ls (.int x :: rest)) := by
  subst hN
  refine W.anew hexec hb hown hcl hover rfl hdg rfl hn hbytes hcells hslots fun cA' kA comp f1 f2 f3 f4 => ?_
  obtain ⟨kA2, comp2, -, -, -, g4⟩ := (hK.2 t0 _ ht).2
  have h9 : cA' = cA := Option.some.inj (f1.symm.trans g4)
  subst h9
  have o1 : ∀ q : Nat, q < H0.size + n → (H.push ({ cls := cA', slots := Array.replicate x.toNatClampNeg .null, vm := .none } : Cell))[q]? = H[q]? := fun q hq => by rw [Array.getElem?_push, if_neg (by omega)]
  have z1 : (H.push ({ cls := cA', slots := Array.replicate x.toNatClampNeg .null, vm := .none } : Cell)).size = H0.size + n + 1 := by rw [Array.size_push, hz]
  rw [hz]
  refine kk _ (hP.pushed hz z1 o1 ?_) z1
  show (H.push _)[H0.size + n]? = some (vp_cell _ _)
  rw [vp_cell_q, ← hz, Array.getElem?_push_size, ← arrV_new]
  rfl
variable {Qc : State → Outcome → State → Prop} {mc ms mt st : Nat} {free : Addr → Prop}
theorem gt_iret {v : Int32} (hexec : p.tables.exec = Jvm.exec) (hb : c.code = cc) (hr : meth.sig.returnType = some .int) (hlocks : meth.locks = false) (hmc : cells ≤ mc) (hms : slots ≤ ms) (hf : ∀ q ∈ locs, free q.base) (hdg : decode cc pc = .ok (.ireturn, 1))
    (hq : ∀ t : State, t.heap = H → Qc s (.returned (some (.int v))) t) : W p l e R s m args below meth c H locs cells slots (gt_Q below Qc s mc ms mt st free) (F0 m pc ls [.int v]) :=
  W.widen hmc hms (gt_mono (gt_ofMQ (a := args)) (W.iret (Qc := fun _ => Qc) hexec hb hr (fun t h _ => hq t h) hf hdg hlocks))
theorem gt_zret {v : Int32} {ty : FieldType} (hexec : p.tables.exec = Jvm.exec) (hb : c.code = cc) (hr : meth.sig.returnType = some ty) (hn : narrow ty (.int v) = .int v) (hlocks : meth.locks = false) (hmc : cells ≤ mc) (hms : slots ≤ ms) (hf : ∀ q ∈ locs, free q.base) (hdg : decode cc pc = .ok (.ireturn, 1))
    (hq : ∀ t : State, t.heap = H → Qc s (.returned (some (.int v))) t) : W p l e R s m args below meth c H locs cells slots (gt_Q below Qc s mc ms mt st free) (F0 m pc ls [.int v]) :=
  W.widen hmc hms (gt_mono (gt_ofMQ (a := args)) (W.zret (Qc := fun _ => Qc) hexec hb hr hn (fun t h _ => hq t h) hf hdg hlocks))
theorem gt_vret (hexec : p.tables.exec = Jvm.exec) (hb : c.code = cc) (hr : meth.sig.returnType = none) (hlocks : meth.locks = false) (hmc : cells ≤ mc) (hms : slots ≤ ms) (hf : ∀ q ∈ locs, free q.base) (hdg : decode cc pc = .ok (.return_, 1))
    (hq : ∀ t : State, t.heap = H → Qc s (.returned none) t) : W p l e R s m args below meth c H locs cells slots (gt_Q below Qc s mc ms mt st free) (F0 m pc ls []) :=
  W.widen hmc hms (gt_mono (gt_ofMQ (a := args)) (W.vret (Qc := fun _ => Qc) hexec hb hr (fun t h _ => hq t h) hf hdg hlocks))
theorem gt_aret {v : Option Nat} {nm : String} (hexec : p.tables.exec = Jvm.exec) (hb : c.code = cc) (hr : meth.sig.returnType = some (.object nm)) (hlocks : meth.locks = false) (hmc : cells ≤ mc) (hms : slots ≤ ms) (hf : ∀ q ∈ locs, free q.base) (hdg : decode cc pc = .ok (.areturn, 1))
    (hq : ∀ t : State, t.heap = H → Qc s (.returned (some (va_rf v))) t) : W p l e R s m args below meth c H locs cells slots (gt_Q below Qc s mc ms mt st free) (F0 m pc ls [va_rf v]) :=
  W.widen hmc hms (gt_mono (gt_ofMQ (a := args)) (W.aret (Qc := fun _ => Qc) hexec hb hr (Or.inl ⟨nm, rfl⟩) (by cases v with | none => exact Or.inl rfl | some a => exact Or.inr ⟨a, rfl⟩) (fun t h _ => hq t h) hf hdg hlocks))
end GM
