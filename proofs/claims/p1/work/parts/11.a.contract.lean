/-! Contracts over the state: how a method's answer and the state behind it are said; bodies, ends, throws, calls -/
def gEn : Nat → String
  | 0 => R_IA
  | 1 => R_IS
  | _ => R_IO
/-- the exception of kind ek lies at x -/
def gE (s0 : State) (ek x : Nat) (H : Heap) : Prop := ∃ ce : Cell, H[x]? = some ce ∧ ce.vm = .none ∧ s0.vm.findClass (gEn ek) = some ce.cls
abbrev gWd (s0 : State) (D : va_G) (aC : Nat → ClassId) (M : gMem) (r : gRef) (ow : Int64) (H : Heap) (locs : List Loc) : Prop := gw D gC s0.heap 402 (gW s0.heap.size aC M r ow) H locs
/-- the end: returned with an answer, or thrown -/
def gQ (s0 : State) (D : va_G) (aC : Nat → ClassId) (ow : Int64) (pr : Option Value → gMem → gRef → Prop) (pt : Nat → gMem → gRef → Prop) : State → Outcome → State → Prop := fun _ o t => match o with
  | .returned v => ∃ M r, gWd s0 D aC M r ow t.heap [] ∧ pr v M r
  | .threw x => ∃ ek M r, gWd s0 D aC M r ow t.heap [] ∧ gE s0 ek x t.heap ∧ pt ek M r
/-- what holds of the start, for good -/
def gG (l : Launch) (s0 : State) (D : va_G) (aC : Nat → ClassId) (a0 : Array Value) : Prop := (∀ e, l.admits e → e.platform.stackTraces = false) ∧ gF s0 a0 ∧ va_K D gC (gTy aC) s0
abbrev gRm (fr lo mt st : Nat) : Room := { frames := fr, cells := mt, slots := st, locals := lo }
/-- a method's contract: fr frames, lo words; nothing is made when it returns, mt cells of st slots when it throws -/
def gMet (l : Launch) (s0 : State) (D : va_G) (aC : Nat → ClassId) (y : MethodName) (cw : Cond) (fr lo mt st : Nat) (av : List Value) (M : gMem) (r : gRef) (ow : Int64) (pr : Option Value → gMem → gRef → Prop) (pt : Nat → gMem → gRef → Prop) : Prop :=
  gt_Met l y cw (gRm fr lo mt st) (fun v U => v = av.toArray ∧ s0.WarmedH U.vm ∧ gWd s0 D aC M r ow U.heap []) (fun _ => gQ s0 D aC ow pr pt) 0 0 mt st (fun q => s0.heap.size ≤ q)
/-- what a body's walk knows -/
def gB (s0 : State) (D : va_G) (aC : Nat → ClassId) (p : Program) (e : Env) (s : State) (m : MethodId) (meth : Method) (c : Code) (cls : String) (cc : ByteArray) (n : Nat) (ret : Option FieldType) : Prop :=
  p.tables.exec = Jvm.exec ∧ c.code = cc ∧ c.maxLocals = n ∧ meth.sig.returnType = ret ∧ meth.locks = false ∧ s.vm.findClass cls = some m.cls ∧ gT s ∧ va_K D gC (gTy aC) s ∧ s0.WarmedH s.vm ∧ e.platform.stackTraces = false
theorem gm_of {l : Launch} {s0 : State} {D : va_G} {aC : Nat → ClassId} {a0 : Array Value} (G : gG l s0 D aC a0) {y : MethodName} {cc : ByteArray} {n : Nat} {ret : Option FieldType} {fr lo mt st : Nat} {av : List Value} {M : gMem} {r : gRef} {ow : Int64} {pr : Option Value → gMem → gRef → Prop} {pt : Nat → gMem → gRef → Prop}
    (hy : plainName y.cls = true) (hn : (lg_sl av).length ≤ n)
    (body : ∀ p e s m below meth c ls, gB s0 D aC p e s m meth c y.cls cc n ret → (∀ x ∈ c.exceptionTable.toList, False) → lv_has ls n (lv_args 0 av) → gWd s0 D aC M r ow s.heap [] →
      W p l e (gRm fr lo mt st) s m av.toArray below meth c s.heap [] 0 0 (gt_Q below (gQ s0 D aC ow pr pt) s 0 0 mt st (fun q => s0.heap.size ≤ q)) (F0 m 0 ls [])) :
    gMet l s0 D aC y (Cond.code y cc n ret) fr lo mt st av M r ow pr pt := by
  refine gt_ofW hy ?_
  intro p e s m args below meth c s₁ B hml hv
  obtain ⟨rfl, hW, hw⟩ := hv
  have hemp : c.exceptionTable.isEmpty = true := B.noHandlers (atoms_spec (ws := [Cond.code y cc n ret]) B.pre _ (List.mem_singleton.mpr rfl))
  rw [lg_entry_eq]
  refine body p e s m below meth c _ ⟨B.exec, B.bytes, hml, B.returns, B.notSynchronized, findClass_of_methodNamed B.named, G.2.1.T.warm hW, va_K.moved hW.alike G.2.2, hW, G.1 e B.admits⟩ ?_ (lv_entry av hn) hw
  intro x hx
  have h0 : c.exceptionTable.size = 0 := by simpa [Array.isEmpty] using hemp
  have h1 : c.exceptionTable.toList = [] := List.eq_nil_of_length_eq_zero (by simpa using h0)
  rw [h1] at hx
  cases hx
section GMR
variable {p : Program} {l : Launch} {e : Env} {s : State} {m : MethodId} {args : Array Value} {below : List Frame} {meth : Method} {c : Code} {H : Heap} {locs : List Loc} {cells slots : Nat} {Q : State → Prop}
variable {cc : ByteArray} {pc : Nat} {ls : Array Slot} {rest st9 : List Value} {D : va_G} {s0 : State} {aC : Nat → ClassId} {M : gMem} {r : gRef} {ow : Int64} {cls : String} {n : Nat} {ret : Option FieldType} {R : Room} {mt st : Nat} {pr : Option Value → gMem → gRef → Prop} {pt : Nat → gMem → gRef → Prop} {a0 : Array Value}
theorem gr_i {v : Int32} (B : gB s0 D aC p e s m meth c cls cc n (some .int)) (hw : gWd s0 D aC M r ow H locs) (hdg : decode cc pc = .ok (.ireturn, 1)) (hp : pr (some (.int v)) M r) : W p l e R s m args below meth c H locs 0 0 (gt_Q below (gQ s0 D aC ow pr pt) s 0 0 mt st (fun q => s0.heap.size ≤ q)) (F0 m pc ls [.int v]) :=
  gt_iret B.1 B.2.1 B.2.2.2.1 B.2.2.2.2.1 (Nat.le_refl _) (Nat.le_refl _) hw.free hdg (fun t ht => ⟨M, r, by rw [ht]; exact hw.none, hp⟩)
theorem gr_z {v : Int32} {ty : FieldType} (B : gB s0 D aC p e s m meth c cls cc n (some ty)) (hw : gWd s0 D aC M r ow H locs) (hn : narrow ty (.int v) = .int v) (hdg : decode cc pc = .ok (.ireturn, 1)) (hp : pr (some (.int v)) M r) : W p l e R s m args below meth c H locs 0 0 (gt_Q below (gQ s0 D aC ow pr pt) s 0 0 mt st (fun q => s0.heap.size ≤ q)) (F0 m pc ls [.int v]) :=
  gt_zret B.1 B.2.1 B.2.2.2.1 hn B.2.2.2.2.1 (Nat.le_refl _) (Nat.le_refl _) hw.free hdg (fun t ht => ⟨M, r, by rw [ht]; exact hw.none, hp⟩)
theorem gr_v (B : gB s0 D aC p e s m meth c cls cc n none) (hw : gWd s0 D aC M r ow H locs) (hdg : decode cc pc = .ok (.return_, 1)) (hp : pr none M r) : W p l e R s m args below meth c H locs 0 0 (gt_Q below (gQ s0 D aC ow pr pt) s 0 0 mt st (fun q => s0.heap.size ≤ q)) (F0 m pc ls []) :=
  gt_vret B.1 B.2.1 B.2.2.2.1 B.2.2.2.2.1 (Nat.le_refl _) (Nat.le_refl _) hw.free hdg (fun t ht => ⟨M, r, by rw [ht]; exact hw.none, hp⟩)
theorem gr_a {v : Option Nat} {nm : String} (B : gB s0 D aC p e s m meth c cls cc n (some (.object nm))) (hw : gWd s0 D aC M r ow H locs) (hdg : decode cc pc = .ok (.areturn, 1)) (hp : pr (some (va_rf v)) M r) : W p l e R s m args below meth c H locs 0 0 (gt_Q below (gQ s0 D aC ow pr pt) s 0 0 mt st (fun q => s0.heap.size ≤ q)) (F0 m pc ls [va_rf v]) :=
  gt_aret B.1 B.2.1 B.2.2.2.1 B.2.2.2.2.1 (Nat.le_refl _) (Nat.le_refl _) hw.free hdg (fun t ht => ⟨M, r, by rw [ht]; exact hw.none, hp⟩)
/-- the exception goes on out of this frame -/
theorem gr_t {x ek : Nat} (B : gB s0 D aC p e s m meth c cls cc n ret) (hexc : ∀ x ∈ c.exceptionTable.toList, False) (hw : gWd s0 D aC M r ow H locs) (hE : gE s0 ek x H) (hmt : cells ≤ mt) (hst : slots ≤ st) (hp : pt ek M r) : gt_WT p l e R s m args below meth c H locs cells slots (gt_Q below (gQ s0 D aC ow pr pt) s 0 0 mt st (fun q => s0.heap.size ≤ q)) (F0 m pc ls rest) x :=
  gt_leave (fun y hy => (hexc y hy).elim) B.2.2.2.2.1 hmt hst hw.free (fun t ht _ => ⟨ek, M, r, by rw [ht]; exact hw.none, by rw [ht]; exact hE, hp⟩)
theorem gx_IA {tx : String} {ia ib ic fr lo mt : Nat} (B : gB s0 D aC p e s m meth c cls cc n ret) (F : gF s0 a0) (hexc : ∀ x ∈ c.exceptionTable.toList, False) (hsz : ls.size = n) (hw : gWd s0 D aC M r ow H locs) (hcl : (Cond.classLink cls ia R_IA).before args s = true) (hl : (Cond.methodLink cls ic ⟨R_IA, "<init>", "(Ljava/lang/String;)V"⟩).before args s = true) (hs : ∃ q, vk_R cls ib tx q s0)
    (d0 : decode cc pc = .ok (.new ia, 3)) (d3 : decode cc (pc + 3) = .ok (.dup, 1)) (d4 : decode cc (pc + 4) = .ok (.ldc ib, 2)) (d6 : decode cc (pc + 6) = .ok (.invokespecial ic, 3)) (d9 : decode cc (pc + 9) = .ok (.athrow, 1)) (hmt : 1 ≤ mt) (hst : 6 ≤ st) (hfr : 5 < fr) (hlo : (rest.map fun v => v.category).sum + 82 ≤ lo) (hp : pt 0 M r) :
    W p l e (gRm fr lo mt st) s m args below meth c H locs 0 0 (gt_Q below (gQ s0 D aC ow pr pt) s 0 0 mt st (fun q => s0.heap.size ≤ q)) (F0 m pc ls rest) := by
  obtain ⟨hx, hb, hml, -, hlocks, hown, T, -, hW0, htr⟩ := B
  obtain ⟨q0, hq0⟩ := hs
  refine gt_throw (own := cls) (cls := R_IA) (names := [R_RE, R_Ex]) (tx := tx) (q0 := q0) hx hb (hsz.trans hml.symm) htr hown (by decide +kernel) (by decide +kernel) (fun U hU hW => ?_) d0 d3 d4 d6 d9 (fun y hy => (hexc y hy).elim) hlocks (by show 0 + 1 ≤ mt; omega) (by show 0 + 6 ≤ st; omega) (by omega) (by omega) (by show 2 + 3 < fr; omega) (by show _ + 1 + (13 * (2 + 1) + 42) ≤ lo; omega) hw.free (fun t h1 h2 h3 h4 => ?_)
  · have hX : gX s0 U := ⟨State.WarmedH.trans hW0 hW, fun q hq => by rw [hU]; exact hw.2.2.1 q hq (fun h => absurd hq (Nat.not_lt.mpr h))⟩
    exact ⟨ow_IA F hX (T.warm hW) (g2w_warm rfl hW hl), g2w_warm rfl hW hcl, ki_IA (T.warm hW), (hq0.warm hX.1)⟩
  · obtain ⟨ce, c1, c2, c3⟩ := h4
    exact ⟨0, M, r, (hw.grow h1 h2).none, ⟨ce, c1, c2, by rw [← hW0.alike.findClass]; exact c3⟩, hp⟩
theorem gx_IS {tx : String} {ia ib ic fr lo mt : Nat} (B : gB s0 D aC p e s m meth c cls cc n ret) (F : gF s0 a0) (hexc : ∀ x ∈ c.exceptionTable.toList, False) (hsz : ls.size = n) (hw : gWd s0 D aC M r ow H locs) (hcl : (Cond.classLink cls ia R_IS).before args s = true) (hl : (Cond.methodLink cls ic ⟨R_IS, "<init>", "(Ljava/lang/String;)V"⟩).before args s = true) (hs : ∃ q, vk_R cls ib tx q s0)
    (d0 : decode cc pc = .ok (.new ia, 3)) (d3 : decode cc (pc + 3) = .ok (.dup, 1)) (d4 : decode cc (pc + 4) = .ok (.ldc ib, 2)) (d6 : decode cc (pc + 6) = .ok (.invokespecial ic, 3)) (d9 : decode cc (pc + 9) = .ok (.athrow, 1)) (hmt : 1 ≤ mt) (hst : 6 ≤ st) (hfr : 5 < fr) (hlo : (rest.map fun v => v.category).sum + 82 ≤ lo) (hp : pt 1 M r) :
    W p l e (gRm fr lo mt st) s m args below meth c H locs 0 0 (gt_Q below (gQ s0 D aC ow pr pt) s 0 0 mt st (fun q => s0.heap.size ≤ q)) (F0 m pc ls rest) := by
  obtain ⟨hx, hb, hml, -, hlocks, hown, T, -, hW0, htr⟩ := B
  obtain ⟨q0, hq0⟩ := hs
  refine gt_throw (own := cls) (cls := R_IS) (names := [R_RE, R_Ex]) (tx := tx) (q0 := q0) hx hb (hsz.trans hml.symm) htr hown (by decide +kernel) (by decide +kernel) (fun U hU hW => ?_) d0 d3 d4 d6 d9 (fun y hy => (hexc y hy).elim) hlocks (by show 0 + 1 ≤ mt; omega) (by show 0 + 6 ≤ st; omega) (by omega) (by omega) (by show 2 + 3 < fr; omega) (by show _ + 1 + (13 * (2 + 1) + 42) ≤ lo; omega) hw.free (fun t h1 h2 h3 h4 => ?_)
  · have hX : gX s0 U := ⟨State.WarmedH.trans hW0 hW, fun q hq => by rw [hU]; exact hw.2.2.1 q hq (fun h => absurd hq (Nat.not_lt.mpr h))⟩
    exact ⟨ow_IS F hX (T.warm hW) (g2w_warm rfl hW hl), g2w_warm rfl hW hcl, ki_IS (T.warm hW), (hq0.warm hX.1)⟩
  · obtain ⟨ce, c1, c2, c3⟩ := h4
    exact ⟨1, M, r, (hw.grow h1 h2).none, ⟨ce, c1, c2, by rw [← hW0.alike.findClass]; exact c3⟩, hp⟩
theorem gx_IO {tx : String} {ia ib ic fr lo mt : Nat} (B : gB s0 D aC p e s m meth c cls cc n ret) (F : gF s0 a0) (hexc : ∀ x ∈ c.exceptionTable.toList, False) (hsz : ls.size = n) (hw : gWd s0 D aC M r ow H locs) (hcl : (Cond.classLink cls ia R_IO).before args s = true) (hl : (Cond.methodLink cls ic ⟨R_IO, "<init>", "(Ljava/lang/String;)V"⟩).before args s = true) (hs : ∃ q, vk_R cls ib tx q s0)
    (d0 : decode cc pc = .ok (.new ia, 3)) (d3 : decode cc (pc + 3) = .ok (.dup, 1)) (d4 : decode cc (pc + 4) = .ok (.ldc ib, 2)) (d6 : decode cc (pc + 6) = .ok (.invokespecial ic, 3)) (d9 : decode cc (pc + 9) = .ok (.athrow, 1)) (hmt : 1 ≤ mt) (hst : 6 ≤ st) (hfr : 5 < fr) (hlo : (rest.map fun v => v.category).sum + 82 ≤ lo) (hp : pt 2 M r) :
    W p l e (gRm fr lo mt st) s m args below meth c H locs 0 0 (gt_Q below (gQ s0 D aC ow pr pt) s 0 0 mt st (fun q => s0.heap.size ≤ q)) (F0 m pc ls rest) := by
  obtain ⟨hx, hb, hml, -, hlocks, hown, T, -, hW0, htr⟩ := B
  obtain ⟨q0, hq0⟩ := hs
  refine gt_throw (own := cls) (cls := R_IO) (names := [R_RE, R_Ex]) (tx := tx) (q0 := q0) hx hb (hsz.trans hml.symm) htr hown (by decide +kernel) (by decide +kernel) (fun U hU hW => ?_) d0 d3 d4 d6 d9 (fun y hy => (hexc y hy).elim) hlocks (by show 0 + 1 ≤ mt; omega) (by show 0 + 6 ≤ st; omega) (by omega) (by omega) (by show 2 + 3 < fr; omega) (by show _ + 1 + (13 * (2 + 1) + 42) ≤ lo; omega) hw.free (fun t h1 h2 h3 h4 => ?_)
  · have hX : gX s0 U := ⟨State.WarmedH.trans hW0 hW, fun q hq => by rw [hU]; exact hw.2.2.1 q hq (fun h => absurd hq (Nat.not_lt.mpr h))⟩
    exact ⟨ow_IO F hX (T.warm hW) (g2w_warm rfl hW hl), g2w_warm rfl hW hcl, ki_IO (T.warm hW), (hq0.warm hX.1)⟩
  · obtain ⟨ce, c1, c2, c3⟩ := h4
    exact ⟨2, M, r, (hw.grow h1 h2).none, ⟨ce, c1, c2, by rw [← hW0.alike.findClass]; exact c3⟩, hp⟩
theorem gy_V {y : MethodName} {bytes : ByteArray} {maxL index fr lo mt2 st2 : Nat} {ret2 : Option FieldType} {As : List Value} {b : Nat} {M : gMem} {r : gRef} {pr2 : Option Value → gMem → gRef → Prop} {pt2 : Nat → gMem → gRef → Prop} (B : gB s0 D aC p e s m meth c cls cc n ret) (hsz : ls.size = n) (hw : gWd s0 D aC M r ow H locs) (hM : gMet l s0 D aC y (Cond.code y bytes maxL ret2) fr lo mt2 st2 (Value.ref b :: As) M r ow pr2 pt2)
    (hcode : (Cond.code y bytes maxL ret2).before args s = true) (hini : (Cond.initialized y.cls).before args s = true) (hlink : (Cond.methodLink cls index y).before args s = true) (hinst : (Cond.instanceMethod y).before args s = true) (hsel : (Cond.selects y.cls y y).before args s = true)
    (hy : y.cls ≠ "java/lang/invoke/MethodHandle" ∧ y.cls ≠ "java/lang/invoke/VarHandle" ∧ (parseMethodDescriptor y.desc).map (fun d => d.parameters.length) = some As.length) (hrec : ∃ cell : Cell, H[b]? = some cell ∧ cell.vm.isStatics = false ∧ s.vm.findClass y.cls = some cell.cls) (hst9 : st9 = As.reverse ++ .ref b :: rest) (hWd : (rest.map fun v => v.category).sum ≤ 8) (hR : fr + 1 ≤ R.frames ∧ 8 + (maxL + 11) + lo ≤ R.locals) (hC : cells + mt2 ≤ R.cells ∧ slots + st2 ≤ R.slots) (hdg : decode cc pc = .ok (.invokevirtual index, 3))
    (kr : ∀ v M1 r1 H1 locs1, gWd s0 D aC M1 r1 ow H1 locs1 → pr2 v M1 r1 → W p l e R s m args below meth c H1 locs1 cells slots Q (F0 m (pc + 3) ls (v.toList ++ rest)))
    (kt : ∀ x ek M1 r1 H1 locs1, gWd s0 D aC M1 r1 ow H1 locs1 → gE s0 ek x H1 → pt2 ek M1 r1 → gt_WT p l e R s m args below meth c H1 locs1 (cells + mt2) (slots + st2) Q (F0 m pc ls rest) x) : W p l e R s m args below meth c H locs cells slots Q (F0 m pc ls st9) := by
  obtain ⟨hx, hb, hml, -, hlocks, hown, T, -, hW0, -⟩ := B
  refine gt_callV hx hb (hsz.trans hml.symm) hown hM hcode hini hlink hinst hsel hy hrec hst9 hWd hR hC hdg (fun U hU hW => ⟨rfl, State.WarmedH.trans hW0 hW, by rw [hU]; exact hw.none⟩) ⟨?_, ?_⟩
  · intro v st t L h0 hq hL
    obtain ⟨M1, r1, h1, h2⟩ := hq
    exact kr v M1 r1 t.heap (locs ++ L) (hw.back h1 hL) h2
  · intro x st t L h0 hq hL
    obtain ⟨ek, M1, r1, h1, hE, h2⟩ := hq
    exact kt x ek M1 r1 t.heap (locs ++ L) (hw.back h1 hL) hE h2
theorem gy_VN {y : MethodName} {bytes : ByteArray} {maxL index fr lo mt2 st2 : Nat} {ret2 : Option FieldType} {As : List Value} {b : Nat} {M : gMem} {r : gRef} {pr2 : Option Value → gMem → gRef → Prop} {pt2 : Nat → gMem → gRef → Prop} {host : String} (B : gB s0 D aC p e s m meth c cls cc n ret) (hsz : ls.size = n) (hw : gWd s0 D aC M r ow H locs) (hM : gMet l s0 D aC y (Cond.code y bytes maxL ret2) fr lo mt2 st2 (Value.ref b :: As) M r ow pr2 pt2)
    (hcode : (Cond.code y bytes maxL ret2).before args s = true) (hini : (Cond.initialized y.cls).before args s = true) (hlink : (Cond.methodLinkNest cls index y host).before args s = true) (hinst : (Cond.instanceMethod y).before args s = true) (hsel : (Cond.selects y.cls y y).before args s = true)
    (hy : y.cls ≠ "java/lang/invoke/MethodHandle" ∧ y.cls ≠ "java/lang/invoke/VarHandle" ∧ (parseMethodDescriptor y.desc).map (fun d => d.parameters.length) = some As.length) (hrec : ∃ cell : Cell, H[b]? = some cell ∧ cell.vm.isStatics = false ∧ s.vm.findClass y.cls = some cell.cls) (hst9 : st9 = As.reverse ++ .ref b :: rest) (hWd : (rest.map fun v => v.category).sum ≤ 8) (hR : fr + 1 ≤ R.frames ∧ 8 + (maxL + 11) + lo ≤ R.locals) (hC : cells + mt2 ≤ R.cells ∧ slots + st2 ≤ R.slots) (hdg : decode cc pc = .ok (.invokevirtual index, 3))
    (kr : ∀ v M1 r1 H1 locs1, gWd s0 D aC M1 r1 ow H1 locs1 → pr2 v M1 r1 → W p l e R s m args below meth c H1 locs1 cells slots Q (F0 m (pc + 3) ls (v.toList ++ rest)))
    (kt : ∀ x ek M1 r1 H1 locs1, gWd s0 D aC M1 r1 ow H1 locs1 → gE s0 ek x H1 → pt2 ek M1 r1 → gt_WT p l e R s m args below meth c H1 locs1 (cells + mt2) (slots + st2) Q (F0 m pc ls rest) x) : W p l e R s m args below meth c H locs cells slots Q (F0 m pc ls st9) := by
  obtain ⟨hx, hb, hml, -, hlocks, hown, T, -, hW0, -⟩ := B
  refine gt_callVN hx hb (hsz.trans hml.symm) hown hM hcode hini hlink hinst hsel hy hrec hst9 hWd hR hC hdg (fun U hU hW => ⟨rfl, State.WarmedH.trans hW0 hW, by rw [hU]; exact hw.none⟩) ⟨?_, ?_⟩
  · intro v st t L h0 hq hL
    obtain ⟨M1, r1, h1, h2⟩ := hq
    exact kr v M1 r1 t.heap (locs ++ L) (hw.back h1 hL) h2
  · intro x st t L h0 hq hL
    obtain ⟨ek, M1, r1, h1, hE, h2⟩ := hq
    exact kt x ek M1 r1 t.heap (locs ++ L) (hw.back h1 hL) hE h2
theorem gy_S {y : MethodName} {bytes : ByteArray} {maxL index fr lo mt2 st2 : Nat} {ret2 : Option FieldType} {As : List Value} {M : gMem} {r : gRef} {pr2 : Option Value → gMem → gRef → Prop} {pt2 : Nat → gMem → gRef → Prop} (B : gB s0 D aC p e s m meth c cls cc n ret) (hsz : ls.size = n) (hw : gWd s0 D aC M r ow H locs) (hM : gMet l s0 D aC y (Cond.code y bytes maxL ret2) fr lo mt2 st2 As M r ow pr2 pt2)
    (hcode : (Cond.code y bytes maxL ret2).before args s = true) (hini : (Cond.initialized y.cls).before args s = true) (hlink : (Cond.methodLink cls index y).before args s = true) (hstat : (Cond.static y).before args s = true)
    (hy : y.cls ≠ "java/lang/invoke/MethodHandle" ∧ y.cls ≠ "java/lang/invoke/VarHandle" ∧ (parseMethodDescriptor y.desc).map (fun d => d.parameters.length) = some As.length) (hst9 : st9 = As.reverse ++ rest) (hWd : (rest.map fun v => v.category).sum ≤ 8) (hR : fr + 1 ≤ R.frames ∧ 8 + (maxL + 11) + lo ≤ R.locals) (hC : cells + mt2 ≤ R.cells ∧ slots + st2 ≤ R.slots) (hdg : decode cc pc = .ok (.invokestatic index, 3))
    (kr : ∀ v M1 r1 H1 locs1, gWd s0 D aC M1 r1 ow H1 locs1 → pr2 v M1 r1 → W p l e R s m args below meth c H1 locs1 cells slots Q (F0 m (pc + 3) ls (v.toList ++ rest)))
    (kt : ∀ x ek M1 r1 H1 locs1, gWd s0 D aC M1 r1 ow H1 locs1 → gE s0 ek x H1 → pt2 ek M1 r1 → gt_WT p l e R s m args below meth c H1 locs1 (cells + mt2) (slots + st2) Q (F0 m pc ls rest) x) : W p l e R s m args below meth c H locs cells slots Q (F0 m pc ls st9) := by
  obtain ⟨hx, hb, hml, -, hlocks, hown, T, -, hW0, -⟩ := B
  refine gt_callS hx hb (hsz.trans hml.symm) hown hM hcode hini hlink hstat hy hst9 hWd hR hC hdg (fun U hU hW => ⟨rfl, State.WarmedH.trans hW0 hW, by rw [hU]; exact hw.none⟩) ⟨?_, ?_⟩
  · intro v st t L h0 hq hL
    obtain ⟨M1, r1, h1, h2⟩ := hq
    exact kr v M1 r1 t.heap (locs ++ L) (hw.back h1 hL) h2
  · intro x st t L h0 hq hL
    obtain ⟨ek, M1, r1, h1, hE, h2⟩ := hq
    exact kt x ek M1 r1 t.heap (locs ++ L) (hw.back h1 hL) hE h2
theorem gy_SN {y : MethodName} {bytes : ByteArray} {maxL index fr lo mt2 st2 : Nat} {ret2 : Option FieldType} {As : List Value} {M : gMem} {r : gRef} {pr2 : Option Value → gMem → gRef → Prop} {pt2 : Nat → gMem → gRef → Prop} {host : String} (B : gB s0 D aC p e s m meth c cls cc n ret) (hsz : ls.size = n) (hw : gWd s0 D aC M r ow H locs) (hM : gMet l s0 D aC y (Cond.code y bytes maxL ret2) fr lo mt2 st2 As M r ow pr2 pt2)
    (hcode : (Cond.code y bytes maxL ret2).before args s = true) (hini : (Cond.initialized y.cls).before args s = true) (hlink : (Cond.methodLinkNest cls index y host).before args s = true) (hstat : (Cond.static y).before args s = true)
    (hy : y.cls ≠ "java/lang/invoke/MethodHandle" ∧ y.cls ≠ "java/lang/invoke/VarHandle" ∧ (parseMethodDescriptor y.desc).map (fun d => d.parameters.length) = some As.length) (hst9 : st9 = As.reverse ++ rest) (hWd : (rest.map fun v => v.category).sum ≤ 8) (hR : fr + 1 ≤ R.frames ∧ 8 + (maxL + 11) + lo ≤ R.locals) (hC : cells + mt2 ≤ R.cells ∧ slots + st2 ≤ R.slots) (hdg : decode cc pc = .ok (.invokestatic index, 3))
    (kr : ∀ v M1 r1 H1 locs1, gWd s0 D aC M1 r1 ow H1 locs1 → pr2 v M1 r1 → W p l e R s m args below meth c H1 locs1 cells slots Q (F0 m (pc + 3) ls (v.toList ++ rest)))
    (kt : ∀ x ek M1 r1 H1 locs1, gWd s0 D aC M1 r1 ow H1 locs1 → gE s0 ek x H1 → pt2 ek M1 r1 → gt_WT p l e R s m args below meth c H1 locs1 (cells + mt2) (slots + st2) Q (F0 m pc ls rest) x) : W p l e R s m args below meth c H locs cells slots Q (F0 m pc ls st9) := by
  obtain ⟨hx, hb, hml, -, hlocks, hown, T, -, hW0, -⟩ := B
  refine gt_callSN hx hb (hsz.trans hml.symm) hown hM hcode hini hlink hstat hy hst9 hWd hR hC hdg (fun U hU hW => ⟨rfl, State.WarmedH.trans hW0 hW, by rw [hU]; exact hw.none⟩) ⟨?_, ?_⟩
  · intro v st t L h0 hq hL
    obtain ⟨M1, r1, h1, h2⟩ := hq
    exact kr v M1 r1 t.heap (locs ++ L) (hw.back h1 hL) h2
  · intro x st t L h0 hq hL
    obtain ⟨ek, M1, r1, h1, hE, h2⟩ := hq
    exact kt x ek M1 r1 t.heap (locs ++ L) (hw.back h1 hL) hE h2
end GMR
