/-! The world: the cells from the start's heap's end on; rows for fields and arrays over it -/
def gl (b n : Nat) (w : Nat → va_E) : va_W := (List.range n).map (fun k => (b + k, w k))
theorem gl_at {b n k : Nat} {w : Nat → va_E} (hk : k < n) : (gl b n w)[k]? = some (b + k, w k) := by
  simp [gl, hk]
theorem gl_len {b n : Nat} {w : Nat → va_E} : (gl b n w).length = n := by simp [gl]
theorem gl_get {b n k : Nat} {w : Nat → va_E} {q : Nat × va_E} (h : (gl b n w)[k]? = some q) : k < n ∧ q = (b + k, w k) := by
  have hk : k < n := by
    have := (List.getElem?_eq_some_iff.mp h).1
    rwa [gl_len] at this
  exact ⟨hk, (Option.some.inj ((gl_at hk).symm.trans h)).symm⟩
theorem gl_set {b n k : Nat} {w : Nat → va_E} {e : va_E} (hk : k < n) : (gl b n w).set k (b + k, e) = gl b n (va_up w k e) := by
  apply List.ext_getElem?
  intro j
  by_cases hj : j = k
  · subst hj
    rw [List.getElem?_set_self (by rw [gl_len]; exact hk), gl_at hk, va_up_self]
  · rw [List.getElem?_set_ne (Ne.symm hj)]
    by_cases hn : j < n
    · rw [gl_at hn, gl_at hn, va_up_ne _ _ hj]
    · rw [List.getElem?_eq_none (by rw [gl_len]; omega), List.getElem?_eq_none (by rw [gl_len]; omega)]
theorem gl_push {b n : Nat} {w : Nat → va_E} {e : va_E} : gl b n w ++ [(b + n, e)] = gl b (n + 1) (va_up w n e) := by
  simp only [gl, List.range_succ, List.map_append, List.map_cons, List.map_nil, va_up_self]
  congr 1
  apply List.map_congr_left
  intro k hk
  have : k ≠ n := by have := List.mem_range.mp hk; omega
  rw [va_up_ne _ _ this]
theorem gl_congr {b n : Nat} {w w' : Nat → va_E} (h : ∀ k, k < n → w k = w' k) : gl b n w = gl b n w' := by
  simp only [gl]
  apply List.map_congr_left
  intro k hk
  rw [h k (List.mem_range.mp hk)]
theorem gl_D {b n : Nat} {w : Nat → va_E} : va_D (fun q => b ≤ q) (gl b n w) := by
  refine ⟨fun i j p q hi hj h => ?_, fun k q hk => ?_⟩
  · obtain ⟨-, rfl⟩ := gl_get hi
    obtain ⟨-, rfl⟩ := gl_get hj
    dsimp only at h
    omega
  · obtain ⟨-, rfl⟩ := gl_get hk
    exact Nat.le_add_right _ _
def gw (D : va_G) (cl : List vw_C) (H0 : Heap) (n : Nat) (w : Nat → va_E) (H : Heap) (locs : List Loc) : Prop :=
  va_P D cl (gl H0.size n w) H ∧ va_S (fun q => H0.size ≤ q) H0 H locs
theorem gw.one {D : va_G} {cl : List vw_C} {H0 H : Heap} {n k : Nat} {w : Nat → va_E} {locs : List Loc} (h : gw D cl H0 n w H locs) (hk : k < n) : va_at D cl (H0.size + k, w k) H := h.1 k _ (gl_at hk)
theorem gw.to {D : va_G} {cl : List vw_C} {H0 H : Heap} {n : Nat} {w w' : Nat → va_E} {locs : List Loc} (h : gw D cl H0 n w H locs) (he : ∀ k, k < n → w k = w' k) : gw D cl H0 n w' H locs := ⟨by rw [← gl_congr he]; exact h.1, h.2⟩
theorem gw.free {D : va_G} {cl : List vw_C} {H0 H : Heap} {n : Nat} {w : Nat → va_E} {locs : List Loc} (h : gw D cl H0 n w H locs) : ∀ q ∈ locs, H0.size ≤ q.base := h.2.2.2
theorem gw.none {D : va_G} {cl : List vw_C} {H0 H : Heap} {n : Nat} {w : Nat → va_E} {locs : List Loc} (h : gw D cl H0 n w H locs) : gw D cl H0 n w H [] := ⟨h.1, h.2.1, h.2.2.1, fun _ h => absurd h List.not_mem_nil⟩
/-- behind a call: the callee's world, the caller's locs -/
theorem gw.back {D : va_G} {cl : List vw_C} {H0 H H1 : Heap} {n n' : Nat} {w w' : Nat → va_E} {locs L : List Loc} (h : gw D cl H0 n w H locs) (h1 : gw D cl H0 n' w' H1 []) (hL : ∀ q ∈ L, H0.size ≤ q.base) : gw D cl H0 n' w' H1 (locs ++ L) :=
  ⟨h1.1, h1.2.1, h1.2.2.1, fun q hq => (List.mem_append.mp hq).elim (h.2.2.2 q) (hL q)⟩
theorem gw.le {D : va_G} {cl : List vw_C} {H0 H : Heap} {n : Nat} {w : Nat → va_E} {locs : List Loc} (h : gw D cl H0 n w H locs) (hn : 0 < n) : H0.size + n ≤ H.size := by
  have := (h.one (k := n - 1) (by omega)).lt
  dsimp only at this
  omega
/-- the heap has grown behind: the world stands -/
theorem gw.grow {D : va_G} {cl : List vw_C} {H0 H H1 : Heap} {n : Nat} {w : Nat → va_E} {locs : List Loc} (h : gw D cl H0 n w H locs) (hk : ∀ q, q < H.size → H1[q]? = H[q]?) (hz : H.size ≤ H1.size) : gw D cl H0 n w H1 locs :=
  ⟨h.1.kept (fun k q hq => hk _ (h.1 k q hq).lt), Nat.le_trans h.2.1 hz, fun q h1 h2 => (hk q (Nat.lt_of_lt_of_le h1 h.2.1)).trans (h.2.2.1 q h1 h2), h.2.2.2⟩
section GW
variable {p : Program} {l : Launch} {e : Env} {R : Room} {s : State} {m : MethodId} {args : Array Value} {below : List Frame} {meth : Method} {c : Code} {H : Heap} {locs : List Loc} {cells slots : Nat} {Q : State → Prop}
variable {cc : ByteArray} {pc : Nat} {ls : Array Slot} {rest : List Value} {D : va_G} {cl : List vw_C} {k n : Nat} {tys : List (ClassId × FieldType)} {w : Nat → va_E} {H0 : Heap} {own ref C host : String} {T : u_T} {N ci index : Nat} {Ts : List Cond} {fs : List Value}
theorem gw_recv (hK : va_K D cl tys s) (hP : gw D cl H0 n w H locs) (hk : k < n) (he : w k = .inr (ci, fs)) (hc : cl[ci]? = some (C, T, N)) : ∃ cell : Cell, H[H0.size + k]? = some cell ∧ cell.vm.isStatics = false ∧ s.vm.findClass C = some cell.cls :=
  va_recv hK hP.1 hc (by rw [gl_at hk, he])
theorem gw_get (hexec : p.tables.exec = Jvm.exec) (hb : c.code = cc) (hts : ∀ w ∈ Ts, w.before args s = true) (hown : s.vm.findClass own = some m.cls) (hK : va_K D cl tys s) (hP : gw D cl H0 n w H locs) (hin : ∀ w ∈ u_ws C T N, w ∈ Ts) (hk : k < n) (he : w k = .inr (ci, fs)) (hc : cl[ci]? = some (C, T, N)) (j : Nat) (hj : j < N) (hlink : (Cond.fieldLink own index C (T j).2.1 (T j).2.2.1).before args s = true) (hC : (T j).1 = C) {v : Value} (hv : fs[j]? = some v) (hdg : decode cc pc = .ok (.getfield index, 3))
    (kk : W p l e R s m args below meth c H locs cells slots Q (F0 m (pc + 3) ls (v :: rest))) : W p l e R s m args below meth c H locs cells slots Q (F0 m pc ls (.ref (H0.size + k) :: rest)) :=
  va_get hexec hb hts hin hown hK hP.1 k (by rw [gl_at hk, he]) hc j hj hlink (fun x hx => by rw [hC] at hx; exact hx) hv hdg kk
theorem gw_getN (hexec : p.tables.exec = Jvm.exec) (hb : c.code = cc) (hts : ∀ w ∈ Ts, w.before args s = true) (hown : s.vm.findClass own = some m.cls) (hK : va_K D cl tys s) (hP : gw D cl H0 n w H locs) (hin : ∀ w ∈ u_ws C T N, w ∈ Ts) (hk : k < n) (he : w k = .inr (ci, fs)) (hc : cl[ci]? = some (C, T, N)) (j : Nat) (hj : j < N) (hlink : (Cond.fieldLinkNest own index C (T j).2.1 (T j).2.2.1 host).before args s = true) (hC : (T j).1 = C) {v : Value} (hv : fs[j]? = some v) (hdg : decode cc pc = .ok (.getfield index, 3))
    (kk : W p l e R s m args below meth c H locs cells slots Q (F0 m (pc + 3) ls (v :: rest))) : W p l e R s m args below meth c H locs cells slots Q (F0 m pc ls (.ref (H0.size + k) :: rest)) :=
  va_getN hexec hb hts hin hown hK hP.1 k (by rw [gl_at hk, he]) hc j hj hlink (fun x hx => by rw [hC] at hx; exact hx) hv hdg kk
theorem gw_put (hexec : p.tables.exec = Jvm.exec) (hb : c.code = cc) (hts : ∀ w ∈ Ts, w.before args s = true) (hown : s.vm.findClass own = some m.cls) (hK : va_K D cl tys s) (hP : gw D cl H0 n w H locs) (hin : ∀ w ∈ u_ws C T N, w ∈ Ts) (ty0 : Nat → FieldType) (hty : ∀ k, k < N → parseFieldDescriptor (T k).2.2.1 = some (ty0 k)) (hnm : ∀ a, a < N → ∀ b, b < N → a ≠ b → (T a).2.1 ≠ (T b).2.1) (hk : k < n) (he : w k = .inr (ci, fs)) (hc : cl[ci]? = some (C, T, N)) (j : Nat) (hj : j < N) (hlink : (Cond.fieldLink own index C (T j).2.1 (T j).2.2.1).before args s = true) (hC : (T j).1 = C) (hfin : (T j).2.2.2 = false) {v : Value} (hn : narrow (ty0 j) v = v) (hfit : fits (ty0 j) v = true) (hl : j < fs.length)
    (hdg : decode cc pc = .ok (.putfield index, 3)) (kk : ∀ (H1 : Heap) (locs1 : List Loc), gw D cl H0 n (va_up w k (.inr (ci, fs.set j v))) H1 locs1 → W p l e R s m args below meth c H1 locs1 cells slots Q (F0 m (pc + 3) ls rest)) : W p l e R s m args below meth c H locs cells slots Q (F0 m pc ls (v :: .ref (H0.size + k) :: rest)) :=
  va_put hexec hb hts hin ty0 hty hnm hown hK hP.1 gl_D hP.2 k (by rw [gl_at hk, he]) hc j hj hlink (fun x hx => by rw [hC] at hx; exact hx) hfin (hty j hj) hn hfit hl hdg
    (fun H1 locs1 h1 _ h3 => kk H1 locs1 ⟨by rw [← gl_set hk]; exact h1, h3⟩)
theorem gw_putN (hexec : p.tables.exec = Jvm.exec) (hb : c.code = cc) (hts : ∀ w ∈ Ts, w.before args s = true) (hown : s.vm.findClass own = some m.cls) (hK : va_K D cl tys s) (hP : gw D cl H0 n w H locs) (hin : ∀ w ∈ u_ws C T N, w ∈ Ts) (ty0 : Nat → FieldType) (hty : ∀ k, k < N → parseFieldDescriptor (T k).2.2.1 = some (ty0 k)) (hnm : ∀ a, a < N → ∀ b, b < N → a ≠ b → (T a).2.1 ≠ (T b).2.1) (hk : k < n) (he : w k = .inr (ci, fs)) (hc : cl[ci]? = some (C, T, N)) (j : Nat) (hj : j < N) (hlink : (Cond.fieldLinkNest own index C (T j).2.1 (T j).2.2.1 host).before args s = true) (hC : (T j).1 = C) (hfin : (T j).2.2.2 = false) {v : Value} (hn : narrow (ty0 j) v = v) (hfit : fits (ty0 j) v = true) (hl : j < fs.length)
    (hdg : decode cc pc = .ok (.putfield index, 3)) (kk : ∀ (H1 : Heap) (locs1 : List Loc), gw D cl H0 n (va_up w k (.inr (ci, fs.set j v))) H1 locs1 → W p l e R s m args below meth c H1 locs1 cells slots Q (F0 m (pc + 3) ls rest)) : W p l e R s m args below meth c H locs cells slots Q (F0 m pc ls (v :: .ref (H0.size + k) :: rest)) :=
  va_putN hexec hb hts hin ty0 hty hnm hown hK hP.1 gl_D hP.2 k (by rw [gl_at hk, he]) hc j hj hlink (fun x hx => by rw [hC] at hx; exact hx) hfin (hty j hj) hn hfit hl hdg
    (fun H1 locs1 h1 _ h3 => kk H1 locs1 ⟨by rw [← gl_set hk]; exact h1, h3⟩)
theorem gw_putF (hexec : p.tables.exec = Jvm.exec) (hb : c.code = cc) (hts : ∀ w ∈ Ts, w.before args s = true) (hown : s.vm.findClass C = some m.cls) (hK : va_K D cl tys s) (hP : gw D cl H0 n w H locs) (hin : ∀ w ∈ u_ws C T N, w ∈ Ts) (ty0 : Nat → FieldType) (hty : ∀ k, k < N → parseFieldDescriptor (T k).2.2.1 = some (ty0 k)) (hnm : ∀ a, a < N → ∀ b, b < N → a ≠ b → (T a).2.1 ≠ (T b).2.1) (hk : k < n) (he : w k = .inr (ci, fs)) (hc : cl[ci]? = some (C, T, N)) (j : Nat) (hj : j < N) (hlink : (Cond.fieldLink C index C (T j).2.1 (T j).2.2.1).before args s = true) (hC : (T j).1 = C) (hfin : (T j).2.2.2 = true) (hin2 : meth.name = "<init>") {v : Value} (hn : narrow (ty0 j) v = v) (hfit : fits (ty0 j) v = true) (hl : j < fs.length)
    (hdg : decode cc pc = .ok (.putfield index, 3)) (kk : ∀ (H1 : Heap) (locs1 : List Loc), gw D cl H0 n (va_up w k (.inr (ci, fs.set j v))) H1 locs1 → W p l e R s m args below meth c H1 locs1 cells slots Q (F0 m (pc + 3) ls rest)) : W p l e R s m args below meth c H locs cells slots Q (F0 m pc ls (v :: .ref (H0.size + k) :: rest)) :=
  va_putF hexec hb hts hin ty0 hty hnm hown hK hP.1 gl_D hP.2 k (by rw [gl_at hk, he]) hc j hj hlink (fun x hx => by rw [hC] at hx; exact hx) hfin hin2 hC (hty j hj) hn hfit hl hdg
    (fun H1 locs1 h1 _ h3 => kk H1 locs1 ⟨by rw [← gl_set hk]; exact h1, h3⟩)
variable {cA : ClassId} {f : Nat → Int32} {fl : Nat → Int64} {fq : Nat → Option Nat} {i x : Int32} {N' t0 : Nat}
theorem gw_iald (hexec : p.tables.exec = Jvm.exec) (hb : c.code = cc) (hK : va_K D cl tys s) (hP : gw D cl H0 n w H locs) (hk : k < n) (he : w k = .inl (cA, N', .inl f)) (t0 : Nat) (ht : tys[t0]? = some (cA, .int)) (hin : vp_in i N') (hdg : decode cc pc = .ok (.iaload, 1))
    (kk : W p l e R s m args below meth c H locs cells slots Q (F0 m (pc + 1) ls (.int (f i.toNatClampNeg) :: rest))) : W p l e R s m args below meth c H locs cells slots Q (F0 m pc ls (.int i :: .ref (H0.size + k) :: rest)) :=
  va_iald hexec hb hK hP.1 k t0 (by rw [gl_at hk, he]) ht hin hdg kk
theorem gw_cald (hexec : p.tables.exec = Jvm.exec) (hb : c.code = cc) (hK : va_K D cl tys s) (hP : gw D cl H0 n w H locs) (hk : k < n) (he : w k = .inl (cA, N', .inl f)) (t0 : Nat) (ht : tys[t0]? = some (cA, .char)) (hin : vp_in i N') (hdg : decode cc pc = .ok (.caload, 1))
    (kk : W p l e R s m args below meth c H locs cells slots Q (F0 m (pc + 1) ls (.int (f i.toNatClampNeg) :: rest))) : W p l e R s m args below meth c H locs cells slots Q (F0 m pc ls (.int i :: .ref (H0.size + k) :: rest)) :=
  va_cald hexec hb hK hP.1 k t0 (by rw [gl_at hk, he]) ht hin hdg kk
theorem gw_lald (hexec : p.tables.exec = Jvm.exec) (hb : c.code = cc) (hK : va_K D cl tys s) (hP : gw D cl H0 n w H locs) (hk : k < n) (he : w k = .inl (cA, N', .inr (.inl fl))) (t0 : Nat) (ht : tys[t0]? = some (cA, .long)) (hin : vp_in i N') (hdg : decode cc pc = .ok (.laload, 1))
    (kk : W p l e R s m args below meth c H locs cells slots Q (F0 m (pc + 1) ls (.long (fl i.toNatClampNeg) :: rest))) : W p l e R s m args below meth c H locs cells slots Q (F0 m pc ls (.int i :: .ref (H0.size + k) :: rest)) :=
  va_lald hexec hb hK hP.1 k t0 (by rw [gl_at hk, he]) ht hin hdg kk
theorem gw_aald (hexec : p.tables.exec = Jvm.exec) (hb : c.code = cc) (hK : va_K D cl tys s) (hP : gw D cl H0 n w H locs) (hk : k < n) (he : w k = .inl (cA, N', .inr (.inr (.inr (.inr fq))))) (t0 : Nat) (ht : tys[t0]? = some (cA, .object C)) (hin : vp_in i N') (hdg : decode cc pc = .ok (.aaload, 1))
    (kk : W p l e R s m args below meth c H locs cells slots Q (F0 m (pc + 1) ls (va_rf (fq i.toNatClampNeg) :: rest))) : W p l e R s m args below meth c H locs cells slots Q (F0 m pc ls (.int i :: .ref (H0.size + k) :: rest)) :=
  va_aldq hexec hb hK hP.1 k t0 (by rw [gl_at hk, he]) ht hin hdg kk
theorem gw_alen (hexec : p.tables.exec = Jvm.exec) (hb : c.code = cc) (hK : va_K D cl tys s) (hP : gw D cl H0 n w H locs) (hk : k < n) {a9 : vp_A} (he : w k = .inl (cA, a9)) (t0 : Nat) {ty9 : FieldType} (ht : tys[t0]? = some (cA, ty9)) (hdg : decode cc pc = .ok (.arraylength, 1))
    (kk : W p l e R s m args below meth c H locs cells slots Q (F0 m (pc + 1) ls (.int (nI a9.1) :: rest))) : W p l e R s m args below meth c H locs cells slots Q (F0 m pc ls (.ref (H0.size + k) :: rest)) :=
  va_alen hexec hb hK hP.1 k t0 (by rw [gl_at hk, he]) ht rfl hdg kk
theorem gw_iast (hexec : p.tables.exec = Jvm.exec) (hb : c.code = cc) (hK : va_K D cl tys s) (hP : gw D cl H0 n w H locs) (hk : k < n) (he : w k = .inl (cA, N', .inl f)) (t0 : Nat) (ht : tys[t0]? = some (cA, .int)) (hin : vp_in i N') (hdg : decode cc pc = .ok (.iastore, 1))
    (kk : ∀ (H1 : Heap) (locs1 : List Loc), gw D cl H0 n (va_up w k (.inl (cA, N', .inl (upd f i.toNatClampNeg x)))) H1 locs1 → W p l e R s m args below meth c H1 locs1 cells slots Q (F0 m (pc + 1) ls rest)) : W p l e R s m args below meth c H locs cells slots Q (F0 m pc ls (.int x :: .int i :: .ref (H0.size + k) :: rest)) :=
  va_iast hexec hb hK hP.1 gl_D hP.2 k t0 (by rw [gl_at hk, he]) ht hin hdg (fun H1 locs1 h1 _ h3 => kk H1 locs1 ⟨by rw [← gl_set hk]; exact h1, h3⟩)
theorem gw_cast (hexec : p.tables.exec = Jvm.exec) (hb : c.code = cc) (hK : va_K D cl tys s) (hP : gw D cl H0 n w H locs) (hk : k < n) (he : w k = .inl (cA, N', .inl f)) (t0 : Nat) (ht : tys[t0]? = some (cA, .char)) (hin : vp_in i N') (hdg : decode cc pc = .ok (.castore, 1))
    (kk : ∀ (H1 : Heap) (locs1 : List Loc), gw D cl H0 n (va_up w k (.inl (cA, N', .inl (upd f i.toNatClampNeg (vp_nar .char x))))) H1 locs1 → W p l e R s m args below meth c H1 locs1 cells slots Q (F0 m (pc + 1) ls rest)) : W p l e R s m args below meth c H locs cells slots Q (F0 m pc ls (.int x :: .int i :: .ref (H0.size + k) :: rest)) :=
  va_cast hexec hb hK hP.1 gl_D hP.2 k t0 (by rw [gl_at hk, he]) ht hin hdg (fun H1 locs1 h1 _ h3 => kk H1 locs1 ⟨by rw [← gl_set hk]; exact h1, h3⟩)
theorem gw_last {xl : Int64} (hexec : p.tables.exec = Jvm.exec) (hb : c.code = cc) (hK : va_K D cl tys s) (hP : gw D cl H0 n w H locs) (hk : k < n) (he : w k = .inl (cA, N', .inr (.inl fl))) (t0 : Nat) (ht : tys[t0]? = some (cA, .long)) (hin : vp_in i N') (hdg : decode cc pc = .ok (.lastore, 1))
    (kk : ∀ (H1 : Heap) (locs1 : List Loc), gw D cl H0 n (va_up w k (.inl (cA, N', .inr (.inl (vp_updL fl i.toNatClampNeg xl))))) H1 locs1 → W p l e R s m args below meth c H1 locs1 cells slots Q (F0 m (pc + 1) ls rest)) : W p l e R s m args below meth c H locs cells slots Q (F0 m pc ls (.long xl :: .int i :: .ref (H0.size + k) :: rest)) :=
  va_last hexec hb hK hP.1 gl_D hP.2 k t0 (by rw [gl_at hk, he]) ht hin hdg (fun H1 locs1 h1 _ h3 => kk H1 locs1 ⟨by rw [← gl_set hk]; exact h1, h3⟩)
theorem gw_aast {k2 ci : Nat} {vs : List Value} {r : vw_C} (hexec : p.tables.exec = Jvm.exec) (hb : c.code = cc) (hK : va_K D cl tys s) (hP : gw D cl H0 n w H locs) (hk : k < n) (he : w k = .inl (cA, N', .inr (.inr (.inr (.inr fq))))) (t0 : Nat) (ht : tys[t0]? = some (cA, .object r.1)) (hk2 : k2 < n) (he2 : w k2 = .inr (ci, vs)) (hc : cl[ci]? = some r) (hin : vp_in i N') (hdg : decode cc pc = .ok (.aastore, 1))
    (kk : ∀ (H1 : Heap) (locs1 : List Loc), gw D cl H0 n (va_up w k (.inl (cA, N', .inr (.inr (.inr (.inr (va_up fq i.toNatClampNeg (some (H0.size + k2)))))))) ) H1 locs1 → W p l e R s m args below meth c H1 locs1 cells slots Q (F0 m (pc + 1) ls rest)) : W p l e R s m args below meth c H locs cells slots Q (F0 m pc ls (.ref (H0.size + k2) :: .int i :: .ref (H0.size + k) :: rest)) :=
  va_astq hexec hb hK hP.1 gl_D hP.2 k t0 k2 ci (by rw [gl_at hk, he]) ht (by rw [gl_at hk2, he2]) hc hin hdg (fun H1 locs1 h1 _ h3 => kk H1 locs1 ⟨by rw [← gl_set hk]; exact h1, h3⟩)
end GW
