/-! Constructors: the world grows -/
def gM0 : gMem := fun t _ => if t = 37 then -1 else if t = 105 then -1 else 0
def gR0 : gRef := fun _ _ => none
/-- the world when all is made -/
def wI (b : Nat) (aC : Nat → ClassId) : Nat → va_E := gW b aC gM0 gR0 0
/-- a constructor's contract: from n cells w to n1 cells, mc = n1 - n cells of ms slots -/
def gKt (l : Launch) (s0 : State) (D : va_G) (y : MethodName) (cw : Cond) (fr lo mc ms : Nat) (av : List Value) (n : Nat) (w : Nat → va_E) (n1 : Nat) (P : (Nat → va_E) → Prop) : Prop :=
  gt_Met l y cw (gRm fr lo mc ms) (fun v U => v = av.toArray ∧ s0.WarmedH U.vm ∧ gw D gC s0.heap n w U.heap [] ∧ U.heap.size = s0.heap.size + n) (fun _ _ o t => o = .returned none ∧ ∃ w1, gw D gC s0.heap n1 w1 t.heap [] ∧ P w1) mc ms mc ms (fun q => s0.heap.size ≤ q)
/-- the world outside cell k and before n stays, cell k and those from n on are as in the end -/
def gNew (b : Nat) (aC : Nat → ClassId) (k n n1 : Nat) (w w1 : Nat → va_E) : Prop := (∀ q, q < n → q ≠ k → w1 q = w q) ∧ w1 k = wI b aC k ∧ ∀ q, n ≤ q → q < n1 → w1 q = wI b aC q
theorem gk_of {l : Launch} {s0 : State} {D : va_G} {aC : Nat → ClassId} {a0 : Array Value} (G : gG l s0 D aC a0) {y : MethodName} {cc : ByteArray} {nl : Nat} {fr lo mc ms : Nat} {av : List Value} {n n1 : Nat} {w : Nat → va_E} {P : (Nat → va_E) → Prop}
    (hy : plainName y.cls = true) (hyn : y.name = "<init>") (hn : (lg_sl av).length ≤ nl)
    (body : ∀ p e s m below meth c ls, gB s0 D aC p e s m meth c y.cls cc nl none → meth.name = "<init>" → lv_has ls nl (lv_args 0 av) → gw D gC s0.heap n w s.heap [] → s.heap.size = s0.heap.size + n →
      W p l e (gRm fr lo mc ms) s m av.toArray below meth c s.heap [] 0 0 (gt_Q below (fun _ o t => o = .returned none ∧ ∃ w1, gw D gC s0.heap n1 w1 t.heap [] ∧ P w1) s mc ms mc ms (fun q => s0.heap.size ≤ q)) (F0 m 0 ls [])) :
    gKt l s0 D y (Cond.code y cc nl none) fr lo mc ms av n w n1 P := by
  refine gt_ofW hy ?_
  intro p e s m args below meth c s₁ B hml hv
  obtain ⟨rfl, hW, hw, hz⟩ := hv
  rw [lg_entry_eq]
  exact body p e s m below meth c _ ⟨B.exec, B.bytes, hml, B.returns, B.notSynchronized, findClass_of_methodNamed B.named, G.2.1.T.warm hW, va_K.moved hW.alike G.2.2, hW, G.1 e B.admits⟩ ((name_of_methodNamed B.named B.method).1.trans hyn) (lv_entry av hn) hw hz
section GKR
variable {p : Program} {l : Launch} {e : Env} {s : State} {m : MethodId} {args : Array Value} {below : List Frame} {meth : Method} {c : Code} {H : Heap} {locs : List Loc} {cells slots : Nat} {Q : State → Prop} {R : Room}
variable {cc : ByteArray} {pc : Nat} {ls : Array Slot} {rest st9 : List Value} {D : va_G} {s0 : State} {aC : Nat → ClassId} {cls : String} {nl n n1 : Nat} {w : Nat → va_E} {mc ms : Nat} {P : (Nat → va_E) → Prop} {ret : Option FieldType}
/-- the heap's size, by what has been made -/
theorem gw_sz {g : JFrame} {n0 : Nat} (hw : gw D gC s0.heap n w H locs) (hn : 0 < n) (hs : s.heap.size = s0.heap.size + n0) (hc : n0 + cells = n) (k : H.size = s0.heap.size + n → W p l e R s m args below meth c H locs cells slots Q g) : W p l e R s m args below meth c H locs cells slots Q g := by
  intro T hT X
  refine k ?_ T hT X
  have h1 := X.heapSize
  have h2 := hw.le hn
  rw [hT] at h1
  omega
theorem gk_ret (B : gB s0 D aC p e s m meth c cls cc nl none) (hw : gw D gC s0.heap n1 w H locs) (hmc : cells ≤ mc) (hms : slots ≤ ms) (hdg : decode cc pc = .ok (.return_, 1)) (hp : P w) : W p l e R s m args below meth c H locs cells slots (gt_Q below (fun _ o t => o = .returned none ∧ ∃ w1, gw D gC s0.heap n1 w1 t.heap [] ∧ P w1) s mc ms mc ms (fun q => s0.heap.size ≤ q)) (F0 m pc ls []) :=
  gt_vret B.1 B.2.1 B.2.2.2.1 B.2.2.2.2.1 hmc hms hw.free hdg (fun t ht => ⟨rfl, w, by rw [ht]; exact hw.none, hp⟩)
/-- invokespecial of a constructor -/
theorem gk_call {y : MethodName} {bytes : ByteArray} {maxL index fr lo mc2 ms2 n2 n0 : Nat} {As : List Value} {b : Nat} {P2 : (Nat → va_E) → Prop} (B : gB s0 D aC p e s m meth c cls cc nl ret) (hsz : ls.size = nl) (hw : gw D gC s0.heap n w H locs) (hn : 0 < n) (hs : s.heap.size = s0.heap.size + n0) (hc : n0 + cells = n) (hM : gKt l s0 D y (Cond.code y bytes maxL none) fr lo mc2 ms2 (.ref b :: As) n w n2 P2)
    (hcode : (Cond.code y bytes maxL none).before args s = true) (hini : (Cond.initialized y.cls).before args s = true) (hlink : (Cond.methodLink cls index y).before args s = true) (hinst : (Cond.instanceMethod y).before args s = true) (hy1 : y.name = "<init>")
    (hy : y.cls ≠ "java/lang/invoke/MethodHandle" ∧ y.cls ≠ "java/lang/invoke/VarHandle" ∧ (parseMethodDescriptor y.desc).map (fun d => d.parameters.length) = some As.length) (hst9 : st9 = As.reverse ++ .ref b :: rest) (hWd : (rest.map fun v => v.category).sum ≤ 8) (hR : fr + 1 ≤ R.frames ∧ 8 + (maxL + 11) + lo ≤ R.locals) (hC : cells + mc2 ≤ R.cells ∧ slots + ms2 ≤ R.slots) (hdg : decode cc pc = .ok (.invokespecial index, 3))
    (kr : ∀ w1 H1 locs1, gw D gC s0.heap n2 w1 H1 locs1 → P2 w1 → W p l e R s m args below meth c H1 locs1 (cells + mc2) (slots + ms2) Q (F0 m (pc + 3) ls rest)) : W p l e R s m args below meth c H locs cells slots Q (F0 m pc ls st9) := by
  refine gw_sz hw hn hs hc (fun hz => ?_)
  obtain ⟨hx, hb, hml, -, hlocks, hown, T, -, hW0, -⟩ := B
  refine gt_callI hx hb (hsz.trans hml.symm) hown hM hcode hini hlink hinst hy1 hy hst9 hWd hR hC hdg (fun U hU hW => ⟨rfl, State.WarmedH.trans hW0 hW, by rw [hU]; exact hw.none, by rw [hU]; exact hz⟩) ⟨?_, ?_⟩
  · intro v st t L h0 hq hL
    obtain ⟨hv, w1, h1, h2⟩ := hq
    cases hv
    exact kr w1 t.heap (locs ++ L) (hw.back h1 hL) h2
  · intro x st t L h0 hq hL
    exact absurd hq.1 (by intro h; cases h)
theorem gk_callN {y : MethodName} {bytes : ByteArray} {maxL index fr lo mc2 ms2 n2 n0 : Nat} {As : List Value} {b : Nat} {P2 : (Nat → va_E) → Prop} {host : String} (B : gB s0 D aC p e s m meth c cls cc nl ret) (hsz : ls.size = nl) (hw : gw D gC s0.heap n w H locs) (hn : 0 < n) (hs : s.heap.size = s0.heap.size + n0) (hc : n0 + cells = n) (hM : gKt l s0 D y (Cond.code y bytes maxL none) fr lo mc2 ms2 (.ref b :: As) n w n2 P2)
    (hcode : (Cond.code y bytes maxL none).before args s = true) (hini : (Cond.initialized y.cls).before args s = true) (hlink : (Cond.methodLinkNest cls index y host).before args s = true) (hinst : (Cond.instanceMethod y).before args s = true) (hy1 : y.name = "<init>")
    (hy : y.cls ≠ "java/lang/invoke/MethodHandle" ∧ y.cls ≠ "java/lang/invoke/VarHandle" ∧ (parseMethodDescriptor y.desc).map (fun d => d.parameters.length) = some As.length) (hst9 : st9 = As.reverse ++ .ref b :: rest) (hWd : (rest.map fun v => v.category).sum ≤ 8) (hR : fr + 1 ≤ R.frames ∧ 8 + (maxL + 11) + lo ≤ R.locals) (hC : cells + mc2 ≤ R.cells ∧ slots + ms2 ≤ R.slots) (hdg : decode cc pc = .ok (.invokespecial index, 3))
    (kr : ∀ w1 H1 locs1, gw D gC s0.heap n2 w1 H1 locs1 → P2 w1 → W p l e R s m args below meth c H1 locs1 (cells + mc2) (slots + ms2) Q (F0 m (pc + 3) ls rest)) : W p l e R s m args below meth c H locs cells slots Q (F0 m pc ls st9) := by
  refine gw_sz hw hn hs hc (fun hz => ?_)
  obtain ⟨hx, hb, hml, -, hlocks, hown, T, -, hW0, -⟩ := B
  refine gt_callIN hx hb (hsz.trans hml.symm) hown hM hcode hini hlink hinst hy1 hy hst9 hWd hR hC hdg (fun U hU hW => ⟨rfl, State.WarmedH.trans hW0 hW, by rw [hU]; exact hw.none, by rw [hU]; exact hz⟩) ⟨?_, ?_⟩
  · intro v st t L h0 hq hL
    obtain ⟨hv, w1, h1, h2⟩ := hq
    cases hv
    exact kr w1 t.heap (locs ++ L) (hw.back h1 hL) h2
  · intro x st t L h0 hq hL
    exact absurd hq.1 (by intro h; cases h)
/-- Object's constructor -/
theorem gk_obj {x : Nat} (B : gB s0 D aC p e s m meth c cls cc nl ret) (hsz : ls.size = nl) {idx : Nat} (hlink : (Cond.methodLink cls idx objectInit).before args s = true) (hW : (rest.map fun v => v.category).sum ≤ 8) (hfr : 1 ≤ R.frames) (hlo : 20 ≤ R.locals) (hdg : decode cc pc = .ok (.invokespecial idx, 3)) (k : W p l e R s m args below meth c H locs cells slots Q (F0 m (pc + 3) ls rest)) : W p l e R s m args below meth c H locs cells slots Q (F0 m pc ls (.ref x :: rest)) := by
  obtain ⟨hx, hb, hml, -, hlocks, hown, T, -, hW0, -⟩ := B
  exact W.objInit hx hb hown hlink (ka_Ob_init T) (kd_Ob_init T) (g := F0 m pc ls (.ref x :: rest)) rfl (hsz.trans hml.symm) rfl hdg hfr (by show 2 * 0 + (rest.map fun v => v.category).sum + 12 ≤ R.locals; omega) k
end GKR
/-- an array of references, by what its places hold -/
theorem gw_refs {D : va_G} {cl : List vw_C} {H0 H : Heap} {n q N : Nat} {w : Nat → va_E} {locs : List Loc} {cA : ClassId} {f g : Nat → Option Nat} (hw : gw D cl H0 n w H locs) (hq : q < n) (he : w q = .inl (cA, N, .inr (.inr (.inr (.inr f))))) (hfg : ∀ j, j < N → f j = g j) : gw D cl H0 n (va_up w q (.inl (cA, N, .inr (.inr (.inr (.inr g)))))) H locs := by
  refine ⟨fun j x hx => ?_, hw.2⟩
  obtain ⟨hj, rfl⟩ := gl_get hx
  have h1 := hw.one hj
  by_cases hj2 : j = q
  · subst hj2
    rw [va_up_self]
    rw [he] at h1
    show H[_]? = some (vp_cell _ _)
    have h2 : H[H0.size + j]? = some (vp_cell cA (N, .inr (.inr (.inr (.inr f))))) := h1
    have h3 : arrV cA N (fun j => va_rf (f j)) = arrV cA N (fun j => va_rf (g j)) := by
      have h4 : (fun j : Fin N => va_rf (f j.val)) = fun j : Fin N => va_rf (g j.val) := funext fun j => by rw [hfg j.val j.isLt]
      unfold arrV
      rw [h4]
    rw [h2, vp_cell_q, vp_cell_q, h3]
  · rw [va_up_ne _ _ hj2]
    exact h1
