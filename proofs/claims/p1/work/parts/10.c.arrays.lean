/-! A row an array: reading and writing over the state -/
theorem gc_ch {b : Nat} {aC : Nat → ClassId} {M : gMem} {r : gRef} {ow : Int64} {x : Int32} {i j K2 i2 : Nat} (hi : i < 6) (h : (K2, i2) ≠ (2, i)) (hv : gv K2 i2 = true) : gc b aC (mS M (10 + i) j x) r ow K2 i2 = gc b aC M r ow K2 i2 := by
  have h1 : K2 = 2 → i2 = i → False := fun a b => h (by rw [a, b])
  clear h
  unfold gc
  split <;> simp only [gv, decide_eq_true_eq] at hv <;> first | rfl | (rw [mS_fn _ _ _ (by omega)]; done) | (have h2 : ¬ i2 = i := h1 rfl; rw [mS_fn _ _ _ (by omega)]; done) | (simp only [mS_tag M (t := 10 + i) (t2 := 0) _ _ _ (by omega), mS_tag M (t := 10 + i) (t2 := 1) _ _ _ (by omega), mS_tag M (t := 10 + i) (t2 := 2) _ _ _ (by omega), mS_tag M (t := 10 + i) (t2 := 20) _ _ _ (by omega), mS_tag M (t := 10 + i) (t2 := 21) _ _ _ (by omega), mS_tag M (t := 10 + i) (t2 := 22) _ _ _ (by omega), mS_tag M (t := 10 + i) (t2 := 23) _ _ _ (by omega), mS_tag M (t := 10 + i) (t2 := 24) _ _ _ (by omega), mS_tag M (t := 10 + i) (t2 := 25) _ _ _ (by omega), mS_tag M (t := 10 + i) (t2 := 26) _ _ _ (by omega), mS_tag M (t := 10 + i) (t2 := 27) _ _ _ (by omega), mS_tag M (t := 10 + i) (t2 := 28) _ _ _ (by omega), mS_tag M (t := 10 + i) (t2 := 29) _ _ _ (by omega), mS_tag M (t := 10 + i) (t2 := 30) _ _ _ (by omega), mS_tag M (t := 10 + i) (t2 := 31) _ _ _ (by omega), mS_tag M (t := 10 + i) (t2 := 34) _ _ _ (by omega), mS_tag M (t := 10 + i) (t2 := 35) _ _ _ (by omega), mS_tag M (t := 10 + i) (t2 := 36) _ _ _ (by omega), mS_tag M (t := 10 + i) (t2 := 37) _ _ _ (by omega), mS_tag M (t := 10 + i) (t2 := 100) _ _ _ (by omega), mS_tag M (t := 10 + i) (t2 := 101) _ _ _ (by omega), mS_tag M (t := 10 + i) (t2 := 103) _ _ _ (by omega), mS_tag M (t := 10 + i) (t2 := 104) _ _ _ (by omega), mS_tag M (t := 10 + i) (t2 := 105) _ _ _ (by omega), mS_tag M (t := 10 + i) (t2 := 106) _ _ _ (by omega), mS_tag M (t := 10 + i) (t2 := 107) _ _ _ (by omega), mS_tag M (t := 10 + i) (t2 := 109) _ _ _ (by omega), mS_tag M (t := 10 + i) (t2 := 122) _ _ _ (by omega), mS_tag M (t := 10 + i) (t2 := 124) _ _ _ (by omega), mS_tag M (t := 10 + i) (t2 := 125) _ _ _ (by omega), mS_tag M (t := 10 + i) (t2 := 126) _ _ _ (by omega), mS_tag M (t := 10 + i) (t2 := 128) _ _ _ (by omega), mS_tag M (t := 10 + i) (t2 := 129) _ _ _ (by omega), mS_tag M (t := 10 + i) (t2 := 131) _ _ _ (by omega), mS_tag M (t := 10 + i) (t2 := 132) _ _ _ (by omega), mS_tag M (t := 10 + i) (t2 := 133) _ _ _ (by omega)]; done)
theorem gc_ow {b : Nat} {aC : Nat → ClassId} {M : gMem} {r : gRef} {ow ow2 : Int64} (K : Nat) (h : K < 17) (h2 : K ≠ 16) (i : Nat) : gc b aC M r ow K i = gc b aC M r ow2 K i := by
  match K, h, h2 with
  | 0, _, _ => rfl
  | 1, _, _ => rfl
  | 2, _, _ => rfl
  | 3, _, _ => rfl
  | 4, _, _ => rfl
  | 5, _, _ => rfl
  | 6, _, _ => rfl
  | 7, _, _ => rfl
  | 8, _, _ => rfl
  | 9, _, _ => rfl
  | 10, _, _ => rfl
  | 11, _, _ => rfl
  | 12, _, _ => rfl
  | 13, _, _ => rfl
  | 14, _, _ => rfl
  | 15, _, _ => rfl
  | 16, _, h2 => exact absurd rfl h2
  | q + 17, h, _ => exact absurd h (by omega)
/-- an array of one long: by its one place -/
theorem gw_outTo {D : va_G} {H0 H : Heap} {aC : Nat → ClassId} {M : gMem} {r : gRef} {ow ow2 : Int64} {locs : List Loc} {k : Nat} {x : Int32} (hk : k = 401) (hin : vp_in x 1) (h : gw D gC H0 402 (va_up (gW H0.size aC M r ow) k (.inl (aC 2, 1, .inr (.inl (vp_updL (fun _ => ow) x.toNatClampNeg ow2))))) H locs) : gw D gC H0 402 (gW H0.size aC M r ow2) H locs := by
  subst hk
  have hx : x.toNatClampNeg = 0 := by
    have := Nat.not_le.mp (fun q => hin (Or.inr q))
    omega
  rw [hx] at h
  refine ⟨fun j q hq => ?_, h.2⟩
  obtain ⟨hj, rfl⟩ := gl_get hq
  have h1 := h.one hj
  by_cases hj2 : j = 401
  · subst hj2
    rw [va_up_self] at h1
    show H[_]? = some (vp_cell _ _)
    have h2 : H[H0.size + 401]? = some (vp_cell (aC 2) (1, .inr (.inl (vp_updL (fun _ => ow) 0 ow2)))) := h1
    rw [h2]
    simp only [vp_cell_l]
    congr 1
  · rw [va_up_ne _ _ hj2] at h1
    have e : gW H0.size aC M r ow j = gW H0.size aC M r ow2 j := by
      unfold gW
      have h3 : (gk j).1 ≠ 16 := fun q => hj2 (by have := go_gk j hj; rw [q] at this; exact this.symm)
      have h5 : (gk j).1 < 17 := (show ∀ k, k < 402 → (gk k).1 < 17 by decide +kernel) j hj
      exact gc_ow _ h5 h3 _
    rw [← e]
    exact h1
section GAR
variable {p : Program} {l : Launch} {e : Env} {R : Room} {s : State} {m : MethodId} {args : Array Value} {below : List Frame} {meth : Method} {c : Code} {H : Heap} {locs : List Loc} {cells slots : Nat} {Q : State → Prop} {cc : ByteArray} {pc : Nat} {ls : Array Slot} {rest : List Value} {D : va_G} {H0 : Heap} {aC : Nat → ClassId} {M : gMem} {r : gRef} {ow : Int64} {own : String} {index k i : Nat} {x v : Int32}
theorem ga_ch (hx : p.tables.exec = Jvm.exec) (hb : c.code = cc) (hK : va_K D gC (gTy aC) s) (hw : gw D gC H0 402 (gW H0.size aC M r ow) H locs) (hi : i < 6) (hk : k = oRow i + 1) (hin : vp_in x (nRow i)) (hdg : decode cc pc = .ok (.caload, 1))
    (kk : W p l e R s m args below meth c H locs cells slots Q (F0 m (pc + 1) ls (.int (M (10 + i) x.toNatClampNeg) :: rest))) : W p l e R s m args below meth c H locs cells slots Q (F0 m pc ls (.int x :: .ref (H0.size + k) :: rest)) :=
  gw_cald hx hb hK hw (by rw [hk]; exact (gk_Row i hi).2.2) (by rw [hk]; unfold gW; rw [(gk_Row i hi).2.1]; rfl) 0 rfl hin hdg kk
theorem gs_ch (hx : p.tables.exec = Jvm.exec) (hb : c.code = cc) (hK : va_K D gC (gTy aC) s) (hw : gw D gC H0 402 (gW H0.size aC M r ow) H locs) (hi : i < 6) (hk : k = oRow i + 1) (hin : vp_in x (nRow i)) (hdg : decode cc pc = .ok (.castore, 1))
    (kk : ∀ (H1 : Heap) (locs1 : List Loc), gw D gC H0 402 (gW H0.size aC (mS M (10 + i) x.toNatClampNeg (vp_nar .char v)) r ow) H1 locs1 → W p l e R s m args below meth c H1 locs1 cells slots Q (F0 m (pc + 1) ls rest)) : W p l e R s m args below meth c H locs cells slots Q (F0 m pc ls (.int v :: .int x :: .ref (H0.size + k) :: rest)) :=
  gw_cast hx hb hK hw (by rw [hk]; exact (gk_Row i hi).2.2) (by rw [hk]; unfold gW; rw [(gk_Row i hi).2.1]; rfl) 0 rfl hin hdg
    (fun H1 locs1 h1 => kk H1 locs1 (h1.to (by rw [hk]; exact gW_up (K := 2) (i := i) (M' := (mS M (10 + i) x.toNatClampNeg (vp_nar .char v))) (r' := r) (ow' := ow) ((gk_Row i hi).2.1) (by simp only [gc]; rw [mS_row]) (fun K2 i2 hne hv => gc_ch hi hne hv))))
theorem gn_ch (hx : p.tables.exec = Jvm.exec) (hb : c.code = cc) (hK : va_K D gC (gTy aC) s) (hw : gw D gC H0 402 (gW H0.size aC M r ow) H locs) (hi : i < 6) (hk : k = oRow i + 1) (hdg : decode cc pc = .ok (.arraylength, 1))
    (kk : W p l e R s m args below meth c H locs cells slots Q (F0 m (pc + 1) ls (.int (nI (nRow i)) :: rest))) : W p l e R s m args below meth c H locs cells slots Q (F0 m pc ls (.ref (H0.size + k) :: rest)) :=
  gw_alen hx hb hK hw (by rw [hk]; exact (gk_Row i hi).2.2) (by rw [hk]; unfold gW; rw [(gk_Row i hi).2.1]; rfl) 0 rfl hdg kk
theorem ga_ow (hx : p.tables.exec = Jvm.exec) (hb : c.code = cc) (hK : va_K D gC (gTy aC) s) (hw : gw D gC H0 402 (gW H0.size aC M r ow) H locs) (hk : k = 12) (hin : vp_in x 240) (hdg : decode cc pc = .ok (.iaload, 1))
    (kk : W p l e R s m args below meth c H locs cells slots Q (F0 m (pc + 1) ls (.int (M 1 x.toNatClampNeg) :: rest))) : W p l e R s m args below meth c H locs cells slots Q (F0 m pc ls (.int x :: .ref (H0.size + k) :: rest)) :=
  gw_iald hx hb hK hw (by rw [hk]; decide) (by rw [hk]; rfl) 1 rfl hin hdg kk
theorem gs_ow (hx : p.tables.exec = Jvm.exec) (hb : c.code = cc) (hK : va_K D gC (gTy aC) s) (hw : gw D gC H0 402 (gW H0.size aC M r ow) H locs) (hk : k = 12) (hin : vp_in x 240) (hdg : decode cc pc = .ok (.iastore, 1))
    (kk : ∀ (H1 : Heap) (locs1 : List Loc), gw D gC H0 402 (gW H0.size aC (mS M 1 x.toNatClampNeg v) r ow) H1 locs1 → W p l e R s m args below meth c H1 locs1 cells slots Q (F0 m (pc + 1) ls rest)) : W p l e R s m args below meth c H locs cells slots Q (F0 m pc ls (.int v :: .int x :: .ref (H0.size + k) :: rest)) :=
  gw_iast hx hb hK hw (by rw [hk]; decide) (by rw [hk]; rfl) 1 rfl hin hdg
    (fun H1 locs1 h1 => kk H1 locs1 (h1.to (by rw [hk]; exact gW_up (K := 4) (i := 0) (M' := (mS M 1 x.toNatClampNeg v)) (r' := r) (ow' := ow) (rfl) (by simp only [gc]; rw [mS_row]) (fun K2 i2 hne hv => gc_t1 hne hv))))
theorem ga_es (hx : p.tables.exec = Jvm.exec) (hb : c.code = cc) (hK : va_K D gC (gTy aC) s) (hw : gw D gC H0 402 (gW H0.size aC M r ow) H locs) (hk : k = 13) (hin : vp_in x 24) (hdg : decode cc pc = .ok (.aaload, 1))
    (kk : W p l e R s m args below meth c H locs cells slots Q (F0 m (pc + 1) ls (.ref (H0.size + oEl x.toNatClampNeg) :: rest))) : W p l e R s m args below meth c H locs cells slots Q (F0 m pc ls (.int x :: .ref (H0.size + k) :: rest)) :=
  gw_aald (C := R_El) (fq := fun j => some (H0.size + oEl j)) hx hb hK hw (by rw [hk]; decide) (by rw [hk]; rfl) 3 rfl hin hdg kk
theorem ga_as (hx : p.tables.exec = Jvm.exec) (hb : c.code = cc) (hK : va_K D gC (gTy aC) s) (hw : gw D gC H0 402 (gW H0.size aC M r ow) H locs) (hi : i < 24) (hk : k = oAs i) (hin : vp_in x 6) (hdg : decode cc pc = .ok (.aaload, 1))
    (kk : W p l e R s m args below meth c H locs cells slots Q (F0 m (pc + 1) ls (.ref (H0.size + oAt (6 * i + x.toNatClampNeg)) :: rest))) : W p l e R s m args below meth c H locs cells slots Q (F0 m pc ls (.int x :: .ref (H0.size + k) :: rest)) :=
  gw_aald (C := R_At) (fq := fun j => some (H0.size + oAt (6 * i + j))) hx hb hK hw (by rw [hk]; exact (gk_As i hi).2) (by rw [hk]; unfold gW; rw [(gk_As i hi).1]; rfl) 4 rfl hin hdg kk
theorem ga_so (hx : p.tables.exec = Jvm.exec) (hb : c.code = cc) (hK : va_K D gC (gTy aC) s) (hw : gw D gC H0 402 (gW H0.size aC M r ow) H locs) (hk : k = 379) (hin : vp_in x 6) (hdg : decode cc pc = .ok (.aaload, 1))
    (kk : W p l e R s m args below meth c H locs cells slots Q (F0 m (pc + 1) ls (va_rf (gq H0.size oAt (r 2 x.toNatClampNeg)) :: rest))) : W p l e R s m args below meth c H locs cells slots Q (F0 m pc ls (.int x :: .ref (H0.size + k) :: rest)) :=
  gw_aald (C := R_At) (fq := fun j => gq H0.size oAt (r 2 j)) hx hb hK hw (by rw [hk]; decide) (by rw [hk]; rfl) 4 rfl hin hdg kk
theorem gs_so {a : Nat} (hx : p.tables.exec = Jvm.exec) (hb : c.code = cc) (hK : va_K D gC (gTy aC) s) (hw : gw D gC H0 402 (gW H0.size aC M r ow) H locs) (hk : k = 379) (ha : a < 145) (hin : vp_in x 6) (hdg : decode cc pc = .ok (.aastore, 1))
    (kk : ∀ (H1 : Heap) (locs1 : List Loc), gw D gC H0 402 (gW H0.size aC M (rS r 2 x.toNatClampNeg (some a)) ow) H1 locs1 → W p l e R s m args below meth c H1 locs1 cells slots Q (F0 m (pc + 1) ls rest)) : W p l e R s m args below meth c H locs cells slots Q (F0 m pc ls (.ref (H0.size + oAt a) :: .int x :: .ref (H0.size + k) :: rest)) :=
  gw_aast (r := (R_At, F_At, 4)) hx hb hK hw (by rw [hk]; decide) (by rw [hk]; rfl) 4 rfl (gk_At a ha).2 (by unfold gW; rw [(gk_At a ha).1]; rfl) rfl hin hdg
    (fun H1 locs1 h1 => kk H1 locs1 (h1.to (by rw [hk]; exact gW_up (K := 11) (i := 0) (M' := M) (r' := (rS r 2 x.toNatClampNeg (some a))) (ow' := ow) rfl (by simp only [gc]; congr 7; funext q; by_cases hq : q = x.toNatClampNeg <;> simp [rS, va_up, gq, hq]) (fun K2 i2 hne hv => gc_r2 hne hv))))
theorem ga_Mo_text (hx : p.tables.exec = Jvm.exec) (hb : c.code = cc) (hK : va_K D gC (gTy aC) s) (hw : gw D gC H0 402 (gW H0.size aC M r ow) H locs) (hk : k = 384) (hin : vp_in x 240) (hdg : decode cc pc = .ok (.iaload, 1))
    (kk : W p l e R s m args below meth c H locs cells slots Q (F0 m (pc + 1) ls (.int (M 102 x.toNatClampNeg) :: rest))) : W p l e R s m args below meth c H locs cells slots Q (F0 m pc ls (.int x :: .ref (H0.size + k) :: rest)) :=
  gw_iald hx hb hK hw (by rw [hk]; decide) (by rw [hk]; rfl) 1 rfl hin hdg kk
theorem gs_Mo_text (hx : p.tables.exec = Jvm.exec) (hb : c.code = cc) (hK : va_K D gC (gTy aC) s) (hw : gw D gC H0 402 (gW H0.size aC M r ow) H locs) (hk : k = 384) (hin : vp_in x 240) (hdg : decode cc pc = .ok (.iastore, 1))
    (kk : ∀ (H1 : Heap) (locs1 : List Loc), gw D gC H0 402 (gW H0.size aC (mS M 102 x.toNatClampNeg v) r ow) H1 locs1 → W p l e R s m args below meth c H1 locs1 cells slots Q (F0 m (pc + 1) ls rest)) : W p l e R s m args below meth c H locs cells slots Q (F0 m pc ls (.int v :: .int x :: .ref (H0.size + k) :: rest)) :=
  gw_iast hx hb hK hw (by rw [hk]; decide) (by rw [hk]; rfl) 1 rfl hin hdg
    (fun H1 locs1 h1 => kk H1 locs1 (h1.to (by rw [hk]; exact gW_up (K := 15) (i := 2) (M' := (mS M 102 x.toNatClampNeg v)) (r' := r) (ow' := ow) (rfl) (by show Sum.inl (aC 1, 240, Sum.inl (mS M 102 x.toNatClampNeg v 102)) = Sum.inl (aC 1, 240, Sum.inl (upd (M 102) x.toNatClampNeg v)); rw [mS_row]) (fun K2 i2 hne hv => gc_t102 hne hv))))
theorem ga_Mo_pool (hx : p.tables.exec = Jvm.exec) (hb : c.code = cc) (hK : va_K D gC (gTy aC) s) (hw : gw D gC H0 402 (gW H0.size aC M r ow) H locs) (hk : k = 385) (hin : vp_in x 260) (hdg : decode cc pc = .ok (.iaload, 1))
    (kk : W p l e R s m args below meth c H locs cells slots Q (F0 m (pc + 1) ls (.int (M 108 x.toNatClampNeg) :: rest))) : W p l e R s m args below meth c H locs cells slots Q (F0 m pc ls (.int x :: .ref (H0.size + k) :: rest)) :=
  gw_iald hx hb hK hw (by rw [hk]; decide) (by rw [hk]; rfl) 1 rfl hin hdg kk
theorem gs_Mo_pool (hx : p.tables.exec = Jvm.exec) (hb : c.code = cc) (hK : va_K D gC (gTy aC) s) (hw : gw D gC H0 402 (gW H0.size aC M r ow) H locs) (hk : k = 385) (hin : vp_in x 260) (hdg : decode cc pc = .ok (.iastore, 1))
    (kk : ∀ (H1 : Heap) (locs1 : List Loc), gw D gC H0 402 (gW H0.size aC (mS M 108 x.toNatClampNeg v) r ow) H1 locs1 → W p l e R s m args below meth c H1 locs1 cells slots Q (F0 m (pc + 1) ls rest)) : W p l e R s m args below meth c H locs cells slots Q (F0 m pc ls (.int v :: .int x :: .ref (H0.size + k) :: rest)) :=
  gw_iast hx hb hK hw (by rw [hk]; decide) (by rw [hk]; rfl) 1 rfl hin hdg
    (fun H1 locs1 h1 => kk H1 locs1 (h1.to (by rw [hk]; exact gW_up (K := 15) (i := 8) (M' := (mS M 108 x.toNatClampNeg v)) (r' := r) (ow' := ow) (rfl) (by show Sum.inl (aC 1, 260, Sum.inl (mS M 108 x.toNatClampNeg v 108)) = Sum.inl (aC 1, 260, Sum.inl (upd (M 108) x.toNatClampNeg v)); rw [mS_row]) (fun K2 i2 hne hv => gc_t108 hne hv))))
theorem ga_Mo_parents (hx : p.tables.exec = Jvm.exec) (hb : c.code = cc) (hK : va_K D gC (gTy aC) s) (hw : gw D gC H0 402 (gW H0.size aC M r ow) H locs) (hk : k = 386) (hin : vp_in x 24) (hdg : decode cc pc = .ok (.iaload, 1))
    (kk : W p l e R s m args below meth c H locs cells slots Q (F0 m (pc + 1) ls (.int (M 110 x.toNatClampNeg) :: rest))) : W p l e R s m args below meth c H locs cells slots Q (F0 m pc ls (.int x :: .ref (H0.size + k) :: rest)) :=
  gw_iald hx hb hK hw (by rw [hk]; decide) (by rw [hk]; rfl) 1 rfl hin hdg kk
theorem gs_Mo_parents (hx : p.tables.exec = Jvm.exec) (hb : c.code = cc) (hK : va_K D gC (gTy aC) s) (hw : gw D gC H0 402 (gW H0.size aC M r ow) H locs) (hk : k = 386) (hin : vp_in x 24) (hdg : decode cc pc = .ok (.iastore, 1))
    (kk : ∀ (H1 : Heap) (locs1 : List Loc), gw D gC H0 402 (gW H0.size aC (mS M 110 x.toNatClampNeg v) r ow) H1 locs1 → W p l e R s m args below meth c H1 locs1 cells slots Q (F0 m (pc + 1) ls rest)) : W p l e R s m args below meth c H locs cells slots Q (F0 m pc ls (.int v :: .int x :: .ref (H0.size + k) :: rest)) :=
  gw_iast hx hb hK hw (by rw [hk]; decide) (by rw [hk]; rfl) 1 rfl hin hdg
    (fun H1 locs1 h1 => kk H1 locs1 (h1.to (by rw [hk]; exact gW_up (K := 15) (i := 10) (M' := (mS M 110 x.toNatClampNeg v)) (r' := r) (ow' := ow) (rfl) (by show Sum.inl (aC 1, 24, Sum.inl (mS M 110 x.toNatClampNeg v 110)) = Sum.inl (aC 1, 24, Sum.inl (upd (M 110) x.toNatClampNeg v)); rw [mS_row]) (fun K2 i2 hne hv => gc_t110 hne hv))))
theorem ga_Mo_nameFrom (hx : p.tables.exec = Jvm.exec) (hb : c.code = cc) (hK : va_K D gC (gTy aC) s) (hw : gw D gC H0 402 (gW H0.size aC M r ow) H locs) (hk : k = 387) (hin : vp_in x 24) (hdg : decode cc pc = .ok (.iaload, 1))
    (kk : W p l e R s m args below meth c H locs cells slots Q (F0 m (pc + 1) ls (.int (M 111 x.toNatClampNeg) :: rest))) : W p l e R s m args below meth c H locs cells slots Q (F0 m pc ls (.int x :: .ref (H0.size + k) :: rest)) :=
  gw_iald hx hb hK hw (by rw [hk]; decide) (by rw [hk]; rfl) 1 rfl hin hdg kk
theorem gs_Mo_nameFrom (hx : p.tables.exec = Jvm.exec) (hb : c.code = cc) (hK : va_K D gC (gTy aC) s) (hw : gw D gC H0 402 (gW H0.size aC M r ow) H locs) (hk : k = 387) (hin : vp_in x 24) (hdg : decode cc pc = .ok (.iastore, 1))
    (kk : ∀ (H1 : Heap) (locs1 : List Loc), gw D gC H0 402 (gW H0.size aC (mS M 111 x.toNatClampNeg v) r ow) H1 locs1 → W p l e R s m args below meth c H1 locs1 cells slots Q (F0 m (pc + 1) ls rest)) : W p l e R s m args below meth c H locs cells slots Q (F0 m pc ls (.int v :: .int x :: .ref (H0.size + k) :: rest)) :=
  gw_iast hx hb hK hw (by rw [hk]; decide) (by rw [hk]; rfl) 1 rfl hin hdg
    (fun H1 locs1 h1 => kk H1 locs1 (h1.to (by rw [hk]; exact gW_up (K := 15) (i := 11) (M' := (mS M 111 x.toNatClampNeg v)) (r' := r) (ow' := ow) (rfl) (by show Sum.inl (aC 1, 24, Sum.inl (mS M 111 x.toNatClampNeg v 111)) = Sum.inl (aC 1, 24, Sum.inl (upd (M 111) x.toNatClampNeg v)); rw [mS_row]) (fun K2 i2 hne hv => gc_t111 hne hv))))
theorem ga_Mo_nameSize (hx : p.tables.exec = Jvm.exec) (hb : c.code = cc) (hK : va_K D gC (gTy aC) s) (hw : gw D gC H0 402 (gW H0.size aC M r ow) H locs) (hk : k = 388) (hin : vp_in x 24) (hdg : decode cc pc = .ok (.iaload, 1))
    (kk : W p l e R s m args below meth c H locs cells slots Q (F0 m (pc + 1) ls (.int (M 112 x.toNatClampNeg) :: rest))) : W p l e R s m args below meth c H locs cells slots Q (F0 m pc ls (.int x :: .ref (H0.size + k) :: rest)) :=
  gw_iald hx hb hK hw (by rw [hk]; decide) (by rw [hk]; rfl) 1 rfl hin hdg kk
theorem gs_Mo_nameSize (hx : p.tables.exec = Jvm.exec) (hb : c.code = cc) (hK : va_K D gC (gTy aC) s) (hw : gw D gC H0 402 (gW H0.size aC M r ow) H locs) (hk : k = 388) (hin : vp_in x 24) (hdg : decode cc pc = .ok (.iastore, 1))
    (kk : ∀ (H1 : Heap) (locs1 : List Loc), gw D gC H0 402 (gW H0.size aC (mS M 112 x.toNatClampNeg v) r ow) H1 locs1 → W p l e R s m args below meth c H1 locs1 cells slots Q (F0 m (pc + 1) ls rest)) : W p l e R s m args below meth c H locs cells slots Q (F0 m pc ls (.int v :: .int x :: .ref (H0.size + k) :: rest)) :=
  gw_iast hx hb hK hw (by rw [hk]; decide) (by rw [hk]; rfl) 1 rfl hin hdg
    (fun H1 locs1 h1 => kk H1 locs1 (h1.to (by rw [hk]; exact gW_up (K := 15) (i := 12) (M' := (mS M 112 x.toNatClampNeg v)) (r' := r) (ow' := ow) (rfl) (by show Sum.inl (aC 1, 24, Sum.inl (mS M 112 x.toNatClampNeg v 112)) = Sum.inl (aC 1, 24, Sum.inl (upd (M 112) x.toNatClampNeg v)); rw [mS_row]) (fun K2 i2 hne hv => gc_t112 hne hv))))
theorem ga_Mo_nameColon (hx : p.tables.exec = Jvm.exec) (hb : c.code = cc) (hK : va_K D gC (gTy aC) s) (hw : gw D gC H0 402 (gW H0.size aC M r ow) H locs) (hk : k = 389) (hin : vp_in x 24) (hdg : decode cc pc = .ok (.iaload, 1))
    (kk : W p l e R s m args below meth c H locs cells slots Q (F0 m (pc + 1) ls (.int (M 113 x.toNatClampNeg) :: rest))) : W p l e R s m args below meth c H locs cells slots Q (F0 m pc ls (.int x :: .ref (H0.size + k) :: rest)) :=
  gw_iald hx hb hK hw (by rw [hk]; decide) (by rw [hk]; rfl) 1 rfl hin hdg kk
theorem gs_Mo_nameColon (hx : p.tables.exec = Jvm.exec) (hb : c.code = cc) (hK : va_K D gC (gTy aC) s) (hw : gw D gC H0 402 (gW H0.size aC M r ow) H locs) (hk : k = 389) (hin : vp_in x 24) (hdg : decode cc pc = .ok (.iastore, 1))
    (kk : ∀ (H1 : Heap) (locs1 : List Loc), gw D gC H0 402 (gW H0.size aC (mS M 113 x.toNatClampNeg v) r ow) H1 locs1 → W p l e R s m args below meth c H1 locs1 cells slots Q (F0 m (pc + 1) ls rest)) : W p l e R s m args below meth c H locs cells slots Q (F0 m pc ls (.int v :: .int x :: .ref (H0.size + k) :: rest)) :=
  gw_iast hx hb hK hw (by rw [hk]; decide) (by rw [hk]; rfl) 1 rfl hin hdg
    (fun H1 locs1 h1 => kk H1 locs1 (h1.to (by rw [hk]; exact gW_up (K := 15) (i := 13) (M' := (mS M 113 x.toNatClampNeg v)) (r' := r) (ow' := ow) (rfl) (by show Sum.inl (aC 1, 24, Sum.inl (mS M 113 x.toNatClampNeg v 113)) = Sum.inl (aC 1, 24, Sum.inl (upd (M 113) x.toNatClampNeg v)); rw [mS_row]) (fun K2 i2 hne hv => gc_t113 hne hv))))
theorem ga_Mo_namePlace (hx : p.tables.exec = Jvm.exec) (hb : c.code = cc) (hK : va_K D gC (gTy aC) s) (hw : gw D gC H0 402 (gW H0.size aC M r ow) H locs) (hk : k = 390) (hin : vp_in x 24) (hdg : decode cc pc = .ok (.iaload, 1))
    (kk : W p l e R s m args below meth c H locs cells slots Q (F0 m (pc + 1) ls (.int (M 114 x.toNatClampNeg) :: rest))) : W p l e R s m args below meth c H locs cells slots Q (F0 m pc ls (.int x :: .ref (H0.size + k) :: rest)) :=
  gw_iald hx hb hK hw (by rw [hk]; decide) (by rw [hk]; rfl) 1 rfl hin hdg kk
theorem gs_Mo_namePlace (hx : p.tables.exec = Jvm.exec) (hb : c.code = cc) (hK : va_K D gC (gTy aC) s) (hw : gw D gC H0 402 (gW H0.size aC M r ow) H locs) (hk : k = 390) (hin : vp_in x 24) (hdg : decode cc pc = .ok (.iastore, 1))
    (kk : ∀ (H1 : Heap) (locs1 : List Loc), gw D gC H0 402 (gW H0.size aC (mS M 114 x.toNatClampNeg v) r ow) H1 locs1 → W p l e R s m args below meth c H1 locs1 cells slots Q (F0 m (pc + 1) ls rest)) : W p l e R s m args below meth c H locs cells slots Q (F0 m pc ls (.int v :: .int x :: .ref (H0.size + k) :: rest)) :=
  gw_iast hx hb hK hw (by rw [hk]; decide) (by rw [hk]; rfl) 1 rfl hin hdg
    (fun H1 locs1 h1 => kk H1 locs1 (h1.to (by rw [hk]; exact gW_up (K := 15) (i := 14) (M' := (mS M 114 x.toNatClampNeg v)) (r' := r) (ow' := ow) (rfl) (by show Sum.inl (aC 1, 24, Sum.inl (mS M 114 x.toNatClampNeg v 114)) = Sum.inl (aC 1, 24, Sum.inl (upd (M 114) x.toNatClampNeg v)); rw [mS_row]) (fun K2 i2 hne hv => gc_t114 hne hv))))
theorem ga_Mo_counts (hx : p.tables.exec = Jvm.exec) (hb : c.code = cc) (hK : va_K D gC (gTy aC) s) (hw : gw D gC H0 402 (gW H0.size aC M r ow) H locs) (hk : k = 391) (hin : vp_in x 24) (hdg : decode cc pc = .ok (.iaload, 1))
    (kk : W p l e R s m args below meth c H locs cells slots Q (F0 m (pc + 1) ls (.int (M 115 x.toNatClampNeg) :: rest))) : W p l e R s m args below meth c H locs cells slots Q (F0 m pc ls (.int x :: .ref (H0.size + k) :: rest)) :=
  gw_iald hx hb hK hw (by rw [hk]; decide) (by rw [hk]; rfl) 1 rfl hin hdg kk
theorem gs_Mo_counts (hx : p.tables.exec = Jvm.exec) (hb : c.code = cc) (hK : va_K D gC (gTy aC) s) (hw : gw D gC H0 402 (gW H0.size aC M r ow) H locs) (hk : k = 391) (hin : vp_in x 24) (hdg : decode cc pc = .ok (.iastore, 1))
    (kk : ∀ (H1 : Heap) (locs1 : List Loc), gw D gC H0 402 (gW H0.size aC (mS M 115 x.toNatClampNeg v) r ow) H1 locs1 → W p l e R s m args below meth c H1 locs1 cells slots Q (F0 m (pc + 1) ls rest)) : W p l e R s m args below meth c H locs cells slots Q (F0 m pc ls (.int v :: .int x :: .ref (H0.size + k) :: rest)) :=
  gw_iast hx hb hK hw (by rw [hk]; decide) (by rw [hk]; rfl) 1 rfl hin hdg
    (fun H1 locs1 h1 => kk H1 locs1 (h1.to (by rw [hk]; exact gW_up (K := 15) (i := 15) (M' := (mS M 115 x.toNatClampNeg v)) (r' := r) (ow' := ow) (rfl) (by show Sum.inl (aC 1, 24, Sum.inl (mS M 115 x.toNatClampNeg v 115)) = Sum.inl (aC 1, 24, Sum.inl (upd (M 115) x.toNatClampNeg v)); rw [mS_row]) (fun K2 i2 hne hv => gc_t115 hne hv))))
theorem ga_Mo_from (hx : p.tables.exec = Jvm.exec) (hb : c.code = cc) (hK : va_K D gC (gTy aC) s) (hw : gw D gC H0 402 (gW H0.size aC M r ow) H locs) (hk : k = 392) (hin : vp_in x 144) (hdg : decode cc pc = .ok (.iaload, 1))
    (kk : W p l e R s m args below meth c H locs cells slots Q (F0 m (pc + 1) ls (.int (M 116 x.toNatClampNeg) :: rest))) : W p l e R s m args below meth c H locs cells slots Q (F0 m pc ls (.int x :: .ref (H0.size + k) :: rest)) :=
  gw_iald hx hb hK hw (by rw [hk]; decide) (by rw [hk]; rfl) 1 rfl hin hdg kk
theorem gs_Mo_from (hx : p.tables.exec = Jvm.exec) (hb : c.code = cc) (hK : va_K D gC (gTy aC) s) (hw : gw D gC H0 402 (gW H0.size aC M r ow) H locs) (hk : k = 392) (hin : vp_in x 144) (hdg : decode cc pc = .ok (.iastore, 1))
    (kk : ∀ (H1 : Heap) (locs1 : List Loc), gw D gC H0 402 (gW H0.size aC (mS M 116 x.toNatClampNeg v) r ow) H1 locs1 → W p l e R s m args below meth c H1 locs1 cells slots Q (F0 m (pc + 1) ls rest)) : W p l e R s m args below meth c H locs cells slots Q (F0 m pc ls (.int v :: .int x :: .ref (H0.size + k) :: rest)) :=
  gw_iast hx hb hK hw (by rw [hk]; decide) (by rw [hk]; rfl) 1 rfl hin hdg
    (fun H1 locs1 h1 => kk H1 locs1 (h1.to (by rw [hk]; exact gW_up (K := 15) (i := 16) (M' := (mS M 116 x.toNatClampNeg v)) (r' := r) (ow' := ow) (rfl) (by show Sum.inl (aC 1, 144, Sum.inl (mS M 116 x.toNatClampNeg v 116)) = Sum.inl (aC 1, 144, Sum.inl (upd (M 116) x.toNatClampNeg v)); rw [mS_row]) (fun K2 i2 hne hv => gc_t116 hne hv))))
theorem ga_Mo_size (hx : p.tables.exec = Jvm.exec) (hb : c.code = cc) (hK : va_K D gC (gTy aC) s) (hw : gw D gC H0 402 (gW H0.size aC M r ow) H locs) (hk : k = 393) (hin : vp_in x 144) (hdg : decode cc pc = .ok (.iaload, 1))
    (kk : W p l e R s m args below meth c H locs cells slots Q (F0 m (pc + 1) ls (.int (M 117 x.toNatClampNeg) :: rest))) : W p l e R s m args below meth c H locs cells slots Q (F0 m pc ls (.int x :: .ref (H0.size + k) :: rest)) :=
  gw_iald hx hb hK hw (by rw [hk]; decide) (by rw [hk]; rfl) 1 rfl hin hdg kk
theorem gs_Mo_size (hx : p.tables.exec = Jvm.exec) (hb : c.code = cc) (hK : va_K D gC (gTy aC) s) (hw : gw D gC H0 402 (gW H0.size aC M r ow) H locs) (hk : k = 393) (hin : vp_in x 144) (hdg : decode cc pc = .ok (.iastore, 1))
    (kk : ∀ (H1 : Heap) (locs1 : List Loc), gw D gC H0 402 (gW H0.size aC (mS M 117 x.toNatClampNeg v) r ow) H1 locs1 → W p l e R s m args below meth c H1 locs1 cells slots Q (F0 m (pc + 1) ls rest)) : W p l e R s m args below meth c H locs cells slots Q (F0 m pc ls (.int v :: .int x :: .ref (H0.size + k) :: rest)) :=
  gw_iast hx hb hK hw (by rw [hk]; decide) (by rw [hk]; rfl) 1 rfl hin hdg
    (fun H1 locs1 h1 => kk H1 locs1 (h1.to (by rw [hk]; exact gW_up (K := 15) (i := 17) (M' := (mS M 117 x.toNatClampNeg v)) (r' := r) (ow' := ow) (rfl) (by show Sum.inl (aC 1, 144, Sum.inl (mS M 117 x.toNatClampNeg v 117)) = Sum.inl (aC 1, 144, Sum.inl (upd (M 117) x.toNatClampNeg v)); rw [mS_row]) (fun K2 i2 hne hv => gc_t117 hne hv))))
theorem ga_Mo_colon (hx : p.tables.exec = Jvm.exec) (hb : c.code = cc) (hK : va_K D gC (gTy aC) s) (hw : gw D gC H0 402 (gW H0.size aC M r ow) H locs) (hk : k = 394) (hin : vp_in x 144) (hdg : decode cc pc = .ok (.iaload, 1))
    (kk : W p l e R s m args below meth c H locs cells slots Q (F0 m (pc + 1) ls (.int (M 118 x.toNatClampNeg) :: rest))) : W p l e R s m args below meth c H locs cells slots Q (F0 m pc ls (.int x :: .ref (H0.size + k) :: rest)) :=
  gw_iald hx hb hK hw (by rw [hk]; decide) (by rw [hk]; rfl) 1 rfl hin hdg kk
theorem gs_Mo_colon (hx : p.tables.exec = Jvm.exec) (hb : c.code = cc) (hK : va_K D gC (gTy aC) s) (hw : gw D gC H0 402 (gW H0.size aC M r ow) H locs) (hk : k = 394) (hin : vp_in x 144) (hdg : decode cc pc = .ok (.iastore, 1))
    (kk : ∀ (H1 : Heap) (locs1 : List Loc), gw D gC H0 402 (gW H0.size aC (mS M 118 x.toNatClampNeg v) r ow) H1 locs1 → W p l e R s m args below meth c H1 locs1 cells slots Q (F0 m (pc + 1) ls rest)) : W p l e R s m args below meth c H locs cells slots Q (F0 m pc ls (.int v :: .int x :: .ref (H0.size + k) :: rest)) :=
  gw_iast hx hb hK hw (by rw [hk]; decide) (by rw [hk]; rfl) 1 rfl hin hdg
    (fun H1 locs1 h1 => kk H1 locs1 (h1.to (by rw [hk]; exact gW_up (K := 15) (i := 18) (M' := (mS M 118 x.toNatClampNeg v)) (r' := r) (ow' := ow) (rfl) (by show Sum.inl (aC 1, 144, Sum.inl (mS M 118 x.toNatClampNeg v 118)) = Sum.inl (aC 1, 144, Sum.inl (upd (M 118) x.toNatClampNeg v)); rw [mS_row]) (fun K2 i2 hne hv => gc_t118 hne hv))))
theorem ga_Mo_places (hx : p.tables.exec = Jvm.exec) (hb : c.code = cc) (hK : va_K D gC (gTy aC) s) (hw : gw D gC H0 402 (gW H0.size aC M r ow) H locs) (hk : k = 395) (hin : vp_in x 144) (hdg : decode cc pc = .ok (.iaload, 1))
    (kk : W p l e R s m args below meth c H locs cells slots Q (F0 m (pc + 1) ls (.int (M 119 x.toNatClampNeg) :: rest))) : W p l e R s m args below meth c H locs cells slots Q (F0 m pc ls (.int x :: .ref (H0.size + k) :: rest)) :=
  gw_iald hx hb hK hw (by rw [hk]; decide) (by rw [hk]; rfl) 1 rfl hin hdg kk
theorem gs_Mo_places (hx : p.tables.exec = Jvm.exec) (hb : c.code = cc) (hK : va_K D gC (gTy aC) s) (hw : gw D gC H0 402 (gW H0.size aC M r ow) H locs) (hk : k = 395) (hin : vp_in x 144) (hdg : decode cc pc = .ok (.iastore, 1))
    (kk : ∀ (H1 : Heap) (locs1 : List Loc), gw D gC H0 402 (gW H0.size aC (mS M 119 x.toNatClampNeg v) r ow) H1 locs1 → W p l e R s m args below meth c H1 locs1 cells slots Q (F0 m (pc + 1) ls rest)) : W p l e R s m args below meth c H locs cells slots Q (F0 m pc ls (.int v :: .int x :: .ref (H0.size + k) :: rest)) :=
  gw_iast hx hb hK hw (by rw [hk]; decide) (by rw [hk]; rfl) 1 rfl hin hdg
    (fun H1 locs1 h1 => kk H1 locs1 (h1.to (by rw [hk]; exact gW_up (K := 15) (i := 19) (M' := (mS M 119 x.toNatClampNeg v)) (r' := r) (ow' := ow) (rfl) (by show Sum.inl (aC 1, 144, Sum.inl (mS M 119 x.toNatClampNeg v 119)) = Sum.inl (aC 1, 144, Sum.inl (upd (M 119) x.toNatClampNeg v)); rw [mS_row]) (fun K2 i2 hne hv => gc_t119 hne hv))))
theorem ga_Mo_valueFrom (hx : p.tables.exec = Jvm.exec) (hb : c.code = cc) (hK : va_K D gC (gTy aC) s) (hw : gw D gC H0 402 (gW H0.size aC M r ow) H locs) (hk : k = 396) (hin : vp_in x 144) (hdg : decode cc pc = .ok (.iaload, 1))
    (kk : W p l e R s m args below meth c H locs cells slots Q (F0 m (pc + 1) ls (.int (M 120 x.toNatClampNeg) :: rest))) : W p l e R s m args below meth c H locs cells slots Q (F0 m pc ls (.int x :: .ref (H0.size + k) :: rest)) :=
  gw_iald hx hb hK hw (by rw [hk]; decide) (by rw [hk]; rfl) 1 rfl hin hdg kk
theorem gs_Mo_valueFrom (hx : p.tables.exec = Jvm.exec) (hb : c.code = cc) (hK : va_K D gC (gTy aC) s) (hw : gw D gC H0 402 (gW H0.size aC M r ow) H locs) (hk : k = 396) (hin : vp_in x 144) (hdg : decode cc pc = .ok (.iastore, 1))
    (kk : ∀ (H1 : Heap) (locs1 : List Loc), gw D gC H0 402 (gW H0.size aC (mS M 120 x.toNatClampNeg v) r ow) H1 locs1 → W p l e R s m args below meth c H1 locs1 cells slots Q (F0 m (pc + 1) ls rest)) : W p l e R s m args below meth c H locs cells slots Q (F0 m pc ls (.int v :: .int x :: .ref (H0.size + k) :: rest)) :=
  gw_iast hx hb hK hw (by rw [hk]; decide) (by rw [hk]; rfl) 1 rfl hin hdg
    (fun H1 locs1 h1 => kk H1 locs1 (h1.to (by rw [hk]; exact gW_up (K := 15) (i := 20) (M' := (mS M 120 x.toNatClampNeg v)) (r' := r) (ow' := ow) (rfl) (by show Sum.inl (aC 1, 144, Sum.inl (mS M 120 x.toNatClampNeg v 120)) = Sum.inl (aC 1, 144, Sum.inl (upd (M 120) x.toNatClampNeg v)); rw [mS_row]) (fun K2 i2 hne hv => gc_t120 hne hv))))
theorem ga_Mo_valueSize (hx : p.tables.exec = Jvm.exec) (hb : c.code = cc) (hK : va_K D gC (gTy aC) s) (hw : gw D gC H0 402 (gW H0.size aC M r ow) H locs) (hk : k = 397) (hin : vp_in x 144) (hdg : decode cc pc = .ok (.iaload, 1))
    (kk : W p l e R s m args below meth c H locs cells slots Q (F0 m (pc + 1) ls (.int (M 121 x.toNatClampNeg) :: rest))) : W p l e R s m args below meth c H locs cells slots Q (F0 m pc ls (.int x :: .ref (H0.size + k) :: rest)) :=
  gw_iald hx hb hK hw (by rw [hk]; decide) (by rw [hk]; rfl) 1 rfl hin hdg kk
theorem gs_Mo_valueSize (hx : p.tables.exec = Jvm.exec) (hb : c.code = cc) (hK : va_K D gC (gTy aC) s) (hw : gw D gC H0 402 (gW H0.size aC M r ow) H locs) (hk : k = 397) (hin : vp_in x 144) (hdg : decode cc pc = .ok (.iastore, 1))
    (kk : ∀ (H1 : Heap) (locs1 : List Loc), gw D gC H0 402 (gW H0.size aC (mS M 121 x.toNatClampNeg v) r ow) H1 locs1 → W p l e R s m args below meth c H1 locs1 cells slots Q (F0 m (pc + 1) ls rest)) : W p l e R s m args below meth c H locs cells slots Q (F0 m pc ls (.int v :: .int x :: .ref (H0.size + k) :: rest)) :=
  gw_iast hx hb hK hw (by rw [hk]; decide) (by rw [hk]; rfl) 1 rfl hin hdg
    (fun H1 locs1 h1 => kk H1 locs1 (h1.to (by rw [hk]; exact gW_up (K := 15) (i := 21) (M' := (mS M 121 x.toNatClampNeg v)) (r' := r) (ow' := ow) (rfl) (by show Sum.inl (aC 1, 144, Sum.inl (mS M 121 x.toNatClampNeg v 121)) = Sum.inl (aC 1, 144, Sum.inl (upd (M 121) x.toNatClampNeg v)); rw [mS_row]) (fun K2 i2 hne hv => gc_t121 hne hv))))
theorem ga_Mo_happened (hx : p.tables.exec = Jvm.exec) (hb : c.code = cc) (hK : va_K D gC (gTy aC) s) (hw : gw D gC H0 402 (gW H0.size aC M r ow) H locs) (hk : k = 398) (hin : vp_in x 300) (hdg : decode cc pc = .ok (.iaload, 1))
    (kk : W p l e R s m args below meth c H locs cells slots Q (F0 m (pc + 1) ls (.int (M 123 x.toNatClampNeg) :: rest))) : W p l e R s m args below meth c H locs cells slots Q (F0 m pc ls (.int x :: .ref (H0.size + k) :: rest)) :=
  gw_iald hx hb hK hw (by rw [hk]; decide) (by rw [hk]; rfl) 1 rfl hin hdg kk
theorem gs_Mo_happened (hx : p.tables.exec = Jvm.exec) (hb : c.code = cc) (hK : va_K D gC (gTy aC) s) (hw : gw D gC H0 402 (gW H0.size aC M r ow) H locs) (hk : k = 398) (hin : vp_in x 300) (hdg : decode cc pc = .ok (.iastore, 1))
    (kk : ∀ (H1 : Heap) (locs1 : List Loc), gw D gC H0 402 (gW H0.size aC (mS M 123 x.toNatClampNeg v) r ow) H1 locs1 → W p l e R s m args below meth c H1 locs1 cells slots Q (F0 m (pc + 1) ls rest)) : W p l e R s m args below meth c H locs cells slots Q (F0 m pc ls (.int v :: .int x :: .ref (H0.size + k) :: rest)) :=
  gw_iast hx hb hK hw (by rw [hk]; decide) (by rw [hk]; rfl) 1 rfl hin hdg
    (fun H1 locs1 h1 => kk H1 locs1 (h1.to (by rw [hk]; exact gW_up (K := 15) (i := 23) (M' := (mS M 123 x.toNatClampNeg v)) (r' := r) (ow' := ow) (rfl) (by show Sum.inl (aC 1, 300, Sum.inl (mS M 123 x.toNatClampNeg v 123)) = Sum.inl (aC 1, 300, Sum.inl (upd (M 123) x.toNatClampNeg v)); rw [mS_row]) (fun K2 i2 hne hv => gc_t123 hne hv))))
theorem ga_Mo_written (hx : p.tables.exec = Jvm.exec) (hb : c.code = cc) (hK : va_K D gC (gTy aC) s) (hw : gw D gC H0 402 (gW H0.size aC M r ow) H locs) (hk : k = 399) (hin : vp_in x 2200) (hdg : decode cc pc = .ok (.iaload, 1))
    (kk : W p l e R s m args below meth c H locs cells slots Q (F0 m (pc + 1) ls (.int (M 127 x.toNatClampNeg) :: rest))) : W p l e R s m args below meth c H locs cells slots Q (F0 m pc ls (.int x :: .ref (H0.size + k) :: rest)) :=
  gw_iald hx hb hK hw (by rw [hk]; decide) (by rw [hk]; rfl) 1 rfl hin hdg kk
theorem gs_Mo_written (hx : p.tables.exec = Jvm.exec) (hb : c.code = cc) (hK : va_K D gC (gTy aC) s) (hw : gw D gC H0 402 (gW H0.size aC M r ow) H locs) (hk : k = 399) (hin : vp_in x 2200) (hdg : decode cc pc = .ok (.iastore, 1))
    (kk : ∀ (H1 : Heap) (locs1 : List Loc), gw D gC H0 402 (gW H0.size aC (mS M 127 x.toNatClampNeg v) r ow) H1 locs1 → W p l e R s m args below meth c H1 locs1 cells slots Q (F0 m (pc + 1) ls rest)) : W p l e R s m args below meth c H locs cells slots Q (F0 m pc ls (.int v :: .int x :: .ref (H0.size + k) :: rest)) :=
  gw_iast hx hb hK hw (by rw [hk]; decide) (by rw [hk]; rfl) 1 rfl hin hdg
    (fun H1 locs1 h1 => kk H1 locs1 (h1.to (by rw [hk]; exact gW_up (K := 15) (i := 27) (M' := (mS M 127 x.toNatClampNeg v)) (r' := r) (ow' := ow) (rfl) (by show Sum.inl (aC 1, 2200, Sum.inl (mS M 127 x.toNatClampNeg v 127)) = Sum.inl (aC 1, 2200, Sum.inl (upd (M 127) x.toNatClampNeg v)); rw [mS_row]) (fun K2 i2 hne hv => gc_t127 hne hv))))
theorem ga_Mo_keptForm (hx : p.tables.exec = Jvm.exec) (hb : c.code = cc) (hK : va_K D gC (gTy aC) s) (hw : gw D gC H0 402 (gW H0.size aC M r ow) H locs) (hk : k = 400) (hin : vp_in x 2200) (hdg : decode cc pc = .ok (.iaload, 1))
    (kk : W p l e R s m args below meth c H locs cells slots Q (F0 m (pc + 1) ls (.int (M 130 x.toNatClampNeg) :: rest))) : W p l e R s m args below meth c H locs cells slots Q (F0 m pc ls (.int x :: .ref (H0.size + k) :: rest)) :=
  gw_iald hx hb hK hw (by rw [hk]; decide) (by rw [hk]; rfl) 1 rfl hin hdg kk
theorem gs_Mo_keptForm (hx : p.tables.exec = Jvm.exec) (hb : c.code = cc) (hK : va_K D gC (gTy aC) s) (hw : gw D gC H0 402 (gW H0.size aC M r ow) H locs) (hk : k = 400) (hin : vp_in x 2200) (hdg : decode cc pc = .ok (.iastore, 1))
    (kk : ∀ (H1 : Heap) (locs1 : List Loc), gw D gC H0 402 (gW H0.size aC (mS M 130 x.toNatClampNeg v) r ow) H1 locs1 → W p l e R s m args below meth c H1 locs1 cells slots Q (F0 m (pc + 1) ls rest)) : W p l e R s m args below meth c H locs cells slots Q (F0 m pc ls (.int v :: .int x :: .ref (H0.size + k) :: rest)) :=
  gw_iast hx hb hK hw (by rw [hk]; decide) (by rw [hk]; rfl) 1 rfl hin hdg
    (fun H1 locs1 h1 => kk H1 locs1 (h1.to (by rw [hk]; exact gW_up (K := 15) (i := 30) (M' := (mS M 130 x.toNatClampNeg v)) (r' := r) (ow' := ow) (rfl) (by show Sum.inl (aC 1, 2200, Sum.inl (mS M 130 x.toNatClampNeg v 130)) = Sum.inl (aC 1, 2200, Sum.inl (upd (M 130) x.toNatClampNeg v)); rw [mS_row]) (fun K2 i2 hne hv => gc_t130 hne hv))))
theorem ga_out (hx : p.tables.exec = Jvm.exec) (hb : c.code = cc) (hK : va_K D gC (gTy aC) s) (hw : gw D gC H0 402 (gW H0.size aC M r ow) H locs) (hk : k = 401) (hin : vp_in x 1) (hdg : decode cc pc = .ok (.laload, 1))
    (kk : W p l e R s m args below meth c H locs cells slots Q (F0 m (pc + 1) ls (.long ow :: rest))) : W p l e R s m args below meth c H locs cells slots Q (F0 m pc ls (.int x :: .ref (H0.size + k) :: rest)) :=
  gw_lald hx hb hK hw (by rw [hk]; decide) (by rw [hk]; rfl) 2 rfl hin hdg kk
theorem gs_out {ow2 : Int64} (hx : p.tables.exec = Jvm.exec) (hb : c.code = cc) (hK : va_K D gC (gTy aC) s) (hw : gw D gC H0 402 (gW H0.size aC M r ow) H locs) (hk : k = 401) (hin : vp_in x 1) (hdg : decode cc pc = .ok (.lastore, 1))
    (kk : ∀ (H1 : Heap) (locs1 : List Loc), gw D gC H0 402 (gW H0.size aC M r ow2) H1 locs1 → W p l e R s m args below meth c H1 locs1 cells slots Q (F0 m (pc + 1) ls rest)) : W p l e R s m args below meth c H locs cells slots Q (F0 m pc ls (.long ow2 :: .int x :: .ref (H0.size + k) :: rest)) :=
  gw_last hx hb hK hw (by rw [hk]; decide) (by rw [hk]; rfl) 2 rfl hin hdg (fun H1 locs1 h1 => kk H1 locs1 (gw_outTo hk hin h1))
end GAR
