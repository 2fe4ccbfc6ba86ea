/-! The law: what holds at its start -/
theorem gv_traces {l : Launch} (h : l.flags = flags0) (e : Env) (he : l.admits e) : e.platform.stackTraces = false := by
  have hp := he.2.2.2.2.1
  rw [hp]
  show l.stackTraces = false
  unfold Launch.stackTraces
  rw [h]
  decide +kernel
theorem gv_K {s0 : State} (T : gT s0) : ∃ (D : va_G) (aC : Nat → ClassId), va_K D gC (gTy aC) s0 := by
  obtain ⟨c0, i0, h0⟩ := u_known (fw_MR (a := #[]) T) (fun _ h => h) (kn_MR T)
  obtain ⟨c1, i1, h1⟩ := u_known (fw_Row (a := #[]) T) (fun _ h => h) (kn_Row T)
  obtain ⟨c2, i2, h2⟩ := u_known (fw_At (a := #[]) T) (fun _ h => h) (kn_At T)
  obtain ⟨c3, i3, h3⟩ := u_known (fw_Nm (a := #[]) T) (fun _ h => h) (kn_Nm T)
  obtain ⟨c4, i4, h4⟩ := u_known (fw_El (a := #[]) T) (fun _ h => h) (kn_El T)
  obtain ⟨c5, i5, h5⟩ := u_known (fw_Tr (a := #[]) T) (fun _ h => h) (kn_Tr T)
  obtain ⟨c6, i6, h6⟩ := u_known (fw_FW (a := #[]) T) (fun _ h => h) (kn_FW T)
  obtain ⟨c7, i7, h7⟩ := u_known (fw_SF (a := #[]) T) (fun _ h => h) (kn_SF T)
  obtain ⟨c8, i8, h8⟩ := u_known (fw_Rd (a := #[]) T) (fun _ h => h) (kn_Rd T)
  obtain ⟨c9, i9, h9⟩ := u_known (fw_Mo (a := #[]) T) (fun _ h => h) (kn_Mo T)
  obtain ⟨a0, k0, p0, f0, g0, e0⟩ := Cond.arrayClass_spec (ky_char (a := #[]) T)
  obtain ⟨a1, k1, p1, f1, g1, e1⟩ := Cond.arrayClass_spec (ky_int (a := #[]) T)
  obtain ⟨a2, k2, p2, f2, g2, e2⟩ := Cond.arrayClass_spec (ky_long (a := #[]) T)
  obtain ⟨p3, a3, k3, f3, -, g3, e3, n3⟩ := Cond.arrayOver_spec (ko_El (a := #[]) T)
  obtain ⟨p4, a4, k4, f4, -, g4, e4, n4⟩ := Cond.arrayOver_spec (ko_At (a := #[]) T)
  refine ⟨(fun k => match k with | 0 => c0 | 1 => c1 | 2 => c2 | 3 => c3 | 4 => c4 | 5 => c5 | 6 => c6 | 7 => c7 | 8 => c8 | _ => c9, fun k => match k with | 0 => i0 | 1 => i1 | 2 => i2 | 3 => i3 | 4 => i4 | 5 => i5 | 6 => i6 | 7 => i7 | 8 => i8 | _ => i9), fun k => match k with | 0 => a0 | 1 => a1 | 2 => a2 | 3 => a3 | _ => a4, ?_, ?_⟩
  · intro c q hq
    match c, hq with
    | 0, hq => cases hq; exact h0
    | 1, hq => cases hq; exact h1
    | 2, hq => cases hq; exact h2
    | 3, hq => cases hq; exact h3
    | 4, hq => cases hq; exact h4
    | 5, hq => cases hq; exact h5
    | 6, hq => cases hq; exact h6
    | 7, hq => cases hq; exact h7
    | 8, hq => cases hq; exact h8
    | 9, hq => cases hq; exact h9
    | c + 10, hq => cases hq
  · intro c q hq
    match c, hq with
    | 0, hq => cases hq; exact ⟨fun N z => ⟨(fun k h => by cases h), k0, g0, p0, e0⟩, f0⟩
    | 1, hq => cases hq; exact ⟨fun N z => ⟨(fun k h => by cases h), k1, g1, p1, e1⟩, f1⟩
    | 2, hq => cases hq; exact ⟨fun N z => ⟨(fun k h => by cases h), k2, g2, p2, e2⟩, f2⟩
    | 3, hq => cases hq; exact ⟨fun N z => ⟨(fun k h => by cases h), k3, g3, p3, e3⟩, k3, p3, g3, e3, f3, n3⟩
    | 4, hq => cases hq; exact ⟨fun N z => ⟨(fun k h => by cases h), k4, g4, p4, e4⟩, k4, p4, g4, e4, f4, n4⟩
    | c + 5, hq => cases hq
theorem gv_F {p : Program} {s : State} {m : MethodId} {meth : Method} {c : Code} {b L : Nat} {xs : Nat → Int32} (C0 : lw_At p s m meth c b L xs) : gF s #[Value.ref b] :=
  ⟨C0.2.2.2.2.2.1, flat_of_before _ C0.2.2.2.2.2.2.2.2.2⟩
theorem gv_G {p : Program} {l : Launch} {e : Env} {s : State} {m : MethodId} {meth : Method} {c : Code} {b L : Nat} {xs : Nat → Int32} (hfl : l.flags = flags0) (he : l.admits e) (C0 : lw_At p s m meth c b L xs) : ∃ D aC, gG l s D aC #[Value.ref b] ∧ gB s D aC p e s m meth c R_La code 7 ret := by
  have F := gv_F C0
  obtain ⟨D, aC, hK⟩ := gv_K F.T
  exact ⟨D, aC, ⟨gv_traces hfl, F, hK⟩, C0.1, C0.2.1, C0.2.2.2.1, C0.2.2.1, C0.2.2.2.2.2.2.2.2.1, C0.2.2.2.2.1, F.T, hK, State.WarmedH.refl _, gv_traces hfl e he⟩
