/-! The JDK's own methods: length, charAt, min -/
theorem d_St_length_0 : decode b_St_length 0 = .ok (.aload_n 0, 1) := by decide +kernel
theorem d_St_length_1 : decode b_St_length 1 = .ok (.getfield 9, 3) := by decide +kernel
theorem d_St_length_4 : decode b_St_length 4 = .ok (.arraylength, 1) := by decide +kernel
theorem d_St_length_5 : decode b_St_length 5 = .ok (.aload_n 0, 1) := by decide +kernel
theorem d_St_length_6 : decode b_St_length 6 = .ok (.invokevirtual 335, 3) := by decide +kernel
theorem d_St_length_9 : decode b_St_length 9 = .ok (.ishr, 1) := by decide +kernel
theorem d_St_length_10 : decode b_St_length 10 = .ok (.ireturn, 1) := by decide +kernel
theorem d_St_coder_0 : decode b_St_coder 0 = .ok (.getstatic 38, 3) := by decide +kernel
theorem d_St_coder_3 : decode b_St_coder 3 = .ok (.ifCond .eq 10, 3) := by decide +kernel
theorem d_St_coder_6 : decode b_St_coder 6 = .ok (.aload_n 0, 1) := by decide +kernel
theorem d_St_coder_7 : decode b_St_coder 7 = .ok (.getfield 15, 3) := by decide +kernel
theorem d_St_coder_10 : decode b_St_coder 10 = .ok (.goto 4, 3) := by decide +kernel
theorem d_St_coder_14 : decode b_St_coder 14 = .ok (.ireturn, 1) := by decide +kernel
theorem d_St_isLatin1_0 : decode b_St_isLatin1 0 = .ok (.getstatic 38, 3) := by decide +kernel
theorem d_St_isLatin1_3 : decode b_St_isLatin1 3 = .ok (.ifCond .eq 14, 3) := by decide +kernel
theorem d_St_isLatin1_6 : decode b_St_isLatin1 6 = .ok (.aload_n 0, 1) := by decide +kernel
theorem d_St_isLatin1_7 : decode b_St_isLatin1 7 = .ok (.getfield 15, 3) := by decide +kernel
theorem d_St_isLatin1_10 : decode b_St_isLatin1 10 = .ok (.ifCond .ne 7, 3) := by decide +kernel
theorem d_St_isLatin1_13 : decode b_St_isLatin1 13 = .ok (.iconst 1, 1) := by decide +kernel
theorem d_St_isLatin1_14 : decode b_St_isLatin1 14 = .ok (.goto 4, 3) := by decide +kernel
theorem d_St_isLatin1_18 : decode b_St_isLatin1 18 = .ok (.ireturn, 1) := by decide +kernel
theorem d_St_charAt_0 : decode b_St_charAt 0 = .ok (.aload_n 0, 1) := by decide +kernel
theorem d_St_charAt_1 : decode b_St_charAt 1 = .ok (.invokevirtual 492, 3) := by decide +kernel
theorem d_St_charAt_4 : decode b_St_charAt 4 = .ok (.ifCond .eq 12, 3) := by decide +kernel
theorem d_St_charAt_7 : decode b_St_charAt 7 = .ok (.aload_n 0, 1) := by decide +kernel
theorem d_St_charAt_8 : decode b_St_charAt 8 = .ok (.getfield 9, 3) := by decide +kernel
theorem d_St_charAt_11 : decode b_St_charAt 11 = .ok (.iload_n 1, 1) := by decide +kernel
theorem d_St_charAt_12 : decode b_St_charAt 12 = .ok (.invokestatic 495, 3) := by decide +kernel
theorem d_St_charAt_15 : decode b_St_charAt 15 = .ok (.ireturn, 1) := by decide +kernel
theorem d_SL_charAt_0 : decode b_SL_charAt 0 = .ok (.iload_n 1, 1) := by decide +kernel
theorem d_SL_charAt_1 : decode b_SL_charAt 1 = .ok (.aload_n 0, 1) := by decide +kernel
theorem d_SL_charAt_2 : decode b_SL_charAt 2 = .ok (.arraylength, 1) := by decide +kernel
theorem d_SL_charAt_3 : decode b_SL_charAt 3 = .ok (.invokestatic 9, 3) := by decide +kernel
theorem d_SL_charAt_6 : decode b_SL_charAt 6 = .ok (.aload_n 0, 1) := by decide +kernel
theorem d_SL_charAt_7 : decode b_SL_charAt 7 = .ok (.iload_n 1, 1) := by decide +kernel
theorem d_SL_charAt_8 : decode b_SL_charAt 8 = .ok (.baload, 1) := by decide +kernel
theorem d_SL_charAt_9 : decode b_SL_charAt 9 = .ok (.sipush 255, 3) := by decide +kernel
theorem d_SL_charAt_12 : decode b_SL_charAt 12 = .ok (.iand, 1) := by decide +kernel
theorem d_SL_charAt_13 : decode b_SL_charAt 13 = .ok (.i2c, 1) := by decide +kernel
theorem d_SL_charAt_14 : decode b_SL_charAt 14 = .ok (.ireturn, 1) := by decide +kernel
theorem d_St_checkIndex_0 : decode b_St_checkIndex 0 = .ok (.iload_n 0, 1) := by decide +kernel
theorem d_St_checkIndex_1 : decode b_St_checkIndex 1 = .ok (.iload_n 1, 1) := by decide +kernel
theorem d_St_checkIndex_2 : decode b_St_checkIndex 2 = .ok (.getstatic 1053, 3) := by decide +kernel
theorem d_St_checkIndex_5 : decode b_St_checkIndex 5 = .ok (.invokestatic 1059, 3) := by decide +kernel
theorem d_St_checkIndex_8 : decode b_St_checkIndex 8 = .ok (.pop, 1) := by decide +kernel
theorem d_St_checkIndex_9 : decode b_St_checkIndex 9 = .ok (.return_, 1) := by decide +kernel
theorem d_Pr_checkIndex_0 : decode b_Pr_checkIndex 0 = .ok (.iload_n 0, 1) := by decide +kernel
theorem d_Pr_checkIndex_1 : decode b_Pr_checkIndex 1 = .ok (.ifCond .lt 8, 3) := by decide +kernel
theorem d_Pr_checkIndex_4 : decode b_Pr_checkIndex 4 = .ok (.iload_n 0, 1) := by decide +kernel
theorem d_Pr_checkIndex_5 : decode b_Pr_checkIndex 5 = .ok (.iload_n 1, 1) := by decide +kernel
theorem d_Pr_checkIndex_6 : decode b_Pr_checkIndex 6 = .ok (.if_icmp .lt 10, 3) := by decide +kernel
theorem d_Pr_checkIndex_16 : decode b_Pr_checkIndex 16 = .ok (.iload_n 0, 1) := by decide +kernel
theorem d_Pr_checkIndex_17 : decode b_Pr_checkIndex 17 = .ok (.ireturn, 1) := by decide +kernel
theorem shr0 (x : Int32) : x >>> ((0 : Int32) &&& 31) = x := by
  show x >>> (0 : Int32) = x
  simp
section GMN
variable {p : Program} {l : Launch} {e : Env} {R : Room} {s s0 : State} {m : MethodId} {args : Array Value} {below : List Frame} {meth : Method} {c : Code} {H : Heap} {locs : List Loc} {cells slots : Nat} {Q : State → Prop}
variable {cc : ByteArray} {pc n fu : Nat} {ls : Array Slot} {rest : List Value} {D : va_G} {aC : Nat → ClassId} {a0 : Array Value} {ret : Option FieldType} {M : gMem} {r : gRef} {ow : Int64} {cls : String}
theorem gs_min {index : Nat} {x y : Int32} (B : gB s0 D aC p e s m meth c cls cc n ret) (hsz : ls.size = n) (hw : gWd s0 D aC M r ow H locs) (hlink : (Cond.methodLink cls index y_Ma_min).before args s = true) (hR : 1 ≤ R.frames ∧ (rest.map fun v => v.category).sum + 13 ≤ R.locals) (hdg : decode cc pc = .ok (.invokestatic index, 3))
    (kk : ∀ v M1 r1 H1 locs1, gWd s0 D aC M1 r1 ow H1 locs1 → qI (F_Ma_min fu x y M r) v M1 r1 → W p l e R s m args below meth c H1 locs1 0 0 Q (F0 m (pc + 3) ls (v.toList ++ rest))) : W p l e R s m args below meth c H locs 0 0 Q (F0 m pc ls (.int y :: .int x :: rest)) := by
  have T := B.2.2.2.2.2.2.1
  refine va_mmin B.1 B.2.1 (B.2.2.1.trans hsz.symm) B.2.2.2.2.2.1 hlink (kt_Ma_min T) (ki_Ma T) (kd_Ma_min T) hR.1 hR.2 (Nat.zero_le _) (Nat.zero_le _) hdg ?_
  have h := kk (some (.int (if y < x then y else x))) M r H locs hw ⟨_, rfl, by
    unfold F_Ma_min
    by_cases q : y < x
    · rw [if_pos q, if_neg (Int32.not_le.mpr q)]
    · rw [if_neg q, if_pos (Int32.not_lt.mp q)]⟩
  exact h
end GMN
section JDK
variable {l : Launch} {s0 : State} {D : va_G} {aC : Nat → ClassId} {a0 : Array Value}
set_option maxHeartbeats 4000000 in
set_option maxRecDepth 100000 in
theorem t_St_coder (G : gG l s0 D aC a0) (M : gMem) (r : gRef) (ow : Int64) (q : Nat) (hq : q < gSn) : gMet l s0 D aC y_St_coder (Cond.code y_St_coder b_St_coder 1 (some .byte)) 0 0 0 0 [.ref (gSa s0 q)] M r ow (fun v M1 r1 => v = some (.int 0) ∧ M1 = M ∧ r1 = r) (fun _ _ _ => False) := by
  refine gm_of G (by decide) (Nat.le_of_ble_eq_true rfl) ?_
  intro p e s m below meth c ls B hexc hl hw
  have hx := B.1
  have hb := B.2.1
  have hown := B.2.2.2.2.2.1
  have T := B.2.2.2.2.2.2.1
  have hW := B.2.2.2.2.2.2.2.2.1
  obtain ⟨v, -, h2, -, -⟩ := (gS_str G.2.1 q hq).now hW hw
  have hz := (va_Z.moved hW.alike (gz_CS G.2.1)).kept (H1 := s.heap) hw.2.2.1
  refine gs_gets hx hb hz hown (kf_St_38 T) d_St_coder_0 ?_
  refine lv_if_eq hx hb d_St_coder_3 rfl (fun h => absurd h (by decide)) (fun _ => ?_)
  refine lv_aload_n hx hb d_St_coder_6 rfl (lv_at hl 0 rfl) ?_
  refine gs_getf hx hb h2 hown (kf_St_15 T) d_St_coder_7 ?_
  refine lv_goto hx hb d_St_coder_10 rfl ?_
  exact gr_z B hw (by rfl) d_St_coder_14 ⟨rfl, rfl, rfl⟩
set_option maxHeartbeats 4000000 in
set_option maxRecDepth 100000 in
theorem t_St_isLatin1 (G : gG l s0 D aC a0) (M : gMem) (r : gRef) (ow : Int64) (q : Nat) (hq : q < gSn) : gMet l s0 D aC y_St_isLatin1 (Cond.code y_St_isLatin1 b_St_isLatin1 1 (some .boolean)) 0 0 0 0 [.ref (gSa s0 q)] M r ow (fun v M1 r1 => v = some (.int 1) ∧ M1 = M ∧ r1 = r) (fun _ _ _ => False) := by
  refine gm_of G (by decide) (Nat.le_of_ble_eq_true rfl) ?_
  intro p e s m below meth c ls B hexc hl hw
  have hx := B.1
  have hb := B.2.1
  have hown := B.2.2.2.2.2.1
  have T := B.2.2.2.2.2.2.1
  have hW := B.2.2.2.2.2.2.2.2.1
  obtain ⟨v, -, h2, -, -⟩ := (gS_str G.2.1 q hq).now hW hw
  have hz := (va_Z.moved hW.alike (gz_CS G.2.1)).kept (H1 := s.heap) hw.2.2.1
  refine gs_gets hx hb hz hown (kf_St_38 T) d_St_isLatin1_0 ?_
  refine lv_if_eq hx hb d_St_isLatin1_3 rfl (fun h => absurd h (by decide)) (fun _ => ?_)
  refine lv_aload_n hx hb d_St_isLatin1_6 rfl (lv_at hl 0 rfl) ?_
  refine gs_getf hx hb h2 hown (kf_St_15 T) d_St_isLatin1_7 ?_
  refine lv_if_ne hx hb d_St_isLatin1_10 rfl (fun h => absurd rfl h) (fun _ => ?_)
  refine lv_iconst (v := 1) hx hb d_St_isLatin1_13 (by decide) ?_
  refine lv_goto hx hb d_St_isLatin1_14 rfl ?_
  exact gr_z B hw (by rfl) d_St_isLatin1_18 ⟨rfl, rfl, rfl⟩
set_option maxHeartbeats 4000000 in
set_option maxRecDepth 100000 in
theorem t_St_length (G : gG l s0 D aC a0) (M : gMem) (r : gRef) (ow : Int64) (fu : Nat) (q : Nat) (hq : q < gSn) (hno : F_St_length fu q M r ≠ .no) : gMet l s0 D aC y_St_length (Cond.code y_St_length b_St_length 1 (some .int)) 3 60 0 0 [.ref (gSa s0 q)] M r ow (qI (F_St_length fu q M r)) (qT (F_St_length fu q M r)) := by
  refine gm_of G (by decide) (Nat.le_of_ble_eq_true rfl) ?_
  intro p e s m below meth c ls B hexc hl hw
  have hx := B.1
  have hb := B.2.1
  have hown := B.2.2.2.2.2.1
  have T := B.2.2.2.2.2.2.1
  have hW := B.2.2.2.2.2.2.2.2.1
  obtain ⟨v, -, -, h3, h4⟩ := (gS_str G.2.1 q hq).now hW hw
  refine lv_aload_n hx hb d_St_length_0 rfl (lv_at hl 0 rfl) ?_
  refine gs_getf hx hb h3 hown (kf_St_9 T) d_St_length_1 ?_
  refine gs_alen hx hb h4 d_St_length_4 ?_
  refine lv_aload_n hx hb d_St_length_5 rfl (lv_at hl 0 rfl) ?_
  refine gy_V (As := []) B hl.1 hw (t_St_coder G _ _ ow q hq) (kd_St_coder T) (ki_St T) (km_St_335 T) (ka_St_coder T) (ks_St_coder T) ⟨by decide, by decide, by rfl⟩ (rv_St G B hw hq) rfl (Nat.le_of_ble_eq_true rfl) ⟨by decide, by decide⟩ ⟨by decide, by decide⟩ d_St_length_6 (fun v M1 r1 H locs hw hp => ?_) (fun x ek M1 r1 H locs hw hE hp => hp.elim)
  obtain ⟨rfl, hM1, hr1⟩ := hp
  rw [hM1, hr1] at hw
  refine lv_ishr hx hb d_St_length_9 ?_
  rw [shr0]
  exact gr_i B hw d_St_length_10 ⟨_, rfl, rfl⟩
set_option maxHeartbeats 4000000 in
set_option maxRecDepth 100000 in
theorem t_Pr_checkIndex (G : gG l s0 D aC a0) (M : gMem) (r : gRef) (ow : Int64) (x : Int32) (N : Nat) (hN : N < 2 ^ 31) (hin : vp_in x N) (o : Option Nat) : gMet l s0 D aC y_Pr_checkIndex (Cond.code y_Pr_checkIndex b_Pr_checkIndex 3 (some .int)) 0 0 0 0 [.int x, .int (Int32.ofNat N), va_rf o] M r ow (fun v M1 r1 => v = some (.int x) ∧ M1 = M ∧ r1 = r) (fun _ _ _ => False) := by
  have h0 : ¬ x < 0 := fun h => hin (Or.inl h)
  have h1 : x < Int32.ofNat N := by
    obtain ⟨n, hn, rfl⟩ := nI_of h0
    have := vin_lt hin
    rw [nI_clamp hn] at this
    exact nI_lt this hN
  cases o with
  | none =>
    refine gm_of G (by decide) (Nat.le_of_ble_eq_true rfl) ?_
    intro p e s m below meth c ls B hexc hl hw
    have hx := B.1
    have hb := B.2.1
    refine lv_iload_n hx hb d_Pr_checkIndex_0 rfl (lv_at hl 0 rfl) ?_
    refine lv_if_lt hx hb d_Pr_checkIndex_1 rfl (fun h => absurd h h0) (fun _ => ?_)
    refine lv_iload_n hx hb d_Pr_checkIndex_4 rfl (lv_at hl 0 rfl) ?_
    refine lv_iload_n hx hb d_Pr_checkIndex_5 rfl (lv_at hl 1 rfl) ?_
    refine lv_icmp_lt hx hb d_Pr_checkIndex_6 rfl (fun _ => ?_) (fun h => absurd h1 h)
    refine lv_iload_n hx hb d_Pr_checkIndex_16 rfl (lv_at hl 0 rfl) ?_
    exact gr_i B hw d_Pr_checkIndex_17 ⟨rfl, rfl, rfl⟩
  | some a =>
    refine gm_of G (by decide) (Nat.le_of_ble_eq_true rfl) ?_
    intro p e s m below meth c ls B hexc hl hw
    have hx := B.1
    have hb := B.2.1
    refine lv_iload_n hx hb d_Pr_checkIndex_0 rfl (lv_at hl 0 rfl) ?_
    refine lv_if_lt hx hb d_Pr_checkIndex_1 rfl (fun h => absurd h h0) (fun _ => ?_)
    refine lv_iload_n hx hb d_Pr_checkIndex_4 rfl (lv_at hl 0 rfl) ?_
    refine lv_iload_n hx hb d_Pr_checkIndex_5 rfl (lv_at hl 1 rfl) ?_
    refine lv_icmp_lt hx hb d_Pr_checkIndex_6 rfl (fun _ => ?_) (fun h => absurd h1 h)
    refine lv_iload_n hx hb d_Pr_checkIndex_16 rfl (lv_at hl 0 rfl) ?_
    exact gr_i B hw d_Pr_checkIndex_17 ⟨rfl, rfl, rfl⟩
set_option maxHeartbeats 4000000 in
set_option maxRecDepth 100000 in
theorem t_St_checkIndex (G : gG l s0 D aC a0) (M : gMem) (r : gRef) (ow : Int64) (x : Int32) (N : Nat) (hN : N < 2 ^ 31) (hin : vp_in x N) : gMet l s0 D aC y_St_checkIndex (Cond.code y_St_checkIndex b_St_checkIndex 2 none) 1 30 0 0 [.int x, .int (Int32.ofNat N)] M r ow (fun v M1 r1 => v = none ∧ M1 = M ∧ r1 = r) (fun _ _ _ => False) := by
  obtain ⟨o, ho⟩ := gz_SI G.2.1
  refine gm_of G (by decide) (Nat.le_of_ble_eq_true rfl) ?_
  intro p e s m below meth c ls B hexc hl hw
  have hx := B.1
  have hb := B.2.1
  have hown := B.2.2.2.2.2.1
  have T := B.2.2.2.2.2.2.1
  have hW := B.2.2.2.2.2.2.2.2.1
  have hz := (va_Z.moved hW.alike ho).kept (H1 := s.heap) hw.2.2.1
  refine lv_iload_n hx hb d_St_checkIndex_0 rfl (lv_at hl 0 rfl) ?_
  refine lv_iload_n hx hb d_St_checkIndex_1 rfl (lv_at hl 1 rfl) ?_
  refine gs_gets hx hb hz hown (kf_St_1053 T) d_St_checkIndex_2 ?_
  refine gy_S (As := [.int x, .int (Int32.ofNat N), va_rf o]) B hl.1 hw (t_Pr_checkIndex G _ _ ow x N hN hin o) (kd_Pr_checkIndex T) (ki_Pr T) (km_St_1059 T) (kt_Pr_checkIndex T) ⟨by decide, by decide, by rfl⟩ rfl (Nat.le_of_ble_eq_true rfl) ⟨by decide, by decide⟩ ⟨by decide, by decide⟩ d_St_checkIndex_5 (fun v M1 r1 H locs hw hp => ?_) (fun x ek M1 r1 H locs hw hE hp => hp.elim)
  obtain ⟨rfl, hM1, hr1⟩ := hp
  rw [hM1, hr1] at hw
  refine lv_pop hx hb d_St_checkIndex_8 rfl ?_
  exact gr_v B hw d_St_checkIndex_9 ⟨rfl, rfl, rfl⟩
set_option maxHeartbeats 4000000 in
set_option maxRecDepth 100000 in
theorem t_SL_charAt (G : gG l s0 D aC a0) (M : gMem) (r : gRef) (ow : Int64) {t : Nat} {L : List Int32} (hT : va_T .byte t L.length (fun j => .int (L.getD j 0)) (gA s0) s0 s0.heap) (hL : L.length < 2 ^ 31) (x : Int32) (hin : vp_in x L.length) (hc : iC (L.getD x.toNatClampNeg 0 &&& 255) = L.getD x.toNatClampNeg 0) (hk : cOK (L.getD x.toNatClampNeg 0)) : gMet l s0 D aC y_SL_charAt (Cond.code y_SL_charAt b_SL_charAt 2 (some .char)) 2 60 0 0 [.ref t, .int x] M r ow (fun v M1 r1 => v = some (.int (L.getD x.toNatClampNeg 0)) ∧ M1 = M ∧ r1 = r) (fun _ _ _ => False) := by
  refine gm_of G (by decide) (Nat.le_of_ble_eq_true rfl) ?_
  intro p e s m below meth c ls B hexc hl hw
  have hx := B.1
  have hb := B.2.1
  have hown := B.2.2.2.2.2.1
  have T := B.2.2.2.2.2.2.1
  have hW := B.2.2.2.2.2.2.2.2.1
  have h4 := (va_T.moved hW.alike hT).kept (H1 := s.heap) hw.2.2.1
  refine lv_iload_n hx hb d_SL_charAt_0 rfl (lv_at hl 1 rfl) ?_
  refine lv_aload_n hx hb d_SL_charAt_1 rfl (lv_at hl 0 rfl) ?_
  refine gs_alen hx hb h4 d_SL_charAt_2 ?_
  refine gy_S (As := [.int x, .int (Int32.ofNat L.length)]) B hl.1 hw (t_St_checkIndex G _ _ ow x L.length hL hin) (kd_St_checkIndex T) (ki_St T) (km_SL_9 T) (kt_St_checkIndex T) ⟨by decide, by decide, by rfl⟩ rfl (Nat.le_of_ble_eq_true rfl) ⟨by decide, by decide⟩ ⟨by decide, by decide⟩ d_SL_charAt_3 (fun v M1 r1 H locs hw hp => ?_) (fun x ek M1 r1 H locs hw hE hp => hp.elim)
  obtain ⟨rfl, hM1, hr1⟩ := hp
  rw [hM1, hr1] at hw
  have h5 := (va_T.moved hW.alike hT).kept (H1 := H) hw.2.2.1
  refine lv_aload_n hx hb d_SL_charAt_6 rfl (lv_at hl 0 rfl) ?_
  refine lv_iload_n hx hb d_SL_charAt_7 rfl (lv_at hl 1 rfl) ?_
  refine gs_bald hx hb h5 hin rfl d_SL_charAt_8 ?_
  refine lv_sipush (v := 255) hx hb d_SL_charAt_9 (by decide) ?_
  refine lv_iand hx hb d_SL_charAt_12 ?_
  refine lv_i2c hx hb d_SL_charAt_13 hc ?_
  exact gr_z B hw hk.nar d_SL_charAt_14 ⟨rfl, rfl, rfl⟩
set_option maxHeartbeats 4000000 in
set_option maxRecDepth 100000 in
theorem t_St_charAt (G : gG l s0 D aC a0) (M : gMem) (r : gRef) (ow : Int64) (fu : Nat) (q : Nat) (x : Int32) (hq : q < gSn) (hno : F_St_charAt fu q x M r ≠ .no) : gMet l s0 D aC y_St_charAt (Cond.code y_St_charAt b_St_charAt 2 (some .char)) 4 120 0 0 [.ref (gSa s0 q), .int x] M r ow (qI (F_St_charAt fu q x M r)) (qT (F_St_charAt fu q x M r)) := by
  have hin : vp_in x (gSt.getD q []).length := ng hno (F_St_charAt.eq_1 fu q x M r)
  have hF : F_St_charAt fu q x M r = .ok ((gSt.getD q []).getD x.toNatClampNeg 0) M r := by unfold F_St_charAt; rw [gd_yes hin]
  have hlen := gSt_len q hq
  have hok := gSt_ok q hq x.toNatClampNeg (vin_lt hin)
  obtain ⟨t, g1, g2, g3, g4⟩ := gS_str G.2.1 q hq
  have hk : cOK ((gSt.getD q []).getD x.toNatClampNeg 0) := isCh_ok hok.2
  refine gm_of G (by decide) (Nat.le_of_ble_eq_true rfl) ?_
  intro p e s m below meth c ls B hexc hl hw
  have hx := B.1
  have hb := B.2.1
  have hown := B.2.2.2.2.2.1
  have T := B.2.2.2.2.2.2.1
  have hW := B.2.2.2.2.2.2.2.2.1
  refine lv_aload_n hx hb d_St_charAt_0 rfl (lv_at hl 0 rfl) ?_
  refine gy_V (As := []) B hl.1 hw (t_St_isLatin1 G _ _ ow q hq) (kd_St_isLatin1 T) (ki_St T) (km_St_492 T) (ka_St_isLatin1 T) (ks_St_isLatin1 T) ⟨by decide, by decide, by rfl⟩ (rv_St G B hw hq) rfl (Nat.le_of_ble_eq_true rfl) ⟨by decide, by decide⟩ ⟨by decide, by decide⟩ d_St_charAt_1 (fun v M1 r1 H locs hw hp => ?_) (fun x ek M1 r1 H locs hw hE hp => hp.elim)
  obtain ⟨rfl, hM1, hr1⟩ := hp
  rw [hM1, hr1] at hw
  refine lv_if_eq hx hb d_St_charAt_4 rfl (fun h => absurd h (by decide)) (fun _ => ?_)
  refine lv_aload_n hx hb d_St_charAt_7 rfl (lv_at hl 0 rfl) ?_
  have h3 := (va_OF.moved hW.alike g3).kept (H1 := H) hw.2.2.1
  refine gs_getf hx hb h3 hown (kf_St_9 T) d_St_charAt_8 ?_
  refine lv_iload_n hx hb d_St_charAt_11 rfl (lv_at hl 1 rfl) ?_
  refine gy_S (As := [.ref t, .int x]) B hl.1 hw (t_SL_charAt G _ _ ow g4 (by omega) x hin hok.1 hk) (kd_SL_charAt T) (ki_SL T) (km_St_495 T) (kt_SL_charAt T) ⟨by decide, by decide, by rfl⟩ rfl (Nat.le_of_ble_eq_true rfl) ⟨by decide, by decide⟩ ⟨by decide, by decide⟩ d_St_charAt_12 (fun v M1 r1 H locs hw hp => ?_) (fun x ek M1 r1 H locs hw hE hp => hp.elim)
  obtain ⟨rfl, hM1, hr1⟩ := hp
  rw [hM1, hr1] at hw
  exact gr_z B hw hk.nar d_St_charAt_15 ⟨_, rfl, hF⟩
end JDK
