/-! The contracts of methods, as their functions say -/
set_option maxHeartbeats 4000000 in
set_option maxRecDepth 100000 in
theorem t_Nm_hasSpace {l : Launch} {s0 : State} {D : va_G} {aC : Nat → ClassId} {a0 : Array Value} (G : gG l s0 D aC a0) (M : gMem) (r : gRef) (ow : Int64) (fu : Nat) (k0 : Nat) (b0 : k0 < 170) (hno : F_Nm_hasSpace fu k0 M r ≠ .no) : gMet l s0 D aC y_Nm_hasSpace (Cond.code y_Nm_hasSpace b_Nm_hasSpace 1 (some .boolean)) 1 20 0 0 [.ref (s0.heap.size + oNm k0)] M r ow (qI (F_Nm_hasSpace fu k0 M r)) (qT (F_Nm_hasSpace fu k0 M r)) := by
  refine gm_of G (by decide) (Nat.le_of_ble_eq_true rfl) ?_
  intro p e s m below meth c ls B hexc hl hw
  have hx := B.1
  have hb := B.2.1
  have hown := B.2.2.2.2.2.1
  have T := B.2.2.2.2.2.2.1
  have hK := B.2.2.2.2.2.2.2.1
  have hF := F_Nm_hasSpace.eq_1 fu k0 M r
  refine lv_aload_n hx hb d_Nm_hasSpace_0 rfl (lv_at hl 0 rfl) ?_
  refine gf_Nm_space hx hb T hown hK hw (i := k0) b0 rfl (kf_Nm_16 T) d_Nm_hasSpace_1 ?_
  rcases hq4 : r 0 k0 with _ | k_4
  · skip
    have hF := hF.trans (gcs_none hq4)
    exact absurd hF hno
  · skip
    have hF := hF.trans (gcs_some hq4)
    have b_4 := ng hno hF
    have hF := hF.trans (gd_yes b_4)
    refine gy_V B hl.1 hw (t_At_valueLength G _ _ ow fu k_4 b_4 (nn hno hF)) (kd_At_valueLength T) (ki_At T) (km_Nm_20 T) (ka_At_valueLength T) (ks_At_valueLength T) ⟨by decide, by decide, by rfl⟩ (rv_At hK hw (i := k_4) b_4 rfl) rfl (Nat.le_of_ble_eq_true rfl) ⟨by decide, by decide⟩ ⟨by decide, by decide⟩ d_Nm_hasSpace_4 (fun v M5 r5 H locs hw hp => ?_) (fun x ek M5 r5 H locs hw hE hp => gr_t B hexc hw hE (by decide) (by decide) (hF.trans (bnd_ex hp)))
    obtain ⟨v5, rfl, hp⟩ := hp
    have hF := hF.trans (bnd_ok hp)
    refine lv_if_le hx hb d_Nm_hasSpace_7 rfl (fun h6 => ?_) (fun h6 => ?_)
    · skip
      have hF := hF.trans (if_pos h6)
      refine lv_iconst (v := 0) hx hb d_Nm_hasSpace_14 (by decide) ?_
      exact gr_z B hw (by rfl) d_Nm_hasSpace_15 ⟨_, rfl, hF⟩
    · skip
      have hF := hF.trans (if_neg h6)
      refine lv_iconst (v := 1) hx hb d_Nm_hasSpace_10 (by decide) ?_
      refine lv_goto hx hb d_Nm_hasSpace_11 rfl ?_
      exact gr_z B hw (by rfl) d_Nm_hasSpace_15 ⟨_, rfl, hF⟩
theorem d_SF_firstNotDeclared_0 : decode b_SF_firstNotDeclared 0 = .ok (.aload_n 1, 1) := by decide +kernel
theorem d_SF_firstNotDeclared_1 : decode b_SF_firstNotDeclared 1 = .ok (.getfield 15, 3) := by decide +kernel
theorem d_SF_firstNotDeclared_4 : decode b_SF_firstNotDeclared 4 = .ok (.invokevirtual 51, 3) := by decide +kernel
theorem d_SF_firstNotDeclared_7 : decode b_SF_firstNotDeclared 7 = .ok (.ifCond .eq 21, 3) := by decide +kernel
theorem d_SF_firstNotDeclared_10 : decode b_SF_firstNotDeclared 10 = .ok (.aload_n 1, 1) := by decide +kernel
theorem d_SF_firstNotDeclared_11 : decode b_SF_firstNotDeclared 11 = .ok (.getfield 15, 3) := by decide +kernel
theorem d_SF_firstNotDeclared_14 : decode b_SF_firstNotDeclared 14 = .ok (.invokevirtual 93, 3) := by decide +kernel
theorem d_SF_firstNotDeclared_17 : decode b_SF_firstNotDeclared 17 = .ok (.ifCond .ne 11, 3) := by decide +kernel
theorem d_SF_firstNotDeclared_20 : decode b_SF_firstNotDeclared 20 = .ok (.aload_n 1, 1) := by decide +kernel
theorem d_SF_firstNotDeclared_21 : decode b_SF_firstNotDeclared 21 = .ok (.getfield 15, 3) := by decide +kernel
theorem d_SF_firstNotDeclared_24 : decode b_SF_firstNotDeclared 24 = .ok (.getfield 21, 3) := by decide +kernel
theorem d_SF_firstNotDeclared_27 : decode b_SF_firstNotDeclared 27 = .ok (.ireturn, 1) := by decide +kernel
theorem d_SF_firstNotDeclared_28 : decode b_SF_firstNotDeclared 28 = .ok (.iconst 0, 1) := by decide +kernel
theorem d_SF_firstNotDeclared_29 : decode b_SF_firstNotDeclared 29 = .ok (.istore_n 2, 1) := by decide +kernel
theorem d_SF_firstNotDeclared_30 : decode b_SF_firstNotDeclared 30 = .ok (.iload_n 2, 1) := by decide +kernel
theorem d_SF_firstNotDeclared_31 : decode b_SF_firstNotDeclared 31 = .ok (.aload_n 1, 1) := by decide +kernel
theorem d_SF_firstNotDeclared_32 : decode b_SF_firstNotDeclared 32 = .ok (.getfield 41, 3) := by decide +kernel
theorem d_SF_firstNotDeclared_35 : decode b_SF_firstNotDeclared 35 = .ok (.if_icmp .ge 51, 3) := by decide +kernel
theorem d_SF_firstNotDeclared_38 : decode b_SF_firstNotDeclared 38 = .ok (.aload_n 1, 1) := by decide +kernel
theorem d_SF_firstNotDeclared_39 : decode b_SF_firstNotDeclared 39 = .ok (.getfield 44, 3) := by decide +kernel
theorem d_SF_firstNotDeclared_42 : decode b_SF_firstNotDeclared 42 = .ok (.iload_n 2, 1) := by decide +kernel
theorem d_SF_firstNotDeclared_43 : decode b_SF_firstNotDeclared 43 = .ok (.aaload, 1) := by decide +kernel
theorem d_SF_firstNotDeclared_44 : decode b_SF_firstNotDeclared 44 = .ok (.astore_n 3, 1) := by decide +kernel
theorem d_SF_firstNotDeclared_45 : decode b_SF_firstNotDeclared 45 = .ok (.aload_n 3, 1) := by decide +kernel
theorem d_SF_firstNotDeclared_46 : decode b_SF_firstNotDeclared 46 = .ok (.getfield 62, 3) := by decide +kernel
theorem d_SF_firstNotDeclared_49 : decode b_SF_firstNotDeclared 49 = .ok (.ifCond .ne 31, 3) := by decide +kernel
theorem d_SF_firstNotDeclared_52 : decode b_SF_firstNotDeclared 52 = .ok (.aload_n 3, 1) := by decide +kernel
theorem d_SF_firstNotDeclared_53 : decode b_SF_firstNotDeclared 53 = .ok (.getfield 48, 3) := by decide +kernel
theorem d_SF_firstNotDeclared_56 : decode b_SF_firstNotDeclared 56 = .ok (.invokevirtual 51, 3) := by decide +kernel
theorem d_SF_firstNotDeclared_59 : decode b_SF_firstNotDeclared 59 = .ok (.ifCond .eq 21, 3) := by decide +kernel
theorem d_SF_firstNotDeclared_62 : decode b_SF_firstNotDeclared 62 = .ok (.aload_n 3, 1) := by decide +kernel
theorem d_SF_firstNotDeclared_63 : decode b_SF_firstNotDeclared 63 = .ok (.getfield 48, 3) := by decide +kernel
theorem d_SF_firstNotDeclared_66 : decode b_SF_firstNotDeclared 66 = .ok (.invokevirtual 93, 3) := by decide +kernel
theorem d_SF_firstNotDeclared_69 : decode b_SF_firstNotDeclared 69 = .ok (.ifCond .ne 11, 3) := by decide +kernel
theorem d_SF_firstNotDeclared_72 : decode b_SF_firstNotDeclared 72 = .ok (.aload_n 3, 1) := by decide +kernel
theorem d_SF_firstNotDeclared_73 : decode b_SF_firstNotDeclared 73 = .ok (.getfield 48, 3) := by decide +kernel
theorem d_SF_firstNotDeclared_76 : decode b_SF_firstNotDeclared 76 = .ok (.getfield 21, 3) := by decide +kernel
theorem d_SF_firstNotDeclared_79 : decode b_SF_firstNotDeclared 79 = .ok (.ireturn, 1) := by decide +kernel
theorem d_SF_firstNotDeclared_80 : decode b_SF_firstNotDeclared 80 = .ok (.iinc 2 1, 3) := by decide +kernel
theorem d_SF_firstNotDeclared_83 : decode b_SF_firstNotDeclared 83 = .ok (.goto (-53), 3) := by decide +kernel
theorem d_SF_firstNotDeclared_86 : decode b_SF_firstNotDeclared 86 = .ok (.iconst (-1), 1) := by decide +kernel
theorem d_SF_firstNotDeclared_87 : decode b_SF_firstNotDeclared 87 = .ok (.ireturn, 1) := by decide +kernel
set_option maxHeartbeats 4000000 in
set_option maxRecDepth 100000 in
theorem t_SF_firstNotDeclared {l : Launch} {s0 : State} {D : va_G} {aC : Nat → ClassId} {a0 : Array Value} (G : gG l s0 D aC a0) (M : gMem) (r : gRef) (ow : Int64) (fu : Nat) (k1 : Nat) (b1 : k1 < 24) (hno : F_SF_firstNotDeclared fu k1 M r ≠ .no) : gMet l s0 D aC y_SF_firstNotDeclared (Cond.code y_SF_firstNotDeclared b_SF_firstNotDeclared 4 (some .int)) 2 40 0 0 [.ref (s0.heap.size + 382), .ref (s0.heap.size + oEl k1)] M r ow (qI (F_SF_firstNotDeclared fu k1 M r)) (qT (F_SF_firstNotDeclared fu k1 M r)) := by
  refine gm_of G (by decide) (Nat.le_of_ble_eq_true rfl) ?_
  intro p e s m below meth c ls B hexc hl hw
  have hx := B.1
  have hb := B.2.1
  have hown := B.2.2.2.2.2.1
  have T := B.2.2.2.2.2.2.1
  have hK := B.2.2.2.2.2.2.2.1
  have X86 : ∀ (M1 : gMem) (r1 : gRef) (H : Heap) (locs : List Loc) (ls : Array Slot), lv_has ls 4 [] → gWd s0 D aC M1 r1 ow H locs → F_SF_firstNotDeclared fu k1 M r = F_SF_firstNotDeclared_B86 fu k1 M1 r1 → W p l e (gRm 2 40 0 0) s m ([.ref (s0.heap.size + 382), .ref (s0.heap.size + oEl k1)] : List Value).toArray below meth c H locs 0 0 (gt_Q below (gQ s0 D aC ow (qI (F_SF_firstNotDeclared fu k1 M r)) (qT (F_SF_firstNotDeclared fu k1 M r))) s 0 0 0 0 (fun q => s0.heap.size ≤ q)) (F0 m 86 ls []) := by
    intro  M1 r1 H locs ls hl hw hF
    have hF := hF.trans (F_SF_firstNotDeclared_B86.eq_1 _ _ _ _)
    refine lv_iconst (v := -1) hx hb d_SF_firstNotDeclared_86 (by decide) ?_
    exact gr_i B hw d_SF_firstNotDeclared_87 ⟨_, rfl, hF⟩
  have L30 : ∀ (d : Nat) (x2 : Int32) (M1 : gMem) (r1 : gRef) (H : Heap) (locs : List Loc) (ls : Array Slot), lv_has ls 4 [(2, .int x2), (1, .ref (s0.heap.size + oEl k1))] → gWd s0 D aC M1 r1 ow H locs → F_SF_firstNotDeclared fu k1 M r = F_SF_firstNotDeclared_L30 fu k1 d x2 M1 r1 → W p l e (gRm 2 40 0 0) s m ([.ref (s0.heap.size + 382), .ref (s0.heap.size + oEl k1)] : List Value).toArray below meth c H locs 0 0 (gt_Q below (gQ s0 D aC ow (qI (F_SF_firstNotDeclared fu k1 M r)) (qT (F_SF_firstNotDeclared fu k1 M r))) s 0 0 0 0 (fun q => s0.heap.size ≤ q)) (F0 m 30 ls []) := by
    intro d
    induction d with
    | zero => intro x2 M1 r1 H locs ls hl hw hF; exact absurd hF hno
    | succ d ih =>
      intro x2 M1 r1 H locs ls hl hw hF
      have hF := hF.trans (F_SF_firstNotDeclared_L30.eq_2 _ _ _ _ _ _)
      refine lv_iload_n hx hb d_SF_firstNotDeclared_30 rfl (lv_at hl 0 rfl) ?_
      refine lv_aload_n hx hb d_SF_firstNotDeclared_31 rfl (lv_at hl 1 rfl) ?_
      refine gf_El_attributeCount hx hb T hown hK hw (i := k1) b1 rfl (kf_SF_41 T) d_SF_firstNotDeclared_32 ?_
      refine lv_icmp_ge hx hb d_SF_firstNotDeclared_35 rfl (fun h18 => ?_) (fun h18 => ?_)
      · skip
        have hF := hF.trans (if_pos h18)
        exact X86  _ _ _ _ _ (gv_loc hl [] rfl) hw hF
      · skip
        have hF := hF.trans (if_neg h18)
        refine lv_aload_n hx hb d_SF_firstNotDeclared_38 rfl (lv_at hl 1 rfl) ?_
        refine gf_El_attributes hx hb T hown hK hw (i := k1) b1 rfl (kf_SF_44 T) d_SF_firstNotDeclared_39 ?_
        refine lv_iload_n hx hb d_SF_firstNotDeclared_42 rfl (lv_at hl 0 rfl) ?_
        have g19 := ng hno hF
        have hF := hF.trans (gd_yes g19)
        refine ga_as hx hb hK hw (i := k1) b1 rfl g19 d_SF_firstNotDeclared_43 ?_
        have b119 : 6 * k1 + x2.toNatClampNeg < 145 := by have := vin_lt g19; have := b1; omega
        refine lv_astore_n hx hb d_SF_firstNotDeclared_44 rfl hl (by decide) rfl (fun ls hl => ?_)
        refine lv_aload_n hx hb d_SF_firstNotDeclared_45 rfl (lv_at hl 0 rfl) ?_
        refine gf_At_isDeclaration hx hb T hown hK hw (i := (6 * k1 + x2.toNatClampNeg)) b119 rfl (kf_SF_62 T) d_SF_firstNotDeclared_46 ?_
        refine lv_if_ne hx hb d_SF_firstNotDeclared_49 rfl (fun h20 => ?_) (fun h20 => ?_)
        · skip
          have hF := hF.trans (if_neg h20)
          refine lv_iinc (k := 1) hx hb d_SF_firstNotDeclared_80 hl rfl (show _ + Int32.ofInt 1 = _ + 1 from rfl) (by decide) rfl (fun ls hl => ?_)
          refine lv_goto hx hb d_SF_firstNotDeclared_83 rfl ?_
          exact ih (x2 + 1) _ _ _ _ _ (gv_loc hl [0, 2] rfl) hw hF
        · skip
          have hF := hF.trans (if_pos h20)
          refine lv_aload_n hx hb d_SF_firstNotDeclared_52 rfl (lv_at hl 0 rfl) ?_
          refine gf_At_name hx hb T hown hK hw (i := (6 * k1 + x2.toNatClampNeg)) b119 rfl (kf_SF_48 T) d_SF_firstNotDeclared_53 ?_
          have n21 : 6 * k1 + x2.toNatClampNeg < 170 := Nat.lt_trans b119 (by decide)
          refine gy_V B hl.1 hw (t_Nm_hasPrefix G _ _ ow fu (6 * k1 + x2.toNatClampNeg) n21 (nn hno hF)) (kd_Nm_hasPrefix T) (ki_Nm T) (km_SF_51 T) (ka_Nm_hasPrefix T) (ks_Nm_hasPrefix T) ⟨by decide, by decide, by rfl⟩ (rv_Nm hK hw (i := (6 * k1 + x2.toNatClampNeg)) n21 rfl) rfl (Nat.le_of_ble_eq_true rfl) ⟨by decide, by decide⟩ ⟨by decide, by decide⟩ d_SF_firstNotDeclared_56 (fun v M22 r22 H locs hw hp => ?_) (fun x ek M22 r22 H locs hw hE hp => gr_t B hexc hw hE (by decide) (by decide) (hF.trans (bnd_ex hp)))
          obtain ⟨v22, rfl, hp⟩ := hp
          have hF := hF.trans (bnd_ok hp)
          refine lv_if_eq hx hb d_SF_firstNotDeclared_59 rfl (fun h23 => ?_) (fun h23 => ?_)
          · skip
            have hF := hF.trans (if_pos h23)
            refine lv_iinc (k := 1) hx hb d_SF_firstNotDeclared_80 hl rfl (show _ + Int32.ofInt 1 = _ + 1 from rfl) (by decide) rfl (fun ls hl => ?_)
            refine lv_goto hx hb d_SF_firstNotDeclared_83 rfl ?_
            exact ih (x2 + 1) _ _ _ _ _ (gv_loc hl [0, 2] rfl) hw hF
          · skip
            have hF := hF.trans (if_neg h23)
            refine lv_aload_n hx hb d_SF_firstNotDeclared_62 rfl (lv_at hl 0 rfl) ?_
            refine gf_At_name hx hb T hown hK hw (i := (6 * k1 + x2.toNatClampNeg)) b119 rfl (kf_SF_48 T) d_SF_firstNotDeclared_63 ?_
            have n24 : 6 * k1 + x2.toNatClampNeg < 170 := Nat.lt_trans b119 (by decide)
            refine gy_V B hl.1 hw (t_Nm_hasSpace G _ _ ow fu (6 * k1 + x2.toNatClampNeg) n24 (nn hno hF)) (kd_Nm_hasSpace T) (ki_Nm T) (km_SF_93 T) (ka_Nm_hasSpace T) (ks_Nm_hasSpace T) ⟨by decide, by decide, by rfl⟩ (rv_Nm hK hw (i := (6 * k1 + x2.toNatClampNeg)) n24 rfl) rfl (Nat.le_of_ble_eq_true rfl) ⟨by decide, by decide⟩ ⟨by decide, by decide⟩ d_SF_firstNotDeclared_66 (fun v M25 r25 H locs hw hp => ?_) (fun x ek M25 r25 H locs hw hE hp => gr_t B hexc hw hE (by decide) (by decide) (hF.trans (bnd_ex hp)))
            obtain ⟨v25, rfl, hp⟩ := hp
            have hF := hF.trans (bnd_ok hp)
            refine lv_if_ne hx hb d_SF_firstNotDeclared_69 rfl (fun h26 => ?_) (fun h26 => ?_)
            · skip
              have hF := hF.trans (if_neg h26)
              refine lv_iinc (k := 1) hx hb d_SF_firstNotDeclared_80 hl rfl (show _ + Int32.ofInt 1 = _ + 1 from rfl) (by decide) rfl (fun ls hl => ?_)
              refine lv_goto hx hb d_SF_firstNotDeclared_83 rfl ?_
              exact ih (x2 + 1) _ _ _ _ _ (gv_loc hl [0, 2] rfl) hw hF
            · skip
              have hF := hF.trans (if_pos h26)
              refine lv_aload_n hx hb d_SF_firstNotDeclared_72 rfl (lv_at hl 0 rfl) ?_
              refine gf_At_name hx hb T hown hK hw (i := (6 * k1 + x2.toNatClampNeg)) b119 rfl (kf_SF_48 T) d_SF_firstNotDeclared_73 ?_
              have n27 : 6 * k1 + x2.toNatClampNeg < 170 := Nat.lt_trans b119 (by decide)
              refine gf_Nm_start hx hb T hown hK hw (i := (6 * k1 + x2.toNatClampNeg)) n27 rfl (kf_SF_21 T) d_SF_firstNotDeclared_76 ?_
              exact gr_i B hw d_SF_firstNotDeclared_79 ⟨_, rfl, hF⟩
  have hF := F_SF_firstNotDeclared.eq_1 fu k1 M r
  refine lv_aload_n hx hb d_SF_firstNotDeclared_0 rfl (lv_at hl 1 rfl) ?_
  refine gf_El_name hx hb T hown hK hw (i := k1) b1 rfl (kf_SF_15 T) d_SF_firstNotDeclared_1 ?_
  have n28 : 145 + k1 < 170 := by have := b1; omega
  refine gy_V B hl.1 hw (t_Nm_hasPrefix G _ _ ow fu (145 + k1) n28 (nn hno hF)) (kd_Nm_hasPrefix T) (ki_Nm T) (km_SF_51 T) (ka_Nm_hasPrefix T) (ks_Nm_hasPrefix T) ⟨by decide, by decide, by rfl⟩ (rv_Nm hK hw (i := (145 + k1)) n28 rfl) rfl (Nat.le_of_ble_eq_true rfl) ⟨by decide, by decide⟩ ⟨by decide, by decide⟩ d_SF_firstNotDeclared_4 (fun v M29 r29 H locs hw hp => ?_) (fun x ek M29 r29 H locs hw hE hp => gr_t B hexc hw hE (by decide) (by decide) (hF.trans (bnd_ex hp)))
  obtain ⟨v29, rfl, hp⟩ := hp
  have hF := hF.trans (bnd_ok hp)
  refine lv_if_eq hx hb d_SF_firstNotDeclared_7 rfl (fun h30 => ?_) (fun h30 => ?_)
  · skip
    have hF := hF.trans (if_pos h30)
    refine lv_iconst (v := 0) hx hb d_SF_firstNotDeclared_28 (by decide) ?_
    refine lv_istore_n hx hb d_SF_firstNotDeclared_29 rfl hl (by decide) rfl (fun ls hl => ?_)
    exact L30 fu 0 _ _ _ _ _ (gv_loc hl [0, 2] rfl) hw hF
  · skip
    have hF := hF.trans (if_neg h30)
    refine lv_aload_n hx hb d_SF_firstNotDeclared_10 rfl (lv_at hl 1 rfl) ?_
    refine gf_El_name hx hb T hown hK hw (i := k1) b1 rfl (kf_SF_15 T) d_SF_firstNotDeclared_11 ?_
    have n31 : 145 + k1 < 170 := by have := b1; omega
    refine gy_V B hl.1 hw (t_Nm_hasSpace G _ _ ow fu (145 + k1) n31 (nn hno hF)) (kd_Nm_hasSpace T) (ki_Nm T) (km_SF_93 T) (ka_Nm_hasSpace T) (ks_Nm_hasSpace T) ⟨by decide, by decide, by rfl⟩ (rv_Nm hK hw (i := (145 + k1)) n31 rfl) rfl (Nat.le_of_ble_eq_true rfl) ⟨by decide, by decide⟩ ⟨by decide, by decide⟩ d_SF_firstNotDeclared_14 (fun v M32 r32 H locs hw hp => ?_) (fun x ek M32 r32 H locs hw hE hp => gr_t B hexc hw hE (by decide) (by decide) (hF.trans (bnd_ex hp)))
    obtain ⟨v32, rfl, hp⟩ := hp
    have hF := hF.trans (bnd_ok hp)
    refine lv_if_ne hx hb d_SF_firstNotDeclared_17 rfl (fun h33 => ?_) (fun h33 => ?_)
    · skip
      have hF := hF.trans (if_neg h33)
      refine lv_iconst (v := 0) hx hb d_SF_firstNotDeclared_28 (by decide) ?_
      refine lv_istore_n hx hb d_SF_firstNotDeclared_29 rfl hl (by decide) rfl (fun ls hl => ?_)
      exact L30 fu 0 _ _ _ _ _ (gv_loc hl [0, 2] rfl) hw hF
    · skip
      have hF := hF.trans (if_pos h33)
      refine lv_aload_n hx hb d_SF_firstNotDeclared_20 rfl (lv_at hl 1 rfl) ?_
      refine gf_El_name hx hb T hown hK hw (i := k1) b1 rfl (kf_SF_15 T) d_SF_firstNotDeclared_21 ?_
      have n34 : 145 + k1 < 170 := by have := b1; omega
      refine gf_Nm_start hx hb T hown hK hw (i := (145 + k1)) n34 rfl (kf_SF_21 T) d_SF_firstNotDeclared_24 ?_
      exact gr_i B hw d_SF_firstNotDeclared_27 ⟨_, rfl, hF⟩
set_option maxHeartbeats 4000000 in
set_option maxRecDepth 100000 in
theorem t_Tr_sameValue {l : Launch} {s0 : State} {D : va_G} {aC : Nat → ClassId} {a0 : Array Value} (G : gG l s0 D aC a0) (M : gMem) (r : gRef) (ow : Int64) (fu : Nat) (k1 : Nat) (k2 : Nat) (b1 : k1 < 145) (b2 : k2 < 145) (hno : F_Tr_sameValue fu k1 k2 M r ≠ .no) : gMet l s0 D aC y_Tr_sameValue (Cond.code y_Tr_sameValue b_Tr_sameValue 3 (some .boolean)) 2 49 0 0 [.ref (s0.heap.size + 5), .ref (s0.heap.size + oAt k1), .ref (s0.heap.size + oAt k2)] M r ow (qI (F_Tr_sameValue fu k1 k2 M r)) (qT (F_Tr_sameValue fu k1 k2 M r)) := by
  refine gm_of G (by decide) (Nat.le_of_ble_eq_true rfl) ?_
  intro p e s m below meth c ls B hexc hl hw
  have hx := B.1
  have hb := B.2.1
  have hown := B.2.2.2.2.2.1
  have T := B.2.2.2.2.2.2.1
  have hK := B.2.2.2.2.2.2.2.1
  have hF := F_Tr_sameValue.eq_1 fu k1 k2 M r
  refine lv_aload_n hx hb d_Tr_sameValue_0 rfl (lv_at hl 0 rfl) ?_
  refine gf_Tr_values hx hb T hown hK hw rfl (kf_Tr_20 T) d_Tr_sameValue_1 ?_
  refine lv_aload_n hx hb d_Tr_sameValue_4 rfl (lv_at hl 1 rfl) ?_
  refine gf_At_valueStart hx hb T hown hK hw (i := k1) b1 rfl (kf_Tr_121 T) d_Tr_sameValue_5 ?_
  refine lv_aload_n hx hb d_Tr_sameValue_8 rfl (lv_at hl 1 rfl) ?_
  refine gf_At_valueEnd hx hb T hown hK hw (i := k1) b1 rfl (kf_Tr_124 T) d_Tr_sameValue_9 ?_
  refine lv_aload_n hx hb d_Tr_sameValue_12 rfl (lv_at hl 2 rfl) ?_
  refine gf_At_valueStart hx hb T hown hK hw (i := k2) b2 rfl (kf_Tr_121 T) d_Tr_sameValue_13 ?_
  refine lv_aload_n hx hb d_Tr_sameValue_16 rfl (lv_at hl 2 rfl) ?_
  refine gf_At_valueEnd hx hb T hown hK hw (i := k2) b2 rfl (kf_Tr_124 T) d_Tr_sameValue_17 ?_
  refine gy_V B hl.1 hw (t_Row_order G _ _ ow fu 3 (M 23 k1) (M 24 k1) (M 23 k2) (M 24 k2) (by decide) (nn hno hF)) (kd_Row_order T) (ki_Row T) (km_Tr_110 T) (ka_Row_order T) (ks_Row_order T) ⟨by decide, by decide, by rfl⟩ (rv_Row hK hw (i := 3) (by decide) rfl) rfl (Nat.le_of_ble_eq_true rfl) ⟨by decide, by decide⟩ ⟨by decide, by decide⟩ d_Tr_sameValue_20 (fun v M3 r3 H locs hw hp => ?_) (fun x ek M3 r3 H locs hw hE hp => gr_t B hexc hw hE (by decide) (by decide) (hF.trans (bnd_ex hp)))
  obtain ⟨v3, rfl, hp⟩ := hp
  have hF := hF.trans (bnd_ok hp)
  refine lv_if_ne hx hb d_Tr_sameValue_23 rfl (fun h4 => ?_) (fun h4 => ?_)
  · skip
    have hF := hF.trans (if_neg h4)
    refine lv_iconst (v := 0) hx hb d_Tr_sameValue_30 (by decide) ?_
    exact gr_z B hw (by rfl) d_Tr_sameValue_31 ⟨_, rfl, hF⟩
  · skip
    have hF := hF.trans (if_pos h4)
    refine lv_iconst (v := 1) hx hb d_Tr_sameValue_26 (by decide) ?_
    refine lv_goto hx hb d_Tr_sameValue_27 rfl ?_
    exact gr_z B hw (by rfl) d_Tr_sameValue_31 ⟨_, rfl, hF⟩
set_option maxHeartbeats 4000000 in
set_option maxRecDepth 100000 in
theorem t_Tr_sameLocal {l : Launch} {s0 : State} {D : va_G} {aC : Nat → ClassId} {a0 : Array Value} (G : gG l s0 D aC a0) (M : gMem) (r : gRef) (ow : Int64) (fu : Nat) (k1 : Nat) (k2 : Nat) (b1 : k1 < 170) (b2 : k2 < 170) (hno : F_Tr_sameLocal fu k1 k2 M r ≠ .no) : gMet l s0 D aC y_Tr_sameLocal (Cond.code y_Tr_sameLocal b_Tr_sameLocal 3 (some .boolean)) 2 49 0 0 [.ref (s0.heap.size + 5), .ref (s0.heap.size + oNm k1), .ref (s0.heap.size + oNm k2)] M r ow (qI (F_Tr_sameLocal fu k1 k2 M r)) (qT (F_Tr_sameLocal fu k1 k2 M r)) := by
  refine gm_of G (by decide) (Nat.le_of_ble_eq_true rfl) ?_
  intro p e s m below meth c ls B hexc hl hw
  have hx := B.1
  have hb := B.2.1
  have hown := B.2.2.2.2.2.1
  have T := B.2.2.2.2.2.2.1
  have hK := B.2.2.2.2.2.2.2.1
  have hF := F_Tr_sameLocal.eq_1 fu k1 k2 M r
  refine lv_aload_n hx hb d_Tr_sameLocal_0 rfl (lv_at hl 0 rfl) ?_
  refine gf_Tr_text hx hb T hown hK hw rfl (kf_Tr_14 T) d_Tr_sameLocal_1 ?_
  refine lv_aload_n hx hb d_Tr_sameLocal_4 rfl (lv_at hl 1 rfl) ?_
  refine gf_Nm_local hx hb T hown hK hw (i := k1) b1 rfl (kf_Tr_118 T) d_Tr_sameLocal_5 ?_
  refine lv_aload_n hx hb d_Tr_sameLocal_8 rfl (lv_at hl 1 rfl) ?_
  refine gf_Nm_end hx hb T hown hK hw (i := k1) b1 rfl (kf_Tr_80 T) d_Tr_sameLocal_9 ?_
  refine lv_aload_n hx hb d_Tr_sameLocal_12 rfl (lv_at hl 2 rfl) ?_
  refine gf_Nm_local hx hb T hown hK hw (i := k2) b2 rfl (kf_Tr_118 T) d_Tr_sameLocal_13 ?_
  refine lv_aload_n hx hb d_Tr_sameLocal_16 rfl (lv_at hl 2 rfl) ?_
  refine gf_Nm_end hx hb T hown hK hw (i := k2) b2 rfl (kf_Tr_80 T) d_Tr_sameLocal_17 ?_
  refine gy_V B hl.1 hw (t_Row_order G _ _ ow fu 2 (M 21 k1) (M 22 k1) (M 21 k2) (M 22 k2) (by decide) (nn hno hF)) (kd_Row_order T) (ki_Row T) (km_Tr_110 T) (ka_Row_order T) (ks_Row_order T) ⟨by decide, by decide, by rfl⟩ (rv_Row hK hw (i := 2) (by decide) rfl) rfl (Nat.le_of_ble_eq_true rfl) ⟨by decide, by decide⟩ ⟨by decide, by decide⟩ d_Tr_sameLocal_20 (fun v M3 r3 H locs hw hp => ?_) (fun x ek M3 r3 H locs hw hE hp => gr_t B hexc hw hE (by decide) (by decide) (hF.trans (bnd_ex hp)))
  obtain ⟨v3, rfl, hp⟩ := hp
  have hF := hF.trans (bnd_ok hp)
  refine lv_if_ne hx hb d_Tr_sameLocal_23 rfl (fun h4 => ?_) (fun h4 => ?_)
  · skip
    have hF := hF.trans (if_neg h4)
    refine lv_iconst (v := 0) hx hb d_Tr_sameLocal_30 (by decide) ?_
    exact gr_z B hw (by rfl) d_Tr_sameLocal_31 ⟨_, rfl, hF⟩
  · skip
    have hF := hF.trans (if_pos h4)
    refine lv_iconst (v := 1) hx hb d_Tr_sameLocal_26 (by decide) ?_
    refine lv_goto hx hb d_Tr_sameLocal_27 rfl ?_
    exact gr_z B hw (by rfl) d_Tr_sameLocal_31 ⟨_, rfl, hF⟩
theorem d_SF_meanTheSame_0 : decode b_SF_meanTheSame 0 = .ok (.aload_n 1, 1) := by decide +kernel
theorem d_SF_meanTheSame_1 : decode b_SF_meanTheSame 1 = .ok (.invokevirtual 93, 3) := by decide +kernel
theorem d_SF_meanTheSame_4 : decode b_SF_meanTheSame 4 = .ok (.ifCond .eq 37, 3) := by decide +kernel
theorem d_SF_meanTheSame_7 : decode b_SF_meanTheSame 7 = .ok (.aload_n 0, 1) := by decide +kernel
theorem d_SF_meanTheSame_8 : decode b_SF_meanTheSame 8 = .ok (.getfield 9, 3) := by decide +kernel
theorem d_SF_meanTheSame_11 : decode b_SF_meanTheSame 11 = .ok (.aload_n 1, 1) := by decide +kernel
theorem d_SF_meanTheSame_12 : decode b_SF_meanTheSame 12 = .ok (.getfield 37, 3) := by decide +kernel
theorem d_SF_meanTheSame_15 : decode b_SF_meanTheSame 15 = .ok (.aload_n 2, 1) := by decide +kernel
theorem d_SF_meanTheSame_16 : decode b_SF_meanTheSame 16 = .ok (.getfield 37, 3) := by decide +kernel
theorem d_SF_meanTheSame_19 : decode b_SF_meanTheSame 19 = .ok (.invokevirtual 99, 3) := by decide +kernel
theorem d_SF_meanTheSame_22 : decode b_SF_meanTheSame 22 = .ok (.ifCond .eq 19, 3) := by decide +kernel
theorem d_SF_meanTheSame_25 : decode b_SF_meanTheSame 25 = .ok (.aload_n 0, 1) := by decide +kernel
theorem d_SF_meanTheSame_26 : decode b_SF_meanTheSame 26 = .ok (.getfield 9, 3) := by decide +kernel
theorem d_SF_meanTheSame_29 : decode b_SF_meanTheSame 29 = .ok (.aload_n 1, 1) := by decide +kernel
theorem d_SF_meanTheSame_30 : decode b_SF_meanTheSame 30 = .ok (.aload_n 2, 1) := by decide +kernel
theorem d_SF_meanTheSame_31 : decode b_SF_meanTheSame 31 = .ok (.invokevirtual 103, 3) := by decide +kernel
theorem d_SF_meanTheSame_34 : decode b_SF_meanTheSame 34 = .ok (.ifCond .eq 7, 3) := by decide +kernel
theorem d_SF_meanTheSame_37 : decode b_SF_meanTheSame 37 = .ok (.iconst 1, 1) := by decide +kernel
theorem d_SF_meanTheSame_38 : decode b_SF_meanTheSame 38 = .ok (.goto 4, 3) := by decide +kernel
theorem d_SF_meanTheSame_41 : decode b_SF_meanTheSame 41 = .ok (.iconst 0, 1) := by decide +kernel
theorem d_SF_meanTheSame_42 : decode b_SF_meanTheSame 42 = .ok (.ireturn, 1) := by decide +kernel
set_option maxHeartbeats 4000000 in
set_option maxRecDepth 100000 in
theorem t_SF_meanTheSame {l : Launch} {s0 : State} {D : va_G} {aC : Nat → ClassId} {a0 : Array Value} (G : gG l s0 D aC a0) (M : gMem) (r : gRef) (ow : Int64) (fu : Nat) (k1 : Nat) (k2 : Nat) (b1 : k1 < 170) (b2 : k2 < 170) (hno : F_SF_meanTheSame fu k1 k2 M r ≠ .no) : gMet l s0 D aC y_SF_meanTheSame (Cond.code y_SF_meanTheSame b_SF_meanTheSame 3 (some .boolean)) 3 71 0 0 [.ref (s0.heap.size + 382), .ref (s0.heap.size + oNm k1), .ref (s0.heap.size + oNm k2)] M r ow (qI (F_SF_meanTheSame fu k1 k2 M r)) (qT (F_SF_meanTheSame fu k1 k2 M r)) := by
  refine gm_of G (by decide) (Nat.le_of_ble_eq_true rfl) ?_
  intro p e s m below meth c ls B hexc hl hw
  have hx := B.1
  have hb := B.2.1
  have hown := B.2.2.2.2.2.1
  have T := B.2.2.2.2.2.2.1
  have hK := B.2.2.2.2.2.2.2.1
  have hF := F_SF_meanTheSame.eq_1 fu k1 k2 M r
  refine lv_aload_n hx hb d_SF_meanTheSame_0 rfl (lv_at hl 1 rfl) ?_
  refine gy_V B hl.1 hw (t_Nm_hasSpace G _ _ ow fu k1 b1 (nn hno hF)) (kd_Nm_hasSpace T) (ki_Nm T) (km_SF_93 T) (ka_Nm_hasSpace T) (ks_Nm_hasSpace T) ⟨by decide, by decide, by rfl⟩ (rv_Nm hK hw (i := k1) b1 rfl) rfl (Nat.le_of_ble_eq_true rfl) ⟨by decide, by decide⟩ ⟨by decide, by decide⟩ d_SF_meanTheSame_1 (fun v M10 r10 H locs hw hp => ?_) (fun x ek M10 r10 H locs hw hE hp => gr_t B hexc hw hE (by decide) (by decide) (hF.trans (bnd_ex hp)))
  obtain ⟨v10, rfl, hp⟩ := hp
  have hF := hF.trans (bnd_ok hp)
  refine lv_if_eq hx hb d_SF_meanTheSame_4 rfl (fun h11 => ?_) (fun h11 => ?_)
  · skip
    have hF := hF.trans (if_pos h11)
    refine lv_iconst (v := 0) hx hb d_SF_meanTheSame_41 (by decide) ?_
    exact gr_z B hw (by rfl) d_SF_meanTheSame_42 ⟨_, rfl, hF⟩
  · skip
    have hF := hF.trans (if_neg h11)
    refine lv_aload_n hx hb d_SF_meanTheSame_7 rfl (lv_at hl 0 rfl) ?_
    refine gf_SF_tree hx hb T hown hK hw rfl (kf_SF_9 T) d_SF_meanTheSame_8 ?_
    refine lv_aload_n hx hb d_SF_meanTheSame_11 rfl (lv_at hl 1 rfl) ?_
    refine gf_Nm_space hx hb T hown hK hw (i := k1) b1 rfl (kf_SF_37 T) d_SF_meanTheSame_12 ?_
    rcases hq12 : r10 0 k1 with _ | k_12
    · skip
      have hF := hF.trans (gcs_none hq12)
      refine lv_aload_n hx hb d_SF_meanTheSame_15 rfl (lv_at hl 2 rfl) ?_
      refine gf_Nm_space hx hb T hown hK hw (i := k2) b2 rfl (kf_SF_37 T) d_SF_meanTheSame_16 ?_
      rcases hq13 : r10 0 k2 with _ | k_13
      · skip
        have hF := hF.trans (gcs_none hq13)
        exact absurd hF hno
      · skip
        have hF := hF.trans (gcs_some hq13)
        have b_13 := ng hno hF
        have hF := hF.trans (gd_yes b_13)
        exact absurd hF hno
    · skip
      have hF := hF.trans (gcs_some hq12)
      have b_12 := ng hno hF
      have hF := hF.trans (gd_yes b_12)
      refine lv_aload_n hx hb d_SF_meanTheSame_15 rfl (lv_at hl 2 rfl) ?_
      refine gf_Nm_space hx hb T hown hK hw (i := k2) b2 rfl (kf_SF_37 T) d_SF_meanTheSame_16 ?_
      rcases hq14 : r10 0 k2 with _ | k_14
      · skip
        have hF := hF.trans (gcs_none hq14)
        exact absurd hF hno
      · skip
        have hF := hF.trans (gcs_some hq14)
        have b_14 := ng hno hF
        have hF := hF.trans (gd_yes b_14)
        refine gy_V B hl.1 hw (t_Tr_sameValue G _ _ ow fu k_12 k_14 b_12 b_14 (nn hno hF)) (kd_Tr_sameValue T) (ki_Tr T) (km_SF_99 T) (ka_Tr_sameValue T) (ks_Tr_sameValue T) ⟨by decide, by decide, by rfl⟩ (rv_Tr hK hw rfl) rfl (Nat.le_of_ble_eq_true rfl) ⟨by decide, by decide⟩ ⟨by decide, by decide⟩ d_SF_meanTheSame_19 (fun v M15 r15 H locs hw hp => ?_) (fun x ek M15 r15 H locs hw hE hp => gr_t B hexc hw hE (by decide) (by decide) (hF.trans (bnd_ex hp)))
        obtain ⟨v15, rfl, hp⟩ := hp
        have hF := hF.trans (bnd_ok hp)
        refine lv_if_eq hx hb d_SF_meanTheSame_22 rfl (fun h16 => ?_) (fun h16 => ?_)
        · skip
          have hF := hF.trans (if_pos h16)
          refine lv_iconst (v := 0) hx hb d_SF_meanTheSame_41 (by decide) ?_
          exact gr_z B hw (by rfl) d_SF_meanTheSame_42 ⟨_, rfl, hF⟩
        · skip
          have hF := hF.trans (if_neg h16)
          refine lv_aload_n hx hb d_SF_meanTheSame_25 rfl (lv_at hl 0 rfl) ?_
          refine gf_SF_tree hx hb T hown hK hw rfl (kf_SF_9 T) d_SF_meanTheSame_26 ?_
          refine lv_aload_n hx hb d_SF_meanTheSame_29 rfl (lv_at hl 1 rfl) ?_
          refine lv_aload_n hx hb d_SF_meanTheSame_30 rfl (lv_at hl 2 rfl) ?_
          refine gy_V B hl.1 hw (t_Tr_sameLocal G _ _ ow fu k1 k2 b1 b2 (nn hno hF)) (kd_Tr_sameLocal T) (ki_Tr T) (km_SF_103 T) (ka_Tr_sameLocal T) (ks_Tr_sameLocal T) ⟨by decide, by decide, by rfl⟩ (rv_Tr hK hw rfl) rfl (Nat.le_of_ble_eq_true rfl) ⟨by decide, by decide⟩ ⟨by decide, by decide⟩ d_SF_meanTheSame_31 (fun v M17 r17 H locs hw hp => ?_) (fun x ek M17 r17 H locs hw hE hp => gr_t B hexc hw hE (by decide) (by decide) (hF.trans (bnd_ex hp)))
          obtain ⟨v17, rfl, hp⟩ := hp
          have hF := hF.trans (bnd_ok hp)
          refine lv_if_eq hx hb d_SF_meanTheSame_34 rfl (fun h18 => ?_) (fun h18 => ?_)
          · skip
            have hF := hF.trans (if_pos h18)
            refine lv_iconst (v := 0) hx hb d_SF_meanTheSame_41 (by decide) ?_
            exact gr_z B hw (by rfl) d_SF_meanTheSame_42 ⟨_, rfl, hF⟩
          · skip
            have hF := hF.trans (if_neg h18)
            refine lv_iconst (v := 1) hx hb d_SF_meanTheSame_37 (by decide) ?_
            refine lv_goto hx hb d_SF_meanTheSame_38 rfl ?_
            exact gr_z B hw (by rfl) d_SF_meanTheSame_42 ⟨_, rfl, hF⟩
theorem d_SF_firstTwiceInSpace_0 : decode b_SF_firstTwiceInSpace 0 = .ok (.iconst 0, 1) := by decide +kernel
theorem d_SF_firstTwiceInSpace_1 : decode b_SF_firstTwiceInSpace 1 = .ok (.istore_n 2, 1) := by decide +kernel
theorem d_SF_firstTwiceInSpace_2 : decode b_SF_firstTwiceInSpace 2 = .ok (.iload_n 2, 1) := by decide +kernel
theorem d_SF_firstTwiceInSpace_3 : decode b_SF_firstTwiceInSpace 3 = .ok (.aload_n 1, 1) := by decide +kernel
theorem d_SF_firstTwiceInSpace_4 : decode b_SF_firstTwiceInSpace 4 = .ok (.getfield 41, 3) := by decide +kernel
theorem d_SF_firstTwiceInSpace_7 : decode b_SF_firstTwiceInSpace 7 = .ok (.if_icmp .ge 57, 3) := by decide +kernel
theorem d_SF_firstTwiceInSpace_10 : decode b_SF_firstTwiceInSpace 10 = .ok (.aload_n 1, 1) := by decide +kernel
theorem d_SF_firstTwiceInSpace_11 : decode b_SF_firstTwiceInSpace 11 = .ok (.getfield 44, 3) := by decide +kernel
theorem d_SF_firstTwiceInSpace_14 : decode b_SF_firstTwiceInSpace 14 = .ok (.iload_n 2, 1) := by decide +kernel
theorem d_SF_firstTwiceInSpace_15 : decode b_SF_firstTwiceInSpace 15 = .ok (.aaload, 1) := by decide +kernel
theorem d_SF_firstTwiceInSpace_16 : decode b_SF_firstTwiceInSpace 16 = .ok (.getfield 48, 3) := by decide +kernel
theorem d_SF_firstTwiceInSpace_19 : decode b_SF_firstTwiceInSpace 19 = .ok (.astore_n 3, 1) := by decide +kernel
theorem d_SF_firstTwiceInSpace_20 : decode b_SF_firstTwiceInSpace 20 = .ok (.iconst 0, 1) := by decide +kernel
theorem d_SF_firstTwiceInSpace_21 : decode b_SF_firstTwiceInSpace 21 = .ok (.istore 4, 2) := by decide +kernel
theorem d_SF_firstTwiceInSpace_23 : decode b_SF_firstTwiceInSpace 23 = .ok (.iload 4, 2) := by decide +kernel
theorem d_SF_firstTwiceInSpace_25 : decode b_SF_firstTwiceInSpace 25 = .ok (.iload_n 2, 1) := by decide +kernel
theorem d_SF_firstTwiceInSpace_26 : decode b_SF_firstTwiceInSpace 26 = .ok (.if_icmp .ge 32, 3) := by decide +kernel
theorem d_SF_firstTwiceInSpace_29 : decode b_SF_firstTwiceInSpace 29 = .ok (.aload_n 0, 1) := by decide +kernel
theorem d_SF_firstTwiceInSpace_30 : decode b_SF_firstTwiceInSpace 30 = .ok (.aload_n 1, 1) := by decide +kernel
theorem d_SF_firstTwiceInSpace_31 : decode b_SF_firstTwiceInSpace 31 = .ok (.getfield 44, 3) := by decide +kernel
theorem d_SF_firstTwiceInSpace_34 : decode b_SF_firstTwiceInSpace 34 = .ok (.iload 4, 2) := by decide +kernel
theorem d_SF_firstTwiceInSpace_36 : decode b_SF_firstTwiceInSpace 36 = .ok (.aaload, 1) := by decide +kernel
theorem d_SF_firstTwiceInSpace_37 : decode b_SF_firstTwiceInSpace 37 = .ok (.getfield 48, 3) := by decide +kernel
theorem d_SF_firstTwiceInSpace_40 : decode b_SF_firstTwiceInSpace 40 = .ok (.aload_n 3, 1) := by decide +kernel
theorem d_SF_firstTwiceInSpace_41 : decode b_SF_firstTwiceInSpace 41 = .ok (.invokevirtual 96, 3) := by decide +kernel
theorem d_SF_firstTwiceInSpace_44 : decode b_SF_firstTwiceInSpace 44 = .ok (.ifCond .eq 8, 3) := by decide +kernel
theorem d_SF_firstTwiceInSpace_47 : decode b_SF_firstTwiceInSpace 47 = .ok (.aload_n 3, 1) := by decide +kernel
theorem d_SF_firstTwiceInSpace_48 : decode b_SF_firstTwiceInSpace 48 = .ok (.getfield 21, 3) := by decide +kernel
theorem d_SF_firstTwiceInSpace_51 : decode b_SF_firstTwiceInSpace 51 = .ok (.ireturn, 1) := by decide +kernel
theorem d_SF_firstTwiceInSpace_52 : decode b_SF_firstTwiceInSpace 52 = .ok (.iinc 4 1, 3) := by decide +kernel
theorem d_SF_firstTwiceInSpace_55 : decode b_SF_firstTwiceInSpace 55 = .ok (.goto (-32), 3) := by decide +kernel
theorem d_SF_firstTwiceInSpace_58 : decode b_SF_firstTwiceInSpace 58 = .ok (.iinc 2 1, 3) := by decide +kernel
theorem d_SF_firstTwiceInSpace_61 : decode b_SF_firstTwiceInSpace 61 = .ok (.goto (-59), 3) := by decide +kernel
theorem d_SF_firstTwiceInSpace_64 : decode b_SF_firstTwiceInSpace 64 = .ok (.iconst (-1), 1) := by decide +kernel
theorem d_SF_firstTwiceInSpace_65 : decode b_SF_firstTwiceInSpace 65 = .ok (.ireturn, 1) := by decide +kernel
set_option maxHeartbeats 4000000 in
set_option maxRecDepth 100000 in
theorem t_SF_firstTwiceInSpace {l : Launch} {s0 : State} {D : va_G} {aC : Nat → ClassId} {a0 : Array Value} (G : gG l s0 D aC a0) (M : gMem) (r : gRef) (ow : Int64) (fu : Nat) (k1 : Nat) (b1 : k1 < 24) (hno : F_SF_firstTwiceInSpace fu k1 M r ≠ .no) : gMet l s0 D aC y_SF_firstTwiceInSpace (Cond.code y_SF_firstTwiceInSpace b_SF_firstTwiceInSpace 5 (some .int)) 4 93 0 0 [.ref (s0.heap.size + 382), .ref (s0.heap.size + oEl k1)] M r ow (qI (F_SF_firstTwiceInSpace fu k1 M r)) (qT (F_SF_firstTwiceInSpace fu k1 M r)) := by
  refine gm_of G (by decide) (Nat.le_of_ble_eq_true rfl) ?_
  intro p e s m below meth c ls B hexc hl hw
  have hx := B.1
  have hb := B.2.1
  have hown := B.2.2.2.2.2.1
  have T := B.2.2.2.2.2.2.1
  have hK := B.2.2.2.2.2.2.2.1
  have X64 : ∀ (M1 : gMem) (r1 : gRef) (H : Heap) (locs : List Loc) (ls : Array Slot), lv_has ls 5 [] → gWd s0 D aC M1 r1 ow H locs → F_SF_firstTwiceInSpace fu k1 M r = F_SF_firstTwiceInSpace_B64 fu k1 M1 r1 → W p l e (gRm 4 93 0 0) s m ([.ref (s0.heap.size + 382), .ref (s0.heap.size + oEl k1)] : List Value).toArray below meth c H locs 0 0 (gt_Q below (gQ s0 D aC ow (qI (F_SF_firstTwiceInSpace fu k1 M r)) (qT (F_SF_firstTwiceInSpace fu k1 M r))) s 0 0 0 0 (fun q => s0.heap.size ≤ q)) (F0 m 64 ls []) := by
    intro  M1 r1 H locs ls hl hw hF
    have hF := hF.trans (F_SF_firstTwiceInSpace_B64.eq_1 _ _ _ _)
    refine lv_iconst (v := -1) hx hb d_SF_firstTwiceInSpace_64 (by decide) ?_
    exact gr_i B hw d_SF_firstTwiceInSpace_65 ⟨_, rfl, hF⟩
  have L2 : ∀ (d : Nat) (x2 : Int32) (M1 : gMem) (r1 : gRef) (H : Heap) (locs : List Loc) (ls : Array Slot), lv_has ls 5 [(2, .int x2), (0, .ref (s0.heap.size + 382)), (1, .ref (s0.heap.size + oEl k1))] → gWd s0 D aC M1 r1 ow H locs → F_SF_firstTwiceInSpace fu k1 M r = F_SF_firstTwiceInSpace_L2 fu k1 d x2 M1 r1 → W p l e (gRm 4 93 0 0) s m ([.ref (s0.heap.size + 382), .ref (s0.heap.size + oEl k1)] : List Value).toArray below meth c H locs 0 0 (gt_Q below (gQ s0 D aC ow (qI (F_SF_firstTwiceInSpace fu k1 M r)) (qT (F_SF_firstTwiceInSpace fu k1 M r))) s 0 0 0 0 (fun q => s0.heap.size ≤ q)) (F0 m 2 ls []) := by
    intro d
    induction d with
    | zero => intro x2 M1 r1 H locs ls hl hw hF; exact absurd hF hno
    | succ d ih =>
      intro x2 M1 r1 H locs ls hl hw hF
      have hF := hF.trans (F_SF_firstTwiceInSpace_L2.eq_2 _ _ _ _ _ _)
      refine lv_iload_n hx hb d_SF_firstTwiceInSpace_2 rfl (lv_at hl 0 rfl) ?_
      refine lv_aload_n hx hb d_SF_firstTwiceInSpace_3 rfl (lv_at hl 2 rfl) ?_
      refine gf_El_attributeCount hx hb T hown hK hw (i := k1) b1 rfl (kf_SF_41 T) d_SF_firstTwiceInSpace_4 ?_
      refine lv_icmp_ge hx hb d_SF_firstTwiceInSpace_7 rfl (fun h10 => ?_) (fun h10 => ?_)
      · skip
        have hF := hF.trans (if_pos h10)
        exact X64  _ _ _ _ _ (gv_loc hl [] rfl) hw hF
      · skip
        have hF := hF.trans (if_neg h10)
        refine lv_aload_n hx hb d_SF_firstTwiceInSpace_10 rfl (lv_at hl 2 rfl) ?_
        refine gf_El_attributes hx hb T hown hK hw (i := k1) b1 rfl (kf_SF_44 T) d_SF_firstTwiceInSpace_11 ?_
        refine lv_iload_n hx hb d_SF_firstTwiceInSpace_14 rfl (lv_at hl 0 rfl) ?_
        have g11 := ng hno hF
        have hF := hF.trans (gd_yes g11)
        refine ga_as hx hb hK hw (i := k1) b1 rfl g11 d_SF_firstTwiceInSpace_15 ?_
        have b111 : 6 * k1 + x2.toNatClampNeg < 145 := by have := vin_lt g11; have := b1; omega
        refine gf_At_name hx hb T hown hK hw (i := (6 * k1 + x2.toNatClampNeg)) b111 rfl (kf_SF_48 T) d_SF_firstTwiceInSpace_16 ?_
        have n12 : 6 * k1 + x2.toNatClampNeg < 170 := Nat.lt_trans b111 (by decide)
        refine lv_astore_n hx hb d_SF_firstTwiceInSpace_19 rfl hl (by decide) rfl (fun ls hl => ?_)
        refine lv_iconst (v := 0) hx hb d_SF_firstTwiceInSpace_20 (by decide) ?_
        refine lv_istore hx hb d_SF_firstTwiceInSpace_21 hl (by decide) rfl (fun ls hl => ?_)
        have I23 : ∀ (d2 : Nat) (x4 : Int32) (M1 : gMem) (r1 : gRef) (H : Heap) (locs : List Loc) (ls : Array Slot), lv_has ls 5 [(0, .ref (s0.heap.size + 382)), (1, .ref (s0.heap.size + oEl k1)), (2, .int x2), (3, .ref (s0.heap.size + oNm (6 * k1 + x2.toNatClampNeg))), (4, .int x4)] → gWd s0 D aC M1 r1 ow H locs → F_SF_firstTwiceInSpace fu k1 M r = gO.bnd (F_SF_firstTwiceInSpace_I23 fu k1 d2 x2 (6 * k1 + x2.toNatClampNeg) x4 M1 r1) (fun s18 M18 r18 => gsm s18 (fun v => .ok v M18 r18) (fun _ => F_SF_firstTwiceInSpace_L2 fu k1 d (x2 + 1) M18 r18)) → W p l e (gRm 4 93 0 0) s m ([.ref (s0.heap.size + 382), .ref (s0.heap.size + oEl k1)] : List Value).toArray below meth c H locs 0 0 (gt_Q below (gQ s0 D aC ow (qI (F_SF_firstTwiceInSpace fu k1 M r)) (qT (F_SF_firstTwiceInSpace fu k1 M r))) s 0 0 0 0 (fun q => s0.heap.size ≤ q)) (F0 m 23 ls []) := by
          intro d2
          induction d2 with
          | zero => intro x4 M1 r1 H locs ls hl hw hF; exact absurd hF hno
          | succ d2 ih2 =>
            intro x4 M1 r1 H locs ls hl hw hF
            have hF := hF.trans (bnc (F_SF_firstTwiceInSpace_I23.eq_2 _ _ _ _ _ _ _ _))
            refine lv_iload hx hb d_SF_firstTwiceInSpace_23 (lv_at hl 4 rfl) ?_
            refine lv_iload_n hx hb d_SF_firstTwiceInSpace_25 rfl (lv_at hl 2 rfl) ?_
            refine lv_icmp_ge hx hb d_SF_firstTwiceInSpace_26 rfl (fun h19 => ?_) (fun h19 => ?_)
            · skip
              have hF := hF.trans (bnc (if_pos h19))
              have hF := hF.trans (show _ = F_SF_firstTwiceInSpace_L2 fu k1 d (x2 + 1) M1 r1 from rfl)
              refine lv_iinc (k := 2) hx hb d_SF_firstTwiceInSpace_58 hl rfl (show _ + Int32.ofInt 1 = _ + 1 from rfl) (by decide) rfl (fun ls hl => ?_)
              refine lv_goto hx hb d_SF_firstTwiceInSpace_61 rfl ?_
              exact ih (x2 + 1) _ _ _ _ _ (gv_loc hl [0, 1, 2] rfl) hw hF
            · skip
              have hF := hF.trans (bnc (if_neg h19))
              refine lv_aload_n hx hb d_SF_firstTwiceInSpace_29 rfl (lv_at hl 0 rfl) ?_
              refine lv_aload_n hx hb d_SF_firstTwiceInSpace_30 rfl (lv_at hl 1 rfl) ?_
              refine gf_El_attributes hx hb T hown hK hw (i := k1) b1 rfl (kf_SF_44 T) d_SF_firstTwiceInSpace_31 ?_
              refine lv_iload hx hb d_SF_firstTwiceInSpace_34 (lv_at hl 4 rfl) ?_
              have g20 := ng2 hno hF
              have hF := hF.trans (bnc (gd_yes g20))
              refine ga_as hx hb hK hw (i := k1) b1 rfl g20 d_SF_firstTwiceInSpace_36 ?_
              have b120 : 6 * k1 + x4.toNatClampNeg < 145 := by have := vin_lt g20; have := b1; omega
              refine gf_At_name hx hb T hown hK hw (i := (6 * k1 + x4.toNatClampNeg)) b120 rfl (kf_SF_48 T) d_SF_firstTwiceInSpace_37 ?_
              have n21 : 6 * k1 + x4.toNatClampNeg < 170 := Nat.lt_trans b120 (by decide)
              refine lv_aload_n hx hb d_SF_firstTwiceInSpace_40 rfl (lv_at hl 3 rfl) ?_
              refine gy_V B hl.1 hw (t_SF_meanTheSame G _ _ ow fu (6 * k1 + x4.toNatClampNeg) (6 * k1 + x2.toNatClampNeg) n21 n12 (nn2 hno hF)) (kd_SF_meanTheSame T) (ki_SF T) (km_SF_96 T) (ka_SF_meanTheSame T) (ks_SF_meanTheSame T) ⟨by decide, by decide, by rfl⟩ (rv_SF hK hw rfl) rfl (Nat.le_of_ble_eq_true rfl) ⟨by decide, by decide⟩ ⟨by decide, by decide⟩ d_SF_firstTwiceInSpace_41 (fun v M22 r22 H locs hw hp => ?_) (fun x ek M22 r22 H locs hw hE hp => gr_t B hexc hw hE (by decide) (by decide) (hF.trans (bnc (bnd_ex hp))))
              obtain ⟨v22, rfl, hp⟩ := hp
              have hF := hF.trans (bnc (bnd_ok hp))
              refine lv_if_eq hx hb d_SF_firstTwiceInSpace_44 rfl (fun h23 => ?_) (fun h23 => ?_)
              · skip
                have hF := hF.trans (bnc (if_pos h23))
                refine lv_iinc (k := 4) hx hb d_SF_firstTwiceInSpace_52 hl rfl (show _ + Int32.ofInt 1 = _ + 1 from rfl) (by decide) rfl (fun ls hl => ?_)
                refine lv_goto hx hb d_SF_firstTwiceInSpace_55 rfl ?_
                exact ih2 (x4 + 1) _ _ _ _ _ (gv_loc hl [1, 2, 3, 4, 0] rfl) hw hF
              · skip
                have hF := hF.trans (bnc (if_neg h23))
                refine lv_aload_n hx hb d_SF_firstTwiceInSpace_47 rfl (lv_at hl 3 rfl) ?_
                refine gf_Nm_start hx hb T hown hK hw (i := (6 * k1 + x2.toNatClampNeg)) n12 rfl (kf_SF_21 T) d_SF_firstTwiceInSpace_48 ?_
                exact gr_i B hw d_SF_firstTwiceInSpace_51 ⟨_, rfl, hF⟩
        exact I23 fu 0 _ _ _ _ _ (gv_loc hl [3, 4, 2, 1, 0] rfl) hw hF
  have hF := F_SF_firstTwiceInSpace.eq_1 fu k1 M r
  refine lv_iconst (v := 0) hx hb d_SF_firstTwiceInSpace_0 (by decide) ?_
  refine lv_istore_n hx hb d_SF_firstTwiceInSpace_1 rfl hl (by decide) rfl (fun ls hl => ?_)
  exact L2 fu 0 _ _ _ _ _ (gv_loc hl [0, 1, 2] rfl) hw hF
theorem d_FW_comesBefore_0 : decode b_FW_comesBefore 0 = .ok (.aload_n 1, 1) := by decide +kernel
theorem d_FW_comesBefore_1 : decode b_FW_comesBefore 1 = .ok (.getfield 42, 3) := by decide +kernel
theorem d_FW_comesBefore_4 : decode b_FW_comesBefore 4 = .ok (.aload_n 2, 1) := by decide +kernel
theorem d_FW_comesBefore_5 : decode b_FW_comesBefore 5 = .ok (.getfield 42, 3) := by decide +kernel
theorem d_FW_comesBefore_8 : decode b_FW_comesBefore 8 = .ok (.if_icmp .eq 8, 3) := by decide +kernel
theorem d_FW_comesBefore_11 : decode b_FW_comesBefore 11 = .ok (.aload_n 1, 1) := by decide +kernel
theorem d_FW_comesBefore_12 : decode b_FW_comesBefore 12 = .ok (.getfield 42, 3) := by decide +kernel
theorem d_FW_comesBefore_15 : decode b_FW_comesBefore 15 = .ok (.ireturn, 1) := by decide +kernel
theorem d_FW_comesBefore_16 : decode b_FW_comesBefore 16 = .ok (.aload_n 1, 1) := by decide +kernel
theorem d_FW_comesBefore_17 : decode b_FW_comesBefore 17 = .ok (.getfield 42, 3) := by decide +kernel
theorem d_FW_comesBefore_20 : decode b_FW_comesBefore 20 = .ok (.ifCond .eq 44, 3) := by decide +kernel
theorem d_FW_comesBefore_23 : decode b_FW_comesBefore 23 = .ok (.aload_n 0, 1) := by decide +kernel
theorem d_FW_comesBefore_24 : decode b_FW_comesBefore 24 = .ok (.getfield 30, 3) := by decide +kernel
theorem d_FW_comesBefore_27 : decode b_FW_comesBefore 27 = .ok (.getfield 108, 3) := by decide +kernel
theorem d_FW_comesBefore_30 : decode b_FW_comesBefore 30 = .ok (.aload_n 1, 1) := by decide +kernel
theorem d_FW_comesBefore_31 : decode b_FW_comesBefore 31 = .ok (.invokevirtual 85, 3) := by decide +kernel
theorem d_FW_comesBefore_34 : decode b_FW_comesBefore 34 = .ok (.aload_n 1, 1) := by decide +kernel
theorem d_FW_comesBefore_35 : decode b_FW_comesBefore 35 = .ok (.getfield 89, 3) := by decide +kernel
theorem d_FW_comesBefore_38 : decode b_FW_comesBefore 38 = .ok (.getfield 90, 3) := by decide +kernel
theorem d_FW_comesBefore_41 : decode b_FW_comesBefore 41 = .ok (.aload_n 2, 1) := by decide +kernel
theorem d_FW_comesBefore_42 : decode b_FW_comesBefore 42 = .ok (.invokevirtual 85, 3) := by decide +kernel
theorem d_FW_comesBefore_45 : decode b_FW_comesBefore 45 = .ok (.aload_n 2, 1) := by decide +kernel
theorem d_FW_comesBefore_46 : decode b_FW_comesBefore 46 = .ok (.getfield 89, 3) := by decide +kernel
theorem d_FW_comesBefore_49 : decode b_FW_comesBefore 49 = .ok (.getfield 90, 3) := by decide +kernel
theorem d_FW_comesBefore_52 : decode b_FW_comesBefore 52 = .ok (.invokevirtual 111, 3) := by decide +kernel
theorem d_FW_comesBefore_55 : decode b_FW_comesBefore 55 = .ok (.ifCond .ge 7, 3) := by decide +kernel
theorem d_FW_comesBefore_58 : decode b_FW_comesBefore 58 = .ok (.iconst 1, 1) := by decide +kernel
theorem d_FW_comesBefore_59 : decode b_FW_comesBefore 59 = .ok (.goto 4, 3) := by decide +kernel
theorem d_FW_comesBefore_62 : decode b_FW_comesBefore 62 = .ok (.iconst 0, 1) := by decide +kernel
theorem d_FW_comesBefore_63 : decode b_FW_comesBefore 63 = .ok (.ireturn, 1) := by decide +kernel
theorem d_FW_comesBefore_64 : decode b_FW_comesBefore 64 = .ok (.aload_n 1, 1) := by decide +kernel
theorem d_FW_comesBefore_65 : decode b_FW_comesBefore 65 = .ok (.getfield 89, 3) := by decide +kernel
theorem d_FW_comesBefore_68 : decode b_FW_comesBefore 68 = .ok (.getfield 115, 3) := by decide +kernel
theorem d_FW_comesBefore_71 : decode b_FW_comesBefore 71 = .ok (.astore_n 3, 1) := by decide +kernel
theorem d_FW_comesBefore_72 : decode b_FW_comesBefore 72 = .ok (.aload_n 2, 1) := by decide +kernel
theorem d_FW_comesBefore_73 : decode b_FW_comesBefore 73 = .ok (.getfield 89, 3) := by decide +kernel
theorem d_FW_comesBefore_76 : decode b_FW_comesBefore 76 = .ok (.getfield 115, 3) := by decide +kernel
theorem d_FW_comesBefore_79 : decode b_FW_comesBefore 79 = .ok (.astore 4, 2) := by decide +kernel
theorem d_FW_comesBefore_81 : decode b_FW_comesBefore 81 = .ok (.aload_n 0, 1) := by decide +kernel
theorem d_FW_comesBefore_82 : decode b_FW_comesBefore 82 = .ok (.getfield 30, 3) := by decide +kernel
theorem d_FW_comesBefore_85 : decode b_FW_comesBefore 85 = .ok (.getfield 119, 3) := by decide +kernel
theorem d_FW_comesBefore_88 : decode b_FW_comesBefore 88 = .ok (.aload_n 3, 1) := by decide +kernel
theorem d_FW_comesBefore_89 : decode b_FW_comesBefore 89 = .ok (.getfield 122, 3) := by decide +kernel
theorem d_FW_comesBefore_92 : decode b_FW_comesBefore 92 = .ok (.aload_n 3, 1) := by decide +kernel
theorem d_FW_comesBefore_93 : decode b_FW_comesBefore 93 = .ok (.getfield 125, 3) := by decide +kernel
theorem d_FW_comesBefore_96 : decode b_FW_comesBefore 96 = .ok (.aload 4, 2) := by decide +kernel
theorem d_FW_comesBefore_98 : decode b_FW_comesBefore 98 = .ok (.getfield 122, 3) := by decide +kernel
theorem d_FW_comesBefore_101 : decode b_FW_comesBefore 101 = .ok (.aload 4, 2) := by decide +kernel
theorem d_FW_comesBefore_103 : decode b_FW_comesBefore 103 = .ok (.getfield 125, 3) := by decide +kernel
theorem d_FW_comesBefore_106 : decode b_FW_comesBefore 106 = .ok (.invokevirtual 111, 3) := by decide +kernel
theorem d_FW_comesBefore_109 : decode b_FW_comesBefore 109 = .ok (.istore 5, 2) := by decide +kernel
theorem d_FW_comesBefore_111 : decode b_FW_comesBefore 111 = .ok (.iload 5, 2) := by decide +kernel
theorem d_FW_comesBefore_113 : decode b_FW_comesBefore 113 = .ok (.ifCond .eq 14, 3) := by decide +kernel
theorem d_FW_comesBefore_116 : decode b_FW_comesBefore 116 = .ok (.iload 5, 2) := by decide +kernel
theorem d_FW_comesBefore_118 : decode b_FW_comesBefore 118 = .ok (.ifCond .ge 7, 3) := by decide +kernel
theorem d_FW_comesBefore_121 : decode b_FW_comesBefore 121 = .ok (.iconst 1, 1) := by decide +kernel
theorem d_FW_comesBefore_122 : decode b_FW_comesBefore 122 = .ok (.goto 4, 3) := by decide +kernel
theorem d_FW_comesBefore_125 : decode b_FW_comesBefore 125 = .ok (.iconst 0, 1) := by decide +kernel
theorem d_FW_comesBefore_126 : decode b_FW_comesBefore 126 = .ok (.ireturn, 1) := by decide +kernel
theorem d_FW_comesBefore_127 : decode b_FW_comesBefore 127 = .ok (.aload_n 0, 1) := by decide +kernel
theorem d_FW_comesBefore_128 : decode b_FW_comesBefore 128 = .ok (.getfield 30, 3) := by decide +kernel
theorem d_FW_comesBefore_131 : decode b_FW_comesBefore 131 = .ok (.getfield 108, 3) := by decide +kernel
theorem d_FW_comesBefore_134 : decode b_FW_comesBefore 134 = .ok (.aload_n 1, 1) := by decide +kernel
theorem d_FW_comesBefore_135 : decode b_FW_comesBefore 135 = .ok (.getfield 89, 3) := by decide +kernel
theorem d_FW_comesBefore_138 : decode b_FW_comesBefore 138 = .ok (.getfield 128, 3) := by decide +kernel
theorem d_FW_comesBefore_141 : decode b_FW_comesBefore 141 = .ok (.aload_n 1, 1) := by decide +kernel
theorem d_FW_comesBefore_142 : decode b_FW_comesBefore 142 = .ok (.getfield 89, 3) := by decide +kernel
theorem d_FW_comesBefore_145 : decode b_FW_comesBefore 145 = .ok (.getfield 90, 3) := by decide +kernel
theorem d_FW_comesBefore_148 : decode b_FW_comesBefore 148 = .ok (.aload_n 2, 1) := by decide +kernel
theorem d_FW_comesBefore_149 : decode b_FW_comesBefore 149 = .ok (.getfield 89, 3) := by decide +kernel
theorem d_FW_comesBefore_152 : decode b_FW_comesBefore 152 = .ok (.getfield 128, 3) := by decide +kernel
theorem d_FW_comesBefore_155 : decode b_FW_comesBefore 155 = .ok (.aload_n 2, 1) := by decide +kernel
theorem d_FW_comesBefore_156 : decode b_FW_comesBefore 156 = .ok (.getfield 89, 3) := by decide +kernel
theorem d_FW_comesBefore_159 : decode b_FW_comesBefore 159 = .ok (.getfield 90, 3) := by decide +kernel
theorem d_FW_comesBefore_162 : decode b_FW_comesBefore 162 = .ok (.invokevirtual 111, 3) := by decide +kernel
theorem d_FW_comesBefore_165 : decode b_FW_comesBefore 165 = .ok (.ifCond .ge 7, 3) := by decide +kernel
theorem d_FW_comesBefore_168 : decode b_FW_comesBefore 168 = .ok (.iconst 1, 1) := by decide +kernel
theorem d_FW_comesBefore_169 : decode b_FW_comesBefore 169 = .ok (.goto 4, 3) := by decide +kernel
theorem d_FW_comesBefore_172 : decode b_FW_comesBefore 172 = .ok (.iconst 0, 1) := by decide +kernel
theorem d_FW_comesBefore_173 : decode b_FW_comesBefore 173 = .ok (.ireturn, 1) := by decide +kernel
set_option maxHeartbeats 4000000 in
set_option maxRecDepth 100000 in
theorem t_FW_comesBefore {l : Launch} {s0 : State} {D : va_G} {aC : Nat → ClassId} {a0 : Array Value} (G : gG l s0 D aC a0) (M : gMem) (r : gRef) (ow : Int64) (fu : Nat) (k1 : Nat) (k2 : Nat) (b1 : k1 < 145) (b2 : k2 < 145) (hno : F_FW_comesBefore fu k1 k2 M r ≠ .no) : gMet l s0 D aC y_FW_comesBefore (Cond.code y_FW_comesBefore b_FW_comesBefore 6 (some .boolean)) 2 49 0 0 [.ref (s0.heap.size + 376), .ref (s0.heap.size + oAt k1), .ref (s0.heap.size + oAt k2)] M r ow (qI (F_FW_comesBefore fu k1 k2 M r)) (qT (F_FW_comesBefore fu k1 k2 M r)) := by
  refine gm_of G (by decide) (Nat.le_of_ble_eq_true rfl) ?_
  intro p e s m below meth c ls B hexc hl hw
  have hx := B.1
  have hb := B.2.1
  have hown := B.2.2.2.2.2.1
  have T := B.2.2.2.2.2.2.1
  have hK := B.2.2.2.2.2.2.2.1
  have hF := F_FW_comesBefore.eq_1 fu k1 k2 M r
  refine lv_aload_n hx hb d_FW_comesBefore_0 rfl (lv_at hl 1 rfl) ?_
  refine gf_At_isDeclaration hx hb T hown hK hw (i := k1) b1 rfl (kf_FW_42 T) d_FW_comesBefore_1 ?_
  refine lv_aload_n hx hb d_FW_comesBefore_4 rfl (lv_at hl 2 rfl) ?_
  refine gf_At_isDeclaration hx hb T hown hK hw (i := k2) b2 rfl (kf_FW_42 T) d_FW_comesBefore_5 ?_
  refine lv_icmp_eq hx hb d_FW_comesBefore_8 rfl (fun h25 => ?_) (fun h25 => ?_)
  · skip
    have hF := hF.trans (if_pos h25)
    refine lv_aload_n hx hb d_FW_comesBefore_16 rfl (lv_at hl 1 rfl) ?_
    refine gf_At_isDeclaration hx hb T hown hK hw (i := k1) b1 rfl (kf_FW_42 T) d_FW_comesBefore_17 ?_
    refine lv_if_eq hx hb d_FW_comesBefore_20 rfl (fun h26 => ?_) (fun h26 => ?_)
    · skip
      have hF := hF.trans (if_pos h26)
      refine lv_aload_n hx hb d_FW_comesBefore_64 rfl (lv_at hl 1 rfl) ?_
      refine gf_At_name hx hb T hown hK hw (i := k1) b1 rfl (kf_FW_89 T) d_FW_comesBefore_65 ?_
      have n27 : k1 < 170 := Nat.lt_trans b1 (by decide)
      refine gf_Nm_space hx hb T hown hK hw (i := k1) n27 rfl (kf_FW_115 T) d_FW_comesBefore_68 ?_
      rcases hq28 : r 0 k1 with _ | k_28
      · skip
        have hF := hF.trans (gcs_none hq28)
        refine lv_astore_nN hx hb d_FW_comesBefore_71 rfl hl (by decide) rfl (fun ls hl => ?_)
        refine lv_aload_n hx hb d_FW_comesBefore_72 rfl (lv_at hl 3 rfl) ?_
        refine gf_At_name hx hb T hown hK hw (i := k2) b2 rfl (kf_FW_89 T) d_FW_comesBefore_73 ?_
        have n29 : k2 < 170 := Nat.lt_trans b2 (by decide)
        refine gf_Nm_space hx hb T hown hK hw (i := k2) n29 rfl (kf_FW_115 T) d_FW_comesBefore_76 ?_
        rcases hq30 : r 0 k2 with _ | k_30
        · skip
          have hF := hF.trans (gcs_none hq30)
          refine lv_astoreN hx hb d_FW_comesBefore_79 hl (by decide) rfl (fun ls hl => ?_)
          refine lv_aload_n hx hb d_FW_comesBefore_81 rfl (lv_at hl 2 rfl) ?_
          refine gf_FW_tree hx hb T hown hK hw rfl (kf_FW_30 T) d_FW_comesBefore_82 ?_
          refine gf_Tr_values hx hb T hown hK hw rfl (kf_FW_119 T) d_FW_comesBefore_85 ?_
          refine lv_aload_nN hx hb d_FW_comesBefore_88 rfl (lv_at hl 1 rfl) ?_
          exact absurd hF hno
        · skip
          have hF := hF.trans (gcs_some hq30)
          have b_30 := ng hno hF
          have hF := hF.trans (gd_yes b_30)
          refine lv_astore hx hb d_FW_comesBefore_79 hl (by decide) rfl (fun ls hl => ?_)
          refine lv_aload_n hx hb d_FW_comesBefore_81 rfl (lv_at hl 2 rfl) ?_
          refine gf_FW_tree hx hb T hown hK hw rfl (kf_FW_30 T) d_FW_comesBefore_82 ?_
          refine gf_Tr_values hx hb T hown hK hw rfl (kf_FW_119 T) d_FW_comesBefore_85 ?_
          refine lv_aload_nN hx hb d_FW_comesBefore_88 rfl (lv_at hl 1 rfl) ?_
          exact absurd hF hno
      · skip
        have hF := hF.trans (gcs_some hq28)
        have b_28 := ng hno hF
        have hF := hF.trans (gd_yes b_28)
        refine lv_astore_n hx hb d_FW_comesBefore_71 rfl hl (by decide) rfl (fun ls hl => ?_)
        refine lv_aload_n hx hb d_FW_comesBefore_72 rfl (lv_at hl 3 rfl) ?_
        refine gf_At_name hx hb T hown hK hw (i := k2) b2 rfl (kf_FW_89 T) d_FW_comesBefore_73 ?_
        have n31 : k2 < 170 := Nat.lt_trans b2 (by decide)
        refine gf_Nm_space hx hb T hown hK hw (i := k2) n31 rfl (kf_FW_115 T) d_FW_comesBefore_76 ?_
        rcases hq32 : r 0 k2 with _ | k_32
        · skip
          have hF := hF.trans (gcs_none hq32)
          refine lv_astoreN hx hb d_FW_comesBefore_79 hl (by decide) rfl (fun ls hl => ?_)
          refine lv_aload_n hx hb d_FW_comesBefore_81 rfl (lv_at hl 2 rfl) ?_
          refine gf_FW_tree hx hb T hown hK hw rfl (kf_FW_30 T) d_FW_comesBefore_82 ?_
          refine gf_Tr_values hx hb T hown hK hw rfl (kf_FW_119 T) d_FW_comesBefore_85 ?_
          refine lv_aload_n hx hb d_FW_comesBefore_88 rfl (lv_at hl 1 rfl) ?_
          refine gf_At_valueStart hx hb T hown hK hw (i := k_28) b_28 rfl (kf_FW_122 T) d_FW_comesBefore_89 ?_
          refine lv_aload_n hx hb d_FW_comesBefore_92 rfl (lv_at hl 1 rfl) ?_
          refine gf_At_valueEnd hx hb T hown hK hw (i := k_28) b_28 rfl (kf_FW_125 T) d_FW_comesBefore_93 ?_
          refine lv_aloadN hx hb d_FW_comesBefore_96 (lv_at hl 0 rfl) ?_
          exact absurd hF hno
        · skip
          have hF := hF.trans (gcs_some hq32)
          have b_32 := ng hno hF
          have hF := hF.trans (gd_yes b_32)
          refine lv_astore hx hb d_FW_comesBefore_79 hl (by decide) rfl (fun ls hl => ?_)
          refine lv_aload_n hx hb d_FW_comesBefore_81 rfl (lv_at hl 2 rfl) ?_
          refine gf_FW_tree hx hb T hown hK hw rfl (kf_FW_30 T) d_FW_comesBefore_82 ?_
          refine gf_Tr_values hx hb T hown hK hw rfl (kf_FW_119 T) d_FW_comesBefore_85 ?_
          refine lv_aload_n hx hb d_FW_comesBefore_88 rfl (lv_at hl 1 rfl) ?_
          refine gf_At_valueStart hx hb T hown hK hw (i := k_28) b_28 rfl (kf_FW_122 T) d_FW_comesBefore_89 ?_
          refine lv_aload_n hx hb d_FW_comesBefore_92 rfl (lv_at hl 1 rfl) ?_
          refine gf_At_valueEnd hx hb T hown hK hw (i := k_28) b_28 rfl (kf_FW_125 T) d_FW_comesBefore_93 ?_
          refine lv_aload hx hb d_FW_comesBefore_96 (lv_at hl 0 rfl) ?_
          refine gf_At_valueStart hx hb T hown hK hw (i := k_32) b_32 rfl (kf_FW_122 T) d_FW_comesBefore_98 ?_
          refine lv_aload hx hb d_FW_comesBefore_101 (lv_at hl 0 rfl) ?_
          refine gf_At_valueEnd hx hb T hown hK hw (i := k_32) b_32 rfl (kf_FW_125 T) d_FW_comesBefore_103 ?_
          refine gy_V B hl.1 hw (t_Row_order G _ _ ow fu 3 (M 23 k_28) (M 24 k_28) (M 23 k_32) (M 24 k_32) (by decide) (nn hno hF)) (kd_Row_order T) (ki_Row T) (km_FW_111 T) (ka_Row_order T) (ks_Row_order T) ⟨by decide, by decide, by rfl⟩ (rv_Row hK hw (i := 3) (by decide) rfl) rfl (Nat.le_of_ble_eq_true rfl) ⟨by decide, by decide⟩ ⟨by decide, by decide⟩ d_FW_comesBefore_106 (fun v M33 r33 H locs hw hp => ?_) (fun x ek M33 r33 H locs hw hE hp => gr_t B hexc hw hE (by decide) (by decide) (hF.trans (bnd_ex hp)))
          obtain ⟨v33, rfl, hp⟩ := hp
          have hF := hF.trans (bnd_ok hp)
          refine lv_istore hx hb d_FW_comesBefore_109 hl (by decide) rfl (fun ls hl => ?_)
          refine lv_iload hx hb d_FW_comesBefore_111 (lv_at hl 0 rfl) ?_
          refine lv_if_eq hx hb d_FW_comesBefore_113 rfl (fun h34 => ?_) (fun h34 => ?_)
          · skip
            have hF := hF.trans (if_pos h34)
            refine lv_aload_n hx hb d_FW_comesBefore_127 rfl (lv_at hl 3 rfl) ?_
            refine gf_FW_tree hx hb T hown hK hw rfl (kf_FW_30 T) d_FW_comesBefore_128 ?_
            refine gf_Tr_text hx hb T hown hK hw rfl (kf_FW_108 T) d_FW_comesBefore_131 ?_
            refine lv_aload_n hx hb d_FW_comesBefore_134 rfl (lv_at hl 4 rfl) ?_
            refine gf_At_name hx hb T hown hK hw (i := k1) b1 rfl (kf_FW_89 T) d_FW_comesBefore_135 ?_
            have n35 : k1 < 170 := Nat.lt_trans b1 (by decide)
            refine gf_Nm_local hx hb T hown hK hw (i := k1) n35 rfl (kf_FW_128 T) d_FW_comesBefore_138 ?_
            refine lv_aload_n hx hb d_FW_comesBefore_141 rfl (lv_at hl 4 rfl) ?_
            refine gf_At_name hx hb T hown hK hw (i := k1) b1 rfl (kf_FW_89 T) d_FW_comesBefore_142 ?_
            have n36 : k1 < 170 := Nat.lt_trans b1 (by decide)
            refine gf_Nm_end hx hb T hown hK hw (i := k1) n36 rfl (kf_FW_90 T) d_FW_comesBefore_145 ?_
            refine lv_aload_n hx hb d_FW_comesBefore_148 rfl (lv_at hl 5 rfl) ?_
            refine gf_At_name hx hb T hown hK hw (i := k2) b2 rfl (kf_FW_89 T) d_FW_comesBefore_149 ?_
            have n37 : k2 < 170 := Nat.lt_trans b2 (by decide)
            refine gf_Nm_local hx hb T hown hK hw (i := k2) n37 rfl (kf_FW_128 T) d_FW_comesBefore_152 ?_
            refine lv_aload_n hx hb d_FW_comesBefore_155 rfl (lv_at hl 5 rfl) ?_
            refine gf_At_name hx hb T hown hK hw (i := k2) b2 rfl (kf_FW_89 T) d_FW_comesBefore_156 ?_
            have n38 : k2 < 170 := Nat.lt_trans b2 (by decide)
            refine gf_Nm_end hx hb T hown hK hw (i := k2) n38 rfl (kf_FW_90 T) d_FW_comesBefore_159 ?_
            refine gy_V B hl.1 hw (t_Row_order G _ _ ow fu 2 (M33 21 k1) (M33 22 k1) (M33 21 k2) (M33 22 k2) (by decide) (nn hno hF)) (kd_Row_order T) (ki_Row T) (km_FW_111 T) (ka_Row_order T) (ks_Row_order T) ⟨by decide, by decide, by rfl⟩ (rv_Row hK hw (i := 2) (by decide) rfl) rfl (Nat.le_of_ble_eq_true rfl) ⟨by decide, by decide⟩ ⟨by decide, by decide⟩ d_FW_comesBefore_162 (fun v M39 r39 H locs hw hp => ?_) (fun x ek M39 r39 H locs hw hE hp => gr_t B hexc hw hE (by decide) (by decide) (hF.trans (bnd_ex hp)))
            obtain ⟨v39, rfl, hp⟩ := hp
            have hF := hF.trans (bnd_ok hp)
            refine lv_if_ge hx hb d_FW_comesBefore_165 rfl (fun h40 => ?_) (fun h40 => ?_)
            · skip
              have hF := hF.trans (if_pos h40)
              refine lv_iconst (v := 0) hx hb d_FW_comesBefore_172 (by decide) ?_
              exact gr_z B hw (by rfl) d_FW_comesBefore_173 ⟨_, rfl, hF⟩
            · skip
              have hF := hF.trans (if_neg h40)
              refine lv_iconst (v := 1) hx hb d_FW_comesBefore_168 (by decide) ?_
              refine lv_goto hx hb d_FW_comesBefore_169 rfl ?_
              exact gr_z B hw (by rfl) d_FW_comesBefore_173 ⟨_, rfl, hF⟩
          · skip
            have hF := hF.trans (if_neg h34)
            refine lv_iload hx hb d_FW_comesBefore_116 (lv_at hl 0 rfl) ?_
            refine lv_if_ge hx hb d_FW_comesBefore_118 rfl (fun h41 => ?_) (fun h41 => ?_)
            · skip
              have hF := hF.trans (if_pos h41)
              refine lv_iconst (v := 0) hx hb d_FW_comesBefore_125 (by decide) ?_
              exact gr_z B hw (by rfl) d_FW_comesBefore_126 ⟨_, rfl, hF⟩
            · skip
              have hF := hF.trans (if_neg h41)
              refine lv_iconst (v := 1) hx hb d_FW_comesBefore_121 (by decide) ?_
              refine lv_goto hx hb d_FW_comesBefore_122 rfl ?_
              exact gr_z B hw (by rfl) d_FW_comesBefore_126 ⟨_, rfl, hF⟩
    · skip
      have hF := hF.trans (if_neg h26)
      refine lv_aload_n hx hb d_FW_comesBefore_23 rfl (lv_at hl 0 rfl) ?_
      refine gf_FW_tree hx hb T hown hK hw rfl (kf_FW_30 T) d_FW_comesBefore_24 ?_
      refine gf_Tr_text hx hb T hown hK hw rfl (kf_FW_108 T) d_FW_comesBefore_27 ?_
      refine lv_aload_n hx hb d_FW_comesBefore_30 rfl (lv_at hl 1 rfl) ?_
      refine gy_V B hl.1 hw (t_At_declaredStart G _ _ ow fu k1 b1 (nn hno hF)) (kd_At_declaredStart T) (ki_At T) (km_FW_85 T) (ka_At_declaredStart T) (ks_At_declaredStart T) ⟨by decide, by decide, by rfl⟩ (rv_At hK hw (i := k1) b1 rfl) rfl (Nat.le_of_ble_eq_true rfl) ⟨by decide, by decide⟩ ⟨by decide, by decide⟩ d_FW_comesBefore_31 (fun v M42 r42 H locs hw hp => ?_) (fun x ek M42 r42 H locs hw hE hp => gr_t B hexc hw hE (by decide) (by decide) (hF.trans (bnd_ex hp)))
      obtain ⟨v42, rfl, hp⟩ := hp
      have hF := hF.trans (bnd_ok hp)
      refine lv_aload_n hx hb d_FW_comesBefore_34 rfl (lv_at hl 1 rfl) ?_
      refine gf_At_name hx hb T hown hK hw (i := k1) b1 rfl (kf_FW_89 T) d_FW_comesBefore_35 ?_
      have n43 : k1 < 170 := Nat.lt_trans b1 (by decide)
      refine gf_Nm_end hx hb T hown hK hw (i := k1) n43 rfl (kf_FW_90 T) d_FW_comesBefore_38 ?_
      refine lv_aload_n hx hb d_FW_comesBefore_41 rfl (lv_at hl 2 rfl) ?_
      refine gy_V B hl.1 hw (t_At_declaredStart G _ _ ow fu k2 b2 (nn hno hF)) (kd_At_declaredStart T) (ki_At T) (km_FW_85 T) (ka_At_declaredStart T) (ks_At_declaredStart T) ⟨by decide, by decide, by rfl⟩ (rv_At hK hw (i := k2) b2 rfl) rfl (Nat.le_of_ble_eq_true rfl) ⟨by decide, by decide⟩ ⟨by decide, by decide⟩ d_FW_comesBefore_42 (fun v M44 r44 H locs hw hp => ?_) (fun x ek M44 r44 H locs hw hE hp => gr_t B hexc hw hE (by decide) (by decide) (hF.trans (bnd_ex hp)))
      obtain ⟨v44, rfl, hp⟩ := hp
      have hF := hF.trans (bnd_ok hp)
      refine lv_aload_n hx hb d_FW_comesBefore_45 rfl (lv_at hl 2 rfl) ?_
      refine gf_At_name hx hb T hown hK hw (i := k2) b2 rfl (kf_FW_89 T) d_FW_comesBefore_46 ?_
      have n45 : k2 < 170 := Nat.lt_trans b2 (by decide)
      refine gf_Nm_end hx hb T hown hK hw (i := k2) n45 rfl (kf_FW_90 T) d_FW_comesBefore_49 ?_
      refine gy_V B hl.1 hw (t_Row_order G _ _ ow fu 2 v42 (M42 22 k1) v44 (M44 22 k2) (by decide) (nn hno hF)) (kd_Row_order T) (ki_Row T) (km_FW_111 T) (ka_Row_order T) (ks_Row_order T) ⟨by decide, by decide, by rfl⟩ (rv_Row hK hw (i := 2) (by decide) rfl) rfl (Nat.le_of_ble_eq_true rfl) ⟨by decide, by decide⟩ ⟨by decide, by decide⟩ d_FW_comesBefore_52 (fun v M46 r46 H locs hw hp => ?_) (fun x ek M46 r46 H locs hw hE hp => gr_t B hexc hw hE (by decide) (by decide) (hF.trans (bnd_ex hp)))
      obtain ⟨v46, rfl, hp⟩ := hp
      have hF := hF.trans (bnd_ok hp)
      refine lv_if_ge hx hb d_FW_comesBefore_55 rfl (fun h47 => ?_) (fun h47 => ?_)
      · skip
        have hF := hF.trans (if_pos h47)
        refine lv_iconst (v := 0) hx hb d_FW_comesBefore_62 (by decide) ?_
        exact gr_z B hw (by rfl) d_FW_comesBefore_63 ⟨_, rfl, hF⟩
      · skip
        have hF := hF.trans (if_neg h47)
        refine lv_iconst (v := 1) hx hb d_FW_comesBefore_58 (by decide) ?_
        refine lv_goto hx hb d_FW_comesBefore_59 rfl ?_
        exact gr_z B hw (by rfl) d_FW_comesBefore_63 ⟨_, rfl, hF⟩
  · skip
    have hF := hF.trans (if_neg h25)
    refine lv_aload_n hx hb d_FW_comesBefore_11 rfl (lv_at hl 1 rfl) ?_
    refine gf_At_isDeclaration hx hb T hown hK hw (i := k1) b1 rfl (kf_FW_42 T) d_FW_comesBefore_12 ?_
    have g48 := ng hno hF
    have hF := hF.trans (gd_yes g48)
    exact gr_z B hw g48 d_FW_comesBefore_15 ⟨_, rfl, hF⟩
theorem d_FW_insertSorted_0 : decode b_FW_insertSorted 0 = .ok (.aload_n 0, 1) := by decide +kernel
theorem d_FW_insertSorted_1 : decode b_FW_insertSorted 1 = .ok (.getfield 26, 3) := by decide +kernel
theorem d_FW_insertSorted_4 : decode b_FW_insertSorted 4 = .ok (.bipush 6, 2) := by decide +kernel
theorem d_FW_insertSorted_6 : decode b_FW_insertSorted 6 = .ok (.if_icmp .lt 4, 3) := by decide +kernel
theorem d_FW_insertSorted_9 : decode b_FW_insertSorted 9 = .ok (.return_, 1) := by decide +kernel
theorem d_FW_insertSorted_10 : decode b_FW_insertSorted 10 = .ok (.aload_n 0, 1) := by decide +kernel
theorem d_FW_insertSorted_11 : decode b_FW_insertSorted 11 = .ok (.getfield 26, 3) := by decide +kernel
theorem d_FW_insertSorted_14 : decode b_FW_insertSorted 14 = .ok (.istore_n 2, 1) := by decide +kernel
theorem d_FW_insertSorted_15 : decode b_FW_insertSorted 15 = .ok (.iload_n 2, 1) := by decide +kernel
theorem d_FW_insertSorted_16 : decode b_FW_insertSorted 16 = .ok (.ifCond .le 39, 3) := by decide +kernel
theorem d_FW_insertSorted_19 : decode b_FW_insertSorted 19 = .ok (.aload_n 0, 1) := by decide +kernel
theorem d_FW_insertSorted_20 : decode b_FW_insertSorted 20 = .ok (.aload_n 1, 1) := by decide +kernel
theorem d_FW_insertSorted_21 : decode b_FW_insertSorted 21 = .ok (.aload_n 0, 1) := by decide +kernel
theorem d_FW_insertSorted_22 : decode b_FW_insertSorted 22 = .ok (.getfield 22, 3) := by decide +kernel
theorem d_FW_insertSorted_25 : decode b_FW_insertSorted 25 = .ok (.iload_n 2, 1) := by decide +kernel
theorem d_FW_insertSorted_26 : decode b_FW_insertSorted 26 = .ok (.iconst 1, 1) := by decide +kernel
theorem d_FW_insertSorted_27 : decode b_FW_insertSorted 27 = .ok (.isub, 1) := by decide +kernel
theorem d_FW_insertSorted_28 : decode b_FW_insertSorted 28 = .ok (.aaload, 1) := by decide +kernel
theorem d_FW_insertSorted_29 : decode b_FW_insertSorted 29 = .ok (.invokevirtual 105, 3) := by decide +kernel
theorem d_FW_insertSorted_32 : decode b_FW_insertSorted 32 = .ok (.ifCond .eq 23, 3) := by decide +kernel
theorem d_FW_insertSorted_35 : decode b_FW_insertSorted 35 = .ok (.aload_n 0, 1) := by decide +kernel
theorem d_FW_insertSorted_36 : decode b_FW_insertSorted 36 = .ok (.getfield 22, 3) := by decide +kernel
theorem d_FW_insertSorted_39 : decode b_FW_insertSorted 39 = .ok (.iload_n 2, 1) := by decide +kernel
theorem d_FW_insertSorted_40 : decode b_FW_insertSorted 40 = .ok (.aload_n 0, 1) := by decide +kernel
theorem d_FW_insertSorted_41 : decode b_FW_insertSorted 41 = .ok (.getfield 22, 3) := by decide +kernel
theorem d_FW_insertSorted_44 : decode b_FW_insertSorted 44 = .ok (.iload_n 2, 1) := by decide +kernel
theorem d_FW_insertSorted_45 : decode b_FW_insertSorted 45 = .ok (.iconst 1, 1) := by decide +kernel
theorem d_FW_insertSorted_46 : decode b_FW_insertSorted 46 = .ok (.isub, 1) := by decide +kernel
theorem d_FW_insertSorted_47 : decode b_FW_insertSorted 47 = .ok (.aaload, 1) := by decide +kernel
theorem d_FW_insertSorted_48 : decode b_FW_insertSorted 48 = .ok (.aastore, 1) := by decide +kernel
theorem d_FW_insertSorted_49 : decode b_FW_insertSorted 49 = .ok (.iinc 2 (-1), 3) := by decide +kernel
theorem d_FW_insertSorted_52 : decode b_FW_insertSorted 52 = .ok (.goto (-37), 3) := by decide +kernel
theorem d_FW_insertSorted_55 : decode b_FW_insertSorted 55 = .ok (.aload_n 0, 1) := by decide +kernel
theorem d_FW_insertSorted_56 : decode b_FW_insertSorted 56 = .ok (.getfield 22, 3) := by decide +kernel
theorem d_FW_insertSorted_59 : decode b_FW_insertSorted 59 = .ok (.iload_n 2, 1) := by decide +kernel
theorem d_FW_insertSorted_60 : decode b_FW_insertSorted 60 = .ok (.aload_n 1, 1) := by decide +kernel
theorem d_FW_insertSorted_61 : decode b_FW_insertSorted 61 = .ok (.aastore, 1) := by decide +kernel
theorem d_FW_insertSorted_62 : decode b_FW_insertSorted 62 = .ok (.aload_n 0, 1) := by decide +kernel
theorem d_FW_insertSorted_63 : decode b_FW_insertSorted 63 = .ok (.dup, 1) := by decide +kernel
theorem d_FW_insertSorted_64 : decode b_FW_insertSorted 64 = .ok (.getfield 26, 3) := by decide +kernel
theorem d_FW_insertSorted_67 : decode b_FW_insertSorted 67 = .ok (.iconst 1, 1) := by decide +kernel
theorem d_FW_insertSorted_68 : decode b_FW_insertSorted 68 = .ok (.iadd, 1) := by decide +kernel
theorem d_FW_insertSorted_69 : decode b_FW_insertSorted 69 = .ok (.putfield 26, 3) := by decide +kernel
theorem d_FW_insertSorted_72 : decode b_FW_insertSorted 72 = .ok (.return_, 1) := by decide +kernel
set_option maxHeartbeats 4000000 in
set_option maxRecDepth 100000 in
theorem t_FW_insertSorted {l : Launch} {s0 : State} {D : va_G} {aC : Nat → ClassId} {a0 : Array Value} (G : gG l s0 D aC a0) (M : gMem) (r : gRef) (ow : Int64) (fu : Nat) (k1 : Nat) (b1 : k1 < 145) (hno : F_FW_insertSorted fu k1 M r ≠ .no) : gMet l s0 D aC y_FW_insertSorted (Cond.code y_FW_insertSorted b_FW_insertSorted 3 none) 3 74 0 0 [.ref (s0.heap.size + 376), .ref (s0.heap.size + oAt k1)] M r ow (qV (F_FW_insertSorted fu k1 M r)) (qT (F_FW_insertSorted fu k1 M r)) := by
  refine gm_of G (by decide) (Nat.le_of_ble_eq_true rfl) ?_
  intro p e s m below meth c ls B hexc hl hw
  have hx := B.1
  have hb := B.2.1
  have hown := B.2.2.2.2.2.1
  have T := B.2.2.2.2.2.2.1
  have hK := B.2.2.2.2.2.2.2.1
  have X55 : ∀ (x2 : Int32) (M1 : gMem) (r1 : gRef) (H : Heap) (locs : List Loc) (ls : Array Slot), lv_has ls 3 [(2, .int x2), (0, .ref (s0.heap.size + 376)), (1, .ref (s0.heap.size + oAt k1))] → gWd s0 D aC M1 r1 ow H locs → F_FW_insertSorted fu k1 M r = F_FW_insertSorted_B55 fu k1 x2 M1 r1 → W p l e (gRm 3 74 0 0) s m ([.ref (s0.heap.size + 376), .ref (s0.heap.size + oAt k1)] : List Value).toArray below meth c H locs 0 0 (gt_Q below (gQ s0 D aC ow (qV (F_FW_insertSorted fu k1 M r)) (qT (F_FW_insertSorted fu k1 M r))) s 0 0 0 0 (fun q => s0.heap.size ≤ q)) (F0 m 55 ls []) := by
    intro x2 M1 r1 H locs ls hl hw hF
    have hF := hF.trans (F_FW_insertSorted_B55.eq_1 _ _ _ _ _)
    refine lv_aload_n hx hb d_FW_insertSorted_55 rfl (lv_at hl 1 rfl) ?_
    refine gf_FW_sorted hx hb T hown hK hw rfl (kf_FW_22 T) d_FW_insertSorted_56 ?_
    refine lv_iload_n hx hb d_FW_insertSorted_59 rfl (lv_at hl 0 rfl) ?_
    refine lv_aload_n hx hb d_FW_insertSorted_60 rfl (lv_at hl 2 rfl) ?_
    have g12 := ng hno hF
    have hF := hF.trans (gd_yes g12)
    refine gs_so (a := k1) hx hb hK hw rfl b1 g12 d_FW_insertSorted_61 (fun H locs hw => ?_)
    refine lv_aload_n hx hb d_FW_insertSorted_62 rfl (lv_at hl 1 rfl) ?_
    refine lv_dup hx hb d_FW_insertSorted_63 rfl ?_
    refine gf_FW_sortedCount hx hb T hown hK hw rfl (kf_FW_26 T) d_FW_insertSorted_64 ?_
    refine lv_iconst (v := 1) hx hb d_FW_insertSorted_67 (by decide) ?_
    refine lv_iadd hx hb d_FW_insertSorted_68 ?_
    refine pf_FW_sortedCount hx hb T hown hK hw rfl (kf_FW_26 T) d_FW_insertSorted_69 (fun H locs hw => ?_)
    exact gr_v B hw d_FW_insertSorted_72 ⟨rfl, hF⟩
  have L15 : ∀ (d : Nat) (x2 : Int32) (M1 : gMem) (r1 : gRef) (H : Heap) (locs : List Loc) (ls : Array Slot), lv_has ls 3 [(2, .int x2), (0, .ref (s0.heap.size + 376)), (1, .ref (s0.heap.size + oAt k1))] → gWd s0 D aC M1 r1 ow H locs → F_FW_insertSorted fu k1 M r = F_FW_insertSorted_L15 fu k1 d x2 M1 r1 → W p l e (gRm 3 74 0 0) s m ([.ref (s0.heap.size + 376), .ref (s0.heap.size + oAt k1)] : List Value).toArray below meth c H locs 0 0 (gt_Q below (gQ s0 D aC ow (qV (F_FW_insertSorted fu k1 M r)) (qT (F_FW_insertSorted fu k1 M r))) s 0 0 0 0 (fun q => s0.heap.size ≤ q)) (F0 m 15 ls []) := by
    intro d
    induction d with
    | zero => intro x2 M1 r1 H locs ls hl hw hF; exact absurd hF hno
    | succ d ih =>
      intro x2 M1 r1 H locs ls hl hw hF
      have hF := hF.trans (F_FW_insertSorted_L15.eq_2 _ _ _ _ _ _)
      refine lv_iload_n hx hb d_FW_insertSorted_15 rfl (lv_at hl 0 rfl) ?_
      refine lv_if_le hx hb d_FW_insertSorted_16 rfl (fun h13 => ?_) (fun h13 => ?_)
      · skip
        have hF := hF.trans (if_pos h13)
        exact X55 x2 _ _ _ _ _ (gv_loc hl [0, 1, 2] rfl) hw hF
      · skip
        have hF := hF.trans (if_neg h13)
        refine lv_aload_n hx hb d_FW_insertSorted_19 rfl (lv_at hl 1 rfl) ?_
        refine lv_aload_n hx hb d_FW_insertSorted_20 rfl (lv_at hl 2 rfl) ?_
        refine lv_aload_n hx hb d_FW_insertSorted_21 rfl (lv_at hl 1 rfl) ?_
        refine gf_FW_sorted hx hb T hown hK hw rfl (kf_FW_22 T) d_FW_insertSorted_22 ?_
        refine lv_iload_n hx hb d_FW_insertSorted_25 rfl (lv_at hl 0 rfl) ?_
        refine lv_iconst (v := 1) hx hb d_FW_insertSorted_26 (by decide) ?_
        refine lv_isub hx hb d_FW_insertSorted_27 ?_
        have g14 := ng hno hF
        have hF := hF.trans (gd_yes g14)
        refine ga_so hx hb hK hw rfl g14 d_FW_insertSorted_28 ?_
        rcases hq15 : r1 2 (x2 - 1).toNatClampNeg with _ | k_15
        · skip
          have hF := hF.trans (gcs_none hq15)
          exact absurd hF hno
        · skip
          have hF := hF.trans (gcs_some hq15)
          have b_15 := ng hno hF
          have hF := hF.trans (gd_yes b_15)
          refine gy_V B hl.1 hw (t_FW_comesBefore G _ _ ow fu k1 k_15 b1 b_15 (nn hno hF)) (kd_FW_comesBefore T) (ki_FW T) (km_FW_105 T) (ka_FW_comesBefore T) (ks_FW_comesBefore T) ⟨by decide, by decide, by rfl⟩ (rv_FW hK hw rfl) rfl (Nat.le_of_ble_eq_true rfl) ⟨by decide, by decide⟩ ⟨by decide, by decide⟩ d_FW_insertSorted_29 (fun v M16 r16 H locs hw hp => ?_) (fun x ek M16 r16 H locs hw hE hp => gr_t B hexc hw hE (by decide) (by decide) (hF.trans (bnd_ex hp)))
          obtain ⟨v16, rfl, hp⟩ := hp
          have hF := hF.trans (bnd_ok hp)
          refine lv_if_eq hx hb d_FW_insertSorted_32 rfl (fun h17 => ?_) (fun h17 => ?_)
          · skip
            have hF := hF.trans (if_pos h17)
            exact X55 x2 _ _ _ _ _ (gv_loc hl [0, 1, 2] rfl) hw hF
          · skip
            have hF := hF.trans (if_neg h17)
            refine lv_aload_n hx hb d_FW_insertSorted_35 rfl (lv_at hl 1 rfl) ?_
            refine gf_FW_sorted hx hb T hown hK hw rfl (kf_FW_22 T) d_FW_insertSorted_36 ?_
            refine lv_iload_n hx hb d_FW_insertSorted_39 rfl (lv_at hl 0 rfl) ?_
            refine lv_aload_n hx hb d_FW_insertSorted_40 rfl (lv_at hl 1 rfl) ?_
            refine gf_FW_sorted hx hb T hown hK hw rfl (kf_FW_22 T) d_FW_insertSorted_41 ?_
            refine lv_iload_n hx hb d_FW_insertSorted_44 rfl (lv_at hl 0 rfl) ?_
            refine lv_iconst (v := 1) hx hb d_FW_insertSorted_45 (by decide) ?_
            refine lv_isub hx hb d_FW_insertSorted_46 ?_
            have g18 := ng hno hF
            have hF := hF.trans (gd_yes g18)
            refine ga_so hx hb hK hw rfl g18 d_FW_insertSorted_47 ?_
            rcases hq19 : r16 2 (x2 - 1).toNatClampNeg with _ | k_19
            · skip
              have hF := hF.trans (gcs_none hq19)
              have g20 := ng hno hF
              have hF := hF.trans (gd_yes g20)
              exact absurd hF hno
            · skip
              have hF := hF.trans (gcs_some hq19)
              have b_19 := ng hno hF
              have hF := hF.trans (gd_yes b_19)
              have g21 := ng hno hF
              have hF := hF.trans (gd_yes g21)
              refine gs_so (a := k_19) hx hb hK hw rfl b_19 g21 d_FW_insertSorted_48 (fun H locs hw => ?_)
              refine lv_iinc (k := 0) hx hb d_FW_insertSorted_49 hl rfl (show _ + Int32.ofInt (-1) = _ + (-1) from rfl) (by decide) rfl (fun ls hl => ?_)
              refine lv_goto hx hb d_FW_insertSorted_52 rfl ?_
              exact ih (x2 + (-1)) _ _ _ _ _ (gv_loc hl [0, 1, 2] rfl) hw hF
  have hF := F_FW_insertSorted.eq_1 fu k1 M r
  refine lv_aload_n hx hb d_FW_insertSorted_0 rfl (lv_at hl 0 rfl) ?_
  refine gf_FW_sortedCount hx hb T hown hK hw rfl (kf_FW_26 T) d_FW_insertSorted_1 ?_
  refine lv_bipush (v := 6) hx hb d_FW_insertSorted_4 (by decide) ?_
  refine lv_icmp_lt hx hb d_FW_insertSorted_6 rfl (fun h22 => ?_) (fun h22 => ?_)
  · skip
    have hF := hF.trans (if_pos h22)
    refine lv_aload_n hx hb d_FW_insertSorted_10 rfl (lv_at hl 0 rfl) ?_
    refine gf_FW_sortedCount hx hb T hown hK hw rfl (kf_FW_26 T) d_FW_insertSorted_11 ?_
    refine lv_istore_n hx hb d_FW_insertSorted_14 rfl hl (by decide) rfl (fun ls hl => ?_)
    exact L15 fu (M 34 0) _ _ _ _ _ (gv_loc hl [0, 1, 2] rfl) hw hF
  · skip
    have hF := hF.trans (if_neg h22)
    exact gr_v B hw d_FW_insertSorted_9 ⟨rfl, hF⟩
set_option maxHeartbeats 4000000 in
set_option maxRecDepth 100000 in
theorem t_Tr_declarationFor_n {l : Launch} {s0 : State} {D : va_G} {aC : Nat → ClassId} {a0 : Array Value} (G : gG l s0 D aC a0) (M : gMem) (r : gRef) (ow : Int64) (fu : Nat) (x2 : Int32) (x3 : Int32)  (hno : F_Tr_declarationFor_n fu x2 x3 M r ≠ .no) : gMet l s0 D aC y_Tr_declarationFor (Cond.code y_Tr_declarationFor b_Tr_declarationFor 7 (some (.object "MarkupReader$Attribute"))) 2 49 0 0 [.ref (s0.heap.size + 5), .null, .int x2, .int x3] M r ow (qA s0.heap.size (F_Tr_declarationFor_n fu x2 x3 M r)) (qT (F_Tr_declarationFor_n fu x2 x3 M r)) := by
  refine gm_of G (by decide) (Nat.le_of_ble_eq_true rfl) ?_
  intro p e s m below meth c ls B hexc hl hw
  have hx := B.1
  have hb := B.2.1
  have hown := B.2.2.2.2.2.1
  have T := B.2.2.2.2.2.2.1
  have hK := B.2.2.2.2.2.2.2.1
  have X83 : ∀ (M1 : gMem) (r1 : gRef) (H : Heap) (locs : List Loc) (ls : Array Slot), lv_has ls 7 [(0, .ref (s0.heap.size + 5))] → gWd s0 D aC M1 r1 ow H locs → F_Tr_declarationFor_n fu x2 x3 M r = F_Tr_declarationFor_n_B83 fu x2 x3 M1 r1 → W p l e (gRm 2 49 0 0) s m ([.ref (s0.heap.size + 5), .null, .int x2, .int x3] : List Value).toArray below meth c H locs 0 0 (gt_Q below (gQ s0 D aC ow (qA s0.heap.size (F_Tr_declarationFor_n fu x2 x3 M r)) (qT (F_Tr_declarationFor_n fu x2 x3 M r))) s 0 0 0 0 (fun q => s0.heap.size ≤ q)) (F0 m 83 ls []) := by
    intro  M1 r1 H locs ls hl hw hF
    have hF := hF.trans (F_Tr_declarationFor_n_B83.eq_1 _ _ _ _ _)
    refine lv_aload_n hx hb d_Tr_declarationFor_83 rfl (lv_at hl 0 rfl) ?_
    refine gf_Tr_noDeclaration hx hb T hown hK hw rfl (kf_Tr_39 T) d_Tr_declarationFor_84 ?_
    exact gr_a (v := some (s0.heap.size + oAt 144)) B hw d_Tr_declarationFor_87 ⟨some 144, rfl, hF⟩
  have L3 : ∀ (d : Nat) (o4 : (Option Nat)) (M1 : gMem) (r1 : gRef) (H : Heap) (locs : List Loc) (ls : Array Slot), lv_has ls 7 [(4, va_rf (gq s0.heap.size oEl o4)), (0, .ref (s0.heap.size + 5)), (2, .int x2), (3, .int x3)] → gWd s0 D aC M1 r1 ow H locs → F_Tr_declarationFor_n fu x2 x3 M r = F_Tr_declarationFor_n_L3 fu x2 x3 d o4 M1 r1 → W p l e (gRm 2 49 0 0) s m ([.ref (s0.heap.size + 5), .null, .int x2, .int x3] : List Value).toArray below meth c H locs 0 0 (gt_Q below (gQ s0 D aC ow (qA s0.heap.size (F_Tr_declarationFor_n fu x2 x3 M r)) (qT (F_Tr_declarationFor_n fu x2 x3 M r))) s 0 0 0 0 (fun q => s0.heap.size ≤ q)) (F0 m 3 ls []) := by
    intro d
    induction d with
    | zero => intro o4 M1 r1 H locs ls hl hw hF; exact absurd hF hno
    | succ d ih =>
      intro o4 M1 r1 H locs ls hl hw hF
      have hF := hF.trans (F_Tr_declarationFor_n_L3.eq_2 _ _ _ _ _ _ _)
      rcases hq11 : o4 with _ | k_11
      · subst hq11
        have hF := hF.trans (gcs_none rfl)
        replace hl : lv_has ls 7 [(4, .null), (0, .ref (s0.heap.size + 5)), (2, .int x2), (3, .int x3)] := hl
        refine lv_aloadN hx hb d_Tr_declarationFor_3 (lv_at hl 0 rfl) ?_
        refine lv_ifnullN hx hb d_Tr_declarationFor_5 rfl ?_
        exact X83  _ _ _ _ _ (gv_loc hl [1] rfl) hw hF
      · subst hq11
        have hF := hF.trans (gcs_some rfl)
        have b_11 := ng hno hF
        have hF := hF.trans (gd_yes b_11)
        replace hl : lv_has ls 7 [(4, .ref (s0.heap.size + oEl k_11)), (0, .ref (s0.heap.size + 5)), (2, .int x2), (3, .int x3)] := hl
        refine lv_aload hx hb d_Tr_declarationFor_3 (lv_at hl 0 rfl) ?_
        refine lv_ifnull hx hb d_Tr_declarationFor_5 ?_
        refine lv_iconst (v := 0) hx hb d_Tr_declarationFor_8 (by decide) ?_
        refine lv_istore hx hb d_Tr_declarationFor_9 hl (by decide) rfl (fun ls hl => ?_)
        have I11 : ∀ (d2 : Nat) (x5 : Int32) (M1 : gMem) (r1 : gRef) (H : Heap) (locs : List Loc) (ls : Array Slot), lv_has ls 7 [(0, .ref (s0.heap.size + 5)), (2, .int x2), (3, .int x3), (4, .ref (s0.heap.size + oEl k_11)), (5, .int x5)] → gWd s0 D aC M1 r1 ow H locs → F_Tr_declarationFor_n fu x2 x3 M r = gO.bnd (F_Tr_declarationFor_n_I11 fu x2 x3 d2 k_11 x5 M1 r1) (fun s19 M19 r19 => gsm s19 (fun v => .ok v M19 r19) (fun _ => gcs (r19 1 k_11) (F_Tr_declarationFor_n_L3 fu x2 x3 d none M19 r19) (fun k_20 => gd (k_20 < 24) (F_Tr_declarationFor_n_L3 fu x2 x3 d (some k_20) M19 r19)))) → W p l e (gRm 2 49 0 0) s m ([.ref (s0.heap.size + 5), .null, .int x2, .int x3] : List Value).toArray below meth c H locs 0 0 (gt_Q below (gQ s0 D aC ow (qA s0.heap.size (F_Tr_declarationFor_n fu x2 x3 M r)) (qT (F_Tr_declarationFor_n fu x2 x3 M r))) s 0 0 0 0 (fun q => s0.heap.size ≤ q)) (F0 m 11 ls []) := by
          intro d2
          induction d2 with
          | zero => intro x5 M1 r1 H locs ls hl hw hF; exact absurd hF hno
          | succ d2 ih2 =>
            intro x5 M1 r1 H locs ls hl hw hF
            have hF := hF.trans (bnc (F_Tr_declarationFor_n_I11.eq_2 _ _ _ _ _ _ _ _))
            refine lv_iload hx hb d_Tr_declarationFor_11 (lv_at hl 4 rfl) ?_
            refine lv_aload hx hb d_Tr_declarationFor_13 (lv_at hl 3 rfl) ?_
            refine gf_El_attributeCount hx hb T hown hK hw (i := k_11) b_11 rfl (kf_Tr_92 T) d_Tr_declarationFor_15 ?_
            refine lv_icmp_ge hx hb d_Tr_declarationFor_18 rfl (fun h21 => ?_) (fun h21 => ?_)
            · skip
              have hF := hF.trans (bnc (if_pos h21))
              have hF := hF.trans (show _ = gcs (r1 1 k_11) (F_Tr_declarationFor_n_L3 fu x2 x3 d none M1 r1) (fun k_22 => gd (k_22 < 24) (F_Tr_declarationFor_n_L3 fu x2 x3 d (some k_22) M1 r1)) from rfl)
              refine lv_aload hx hb d_Tr_declarationFor_73 (lv_at hl 3 rfl) ?_
              refine gf_El_around hx hb T hown hK hw (i := k_11) b_11 rfl (kf_Tr_114 T) d_Tr_declarationFor_75 ?_
              rcases hq22 : r1 1 k_11 with _ | k_22
              · skip
                have hF := hF.trans (gcs_none hq22)
                refine lv_astoreN hx hb d_Tr_declarationFor_78 hl (by decide) rfl (fun ls hl => ?_)
                refine lv_goto hx hb d_Tr_declarationFor_80 rfl ?_
                exact ih none _ _ _ _ _ (gv_loc hl [0, 1, 2, 3] rfl) hw hF
              · skip
                have hF := hF.trans (gcs_some hq22)
                have b_22 := ng hno hF
                have hF := hF.trans (gd_yes b_22)
                refine lv_astore hx hb d_Tr_declarationFor_78 hl (by decide) rfl (fun ls hl => ?_)
                refine lv_goto hx hb d_Tr_declarationFor_80 rfl ?_
                exact ih (some k_22) _ _ _ _ _ (gv_loc hl [0, 1, 2, 3] rfl) hw hF
            · skip
              have hF := hF.trans (bnc (if_neg h21))
              refine lv_aload hx hb d_Tr_declarationFor_21 (lv_at hl 3 rfl) ?_
              refine gf_El_attributes hx hb T hown hK hw (i := k_11) b_11 rfl (kf_Tr_95 T) d_Tr_declarationFor_23 ?_
              refine lv_iload hx hb d_Tr_declarationFor_26 (lv_at hl 4 rfl) ?_
              have g23 := ng2 hno hF
              have hF := hF.trans (bnc (gd_yes g23))
              refine ga_as hx hb hK hw (i := k_11) b_11 rfl g23 d_Tr_declarationFor_28 ?_
              have b123 : 6 * k_11 + x5.toNatClampNeg < 145 := by have := vin_lt g23; have := b_11; omega
              refine lv_astore hx hb d_Tr_declarationFor_29 hl (by decide) rfl (fun ls hl => ?_)
              refine lv_aload hx hb d_Tr_declarationFor_31 (lv_at hl 0 rfl) ?_
              refine gf_At_isDeclaration hx hb T hown hK hw (i := (6 * k_11 + x5.toNatClampNeg)) b123 rfl (kf_Tr_99 T) d_Tr_declarationFor_33 ?_
              refine lv_if_eq hx hb d_Tr_declarationFor_36 rfl (fun h24 => ?_) (fun h24 => ?_)
              · skip
                have hF := hF.trans (bnc (if_pos h24))
                refine lv_iinc (k := 5) hx hb d_Tr_declarationFor_67 hl rfl (show _ + Int32.ofInt 1 = _ + 1 from rfl) (by decide) rfl (fun ls hl => ?_)
                refine lv_goto hx hb d_Tr_declarationFor_70 rfl ?_
                exact ih2 (x5 + 1) _ _ _ _ _ (gv_loc hl [2, 3, 4, 5, 0] rfl) hw hF
              · skip
                have hF := hF.trans (bnc (if_neg h24))
                refine lv_aload_n hx hb d_Tr_declarationFor_39 rfl (lv_at hl 1 rfl) ?_
                refine gf_Tr_text hx hb T hown hK hw rfl (kf_Tr_14 T) d_Tr_declarationFor_40 ?_
                refine lv_aload hx hb d_Tr_declarationFor_43 (lv_at hl 0 rfl) ?_
                refine gy_V B hl.1 hw (t_At_declaredStart G _ _ ow fu (6 * k_11 + x5.toNatClampNeg) b123 (nn2 hno hF)) (kd_At_declaredStart T) (ki_At T) (km_Tr_103 T) (ka_At_declaredStart T) (ks_At_declaredStart T) ⟨by decide, by decide, by rfl⟩ (rv_At hK hw (i := (6 * k_11 + x5.toNatClampNeg)) b123 rfl) rfl (Nat.le_of_ble_eq_true rfl) ⟨by decide, by decide⟩ ⟨by decide, by decide⟩ d_Tr_declarationFor_45 (fun v M25 r25 H locs hw hp => ?_) (fun x ek M25 r25 H locs hw hE hp => gr_t B hexc hw hE (by decide) (by decide) (hF.trans (bnc (bnd_ex hp))))
                obtain ⟨v25, rfl, hp⟩ := hp
                have hF := hF.trans (bnc (bnd_ok hp))
                refine lv_aload hx hb d_Tr_declarationFor_48 (lv_at hl 0 rfl) ?_
                refine gf_At_name hx hb T hown hK hw (i := (6 * k_11 + x5.toNatClampNeg)) b123 rfl (kf_Tr_106 T) d_Tr_declarationFor_50 ?_
                have n26 : 6 * k_11 + x5.toNatClampNeg < 170 := Nat.lt_trans b123 (by decide)
                refine gf_Nm_end hx hb T hown hK hw (i := (6 * k_11 + x5.toNatClampNeg)) n26 rfl (kf_Tr_80 T) d_Tr_declarationFor_53 ?_
                refine lv_iload_n hx hb d_Tr_declarationFor_56 rfl (lv_at hl 2 rfl) ?_
                refine lv_iload_n hx hb d_Tr_declarationFor_57 rfl (lv_at hl 3 rfl) ?_
                refine gy_V B hl.1 hw (t_Row_order G _ _ ow fu 2 v25 (M25 22 (6 * k_11 + x5.toNatClampNeg)) x2 x3 (by decide) (nn2 hno hF)) (kd_Row_order T) (ki_Row T) (km_Tr_110 T) (ka_Row_order T) (ks_Row_order T) ⟨by decide, by decide, by rfl⟩ (rv_Row hK hw (i := 2) (by decide) rfl) rfl (Nat.le_of_ble_eq_true rfl) ⟨by decide, by decide⟩ ⟨by decide, by decide⟩ d_Tr_declarationFor_58 (fun v M27 r27 H locs hw hp => ?_) (fun x ek M27 r27 H locs hw hE hp => gr_t B hexc hw hE (by decide) (by decide) (hF.trans (bnc (bnd_ex hp))))
                obtain ⟨v27, rfl, hp⟩ := hp
                have hF := hF.trans (bnc (bnd_ok hp))
                refine lv_if_ne hx hb d_Tr_declarationFor_61 rfl (fun h28 => ?_) (fun h28 => ?_)
                · skip
                  have hF := hF.trans (bnc (if_neg h28))
                  refine lv_iinc (k := 5) hx hb d_Tr_declarationFor_67 hl rfl (show _ + Int32.ofInt 1 = _ + 1 from rfl) (by decide) rfl (fun ls hl => ?_)
                  refine lv_goto hx hb d_Tr_declarationFor_70 rfl ?_
                  exact ih2 (x5 + 1) _ _ _ _ _ (gv_loc hl [2, 3, 4, 5, 0] rfl) hw hF
                · skip
                  have hF := hF.trans (bnc (if_pos h28))
                  refine lv_aload hx hb d_Tr_declarationFor_64 (lv_at hl 0 rfl) ?_
                  exact gr_a (v := some (s0.heap.size + oAt (6 * k_11 + x5.toNatClampNeg))) B hw d_Tr_declarationFor_66 ⟨some (6 * k_11 + x5.toNatClampNeg), rfl, hF⟩
        exact I11 fu 0 _ _ _ _ _ (gv_loc hl [2, 3, 4, 1, 0] rfl) hw hF
  have hF := F_Tr_declarationFor_n.eq_1 fu x2 x3 M r
  refine lv_aload_nN hx hb d_Tr_declarationFor_0 rfl (lv_at hl 1 rfl) ?_
  refine lv_astoreN hx hb d_Tr_declarationFor_1 hl (by decide) rfl (fun ls hl => ?_)
  exact L3 fu none _ _ _ _ _ (gv_loc hl [0, 1, 3, 4] rfl) hw hF
theorem d_FW_saysSomethingElse_0 : decode b_FW_saysSomethingElse 0 = .ok (.aload_n 0, 1) := by decide +kernel
theorem d_FW_saysSomethingElse_1 : decode b_FW_saysSomethingElse 1 = .ok (.getfield 30, 3) := by decide +kernel
theorem d_FW_saysSomethingElse_4 : decode b_FW_saysSomethingElse 4 = .ok (.aload_n 1, 1) := by decide +kernel
theorem d_FW_saysSomethingElse_5 : decode b_FW_saysSomethingElse 5 = .ok (.getfield 81, 3) := by decide +kernel
theorem d_FW_saysSomethingElse_8 : decode b_FW_saysSomethingElse 8 = .ok (.aload_n 2, 1) := by decide +kernel
theorem d_FW_saysSomethingElse_9 : decode b_FW_saysSomethingElse 9 = .ok (.invokevirtual 85, 3) := by decide +kernel
theorem d_FW_saysSomethingElse_12 : decode b_FW_saysSomethingElse 12 = .ok (.aload_n 2, 1) := by decide +kernel
theorem d_FW_saysSomethingElse_13 : decode b_FW_saysSomethingElse 13 = .ok (.getfield 89, 3) := by decide +kernel
theorem d_FW_saysSomethingElse_16 : decode b_FW_saysSomethingElse 16 = .ok (.getfield 90, 3) := by decide +kernel
theorem d_FW_saysSomethingElse_19 : decode b_FW_saysSomethingElse 19 = .ok (.invokevirtual 95, 3) := by decide +kernel
theorem d_FW_saysSomethingElse_22 : decode b_FW_saysSomethingElse 22 = .ok (.astore_n 3, 1) := by decide +kernel
theorem d_FW_saysSomethingElse_23 : decode b_FW_saysSomethingElse 23 = .ok (.aload_n 0, 1) := by decide +kernel
theorem d_FW_saysSomethingElse_24 : decode b_FW_saysSomethingElse 24 = .ok (.getfield 30, 3) := by decide +kernel
theorem d_FW_saysSomethingElse_27 : decode b_FW_saysSomethingElse 27 = .ok (.aload_n 3, 1) := by decide +kernel
theorem d_FW_saysSomethingElse_28 : decode b_FW_saysSomethingElse 28 = .ok (.aload_n 2, 1) := by decide +kernel
theorem d_FW_saysSomethingElse_29 : decode b_FW_saysSomethingElse 29 = .ok (.invokevirtual 101, 3) := by decide +kernel
theorem d_FW_saysSomethingElse_32 : decode b_FW_saysSomethingElse 32 = .ok (.ifCond .ne 7, 3) := by decide +kernel
theorem d_FW_saysSomethingElse_35 : decode b_FW_saysSomethingElse 35 = .ok (.iconst 1, 1) := by decide +kernel
theorem d_FW_saysSomethingElse_36 : decode b_FW_saysSomethingElse 36 = .ok (.goto 4, 3) := by decide +kernel
theorem d_FW_saysSomethingElse_39 : decode b_FW_saysSomethingElse 39 = .ok (.iconst 0, 1) := by decide +kernel
theorem d_FW_saysSomethingElse_40 : decode b_FW_saysSomethingElse 40 = .ok (.ireturn, 1) := by decide +kernel
set_option maxHeartbeats 4000000 in
set_option maxRecDepth 100000 in
theorem t_FW_saysSomethingElse {l : Launch} {s0 : State} {D : va_G} {aC : Nat → ClassId} {a0 : Array Value} (G : gG l s0 D aC a0) (M : gMem) (r : gRef) (ow : Int64) (fu : Nat) (k1 : Nat) (k2 : Nat) (b1 : k1 < 24) (b2 : k2 < 145) (hno : F_FW_saysSomethingElse fu k1 k2 M r ≠ .no) : gMet l s0 D aC y_FW_saysSomethingElse (Cond.code y_FW_saysSomethingElse b_FW_saysSomethingElse 4 (some .boolean)) 3 75 0 0 [.ref (s0.heap.size + 376), .ref (s0.heap.size + oEl k1), .ref (s0.heap.size + oAt k2)] M r ow (qI (F_FW_saysSomethingElse fu k1 k2 M r)) (qT (F_FW_saysSomethingElse fu k1 k2 M r)) := by
  refine gm_of G (by decide) (Nat.le_of_ble_eq_true rfl) ?_
  intro p e s m below meth c ls B hexc hl hw
  have hx := B.1
  have hb := B.2.1
  have hown := B.2.2.2.2.2.1
  have T := B.2.2.2.2.2.2.1
  have hK := B.2.2.2.2.2.2.2.1
  have hF := F_FW_saysSomethingElse.eq_1 fu k1 k2 M r
  refine lv_aload_n hx hb d_FW_saysSomethingElse_0 rfl (lv_at hl 0 rfl) ?_
  refine gf_FW_tree hx hb T hown hK hw rfl (kf_FW_30 T) d_FW_saysSomethingElse_1 ?_
  refine lv_aload_n hx hb d_FW_saysSomethingElse_4 rfl (lv_at hl 1 rfl) ?_
  refine gf_El_around hx hb T hown hK hw (i := k1) b1 rfl (kf_FW_81 T) d_FW_saysSomethingElse_5 ?_
  rcases hq14 : r 1 k1 with _ | k_14
  · skip
    have hF := hF.trans (gcs_none hq14)
    refine lv_aload_n hx hb d_FW_saysSomethingElse_8 rfl (lv_at hl 2 rfl) ?_
    refine gy_V B hl.1 hw (t_At_declaredStart G _ _ ow fu k2 b2 (nn hno hF)) (kd_At_declaredStart T) (ki_At T) (km_FW_85 T) (ka_At_declaredStart T) (ks_At_declaredStart T) ⟨by decide, by decide, by rfl⟩ (rv_At hK hw (i := k2) b2 rfl) rfl (Nat.le_of_ble_eq_true rfl) ⟨by decide, by decide⟩ ⟨by decide, by decide⟩ d_FW_saysSomethingElse_9 (fun v M15 r15 H locs hw hp => ?_) (fun x ek M15 r15 H locs hw hE hp => gr_t B hexc hw hE (by decide) (by decide) (hF.trans (bnd_ex hp)))
    obtain ⟨v15, rfl, hp⟩ := hp
    have hF := hF.trans (bnd_ok hp)
    refine lv_aload_n hx hb d_FW_saysSomethingElse_12 rfl (lv_at hl 2 rfl) ?_
    refine gf_At_name hx hb T hown hK hw (i := k2) b2 rfl (kf_FW_89 T) d_FW_saysSomethingElse_13 ?_
    have n16 : k2 < 170 := Nat.lt_trans b2 (by decide)
    refine gf_Nm_end hx hb T hown hK hw (i := k2) n16 rfl (kf_FW_90 T) d_FW_saysSomethingElse_16 ?_
    refine gy_V B hl.1 hw (t_Tr_declarationFor_n G _ _ ow fu v15 (M15 22 k2) (nn hno hF)) (kd_Tr_declarationFor T) (ki_Tr T) (km_FW_95 T) (ka_Tr_declarationFor T) (ks_Tr_declarationFor T) ⟨by decide, by decide, by rfl⟩ (rv_Tr hK hw rfl) rfl (Nat.le_of_ble_eq_true rfl) ⟨by decide, by decide⟩ ⟨by decide, by decide⟩ d_FW_saysSomethingElse_19 (fun v M17 r17 H locs hw hp => ?_) (fun x ek M17 r17 H locs hw hE hp => gr_t B hexc hw hE (by decide) (by decide) (hF.trans (bnd_ex hp)))
    obtain ⟨v17, rfl, hp⟩ := hp
    have hF := hF.trans (bnd_ok hp)
    rcases hq18 : v17 with _ | k_18
    · skip
      have hF := hF.trans (gcs_none hq18)
      refine lv_astore_nN hx hb d_FW_saysSomethingElse_22 rfl hl (by decide) rfl (fun ls hl => ?_)
      refine lv_aload_n hx hb d_FW_saysSomethingElse_23 rfl (lv_at hl 1 rfl) ?_
      refine gf_FW_tree hx hb T hown hK hw rfl (kf_FW_30 T) d_FW_saysSomethingElse_24 ?_
      refine lv_aload_nN hx hb d_FW_saysSomethingElse_27 rfl (lv_at hl 0 rfl) ?_
      refine lv_aload_n hx hb d_FW_saysSomethingElse_28 rfl (lv_at hl 3 rfl) ?_
      exact absurd hF hno
    · skip
      have hF := hF.trans (gcs_some hq18)
      have b_18 := ng hno hF
      have hF := hF.trans (gd_yes b_18)
      refine lv_astore_n hx hb d_FW_saysSomethingElse_22 rfl hl (by decide) rfl (fun ls hl => ?_)
      refine lv_aload_n hx hb d_FW_saysSomethingElse_23 rfl (lv_at hl 1 rfl) ?_
      refine gf_FW_tree hx hb T hown hK hw rfl (kf_FW_30 T) d_FW_saysSomethingElse_24 ?_
      refine lv_aload_n hx hb d_FW_saysSomethingElse_27 rfl (lv_at hl 0 rfl) ?_
      refine lv_aload_n hx hb d_FW_saysSomethingElse_28 rfl (lv_at hl 3 rfl) ?_
      refine gy_V B hl.1 hw (t_Tr_sameValue G _ _ ow fu k_18 k2 b_18 b2 (nn hno hF)) (kd_Tr_sameValue T) (ki_Tr T) (km_FW_101 T) (ka_Tr_sameValue T) (ks_Tr_sameValue T) ⟨by decide, by decide, by rfl⟩ (rv_Tr hK hw rfl) rfl (Nat.le_of_ble_eq_true rfl) ⟨by decide, by decide⟩ ⟨by decide, by decide⟩ d_FW_saysSomethingElse_29 (fun v M19 r19 H locs hw hp => ?_) (fun x ek M19 r19 H locs hw hE hp => gr_t B hexc hw hE (by decide) (by decide) (hF.trans (bnd_ex hp)))
      obtain ⟨v19, rfl, hp⟩ := hp
      have hF := hF.trans (bnd_ok hp)
      refine lv_if_ne hx hb d_FW_saysSomethingElse_32 rfl (fun h20 => ?_) (fun h20 => ?_)
      · skip
        have hF := hF.trans (if_neg h20)
        refine lv_iconst (v := 0) hx hb d_FW_saysSomethingElse_39 (by decide) ?_
        exact gr_z B hw (by rfl) d_FW_saysSomethingElse_40 ⟨_, rfl, hF⟩
      · skip
        have hF := hF.trans (if_pos h20)
        refine lv_iconst (v := 1) hx hb d_FW_saysSomethingElse_35 (by decide) ?_
        refine lv_goto hx hb d_FW_saysSomethingElse_36 rfl ?_
        exact gr_z B hw (by rfl) d_FW_saysSomethingElse_40 ⟨_, rfl, hF⟩
  · skip
    have hF := hF.trans (gcs_some hq14)
    have b_14 := ng hno hF
    have hF := hF.trans (gd_yes b_14)
    refine lv_aload_n hx hb d_FW_saysSomethingElse_8 rfl (lv_at hl 2 rfl) ?_
    refine gy_V B hl.1 hw (t_At_declaredStart G _ _ ow fu k2 b2 (nn hno hF)) (kd_At_declaredStart T) (ki_At T) (km_FW_85 T) (ka_At_declaredStart T) (ks_At_declaredStart T) ⟨by decide, by decide, by rfl⟩ (rv_At hK hw (i := k2) b2 rfl) rfl (Nat.le_of_ble_eq_true rfl) ⟨by decide, by decide⟩ ⟨by decide, by decide⟩ d_FW_saysSomethingElse_9 (fun v M21 r21 H locs hw hp => ?_) (fun x ek M21 r21 H locs hw hE hp => gr_t B hexc hw hE (by decide) (by decide) (hF.trans (bnd_ex hp)))
    obtain ⟨v21, rfl, hp⟩ := hp
    have hF := hF.trans (bnd_ok hp)
    refine lv_aload_n hx hb d_FW_saysSomethingElse_12 rfl (lv_at hl 2 rfl) ?_
    refine gf_At_name hx hb T hown hK hw (i := k2) b2 rfl (kf_FW_89 T) d_FW_saysSomethingElse_13 ?_
    have n22 : k2 < 170 := Nat.lt_trans b2 (by decide)
    refine gf_Nm_end hx hb T hown hK hw (i := k2) n22 rfl (kf_FW_90 T) d_FW_saysSomethingElse_16 ?_
    refine gy_V B hl.1 hw (t_Tr_declarationFor G _ _ ow fu k_14 v21 (M21 22 k2) b_14 (nn hno hF)) (kd_Tr_declarationFor T) (ki_Tr T) (km_FW_95 T) (ka_Tr_declarationFor T) (ks_Tr_declarationFor T) ⟨by decide, by decide, by rfl⟩ (rv_Tr hK hw rfl) rfl (Nat.le_of_ble_eq_true rfl) ⟨by decide, by decide⟩ ⟨by decide, by decide⟩ d_FW_saysSomethingElse_19 (fun v M23 r23 H locs hw hp => ?_) (fun x ek M23 r23 H locs hw hE hp => gr_t B hexc hw hE (by decide) (by decide) (hF.trans (bnd_ex hp)))
    obtain ⟨v23, rfl, hp⟩ := hp
    have hF := hF.trans (bnd_ok hp)
    rcases hq24 : v23 with _ | k_24
    · skip
      have hF := hF.trans (gcs_none hq24)
      refine lv_astore_nN hx hb d_FW_saysSomethingElse_22 rfl hl (by decide) rfl (fun ls hl => ?_)
      refine lv_aload_n hx hb d_FW_saysSomethingElse_23 rfl (lv_at hl 1 rfl) ?_
      refine gf_FW_tree hx hb T hown hK hw rfl (kf_FW_30 T) d_FW_saysSomethingElse_24 ?_
      refine lv_aload_nN hx hb d_FW_saysSomethingElse_27 rfl (lv_at hl 0 rfl) ?_
      refine lv_aload_n hx hb d_FW_saysSomethingElse_28 rfl (lv_at hl 3 rfl) ?_
      exact absurd hF hno
    · skip
      have hF := hF.trans (gcs_some hq24)
      have b_24 := ng hno hF
      have hF := hF.trans (gd_yes b_24)
      refine lv_astore_n hx hb d_FW_saysSomethingElse_22 rfl hl (by decide) rfl (fun ls hl => ?_)
      refine lv_aload_n hx hb d_FW_saysSomethingElse_23 rfl (lv_at hl 1 rfl) ?_
      refine gf_FW_tree hx hb T hown hK hw rfl (kf_FW_30 T) d_FW_saysSomethingElse_24 ?_
      refine lv_aload_n hx hb d_FW_saysSomethingElse_27 rfl (lv_at hl 0 rfl) ?_
      refine lv_aload_n hx hb d_FW_saysSomethingElse_28 rfl (lv_at hl 3 rfl) ?_
      refine gy_V B hl.1 hw (t_Tr_sameValue G _ _ ow fu k_24 k2 b_24 b2 (nn hno hF)) (kd_Tr_sameValue T) (ki_Tr T) (km_FW_101 T) (ka_Tr_sameValue T) (ks_Tr_sameValue T) ⟨by decide, by decide, by rfl⟩ (rv_Tr hK hw rfl) rfl (Nat.le_of_ble_eq_true rfl) ⟨by decide, by decide⟩ ⟨by decide, by decide⟩ d_FW_saysSomethingElse_29 (fun v M25 r25 H locs hw hp => ?_) (fun x ek M25 r25 H locs hw hE hp => gr_t B hexc hw hE (by decide) (by decide) (hF.trans (bnd_ex hp)))
      obtain ⟨v25, rfl, hp⟩ := hp
      have hF := hF.trans (bnd_ok hp)
      refine lv_if_ne hx hb d_FW_saysSomethingElse_32 rfl (fun h26 => ?_) (fun h26 => ?_)
      · skip
        have hF := hF.trans (if_neg h26)
        refine lv_iconst (v := 0) hx hb d_FW_saysSomethingElse_39 (by decide) ?_
        exact gr_z B hw (by rfl) d_FW_saysSomethingElse_40 ⟨_, rfl, hF⟩
      · skip
        have hF := hF.trans (if_pos h26)
        refine lv_iconst (v := 1) hx hb d_FW_saysSomethingElse_35 (by decide) ?_
        refine lv_goto hx hb d_FW_saysSomethingElse_36 rfl ?_
        exact gr_z B hw (by rfl) d_FW_saysSomethingElse_40 ⟨_, rfl, hF⟩
theorem d_FW_putName_0 : decode b_FW_putName 0 = .ok (.aload_n 1, 1) := by decide +kernel
theorem d_FW_putName_1 : decode b_FW_putName 1 = .ok (.getfield 131, 3) := by decide +kernel
theorem d_FW_putName_4 : decode b_FW_putName 4 = .ok (.istore_n 2, 1) := by decide +kernel
theorem d_FW_putName_5 : decode b_FW_putName 5 = .ok (.iload_n 2, 1) := by decide +kernel
theorem d_FW_putName_6 : decode b_FW_putName 6 = .ok (.aload_n 1, 1) := by decide +kernel
theorem d_FW_putName_7 : decode b_FW_putName 7 = .ok (.getfield 90, 3) := by decide +kernel
theorem d_FW_putName_10 : decode b_FW_putName 10 = .ok (.if_icmp .ge 27, 3) := by decide +kernel
theorem d_FW_putName_13 : decode b_FW_putName 13 = .ok (.aload_n 0, 1) := by decide +kernel
theorem d_FW_putName_14 : decode b_FW_putName 14 = .ok (.getfield 14, 3) := by decide +kernel
theorem d_FW_putName_17 : decode b_FW_putName 17 = .ok (.aload_n 0, 1) := by decide +kernel
theorem d_FW_putName_18 : decode b_FW_putName 18 = .ok (.getfield 30, 3) := by decide +kernel
theorem d_FW_putName_21 : decode b_FW_putName 21 = .ok (.getfield 108, 3) := by decide +kernel
theorem d_FW_putName_24 : decode b_FW_putName 24 = .ok (.iload_n 2, 1) := by decide +kernel
theorem d_FW_putName_25 : decode b_FW_putName 25 = .ok (.invokevirtual 134, 3) := by decide +kernel
theorem d_FW_putName_28 : decode b_FW_putName 28 = .ok (.invokevirtual 54, 3) := by decide +kernel
theorem d_FW_putName_31 : decode b_FW_putName 31 = .ok (.iinc 2 1, 3) := by decide +kernel
theorem d_FW_putName_34 : decode b_FW_putName 34 = .ok (.goto (-29), 3) := by decide +kernel
theorem d_FW_putName_37 : decode b_FW_putName 37 = .ok (.return_, 1) := by decide +kernel
set_option maxHeartbeats 4000000 in
set_option maxRecDepth 100000 in
theorem t_FW_putName {l : Launch} {s0 : State} {D : va_G} {aC : Nat → ClassId} {a0 : Array Value} (G : gG l s0 D aC a0) (M : gMem) (r : gRef) (ow : Int64) (fu : Nat) (k1 : Nat) (b1 : k1 < 170) (hno : F_FW_putName fu k1 M r ≠ .no) : gMet l s0 D aC y_FW_putName (Cond.code y_FW_putName b_FW_putName 3 none) 1 21 0 0 [.ref (s0.heap.size + 376), .ref (s0.heap.size + oNm k1)] M r ow (qV (F_FW_putName fu k1 M r)) (qT (F_FW_putName fu k1 M r)) := by
  refine gm_of G (by decide) (Nat.le_of_ble_eq_true rfl) ?_
  intro p e s m below meth c ls B hexc hl hw
  have hx := B.1
  have hb := B.2.1
  have hown := B.2.2.2.2.2.1
  have T := B.2.2.2.2.2.2.1
  have hK := B.2.2.2.2.2.2.2.1
  have X37 : ∀ (M1 : gMem) (r1 : gRef) (H : Heap) (locs : List Loc) (ls : Array Slot), lv_has ls 3 [] → gWd s0 D aC M1 r1 ow H locs → F_FW_putName fu k1 M r = F_FW_putName_B37 fu k1 M1 r1 → W p l e (gRm 1 21 0 0) s m ([.ref (s0.heap.size + 376), .ref (s0.heap.size + oNm k1)] : List Value).toArray below meth c H locs 0 0 (gt_Q below (gQ s0 D aC ow (qV (F_FW_putName fu k1 M r)) (qT (F_FW_putName fu k1 M r))) s 0 0 0 0 (fun q => s0.heap.size ≤ q)) (F0 m 37 ls []) := by
    intro  M1 r1 H locs ls hl hw hF
    have hF := hF.trans (F_FW_putName_B37.eq_1 _ _ _ _)
    exact gr_v B hw d_FW_putName_37 ⟨rfl, hF⟩
  have L5 : ∀ (d : Nat) (x2 : Int32) (M1 : gMem) (r1 : gRef) (H : Heap) (locs : List Loc) (ls : Array Slot), lv_has ls 3 [(2, .int x2), (0, .ref (s0.heap.size + 376)), (1, .ref (s0.heap.size + oNm k1))] → gWd s0 D aC M1 r1 ow H locs → F_FW_putName fu k1 M r = F_FW_putName_L5 fu k1 d x2 M1 r1 → W p l e (gRm 1 21 0 0) s m ([.ref (s0.heap.size + 376), .ref (s0.heap.size + oNm k1)] : List Value).toArray below meth c H locs 0 0 (gt_Q below (gQ s0 D aC ow (qV (F_FW_putName fu k1 M r)) (qT (F_FW_putName fu k1 M r))) s 0 0 0 0 (fun q => s0.heap.size ≤ q)) (F0 m 5 ls []) := by
    intro d
    induction d with
    | zero => intro x2 M1 r1 H locs ls hl hw hF; exact absurd hF hno
    | succ d ih =>
      intro x2 M1 r1 H locs ls hl hw hF
      have hF := hF.trans (F_FW_putName_L5.eq_2 _ _ _ _ _ _)
      refine lv_iload_n hx hb d_FW_putName_5 rfl (lv_at hl 0 rfl) ?_
      refine lv_aload_n hx hb d_FW_putName_6 rfl (lv_at hl 2 rfl) ?_
      refine gf_Nm_end hx hb T hown hK hw (i := k1) b1 rfl (kf_FW_90 T) d_FW_putName_7 ?_
      refine lv_icmp_ge hx hb d_FW_putName_10 rfl (fun h4 => ?_) (fun h4 => ?_)
      · skip
        have hF := hF.trans (if_pos h4)
        exact X37  _ _ _ _ _ (gv_loc hl [] rfl) hw hF
      · skip
        have hF := hF.trans (if_neg h4)
        refine lv_aload_n hx hb d_FW_putName_13 rfl (lv_at hl 1 rfl) ?_
        refine gf_FW_form hx hb T hown hK hw rfl (kf_FW_14 T) d_FW_putName_14 ?_
        refine lv_aload_n hx hb d_FW_putName_17 rfl (lv_at hl 1 rfl) ?_
        refine gf_FW_tree hx hb T hown hK hw rfl (kf_FW_30 T) d_FW_putName_18 ?_
        refine gf_Tr_text hx hb T hown hK hw rfl (kf_FW_108 T) d_FW_putName_21 ?_
        refine lv_iload_n hx hb d_FW_putName_24 rfl (lv_at hl 0 rfl) ?_
        refine gy_V B hl.1 hw (t_Row_at G _ _ ow fu 2 x2 (by decide) (nn hno hF)) (kd_Row_at T) (ki_Row T) (km_FW_134 T) (ka_Row_at T) (ks_Row_at T) ⟨by decide, by decide, by rfl⟩ (rv_Row hK hw (i := 2) (by decide) rfl) rfl (Nat.le_of_ble_eq_true rfl) ⟨by decide, by decide⟩ ⟨by decide, by decide⟩ d_FW_putName_25 (fun v M5 r5 H locs hw hp => ?_) (fun x ek M5 r5 H locs hw hE hp => gr_t B hexc hw hE (by decide) (by decide) (hF.trans (bnd_ex hp)))
        obtain ⟨v5, rfl, hp⟩ := hp
        have hF := hF.trans (bnd_ok hp)
        refine gy_V B hl.1 hw (t_Row_put G _ _ ow fu 5 v5 (by decide) (nn hno hF)) (kd_Row_put T) (ki_Row T) (km_FW_54 T) (ka_Row_put T) (ks_Row_put T) ⟨by decide, by decide, by rfl⟩ (rv_Row hK hw (i := 5) (by decide) rfl) rfl (Nat.le_of_ble_eq_true rfl) ⟨by decide, by decide⟩ ⟨by decide, by decide⟩ d_FW_putName_28 (fun v M6 r6 H locs hw hp => ?_) (fun x ek M6 r6 H locs hw hE hp => gr_t B hexc hw hE (by decide) (by decide) (hF.trans (bnd_ex hp)))
        obtain ⟨rfl, hp⟩ := hp
        have hF := hF.trans (bnd_ok hp)
        refine lv_iinc (k := 0) hx hb d_FW_putName_31 hl rfl (show _ + Int32.ofInt 1 = _ + 1 from rfl) (by decide) rfl (fun ls hl => ?_)
        refine lv_goto hx hb d_FW_putName_34 rfl ?_
        exact ih (x2 + 1) _ _ _ _ _ (gv_loc hl [0, 1, 2] rfl) hw hF
  have hF := F_FW_putName.eq_1 fu k1 M r
  refine lv_aload_n hx hb d_FW_putName_0 rfl (lv_at hl 1 rfl) ?_
  refine gf_Nm_start hx hb T hown hK hw (i := k1) b1 rfl (kf_FW_131 T) d_FW_putName_1 ?_
  refine lv_istore_n hx hb d_FW_putName_4 rfl hl (by decide) rfl (fun ls hl => ?_)
  exact L5 fu (M 20 k1) _ _ _ _ _ (gv_loc hl [0, 1, 2] rfl) hw hF
set_option maxHeartbeats 4000000 in
set_option maxRecDepth 100000 in
theorem t_Tr_addContent_n {l : Launch} {s0 : State} {D : va_G} {aC : Nat → ClassId} {a0 : Array Value} (G : gG l s0 D aC a0) (M : gMem) (r : gRef) (ow : Int64) (fu : Nat) (x2 : Int32)  (hno : F_Tr_addContent_n fu x2 M r ≠ .no) : gMet l s0 D aC y_Tr_addContent (Cond.code y_Tr_addContent b_Tr_addContent 3 none) 0 0 0 0 [.ref (s0.heap.size + 5), .null, .int x2] M r ow (qV (F_Tr_addContent_n fu x2 M r)) (qT (F_Tr_addContent_n fu x2 M r)) := by
  refine gm_of G (by decide) (Nat.le_of_ble_eq_true rfl) ?_
  intro p e s m below meth c ls B hexc hl hw
  have hx := B.1
  have hb := B.2.1
  have hown := B.2.2.2.2.2.1
  have T := B.2.2.2.2.2.2.1
  have hK := B.2.2.2.2.2.2.2.1
  have hF := F_Tr_addContent_n.eq_1 fu x2 M r
  refine lv_aload_n hx hb d_Tr_addContent_0 rfl (lv_at hl 0 rfl) ?_
  refine gf_Tr_content hx hb T hown hK hw rfl (kf_Tr_23 T) d_Tr_addContent_1 ?_
  refine gf_Row_size hx hb T hown hK hw (i := 4) (by decide) rfl (kf_Tr_52 T) d_Tr_addContent_4 ?_
  refine lv_sipush (v := 240) hx hb d_Tr_addContent_7 (by decide) ?_
  refine lv_icmp_ge hx hb d_Tr_addContent_10 rfl (fun h2 => ?_) (fun h2 => ?_)
  · skip
    have hF := hF.trans (if_pos h2)
    exact gr_v B hw d_Tr_addContent_47 ⟨rfl, hF⟩
  · skip
    have hF := hF.trans (if_neg h2)
    refine lv_aload_n hx hb d_Tr_addContent_13 rfl (lv_at hl 0 rfl) ?_
    refine gf_Tr_owners hx hb T hown hK hw rfl (kf_Tr_26 T) d_Tr_addContent_14 ?_
    refine lv_aload_n hx hb d_Tr_addContent_17 rfl (lv_at hl 0 rfl) ?_
    refine gf_Tr_content hx hb T hown hK hw rfl (kf_Tr_23 T) d_Tr_addContent_18 ?_
    refine gf_Row_size hx hb T hown hK hw (i := 4) (by decide) rfl (kf_Tr_52 T) d_Tr_addContent_21 ?_
    refine lv_aload_nN hx hb d_Tr_addContent_24 rfl (lv_at hl 1 rfl) ?_
    exact absurd hF hno
set_option maxHeartbeats 4000000 in
set_option maxRecDepth 100000 in
theorem t_Tr_addContent {l : Launch} {s0 : State} {D : va_G} {aC : Nat → ClassId} {a0 : Array Value} (G : gG l s0 D aC a0) (M : gMem) (r : gRef) (ow : Int64) (fu : Nat) (k1 : Nat) (x2 : Int32) (b1 : k1 < 24) (hno : F_Tr_addContent fu k1 x2 M r ≠ .no) : gMet l s0 D aC y_Tr_addContent (Cond.code y_Tr_addContent b_Tr_addContent 3 none) 1 21 0 0 [.ref (s0.heap.size + 5), .ref (s0.heap.size + oEl k1), .int x2] M r ow (qV (F_Tr_addContent fu k1 x2 M r)) (qT (F_Tr_addContent fu k1 x2 M r)) := by
  refine gm_of G (by decide) (Nat.le_of_ble_eq_true rfl) ?_
  intro p e s m below meth c ls B hexc hl hw
  have hx := B.1
  have hb := B.2.1
  have hown := B.2.2.2.2.2.1
  have T := B.2.2.2.2.2.2.1
  have hK := B.2.2.2.2.2.2.2.1
  have hF := F_Tr_addContent.eq_1 fu k1 x2 M r
  refine lv_aload_n hx hb d_Tr_addContent_0 rfl (lv_at hl 0 rfl) ?_
  refine gf_Tr_content hx hb T hown hK hw rfl (kf_Tr_23 T) d_Tr_addContent_1 ?_
  refine gf_Row_size hx hb T hown hK hw (i := 4) (by decide) rfl (kf_Tr_52 T) d_Tr_addContent_4 ?_
  refine lv_sipush (v := 240) hx hb d_Tr_addContent_7 (by decide) ?_
  refine lv_icmp_ge hx hb d_Tr_addContent_10 rfl (fun h4 => ?_) (fun h4 => ?_)
  · skip
    have hF := hF.trans (if_pos h4)
    exact gr_v B hw d_Tr_addContent_47 ⟨rfl, hF⟩
  · skip
    have hF := hF.trans (if_neg h4)
    refine lv_aload_n hx hb d_Tr_addContent_13 rfl (lv_at hl 0 rfl) ?_
    refine gf_Tr_owners hx hb T hown hK hw rfl (kf_Tr_26 T) d_Tr_addContent_14 ?_
    refine lv_aload_n hx hb d_Tr_addContent_17 rfl (lv_at hl 0 rfl) ?_
    refine gf_Tr_content hx hb T hown hK hw rfl (kf_Tr_23 T) d_Tr_addContent_18 ?_
    refine gf_Row_size hx hb T hown hK hw (i := 4) (by decide) rfl (kf_Tr_52 T) d_Tr_addContent_21 ?_
    refine lv_aload_n hx hb d_Tr_addContent_24 rfl (lv_at hl 1 rfl) ?_
    refine gf_El_number hx hb T hown hK hw (i := k1) b1 rfl (kf_Tr_60 T) d_Tr_addContent_25 ?_
    have g5 := ng hno hF
    have hF := hF.trans (gd_yes g5)
    refine gs_ow hx hb hK hw rfl g5 d_Tr_addContent_28 (fun H locs hw => ?_)
    refine lv_aload_n hx hb d_Tr_addContent_29 rfl (lv_at hl 0 rfl) ?_
    refine gf_Tr_content hx hb T hown hK hw rfl (kf_Tr_23 T) d_Tr_addContent_30 ?_
    refine lv_iload_n hx hb d_Tr_addContent_33 rfl (lv_at hl 2 rfl) ?_
    refine gy_V B hl.1 hw (t_Row_put G _ _ ow fu 4 x2 (by decide) (nn hno hF)) (kd_Row_put T) (ki_Row T) (km_Tr_63 T) (ka_Row_put T) (ks_Row_put T) ⟨by decide, by decide, by rfl⟩ (rv_Row hK hw (i := 4) (by decide) rfl) rfl (Nat.le_of_ble_eq_true rfl) ⟨by decide, by decide⟩ ⟨by decide, by decide⟩ d_Tr_addContent_34 (fun v M6 r6 H locs hw hp => ?_) (fun x ek M6 r6 H locs hw hE hp => gr_t B hexc hw hE (by decide) (by decide) (hF.trans (bnd_ex hp)))
    obtain ⟨rfl, hp⟩ := hp
    have hF := hF.trans (bnd_ok hp)
    refine lv_aload_n hx hb d_Tr_addContent_37 rfl (lv_at hl 1 rfl) ?_
    refine lv_dup hx hb d_Tr_addContent_38 rfl ?_
    refine gf_El_ownCharacters hx hb T hown hK hw (i := k1) b1 rfl (kf_Tr_67 T) d_Tr_addContent_39 ?_
    refine lv_iconst (v := 1) hx hb d_Tr_addContent_42 (by decide) ?_
    refine lv_iadd hx hb d_Tr_addContent_43 ?_
    refine pf_El_ownCharacters hx hb T hown hK hw (i := k1) b1 rfl (kf_Tr_67 T) d_Tr_addContent_44 (fun H locs hw => ?_)
    exact gr_v B hw d_Tr_addContent_47 ⟨rfl, hF⟩
set_option maxHeartbeats 4000000 in
set_option maxRecDepth 100000 in
theorem t_MR_reason {l : Launch} {s0 : State} {D : va_G} {aC : Nat → ClassId} {a0 : Array Value} (G : gG l s0 D aC a0) (M : gMem) (r : gRef) (ow : Int64) (fu : Nat)  (hno : F_MR_reason fu M r ≠ .no) : gMet l s0 D aC y_MR_reason (Cond.code y_MR_reason b_MR_reason 1 (some .int)) 0 0 0 0 [.ref (s0.heap.size + 0)] M r ow (qI (F_MR_reason fu M r)) (qT (F_MR_reason fu M r)) := by
  refine gm_of G (by decide) (Nat.le_of_ble_eq_true rfl) ?_
  intro p e s m below meth c ls B hexc hl hw
  have hx := B.1
  have hb := B.2.1
  have hown := B.2.2.2.2.2.1
  have T := B.2.2.2.2.2.2.1
  have hK := B.2.2.2.2.2.2.2.1
  have hF := F_MR_reason.eq_1 fu M r
  refine lv_aload_n hx hb d_MR_reason_0 rfl (lv_at hl 0 rfl) ?_
  refine gf_MR_reading hx hb T hown hK hw rfl (kf_MR_42 T) d_MR_reason_1 ?_
  refine gf_Rd_wrongReason hx hb T hown hK hw rfl (kf_MR_75 T) d_MR_reason_4 ?_
  exact gr_i B hw d_MR_reason_7 ⟨_, rfl, hF⟩
set_option maxHeartbeats 4000000 in
set_option maxRecDepth 100000 in
theorem t_MR_place {l : Launch} {s0 : State} {D : va_G} {aC : Nat → ClassId} {a0 : Array Value} (G : gG l s0 D aC a0) (M : gMem) (r : gRef) (ow : Int64) (fu : Nat)  (hno : F_MR_place fu M r ≠ .no) : gMet l s0 D aC y_MR_place (Cond.code y_MR_place b_MR_place 1 (some .int)) 0 0 0 0 [.ref (s0.heap.size + 0)] M r ow (qI (F_MR_place fu M r)) (qT (F_MR_place fu M r)) := by
  refine gm_of G (by decide) (Nat.le_of_ble_eq_true rfl) ?_
  intro p e s m below meth c ls B hexc hl hw
  have hx := B.1
  have hb := B.2.1
  have hown := B.2.2.2.2.2.1
  have T := B.2.2.2.2.2.2.1
  have hK := B.2.2.2.2.2.2.2.1
  have hF := F_MR_place.eq_1 fu M r
  refine lv_aload_n hx hb d_MR_place_0 rfl (lv_at hl 0 rfl) ?_
  refine gf_MR_reading hx hb T hown hK hw rfl (kf_MR_42 T) d_MR_place_1 ?_
  refine gf_Rd_wrongPlace hx hb T hown hK hw rfl (kf_MR_78 T) d_MR_place_4 ?_
  exact gr_i B hw d_MR_place_7 ⟨_, rfl, hF⟩
set_option maxHeartbeats 4000000 in
set_option maxRecDepth 100000 in
theorem t_Tr_find {l : Launch} {s0 : State} {D : va_G} {aC : Nat → ClassId} {a0 : Array Value} (G : gG l s0 D aC a0) (M : gMem) (r : gRef) (ow : Int64) (fu : Nat) (x1 : Int32)  (hno : F_Tr_find fu x1 M r ≠ .no) : gMet l s0 D aC y_Tr_find (Cond.code y_Tr_find b_Tr_find 2 (some (.object "MarkupReader$Element"))) 0 0 0 0 [.ref (s0.heap.size + 5), .int x1] M r ow (qE s0.heap.size (F_Tr_find fu x1 M r)) (qT (F_Tr_find fu x1 M r)) := by
  refine gm_of G (by decide) (Nat.le_of_ble_eq_true rfl) ?_
  intro p e s m below meth c ls B hexc hl hw
  have hx := B.1
  have hb := B.2.1
  have hown := B.2.2.2.2.2.1
  have T := B.2.2.2.2.2.2.1
  have hK := B.2.2.2.2.2.2.2.1
  have hF := F_Tr_find.eq_1 fu x1 M r
  refine lv_iload_n hx hb d_Tr_find_0 rfl (lv_at hl 1 rfl) ?_
  refine lv_if_lt hx hb d_Tr_find_1 rfl (fun h4 => ?_) (fun h4 => ?_)
  · skip
    have hF := hF.trans (if_pos h4)
    refine lv_null hx hb d_Tr_find_21 ?_
    exact gr_a (v := none) B hw d_Tr_find_22 ⟨none, rfl, hF⟩
  · skip
    have hF := hF.trans (if_neg h4)
    refine lv_iload_n hx hb d_Tr_find_4 rfl (lv_at hl 1 rfl) ?_
    refine lv_aload_n hx hb d_Tr_find_5 rfl (lv_at hl 0 rfl) ?_
    refine gf_Tr_size hx hb T hown hK hw rfl (kf_Tr_43 T) d_Tr_find_6 ?_
    refine lv_icmp_ge hx hb d_Tr_find_9 rfl (fun h5 => ?_) (fun h5 => ?_)
    · skip
      have hF := hF.trans (if_pos h5)
      refine lv_null hx hb d_Tr_find_21 ?_
      exact gr_a (v := none) B hw d_Tr_find_22 ⟨none, rfl, hF⟩
    · skip
      have hF := hF.trans (if_neg h5)
      refine lv_aload_n hx hb d_Tr_find_12 rfl (lv_at hl 0 rfl) ?_
      refine gf_Tr_elements hx hb T hown hK hw rfl (kf_Tr_32 T) d_Tr_find_13 ?_
      refine lv_iload_n hx hb d_Tr_find_16 rfl (lv_at hl 1 rfl) ?_
      have g6 := ng hno hF
      have hF := hF.trans (gd_yes g6)
      refine ga_es hx hb hK hw rfl g6 d_Tr_find_17 ?_
      have b106 := vin_lt g6
      refine lv_goto hx hb d_Tr_find_18 rfl ?_
      exact gr_a (v := some (s0.heap.size + oEl x1.toNatClampNeg)) B hw d_Tr_find_22 ⟨some x1.toNatClampNeg, rfl, hF⟩
set_option maxHeartbeats 4000000 in
set_option maxRecDepth 100000 in
theorem t_MR_element {l : Launch} {s0 : State} {D : va_G} {aC : Nat → ClassId} {a0 : Array Value} (G : gG l s0 D aC a0) (M : gMem) (r : gRef) (ow : Int64) (fu : Nat) (x1 : Int32) (x2 : Int32)  (hno : F_MR_element fu x1 x2 M r ≠ .no) : gMet l s0 D aC y_MR_element (Cond.code y_MR_element b_MR_element 4 (some .int)) 6 82 1 6 [.ref (s0.heap.size + 0), .int x1, .int x2] M r ow (qI (F_MR_element fu x1 x2 M r)) (qT (F_MR_element fu x1 x2 M r)) := by
  refine gm_of G (by decide) (Nat.le_of_ble_eq_true rfl) ?_
  intro p e s m below meth c ls B hexc hl hw
  have hx := B.1
  have hb := B.2.1
  have hown := B.2.2.2.2.2.1
  have T := B.2.2.2.2.2.2.1
  have hK := B.2.2.2.2.2.2.2.1
  have hF := F_MR_element.eq_1 fu x1 x2 M r
  refine lv_aload_n hx hb d_MR_element_0 rfl (lv_at hl 0 rfl) ?_
  refine gf_MR_tree hx hb T hown hK hw rfl (kf_MR_24 T) d_MR_element_1 ?_
  refine lv_iload_n hx hb d_MR_element_4 rfl (lv_at hl 1 rfl) ?_
  refine gy_V B hl.1 hw (t_Tr_find G _ _ ow fu x1 (nn hno hF)) (kd_Tr_find T) (ki_Tr T) (km_MR_81 T) (ka_Tr_find T) (ks_Tr_find T) ⟨by decide, by decide, by rfl⟩ (rv_Tr hK hw rfl) rfl (Nat.le_of_ble_eq_true rfl) ⟨by decide, by decide⟩ ⟨by decide, by decide⟩ d_MR_element_5 (fun v M11 r11 H locs hw hp => ?_) (fun x ek M11 r11 H locs hw hE hp => gr_t B hexc hw hE (by decide) (by decide) (hF.trans (bnd_ex hp)))
  obtain ⟨v11, rfl, hp⟩ := hp
  have hF := hF.trans (bnd_ok hp)
  rcases hq12 : v11 with _ | k_12
  · skip
    have hF := hF.trans (gcs_none hq12)
    refine lv_astore_nN hx hb d_MR_element_8 rfl hl (by decide) rfl (fun ls hl => ?_)
    refine lv_aload_nN hx hb d_MR_element_9 rfl (lv_at hl 0 rfl) ?_
    refine lv_ifnonnullN hx hb d_MR_element_10 ?_
    exact gx_IO B G.2.1 hexc hl.1 hw (kc_MR_85 T) (km_MR_89 T) (sx_MR_87 G.2.1) d_MR_element_13 d_MR_element_16 d_MR_element_17 d_MR_element_19 d_MR_element_22 (by decide) (by decide) (by decide) (Nat.le_of_ble_eq_true rfl) hF
  · skip
    have hF := hF.trans (gcs_some hq12)
    have b_12 := ng hno hF
    have hF := hF.trans (gd_yes b_12)
    refine lv_astore_n hx hb d_MR_element_8 rfl hl (by decide) rfl (fun ls hl => ?_)
    refine lv_aload_n hx hb d_MR_element_9 rfl (lv_at hl 0 rfl) ?_
    refine lv_ifnonnull hx hb d_MR_element_10 rfl ?_
    refine lv_iload_n hx hb d_MR_element_23 rfl (lv_at hl 3 rfl) ?_
    by_cases h24_0 : x2 = 0
    · skip
      have hF := hF.trans (if_pos h24_0)
      refine lv_tableIn (off := 36) hx hb d_MR_element_24 (by rw [h24_0]; decide) (by rw [h24_0]; decide) (by rw [h24_0]; rfl) rfl ?_
      refine lv_aload_n hx hb d_MR_element_60 rfl (lv_at hl 0 rfl) ?_
      refine gf_El_around hx hb T hown hK hw (i := k_12) b_12 rfl (kf_MR_90 T) d_MR_element_61 ?_
      rcases hq13 : r11 1 k_12 with _ | k_13
      · skip
        have hF := hF.trans (gcs_none hq13)
        refine lv_ifnonnullN hx hb d_MR_element_64 ?_
        refine lv_iconst (v := -1) hx hb d_MR_element_67 (by decide) ?_
        refine lv_goto hx hb d_MR_element_68 rfl ?_
        exact gr_i B hw d_MR_element_78 ⟨_, rfl, hF⟩
      · skip
        have hF := hF.trans (gcs_some hq13)
        have b_13 := ng hno hF
        have hF := hF.trans (gd_yes b_13)
        refine lv_ifnonnull hx hb d_MR_element_64 rfl ?_
        refine lv_aload_n hx hb d_MR_element_71 rfl (lv_at hl 0 rfl) ?_
        refine gf_El_around hx hb T hown hK hw (i := k_12) b_12 rfl (kf_MR_90 T) d_MR_element_72 ?_
        rcases hq14 : r11 1 k_12 with _ | k_14
        · skip
          have hF := hF.trans (gcs_none hq14)
          exact absurd hF hno
        · skip
          have hF := hF.trans (gcs_some hq14)
          have b_14 := ng hno hF
          have hF := hF.trans (gd_yes b_14)
          refine gf_El_number hx hb T hown hK hw (i := k_14) b_14 rfl (kf_MR_96 T) d_MR_element_75 ?_
          exact gr_i B hw d_MR_element_78 ⟨_, rfl, hF⟩
    have hF := hF.trans (if_neg h24_0)
    by_cases h24_1 : x2 = 1
    · skip
      have hF := hF.trans (if_pos h24_1)
      refine lv_tableIn (off := 55) hx hb d_MR_element_24 (by rw [h24_1]; decide) (by rw [h24_1]; decide) (by rw [h24_1]; rfl) rfl ?_
      refine lv_aload_n hx hb d_MR_element_79 rfl (lv_at hl 0 rfl) ?_
      refine gf_El_elementsInside hx hb T hown hK hw (i := k_12) b_12 rfl (kf_MR_99 T) d_MR_element_80 ?_
      exact gr_i B hw d_MR_element_83 ⟨_, rfl, hF⟩
    have hF := hF.trans (if_neg h24_1)
    by_cases h24_2 : x2 = 2
    · skip
      have hF := hF.trans (if_pos h24_2)
      refine lv_tableIn (off := 60) hx hb d_MR_element_24 (by rw [h24_2]; decide) (by rw [h24_2]; decide) (by rw [h24_2]; rfl) rfl ?_
      refine lv_aload_n hx hb d_MR_element_84 rfl (lv_at hl 0 rfl) ?_
      refine gf_El_attributeCount hx hb T hown hK hw (i := k_12) b_12 rfl (kf_MR_102 T) d_MR_element_85 ?_
      refine lv_aload_n hx hb d_MR_element_88 rfl (lv_at hl 0 rfl) ?_
      refine gf_El_declarationCount hx hb T hown hK hw (i := k_12) b_12 rfl (kf_MR_105 T) d_MR_element_89 ?_
      refine lv_isub hx hb d_MR_element_92 ?_
      exact gr_i B hw d_MR_element_93 ⟨_, rfl, hF⟩
    have hF := hF.trans (if_neg h24_2)
    by_cases h24_3 : x2 = 3
    · skip
      have hF := hF.trans (if_pos h24_3)
      refine lv_tableIn (off := 70) hx hb d_MR_element_24 (by rw [h24_3]; decide) (by rw [h24_3]; decide) (by rw [h24_3]; rfl) rfl ?_
      refine lv_aload_n hx hb d_MR_element_94 rfl (lv_at hl 0 rfl) ?_
      refine gf_El_ownCharacters hx hb T hown hK hw (i := k_12) b_12 rfl (kf_MR_108 T) d_MR_element_95 ?_
      exact gr_i B hw d_MR_element_98 ⟨_, rfl, hF⟩
    have hF := hF.trans (if_neg h24_3)
    by_cases h24_4 : x2 = 4
    · skip
      have hF := hF.trans (if_pos h24_4)
      refine lv_tableIn (off := 75) hx hb d_MR_element_24 (by rw [h24_4]; decide) (by rw [h24_4]; decide) (by rw [h24_4]; rfl) rfl ?_
      refine lv_aload_n hx hb d_MR_element_99 rfl (lv_at hl 0 rfl) ?_
      refine gf_El_name hx hb T hown hK hw (i := k_12) b_12 rfl (kf_MR_111 T) d_MR_element_100 ?_
      have n15 : 145 + k_12 < 170 := by have := b_12; omega
      refine gy_V B hl.1 hw (t_Nm_hasSpace G _ _ ow fu (145 + k_12) n15 (nn hno hF)) (kd_Nm_hasSpace T) (ki_Nm T) (km_MR_115 T) (ka_Nm_hasSpace T) (ks_Nm_hasSpace T) ⟨by decide, by decide, by rfl⟩ (rv_Nm hK hw (i := (145 + k_12)) n15 rfl) rfl (Nat.le_of_ble_eq_true rfl) ⟨by decide, by decide⟩ ⟨by decide, by decide⟩ d_MR_element_103 (fun v M16 r16 H locs hw hp => ?_) (fun x ek M16 r16 H locs hw hE hp => gr_t B hexc hw hE (by decide) (by decide) (hF.trans (bnd_ex hp)))
      obtain ⟨v16, rfl, hp⟩ := hp
      have hF := hF.trans (bnd_ok hp)
      refine lv_if_eq hx hb d_MR_element_106 rfl (fun h17 => ?_) (fun h17 => ?_)
      · skip
        have hF := hF.trans (if_pos h17)
        refine lv_iconst (v := -1) hx hb d_MR_element_122 (by decide) ?_
        exact gr_i B hw d_MR_element_123 ⟨_, rfl, hF⟩
      · skip
        have hF := hF.trans (if_neg h17)
        refine lv_aload_n hx hb d_MR_element_109 rfl (lv_at hl 0 rfl) ?_
        refine gf_El_name hx hb T hown hK hw (i := k_12) b_12 rfl (kf_MR_111 T) d_MR_element_110 ?_
        have n18 : 145 + k_12 < 170 := by have := b_12; omega
        refine gf_Nm_space hx hb T hown hK hw (i := (145 + k_12)) n18 rfl (kf_MR_121 T) d_MR_element_113 ?_
        rcases hq19 : r16 0 (145 + k_12) with _ | k_19
        · skip
          have hF := hF.trans (gcs_none hq19)
          exact absurd hF hno
        · skip
          have hF := hF.trans (gcs_some hq19)
          have b_19 := ng hno hF
          have hF := hF.trans (gd_yes b_19)
          refine gy_V B hl.1 hw (t_At_valueLength G _ _ ow fu k_19 b_19 (nn hno hF)) (kd_At_valueLength T) (ki_At T) (km_MR_125 T) (ka_At_valueLength T) (ks_At_valueLength T) ⟨by decide, by decide, by rfl⟩ (rv_At hK hw (i := k_19) b_19 rfl) rfl (Nat.le_of_ble_eq_true rfl) ⟨by decide, by decide⟩ ⟨by decide, by decide⟩ d_MR_element_116 (fun v M20 r20 H locs hw hp => ?_) (fun x ek M20 r20 H locs hw hE hp => gr_t B hexc hw hE (by decide) (by decide) (hF.trans (bnd_ex hp)))
          obtain ⟨v20, rfl, hp⟩ := hp
          have hF := hF.trans (bnd_ok hp)
          refine lv_goto hx hb d_MR_element_119 rfl ?_
          exact gr_i B hw d_MR_element_123 ⟨_, rfl, hF⟩
    have hF := hF.trans (if_neg h24_4)
    refine lv_tableOut hx hb d_MR_element_24 (gsw5 h24_0 h24_1 h24_2 h24_3 h24_4) rfl ?_
    exact gx_IA B G.2.1 hexc hl.1 hw (kc_MR_50 T) (km_MR_54 T) (sx_MR_131 G.2.1) d_MR_element_124 d_MR_element_127 d_MR_element_128 d_MR_element_130 d_MR_element_133 (by decide) (by decide) (by decide) (Nat.le_of_ble_eq_true rfl) hF
set_option maxHeartbeats 4000000 in
set_option maxRecDepth 100000 in
theorem t_MR_name {l : Launch} {s0 : State} {D : va_G} {aC : Nat → ClassId} {a0 : Array Value} (G : gG l s0 D aC a0) (M : gMem) (r : gRef) (ow : Int64) (fu : Nat) (x1 : Int32) (x2 : Int32)  (hno : F_MR_name fu x1 x2 M r ≠ .no) : gMet l s0 D aC y_MR_name (Cond.code y_MR_name b_MR_name 4 (some .char)) 6 82 1 6 [.ref (s0.heap.size + 0), .int x1, .int x2] M r ow (qI (F_MR_name fu x1 x2 M r)) (qT (F_MR_name fu x1 x2 M r)) := by
  refine gm_of G (by decide) (Nat.le_of_ble_eq_true rfl) ?_
  intro p e s m below meth c ls B hexc hl hw
  have hx := B.1
  have hb := B.2.1
  have hown := B.2.2.2.2.2.1
  have T := B.2.2.2.2.2.2.1
  have hK := B.2.2.2.2.2.2.2.1
  have hF := F_MR_name.eq_1 fu x1 x2 M r
  refine lv_aload_n hx hb d_MR_name_0 rfl (lv_at hl 0 rfl) ?_
  refine gf_MR_tree hx hb T hown hK hw rfl (kf_MR_24 T) d_MR_name_1 ?_
  refine lv_iload_n hx hb d_MR_name_4 rfl (lv_at hl 1 rfl) ?_
  refine gy_V B hl.1 hw (t_Tr_find G _ _ ow fu x1 (nn hno hF)) (kd_Tr_find T) (ki_Tr T) (km_MR_81 T) (ka_Tr_find T) (ks_Tr_find T) ⟨by decide, by decide, by rfl⟩ (rv_Tr hK hw rfl) rfl (Nat.le_of_ble_eq_true rfl) ⟨by decide, by decide⟩ ⟨by decide, by decide⟩ d_MR_name_5 (fun v M10 r10 H locs hw hp => ?_) (fun x ek M10 r10 H locs hw hE hp => gr_t B hexc hw hE (by decide) (by decide) (hF.trans (bnd_ex hp)))
  obtain ⟨v10, rfl, hp⟩ := hp
  have hF := hF.trans (bnd_ok hp)
  rcases hq11 : v10 with _ | k_11
  · skip
    have hF := hF.trans (gcs_none hq11)
    refine lv_astore_nN hx hb d_MR_name_8 rfl hl (by decide) rfl (fun ls hl => ?_)
    refine lv_aload_nN hx hb d_MR_name_9 rfl (lv_at hl 0 rfl) ?_
    refine lv_ifnullN hx hb d_MR_name_10 rfl ?_
    exact gx_IO B G.2.1 hexc hl.1 hw (kc_MR_85 T) (km_MR_89 T) (sx_MR_139 G.2.1) d_MR_name_36 d_MR_name_39 d_MR_name_40 d_MR_name_42 d_MR_name_45 (by decide) (by decide) (by decide) (Nat.le_of_ble_eq_true rfl) hF
  · skip
    have hF := hF.trans (gcs_some hq11)
    have b_11 := ng hno hF
    have hF := hF.trans (gd_yes b_11)
    refine lv_astore_n hx hb d_MR_name_8 rfl hl (by decide) rfl (fun ls hl => ?_)
    refine lv_aload_n hx hb d_MR_name_9 rfl (lv_at hl 0 rfl) ?_
    refine lv_ifnull hx hb d_MR_name_10 ?_
    refine lv_iload_n hx hb d_MR_name_13 rfl (lv_at hl 3 rfl) ?_
    refine lv_if_lt hx hb d_MR_name_14 rfl (fun h12 => ?_) (fun h12 => ?_)
    · skip
      have hF := hF.trans (if_pos h12)
      exact gx_IO B G.2.1 hexc hl.1 hw (kc_MR_85 T) (km_MR_89 T) (sx_MR_139 G.2.1) d_MR_name_36 d_MR_name_39 d_MR_name_40 d_MR_name_42 d_MR_name_45 (by decide) (by decide) (by decide) (Nat.le_of_ble_eq_true rfl) hF
    · skip
      have hF := hF.trans (if_neg h12)
      refine lv_iload_n hx hb d_MR_name_17 rfl (lv_at hl 3 rfl) ?_
      refine lv_aload_n hx hb d_MR_name_18 rfl (lv_at hl 0 rfl) ?_
      refine gf_El_name hx hb T hown hK hw (i := k_11) b_11 rfl (kf_MR_111 T) d_MR_name_19 ?_
      have n13 : 145 + k_11 < 170 := by have := b_11; omega
      refine gf_Nm_end hx hb T hown hK hw (i := (145 + k_11)) n13 rfl (kf_MR_133 T) d_MR_name_22 ?_
      refine lv_aload_n hx hb d_MR_name_25 rfl (lv_at hl 0 rfl) ?_
      refine gf_El_name hx hb T hown hK hw (i := k_11) b_11 rfl (kf_MR_111 T) d_MR_name_26 ?_
      have n14 : 145 + k_11 < 170 := by have := b_11; omega
      refine gf_Nm_start hx hb T hown hK hw (i := (145 + k_11)) n14 rfl (kf_MR_136 T) d_MR_name_29 ?_
      refine lv_isub hx hb d_MR_name_32 ?_
      refine lv_icmp_lt hx hb d_MR_name_33 rfl (fun h15 => ?_) (fun h15 => ?_)
      · skip
        have hF := hF.trans (if_pos h15)
        refine lv_aload_n hx hb d_MR_name_46 rfl (lv_at hl 1 rfl) ?_
        refine gf_MR_tree hx hb T hown hK hw rfl (kf_MR_24 T) d_MR_name_47 ?_
        refine gf_Tr_text hx hb T hown hK hw rfl (kf_MR_141 T) d_MR_name_50 ?_
        refine lv_aload_n hx hb d_MR_name_53 rfl (lv_at hl 0 rfl) ?_
        refine gf_El_name hx hb T hown hK hw (i := k_11) b_11 rfl (kf_MR_111 T) d_MR_name_54 ?_
        have n16 : 145 + k_11 < 170 := by have := b_11; omega
        refine gf_Nm_start hx hb T hown hK hw (i := (145 + k_11)) n16 rfl (kf_MR_136 T) d_MR_name_57 ?_
        refine lv_iload_n hx hb d_MR_name_60 rfl (lv_at hl 3 rfl) ?_
        refine lv_iadd hx hb d_MR_name_61 ?_
        refine gy_V B hl.1 hw (t_Row_at G _ _ ow fu 2 ((M10 20 (145 + k_11)) + x2) (by decide) (nn hno hF)) (kd_Row_at T) (ki_Row T) (km_MR_144 T) (ka_Row_at T) (ks_Row_at T) ⟨by decide, by decide, by rfl⟩ (rv_Row hK hw (i := 2) (by decide) rfl) rfl (Nat.le_of_ble_eq_true rfl) ⟨by decide, by decide⟩ ⟨by decide, by decide⟩ d_MR_name_62 (fun v M17 r17 H locs hw hp => ?_) (fun x ek M17 r17 H locs hw hE hp => gr_t B hexc hw hE (by decide) (by decide) (hF.trans (bnd_ex hp)))
        obtain ⟨v17, rfl, hp⟩ := hp
        have hF := hF.trans (bnd_ok hp)
        have g18 := ng hno hF
        have hF := hF.trans (gd_yes g18)
        exact gr_z B hw g18 d_MR_name_65 ⟨_, rfl, hF⟩
      · skip
        have hF := hF.trans (if_neg h15)
        exact gx_IO B G.2.1 hexc hl.1 hw (kc_MR_85 T) (km_MR_89 T) (sx_MR_139 G.2.1) d_MR_name_36 d_MR_name_39 d_MR_name_40 d_MR_name_42 d_MR_name_45 (by decide) (by decide) (by decide) (Nat.le_of_ble_eq_true rfl) hF
theorem d_Tr_ownContentAt_0 : decode b_Tr_ownContentAt 0 = .ok (.iconst 0, 1) := by decide +kernel
theorem d_Tr_ownContentAt_1 : decode b_Tr_ownContentAt 1 = .ok (.istore_n 3, 1) := by decide +kernel
theorem d_Tr_ownContentAt_2 : decode b_Tr_ownContentAt 2 = .ok (.iconst 0, 1) := by decide +kernel
theorem d_Tr_ownContentAt_3 : decode b_Tr_ownContentAt 3 = .ok (.istore 4, 2) := by decide +kernel
theorem d_Tr_ownContentAt_5 : decode b_Tr_ownContentAt 5 = .ok (.iload 4, 2) := by decide +kernel
theorem d_Tr_ownContentAt_7 : decode b_Tr_ownContentAt 7 = .ok (.aload_n 0, 1) := by decide +kernel
theorem d_Tr_ownContentAt_8 : decode b_Tr_ownContentAt 8 = .ok (.getfield 23, 3) := by decide +kernel
theorem d_Tr_ownContentAt_11 : decode b_Tr_ownContentAt 11 = .ok (.getfield 52, 3) := by decide +kernel
theorem d_Tr_ownContentAt_14 : decode b_Tr_ownContentAt 14 = .ok (.if_icmp .ge 34, 3) := by decide +kernel
theorem d_Tr_ownContentAt_17 : decode b_Tr_ownContentAt 17 = .ok (.aload_n 0, 1) := by decide +kernel
theorem d_Tr_ownContentAt_18 : decode b_Tr_ownContentAt 18 = .ok (.getfield 26, 3) := by decide +kernel
theorem d_Tr_ownContentAt_21 : decode b_Tr_ownContentAt 21 = .ok (.iload 4, 2) := by decide +kernel
theorem d_Tr_ownContentAt_23 : decode b_Tr_ownContentAt 23 = .ok (.iaload, 1) := by decide +kernel
theorem d_Tr_ownContentAt_24 : decode b_Tr_ownContentAt 24 = .ok (.aload_n 1, 1) := by decide +kernel
theorem d_Tr_ownContentAt_25 : decode b_Tr_ownContentAt 25 = .ok (.getfield 60, 3) := by decide +kernel
theorem d_Tr_ownContentAt_28 : decode b_Tr_ownContentAt 28 = .ok (.if_icmp .ne 14, 3) := by decide +kernel
theorem d_Tr_ownContentAt_31 : decode b_Tr_ownContentAt 31 = .ok (.iload_n 3, 1) := by decide +kernel
theorem d_Tr_ownContentAt_32 : decode b_Tr_ownContentAt 32 = .ok (.iload_n 2, 1) := by decide +kernel
theorem d_Tr_ownContentAt_33 : decode b_Tr_ownContentAt 33 = .ok (.if_icmp .ne 6, 3) := by decide +kernel
theorem d_Tr_ownContentAt_36 : decode b_Tr_ownContentAt 36 = .ok (.iload 4, 2) := by decide +kernel
theorem d_Tr_ownContentAt_38 : decode b_Tr_ownContentAt 38 = .ok (.ireturn, 1) := by decide +kernel
theorem d_Tr_ownContentAt_39 : decode b_Tr_ownContentAt 39 = .ok (.iinc 3 1, 3) := by decide +kernel
theorem d_Tr_ownContentAt_42 : decode b_Tr_ownContentAt 42 = .ok (.iinc 4 1, 3) := by decide +kernel
theorem d_Tr_ownContentAt_45 : decode b_Tr_ownContentAt 45 = .ok (.goto (-40), 3) := by decide +kernel
theorem d_Tr_ownContentAt_48 : decode b_Tr_ownContentAt 48 = .ok (.iconst (-1), 1) := by decide +kernel
theorem d_Tr_ownContentAt_49 : decode b_Tr_ownContentAt 49 = .ok (.ireturn, 1) := by decide +kernel
set_option maxHeartbeats 4000000 in
set_option maxRecDepth 100000 in
theorem t_Tr_ownContentAt {l : Launch} {s0 : State} {D : va_G} {aC : Nat → ClassId} {a0 : Array Value} (G : gG l s0 D aC a0) (M : gMem) (r : gRef) (ow : Int64) (fu : Nat) (k1 : Nat) (x2 : Int32) (b1 : k1 < 24) (hno : F_Tr_ownContentAt fu k1 x2 M r ≠ .no) : gMet l s0 D aC y_Tr_ownContentAt (Cond.code y_Tr_ownContentAt b_Tr_ownContentAt 5 (some .int)) 0 0 0 0 [.ref (s0.heap.size + 5), .ref (s0.heap.size + oEl k1), .int x2] M r ow (qI (F_Tr_ownContentAt fu k1 x2 M r)) (qT (F_Tr_ownContentAt fu k1 x2 M r)) := by
  refine gm_of G (by decide) (Nat.le_of_ble_eq_true rfl) ?_
  intro p e s m below meth c ls B hexc hl hw
  have hx := B.1
  have hb := B.2.1
  have hown := B.2.2.2.2.2.1
  have T := B.2.2.2.2.2.2.1
  have hK := B.2.2.2.2.2.2.2.1
  have X48 : ∀ (M1 : gMem) (r1 : gRef) (H : Heap) (locs : List Loc) (ls : Array Slot), lv_has ls 5 [] → gWd s0 D aC M1 r1 ow H locs → F_Tr_ownContentAt fu k1 x2 M r = F_Tr_ownContentAt_B48 fu k1 x2 M1 r1 → W p l e (gRm 0 0 0 0) s m ([.ref (s0.heap.size + 5), .ref (s0.heap.size + oEl k1), .int x2] : List Value).toArray below meth c H locs 0 0 (gt_Q below (gQ s0 D aC ow (qI (F_Tr_ownContentAt fu k1 x2 M r)) (qT (F_Tr_ownContentAt fu k1 x2 M r))) s 0 0 0 0 (fun q => s0.heap.size ≤ q)) (F0 m 48 ls []) := by
    intro  M1 r1 H locs ls hl hw hF
    have hF := hF.trans (F_Tr_ownContentAt_B48.eq_1 _ _ _ _ _)
    refine lv_iconst (v := -1) hx hb d_Tr_ownContentAt_48 (by decide) ?_
    exact gr_i B hw d_Tr_ownContentAt_49 ⟨_, rfl, hF⟩
  have L5 : ∀ (d : Nat) (x3 : Int32) (x4 : Int32) (M1 : gMem) (r1 : gRef) (H : Heap) (locs : List Loc) (ls : Array Slot), lv_has ls 5 [(3, .int x3), (4, .int x4), (0, .ref (s0.heap.size + 5)), (1, .ref (s0.heap.size + oEl k1)), (2, .int x2)] → gWd s0 D aC M1 r1 ow H locs → F_Tr_ownContentAt fu k1 x2 M r = F_Tr_ownContentAt_L5 fu k1 x2 d x3 x4 M1 r1 → W p l e (gRm 0 0 0 0) s m ([.ref (s0.heap.size + 5), .ref (s0.heap.size + oEl k1), .int x2] : List Value).toArray below meth c H locs 0 0 (gt_Q below (gQ s0 D aC ow (qI (F_Tr_ownContentAt fu k1 x2 M r)) (qT (F_Tr_ownContentAt fu k1 x2 M r))) s 0 0 0 0 (fun q => s0.heap.size ≤ q)) (F0 m 5 ls []) := by
    intro d
    induction d with
    | zero => intro x3 x4 M1 r1 H locs ls hl hw hF; exact absurd hF hno
    | succ d ih =>
      intro x3 x4 M1 r1 H locs ls hl hw hF
      have hF := hF.trans (F_Tr_ownContentAt_L5.eq_2 _ _ _ _ _ _ _ _)
      refine lv_iload hx hb d_Tr_ownContentAt_5 (lv_at hl 1 rfl) ?_
      refine lv_aload_n hx hb d_Tr_ownContentAt_7 rfl (lv_at hl 2 rfl) ?_
      refine gf_Tr_content hx hb T hown hK hw rfl (kf_Tr_23 T) d_Tr_ownContentAt_8 ?_
      refine gf_Row_size hx hb T hown hK hw (i := 4) (by decide) rfl (kf_Tr_52 T) d_Tr_ownContentAt_11 ?_
      refine lv_icmp_ge hx hb d_Tr_ownContentAt_14 rfl (fun h5 => ?_) (fun h5 => ?_)
      · skip
        have hF := hF.trans (if_pos h5)
        exact X48  _ _ _ _ _ (gv_loc hl [] rfl) hw hF
      · skip
        have hF := hF.trans (if_neg h5)
        refine lv_aload_n hx hb d_Tr_ownContentAt_17 rfl (lv_at hl 2 rfl) ?_
        refine gf_Tr_owners hx hb T hown hK hw rfl (kf_Tr_26 T) d_Tr_ownContentAt_18 ?_
        refine lv_iload hx hb d_Tr_ownContentAt_21 (lv_at hl 1 rfl) ?_
        have g6 := ng hno hF
        have hF := hF.trans (gd_yes g6)
        refine ga_ow hx hb hK hw rfl g6 d_Tr_ownContentAt_23 ?_
        refine lv_aload_n hx hb d_Tr_ownContentAt_24 rfl (lv_at hl 3 rfl) ?_
        refine gf_El_number hx hb T hown hK hw (i := k1) b1 rfl (kf_Tr_60 T) d_Tr_ownContentAt_25 ?_
        refine lv_icmp_ne hx hb d_Tr_ownContentAt_28 rfl (fun h7 => ?_) (fun h7 => ?_)
        · skip
          have hF := hF.trans (if_neg h7)
          refine lv_iinc (k := 1) hx hb d_Tr_ownContentAt_42 hl rfl (show _ + Int32.ofInt 1 = _ + 1 from rfl) (by decide) rfl (fun ls hl => ?_)
          refine lv_goto hx hb d_Tr_ownContentAt_45 rfl ?_
          exact ih x3 (x4 + 1) _ _ _ _ _ (gv_loc hl [1, 0, 2, 3, 4] rfl) hw hF
        · skip
          have hF := hF.trans (if_pos h7)
          refine lv_iload_n hx hb d_Tr_ownContentAt_31 rfl (lv_at hl 0 rfl) ?_
          refine lv_iload_n hx hb d_Tr_ownContentAt_32 rfl (lv_at hl 4 rfl) ?_
          refine lv_icmp_ne hx hb d_Tr_ownContentAt_33 rfl (fun h8 => ?_) (fun h8 => ?_)
          · skip
            have hF := hF.trans (if_neg h8)
            refine lv_iinc (k := 0) hx hb d_Tr_ownContentAt_39 hl rfl (show _ + Int32.ofInt 1 = _ + 1 from rfl) (by decide) rfl (fun ls hl => ?_)
            refine lv_iinc (k := 1) hx hb d_Tr_ownContentAt_42 hl rfl (show _ + Int32.ofInt 1 = _ + 1 from rfl) (by decide) rfl (fun ls hl => ?_)
            refine lv_goto hx hb d_Tr_ownContentAt_45 rfl ?_
            exact ih (x3 + 1) (x4 + 1) _ _ _ _ _ (gv_loc hl [1, 0, 2, 3, 4] rfl) hw hF
          · skip
            have hF := hF.trans (if_pos h8)
            refine lv_iload hx hb d_Tr_ownContentAt_36 (lv_at hl 1 rfl) ?_
            exact gr_i B hw d_Tr_ownContentAt_38 ⟨_, rfl, hF⟩
  have hF := F_Tr_ownContentAt.eq_1 fu k1 x2 M r
  refine lv_iconst (v := 0) hx hb d_Tr_ownContentAt_0 (by decide) ?_
  refine lv_istore_n hx hb d_Tr_ownContentAt_1 rfl hl (by decide) rfl (fun ls hl => ?_)
  refine lv_iconst (v := 0) hx hb d_Tr_ownContentAt_2 (by decide) ?_
  refine lv_istore hx hb d_Tr_ownContentAt_3 hl (by decide) rfl (fun ls hl => ?_)
  exact L5 fu 0 0 _ _ _ _ _ (gv_loc hl [1, 0, 2, 3, 4] rfl) hw hF
set_option maxHeartbeats 4000000 in
set_option maxRecDepth 100000 in
theorem t_MR_content {l : Launch} {s0 : State} {D : va_G} {aC : Nat → ClassId} {a0 : Array Value} (G : gG l s0 D aC a0) (M : gMem) (r : gRef) (ow : Int64) (fu : Nat) (x1 : Int32) (x2 : Int32)  (hno : F_MR_content fu x1 x2 M r ≠ .no) : gMet l s0 D aC y_MR_content (Cond.code y_MR_content b_MR_content 5 (some .char)) 6 82 1 6 [.ref (s0.heap.size + 0), .int x1, .int x2] M r ow (qI (F_MR_content fu x1 x2 M r)) (qT (F_MR_content fu x1 x2 M r)) := by
  refine gm_of G (by decide) (Nat.le_of_ble_eq_true rfl) ?_
  intro p e s m below meth c ls B hexc hl hw
  have hx := B.1
  have hb := B.2.1
  have hown := B.2.2.2.2.2.1
  have T := B.2.2.2.2.2.2.1
  have hK := B.2.2.2.2.2.2.2.1
  have hF := F_MR_content.eq_1 fu x1 x2 M r
  refine lv_aload_n hx hb d_MR_content_0 rfl (lv_at hl 0 rfl) ?_
  refine gf_MR_tree hx hb T hown hK hw rfl (kf_MR_24 T) d_MR_content_1 ?_
  refine lv_iload_n hx hb d_MR_content_4 rfl (lv_at hl 1 rfl) ?_
  refine gy_V B hl.1 hw (t_Tr_find G _ _ ow fu x1 (nn hno hF)) (kd_Tr_find T) (ki_Tr T) (km_MR_81 T) (ka_Tr_find T) (ks_Tr_find T) ⟨by decide, by decide, by rfl⟩ (rv_Tr hK hw rfl) rfl (Nat.le_of_ble_eq_true rfl) ⟨by decide, by decide⟩ ⟨by decide, by decide⟩ d_MR_content_5 (fun v M7 r7 H locs hw hp => ?_) (fun x ek M7 r7 H locs hw hE hp => gr_t B hexc hw hE (by decide) (by decide) (hF.trans (bnd_ex hp)))
  obtain ⟨v7, rfl, hp⟩ := hp
  have hF := hF.trans (bnd_ok hp)
  rcases hq8 : v7 with _ | k_8
  · skip
    have hF := hF.trans (gcs_none hq8)
    refine lv_astore_nN hx hb d_MR_content_8 rfl hl (by decide) rfl (fun ls hl => ?_)
    refine lv_aload_nN hx hb d_MR_content_9 rfl (lv_at hl 0 rfl) ?_
    refine lv_ifnonnullN hx hb d_MR_content_10 ?_
    refine lv_iconst (v := -1) hx hb d_MR_content_13 (by decide) ?_
    refine lv_goto hx hb d_MR_content_14 rfl ?_
    refine lv_istore hx hb d_MR_content_26 hl (by decide) rfl (fun ls hl => ?_)
    refine lv_iload hx hb d_MR_content_28 (lv_at hl 0 rfl) ?_
    refine lv_iconst (v := -1) hx hb d_MR_content_30 (by decide) ?_
    refine lv_icmp_ne hx hb d_MR_content_31 rfl (fun h => absurd h (by decide)) (fun _ => ?_)
    exact gx_IO B G.2.1 hexc hl.1 hw (kc_MR_85 T) (km_MR_89 T) (sx_MR_152 G.2.1) d_MR_content_34 d_MR_content_37 d_MR_content_38 d_MR_content_40 d_MR_content_43 (by decide) (by decide) (by decide) (Nat.le_of_ble_eq_true rfl) hF
  · skip
    have hF := hF.trans (gcs_some hq8)
    have b_8 := ng hno hF
    have hF := hF.trans (gd_yes b_8)
    refine lv_astore_n hx hb d_MR_content_8 rfl hl (by decide) rfl (fun ls hl => ?_)
    refine lv_aload_n hx hb d_MR_content_9 rfl (lv_at hl 0 rfl) ?_
    refine lv_ifnonnull hx hb d_MR_content_10 rfl ?_
    refine lv_aload_n hx hb d_MR_content_17 rfl (lv_at hl 1 rfl) ?_
    refine gf_MR_tree hx hb T hown hK hw rfl (kf_MR_24 T) d_MR_content_18 ?_
    refine lv_aload_n hx hb d_MR_content_21 rfl (lv_at hl 0 rfl) ?_
    refine lv_iload_n hx hb d_MR_content_22 rfl (lv_at hl 3 rfl) ?_
    refine gy_V B hl.1 hw (t_Tr_ownContentAt G _ _ ow fu k_8 x2 b_8 (nn hno hF)) (kd_Tr_ownContentAt T) (ki_Tr T) (km_MR_148 T) (ka_Tr_ownContentAt T) (ks_Tr_ownContentAt T) ⟨by decide, by decide, by rfl⟩ (rv_Tr hK hw rfl) rfl (Nat.le_of_ble_eq_true rfl) ⟨by decide, by decide⟩ ⟨by decide, by decide⟩ d_MR_content_23 (fun v M9 r9 H locs hw hp => ?_) (fun x ek M9 r9 H locs hw hE hp => gr_t B hexc hw hE (by decide) (by decide) (hF.trans (bnd_ex hp)))
    obtain ⟨v9, rfl, hp⟩ := hp
    have hF := hF.trans (bnd_ok hp)
    refine lv_istore hx hb d_MR_content_26 hl (by decide) rfl (fun ls hl => ?_)
    refine lv_iload hx hb d_MR_content_28 (lv_at hl 0 rfl) ?_
    refine lv_iconst (v := -1) hx hb d_MR_content_30 (by decide) ?_
    refine lv_icmp_ne hx hb d_MR_content_31 rfl (fun h10 => ?_) (fun h10 => ?_)
    · skip
      have hF := hF.trans (if_neg h10)
      refine lv_aload_n hx hb d_MR_content_44 rfl (lv_at hl 2 rfl) ?_
      refine gf_MR_tree hx hb T hown hK hw rfl (kf_MR_24 T) d_MR_content_45 ?_
      refine gf_Tr_content hx hb T hown hK hw rfl (kf_MR_154 T) d_MR_content_48 ?_
      refine lv_iload hx hb d_MR_content_51 (lv_at hl 0 rfl) ?_
      refine gy_V B hl.1 hw (t_Row_at G _ _ ow fu 4 v9 (by decide) (nn hno hF)) (kd_Row_at T) (ki_Row T) (km_MR_144 T) (ka_Row_at T) (ks_Row_at T) ⟨by decide, by decide, by rfl⟩ (rv_Row hK hw (i := 4) (by decide) rfl) rfl (Nat.le_of_ble_eq_true rfl) ⟨by decide, by decide⟩ ⟨by decide, by decide⟩ d_MR_content_53 (fun v M11 r11 H locs hw hp => ?_) (fun x ek M11 r11 H locs hw hE hp => gr_t B hexc hw hE (by decide) (by decide) (hF.trans (bnd_ex hp)))
      obtain ⟨v11, rfl, hp⟩ := hp
      have hF := hF.trans (bnd_ok hp)
      have g12 := ng hno hF
      have hF := hF.trans (gd_yes g12)
      exact gr_z B hw g12 d_MR_content_56 ⟨_, rfl, hF⟩
    · skip
      have hF := hF.trans (if_pos h10)
      exact gx_IO B G.2.1 hexc hl.1 hw (kc_MR_85 T) (km_MR_89 T) (sx_MR_152 G.2.1) d_MR_content_34 d_MR_content_37 d_MR_content_38 d_MR_content_40 d_MR_content_43 (by decide) (by decide) (by decide) (Nat.le_of_ble_eq_true rfl) hF
set_option maxHeartbeats 4000000 in
set_option maxRecDepth 100000 in
theorem t_MR_space {l : Launch} {s0 : State} {D : va_G} {aC : Nat → ClassId} {a0 : Array Value} (G : gG l s0 D aC a0) (M : gMem) (r : gRef) (ow : Int64) (fu : Nat) (x1 : Int32) (x2 : Int32)  (hno : F_MR_space fu x1 x2 M r ≠ .no) : gMet l s0 D aC y_MR_space (Cond.code y_MR_space b_MR_space 4 (some .char)) 6 82 1 6 [.ref (s0.heap.size + 0), .int x1, .int x2] M r ow (qI (F_MR_space fu x1 x2 M r)) (qT (F_MR_space fu x1 x2 M r)) := by
  refine gm_of G (by decide) (Nat.le_of_ble_eq_true rfl) ?_
  intro p e s m below meth c ls B hexc hl hw
  have hx := B.1
  have hb := B.2.1
  have hown := B.2.2.2.2.2.1
  have T := B.2.2.2.2.2.2.1
  have hK := B.2.2.2.2.2.2.2.1
  have hF := F_MR_space.eq_1 fu x1 x2 M r
  refine lv_aload_n hx hb d_MR_space_0 rfl (lv_at hl 0 rfl) ?_
  refine gf_MR_tree hx hb T hown hK hw rfl (kf_MR_24 T) d_MR_space_1 ?_
  refine lv_iload_n hx hb d_MR_space_4 rfl (lv_at hl 1 rfl) ?_
  refine gy_V B hl.1 hw (t_Tr_find G _ _ ow fu x1 (nn hno hF)) (kd_Tr_find T) (ki_Tr T) (km_MR_81 T) (ka_Tr_find T) (ks_Tr_find T) ⟨by decide, by decide, by rfl⟩ (rv_Tr hK hw rfl) rfl (Nat.le_of_ble_eq_true rfl) ⟨by decide, by decide⟩ ⟨by decide, by decide⟩ d_MR_space_5 (fun v M12 r12 H locs hw hp => ?_) (fun x ek M12 r12 H locs hw hE hp => gr_t B hexc hw hE (by decide) (by decide) (hF.trans (bnd_ex hp)))
  obtain ⟨v12, rfl, hp⟩ := hp
  have hF := hF.trans (bnd_ok hp)
  rcases hq13 : v12 with _ | k_13
  · skip
    have hF := hF.trans (gcs_none hq13)
    refine lv_astore_nN hx hb d_MR_space_8 rfl hl (by decide) rfl (fun ls hl => ?_)
    refine lv_aload_nN hx hb d_MR_space_9 rfl (lv_at hl 0 rfl) ?_
    refine lv_ifnullN hx hb d_MR_space_10 rfl ?_
    exact gx_IO B G.2.1 hexc hl.1 hw (kc_MR_85 T) (km_MR_89 T) (sx_MR_157 G.2.1) d_MR_space_31 d_MR_space_34 d_MR_space_35 d_MR_space_37 d_MR_space_40 (by decide) (by decide) (by decide) (Nat.le_of_ble_eq_true rfl) hF
  · skip
    have hF := hF.trans (gcs_some hq13)
    have b_13 := ng hno hF
    have hF := hF.trans (gd_yes b_13)
    refine lv_astore_n hx hb d_MR_space_8 rfl hl (by decide) rfl (fun ls hl => ?_)
    refine lv_aload_n hx hb d_MR_space_9 rfl (lv_at hl 0 rfl) ?_
    refine lv_ifnull hx hb d_MR_space_10 ?_
    refine lv_iload_n hx hb d_MR_space_13 rfl (lv_at hl 3 rfl) ?_
    refine lv_if_lt hx hb d_MR_space_14 rfl (fun h14 => ?_) (fun h14 => ?_)
    · skip
      have hF := hF.trans (if_pos h14)
      exact gx_IO B G.2.1 hexc hl.1 hw (kc_MR_85 T) (km_MR_89 T) (sx_MR_157 G.2.1) d_MR_space_31 d_MR_space_34 d_MR_space_35 d_MR_space_37 d_MR_space_40 (by decide) (by decide) (by decide) (Nat.le_of_ble_eq_true rfl) hF
    · skip
      have hF := hF.trans (if_neg h14)
      refine lv_iload_n hx hb d_MR_space_17 rfl (lv_at hl 3 rfl) ?_
      refine lv_aload_n hx hb d_MR_space_18 rfl (lv_at hl 0 rfl) ?_
      refine gf_El_name hx hb T hown hK hw (i := k_13) b_13 rfl (kf_MR_111 T) d_MR_space_19 ?_
      have n15 : 145 + k_13 < 170 := by have := b_13; omega
      refine gf_Nm_space hx hb T hown hK hw (i := (145 + k_13)) n15 rfl (kf_MR_121 T) d_MR_space_22 ?_
      rcases hq16 : r12 0 (145 + k_13) with _ | k_16
      · skip
        have hF := hF.trans (gcs_none hq16)
        exact absurd hF hno
      · skip
        have hF := hF.trans (gcs_some hq16)
        have b_16 := ng hno hF
        have hF := hF.trans (gd_yes b_16)
        refine gy_V B hl.1 hw (t_At_valueLength G _ _ ow fu k_16 b_16 (nn hno hF)) (kd_At_valueLength T) (ki_At T) (km_MR_125 T) (ka_At_valueLength T) (ks_At_valueLength T) ⟨by decide, by decide, by rfl⟩ (rv_At hK hw (i := k_16) b_16 rfl) rfl (Nat.le_of_ble_eq_true rfl) ⟨by decide, by decide⟩ ⟨by decide, by decide⟩ d_MR_space_25 (fun v M17 r17 H locs hw hp => ?_) (fun x ek M17 r17 H locs hw hE hp => gr_t B hexc hw hE (by decide) (by decide) (hF.trans (bnd_ex hp)))
        obtain ⟨v17, rfl, hp⟩ := hp
        have hF := hF.trans (bnd_ok hp)
        refine lv_icmp_lt hx hb d_MR_space_28 rfl (fun h18 => ?_) (fun h18 => ?_)
        · skip
          have hF := hF.trans (if_pos h18)
          refine lv_aload_n hx hb d_MR_space_41 rfl (lv_at hl 1 rfl) ?_
          refine gf_MR_tree hx hb T hown hK hw rfl (kf_MR_24 T) d_MR_space_42 ?_
          refine gf_Tr_values hx hb T hown hK hw rfl (kf_MR_159 T) d_MR_space_45 ?_
          refine lv_aload_n hx hb d_MR_space_48 rfl (lv_at hl 0 rfl) ?_
          refine gf_El_name hx hb T hown hK hw (i := k_13) b_13 rfl (kf_MR_111 T) d_MR_space_49 ?_
          have n19 : 145 + k_13 < 170 := by have := b_13; omega
          refine gf_Nm_space hx hb T hown hK hw (i := (145 + k_13)) n19 rfl (kf_MR_121 T) d_MR_space_52 ?_
          rcases hq20 : r17 0 (145 + k_13) with _ | k_20
          · skip
            have hF := hF.trans (gcs_none hq20)
            exact absurd hF hno
          · skip
            have hF := hF.trans (gcs_some hq20)
            have b_20 := ng hno hF
            have hF := hF.trans (gd_yes b_20)
            refine gf_At_valueStart hx hb T hown hK hw (i := k_20) b_20 rfl (kf_MR_162 T) d_MR_space_55 ?_
            refine lv_iload_n hx hb d_MR_space_58 rfl (lv_at hl 3 rfl) ?_
            refine lv_iadd hx hb d_MR_space_59 ?_
            refine gy_V B hl.1 hw (t_Row_at G _ _ ow fu 3 ((M17 23 k_20) + x2) (by decide) (nn hno hF)) (kd_Row_at T) (ki_Row T) (km_MR_144 T) (ka_Row_at T) (ks_Row_at T) ⟨by decide, by decide, by rfl⟩ (rv_Row hK hw (i := 3) (by decide) rfl) rfl (Nat.le_of_ble_eq_true rfl) ⟨by decide, by decide⟩ ⟨by decide, by decide⟩ d_MR_space_60 (fun v M21 r21 H locs hw hp => ?_) (fun x ek M21 r21 H locs hw hE hp => gr_t B hexc hw hE (by decide) (by decide) (hF.trans (bnd_ex hp)))
            obtain ⟨v21, rfl, hp⟩ := hp
            have hF := hF.trans (bnd_ok hp)
            have g22 := ng hno hF
            have hF := hF.trans (gd_yes g22)
            exact gr_z B hw g22 d_MR_space_63 ⟨_, rfl, hF⟩
        · skip
          have hF := hF.trans (if_neg h18)
          exact gx_IO B G.2.1 hexc hl.1 hw (kc_MR_85 T) (km_MR_89 T) (sx_MR_157 G.2.1) d_MR_space_31 d_MR_space_34 d_MR_space_35 d_MR_space_37 d_MR_space_40 (by decide) (by decide) (by decide) (Nat.le_of_ble_eq_true rfl) hF
set_option maxHeartbeats 4000000 in
set_option maxRecDepth 100000 in
theorem t_MR_form {l : Launch} {s0 : State} {D : va_G} {aC : Nat → ClassId} {a0 : Array Value} (G : gG l s0 D aC a0) (M : gMem) (r : gRef) (ow : Int64) (fu : Nat)  (hno : F_MR_form fu M r ≠ .no) : gMet l s0 D aC y_MR_form (Cond.code y_MR_form b_MR_form 1 (some .int)) 0 0 0 0 [.ref (s0.heap.size + 0)] M r ow (qI (F_MR_form fu M r)) (qT (F_MR_form fu M r)) := by
  refine gm_of G (by decide) (Nat.le_of_ble_eq_true rfl) ?_
  intro p e s m below meth c ls B hexc hl hw
  have hx := B.1
  have hb := B.2.1
  have hown := B.2.2.2.2.2.1
  have T := B.2.2.2.2.2.2.1
  have hK := B.2.2.2.2.2.2.2.1
  have hF := F_MR_form.eq_1 fu M r
  refine lv_aload_n hx hb d_MR_form_0 rfl (lv_at hl 0 rfl) ?_
  refine gf_MR_writer hx hb T hown hK hw rfl (kf_MR_33 T) d_MR_form_1 ?_
  refine gf_FW_form hx hb T hown hK hw rfl (kf_MR_165 T) d_MR_form_4 ?_
  refine gf_Row_size hx hb T hown hK hw (i := 5) (by decide) rfl (kf_MR_57 T) d_MR_form_7 ?_
  exact gr_i B hw d_MR_form_10 ⟨_, rfl, hF⟩
set_option maxHeartbeats 4000000 in
set_option maxRecDepth 100000 in
theorem t_MR_formAt {l : Launch} {s0 : State} {D : va_G} {aC : Nat → ClassId} {a0 : Array Value} (G : gG l s0 D aC a0) (M : gMem) (r : gRef) (ow : Int64) (fu : Nat) (x1 : Int32)  (hno : F_MR_formAt fu x1 M r ≠ .no) : gMet l s0 D aC y_MR_formAt (Cond.code y_MR_formAt b_MR_formAt 2 (some .char)) 6 82 1 6 [.ref (s0.heap.size + 0), .int x1] M r ow (qI (F_MR_formAt fu x1 M r)) (qT (F_MR_formAt fu x1 M r)) := by
  refine gm_of G (by decide) (Nat.le_of_ble_eq_true rfl) ?_
  intro p e s m below meth c ls B hexc hl hw
  have hx := B.1
  have hb := B.2.1
  have hown := B.2.2.2.2.2.1
  have T := B.2.2.2.2.2.2.1
  have hK := B.2.2.2.2.2.2.2.1
  have hF := F_MR_formAt.eq_1 fu x1 M r
  refine lv_iload_n hx hb d_MR_formAt_0 rfl (lv_at hl 1 rfl) ?_
  refine lv_if_lt hx hb d_MR_formAt_1 rfl (fun h5 => ?_) (fun h5 => ?_)
  · skip
    have hF := hF.trans (if_pos h5)
    exact gx_IO B G.2.1 hexc hl.1 hw (kc_MR_85 T) (km_MR_89 T) (sx_MR_168 G.2.1) d_MR_formAt_18 d_MR_formAt_21 d_MR_formAt_22 d_MR_formAt_24 d_MR_formAt_27 (by decide) (by decide) (by decide) (Nat.le_of_ble_eq_true rfl) hF
  · skip
    have hF := hF.trans (if_neg h5)
    refine lv_iload_n hx hb d_MR_formAt_4 rfl (lv_at hl 1 rfl) ?_
    refine lv_aload_n hx hb d_MR_formAt_5 rfl (lv_at hl 0 rfl) ?_
    refine gf_MR_writer hx hb T hown hK hw rfl (kf_MR_33 T) d_MR_formAt_6 ?_
    refine gf_FW_form hx hb T hown hK hw rfl (kf_MR_165 T) d_MR_formAt_9 ?_
    refine gf_Row_size hx hb T hown hK hw (i := 5) (by decide) rfl (kf_MR_57 T) d_MR_formAt_12 ?_
    refine lv_icmp_lt hx hb d_MR_formAt_15 rfl (fun h6 => ?_) (fun h6 => ?_)
    · skip
      have hF := hF.trans (if_pos h6)
      refine lv_aload_n hx hb d_MR_formAt_28 rfl (lv_at hl 0 rfl) ?_
      refine gf_MR_writer hx hb T hown hK hw rfl (kf_MR_33 T) d_MR_formAt_29 ?_
      refine gf_FW_form hx hb T hown hK hw rfl (kf_MR_165 T) d_MR_formAt_32 ?_
      refine lv_iload_n hx hb d_MR_formAt_35 rfl (lv_at hl 1 rfl) ?_
      refine gy_V B hl.1 hw (t_Row_at G _ _ ow fu 5 x1 (by decide) (nn hno hF)) (kd_Row_at T) (ki_Row T) (km_MR_144 T) (ka_Row_at T) (ks_Row_at T) ⟨by decide, by decide, by rfl⟩ (rv_Row hK hw (i := 5) (by decide) rfl) rfl (Nat.le_of_ble_eq_true rfl) ⟨by decide, by decide⟩ ⟨by decide, by decide⟩ d_MR_formAt_36 (fun v M7 r7 H locs hw hp => ?_) (fun x ek M7 r7 H locs hw hE hp => gr_t B hexc hw hE (by decide) (by decide) (hF.trans (bnd_ex hp)))
      obtain ⟨v7, rfl, hp⟩ := hp
      have hF := hF.trans (bnd_ok hp)
      have g8 := ng hno hF
      have hF := hF.trans (gd_yes g8)
      exact gr_z B hw g8 d_MR_formAt_39 ⟨_, rfl, hF⟩
    · skip
      have hF := hF.trans (if_neg h6)
      exact gx_IO B G.2.1 hexc hl.1 hw (kc_MR_85 T) (km_MR_89 T) (sx_MR_168 G.2.1) d_MR_formAt_18 d_MR_formAt_21 d_MR_formAt_22 d_MR_formAt_24 d_MR_formAt_27 (by decide) (by decide) (by decide) (Nat.le_of_ble_eq_true rfl) hF
set_option maxHeartbeats 4000000 in
set_option maxRecDepth 100000 in
theorem t_MR_retype {l : Launch} {s0 : State} {D : va_G} {aC : Nat → ClassId} {a0 : Array Value} (G : gG l s0 D aC a0) (M : gMem) (r : gRef) (ow : Int64) (fu : Nat)  (hno : F_MR_retype fu M r ≠ .no) : gMet l s0 D aC y_MR_retype (Cond.code y_MR_retype b_MR_retype 1 (some .int)) 6 82 1 6 [.ref (s0.heap.size + 0)] M r ow (qI (F_MR_retype fu M r)) (qT (F_MR_retype fu M r)) := by
  refine gm_of G (by decide) (Nat.le_of_ble_eq_true rfl) ?_
  intro p e s m below meth c ls B hexc hl hw
  have hx := B.1
  have hb := B.2.1
  have hown := B.2.2.2.2.2.1
  have T := B.2.2.2.2.2.2.1
  have hK := B.2.2.2.2.2.2.2.1
  have hF := F_MR_retype.eq_1 fu M r
  refine lv_aload_n hx hb d_MR_retype_0 rfl (lv_at hl 0 rfl) ?_
  refine gf_MR_tree hx hb T hown hK hw rfl (kf_MR_24 T) d_MR_retype_1 ?_
  refine gf_Tr_size hx hb T hown hK hw rfl (kf_MR_74 T) d_MR_retype_4 ?_
  refine lv_if_eq hx hb d_MR_retype_7 rfl (fun h4 => ?_) (fun h4 => ?_)
  · skip
    have hF := hF.trans (if_pos h4)
    exact gx_IS B G.2.1 hexc hl.1 hw (kc_MR_61 T) (km_MR_65 T) (sx_MR_170 G.2.1) d_MR_retype_26 d_MR_retype_29 d_MR_retype_30 d_MR_retype_32 d_MR_retype_35 (by decide) (by decide) (by decide) (Nat.le_of_ble_eq_true rfl) hF
  · skip
    have hF := hF.trans (if_neg h4)
    refine lv_aload_n hx hb d_MR_retype_10 rfl (lv_at hl 0 rfl) ?_
    refine gf_MR_writer hx hb T hown hK hw rfl (kf_MR_33 T) d_MR_retype_11 ?_
    refine gf_FW_form hx hb T hown hK hw rfl (kf_MR_165 T) d_MR_retype_14 ?_
    refine gf_Row_size hx hb T hown hK hw (i := 5) (by decide) rfl (kf_MR_57 T) d_MR_retype_17 ?_
    refine lv_sipush (v := 240) hx hb d_MR_retype_20 (by decide) ?_
    refine lv_icmp_le hx hb d_MR_retype_23 rfl (fun h5 => ?_) (fun h5 => ?_)
    · skip
      have hF := hF.trans (if_pos h5)
      refine lv_aload_n hx hb d_MR_retype_36 rfl (lv_at hl 0 rfl) ?_
      refine gf_MR_typed hx hb T hown hK hw rfl (kf_MR_14 T) d_MR_retype_37 ?_
      refine lv_aload_n hx hb d_MR_retype_40 rfl (lv_at hl 0 rfl) ?_
      refine gf_MR_writer hx hb T hown hK hw rfl (kf_MR_33 T) d_MR_retype_41 ?_
      refine gf_FW_form hx hb T hown hK hw rfl (kf_MR_165 T) d_MR_retype_44 ?_
      refine gy_V B hl.1 hw (t_Row_copyOf G _ _ ow fu 0 5 (by decide) (by decide) (nn hno hF)) (kd_Row_copyOf T) (ki_Row T) (km_MR_172 T) (ka_Row_copyOf T) (ks_Row_copyOf T) ⟨by decide, by decide, by rfl⟩ (rv_Row hK hw (i := 0) (by decide) rfl) rfl (Nat.le_of_ble_eq_true rfl) ⟨by decide, by decide⟩ ⟨by decide, by decide⟩ d_MR_retype_47 (fun v M6 r6 H locs hw hp => ?_) (fun x ek M6 r6 H locs hw hE hp => gr_t B hexc hw hE (by decide) (by decide) (hF.trans (bnd_ex hp)))
      obtain ⟨rfl, hp⟩ := hp
      have hF := hF.trans (bnd_ok hp)
      refine lv_aload_n hx hb d_MR_retype_50 rfl (lv_at hl 0 rfl) ?_
      refine gf_MR_typed hx hb T hown hK hw rfl (kf_MR_14 T) d_MR_retype_51 ?_
      refine gf_Row_size hx hb T hown hK hw (i := 0) (by decide) rfl (kf_MR_57 T) d_MR_retype_54 ?_
      exact gr_i B hw d_MR_retype_57 ⟨_, rfl, hF⟩
    · skip
      have hF := hF.trans (if_neg h5)
      exact gx_IS B G.2.1 hexc hl.1 hw (kc_MR_61 T) (km_MR_65 T) (sx_MR_170 G.2.1) d_MR_retype_26 d_MR_retype_29 d_MR_retype_30 d_MR_retype_32 d_MR_retype_35 (by decide) (by decide) (by decide) (Nat.le_of_ble_eq_true rfl) hF
set_option maxHeartbeats 4000000 in
set_option maxRecDepth 100000 in
theorem t_MR_keep {l : Launch} {s0 : State} {D : va_G} {aC : Nat → ClassId} {a0 : Array Value} (G : gG l s0 D aC a0) (M : gMem) (r : gRef) (ow : Int64) (fu : Nat)  (hno : F_MR_keep fu M r ≠ .no) : gMet l s0 D aC y_MR_keep (Cond.code y_MR_keep b_MR_keep 1 none) 6 82 1 6 [.ref (s0.heap.size + 0)] M r ow (qV (F_MR_keep fu M r)) (qT (F_MR_keep fu M r)) := by
  refine gm_of G (by decide) (Nat.le_of_ble_eq_true rfl) ?_
  intro p e s m below meth c ls B hexc hl hw
  have hx := B.1
  have hb := B.2.1
  have hown := B.2.2.2.2.2.1
  have T := B.2.2.2.2.2.2.1
  have hK := B.2.2.2.2.2.2.2.1
  have hF := F_MR_keep.eq_1 fu M r
  refine lv_aload_n hx hb d_MR_keep_0 rfl (lv_at hl 0 rfl) ?_
  refine gf_MR_tree hx hb T hown hK hw rfl (kf_MR_24 T) d_MR_keep_1 ?_
  refine gf_Tr_size hx hb T hown hK hw rfl (kf_MR_74 T) d_MR_keep_4 ?_
  refine lv_if_ne hx hb d_MR_keep_7 rfl (fun h3 => ?_) (fun h3 => ?_)
  · skip
    have hF := hF.trans (if_neg h3)
    refine lv_aload_n hx hb d_MR_keep_20 rfl (lv_at hl 0 rfl) ?_
    refine gf_MR_kept hx hb T hown hK hw rfl (kf_MR_18 T) d_MR_keep_21 ?_
    refine lv_aload_n hx hb d_MR_keep_24 rfl (lv_at hl 0 rfl) ?_
    refine gf_MR_writer hx hb T hown hK hw rfl (kf_MR_33 T) d_MR_keep_25 ?_
    refine gf_FW_form hx hb T hown hK hw rfl (kf_MR_165 T) d_MR_keep_28 ?_
    refine gy_V B hl.1 hw (t_Row_copyOf G _ _ ow fu 1 5 (by decide) (by decide) (nn hno hF)) (kd_Row_copyOf T) (ki_Row T) (km_MR_172 T) (ka_Row_copyOf T) (ks_Row_copyOf T) ⟨by decide, by decide, by rfl⟩ (rv_Row hK hw (i := 1) (by decide) rfl) rfl (Nat.le_of_ble_eq_true rfl) ⟨by decide, by decide⟩ ⟨by decide, by decide⟩ d_MR_keep_31 (fun v M4 r4 H locs hw hp => ?_) (fun x ek M4 r4 H locs hw hE hp => gr_t B hexc hw hE (by decide) (by decide) (hF.trans (bnd_ex hp)))
    obtain ⟨rfl, hp⟩ := hp
    have hF := hF.trans (bnd_ok hp)
    exact gr_v B hw d_MR_keep_34 ⟨rfl, hF⟩
  · skip
    have hF := hF.trans (if_pos h3)
    exact gx_IS B G.2.1 hexc hl.1 hw (kc_MR_61 T) (km_MR_65 T) (sx_MR_175 G.2.1) d_MR_keep_10 d_MR_keep_13 d_MR_keep_14 d_MR_keep_16 d_MR_keep_19 (by decide) (by decide) (by decide) (Nat.le_of_ble_eq_true rfl) hF
set_option maxHeartbeats 4000000 in
set_option maxRecDepth 100000 in
theorem t_Row_holdsSameAs {l : Launch} {s0 : State} {D : va_G} {aC : Nat → ClassId} {a0 : Array Value} (G : gG l s0 D aC a0) (M : gMem) (r : gRef) (ow : Int64) (fu : Nat) (k0 : Nat) (k1 : Nat) (b0 : k0 < 6) (b1 : k1 < 6) (hno : F_Row_holdsSameAs fu k0 k1 M r ≠ .no) : gMet l s0 D aC y_Row_holdsSameAs (Cond.code y_Row_holdsSameAs b_Row_holdsSameAs 3 (some .boolean)) 1 21 0 0 [.ref (s0.heap.size + oRow k0), .ref (s0.heap.size + oRow k1)] M r ow (qI (F_Row_holdsSameAs fu k0 k1 M r)) (qT (F_Row_holdsSameAs fu k0 k1 M r)) := by
  refine gm_of G (by decide) (Nat.le_of_ble_eq_true rfl) ?_
  intro p e s m below meth c ls B hexc hl hw
  have hx := B.1
  have hb := B.2.1
  have hown := B.2.2.2.2.2.1
  have T := B.2.2.2.2.2.2.1
  have hK := B.2.2.2.2.2.2.2.1
  have X44 : ∀ (M1 : gMem) (r1 : gRef) (H : Heap) (locs : List Loc) (ls : Array Slot), lv_has ls 3 [] → gWd s0 D aC M1 r1 ow H locs → F_Row_holdsSameAs fu k0 k1 M r = F_Row_holdsSameAs_B44 fu k0 k1 M1 r1 → W p l e (gRm 1 21 0 0) s m ([.ref (s0.heap.size + oRow k0), .ref (s0.heap.size + oRow k1)] : List Value).toArray below meth c H locs 0 0 (gt_Q below (gQ s0 D aC ow (qI (F_Row_holdsSameAs fu k0 k1 M r)) (qT (F_Row_holdsSameAs fu k0 k1 M r))) s 0 0 0 0 (fun q => s0.heap.size ≤ q)) (F0 m 44 ls []) := by
    intro  M1 r1 H locs ls hl hw hF
    have hF := hF.trans (F_Row_holdsSameAs_B44.eq_1 _ _ _ _ _)
    refine lv_iconst (v := 1) hx hb d_Row_holdsSameAs_44 (by decide) ?_
    exact gr_z B hw (by rfl) d_Row_holdsSameAs_45 ⟨_, rfl, hF⟩
  have L15 : ∀ (d : Nat) (x2 : Int32) (M1 : gMem) (r1 : gRef) (H : Heap) (locs : List Loc) (ls : Array Slot), lv_has ls 3 [(2, .int x2), (0, .ref (s0.heap.size + oRow k0)), (1, .ref (s0.heap.size + oRow k1))] → gWd s0 D aC M1 r1 ow H locs → F_Row_holdsSameAs fu k0 k1 M r = F_Row_holdsSameAs_L15 fu k0 k1 d x2 M1 r1 → W p l e (gRm 1 21 0 0) s m ([.ref (s0.heap.size + oRow k0), .ref (s0.heap.size + oRow k1)] : List Value).toArray below meth c H locs 0 0 (gt_Q below (gQ s0 D aC ow (qI (F_Row_holdsSameAs fu k0 k1 M r)) (qT (F_Row_holdsSameAs fu k0 k1 M r))) s 0 0 0 0 (fun q => s0.heap.size ≤ q)) (F0 m 15 ls []) := by
    intro d
    induction d with
    | zero => intro x2 M1 r1 H locs ls hl hw hF; exact absurd hF hno
    | succ d ih =>
      intro x2 M1 r1 H locs ls hl hw hF
      have hF := hF.trans (F_Row_holdsSameAs_L15.eq_2 _ _ _ _ _ _ _)
      refine lv_iload_n hx hb d_Row_holdsSameAs_15 rfl (lv_at hl 0 rfl) ?_
      refine lv_aload_n hx hb d_Row_holdsSameAs_16 rfl (lv_at hl 1 rfl) ?_
      refine gf_Row_size hx hb T hown hK hw (i := k0) b0 rfl (kf_Row_9 T) d_Row_holdsSameAs_17 ?_
      refine lv_icmp_ge hx hb d_Row_holdsSameAs_20 rfl (fun h6 => ?_) (fun h6 => ?_)
      · skip
        have hF := hF.trans (if_pos h6)
        exact X44  _ _ _ _ _ (gv_loc hl [] rfl) hw hF
      · skip
        have hF := hF.trans (if_neg h6)
        refine lv_aload_n hx hb d_Row_holdsSameAs_23 rfl (lv_at hl 1 rfl) ?_
        refine lv_iload_n hx hb d_Row_holdsSameAs_24 rfl (lv_at hl 0 rfl) ?_
        refine gy_V B hl.1 hw (t_Row_at G _ _ ow fu k0 x2 b0 (nn hno hF)) (kd_Row_at T) (ki_Row T) (km_Row_33 T) (ka_Row_at T) (ks_Row_at T) ⟨by decide, by decide, by rfl⟩ (rv_Row hK hw (i := k0) b0 rfl) rfl (Nat.le_of_ble_eq_true rfl) ⟨by decide, by decide⟩ ⟨by decide, by decide⟩ d_Row_holdsSameAs_25 (fun v M7 r7 H locs hw hp => ?_) (fun x ek M7 r7 H locs hw hE hp => gr_t B hexc hw hE (by decide) (by decide) (hF.trans (bnd_ex hp)))
        obtain ⟨v7, rfl, hp⟩ := hp
        have hF := hF.trans (bnd_ok hp)
        refine lv_aload_n hx hb d_Row_holdsSameAs_28 rfl (lv_at hl 2 rfl) ?_
        refine lv_iload_n hx hb d_Row_holdsSameAs_29 rfl (lv_at hl 0 rfl) ?_
        refine gy_V B hl.1 hw (t_Row_at G _ _ ow fu k1 x2 b1 (nn hno hF)) (kd_Row_at T) (ki_Row T) (km_Row_33 T) (ka_Row_at T) (ks_Row_at T) ⟨by decide, by decide, by rfl⟩ (rv_Row hK hw (i := k1) b1 rfl) rfl (Nat.le_of_ble_eq_true rfl) ⟨by decide, by decide⟩ ⟨by decide, by decide⟩ d_Row_holdsSameAs_30 (fun v M8 r8 H locs hw hp => ?_) (fun x ek M8 r8 H locs hw hE hp => gr_t B hexc hw hE (by decide) (by decide) (hF.trans (bnd_ex hp)))
        obtain ⟨v8, rfl, hp⟩ := hp
        have hF := hF.trans (bnd_ok hp)
        refine lv_icmp_eq hx hb d_Row_holdsSameAs_33 rfl (fun h9 => ?_) (fun h9 => ?_)
        · skip
          have hF := hF.trans (if_pos h9)
          refine lv_iinc (k := 0) hx hb d_Row_holdsSameAs_38 hl rfl (show _ + Int32.ofInt 1 = _ + 1 from rfl) (by decide) rfl (fun ls hl => ?_)
          refine lv_goto hx hb d_Row_holdsSameAs_41 rfl ?_
          exact ih (x2 + 1) _ _ _ _ _ (gv_loc hl [0, 1, 2] rfl) hw hF
        · skip
          have hF := hF.trans (if_neg h9)
          refine lv_iconst (v := 0) hx hb d_Row_holdsSameAs_36 (by decide) ?_
          exact gr_z B hw (by rfl) d_Row_holdsSameAs_37 ⟨_, rfl, hF⟩
  have hF := F_Row_holdsSameAs.eq_1 fu k0 k1 M r
  refine lv_aload_n hx hb d_Row_holdsSameAs_0 rfl (lv_at hl 0 rfl) ?_
  refine gf_Row_size hx hb T hown hK hw (i := k0) b0 rfl (kf_Row_9 T) d_Row_holdsSameAs_1 ?_
  refine lv_aload_n hx hb d_Row_holdsSameAs_4 rfl (lv_at hl 1 rfl) ?_
  refine gf_Row_size hx hb T hown hK hw (i := k1) b1 rfl (kf_Row_9 T) d_Row_holdsSameAs_5 ?_
  refine lv_icmp_eq hx hb d_Row_holdsSameAs_8 rfl (fun h10 => ?_) (fun h10 => ?_)
  · skip
    have hF := hF.trans (if_pos h10)
    refine lv_iconst (v := 0) hx hb d_Row_holdsSameAs_13 (by decide) ?_
    refine lv_istore_n hx hb d_Row_holdsSameAs_14 rfl hl (by decide) rfl (fun ls hl => ?_)
    exact L15 fu 0 _ _ _ _ _ (gv_loc hl [0, 1, 2] rfl) hw hF
  · skip
    have hF := hF.trans (if_neg h10)
    refine lv_iconst (v := 0) hx hb d_Row_holdsSameAs_11 (by decide) ?_
    exact gr_z B hw (by rfl) d_Row_holdsSameAs_12 ⟨_, rfl, hF⟩
set_option maxHeartbeats 4000000 in
set_option maxRecDepth 100000 in
theorem t_MR_same {l : Launch} {s0 : State} {D : va_G} {aC : Nat → ClassId} {a0 : Array Value} (G : gG l s0 D aC a0) (M : gMem) (r : gRef) (ow : Int64) (fu : Nat)  (hno : F_MR_same fu M r ≠ .no) : gMet l s0 D aC y_MR_same (Cond.code y_MR_same b_MR_same 1 (some .boolean)) 2 43 0 0 [.ref (s0.heap.size + 0)] M r ow (qI (F_MR_same fu M r)) (qT (F_MR_same fu M r)) := by
  refine gm_of G (by decide) (Nat.le_of_ble_eq_true rfl) ?_
  intro p e s m below meth c ls B hexc hl hw
  have hx := B.1
  have hb := B.2.1
  have hown := B.2.2.2.2.2.1
  have T := B.2.2.2.2.2.2.1
  have hK := B.2.2.2.2.2.2.2.1
  have hF := F_MR_same.eq_1 fu M r
  refine lv_aload_n hx hb d_MR_same_0 rfl (lv_at hl 0 rfl) ?_
  refine gf_MR_tree hx hb T hown hK hw rfl (kf_MR_24 T) d_MR_same_1 ?_
  refine gf_Tr_size hx hb T hown hK hw rfl (kf_MR_74 T) d_MR_same_4 ?_
  refine lv_if_le hx hb d_MR_same_7 rfl (fun h4 => ?_) (fun h4 => ?_)
  · skip
    have hF := hF.trans (if_pos h4)
    refine lv_iconst (v := 0) hx hb d_MR_same_31 (by decide) ?_
    exact gr_z B hw (by rfl) d_MR_same_32 ⟨_, rfl, hF⟩
  · skip
    have hF := hF.trans (if_neg h4)
    refine lv_aload_n hx hb d_MR_same_10 rfl (lv_at hl 0 rfl) ?_
    refine gf_MR_kept hx hb T hown hK hw rfl (kf_MR_18 T) d_MR_same_11 ?_
    refine lv_aload_n hx hb d_MR_same_14 rfl (lv_at hl 0 rfl) ?_
    refine gf_MR_writer hx hb T hown hK hw rfl (kf_MR_33 T) d_MR_same_15 ?_
    refine gf_FW_form hx hb T hown hK hw rfl (kf_MR_165 T) d_MR_same_18 ?_
    refine gy_V B hl.1 hw (t_Row_holdsSameAs G _ _ ow fu 1 5 (by decide) (by decide) (nn hno hF)) (kd_Row_holdsSameAs T) (ki_Row T) (km_MR_177 T) (ka_Row_holdsSameAs T) (ks_Row_holdsSameAs T) ⟨by decide, by decide, by rfl⟩ (rv_Row hK hw (i := 1) (by decide) rfl) rfl (Nat.le_of_ble_eq_true rfl) ⟨by decide, by decide⟩ ⟨by decide, by decide⟩ d_MR_same_21 (fun v M5 r5 H locs hw hp => ?_) (fun x ek M5 r5 H locs hw hE hp => gr_t B hexc hw hE (by decide) (by decide) (hF.trans (bnd_ex hp)))
    obtain ⟨v5, rfl, hp⟩ := hp
    have hF := hF.trans (bnd_ok hp)
    refine lv_if_eq hx hb d_MR_same_24 rfl (fun h6 => ?_) (fun h6 => ?_)
    · skip
      have hF := hF.trans (if_pos h6)
      refine lv_iconst (v := 0) hx hb d_MR_same_31 (by decide) ?_
      exact gr_z B hw (by rfl) d_MR_same_32 ⟨_, rfl, hF⟩
    · skip
      have hF := hF.trans (if_neg h6)
      refine lv_iconst (v := 1) hx hb d_MR_same_27 (by decide) ?_
      refine lv_goto hx hb d_MR_same_28 rfl ?_
      exact gr_z B hw (by rfl) d_MR_same_32 ⟨_, rfl, hF⟩
set_option maxHeartbeats 4000000 in
set_option maxRecDepth 100000 in
theorem t_Mo_thrown {l : Launch} {s0 : State} {D : va_G} {aC : Nat → ClassId} {a0 : Array Value} (G : gG l s0 D aC a0) (M : gMem) (r : gRef) (ow : Int64) (fu : Nat)  (hno : F_Mo_thrown fu M r ≠ .no) : gMet l s0 D aC y_Mo_thrown (Cond.code y_Mo_thrown b_Mo_thrown 1 (some .int)) 0 0 0 0 [.ref (s0.heap.size + 383)] M r ow (qI (F_Mo_thrown fu M r)) (qT (F_Mo_thrown fu M r)) := by
  refine gm_of G (by decide) (Nat.le_of_ble_eq_true rfl) ?_
  intro p e s m below meth c ls B hexc hl hw
  have hx := B.1
  have hb := B.2.1
  have hown := B.2.2.2.2.2.1
  have T := B.2.2.2.2.2.2.1
  have hK := B.2.2.2.2.2.2.2.1
  have hF := F_Mo_thrown.eq_1 fu M r
  refine lv_aload_n hx hb d_Mo_thrown_0 rfl (lv_at hl 0 rfl) ?_
  refine gf_Mo_thrown hx hb T hown hK hw rfl (kf_Mo_65 T) d_Mo_thrown_1 ?_
  exact gr_i B hw d_Mo_thrown_4 ⟨_, rfl, hF⟩
set_option maxHeartbeats 4000000 in
set_option maxRecDepth 100000 in
theorem t_Mo_isCharacter {l : Launch} {s0 : State} {D : va_G} {aC : Nat → ClassId} {a0 : Array Value} (G : gG l s0 D aC a0) (M : gMem) (r : gRef) (ow : Int64) (fu : Nat) (x1 : Int32)  (hno : F_Mo_isCharacter fu x1 M r ≠ .no) : gMet l s0 D aC y_Mo_isCharacter (Cond.code y_Mo_isCharacter b_Mo_isCharacter 2 (some .boolean)) 0 0 0 0 [.ref (s0.heap.size + 383), .int x1] M r ow (qI (F_Mo_isCharacter fu x1 M r)) (qT (F_Mo_isCharacter fu x1 M r)) := by
  refine gm_of G (by decide) (Nat.le_of_ble_eq_true rfl) ?_
  intro p e s m below meth c ls B hexc hl hw
  have hx := B.1
  have hb := B.2.1
  have hown := B.2.2.2.2.2.1
  have T := B.2.2.2.2.2.2.1
  have hK := B.2.2.2.2.2.2.2.1
  have hF := F_Mo_isCharacter.eq_1 fu x1 M r
  refine lv_iload_n hx hb d_Mo_isCharacter_0 rfl (lv_at hl 1 rfl) ?_
  refine lv_bipush (v := 10) hx hb d_Mo_isCharacter_1 (by decide) ?_
  refine lv_icmp_eq hx hb d_Mo_isCharacter_3 rfl (fun h4 => ?_) (fun h4 => ?_)
  · skip
    have hF := hF.trans (if_pos h4)
    refine lv_iconst (v := 1) hx hb d_Mo_isCharacter_18 (by decide) ?_
    refine lv_goto hx hb d_Mo_isCharacter_19 rfl ?_
    exact gr_z B hw (by rfl) d_Mo_isCharacter_23 ⟨_, rfl, hF⟩
  · skip
    have hF := hF.trans (if_neg h4)
    refine lv_iload_n hx hb d_Mo_isCharacter_6 rfl (lv_at hl 1 rfl) ?_
    refine lv_bipush (v := 32) hx hb d_Mo_isCharacter_7 (by decide) ?_
    refine lv_icmp_lt hx hb d_Mo_isCharacter_9 rfl (fun h5 => ?_) (fun h5 => ?_)
    · skip
      have hF := hF.trans (if_pos h5)
      refine lv_iconst (v := 0) hx hb d_Mo_isCharacter_22 (by decide) ?_
      exact gr_z B hw (by rfl) d_Mo_isCharacter_23 ⟨_, rfl, hF⟩
    · skip
      have hF := hF.trans (if_neg h5)
      refine lv_iload_n hx hb d_Mo_isCharacter_12 rfl (lv_at hl 1 rfl) ?_
      refine lv_bipush (v := 126) hx hb d_Mo_isCharacter_13 (by decide) ?_
      refine lv_icmp_gt hx hb d_Mo_isCharacter_15 rfl (fun h6 => ?_) (fun h6 => ?_)
      · skip
        have hF := hF.trans (if_pos h6)
        refine lv_iconst (v := 0) hx hb d_Mo_isCharacter_22 (by decide) ?_
        exact gr_z B hw (by rfl) d_Mo_isCharacter_23 ⟨_, rfl, hF⟩
      · skip
        have hF := hF.trans (if_neg h6)
        refine lv_iconst (v := 1) hx hb d_Mo_isCharacter_18 (by decide) ?_
        refine lv_goto hx hb d_Mo_isCharacter_19 rfl ?_
        exact gr_z B hw (by rfl) d_Mo_isCharacter_23 ⟨_, rfl, hF⟩
