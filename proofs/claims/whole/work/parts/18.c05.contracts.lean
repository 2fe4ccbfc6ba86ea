/-! The contracts of methods, as their functions say -/
theorem d_Mo_isNews_0 : decode b_Mo_isNews 0 = .ok (.aload_n 0, 1) := by decide +kernel
theorem d_Mo_isNews_1 : decode b_Mo_isNews 1 = .ok (.aload_n 0, 1) := by decide +kernel
theorem d_Mo_isNews_2 : decode b_Mo_isNews 2 = .ok (.getfield 20, 3) := by decide +kernel
theorem d_Mo_isNews_5 : decode b_Mo_isNews 5 = .ok (.iload_n 1, 1) := by decide +kernel
theorem d_Mo_isNews_6 : decode b_Mo_isNews 6 = .ok (.bipush 6, 2) := by decide +kernel
theorem d_Mo_isNews_8 : decode b_Mo_isNews 8 = .ok (.idiv, 1) := by decide +kernel
theorem d_Mo_isNews_9 : decode b_Mo_isNews 9 = .ok (.iaload, 1) := by decide +kernel
theorem d_Mo_isNews_10 : decode b_Mo_isNews 10 = .ok (.aload_n 0, 1) := by decide +kernel
theorem d_Mo_isNews_11 : decode b_Mo_isNews 11 = .ok (.iload_n 1, 1) := by decide +kernel
theorem d_Mo_isNews_12 : decode b_Mo_isNews 12 = .ok (.invokevirtual 199, 3) := by decide +kernel
theorem d_Mo_isNews_15 : decode b_Mo_isNews 15 = .ok (.aload_n 0, 1) := by decide +kernel
theorem d_Mo_isNews_16 : decode b_Mo_isNews 16 = .ok (.getfield 44, 3) := by decide +kernel
theorem d_Mo_isNews_19 : decode b_Mo_isNews 19 = .ok (.iload_n 1, 1) := by decide +kernel
theorem d_Mo_isNews_20 : decode b_Mo_isNews 20 = .ok (.iaload, 1) := by decide +kernel
theorem d_Mo_isNews_21 : decode b_Mo_isNews 21 = .ok (.ifCond .ge 7, 3) := by decide +kernel
theorem d_Mo_isNews_24 : decode b_Mo_isNews 24 = .ok (.iconst 0, 1) := by decide +kernel
theorem d_Mo_isNews_25 : decode b_Mo_isNews 25 = .ok (.goto 8, 3) := by decide +kernel
theorem d_Mo_isNews_28 : decode b_Mo_isNews 28 = .ok (.aload_n 0, 1) := by decide +kernel
theorem d_Mo_isNews_29 : decode b_Mo_isNews 29 = .ok (.iload_n 1, 1) := by decide +kernel
theorem d_Mo_isNews_30 : decode b_Mo_isNews 30 = .ok (.invokevirtual 202, 3) := by decide +kernel
theorem d_Mo_isNews_33 : decode b_Mo_isNews 33 = .ok (.invokevirtual 208, 3) := by decide +kernel
theorem d_Mo_isNews_36 : decode b_Mo_isNews 36 = .ok (.istore_n 2, 1) := by decide +kernel
theorem d_Mo_isNews_37 : decode b_Mo_isNews 37 = .ok (.iload_n 2, 1) := by decide +kernel
theorem d_Mo_isNews_38 : decode b_Mo_isNews 38 = .ok (.ifCond .ge 29, 3) := by decide +kernel
theorem d_Mo_isNews_41 : decode b_Mo_isNews 41 = .ok (.aload_n 0, 1) := by decide +kernel
theorem d_Mo_isNews_42 : decode b_Mo_isNews 42 = .ok (.getfield 44, 3) := by decide +kernel
theorem d_Mo_isNews_45 : decode b_Mo_isNews 45 = .ok (.iload_n 1, 1) := by decide +kernel
theorem d_Mo_isNews_46 : decode b_Mo_isNews 46 = .ok (.iaload, 1) := by decide +kernel
theorem d_Mo_isNews_47 : decode b_Mo_isNews 47 = .ok (.ifCond .ge 12, 3) := by decide +kernel
theorem d_Mo_isNews_50 : decode b_Mo_isNews 50 = .ok (.aload_n 0, 1) := by decide +kernel
theorem d_Mo_isNews_51 : decode b_Mo_isNews 51 = .ok (.getfield 53, 3) := by decide +kernel
theorem d_Mo_isNews_54 : decode b_Mo_isNews 54 = .ok (.iload_n 1, 1) := by decide +kernel
theorem d_Mo_isNews_55 : decode b_Mo_isNews 55 = .ok (.iaload, 1) := by decide +kernel
theorem d_Mo_isNews_56 : decode b_Mo_isNews 56 = .ok (.ifCond .le 7, 3) := by decide +kernel
theorem d_Mo_isNews_59 : decode b_Mo_isNews 59 = .ok (.iconst 1, 1) := by decide +kernel
theorem d_Mo_isNews_60 : decode b_Mo_isNews 60 = .ok (.goto 21, 3) := by decide +kernel
theorem d_Mo_isNews_63 : decode b_Mo_isNews 63 = .ok (.iconst 0, 1) := by decide +kernel
theorem d_Mo_isNews_64 : decode b_Mo_isNews 64 = .ok (.goto 17, 3) := by decide +kernel
theorem d_Mo_isNews_67 : decode b_Mo_isNews 67 = .ok (.aload_n 0, 1) := by decide +kernel
theorem d_Mo_isNews_68 : decode b_Mo_isNews 68 = .ok (.iload_n 1, 1) := by decide +kernel
theorem d_Mo_isNews_69 : decode b_Mo_isNews 69 = .ok (.iload_n 2, 1) := by decide +kernel
theorem d_Mo_isNews_70 : decode b_Mo_isNews 70 = .ok (.invokevirtual 218, 3) := by decide +kernel
theorem d_Mo_isNews_73 : decode b_Mo_isNews 73 = .ok (.ifCond .eq 7, 3) := by decide +kernel
theorem d_Mo_isNews_76 : decode b_Mo_isNews 76 = .ok (.iconst 1, 1) := by decide +kernel
theorem d_Mo_isNews_77 : decode b_Mo_isNews 77 = .ok (.goto 4, 3) := by decide +kernel
theorem d_Mo_isNews_80 : decode b_Mo_isNews 80 = .ok (.iconst 0, 1) := by decide +kernel
theorem d_Mo_isNews_81 : decode b_Mo_isNews 81 = .ok (.ireturn, 1) := by decide +kernel
set_option maxHeartbeats 4000000 in
set_option maxRecDepth 100000 in
theorem t_Mo_isNews {l : Launch} {s0 : State} {D : va_G} {aC : Nat → ClassId} {a0 : Array Value} (G : gG l s0 D aC a0) (M : gMem) (r : gRef) (ow : Int64) (fu : Nat) (x1 : Int32)  (hno : F_Mo_isNews fu x1 M r ≠ .no) : gMet l s0 D aC y_Mo_isNews (Cond.code y_Mo_isNews b_Mo_isNews 3 (some .boolean)) 3 69 0 0 [.ref (s0.heap.size + 383), .int x1] M r ow (qI (F_Mo_isNews fu x1 M r)) (qT (F_Mo_isNews fu x1 M r)) := by
  refine gm_of G (by decide) (Nat.le_of_ble_eq_true rfl) ?_
  intro p e s m below meth c ls B hexc hl hw
  have hx := B.1
  have hb := B.2.1
  have hown := B.2.2.2.2.2.1
  have T := B.2.2.2.2.2.2.1
  have hK := B.2.2.2.2.2.2.2.1
  have hF := F_Mo_isNews.eq_1 fu x1 M r
  refine lv_aload_n hx hb d_Mo_isNews_0 rfl (lv_at hl 0 rfl) ?_
  refine lv_aload_n hx hb d_Mo_isNews_1 rfl (lv_at hl 0 rfl) ?_
  refine gf_Mo_parents hx hb T hown hK hw rfl (kf_Mo_20 T) d_Mo_isNews_2 ?_
  refine lv_iload_n hx hb d_Mo_isNews_5 rfl (lv_at hl 1 rfl) ?_
  refine lv_bipush (v := 6) hx hb d_Mo_isNews_6 (by decide) ?_
  refine lv_idiv hx hb d_Mo_isNews_8 (by decide) ?_
  have g22 := ng hno hF
  have hF := hF.trans (gd_yes g22)
  refine ga_Mo_parents hx hb hK hw rfl g22 d_Mo_isNews_9 ?_
  refine lv_aload_n hx hb d_Mo_isNews_10 rfl (lv_at hl 0 rfl) ?_
  refine lv_iload_n hx hb d_Mo_isNews_11 rfl (lv_at hl 1 rfl) ?_
  refine gy_V B hl.1 hw (t_Mo_local G _ _ ow fu x1 (nn hno hF)) (kd_Mo_local T) (ki_Mo T) (km_Mo_199 T) (ka_Mo_local T) (ks_Mo_local T) ⟨by decide, by decide, by rfl⟩ (rv_Mo hK hw rfl) rfl (Nat.le_of_ble_eq_true rfl) ⟨by decide, by decide⟩ ⟨by decide, by decide⟩ d_Mo_isNews_12 (fun v M23 r23 H locs hw hp => ?_) (fun x ek M23 r23 H locs hw hE hp => gr_t B hexc hw hE (by decide) (by decide) (hF.trans (bnd_ex hp)))
  obtain ⟨v23, rfl, hp⟩ := hp
  have hF := hF.trans (bnd_ok hp)
  refine lv_aload_n hx hb d_Mo_isNews_15 rfl (lv_at hl 0 rfl) ?_
  refine gf_Mo_colon hx hb T hown hK hw rfl (kf_Mo_44 T) d_Mo_isNews_16 ?_
  refine lv_iload_n hx hb d_Mo_isNews_19 rfl (lv_at hl 1 rfl) ?_
  have g24 := ng hno hF
  have hF := hF.trans (gd_yes g24)
  refine ga_Mo_colon hx hb hK hw rfl g24 d_Mo_isNews_20 ?_
  refine lv_if_ge hx hb d_Mo_isNews_21 rfl (fun h25 => ?_) (fun h25 => ?_)
  · skip
    have hF := hF.trans (if_pos h25)
    refine lv_aload_n hx hb d_Mo_isNews_28 rfl (lv_at hl 0 rfl) ?_
    refine lv_iload_n hx hb d_Mo_isNews_29 rfl (lv_at hl 1 rfl) ?_
    refine gy_V B hl.1 hw (t_Mo_localSize G _ _ ow fu x1 (nn hno hF)) (kd_Mo_localSize T) (ki_Mo T) (km_Mo_202 T) (ka_Mo_localSize T) (ks_Mo_localSize T) ⟨by decide, by decide, by rfl⟩ (rv_Mo hK hw rfl) rfl (Nat.le_of_ble_eq_true rfl) ⟨by decide, by decide⟩ ⟨by decide, by decide⟩ d_Mo_isNews_30 (fun v M26 r26 H locs hw hp => ?_) (fun x ek M26 r26 H locs hw hE hp => gr_t B hexc hw hE (by decide) (by decide) (hF.trans (bnd_ex hp)))
    obtain ⟨v26, rfl, hp⟩ := hp
    have hF := hF.trans (bnd_ok hp)
    refine gy_V B hl.1 hw (t_Mo_declared G _ _ ow fu (M 110 (x1 / 6).toNatClampNeg) v23 v26 (nn hno hF)) (kd_Mo_declared T) (ki_Mo T) (km_Mo_208 T) (ka_Mo_declared T) (ks_Mo_declared T) ⟨by decide, by decide, by rfl⟩ (rv_Mo hK hw rfl) rfl (Nat.le_of_ble_eq_true rfl) ⟨by decide, by decide⟩ ⟨by decide, by decide⟩ d_Mo_isNews_33 (fun v M27 r27 H locs hw hp => ?_) (fun x ek M27 r27 H locs hw hE hp => gr_t B hexc hw hE (by decide) (by decide) (hF.trans (bnd_ex hp)))
    obtain ⟨v27, rfl, hp⟩ := hp
    have hF := hF.trans (bnd_ok hp)
    refine lv_istore_n hx hb d_Mo_isNews_36 rfl hl (by decide) rfl (fun ls hl => ?_)
    refine lv_iload_n hx hb d_Mo_isNews_37 rfl (lv_at hl 0 rfl) ?_
    refine lv_if_ge hx hb d_Mo_isNews_38 rfl (fun h28 => ?_) (fun h28 => ?_)
    · skip
      have hF := hF.trans (if_pos h28)
      refine lv_aload_n hx hb d_Mo_isNews_67 rfl (lv_at hl 1 rfl) ?_
      refine lv_iload_n hx hb d_Mo_isNews_68 rfl (lv_at hl 2 rfl) ?_
      refine lv_iload_n hx hb d_Mo_isNews_69 rfl (lv_at hl 0 rfl) ?_
      refine gy_V B hl.1 hw (t_Mo_compareValues G _ _ ow fu x1 v27 (nn hno hF)) (kd_Mo_compareValues T) (ki_Mo T) (km_Mo_218 T) (ka_Mo_compareValues T) (ks_Mo_compareValues T) ⟨by decide, by decide, by rfl⟩ (rv_Mo hK hw rfl) rfl (Nat.le_of_ble_eq_true rfl) ⟨by decide, by decide⟩ ⟨by decide, by decide⟩ d_Mo_isNews_70 (fun v M29 r29 H locs hw hp => ?_) (fun x ek M29 r29 H locs hw hE hp => gr_t B hexc hw hE (by decide) (by decide) (hF.trans (bnd_ex hp)))
      obtain ⟨v29, rfl, hp⟩ := hp
      have hF := hF.trans (bnd_ok hp)
      refine lv_if_eq hx hb d_Mo_isNews_73 rfl (fun h30 => ?_) (fun h30 => ?_)
      · skip
        have hF := hF.trans (if_pos h30)
        refine lv_iconst (v := 0) hx hb d_Mo_isNews_80 (by decide) ?_
        exact gr_z B hw (by rfl) d_Mo_isNews_81 ⟨_, rfl, hF⟩
      · skip
        have hF := hF.trans (if_neg h30)
        refine lv_iconst (v := 1) hx hb d_Mo_isNews_76 (by decide) ?_
        refine lv_goto hx hb d_Mo_isNews_77 rfl ?_
        exact gr_z B hw (by rfl) d_Mo_isNews_81 ⟨_, rfl, hF⟩
    · skip
      have hF := hF.trans (if_neg h28)
      refine lv_aload_n hx hb d_Mo_isNews_41 rfl (lv_at hl 1 rfl) ?_
      refine gf_Mo_colon hx hb T hown hK hw rfl (kf_Mo_44 T) d_Mo_isNews_42 ?_
      refine lv_iload_n hx hb d_Mo_isNews_45 rfl (lv_at hl 2 rfl) ?_
      have g31 := ng hno hF
      have hF := hF.trans (gd_yes g31)
      refine ga_Mo_colon hx hb hK hw rfl g31 d_Mo_isNews_46 ?_
      refine lv_if_ge hx hb d_Mo_isNews_47 rfl (fun h32 => ?_) (fun h32 => ?_)
      · skip
        have hF := hF.trans (if_pos h32)
        refine lv_iconst (v := 1) hx hb d_Mo_isNews_59 (by decide) ?_
        refine lv_goto hx hb d_Mo_isNews_60 rfl ?_
        exact gr_z B hw (by rfl) d_Mo_isNews_81 ⟨_, rfl, hF⟩
      · skip
        have hF := hF.trans (if_neg h32)
        refine lv_aload_n hx hb d_Mo_isNews_50 rfl (lv_at hl 1 rfl) ?_
        refine gf_Mo_valueSize hx hb T hown hK hw rfl (kf_Mo_53 T) d_Mo_isNews_51 ?_
        refine lv_iload_n hx hb d_Mo_isNews_54 rfl (lv_at hl 2 rfl) ?_
        have g33 := ng hno hF
        have hF := hF.trans (gd_yes g33)
        refine ga_Mo_valueSize hx hb hK hw rfl g33 d_Mo_isNews_55 ?_
        refine lv_if_le hx hb d_Mo_isNews_56 rfl (fun h34 => ?_) (fun h34 => ?_)
        · skip
          have hF := hF.trans (if_pos h34)
          refine lv_iconst (v := 0) hx hb d_Mo_isNews_63 (by decide) ?_
          refine lv_goto hx hb d_Mo_isNews_64 rfl ?_
          exact gr_z B hw (by rfl) d_Mo_isNews_81 ⟨_, rfl, hF⟩
        · skip
          have hF := hF.trans (if_neg h34)
          refine lv_iconst (v := 1) hx hb d_Mo_isNews_59 (by decide) ?_
          refine lv_goto hx hb d_Mo_isNews_60 rfl ?_
          exact gr_z B hw (by rfl) d_Mo_isNews_81 ⟨_, rfl, hF⟩
  · skip
    have hF := hF.trans (if_neg h25)
    refine lv_iconst (v := 0) hx hb d_Mo_isNews_24 (by decide) ?_
    refine lv_goto hx hb d_Mo_isNews_25 rfl ?_
    refine gy_V B hl.1 hw (t_Mo_declared G _ _ ow fu (M 110 (x1 / 6).toNatClampNeg) v23 0 (nn hno hF)) (kd_Mo_declared T) (ki_Mo T) (km_Mo_208 T) (ka_Mo_declared T) (ks_Mo_declared T) ⟨by decide, by decide, by rfl⟩ (rv_Mo hK hw rfl) rfl (Nat.le_of_ble_eq_true rfl) ⟨by decide, by decide⟩ ⟨by decide, by decide⟩ d_Mo_isNews_33 (fun v M35 r35 H locs hw hp => ?_) (fun x ek M35 r35 H locs hw hE hp => gr_t B hexc hw hE (by decide) (by decide) (hF.trans (bnd_ex hp)))
    obtain ⟨v35, rfl, hp⟩ := hp
    have hF := hF.trans (bnd_ok hp)
    refine lv_istore_n hx hb d_Mo_isNews_36 rfl hl (by decide) rfl (fun ls hl => ?_)
    refine lv_iload_n hx hb d_Mo_isNews_37 rfl (lv_at hl 0 rfl) ?_
    refine lv_if_ge hx hb d_Mo_isNews_38 rfl (fun h36 => ?_) (fun h36 => ?_)
    · skip
      have hF := hF.trans (if_pos h36)
      refine lv_aload_n hx hb d_Mo_isNews_67 rfl (lv_at hl 1 rfl) ?_
      refine lv_iload_n hx hb d_Mo_isNews_68 rfl (lv_at hl 2 rfl) ?_
      refine lv_iload_n hx hb d_Mo_isNews_69 rfl (lv_at hl 0 rfl) ?_
      refine gy_V B hl.1 hw (t_Mo_compareValues G _ _ ow fu x1 v35 (nn hno hF)) (kd_Mo_compareValues T) (ki_Mo T) (km_Mo_218 T) (ka_Mo_compareValues T) (ks_Mo_compareValues T) ⟨by decide, by decide, by rfl⟩ (rv_Mo hK hw rfl) rfl (Nat.le_of_ble_eq_true rfl) ⟨by decide, by decide⟩ ⟨by decide, by decide⟩ d_Mo_isNews_70 (fun v M37 r37 H locs hw hp => ?_) (fun x ek M37 r37 H locs hw hE hp => gr_t B hexc hw hE (by decide) (by decide) (hF.trans (bnd_ex hp)))
      obtain ⟨v37, rfl, hp⟩ := hp
      have hF := hF.trans (bnd_ok hp)
      refine lv_if_eq hx hb d_Mo_isNews_73 rfl (fun h38 => ?_) (fun h38 => ?_)
      · skip
        have hF := hF.trans (if_pos h38)
        refine lv_iconst (v := 0) hx hb d_Mo_isNews_80 (by decide) ?_
        exact gr_z B hw (by rfl) d_Mo_isNews_81 ⟨_, rfl, hF⟩
      · skip
        have hF := hF.trans (if_neg h38)
        refine lv_iconst (v := 1) hx hb d_Mo_isNews_76 (by decide) ?_
        refine lv_goto hx hb d_Mo_isNews_77 rfl ?_
        exact gr_z B hw (by rfl) d_Mo_isNews_81 ⟨_, rfl, hF⟩
    · skip
      have hF := hF.trans (if_neg h36)
      refine lv_aload_n hx hb d_Mo_isNews_41 rfl (lv_at hl 1 rfl) ?_
      refine gf_Mo_colon hx hb T hown hK hw rfl (kf_Mo_44 T) d_Mo_isNews_42 ?_
      refine lv_iload_n hx hb d_Mo_isNews_45 rfl (lv_at hl 2 rfl) ?_
      have g39 := ng hno hF
      have hF := hF.trans (gd_yes g39)
      refine ga_Mo_colon hx hb hK hw rfl g39 d_Mo_isNews_46 ?_
      refine lv_if_ge hx hb d_Mo_isNews_47 rfl (fun h40 => ?_) (fun h40 => ?_)
      · skip
        have hF := hF.trans (if_pos h40)
        refine lv_iconst (v := 1) hx hb d_Mo_isNews_59 (by decide) ?_
        refine lv_goto hx hb d_Mo_isNews_60 rfl ?_
        exact gr_z B hw (by rfl) d_Mo_isNews_81 ⟨_, rfl, hF⟩
      · skip
        have hF := hF.trans (if_neg h40)
        refine lv_aload_n hx hb d_Mo_isNews_50 rfl (lv_at hl 1 rfl) ?_
        refine gf_Mo_valueSize hx hb T hown hK hw rfl (kf_Mo_53 T) d_Mo_isNews_51 ?_
        refine lv_iload_n hx hb d_Mo_isNews_54 rfl (lv_at hl 2 rfl) ?_
        have g41 := ng hno hF
        have hF := hF.trans (gd_yes g41)
        refine ga_Mo_valueSize hx hb hK hw rfl g41 d_Mo_isNews_55 ?_
        refine lv_if_le hx hb d_Mo_isNews_56 rfl (fun h42 => ?_) (fun h42 => ?_)
        · skip
          have hF := hF.trans (if_pos h42)
          refine lv_iconst (v := 0) hx hb d_Mo_isNews_63 (by decide) ?_
          refine lv_goto hx hb d_Mo_isNews_64 rfl ?_
          exact gr_z B hw (by rfl) d_Mo_isNews_81 ⟨_, rfl, hF⟩
        · skip
          have hF := hF.trans (if_neg h42)
          refine lv_iconst (v := 1) hx hb d_Mo_isNews_59 (by decide) ?_
          refine lv_goto hx hb d_Mo_isNews_60 rfl ?_
          exact gr_z B hw (by rfl) d_Mo_isNews_81 ⟨_, rfl, hF⟩
theorem d_Mo_isWritten_0 : decode b_Mo_isWritten 0 = .ok (.aload_n 0, 1) := by decide +kernel
theorem d_Mo_isWritten_1 : decode b_Mo_isWritten 1 = .ok (.iload_n 1, 1) := by decide +kernel
theorem d_Mo_isWritten_2 : decode b_Mo_isWritten 2 = .ok (.invokevirtual 205, 3) := by decide +kernel
theorem d_Mo_isWritten_5 : decode b_Mo_isWritten 5 = .ok (.ifCond .eq 11, 3) := by decide +kernel
theorem d_Mo_isWritten_8 : decode b_Mo_isWritten 8 = .ok (.aload_n 0, 1) := by decide +kernel
theorem d_Mo_isWritten_9 : decode b_Mo_isWritten 9 = .ok (.iload_n 1, 1) := by decide +kernel
theorem d_Mo_isWritten_10 : decode b_Mo_isWritten 10 = .ok (.invokevirtual 239, 3) := by decide +kernel
theorem d_Mo_isWritten_13 : decode b_Mo_isWritten 13 = .ok (.ifCond .eq 7, 3) := by decide +kernel
theorem d_Mo_isWritten_16 : decode b_Mo_isWritten 16 = .ok (.iconst 1, 1) := by decide +kernel
theorem d_Mo_isWritten_17 : decode b_Mo_isWritten 17 = .ok (.goto 4, 3) := by decide +kernel
theorem d_Mo_isWritten_20 : decode b_Mo_isWritten 20 = .ok (.iconst 0, 1) := by decide +kernel
theorem d_Mo_isWritten_21 : decode b_Mo_isWritten 21 = .ok (.ireturn, 1) := by decide +kernel
set_option maxHeartbeats 4000000 in
set_option maxRecDepth 100000 in
theorem t_Mo_isWritten {l : Launch} {s0 : State} {D : va_G} {aC : Nat → ClassId} {a0 : Array Value} (G : gG l s0 D aC a0) (M : gMem) (r : gRef) (ow : Int64) (fu : Nat) (x1 : Int32)  (hno : F_Mo_isWritten fu x1 M r ≠ .no) : gMet l s0 D aC y_Mo_isWritten (Cond.code y_Mo_isWritten b_Mo_isWritten 2 (some .boolean)) 4 91 0 0 [.ref (s0.heap.size + 383), .int x1] M r ow (qI (F_Mo_isWritten fu x1 M r)) (qT (F_Mo_isWritten fu x1 M r)) := by
  refine gm_of G (by decide) (Nat.le_of_ble_eq_true rfl) ?_
  intro p e s m below meth c ls B hexc hl hw
  have hx := B.1
  have hb := B.2.1
  have hown := B.2.2.2.2.2.1
  have T := B.2.2.2.2.2.2.1
  have hK := B.2.2.2.2.2.2.2.1
  have hF := F_Mo_isWritten.eq_1 fu x1 M r
  refine lv_aload_n hx hb d_Mo_isWritten_0 rfl (lv_at hl 0 rfl) ?_
  refine lv_iload_n hx hb d_Mo_isWritten_1 rfl (lv_at hl 1 rfl) ?_
  refine gy_V B hl.1 hw (t_Mo_declares G _ _ ow fu x1 (nn hno hF)) (kd_Mo_declares T) (ki_Mo T) (km_Mo_205 T) (ka_Mo_declares T) (ks_Mo_declares T) ⟨by decide, by decide, by rfl⟩ (rv_Mo hK hw rfl) rfl (Nat.le_of_ble_eq_true rfl) ⟨by decide, by decide⟩ ⟨by decide, by decide⟩ d_Mo_isWritten_2 (fun v M5 r5 H locs hw hp => ?_) (fun x ek M5 r5 H locs hw hE hp => gr_t B hexc hw hE (by decide) (by decide) (hF.trans (bnd_ex hp)))
  obtain ⟨v5, rfl, hp⟩ := hp
  have hF := hF.trans (bnd_ok hp)
  refine lv_if_eq hx hb d_Mo_isWritten_5 rfl (fun h6 => ?_) (fun h6 => ?_)
  · skip
    have hF := hF.trans (if_pos h6)
    refine lv_iconst (v := 1) hx hb d_Mo_isWritten_16 (by decide) ?_
    refine lv_goto hx hb d_Mo_isWritten_17 rfl ?_
    exact gr_z B hw (by rfl) d_Mo_isWritten_21 ⟨_, rfl, hF⟩
  · skip
    have hF := hF.trans (if_neg h6)
    refine lv_aload_n hx hb d_Mo_isWritten_8 rfl (lv_at hl 0 rfl) ?_
    refine lv_iload_n hx hb d_Mo_isWritten_9 rfl (lv_at hl 1 rfl) ?_
    refine gy_V B hl.1 hw (t_Mo_isNews G _ _ ow fu x1 (nn hno hF)) (kd_Mo_isNews T) (ki_Mo T) (km_Mo_239 T) (ka_Mo_isNews T) (ks_Mo_isNews T) ⟨by decide, by decide, by rfl⟩ (rv_Mo hK hw rfl) rfl (Nat.le_of_ble_eq_true rfl) ⟨by decide, by decide⟩ ⟨by decide, by decide⟩ d_Mo_isWritten_10 (fun v M7 r7 H locs hw hp => ?_) (fun x ek M7 r7 H locs hw hE hp => gr_t B hexc hw hE (by decide) (by decide) (hF.trans (bnd_ex hp)))
    obtain ⟨v7, rfl, hp⟩ := hp
    have hF := hF.trans (bnd_ok hp)
    refine lv_if_eq hx hb d_Mo_isWritten_13 rfl (fun h8 => ?_) (fun h8 => ?_)
    · skip
      have hF := hF.trans (if_pos h8)
      refine lv_iconst (v := 0) hx hb d_Mo_isWritten_20 (by decide) ?_
      exact gr_z B hw (by rfl) d_Mo_isWritten_21 ⟨_, rfl, hF⟩
    · skip
      have hF := hF.trans (if_neg h8)
      refine lv_iconst (v := 1) hx hb d_Mo_isWritten_16 (by decide) ?_
      refine lv_goto hx hb d_Mo_isWritten_17 rfl ?_
      exact gr_z B hw (by rfl) d_Mo_isWritten_21 ⟨_, rfl, hF⟩
theorem d_Mo_writeAttribute_0 : decode b_Mo_writeAttribute 0 = .ok (.aload_n 0, 1) := by decide +kernel
theorem d_Mo_writeAttribute_1 : decode b_Mo_writeAttribute 1 = .ok (.bipush 32, 2) := by decide +kernel
theorem d_Mo_writeAttribute_3 : decode b_Mo_writeAttribute 3 = .ok (.invokevirtual 224, 3) := by decide +kernel
theorem d_Mo_writeAttribute_6 : decode b_Mo_writeAttribute 6 = .ok (.aload_n 0, 1) := by decide +kernel
theorem d_Mo_writeAttribute_7 : decode b_Mo_writeAttribute 7 = .ok (.aload_n 0, 1) := by decide +kernel
theorem d_Mo_writeAttribute_8 : decode b_Mo_writeAttribute 8 = .ok (.getfield 38, 3) := by decide +kernel
theorem d_Mo_writeAttribute_11 : decode b_Mo_writeAttribute 11 = .ok (.iload_n 1, 1) := by decide +kernel
theorem d_Mo_writeAttribute_12 : decode b_Mo_writeAttribute 12 = .ok (.iaload, 1) := by decide +kernel
theorem d_Mo_writeAttribute_13 : decode b_Mo_writeAttribute 13 = .ok (.aload_n 0, 1) := by decide +kernel
theorem d_Mo_writeAttribute_14 : decode b_Mo_writeAttribute 14 = .ok (.getfield 41, 3) := by decide +kernel
theorem d_Mo_writeAttribute_17 : decode b_Mo_writeAttribute 17 = .ok (.iload_n 1, 1) := by decide +kernel
theorem d_Mo_writeAttribute_18 : decode b_Mo_writeAttribute 18 = .ok (.iaload, 1) := by decide +kernel
theorem d_Mo_writeAttribute_19 : decode b_Mo_writeAttribute 19 = .ok (.invokevirtual 231, 3) := by decide +kernel
theorem d_Mo_writeAttribute_22 : decode b_Mo_writeAttribute 22 = .ok (.aload_n 0, 1) := by decide +kernel
theorem d_Mo_writeAttribute_23 : decode b_Mo_writeAttribute 23 = .ok (.bipush 61, 2) := by decide +kernel
theorem d_Mo_writeAttribute_25 : decode b_Mo_writeAttribute 25 = .ok (.invokevirtual 224, 3) := by decide +kernel
theorem d_Mo_writeAttribute_28 : decode b_Mo_writeAttribute 28 = .ok (.aload_n 0, 1) := by decide +kernel
theorem d_Mo_writeAttribute_29 : decode b_Mo_writeAttribute 29 = .ok (.bipush 34, 2) := by decide +kernel
theorem d_Mo_writeAttribute_31 : decode b_Mo_writeAttribute 31 = .ok (.invokevirtual 224, 3) := by decide +kernel
theorem d_Mo_writeAttribute_34 : decode b_Mo_writeAttribute 34 = .ok (.aload_n 0, 1) := by decide +kernel
theorem d_Mo_writeAttribute_35 : decode b_Mo_writeAttribute 35 = .ok (.getfield 50, 3) := by decide +kernel
theorem d_Mo_writeAttribute_38 : decode b_Mo_writeAttribute 38 = .ok (.iload_n 1, 1) := by decide +kernel
theorem d_Mo_writeAttribute_39 : decode b_Mo_writeAttribute 39 = .ok (.iaload, 1) := by decide +kernel
theorem d_Mo_writeAttribute_40 : decode b_Mo_writeAttribute 40 = .ok (.istore_n 2, 1) := by decide +kernel
theorem d_Mo_writeAttribute_41 : decode b_Mo_writeAttribute 41 = .ok (.iload_n 2, 1) := by decide +kernel
theorem d_Mo_writeAttribute_42 : decode b_Mo_writeAttribute 42 = .ok (.aload_n 0, 1) := by decide +kernel
theorem d_Mo_writeAttribute_43 : decode b_Mo_writeAttribute 43 = .ok (.getfield 50, 3) := by decide +kernel
theorem d_Mo_writeAttribute_46 : decode b_Mo_writeAttribute 46 = .ok (.iload_n 1, 1) := by decide +kernel
theorem d_Mo_writeAttribute_47 : decode b_Mo_writeAttribute 47 = .ok (.iaload, 1) := by decide +kernel
theorem d_Mo_writeAttribute_48 : decode b_Mo_writeAttribute 48 = .ok (.aload_n 0, 1) := by decide +kernel
theorem d_Mo_writeAttribute_49 : decode b_Mo_writeAttribute 49 = .ok (.getfield 53, 3) := by decide +kernel
theorem d_Mo_writeAttribute_52 : decode b_Mo_writeAttribute 52 = .ok (.iload_n 1, 1) := by decide +kernel
theorem d_Mo_writeAttribute_53 : decode b_Mo_writeAttribute 53 = .ok (.iaload, 1) := by decide +kernel
theorem d_Mo_writeAttribute_54 : decode b_Mo_writeAttribute 54 = .ok (.iadd, 1) := by decide +kernel
theorem d_Mo_writeAttribute_55 : decode b_Mo_writeAttribute 55 = .ok (.if_icmp .ge 20, 3) := by decide +kernel
theorem d_Mo_writeAttribute_58 : decode b_Mo_writeAttribute 58 = .ok (.aload_n 0, 1) := by decide +kernel
theorem d_Mo_writeAttribute_59 : decode b_Mo_writeAttribute 59 = .ok (.aload_n 0, 1) := by decide +kernel
theorem d_Mo_writeAttribute_60 : decode b_Mo_writeAttribute 60 = .ok (.getfield 17, 3) := by decide +kernel
theorem d_Mo_writeAttribute_63 : decode b_Mo_writeAttribute 63 = .ok (.iload_n 2, 1) := by decide +kernel
theorem d_Mo_writeAttribute_64 : decode b_Mo_writeAttribute 64 = .ok (.iaload, 1) := by decide +kernel
theorem d_Mo_writeAttribute_65 : decode b_Mo_writeAttribute 65 = .ok (.iconst 1, 1) := by decide +kernel
theorem d_Mo_writeAttribute_66 : decode b_Mo_writeAttribute 66 = .ok (.invokevirtual 235, 3) := by decide +kernel
theorem d_Mo_writeAttribute_69 : decode b_Mo_writeAttribute 69 = .ok (.iinc 2 1, 3) := by decide +kernel
theorem d_Mo_writeAttribute_72 : decode b_Mo_writeAttribute 72 = .ok (.goto (-31), 3) := by decide +kernel
theorem d_Mo_writeAttribute_75 : decode b_Mo_writeAttribute 75 = .ok (.aload_n 0, 1) := by decide +kernel
theorem d_Mo_writeAttribute_76 : decode b_Mo_writeAttribute 76 = .ok (.bipush 34, 2) := by decide +kernel
theorem d_Mo_writeAttribute_78 : decode b_Mo_writeAttribute 78 = .ok (.invokevirtual 224, 3) := by decide +kernel
theorem d_Mo_writeAttribute_81 : decode b_Mo_writeAttribute 81 = .ok (.return_, 1) := by decide +kernel
set_option maxHeartbeats 4000000 in
set_option maxRecDepth 100000 in
theorem t_Mo_writeAttribute {l : Launch} {s0 : State} {D : va_G} {aC : Nat → ClassId} {a0 : Array Value} (G : gG l s0 D aC a0) (M : gMem) (r : gRef) (ow : Int64) (fu : Nat) (x1 : Int32)  (hno : F_Mo_writeAttribute fu x1 M r ≠ .no) : gMet l s0 D aC y_Mo_writeAttribute (Cond.code y_Mo_writeAttribute b_Mo_writeAttribute 3 none) 3 67 0 0 [.ref (s0.heap.size + 383), .int x1] M r ow (qV (F_Mo_writeAttribute fu x1 M r)) (qT (F_Mo_writeAttribute fu x1 M r)) := by
  refine gm_of G (by decide) (Nat.le_of_ble_eq_true rfl) ?_
  intro p e s m below meth c ls B hexc hl hw
  have hx := B.1
  have hb := B.2.1
  have hown := B.2.2.2.2.2.1
  have T := B.2.2.2.2.2.2.1
  have hK := B.2.2.2.2.2.2.2.1
  have X75 : ∀ (M1 : gMem) (r1 : gRef) (H : Heap) (locs : List Loc) (ls : Array Slot), lv_has ls 3 [(0, .ref (s0.heap.size + 383))] → gWd s0 D aC M1 r1 ow H locs → F_Mo_writeAttribute fu x1 M r = F_Mo_writeAttribute_B75 fu x1 M1 r1 → W p l e (gRm 3 67 0 0) s m ([.ref (s0.heap.size + 383), .int x1] : List Value).toArray below meth c H locs 0 0 (gt_Q below (gQ s0 D aC ow (qV (F_Mo_writeAttribute fu x1 M r)) (qT (F_Mo_writeAttribute fu x1 M r))) s 0 0 0 0 (fun q => s0.heap.size ≤ q)) (F0 m 75 ls []) := by
    intro  M1 r1 H locs ls hl hw hF
    have hF := hF.trans (F_Mo_writeAttribute_B75.eq_1 _ _ _ _)
    refine lv_aload_n hx hb d_Mo_writeAttribute_75 rfl (lv_at hl 0 rfl) ?_
    refine lv_bipush (v := 34) hx hb d_Mo_writeAttribute_76 (by decide) ?_
    refine gy_V B hl.1 hw (t_Mo_write G _ _ ow fu 34 (nn hno hF)) (kd_Mo_write T) (ki_Mo T) (km_Mo_224 T) (ka_Mo_write T) (ks_Mo_write T) ⟨by decide, by decide, by rfl⟩ (rv_Mo hK hw rfl) rfl (Nat.le_of_ble_eq_true rfl) ⟨by decide, by decide⟩ ⟨by decide, by decide⟩ d_Mo_writeAttribute_78 (fun v M14 r14 H locs hw hp => ?_) (fun x ek M14 r14 H locs hw hE hp => gr_t B hexc hw hE (by decide) (by decide) (hF.trans (bnd_ex hp)))
    obtain ⟨rfl, hp⟩ := hp
    have hF := hF.trans (bnd_ok hp)
    exact gr_v B hw d_Mo_writeAttribute_81 ⟨rfl, hF⟩
  have L41 : ∀ (d : Nat) (x2 : Int32) (M1 : gMem) (r1 : gRef) (H : Heap) (locs : List Loc) (ls : Array Slot), lv_has ls 3 [(2, .int x2), (0, .ref (s0.heap.size + 383)), (1, .int x1)] → gWd s0 D aC M1 r1 ow H locs → F_Mo_writeAttribute fu x1 M r = F_Mo_writeAttribute_L41 fu x1 d x2 M1 r1 → W p l e (gRm 3 67 0 0) s m ([.ref (s0.heap.size + 383), .int x1] : List Value).toArray below meth c H locs 0 0 (gt_Q below (gQ s0 D aC ow (qV (F_Mo_writeAttribute fu x1 M r)) (qT (F_Mo_writeAttribute fu x1 M r))) s 0 0 0 0 (fun q => s0.heap.size ≤ q)) (F0 m 41 ls []) := by
    intro d
    induction d with
    | zero => intro x2 M1 r1 H locs ls hl hw hF; exact absurd hF hno
    | succ d ih =>
      intro x2 M1 r1 H locs ls hl hw hF
      have hF := hF.trans (F_Mo_writeAttribute_L41.eq_2 _ _ _ _ _ _)
      refine lv_iload_n hx hb d_Mo_writeAttribute_41 rfl (lv_at hl 0 rfl) ?_
      refine lv_aload_n hx hb d_Mo_writeAttribute_42 rfl (lv_at hl 1 rfl) ?_
      refine gf_Mo_valueFrom hx hb T hown hK hw rfl (kf_Mo_50 T) d_Mo_writeAttribute_43 ?_
      refine lv_iload_n hx hb d_Mo_writeAttribute_46 rfl (lv_at hl 2 rfl) ?_
      have g15 := ng hno hF
      have hF := hF.trans (gd_yes g15)
      refine ga_Mo_valueFrom hx hb hK hw rfl g15 d_Mo_writeAttribute_47 ?_
      refine lv_aload_n hx hb d_Mo_writeAttribute_48 rfl (lv_at hl 1 rfl) ?_
      refine gf_Mo_valueSize hx hb T hown hK hw rfl (kf_Mo_53 T) d_Mo_writeAttribute_49 ?_
      refine lv_iload_n hx hb d_Mo_writeAttribute_52 rfl (lv_at hl 2 rfl) ?_
      have g16 := ng hno hF
      have hF := hF.trans (gd_yes g16)
      refine ga_Mo_valueSize hx hb hK hw rfl g16 d_Mo_writeAttribute_53 ?_
      refine lv_iadd hx hb d_Mo_writeAttribute_54 ?_
      refine lv_icmp_ge hx hb d_Mo_writeAttribute_55 rfl (fun h17 => ?_) (fun h17 => ?_)
      · skip
        have hF := hF.trans (if_pos h17)
        exact X75  _ _ _ _ _ (gv_loc hl [1] rfl) hw hF
      · skip
        have hF := hF.trans (if_neg h17)
        refine lv_aload_n hx hb d_Mo_writeAttribute_58 rfl (lv_at hl 1 rfl) ?_
        refine lv_aload_n hx hb d_Mo_writeAttribute_59 rfl (lv_at hl 1 rfl) ?_
        refine gf_Mo_pool hx hb T hown hK hw rfl (kf_Mo_17 T) d_Mo_writeAttribute_60 ?_
        refine lv_iload_n hx hb d_Mo_writeAttribute_63 rfl (lv_at hl 0 rfl) ?_
        have g18 := ng hno hF
        have hF := hF.trans (gd_yes g18)
        refine ga_Mo_pool hx hb hK hw rfl g18 d_Mo_writeAttribute_64 ?_
        refine lv_iconst (v := 1) hx hb d_Mo_writeAttribute_65 (by decide) ?_
        refine gy_V B hl.1 hw (t_Mo_writeSafe G _ _ ow fu (M1 108 x2.toNatClampNeg) 1 (nn hno hF)) (kd_Mo_writeSafe T) (ki_Mo T) (km_Mo_235 T) (ka_Mo_writeSafe T) (ks_Mo_writeSafe T) ⟨by decide, by decide, by rfl⟩ (rv_Mo hK hw rfl) rfl (Nat.le_of_ble_eq_true rfl) ⟨by decide, by decide⟩ ⟨by decide, by decide⟩ d_Mo_writeAttribute_66 (fun v M19 r19 H locs hw hp => ?_) (fun x ek M19 r19 H locs hw hE hp => gr_t B hexc hw hE (by decide) (by decide) (hF.trans (bnd_ex hp)))
        obtain ⟨rfl, hp⟩ := hp
        have hF := hF.trans (bnd_ok hp)
        refine lv_iinc (k := 0) hx hb d_Mo_writeAttribute_69 hl rfl (show _ + Int32.ofInt 1 = _ + 1 from rfl) (by decide) rfl (fun ls hl => ?_)
        refine lv_goto hx hb d_Mo_writeAttribute_72 rfl ?_
        exact ih (x2 + 1) _ _ _ _ _ (gv_loc hl [0, 1, 2] rfl) hw hF
  have hF := F_Mo_writeAttribute.eq_1 fu x1 M r
  refine lv_aload_n hx hb d_Mo_writeAttribute_0 rfl (lv_at hl 0 rfl) ?_
  refine lv_bipush (v := 32) hx hb d_Mo_writeAttribute_1 (by decide) ?_
  refine gy_V B hl.1 hw (t_Mo_write G _ _ ow fu 32 (nn hno hF)) (kd_Mo_write T) (ki_Mo T) (km_Mo_224 T) (ka_Mo_write T) (ks_Mo_write T) ⟨by decide, by decide, by rfl⟩ (rv_Mo hK hw rfl) rfl (Nat.le_of_ble_eq_true rfl) ⟨by decide, by decide⟩ ⟨by decide, by decide⟩ d_Mo_writeAttribute_3 (fun v M20 r20 H locs hw hp => ?_) (fun x ek M20 r20 H locs hw hE hp => gr_t B hexc hw hE (by decide) (by decide) (hF.trans (bnd_ex hp)))
  obtain ⟨rfl, hp⟩ := hp
  have hF := hF.trans (bnd_ok hp)
  refine lv_aload_n hx hb d_Mo_writeAttribute_6 rfl (lv_at hl 0 rfl) ?_
  refine lv_aload_n hx hb d_Mo_writeAttribute_7 rfl (lv_at hl 0 rfl) ?_
  refine gf_Mo_from hx hb T hown hK hw rfl (kf_Mo_38 T) d_Mo_writeAttribute_8 ?_
  refine lv_iload_n hx hb d_Mo_writeAttribute_11 rfl (lv_at hl 1 rfl) ?_
  have g21 := ng hno hF
  have hF := hF.trans (gd_yes g21)
  refine ga_Mo_from hx hb hK hw rfl g21 d_Mo_writeAttribute_12 ?_
  refine lv_aload_n hx hb d_Mo_writeAttribute_13 rfl (lv_at hl 0 rfl) ?_
  refine gf_Mo_size hx hb T hown hK hw rfl (kf_Mo_41 T) d_Mo_writeAttribute_14 ?_
  refine lv_iload_n hx hb d_Mo_writeAttribute_17 rfl (lv_at hl 1 rfl) ?_
  have g22 := ng hno hF
  have hF := hF.trans (gd_yes g22)
  refine ga_Mo_size hx hb hK hw rfl g22 d_Mo_writeAttribute_18 ?_
  refine gy_V B hl.1 hw (t_Mo_writeStretch G _ _ ow fu (M20 116 x1.toNatClampNeg) (M20 117 x1.toNatClampNeg) (nn hno hF)) (kd_Mo_writeStretch T) (ki_Mo T) (km_Mo_231 T) (ka_Mo_writeStretch T) (ks_Mo_writeStretch T) ⟨by decide, by decide, by rfl⟩ (rv_Mo hK hw rfl) rfl (Nat.le_of_ble_eq_true rfl) ⟨by decide, by decide⟩ ⟨by decide, by decide⟩ d_Mo_writeAttribute_19 (fun v M23 r23 H locs hw hp => ?_) (fun x ek M23 r23 H locs hw hE hp => gr_t B hexc hw hE (by decide) (by decide) (hF.trans (bnd_ex hp)))
  obtain ⟨rfl, hp⟩ := hp
  have hF := hF.trans (bnd_ok hp)
  refine lv_aload_n hx hb d_Mo_writeAttribute_22 rfl (lv_at hl 0 rfl) ?_
  refine lv_bipush (v := 61) hx hb d_Mo_writeAttribute_23 (by decide) ?_
  refine gy_V B hl.1 hw (t_Mo_write G _ _ ow fu 61 (nn hno hF)) (kd_Mo_write T) (ki_Mo T) (km_Mo_224 T) (ka_Mo_write T) (ks_Mo_write T) ⟨by decide, by decide, by rfl⟩ (rv_Mo hK hw rfl) rfl (Nat.le_of_ble_eq_true rfl) ⟨by decide, by decide⟩ ⟨by decide, by decide⟩ d_Mo_writeAttribute_25 (fun v M24 r24 H locs hw hp => ?_) (fun x ek M24 r24 H locs hw hE hp => gr_t B hexc hw hE (by decide) (by decide) (hF.trans (bnd_ex hp)))
  obtain ⟨rfl, hp⟩ := hp
  have hF := hF.trans (bnd_ok hp)
  refine lv_aload_n hx hb d_Mo_writeAttribute_28 rfl (lv_at hl 0 rfl) ?_
  refine lv_bipush (v := 34) hx hb d_Mo_writeAttribute_29 (by decide) ?_
  refine gy_V B hl.1 hw (t_Mo_write G _ _ ow fu 34 (nn hno hF)) (kd_Mo_write T) (ki_Mo T) (km_Mo_224 T) (ka_Mo_write T) (ks_Mo_write T) ⟨by decide, by decide, by rfl⟩ (rv_Mo hK hw rfl) rfl (Nat.le_of_ble_eq_true rfl) ⟨by decide, by decide⟩ ⟨by decide, by decide⟩ d_Mo_writeAttribute_31 (fun v M25 r25 H locs hw hp => ?_) (fun x ek M25 r25 H locs hw hE hp => gr_t B hexc hw hE (by decide) (by decide) (hF.trans (bnd_ex hp)))
  obtain ⟨rfl, hp⟩ := hp
  have hF := hF.trans (bnd_ok hp)
  refine lv_aload_n hx hb d_Mo_writeAttribute_34 rfl (lv_at hl 0 rfl) ?_
  refine gf_Mo_valueFrom hx hb T hown hK hw rfl (kf_Mo_50 T) d_Mo_writeAttribute_35 ?_
  refine lv_iload_n hx hb d_Mo_writeAttribute_38 rfl (lv_at hl 1 rfl) ?_
  have g26 := ng hno hF
  have hF := hF.trans (gd_yes g26)
  refine ga_Mo_valueFrom hx hb hK hw rfl g26 d_Mo_writeAttribute_39 ?_
  refine lv_istore_n hx hb d_Mo_writeAttribute_40 rfl hl (by decide) rfl (fun ls hl => ?_)
  exact L41 fu (M25 120 x1.toNatClampNeg) _ _ _ _ _ (gv_loc hl [0, 1, 2] rfl) hw hF
theorem d_Mo_writeTag_0 : decode b_Mo_writeTag 0 = .ok (.aload_n 0, 1) := by decide +kernel
theorem d_Mo_writeTag_1 : decode b_Mo_writeTag 1 = .ok (.bipush 60, 2) := by decide +kernel
theorem d_Mo_writeTag_3 : decode b_Mo_writeTag 3 = .ok (.invokevirtual 224, 3) := by decide +kernel
theorem d_Mo_writeTag_6 : decode b_Mo_writeTag 6 = .ok (.aload_n 0, 1) := by decide +kernel
theorem d_Mo_writeTag_7 : decode b_Mo_writeTag 7 = .ok (.aload_n 0, 1) := by decide +kernel
theorem d_Mo_writeTag_8 : decode b_Mo_writeTag 8 = .ok (.getfield 23, 3) := by decide +kernel
theorem d_Mo_writeTag_11 : decode b_Mo_writeTag 11 = .ok (.iload_n 1, 1) := by decide +kernel
theorem d_Mo_writeTag_12 : decode b_Mo_writeTag 12 = .ok (.iaload, 1) := by decide +kernel
theorem d_Mo_writeTag_13 : decode b_Mo_writeTag 13 = .ok (.aload_n 0, 1) := by decide +kernel
theorem d_Mo_writeTag_14 : decode b_Mo_writeTag 14 = .ok (.getfield 26, 3) := by decide +kernel
theorem d_Mo_writeTag_17 : decode b_Mo_writeTag 17 = .ok (.iload_n 1, 1) := by decide +kernel
theorem d_Mo_writeTag_18 : decode b_Mo_writeTag 18 = .ok (.iaload, 1) := by decide +kernel
theorem d_Mo_writeTag_19 : decode b_Mo_writeTag 19 = .ok (.invokevirtual 231, 3) := by decide +kernel
theorem d_Mo_writeTag_22 : decode b_Mo_writeTag 22 = .ok (.iconst 0, 1) := by decide +kernel
theorem d_Mo_writeTag_23 : decode b_Mo_writeTag 23 = .ok (.istore_n 2, 1) := by decide +kernel
theorem d_Mo_writeTag_24 : decode b_Mo_writeTag 24 = .ok (.iconst 0, 1) := by decide +kernel
theorem d_Mo_writeTag_25 : decode b_Mo_writeTag 25 = .ok (.istore_n 3, 1) := by decide +kernel
theorem d_Mo_writeTag_26 : decode b_Mo_writeTag 26 = .ok (.iload_n 3, 1) := by decide +kernel
theorem d_Mo_writeTag_27 : decode b_Mo_writeTag 27 = .ok (.aload_n 0, 1) := by decide +kernel
theorem d_Mo_writeTag_28 : decode b_Mo_writeTag 28 = .ok (.getfield 35, 3) := by decide +kernel
theorem d_Mo_writeTag_31 : decode b_Mo_writeTag 31 = .ok (.iload_n 1, 1) := by decide +kernel
theorem d_Mo_writeTag_32 : decode b_Mo_writeTag 32 = .ok (.iaload, 1) := by decide +kernel
theorem d_Mo_writeTag_33 : decode b_Mo_writeTag 33 = .ok (.if_icmp .ge 118, 3) := by decide +kernel
theorem d_Mo_writeTag_36 : decode b_Mo_writeTag 36 = .ok (.iconst (-1), 1) := by decide +kernel
theorem d_Mo_writeTag_37 : decode b_Mo_writeTag 37 = .ok (.istore 4, 2) := by decide +kernel
theorem d_Mo_writeTag_39 : decode b_Mo_writeTag 39 = .ok (.bipush 6, 2) := by decide +kernel
theorem d_Mo_writeTag_41 : decode b_Mo_writeTag 41 = .ok (.iload_n 1, 1) := by decide +kernel
theorem d_Mo_writeTag_42 : decode b_Mo_writeTag 42 = .ok (.imul, 1) := by decide +kernel
theorem d_Mo_writeTag_43 : decode b_Mo_writeTag 43 = .ok (.istore 5, 2) := by decide +kernel
theorem d_Mo_writeTag_45 : decode b_Mo_writeTag 45 = .ok (.iload 5, 2) := by decide +kernel
theorem d_Mo_writeTag_47 : decode b_Mo_writeTag 47 = .ok (.bipush 6, 2) := by decide +kernel
theorem d_Mo_writeTag_49 : decode b_Mo_writeTag 49 = .ok (.iload_n 1, 1) := by decide +kernel
theorem d_Mo_writeTag_50 : decode b_Mo_writeTag 50 = .ok (.imul, 1) := by decide +kernel
theorem d_Mo_writeTag_51 : decode b_Mo_writeTag 51 = .ok (.aload_n 0, 1) := by decide +kernel
theorem d_Mo_writeTag_52 : decode b_Mo_writeTag 52 = .ok (.getfield 35, 3) := by decide +kernel
theorem d_Mo_writeTag_55 : decode b_Mo_writeTag 55 = .ok (.iload_n 1, 1) := by decide +kernel
theorem d_Mo_writeTag_56 : decode b_Mo_writeTag 56 = .ok (.iaload, 1) := by decide +kernel
theorem d_Mo_writeTag_57 : decode b_Mo_writeTag 57 = .ok (.iadd, 1) := by decide +kernel
theorem d_Mo_writeTag_58 : decode b_Mo_writeTag 58 = .ok (.if_icmp .ge 60, 3) := by decide +kernel
theorem d_Mo_writeTag_61 : decode b_Mo_writeTag 61 = .ok (.iload_n 2, 1) := by decide +kernel
theorem d_Mo_writeTag_62 : decode b_Mo_writeTag 62 = .ok (.iload 5, 2) := by decide +kernel
theorem d_Mo_writeTag_64 : decode b_Mo_writeTag 64 = .ok (.bipush 6, 2) := by decide +kernel
theorem d_Mo_writeTag_66 : decode b_Mo_writeTag 66 = .ok (.iload_n 1, 1) := by decide +kernel
theorem d_Mo_writeTag_67 : decode b_Mo_writeTag 67 = .ok (.imul, 1) := by decide +kernel
theorem d_Mo_writeTag_68 : decode b_Mo_writeTag 68 = .ok (.isub, 1) := by decide +kernel
theorem d_Mo_writeTag_69 : decode b_Mo_writeTag 69 = .ok (.ishr, 1) := by decide +kernel
theorem d_Mo_writeTag_70 : decode b_Mo_writeTag 70 = .ok (.iconst 1, 1) := by decide +kernel
theorem d_Mo_writeTag_71 : decode b_Mo_writeTag 71 = .ok (.iand, 1) := by decide +kernel
theorem d_Mo_writeTag_72 : decode b_Mo_writeTag 72 = .ok (.ifCond .ne 7, 3) := by decide +kernel
theorem d_Mo_writeTag_75 : decode b_Mo_writeTag 75 = .ok (.iconst 1, 1) := by decide +kernel
theorem d_Mo_writeTag_76 : decode b_Mo_writeTag 76 = .ok (.goto 4, 3) := by decide +kernel
theorem d_Mo_writeTag_79 : decode b_Mo_writeTag 79 = .ok (.iconst 0, 1) := by decide +kernel
theorem d_Mo_writeTag_80 : decode b_Mo_writeTag 80 = .ok (.istore 6, 2) := by decide +kernel
theorem d_Mo_writeTag_82 : decode b_Mo_writeTag 82 = .ok (.iload 6, 2) := by decide +kernel
theorem d_Mo_writeTag_84 : decode b_Mo_writeTag 84 = .ok (.ifCond .eq 24, 3) := by decide +kernel
theorem d_Mo_writeTag_87 : decode b_Mo_writeTag 87 = .ok (.iload 4, 2) := by decide +kernel
theorem d_Mo_writeTag_89 : decode b_Mo_writeTag 89 = .ok (.ifCond .lt 14, 3) := by decide +kernel
theorem d_Mo_writeTag_92 : decode b_Mo_writeTag 92 = .ok (.aload_n 0, 1) := by decide +kernel
theorem d_Mo_writeTag_93 : decode b_Mo_writeTag 93 = .ok (.iload 5, 2) := by decide +kernel
theorem d_Mo_writeTag_95 : decode b_Mo_writeTag 95 = .ok (.iload 4, 2) := by decide +kernel
theorem d_Mo_writeTag_97 : decode b_Mo_writeTag 97 = .ok (.invokevirtual 242, 3) := by decide +kernel
theorem d_Mo_writeTag_100 : decode b_Mo_writeTag 100 = .ok (.ifCond .ge 8, 3) := by decide +kernel
theorem d_Mo_writeTag_103 : decode b_Mo_writeTag 103 = .ok (.iload 5, 2) := by decide +kernel
theorem d_Mo_writeTag_105 : decode b_Mo_writeTag 105 = .ok (.goto 5, 3) := by decide +kernel
theorem d_Mo_writeTag_108 : decode b_Mo_writeTag 108 = .ok (.iload 4, 2) := by decide +kernel
theorem d_Mo_writeTag_110 : decode b_Mo_writeTag 110 = .ok (.istore 4, 2) := by decide +kernel
theorem d_Mo_writeTag_112 : decode b_Mo_writeTag 112 = .ok (.iinc 5 1, 3) := by decide +kernel
theorem d_Mo_writeTag_115 : decode b_Mo_writeTag 115 = .ok (.goto (-70), 3) := by decide +kernel
theorem d_Mo_writeTag_118 : decode b_Mo_writeTag 118 = .ok (.iload_n 2, 1) := by decide +kernel
theorem d_Mo_writeTag_119 : decode b_Mo_writeTag 119 = .ok (.iconst 1, 1) := by decide +kernel
theorem d_Mo_writeTag_120 : decode b_Mo_writeTag 120 = .ok (.iload 4, 2) := by decide +kernel
theorem d_Mo_writeTag_122 : decode b_Mo_writeTag 122 = .ok (.bipush 6, 2) := by decide +kernel
theorem d_Mo_writeTag_124 : decode b_Mo_writeTag 124 = .ok (.iload_n 1, 1) := by decide +kernel
theorem d_Mo_writeTag_125 : decode b_Mo_writeTag 125 = .ok (.imul, 1) := by decide +kernel
theorem d_Mo_writeTag_126 : decode b_Mo_writeTag 126 = .ok (.isub, 1) := by decide +kernel
theorem d_Mo_writeTag_127 : decode b_Mo_writeTag 127 = .ok (.ishl, 1) := by decide +kernel
theorem d_Mo_writeTag_128 : decode b_Mo_writeTag 128 = .ok (.ior, 1) := by decide +kernel
theorem d_Mo_writeTag_129 : decode b_Mo_writeTag 129 = .ok (.istore_n 2, 1) := by decide +kernel
theorem d_Mo_writeTag_130 : decode b_Mo_writeTag 130 = .ok (.aload_n 0, 1) := by decide +kernel
theorem d_Mo_writeTag_131 : decode b_Mo_writeTag 131 = .ok (.iload 4, 2) := by decide +kernel
theorem d_Mo_writeTag_133 : decode b_Mo_writeTag 133 = .ok (.invokevirtual 245, 3) := by decide +kernel
theorem d_Mo_writeTag_136 : decode b_Mo_writeTag 136 = .ok (.ifCond .eq 9, 3) := by decide +kernel
theorem d_Mo_writeTag_139 : decode b_Mo_writeTag 139 = .ok (.aload_n 0, 1) := by decide +kernel
theorem d_Mo_writeTag_140 : decode b_Mo_writeTag 140 = .ok (.iload 4, 2) := by decide +kernel
theorem d_Mo_writeTag_142 : decode b_Mo_writeTag 142 = .ok (.invokevirtual 248, 3) := by decide +kernel
theorem d_Mo_writeTag_145 : decode b_Mo_writeTag 145 = .ok (.iinc 3 1, 3) := by decide +kernel
theorem d_Mo_writeTag_148 : decode b_Mo_writeTag 148 = .ok (.goto (-122), 3) := by decide +kernel
theorem d_Mo_writeTag_151 : decode b_Mo_writeTag 151 = .ok (.aload_n 0, 1) := by decide +kernel
theorem d_Mo_writeTag_152 : decode b_Mo_writeTag 152 = .ok (.bipush 62, 2) := by decide +kernel
theorem d_Mo_writeTag_154 : decode b_Mo_writeTag 154 = .ok (.invokevirtual 224, 3) := by decide +kernel
theorem d_Mo_writeTag_157 : decode b_Mo_writeTag 157 = .ok (.return_, 1) := by decide +kernel
set_option maxHeartbeats 4000000 in
set_option maxRecDepth 100000 in
theorem t_Mo_writeTag {l : Launch} {s0 : State} {D : va_G} {aC : Nat → ClassId} {a0 : Array Value} (G : gG l s0 D aC a0) (M : gMem) (r : gRef) (ow : Int64) (fu : Nat) (x1 : Int32)  (hno : F_Mo_writeTag fu x1 M r ≠ .no) : gMet l s0 D aC y_Mo_writeTag (Cond.code y_Mo_writeTag b_Mo_writeTag 7 none) 5 117 0 0 [.ref (s0.heap.size + 383), .int x1] M r ow (qV (F_Mo_writeTag fu x1 M r)) (qT (F_Mo_writeTag fu x1 M r)) := by
  refine gm_of G (by decide) (Nat.le_of_ble_eq_true rfl) ?_
  intro p e s m below meth c ls B hexc hl hw
  have hx := B.1
  have hb := B.2.1
  have hown := B.2.2.2.2.2.1
  have T := B.2.2.2.2.2.2.1
  have hK := B.2.2.2.2.2.2.2.1
  have X151 : ∀ (M1 : gMem) (r1 : gRef) (H : Heap) (locs : List Loc) (ls : Array Slot), lv_has ls 7 [(0, .ref (s0.heap.size + 383))] → gWd s0 D aC M1 r1 ow H locs → F_Mo_writeTag fu x1 M r = F_Mo_writeTag_B151 fu x1 M1 r1 → W p l e (gRm 5 117 0 0) s m ([.ref (s0.heap.size + 383), .int x1] : List Value).toArray below meth c H locs 0 0 (gt_Q below (gQ s0 D aC ow (qV (F_Mo_writeTag fu x1 M r)) (qT (F_Mo_writeTag fu x1 M r))) s 0 0 0 0 (fun q => s0.heap.size ≤ q)) (F0 m 151 ls []) := by
    intro  M1 r1 H locs ls hl hw hF
    have hF := hF.trans (F_Mo_writeTag_B151.eq_1 _ _ _ _)
    refine lv_aload_n hx hb d_Mo_writeTag_151 rfl (lv_at hl 0 rfl) ?_
    refine lv_bipush (v := 62) hx hb d_Mo_writeTag_152 (by decide) ?_
    refine gy_V B hl.1 hw (t_Mo_write G _ _ ow fu 62 (nn hno hF)) (kd_Mo_write T) (ki_Mo T) (km_Mo_224 T) (ka_Mo_write T) (ks_Mo_write T) ⟨by decide, by decide, by rfl⟩ (rv_Mo hK hw rfl) rfl (Nat.le_of_ble_eq_true rfl) ⟨by decide, by decide⟩ ⟨by decide, by decide⟩ d_Mo_writeTag_154 (fun v M18 r18 H locs hw hp => ?_) (fun x ek M18 r18 H locs hw hE hp => gr_t B hexc hw hE (by decide) (by decide) (hF.trans (bnd_ex hp)))
    obtain ⟨rfl, hp⟩ := hp
    have hF := hF.trans (bnd_ok hp)
    exact gr_v B hw d_Mo_writeTag_157 ⟨rfl, hF⟩
  have L26 : ∀ (d : Nat) (x2 : Int32) (x3 : Int32) (M1 : gMem) (r1 : gRef) (H : Heap) (locs : List Loc) (ls : Array Slot), lv_has ls 7 [(2, .int x2), (3, .int x3), (0, .ref (s0.heap.size + 383)), (1, .int x1)] → gWd s0 D aC M1 r1 ow H locs → F_Mo_writeTag fu x1 M r = F_Mo_writeTag_L26 fu x1 d x2 x3 M1 r1 → W p l e (gRm 5 117 0 0) s m ([.ref (s0.heap.size + 383), .int x1] : List Value).toArray below meth c H locs 0 0 (gt_Q below (gQ s0 D aC ow (qV (F_Mo_writeTag fu x1 M r)) (qT (F_Mo_writeTag fu x1 M r))) s 0 0 0 0 (fun q => s0.heap.size ≤ q)) (F0 m 26 ls []) := by
    intro d
    induction d with
    | zero => intro x2 x3 M1 r1 H locs ls hl hw hF; exact absurd hF hno
    | succ d ih =>
      intro x2 x3 M1 r1 H locs ls hl hw hF
      have hF := hF.trans (F_Mo_writeTag_L26.eq_2 _ _ _ _ _ _ _)
      refine lv_iload_n hx hb d_Mo_writeTag_26 rfl (lv_at hl 1 rfl) ?_
      refine lv_aload_n hx hb d_Mo_writeTag_27 rfl (lv_at hl 2 rfl) ?_
      refine gf_Mo_counts hx hb T hown hK hw rfl (kf_Mo_35 T) d_Mo_writeTag_28 ?_
      refine lv_iload_n hx hb d_Mo_writeTag_31 rfl (lv_at hl 3 rfl) ?_
      have g19 := ng hno hF
      have hF := hF.trans (gd_yes g19)
      refine ga_Mo_counts hx hb hK hw rfl g19 d_Mo_writeTag_32 ?_
      refine lv_icmp_ge hx hb d_Mo_writeTag_33 rfl (fun h20 => ?_) (fun h20 => ?_)
      · skip
        have hF := hF.trans (if_pos h20)
        exact X151  _ _ _ _ _ (gv_loc hl [2] rfl) hw hF
      · skip
        have hF := hF.trans (if_neg h20)
        refine lv_iconst (v := -1) hx hb d_Mo_writeTag_36 (by decide) ?_
        refine lv_istore hx hb d_Mo_writeTag_37 hl (by decide) rfl (fun ls hl => ?_)
        refine lv_bipush (v := 6) hx hb d_Mo_writeTag_39 (by decide) ?_
        refine lv_iload_n hx hb d_Mo_writeTag_41 rfl (lv_at hl 4 rfl) ?_
        refine lv_imul hx hb d_Mo_writeTag_42 ?_
        refine lv_istore hx hb d_Mo_writeTag_43 hl (by decide) rfl (fun ls hl => ?_)
        have I45 : ∀ (d2 : Nat) (x4 : Int32) (x5 : Int32) (M1 : gMem) (r1 : gRef) (H : Heap) (locs : List Loc) (ls : Array Slot), lv_has ls 7 [(0, .ref (s0.heap.size + 383)), (1, .int x1), (2, .int x2), (3, .int x3), (4, .int x4), (5, .int x5)] → gWd s0 D aC M1 r1 ow H locs → F_Mo_writeTag fu x1 M r = gO.bnd (F_Mo_writeTag_I45 fu x1 d2 x2 x3 x4 x5 M1 r1) (fun s27 M27 r27 => gsm s27 (fun v => .ok v M27 r27) (fun e27 => gO.bnd (F_Mo_isWritten fu e27 M27 r27) (fun v28 M28 r28 => if v28 = 0 then (F_Mo_writeTag_L26 fu x1 d (x2 ||| (1 <<< ((e27 - (6 * x1)) &&& 31))) (x3 + 1) M28 r28) else (gO.bnd (F_Mo_writeAttribute fu e27 M28 r28) (fun v30 M30 r30 => F_Mo_writeTag_L26 fu x1 d (x2 ||| (1 <<< ((e27 - (6 * x1)) &&& 31))) (x3 + 1) M30 r30))))) → W p l e (gRm 5 117 0 0) s m ([.ref (s0.heap.size + 383), .int x1] : List Value).toArray below meth c H locs 0 0 (gt_Q below (gQ s0 D aC ow (qV (F_Mo_writeTag fu x1 M r)) (qT (F_Mo_writeTag fu x1 M r))) s 0 0 0 0 (fun q => s0.heap.size ≤ q)) (F0 m 45 ls []) := by
          intro d2
          induction d2 with
          | zero => intro x4 x5 M1 r1 H locs ls hl hw hF; exact absurd hF hno
          | succ d2 ih2 =>
            intro x4 x5 M1 r1 H locs ls hl hw hF
            have hF := hF.trans (bnc (F_Mo_writeTag_I45.eq_2 _ _ _ _ _ _ _ _ _))
            refine lv_iload hx hb d_Mo_writeTag_45 (lv_at hl 5 rfl) ?_
            refine lv_bipush (v := 6) hx hb d_Mo_writeTag_47 (by decide) ?_
            refine lv_iload_n hx hb d_Mo_writeTag_49 rfl (lv_at hl 1 rfl) ?_
            refine lv_imul hx hb d_Mo_writeTag_50 ?_
            refine lv_aload_n hx hb d_Mo_writeTag_51 rfl (lv_at hl 0 rfl) ?_
            refine gf_Mo_counts hx hb T hown hK hw rfl (kf_Mo_35 T) d_Mo_writeTag_52 ?_
            refine lv_iload_n hx hb d_Mo_writeTag_55 rfl (lv_at hl 1 rfl) ?_
            have g31 := ng2 hno hF
            have hF := hF.trans (bnc (gd_yes g31))
            refine ga_Mo_counts hx hb hK hw rfl g31 d_Mo_writeTag_56 ?_
            refine lv_iadd hx hb d_Mo_writeTag_57 ?_
            refine lv_icmp_ge hx hb d_Mo_writeTag_58 rfl (fun h32 => ?_) (fun h32 => ?_)
            · skip
              have hF := hF.trans (bnc (if_pos h32))
              have hF := hF.trans (show _ = gO.bnd (F_Mo_isWritten fu x4 M1 r1) (fun v33 M33 r33 => if v33 = 0 then (F_Mo_writeTag_L26 fu x1 d (x2 ||| (1 <<< ((x4 - (6 * x1)) &&& 31))) (x3 + 1) M33 r33) else (gO.bnd (F_Mo_writeAttribute fu x4 M33 r33) (fun v35 M35 r35 => F_Mo_writeTag_L26 fu x1 d (x2 ||| (1 <<< ((x4 - (6 * x1)) &&& 31))) (x3 + 1) M35 r35))) from rfl)
              refine lv_iload_n hx hb d_Mo_writeTag_118 rfl (lv_at hl 2 rfl) ?_
              refine lv_iconst (v := 1) hx hb d_Mo_writeTag_119 (by decide) ?_
              refine lv_iload hx hb d_Mo_writeTag_120 (lv_at hl 4 rfl) ?_
              refine lv_bipush (v := 6) hx hb d_Mo_writeTag_122 (by decide) ?_
              refine lv_iload_n hx hb d_Mo_writeTag_124 rfl (lv_at hl 1 rfl) ?_
              refine lv_imul hx hb d_Mo_writeTag_125 ?_
              refine lv_isub hx hb d_Mo_writeTag_126 ?_
              refine lv_ishl hx hb d_Mo_writeTag_127 ?_
              refine lv_ior hx hb d_Mo_writeTag_128 ?_
              refine lv_istore_n hx hb d_Mo_writeTag_129 rfl hl (by decide) rfl (fun ls hl => ?_)
              refine lv_aload_n hx hb d_Mo_writeTag_130 rfl (lv_at hl 1 rfl) ?_
              refine lv_iload hx hb d_Mo_writeTag_131 (lv_at hl 4 rfl) ?_
              refine gy_V B hl.1 hw (t_Mo_isWritten G _ _ ow fu x4 (nn hno hF)) (kd_Mo_isWritten T) (ki_Mo T) (km_Mo_245 T) (ka_Mo_isWritten T) (ks_Mo_isWritten T) ⟨by decide, by decide, by rfl⟩ (rv_Mo hK hw rfl) rfl (Nat.le_of_ble_eq_true rfl) ⟨by decide, by decide⟩ ⟨by decide, by decide⟩ d_Mo_writeTag_133 (fun v M33 r33 H locs hw hp => ?_) (fun x ek M33 r33 H locs hw hE hp => gr_t B hexc hw hE (by decide) (by decide) (hF.trans (bnd_ex hp)))
              obtain ⟨v33, rfl, hp⟩ := hp
              have hF := hF.trans (bnd_ok hp)
              refine lv_if_eq hx hb d_Mo_writeTag_136 rfl (fun h34 => ?_) (fun h34 => ?_)
              · skip
                have hF := hF.trans (if_pos h34)
                refine lv_iinc (k := 3) hx hb d_Mo_writeTag_145 hl rfl (show _ + Int32.ofInt 1 = _ + 1 from rfl) (by decide) rfl (fun ls hl => ?_)
                refine lv_goto hx hb d_Mo_writeTag_148 rfl ?_
                exact ih (x2 ||| (1 <<< ((x4 - (6 * x1)) &&& 31))) (x3 + 1) _ _ _ _ _ (gv_loc hl [1, 0, 2, 3] rfl) hw hF
              · skip
                have hF := hF.trans (if_neg h34)
                refine lv_aload_n hx hb d_Mo_writeTag_139 rfl (lv_at hl 1 rfl) ?_
                refine lv_iload hx hb d_Mo_writeTag_140 (lv_at hl 4 rfl) ?_
                refine gy_V B hl.1 hw (t_Mo_writeAttribute G _ _ ow fu x4 (nn hno hF)) (kd_Mo_writeAttribute T) (ki_Mo T) (km_Mo_248 T) (ka_Mo_writeAttribute T) (ks_Mo_writeAttribute T) ⟨by decide, by decide, by rfl⟩ (rv_Mo hK hw rfl) rfl (Nat.le_of_ble_eq_true rfl) ⟨by decide, by decide⟩ ⟨by decide, by decide⟩ d_Mo_writeTag_142 (fun v M35 r35 H locs hw hp => ?_) (fun x ek M35 r35 H locs hw hE hp => gr_t B hexc hw hE (by decide) (by decide) (hF.trans (bnd_ex hp)))
                obtain ⟨rfl, hp⟩ := hp
                have hF := hF.trans (bnd_ok hp)
                refine lv_iinc (k := 3) hx hb d_Mo_writeTag_145 hl rfl (show _ + Int32.ofInt 1 = _ + 1 from rfl) (by decide) rfl (fun ls hl => ?_)
                refine lv_goto hx hb d_Mo_writeTag_148 rfl ?_
                exact ih (x2 ||| (1 <<< ((x4 - (6 * x1)) &&& 31))) (x3 + 1) _ _ _ _ _ (gv_loc hl [1, 0, 2, 3] rfl) hw hF
            · skip
              have hF := hF.trans (bnc (if_neg h32))
              refine lv_iload_n hx hb d_Mo_writeTag_61 rfl (lv_at hl 2 rfl) ?_
              refine lv_iload hx hb d_Mo_writeTag_62 (lv_at hl 5 rfl) ?_
              refine lv_bipush (v := 6) hx hb d_Mo_writeTag_64 (by decide) ?_
              refine lv_iload_n hx hb d_Mo_writeTag_66 rfl (lv_at hl 1 rfl) ?_
              refine lv_imul hx hb d_Mo_writeTag_67 ?_
              refine lv_isub hx hb d_Mo_writeTag_68 ?_
              refine lv_ishr hx hb d_Mo_writeTag_69 ?_
              refine lv_iconst (v := 1) hx hb d_Mo_writeTag_70 (by decide) ?_
              refine lv_iand hx hb d_Mo_writeTag_71 ?_
              refine lv_if_ne hx hb d_Mo_writeTag_72 rfl (fun h36 => ?_) (fun h36 => ?_)
              · skip
                have hF := hF.trans (bnc (if_neg h36))
                refine lv_iconst (v := 0) hx hb d_Mo_writeTag_79 (by decide) ?_
                refine lv_istore hx hb d_Mo_writeTag_80 hl (by decide) rfl (fun ls hl => ?_)
                refine lv_iload hx hb d_Mo_writeTag_82 (lv_at hl 0 rfl) ?_
                refine lv_if_eq hx hb d_Mo_writeTag_84 rfl (fun _ => ?_) (fun h => absurd h (by decide))
                refine lv_iload hx hb d_Mo_writeTag_108 (lv_at hl 5 rfl) ?_
                refine lv_istore hx hb d_Mo_writeTag_110 hl (by decide) rfl (fun ls hl => ?_)
                refine lv_iinc (k := 6) hx hb d_Mo_writeTag_112 hl rfl (show _ + Int32.ofInt 1 = _ + 1 from rfl) (by decide) rfl (fun ls hl => ?_)
                refine lv_goto hx hb d_Mo_writeTag_115 rfl ?_
                exact ih2 x4 (x5 + 1) _ _ _ _ _ (gv_loc hl [3, 4, 5, 6, 1, 0] rfl) hw hF
              · skip
                have hF := hF.trans (bnc (if_pos h36))
                refine lv_iconst (v := 1) hx hb d_Mo_writeTag_75 (by decide) ?_
                refine lv_goto hx hb d_Mo_writeTag_76 rfl ?_
                refine lv_istore hx hb d_Mo_writeTag_80 hl (by decide) rfl (fun ls hl => ?_)
                refine lv_iload hx hb d_Mo_writeTag_82 (lv_at hl 0 rfl) ?_
                refine lv_if_eq hx hb d_Mo_writeTag_84 rfl (fun h => absurd h (by decide)) (fun _ => ?_)
                refine lv_iload hx hb d_Mo_writeTag_87 (lv_at hl 5 rfl) ?_
                refine lv_if_lt hx hb d_Mo_writeTag_89 rfl (fun h37 => ?_) (fun h37 => ?_)
                · skip
                  have hF := hF.trans (bnc (if_pos h37))
                  refine lv_iload hx hb d_Mo_writeTag_103 (lv_at hl 6 rfl) ?_
                  refine lv_goto hx hb d_Mo_writeTag_105 rfl ?_
                  refine lv_istore hx hb d_Mo_writeTag_110 hl (by decide) rfl (fun ls hl => ?_)
                  refine lv_iinc (k := 6) hx hb d_Mo_writeTag_112 hl rfl (show _ + Int32.ofInt 1 = _ + 1 from rfl) (by decide) rfl (fun ls hl => ?_)
                  refine lv_goto hx hb d_Mo_writeTag_115 rfl ?_
                  exact ih2 x5 (x5 + 1) _ _ _ _ _ (gv_loc hl [3, 4, 5, 6, 1, 0] rfl) hw hF
                · skip
                  have hF := hF.trans (bnc (if_neg h37))
                  refine lv_aload_n hx hb d_Mo_writeTag_92 rfl (lv_at hl 1 rfl) ?_
                  refine lv_iload hx hb d_Mo_writeTag_93 (lv_at hl 6 rfl) ?_
                  refine lv_iload hx hb d_Mo_writeTag_95 (lv_at hl 5 rfl) ?_
                  refine gy_V B hl.1 hw (t_Mo_order G _ _ ow fu x5 x4 (nn2 hno hF)) (kd_Mo_order T) (ki_Mo T) (km_Mo_242 T) (ka_Mo_order T) (ks_Mo_order T) ⟨by decide, by decide, by rfl⟩ (rv_Mo hK hw rfl) rfl (Nat.le_of_ble_eq_true rfl) ⟨by decide, by decide⟩ ⟨by decide, by decide⟩ d_Mo_writeTag_97 (fun v M38 r38 H locs hw hp => ?_) (fun x ek M38 r38 H locs hw hE hp => gr_t B hexc hw hE (by decide) (by decide) (hF.trans (bnc (bnd_ex hp))))
                  obtain ⟨v38, rfl, hp⟩ := hp
                  have hF := hF.trans (bnc (bnd_ok hp))
                  refine lv_if_ge hx hb d_Mo_writeTag_100 rfl (fun h39 => ?_) (fun h39 => ?_)
                  · skip
                    have hF := hF.trans (bnc (if_pos h39))
                    refine lv_iload hx hb d_Mo_writeTag_108 (lv_at hl 5 rfl) ?_
                    refine lv_istore hx hb d_Mo_writeTag_110 hl (by decide) rfl (fun ls hl => ?_)
                    refine lv_iinc (k := 6) hx hb d_Mo_writeTag_112 hl rfl (show _ + Int32.ofInt 1 = _ + 1 from rfl) (by decide) rfl (fun ls hl => ?_)
                    refine lv_goto hx hb d_Mo_writeTag_115 rfl ?_
                    exact ih2 x4 (x5 + 1) _ _ _ _ _ (gv_loc hl [3, 4, 5, 6, 1, 0] rfl) hw hF
                  · skip
                    have hF := hF.trans (bnc (if_neg h39))
                    refine lv_iload hx hb d_Mo_writeTag_103 (lv_at hl 6 rfl) ?_
                    refine lv_goto hx hb d_Mo_writeTag_105 rfl ?_
                    refine lv_istore hx hb d_Mo_writeTag_110 hl (by decide) rfl (fun ls hl => ?_)
                    refine lv_iinc (k := 6) hx hb d_Mo_writeTag_112 hl rfl (show _ + Int32.ofInt 1 = _ + 1 from rfl) (by decide) rfl (fun ls hl => ?_)
                    refine lv_goto hx hb d_Mo_writeTag_115 rfl ?_
                    exact ih2 x5 (x5 + 1) _ _ _ _ _ (gv_loc hl [3, 4, 5, 6, 1, 0] rfl) hw hF
        exact I45 fu (-1) (6 * x1) _ _ _ _ _ (gv_loc hl [4, 5, 2, 3, 1, 0] rfl) hw hF
  have hF := F_Mo_writeTag.eq_1 fu x1 M r
  refine lv_aload_n hx hb d_Mo_writeTag_0 rfl (lv_at hl 0 rfl) ?_
  refine lv_bipush (v := 60) hx hb d_Mo_writeTag_1 (by decide) ?_
  refine gy_V B hl.1 hw (t_Mo_write G _ _ ow fu 60 (nn hno hF)) (kd_Mo_write T) (ki_Mo T) (km_Mo_224 T) (ka_Mo_write T) (ks_Mo_write T) ⟨by decide, by decide, by rfl⟩ (rv_Mo hK hw rfl) rfl (Nat.le_of_ble_eq_true rfl) ⟨by decide, by decide⟩ ⟨by decide, by decide⟩ d_Mo_writeTag_3 (fun v M40 r40 H locs hw hp => ?_) (fun x ek M40 r40 H locs hw hE hp => gr_t B hexc hw hE (by decide) (by decide) (hF.trans (bnd_ex hp)))
  obtain ⟨rfl, hp⟩ := hp
  have hF := hF.trans (bnd_ok hp)
  refine lv_aload_n hx hb d_Mo_writeTag_6 rfl (lv_at hl 0 rfl) ?_
  refine lv_aload_n hx hb d_Mo_writeTag_7 rfl (lv_at hl 0 rfl) ?_
  refine gf_Mo_nameFrom hx hb T hown hK hw rfl (kf_Mo_23 T) d_Mo_writeTag_8 ?_
  refine lv_iload_n hx hb d_Mo_writeTag_11 rfl (lv_at hl 1 rfl) ?_
  have g41 := ng hno hF
  have hF := hF.trans (gd_yes g41)
  refine ga_Mo_nameFrom hx hb hK hw rfl g41 d_Mo_writeTag_12 ?_
  refine lv_aload_n hx hb d_Mo_writeTag_13 rfl (lv_at hl 0 rfl) ?_
  refine gf_Mo_nameSize hx hb T hown hK hw rfl (kf_Mo_26 T) d_Mo_writeTag_14 ?_
  refine lv_iload_n hx hb d_Mo_writeTag_17 rfl (lv_at hl 1 rfl) ?_
  have g42 := ng hno hF
  have hF := hF.trans (gd_yes g42)
  refine ga_Mo_nameSize hx hb hK hw rfl g42 d_Mo_writeTag_18 ?_
  refine gy_V B hl.1 hw (t_Mo_writeStretch G _ _ ow fu (M40 111 x1.toNatClampNeg) (M40 112 x1.toNatClampNeg) (nn hno hF)) (kd_Mo_writeStretch T) (ki_Mo T) (km_Mo_231 T) (ka_Mo_writeStretch T) (ks_Mo_writeStretch T) ⟨by decide, by decide, by rfl⟩ (rv_Mo hK hw rfl) rfl (Nat.le_of_ble_eq_true rfl) ⟨by decide, by decide⟩ ⟨by decide, by decide⟩ d_Mo_writeTag_19 (fun v M43 r43 H locs hw hp => ?_) (fun x ek M43 r43 H locs hw hE hp => gr_t B hexc hw hE (by decide) (by decide) (hF.trans (bnd_ex hp)))
  obtain ⟨rfl, hp⟩ := hp
  have hF := hF.trans (bnd_ok hp)
  refine lv_iconst (v := 0) hx hb d_Mo_writeTag_22 (by decide) ?_
  refine lv_istore_n hx hb d_Mo_writeTag_23 rfl hl (by decide) rfl (fun ls hl => ?_)
  refine lv_iconst (v := 0) hx hb d_Mo_writeTag_24 (by decide) ?_
  refine lv_istore_n hx hb d_Mo_writeTag_25 rfl hl (by decide) rfl (fun ls hl => ?_)
  exact L26 fu 0 0 _ _ _ _ _ (gv_loc hl [1, 0, 2, 3] rfl) hw hF
theorem d_Mo_writeForm_0 : decode b_Mo_writeForm 0 = .ok (.aload_n 0, 1) := by decide +kernel
theorem d_Mo_writeForm_1 : decode b_Mo_writeForm 1 = .ok (.iconst 0, 1) := by decide +kernel
theorem d_Mo_writeForm_2 : decode b_Mo_writeForm 2 = .ok (.putfield 221, 3) := by decide +kernel
theorem d_Mo_writeForm_5 : decode b_Mo_writeForm 5 = .ok (.iconst 0, 1) := by decide +kernel
theorem d_Mo_writeForm_6 : decode b_Mo_writeForm 6 = .ok (.istore_n 1, 1) := by decide +kernel
theorem d_Mo_writeForm_7 : decode b_Mo_writeForm 7 = .ok (.iload_n 1, 1) := by decide +kernel
theorem d_Mo_writeForm_8 : decode b_Mo_writeForm 8 = .ok (.aload_n 0, 1) := by decide +kernel
theorem d_Mo_writeForm_9 : decode b_Mo_writeForm 9 = .ok (.getfield 163, 3) := by decide +kernel
theorem d_Mo_writeForm_12 : decode b_Mo_writeForm 12 = .ok (.if_icmp .ge 93, 3) := by decide +kernel
theorem d_Mo_writeForm_15 : decode b_Mo_writeForm 15 = .ok (.aload_n 0, 1) := by decide +kernel
theorem d_Mo_writeForm_16 : decode b_Mo_writeForm 16 = .ok (.getfield 56, 3) := by decide +kernel
theorem d_Mo_writeForm_19 : decode b_Mo_writeForm 19 = .ok (.iload_n 1, 1) := by decide +kernel
theorem d_Mo_writeForm_20 : decode b_Mo_writeForm 20 = .ok (.iaload, 1) := by decide +kernel
theorem d_Mo_writeForm_21 : decode b_Mo_writeForm 21 = .ok (.istore_n 2, 1) := by decide +kernel
theorem d_Mo_writeForm_22 : decode b_Mo_writeForm 22 = .ok (.iload_n 2, 1) := by decide +kernel
theorem d_Mo_writeForm_23 : decode b_Mo_writeForm 23 = .ok (.sipush 2000, 3) := by decide +kernel
theorem d_Mo_writeForm_26 : decode b_Mo_writeForm 26 = .ok (.if_icmp .lt 48, 3) := by decide +kernel
theorem d_Mo_writeForm_29 : decode b_Mo_writeForm 29 = .ok (.aload_n 0, 1) := by decide +kernel
theorem d_Mo_writeForm_30 : decode b_Mo_writeForm 30 = .ok (.bipush 60, 2) := by decide +kernel
theorem d_Mo_writeForm_32 : decode b_Mo_writeForm 32 = .ok (.invokevirtual 224, 3) := by decide +kernel
theorem d_Mo_writeForm_35 : decode b_Mo_writeForm 35 = .ok (.aload_n 0, 1) := by decide +kernel
theorem d_Mo_writeForm_36 : decode b_Mo_writeForm 36 = .ok (.bipush 47, 2) := by decide +kernel
theorem d_Mo_writeForm_38 : decode b_Mo_writeForm 38 = .ok (.invokevirtual 224, 3) := by decide +kernel
theorem d_Mo_writeForm_41 : decode b_Mo_writeForm 41 = .ok (.aload_n 0, 1) := by decide +kernel
theorem d_Mo_writeForm_42 : decode b_Mo_writeForm 42 = .ok (.aload_n 0, 1) := by decide +kernel
theorem d_Mo_writeForm_43 : decode b_Mo_writeForm 43 = .ok (.getfield 23, 3) := by decide +kernel
theorem d_Mo_writeForm_46 : decode b_Mo_writeForm 46 = .ok (.iload_n 2, 1) := by decide +kernel
theorem d_Mo_writeForm_47 : decode b_Mo_writeForm 47 = .ok (.sipush 2000, 3) := by decide +kernel
theorem d_Mo_writeForm_50 : decode b_Mo_writeForm 50 = .ok (.isub, 1) := by decide +kernel
theorem d_Mo_writeForm_51 : decode b_Mo_writeForm 51 = .ok (.iaload, 1) := by decide +kernel
theorem d_Mo_writeForm_52 : decode b_Mo_writeForm 52 = .ok (.aload_n 0, 1) := by decide +kernel
theorem d_Mo_writeForm_53 : decode b_Mo_writeForm 53 = .ok (.getfield 26, 3) := by decide +kernel
theorem d_Mo_writeForm_56 : decode b_Mo_writeForm 56 = .ok (.iload_n 2, 1) := by decide +kernel
theorem d_Mo_writeForm_57 : decode b_Mo_writeForm 57 = .ok (.sipush 2000, 3) := by decide +kernel
theorem d_Mo_writeForm_60 : decode b_Mo_writeForm 60 = .ok (.isub, 1) := by decide +kernel
theorem d_Mo_writeForm_61 : decode b_Mo_writeForm 61 = .ok (.iaload, 1) := by decide +kernel
theorem d_Mo_writeForm_62 : decode b_Mo_writeForm 62 = .ok (.invokevirtual 231, 3) := by decide +kernel
theorem d_Mo_writeForm_65 : decode b_Mo_writeForm 65 = .ok (.aload_n 0, 1) := by decide +kernel
theorem d_Mo_writeForm_66 : decode b_Mo_writeForm 66 = .ok (.bipush 62, 2) := by decide +kernel
theorem d_Mo_writeForm_68 : decode b_Mo_writeForm 68 = .ok (.invokevirtual 224, 3) := by decide +kernel
theorem d_Mo_writeForm_71 : decode b_Mo_writeForm 71 = .ok (.goto 28, 3) := by decide +kernel
theorem d_Mo_writeForm_74 : decode b_Mo_writeForm 74 = .ok (.iload_n 2, 1) := by decide +kernel
theorem d_Mo_writeForm_75 : decode b_Mo_writeForm 75 = .ok (.sipush 1000, 3) := by decide +kernel
theorem d_Mo_writeForm_78 : decode b_Mo_writeForm 78 = .ok (.if_icmp .lt 15, 3) := by decide +kernel
theorem d_Mo_writeForm_81 : decode b_Mo_writeForm 81 = .ok (.aload_n 0, 1) := by decide +kernel
theorem d_Mo_writeForm_82 : decode b_Mo_writeForm 82 = .ok (.iload_n 2, 1) := by decide +kernel
theorem d_Mo_writeForm_83 : decode b_Mo_writeForm 83 = .ok (.sipush 1000, 3) := by decide +kernel
theorem d_Mo_writeForm_86 : decode b_Mo_writeForm 86 = .ok (.isub, 1) := by decide +kernel
theorem d_Mo_writeForm_87 : decode b_Mo_writeForm 87 = .ok (.invokevirtual 251, 3) := by decide +kernel
theorem d_Mo_writeForm_90 : decode b_Mo_writeForm 90 = .ok (.goto 9, 3) := by decide +kernel
theorem d_Mo_writeForm_93 : decode b_Mo_writeForm 93 = .ok (.aload_n 0, 1) := by decide +kernel
theorem d_Mo_writeForm_94 : decode b_Mo_writeForm 94 = .ok (.iload_n 2, 1) := by decide +kernel
theorem d_Mo_writeForm_95 : decode b_Mo_writeForm 95 = .ok (.iconst 0, 1) := by decide +kernel
theorem d_Mo_writeForm_96 : decode b_Mo_writeForm 96 = .ok (.invokevirtual 235, 3) := by decide +kernel
theorem d_Mo_writeForm_99 : decode b_Mo_writeForm 99 = .ok (.iinc 1 1, 3) := by decide +kernel
theorem d_Mo_writeForm_102 : decode b_Mo_writeForm 102 = .ok (.goto (-95), 3) := by decide +kernel
theorem d_Mo_writeForm_105 : decode b_Mo_writeForm 105 = .ok (.return_, 1) := by decide +kernel
set_option maxHeartbeats 4000000 in
set_option maxRecDepth 100000 in
theorem t_Mo_writeForm {l : Launch} {s0 : State} {D : va_G} {aC : Nat → ClassId} {a0 : Array Value} (G : gG l s0 D aC a0) (M : gMem) (r : gRef) (ow : Int64) (fu : Nat)  (hno : F_Mo_writeForm fu M r ≠ .no) : gMet l s0 D aC y_Mo_writeForm (Cond.code y_Mo_writeForm b_Mo_writeForm 3 none) 6 143 0 0 [.ref (s0.heap.size + 383)] M r ow (qV (F_Mo_writeForm fu M r)) (qT (F_Mo_writeForm fu M r)) := by
  refine gm_of G (by decide) (Nat.le_of_ble_eq_true rfl) ?_
  intro p e s m below meth c ls B hexc hl hw
  have hx := B.1
  have hb := B.2.1
  have hown := B.2.2.2.2.2.1
  have T := B.2.2.2.2.2.2.1
  have hK := B.2.2.2.2.2.2.2.1
  have X105 : ∀ (M1 : gMem) (r1 : gRef) (H : Heap) (locs : List Loc) (ls : Array Slot), lv_has ls 3 [] → gWd s0 D aC M1 r1 ow H locs → F_Mo_writeForm fu M r = F_Mo_writeForm_B105 fu M1 r1 → W p l e (gRm 6 143 0 0) s m ([.ref (s0.heap.size + 383)] : List Value).toArray below meth c H locs 0 0 (gt_Q below (gQ s0 D aC ow (qV (F_Mo_writeForm fu M r)) (qT (F_Mo_writeForm fu M r))) s 0 0 0 0 (fun q => s0.heap.size ≤ q)) (F0 m 105 ls []) := by
    intro  M1 r1 H locs ls hl hw hF
    have hF := hF.trans (F_Mo_writeForm_B105.eq_1 _ _ _)
    exact gr_v B hw d_Mo_writeForm_105 ⟨rfl, hF⟩
  have L7 : ∀ (d : Nat) (x1 : Int32) (M1 : gMem) (r1 : gRef) (H : Heap) (locs : List Loc) (ls : Array Slot), lv_has ls 3 [(1, .int x1), (0, .ref (s0.heap.size + 383))] → gWd s0 D aC M1 r1 ow H locs → F_Mo_writeForm fu M r = F_Mo_writeForm_L7 fu d x1 M1 r1 → W p l e (gRm 6 143 0 0) s m ([.ref (s0.heap.size + 383)] : List Value).toArray below meth c H locs 0 0 (gt_Q below (gQ s0 D aC ow (qV (F_Mo_writeForm fu M r)) (qT (F_Mo_writeForm fu M r))) s 0 0 0 0 (fun q => s0.heap.size ≤ q)) (F0 m 7 ls []) := by
    intro d
    induction d with
    | zero => intro x1 M1 r1 H locs ls hl hw hF; exact absurd hF hno
    | succ d ih =>
      intro x1 M1 r1 H locs ls hl hw hF
      have hF := hF.trans (F_Mo_writeForm_L7.eq_2 _ _ _ _ _)
      refine lv_iload_n hx hb d_Mo_writeForm_7 rfl (lv_at hl 0 rfl) ?_
      refine lv_aload_n hx hb d_Mo_writeForm_8 rfl (lv_at hl 1 rfl) ?_
      refine gf_Mo_events hx hb T hown hK hw rfl (kf_Mo_163 T) d_Mo_writeForm_9 ?_
      refine lv_icmp_ge hx hb d_Mo_writeForm_12 rfl (fun h13 => ?_) (fun h13 => ?_)
      · skip
        have hF := hF.trans (if_pos h13)
        exact X105  _ _ _ _ _ (gv_loc hl [] rfl) hw hF
      · skip
        have hF := hF.trans (if_neg h13)
        refine lv_aload_n hx hb d_Mo_writeForm_15 rfl (lv_at hl 1 rfl) ?_
        refine gf_Mo_happened hx hb T hown hK hw rfl (kf_Mo_56 T) d_Mo_writeForm_16 ?_
        refine lv_iload_n hx hb d_Mo_writeForm_19 rfl (lv_at hl 0 rfl) ?_
        have g14 := ng hno hF
        have hF := hF.trans (gd_yes g14)
        refine ga_Mo_happened hx hb hK hw rfl g14 d_Mo_writeForm_20 ?_
        refine lv_istore_n hx hb d_Mo_writeForm_21 rfl hl (by decide) rfl (fun ls hl => ?_)
        refine lv_iload_n hx hb d_Mo_writeForm_22 rfl (lv_at hl 0 rfl) ?_
        refine lv_sipush (v := 2000) hx hb d_Mo_writeForm_23 (by decide) ?_
        refine lv_icmp_lt hx hb d_Mo_writeForm_26 rfl (fun h15 => ?_) (fun h15 => ?_)
        · skip
          have hF := hF.trans (if_pos h15)
          refine lv_iload_n hx hb d_Mo_writeForm_74 rfl (lv_at hl 0 rfl) ?_
          refine lv_sipush (v := 1000) hx hb d_Mo_writeForm_75 (by decide) ?_
          refine lv_icmp_lt hx hb d_Mo_writeForm_78 rfl (fun h16 => ?_) (fun h16 => ?_)
          · skip
            have hF := hF.trans (if_pos h16)
            refine lv_aload_n hx hb d_Mo_writeForm_93 rfl (lv_at hl 2 rfl) ?_
            refine lv_iload_n hx hb d_Mo_writeForm_94 rfl (lv_at hl 0 rfl) ?_
            refine lv_iconst (v := 0) hx hb d_Mo_writeForm_95 (by decide) ?_
            refine gy_V B hl.1 hw (t_Mo_writeSafe G _ _ ow fu (M1 123 x1.toNatClampNeg) 0 (nn hno hF)) (kd_Mo_writeSafe T) (ki_Mo T) (km_Mo_235 T) (ka_Mo_writeSafe T) (ks_Mo_writeSafe T) ⟨by decide, by decide, by rfl⟩ (rv_Mo hK hw rfl) rfl (Nat.le_of_ble_eq_true rfl) ⟨by decide, by decide⟩ ⟨by decide, by decide⟩ d_Mo_writeForm_96 (fun v M17 r17 H locs hw hp => ?_) (fun x ek M17 r17 H locs hw hE hp => gr_t B hexc hw hE (by decide) (by decide) (hF.trans (bnd_ex hp)))
            obtain ⟨rfl, hp⟩ := hp
            have hF := hF.trans (bnd_ok hp)
            refine lv_iinc (k := 1) hx hb d_Mo_writeForm_99 hl rfl (show _ + Int32.ofInt 1 = _ + 1 from rfl) (by decide) rfl (fun ls hl => ?_)
            refine lv_goto hx hb d_Mo_writeForm_102 rfl ?_
            exact ih (x1 + 1) _ _ _ _ _ (gv_loc hl [0, 2] rfl) hw hF
          · skip
            have hF := hF.trans (if_neg h16)
            refine lv_aload_n hx hb d_Mo_writeForm_81 rfl (lv_at hl 2 rfl) ?_
            refine lv_iload_n hx hb d_Mo_writeForm_82 rfl (lv_at hl 0 rfl) ?_
            refine lv_sipush (v := 1000) hx hb d_Mo_writeForm_83 (by decide) ?_
            refine lv_isub hx hb d_Mo_writeForm_86 ?_
            refine gy_V B hl.1 hw (t_Mo_writeTag G _ _ ow fu ((M1 123 x1.toNatClampNeg) - 1000) (nn hno hF)) (kd_Mo_writeTag T) (ki_Mo T) (km_Mo_251 T) (ka_Mo_writeTag T) (ks_Mo_writeTag T) ⟨by decide, by decide, by rfl⟩ (rv_Mo hK hw rfl) rfl (Nat.le_of_ble_eq_true rfl) ⟨by decide, by decide⟩ ⟨by decide, by decide⟩ d_Mo_writeForm_87 (fun v M18 r18 H locs hw hp => ?_) (fun x ek M18 r18 H locs hw hE hp => gr_t B hexc hw hE (by decide) (by decide) (hF.trans (bnd_ex hp)))
            obtain ⟨rfl, hp⟩ := hp
            have hF := hF.trans (bnd_ok hp)
            refine lv_goto hx hb d_Mo_writeForm_90 rfl ?_
            refine lv_iinc (k := 1) hx hb d_Mo_writeForm_99 hl rfl (show _ + Int32.ofInt 1 = _ + 1 from rfl) (by decide) rfl (fun ls hl => ?_)
            refine lv_goto hx hb d_Mo_writeForm_102 rfl ?_
            exact ih (x1 + 1) _ _ _ _ _ (gv_loc hl [0, 2] rfl) hw hF
        · skip
          have hF := hF.trans (if_neg h15)
          refine lv_aload_n hx hb d_Mo_writeForm_29 rfl (lv_at hl 2 rfl) ?_
          refine lv_bipush (v := 60) hx hb d_Mo_writeForm_30 (by decide) ?_
          refine gy_V B hl.1 hw (t_Mo_write G _ _ ow fu 60 (nn hno hF)) (kd_Mo_write T) (ki_Mo T) (km_Mo_224 T) (ka_Mo_write T) (ks_Mo_write T) ⟨by decide, by decide, by rfl⟩ (rv_Mo hK hw rfl) rfl (Nat.le_of_ble_eq_true rfl) ⟨by decide, by decide⟩ ⟨by decide, by decide⟩ d_Mo_writeForm_32 (fun v M19 r19 H locs hw hp => ?_) (fun x ek M19 r19 H locs hw hE hp => gr_t B hexc hw hE (by decide) (by decide) (hF.trans (bnd_ex hp)))
          obtain ⟨rfl, hp⟩ := hp
          have hF := hF.trans (bnd_ok hp)
          refine lv_aload_n hx hb d_Mo_writeForm_35 rfl (lv_at hl 2 rfl) ?_
          refine lv_bipush (v := 47) hx hb d_Mo_writeForm_36 (by decide) ?_
          refine gy_V B hl.1 hw (t_Mo_write G _ _ ow fu 47 (nn hno hF)) (kd_Mo_write T) (ki_Mo T) (km_Mo_224 T) (ka_Mo_write T) (ks_Mo_write T) ⟨by decide, by decide, by rfl⟩ (rv_Mo hK hw rfl) rfl (Nat.le_of_ble_eq_true rfl) ⟨by decide, by decide⟩ ⟨by decide, by decide⟩ d_Mo_writeForm_38 (fun v M20 r20 H locs hw hp => ?_) (fun x ek M20 r20 H locs hw hE hp => gr_t B hexc hw hE (by decide) (by decide) (hF.trans (bnd_ex hp)))
          obtain ⟨rfl, hp⟩ := hp
          have hF := hF.trans (bnd_ok hp)
          refine lv_aload_n hx hb d_Mo_writeForm_41 rfl (lv_at hl 2 rfl) ?_
          refine lv_aload_n hx hb d_Mo_writeForm_42 rfl (lv_at hl 2 rfl) ?_
          refine gf_Mo_nameFrom hx hb T hown hK hw rfl (kf_Mo_23 T) d_Mo_writeForm_43 ?_
          refine lv_iload_n hx hb d_Mo_writeForm_46 rfl (lv_at hl 0 rfl) ?_
          refine lv_sipush (v := 2000) hx hb d_Mo_writeForm_47 (by decide) ?_
          refine lv_isub hx hb d_Mo_writeForm_50 ?_
          have g21 := ng hno hF
          have hF := hF.trans (gd_yes g21)
          refine ga_Mo_nameFrom hx hb hK hw rfl g21 d_Mo_writeForm_51 ?_
          refine lv_aload_n hx hb d_Mo_writeForm_52 rfl (lv_at hl 2 rfl) ?_
          refine gf_Mo_nameSize hx hb T hown hK hw rfl (kf_Mo_26 T) d_Mo_writeForm_53 ?_
          refine lv_iload_n hx hb d_Mo_writeForm_56 rfl (lv_at hl 0 rfl) ?_
          refine lv_sipush (v := 2000) hx hb d_Mo_writeForm_57 (by decide) ?_
          refine lv_isub hx hb d_Mo_writeForm_60 ?_
          have g22 := ng hno hF
          have hF := hF.trans (gd_yes g22)
          refine ga_Mo_nameSize hx hb hK hw rfl g22 d_Mo_writeForm_61 ?_
          refine gy_V B hl.1 hw (t_Mo_writeStretch G _ _ ow fu (M20 111 ((M1 123 x1.toNatClampNeg) - 2000).toNatClampNeg) (M20 112 ((M1 123 x1.toNatClampNeg) - 2000).toNatClampNeg) (nn hno hF)) (kd_Mo_writeStretch T) (ki_Mo T) (km_Mo_231 T) (ka_Mo_writeStretch T) (ks_Mo_writeStretch T) ⟨by decide, by decide, by rfl⟩ (rv_Mo hK hw rfl) rfl (Nat.le_of_ble_eq_true rfl) ⟨by decide, by decide⟩ ⟨by decide, by decide⟩ d_Mo_writeForm_62 (fun v M23 r23 H locs hw hp => ?_) (fun x ek M23 r23 H locs hw hE hp => gr_t B hexc hw hE (by decide) (by decide) (hF.trans (bnd_ex hp)))
          obtain ⟨rfl, hp⟩ := hp
          have hF := hF.trans (bnd_ok hp)
          refine lv_aload_n hx hb d_Mo_writeForm_65 rfl (lv_at hl 2 rfl) ?_
          refine lv_bipush (v := 62) hx hb d_Mo_writeForm_66 (by decide) ?_
          refine gy_V B hl.1 hw (t_Mo_write G _ _ ow fu 62 (nn hno hF)) (kd_Mo_write T) (ki_Mo T) (km_Mo_224 T) (ka_Mo_write T) (ks_Mo_write T) ⟨by decide, by decide, by rfl⟩ (rv_Mo hK hw rfl) rfl (Nat.le_of_ble_eq_true rfl) ⟨by decide, by decide⟩ ⟨by decide, by decide⟩ d_Mo_writeForm_68 (fun v M24 r24 H locs hw hp => ?_) (fun x ek M24 r24 H locs hw hE hp => gr_t B hexc hw hE (by decide) (by decide) (hF.trans (bnd_ex hp)))
          obtain ⟨rfl, hp⟩ := hp
          have hF := hF.trans (bnd_ok hp)
          refine lv_goto hx hb d_Mo_writeForm_71 rfl ?_
          refine lv_iinc (k := 1) hx hb d_Mo_writeForm_99 hl rfl (show _ + Int32.ofInt 1 = _ + 1 from rfl) (by decide) rfl (fun ls hl => ?_)
          refine lv_goto hx hb d_Mo_writeForm_102 rfl ?_
          exact ih (x1 + 1) _ _ _ _ _ (gv_loc hl [0, 2] rfl) hw hF
  have hF := F_Mo_writeForm.eq_1 fu M r
  refine lv_aload_n hx hb d_Mo_writeForm_0 rfl (lv_at hl 0 rfl) ?_
  refine lv_iconst (v := 0) hx hb d_Mo_writeForm_1 (by decide) ?_
  refine pf_Mo_formed hx hb T hown hK hw rfl (kf_Mo_221 T) d_Mo_writeForm_2 (fun H locs hw => ?_)
  refine lv_iconst (v := 0) hx hb d_Mo_writeForm_5 (by decide) ?_
  refine lv_istore_n hx hb d_Mo_writeForm_6 rfl hl (by decide) rfl (fun ls hl => ?_)
  exact L7 fu 0 _ _ _ _ _ (gv_loc hl [0, 1] rfl) hw hF
set_option maxHeartbeats 4000000 in
set_option maxRecDepth 100000 in
theorem t_Mo_read {l : Launch} {s0 : State} {D : va_G} {aC : Nat → ClassId} {a0 : Array Value} (G : gG l s0 D aC a0) (M : gMem) (r : gRef) (ow : Int64) (fu : Nat)  (hno : F_Mo_read fu M r ≠ .no) : gMet l s0 D aC y_Mo_read (Cond.code y_Mo_read b_Mo_read 1 (some .int)) 9 208 0 0 [.ref (s0.heap.size + 383)] M r ow (qI (F_Mo_read fu M r)) (qT (F_Mo_read fu M r)) := by
  refine gm_of G (by decide) (Nat.le_of_ble_eq_true rfl) ?_
  intro p e s m below meth c ls B hexc hl hw
  have hx := B.1
  have hb := B.2.1
  have hown := B.2.2.2.2.2.1
  have T := B.2.2.2.2.2.2.1
  have hK := B.2.2.2.2.2.2.2.1
  have hF := F_Mo_read.eq_1 fu M r
  refine lv_aload_n hx hb d_Mo_read_0 rfl (lv_at hl 0 rfl) ?_
  refine lv_iconst (v := 0) hx hb d_Mo_read_1 (by decide) ?_
  refine pf_Mo_at hx hb T hown hK hw rfl (kf_Mo_81 T) d_Mo_read_2 (fun H locs hw => ?_)
  refine lv_aload_n hx hb d_Mo_read_5 rfl (lv_at hl 0 rfl) ?_
  refine lv_iconst (v := 0) hx hb d_Mo_read_6 (by decide) ?_
  refine pf_Mo_reason hx hb T hown hK hw rfl (kf_Mo_78 T) d_Mo_read_7 (fun H locs hw => ?_)
  refine lv_aload_n hx hb d_Mo_read_10 rfl (lv_at hl 0 rfl) ?_
  refine lv_iconst (v := -1) hx hb d_Mo_read_11 (by decide) ?_
  refine pf_Mo_place hx hb T hown hK hw rfl (kf_Mo_13 T) d_Mo_read_12 (fun H locs hw => ?_)
  refine lv_aload_n hx hb d_Mo_read_15 rfl (lv_at hl 0 rfl) ?_
  refine lv_iconst (v := 0) hx hb d_Mo_read_16 (by decide) ?_
  refine pf_Mo_used hx hb T hown hK hw rfl (kf_Mo_106 T) d_Mo_read_17 (fun H locs hw => ?_)
  refine lv_aload_n hx hb d_Mo_read_20 rfl (lv_at hl 0 rfl) ?_
  refine lv_iconst (v := 0) hx hb d_Mo_read_21 (by decide) ?_
  refine pf_Mo_elements hx hb T hown hK hw rfl (kf_Mo_147 T) d_Mo_read_22 (fun H locs hw => ?_)
  refine lv_aload_n hx hb d_Mo_read_25 rfl (lv_at hl 0 rfl) ?_
  refine lv_iconst (v := 0) hx hb d_Mo_read_26 (by decide) ?_
  refine pf_Mo_events hx hb T hown hK hw rfl (kf_Mo_163 T) d_Mo_read_27 (fun H locs hw => ?_)
  refine lv_aload_n hx hb d_Mo_read_30 rfl (lv_at hl 0 rfl) ?_
  refine lv_iconst (v := -1) hx hb d_Mo_read_31 (by decide) ?_
  refine pf_Mo_open hx hb T hown hK hw rfl (kf_Mo_150 T) d_Mo_read_32 (fun H locs hw => ?_)
  refine lv_aload_n hx hb d_Mo_read_35 rfl (lv_at hl 0 rfl) ?_
  refine lv_iconst (v := 0) hx hb d_Mo_read_36 (by decide) ?_
  refine pf_Mo_depth hx hb T hown hK hw rfl (kf_Mo_144 T) d_Mo_read_37 (fun H locs hw => ?_)
  refine lv_aload_n hx hb d_Mo_read_40 rfl (lv_at hl 0 rfl) ?_
  refine lv_aload_n hx hb d_Mo_read_41 rfl (lv_at hl 0 rfl) ?_
  refine lv_iconst (v := 1) hx hb d_Mo_read_42 (by decide) ?_
  refine gy_V B hl.1 hw (t_Mo_around G _ _ ow fu 1 (nn hno hF)) (kd_Mo_around T) (ki_Mo T) (km_Mo_182 T) (ka_Mo_around T) (ks_Mo_around T) ⟨by decide, by decide, by rfl⟩ (rv_Mo hK hw rfl) rfl (Nat.le_of_ble_eq_true rfl) ⟨by decide, by decide⟩ ⟨by decide, by decide⟩ d_Mo_read_43 (fun v M29 r29 H locs hw hp => ?_) (fun x ek M29 r29 H locs hw hE hp => gr_t B hexc hw hE (by decide) (by decide) (hF.trans (bnd_ex hp)))
  obtain ⟨v29, rfl, hp⟩ := hp
  have hF := hF.trans (bnd_ok hp)
  refine lv_if_eq hx hb d_Mo_read_46 rfl (fun h30 => ?_) (fun h30 => ?_)
  · skip
    have hF := hF.trans (if_pos h30)
    refine lv_iconst (v := 0) hx hb d_Mo_read_75 (by decide) ?_
    refine pf_Mo_tree hx hb T hown hK hw rfl (Or.inl rfl) (kf_Mo_189 T) d_Mo_read_76 (fun H locs hw => ?_)
    refine lv_aload_n hx hb d_Mo_read_79 rfl (lv_at hl 0 rfl) ?_
    refine lv_aload_n hx hb d_Mo_read_80 rfl (lv_at hl 0 rfl) ?_
    refine gf_Mo_tree hx hb T hown hK hw rfl (kf_Mo_189 T) d_Mo_read_81 ?_
    rw [mS_same]
    refine lv_if_eq hx hb d_Mo_read_84 rfl (fun _ => ?_) (fun h => absurd h (by decide))
    refine lv_iconst (v := 1) hx hb d_Mo_read_91 (by decide) ?_
    refine pf_Mo_thrown hx hb T hown hK hw rfl (kf_Mo_65 T) d_Mo_read_92 (fun H locs hw => ?_)
    refine lv_aload_n hx hb d_Mo_read_95 rfl (lv_at hl 0 rfl) ?_
    refine gf_Mo_tree hx hb T hown hK hw rfl (kf_Mo_189 T) d_Mo_read_96 ?_
    refine lv_if_eq hx hb d_Mo_read_99 rfl (fun h31 => ?_) (fun h31 => ?_)
    · skip
      have hF := hF.trans (if_pos h31)
      refine lv_aload_n hx hb d_Mo_read_106 rfl (lv_at hl 0 rfl) ?_
      refine gf_Mo_tree hx hb T hown hK hw rfl (kf_Mo_189 T) d_Mo_read_107 ?_
      refine lv_if_eq hx hb d_Mo_read_110 rfl (fun h32 => ?_) (fun h32 => ?_)
      · skip
        have hF := hF.trans (if_pos h32)
        refine lv_iconst (v := 0) hx hb d_Mo_read_120 (by decide) ?_
        exact gr_i B hw d_Mo_read_121 ⟨_, rfl, hF⟩
      · skip
        have hF := hF.trans (if_neg h32)
        refine lv_aload_n hx hb d_Mo_read_113 rfl (lv_at hl 0 rfl) ?_
        refine gf_Mo_elements hx hb T hown hK hw rfl (kf_Mo_147 T) d_Mo_read_114 ?_
        refine lv_goto hx hb d_Mo_read_117 rfl ?_
        exact gr_i B hw d_Mo_read_121 ⟨_, rfl, hF⟩
    · skip
      have hF := hF.trans (if_neg h31)
      refine lv_aload_n hx hb d_Mo_read_102 rfl (lv_at hl 0 rfl) ?_
      refine gy_V B hl.1 hw (t_Mo_writeForm G _ _ ow fu (nn hno hF)) (kd_Mo_writeForm T) (ki_Mo T) (km_Mo_193 T) (ka_Mo_writeForm T) (ks_Mo_writeForm T) ⟨by decide, by decide, by rfl⟩ (rv_Mo hK hw rfl) rfl (Nat.le_of_ble_eq_true rfl) ⟨by decide, by decide⟩ ⟨by decide, by decide⟩ d_Mo_read_103 (fun v M33 r33 H locs hw hp => ?_) (fun x ek M33 r33 H locs hw hE hp => gr_t B hexc hw hE (by decide) (by decide) (hF.trans (bnd_ex hp)))
      obtain ⟨rfl, hp⟩ := hp
      have hF := hF.trans (bnd_ok hp)
      refine lv_aload_n hx hb d_Mo_read_106 rfl (lv_at hl 0 rfl) ?_
      refine gf_Mo_tree hx hb T hown hK hw rfl (kf_Mo_189 T) d_Mo_read_107 ?_
      refine lv_if_eq hx hb d_Mo_read_110 rfl (fun h34 => ?_) (fun h34 => ?_)
      · skip
        have hF := hF.trans (if_pos h34)
        refine lv_iconst (v := 0) hx hb d_Mo_read_120 (by decide) ?_
        exact gr_i B hw d_Mo_read_121 ⟨_, rfl, hF⟩
      · skip
        have hF := hF.trans (if_neg h34)
        refine lv_aload_n hx hb d_Mo_read_113 rfl (lv_at hl 0 rfl) ?_
        refine gf_Mo_elements hx hb T hown hK hw rfl (kf_Mo_147 T) d_Mo_read_114 ?_
        refine lv_goto hx hb d_Mo_read_117 rfl ?_
        exact gr_i B hw d_Mo_read_121 ⟨_, rfl, hF⟩
  · skip
    have hF := hF.trans (if_neg h30)
    refine lv_aload_n hx hb d_Mo_read_49 rfl (lv_at hl 0 rfl) ?_
    refine gy_V B hl.1 hw (t_Mo_readTag G _ _ ow fu (nn hno hF)) (kd_Mo_readTag T) (ki_Mo T) (km_Mo_173 T) (ka_Mo_readTag T) (ks_Mo_readTag T) ⟨by decide, by decide, by rfl⟩ (rv_Mo hK hw rfl) rfl (Nat.le_of_ble_eq_true rfl) ⟨by decide, by decide⟩ ⟨by decide, by decide⟩ d_Mo_read_50 (fun v M35 r35 H locs hw hp => ?_) (fun x ek M35 r35 H locs hw hE hp => gr_t B hexc hw hE (by decide) (by decide) (hF.trans (bnd_ex hp)))
    obtain ⟨v35, rfl, hp⟩ := hp
    have hF := hF.trans (bnd_ok hp)
    refine lv_if_eq hx hb d_Mo_read_53 rfl (fun h36 => ?_) (fun h36 => ?_)
    · skip
      have hF := hF.trans (if_pos h36)
      refine lv_iconst (v := 0) hx hb d_Mo_read_75 (by decide) ?_
      refine pf_Mo_tree hx hb T hown hK hw rfl (Or.inl rfl) (kf_Mo_189 T) d_Mo_read_76 (fun H locs hw => ?_)
      refine lv_aload_n hx hb d_Mo_read_79 rfl (lv_at hl 0 rfl) ?_
      refine lv_aload_n hx hb d_Mo_read_80 rfl (lv_at hl 0 rfl) ?_
      refine gf_Mo_tree hx hb T hown hK hw rfl (kf_Mo_189 T) d_Mo_read_81 ?_
      rw [mS_same]
      refine lv_if_eq hx hb d_Mo_read_84 rfl (fun _ => ?_) (fun h => absurd h (by decide))
      refine lv_iconst (v := 1) hx hb d_Mo_read_91 (by decide) ?_
      refine pf_Mo_thrown hx hb T hown hK hw rfl (kf_Mo_65 T) d_Mo_read_92 (fun H locs hw => ?_)
      refine lv_aload_n hx hb d_Mo_read_95 rfl (lv_at hl 0 rfl) ?_
      refine gf_Mo_tree hx hb T hown hK hw rfl (kf_Mo_189 T) d_Mo_read_96 ?_
      refine lv_if_eq hx hb d_Mo_read_99 rfl (fun h37 => ?_) (fun h37 => ?_)
      · skip
        have hF := hF.trans (if_pos h37)
        refine lv_aload_n hx hb d_Mo_read_106 rfl (lv_at hl 0 rfl) ?_
        refine gf_Mo_tree hx hb T hown hK hw rfl (kf_Mo_189 T) d_Mo_read_107 ?_
        refine lv_if_eq hx hb d_Mo_read_110 rfl (fun h38 => ?_) (fun h38 => ?_)
        · skip
          have hF := hF.trans (if_pos h38)
          refine lv_iconst (v := 0) hx hb d_Mo_read_120 (by decide) ?_
          exact gr_i B hw d_Mo_read_121 ⟨_, rfl, hF⟩
        · skip
          have hF := hF.trans (if_neg h38)
          refine lv_aload_n hx hb d_Mo_read_113 rfl (lv_at hl 0 rfl) ?_
          refine gf_Mo_elements hx hb T hown hK hw rfl (kf_Mo_147 T) d_Mo_read_114 ?_
          refine lv_goto hx hb d_Mo_read_117 rfl ?_
          exact gr_i B hw d_Mo_read_121 ⟨_, rfl, hF⟩
      · skip
        have hF := hF.trans (if_neg h37)
        refine lv_aload_n hx hb d_Mo_read_102 rfl (lv_at hl 0 rfl) ?_
        refine gy_V B hl.1 hw (t_Mo_writeForm G _ _ ow fu (nn hno hF)) (kd_Mo_writeForm T) (ki_Mo T) (km_Mo_193 T) (ka_Mo_writeForm T) (ks_Mo_writeForm T) ⟨by decide, by decide, by rfl⟩ (rv_Mo hK hw rfl) rfl (Nat.le_of_ble_eq_true rfl) ⟨by decide, by decide⟩ ⟨by decide, by decide⟩ d_Mo_read_103 (fun v M39 r39 H locs hw hp => ?_) (fun x ek M39 r39 H locs hw hE hp => gr_t B hexc hw hE (by decide) (by decide) (hF.trans (bnd_ex hp)))
        obtain ⟨rfl, hp⟩ := hp
        have hF := hF.trans (bnd_ok hp)
        refine lv_aload_n hx hb d_Mo_read_106 rfl (lv_at hl 0 rfl) ?_
        refine gf_Mo_tree hx hb T hown hK hw rfl (kf_Mo_189 T) d_Mo_read_107 ?_
        refine lv_if_eq hx hb d_Mo_read_110 rfl (fun h40 => ?_) (fun h40 => ?_)
        · skip
          have hF := hF.trans (if_pos h40)
          refine lv_iconst (v := 0) hx hb d_Mo_read_120 (by decide) ?_
          exact gr_i B hw d_Mo_read_121 ⟨_, rfl, hF⟩
        · skip
          have hF := hF.trans (if_neg h40)
          refine lv_aload_n hx hb d_Mo_read_113 rfl (lv_at hl 0 rfl) ?_
          refine gf_Mo_elements hx hb T hown hK hw rfl (kf_Mo_147 T) d_Mo_read_114 ?_
          refine lv_goto hx hb d_Mo_read_117 rfl ?_
          exact gr_i B hw d_Mo_read_121 ⟨_, rfl, hF⟩
    · skip
      have hF := hF.trans (if_neg h36)
      refine lv_aload_n hx hb d_Mo_read_56 rfl (lv_at hl 0 rfl) ?_
      refine gy_V B hl.1 hw (t_Mo_readContent G _ _ ow fu (nn hno hF)) (kd_Mo_readContent T) (ki_Mo T) (km_Mo_186 T) (ka_Mo_readContent T) (ks_Mo_readContent T) ⟨by decide, by decide, by rfl⟩ (rv_Mo hK hw rfl) rfl (Nat.le_of_ble_eq_true rfl) ⟨by decide, by decide⟩ ⟨by decide, by decide⟩ d_Mo_read_57 (fun v M41 r41 H locs hw hp => ?_) (fun x ek M41 r41 H locs hw hE hp => gr_t B hexc hw hE (by decide) (by decide) (hF.trans (bnd_ex hp)))
      obtain ⟨v41, rfl, hp⟩ := hp
      have hF := hF.trans (bnd_ok hp)
      refine lv_if_eq hx hb d_Mo_read_60 rfl (fun h42 => ?_) (fun h42 => ?_)
      · skip
        have hF := hF.trans (if_pos h42)
        refine lv_iconst (v := 0) hx hb d_Mo_read_75 (by decide) ?_
        refine pf_Mo_tree hx hb T hown hK hw rfl (Or.inl rfl) (kf_Mo_189 T) d_Mo_read_76 (fun H locs hw => ?_)
        refine lv_aload_n hx hb d_Mo_read_79 rfl (lv_at hl 0 rfl) ?_
        refine lv_aload_n hx hb d_Mo_read_80 rfl (lv_at hl 0 rfl) ?_
        refine gf_Mo_tree hx hb T hown hK hw rfl (kf_Mo_189 T) d_Mo_read_81 ?_
        rw [mS_same]
        refine lv_if_eq hx hb d_Mo_read_84 rfl (fun _ => ?_) (fun h => absurd h (by decide))
        refine lv_iconst (v := 1) hx hb d_Mo_read_91 (by decide) ?_
        refine pf_Mo_thrown hx hb T hown hK hw rfl (kf_Mo_65 T) d_Mo_read_92 (fun H locs hw => ?_)
        refine lv_aload_n hx hb d_Mo_read_95 rfl (lv_at hl 0 rfl) ?_
        refine gf_Mo_tree hx hb T hown hK hw rfl (kf_Mo_189 T) d_Mo_read_96 ?_
        refine lv_if_eq hx hb d_Mo_read_99 rfl (fun h43 => ?_) (fun h43 => ?_)
        · skip
          have hF := hF.trans (if_pos h43)
          refine lv_aload_n hx hb d_Mo_read_106 rfl (lv_at hl 0 rfl) ?_
          refine gf_Mo_tree hx hb T hown hK hw rfl (kf_Mo_189 T) d_Mo_read_107 ?_
          refine lv_if_eq hx hb d_Mo_read_110 rfl (fun h44 => ?_) (fun h44 => ?_)
          · skip
            have hF := hF.trans (if_pos h44)
            refine lv_iconst (v := 0) hx hb d_Mo_read_120 (by decide) ?_
            exact gr_i B hw d_Mo_read_121 ⟨_, rfl, hF⟩
          · skip
            have hF := hF.trans (if_neg h44)
            refine lv_aload_n hx hb d_Mo_read_113 rfl (lv_at hl 0 rfl) ?_
            refine gf_Mo_elements hx hb T hown hK hw rfl (kf_Mo_147 T) d_Mo_read_114 ?_
            refine lv_goto hx hb d_Mo_read_117 rfl ?_
            exact gr_i B hw d_Mo_read_121 ⟨_, rfl, hF⟩
        · skip
          have hF := hF.trans (if_neg h43)
          refine lv_aload_n hx hb d_Mo_read_102 rfl (lv_at hl 0 rfl) ?_
          refine gy_V B hl.1 hw (t_Mo_writeForm G _ _ ow fu (nn hno hF)) (kd_Mo_writeForm T) (ki_Mo T) (km_Mo_193 T) (ka_Mo_writeForm T) (ks_Mo_writeForm T) ⟨by decide, by decide, by rfl⟩ (rv_Mo hK hw rfl) rfl (Nat.le_of_ble_eq_true rfl) ⟨by decide, by decide⟩ ⟨by decide, by decide⟩ d_Mo_read_103 (fun v M45 r45 H locs hw hp => ?_) (fun x ek M45 r45 H locs hw hE hp => gr_t B hexc hw hE (by decide) (by decide) (hF.trans (bnd_ex hp)))
          obtain ⟨rfl, hp⟩ := hp
          have hF := hF.trans (bnd_ok hp)
          refine lv_aload_n hx hb d_Mo_read_106 rfl (lv_at hl 0 rfl) ?_
          refine gf_Mo_tree hx hb T hown hK hw rfl (kf_Mo_189 T) d_Mo_read_107 ?_
          refine lv_if_eq hx hb d_Mo_read_110 rfl (fun h46 => ?_) (fun h46 => ?_)
          · skip
            have hF := hF.trans (if_pos h46)
            refine lv_iconst (v := 0) hx hb d_Mo_read_120 (by decide) ?_
            exact gr_i B hw d_Mo_read_121 ⟨_, rfl, hF⟩
          · skip
            have hF := hF.trans (if_neg h46)
            refine lv_aload_n hx hb d_Mo_read_113 rfl (lv_at hl 0 rfl) ?_
            refine gf_Mo_elements hx hb T hown hK hw rfl (kf_Mo_147 T) d_Mo_read_114 ?_
            refine lv_goto hx hb d_Mo_read_117 rfl ?_
            exact gr_i B hw d_Mo_read_121 ⟨_, rfl, hF⟩
      · skip
        have hF := hF.trans (if_neg h42)
        refine lv_aload_n hx hb d_Mo_read_63 rfl (lv_at hl 0 rfl) ?_
        refine lv_iconst (v := 0) hx hb d_Mo_read_64 (by decide) ?_
        refine gy_V B hl.1 hw (t_Mo_around G _ _ ow fu 0 (nn hno hF)) (kd_Mo_around T) (ki_Mo T) (km_Mo_182 T) (ka_Mo_around T) (ks_Mo_around T) ⟨by decide, by decide, by rfl⟩ (rv_Mo hK hw rfl) rfl (Nat.le_of_ble_eq_true rfl) ⟨by decide, by decide⟩ ⟨by decide, by decide⟩ d_Mo_read_65 (fun v M47 r47 H locs hw hp => ?_) (fun x ek M47 r47 H locs hw hE hp => gr_t B hexc hw hE (by decide) (by decide) (hF.trans (bnd_ex hp)))
        obtain ⟨v47, rfl, hp⟩ := hp
        have hF := hF.trans (bnd_ok hp)
        refine lv_if_eq hx hb d_Mo_read_68 rfl (fun h48 => ?_) (fun h48 => ?_)
        · skip
          have hF := hF.trans (if_pos h48)
          refine lv_iconst (v := 0) hx hb d_Mo_read_75 (by decide) ?_
          refine pf_Mo_tree hx hb T hown hK hw rfl (Or.inl rfl) (kf_Mo_189 T) d_Mo_read_76 (fun H locs hw => ?_)
          refine lv_aload_n hx hb d_Mo_read_79 rfl (lv_at hl 0 rfl) ?_
          refine lv_aload_n hx hb d_Mo_read_80 rfl (lv_at hl 0 rfl) ?_
          refine gf_Mo_tree hx hb T hown hK hw rfl (kf_Mo_189 T) d_Mo_read_81 ?_
          rw [mS_same]
          refine lv_if_eq hx hb d_Mo_read_84 rfl (fun _ => ?_) (fun h => absurd h (by decide))
          refine lv_iconst (v := 1) hx hb d_Mo_read_91 (by decide) ?_
          refine pf_Mo_thrown hx hb T hown hK hw rfl (kf_Mo_65 T) d_Mo_read_92 (fun H locs hw => ?_)
          refine lv_aload_n hx hb d_Mo_read_95 rfl (lv_at hl 0 rfl) ?_
          refine gf_Mo_tree hx hb T hown hK hw rfl (kf_Mo_189 T) d_Mo_read_96 ?_
          refine lv_if_eq hx hb d_Mo_read_99 rfl (fun h49 => ?_) (fun h49 => ?_)
          · skip
            have hF := hF.trans (if_pos h49)
            refine lv_aload_n hx hb d_Mo_read_106 rfl (lv_at hl 0 rfl) ?_
            refine gf_Mo_tree hx hb T hown hK hw rfl (kf_Mo_189 T) d_Mo_read_107 ?_
            refine lv_if_eq hx hb d_Mo_read_110 rfl (fun h50 => ?_) (fun h50 => ?_)
            · skip
              have hF := hF.trans (if_pos h50)
              refine lv_iconst (v := 0) hx hb d_Mo_read_120 (by decide) ?_
              exact gr_i B hw d_Mo_read_121 ⟨_, rfl, hF⟩
            · skip
              have hF := hF.trans (if_neg h50)
              refine lv_aload_n hx hb d_Mo_read_113 rfl (lv_at hl 0 rfl) ?_
              refine gf_Mo_elements hx hb T hown hK hw rfl (kf_Mo_147 T) d_Mo_read_114 ?_
              refine lv_goto hx hb d_Mo_read_117 rfl ?_
              exact gr_i B hw d_Mo_read_121 ⟨_, rfl, hF⟩
          · skip
            have hF := hF.trans (if_neg h49)
            refine lv_aload_n hx hb d_Mo_read_102 rfl (lv_at hl 0 rfl) ?_
            refine gy_V B hl.1 hw (t_Mo_writeForm G _ _ ow fu (nn hno hF)) (kd_Mo_writeForm T) (ki_Mo T) (km_Mo_193 T) (ka_Mo_writeForm T) (ks_Mo_writeForm T) ⟨by decide, by decide, by rfl⟩ (rv_Mo hK hw rfl) rfl (Nat.le_of_ble_eq_true rfl) ⟨by decide, by decide⟩ ⟨by decide, by decide⟩ d_Mo_read_103 (fun v M51 r51 H locs hw hp => ?_) (fun x ek M51 r51 H locs hw hE hp => gr_t B hexc hw hE (by decide) (by decide) (hF.trans (bnd_ex hp)))
            obtain ⟨rfl, hp⟩ := hp
            have hF := hF.trans (bnd_ok hp)
            refine lv_aload_n hx hb d_Mo_read_106 rfl (lv_at hl 0 rfl) ?_
            refine gf_Mo_tree hx hb T hown hK hw rfl (kf_Mo_189 T) d_Mo_read_107 ?_
            refine lv_if_eq hx hb d_Mo_read_110 rfl (fun h52 => ?_) (fun h52 => ?_)
            · skip
              have hF := hF.trans (if_pos h52)
              refine lv_iconst (v := 0) hx hb d_Mo_read_120 (by decide) ?_
              exact gr_i B hw d_Mo_read_121 ⟨_, rfl, hF⟩
            · skip
              have hF := hF.trans (if_neg h52)
              refine lv_aload_n hx hb d_Mo_read_113 rfl (lv_at hl 0 rfl) ?_
              refine gf_Mo_elements hx hb T hown hK hw rfl (kf_Mo_147 T) d_Mo_read_114 ?_
              refine lv_goto hx hb d_Mo_read_117 rfl ?_
              exact gr_i B hw d_Mo_read_121 ⟨_, rfl, hF⟩
        · skip
          have hF := hF.trans (if_neg h48)
          refine lv_iconst (v := 1) hx hb d_Mo_read_71 (by decide) ?_
          refine lv_goto hx hb d_Mo_read_72 rfl ?_
          refine pf_Mo_tree hx hb T hown hK hw rfl (Or.inr rfl) (kf_Mo_189 T) d_Mo_read_76 (fun H locs hw => ?_)
          refine lv_aload_n hx hb d_Mo_read_79 rfl (lv_at hl 0 rfl) ?_
          refine lv_aload_n hx hb d_Mo_read_80 rfl (lv_at hl 0 rfl) ?_
          refine gf_Mo_tree hx hb T hown hK hw rfl (kf_Mo_189 T) d_Mo_read_81 ?_
          rw [mS_same]
          refine lv_if_eq hx hb d_Mo_read_84 rfl (fun h => absurd h (by decide)) (fun _ => ?_)
          refine lv_iconst (v := 0) hx hb d_Mo_read_87 (by decide) ?_
          refine lv_goto hx hb d_Mo_read_88 rfl ?_
          refine pf_Mo_thrown hx hb T hown hK hw rfl (kf_Mo_65 T) d_Mo_read_92 (fun H locs hw => ?_)
          refine lv_aload_n hx hb d_Mo_read_95 rfl (lv_at hl 0 rfl) ?_
          refine gf_Mo_tree hx hb T hown hK hw rfl (kf_Mo_189 T) d_Mo_read_96 ?_
          refine lv_if_eq hx hb d_Mo_read_99 rfl (fun h53 => ?_) (fun h53 => ?_)
          · skip
            have hF := hF.trans (if_pos h53)
            refine lv_aload_n hx hb d_Mo_read_106 rfl (lv_at hl 0 rfl) ?_
            refine gf_Mo_tree hx hb T hown hK hw rfl (kf_Mo_189 T) d_Mo_read_107 ?_
            refine lv_if_eq hx hb d_Mo_read_110 rfl (fun h54 => ?_) (fun h54 => ?_)
            · skip
              have hF := hF.trans (if_pos h54)
              refine lv_iconst (v := 0) hx hb d_Mo_read_120 (by decide) ?_
              exact gr_i B hw d_Mo_read_121 ⟨_, rfl, hF⟩
            · skip
              have hF := hF.trans (if_neg h54)
              refine lv_aload_n hx hb d_Mo_read_113 rfl (lv_at hl 0 rfl) ?_
              refine gf_Mo_elements hx hb T hown hK hw rfl (kf_Mo_147 T) d_Mo_read_114 ?_
              refine lv_goto hx hb d_Mo_read_117 rfl ?_
              exact gr_i B hw d_Mo_read_121 ⟨_, rfl, hF⟩
          · skip
            have hF := hF.trans (if_neg h53)
            refine lv_aload_n hx hb d_Mo_read_102 rfl (lv_at hl 0 rfl) ?_
            refine gy_V B hl.1 hw (t_Mo_writeForm G _ _ ow fu (nn hno hF)) (kd_Mo_writeForm T) (ki_Mo T) (km_Mo_193 T) (ka_Mo_writeForm T) (ks_Mo_writeForm T) ⟨by decide, by decide, by rfl⟩ (rv_Mo hK hw rfl) rfl (Nat.le_of_ble_eq_true rfl) ⟨by decide, by decide⟩ ⟨by decide, by decide⟩ d_Mo_read_103 (fun v M55 r55 H locs hw hp => ?_) (fun x ek M55 r55 H locs hw hE hp => gr_t B hexc hw hE (by decide) (by decide) (hF.trans (bnd_ex hp)))
            obtain ⟨rfl, hp⟩ := hp
            have hF := hF.trans (bnd_ok hp)
            refine lv_aload_n hx hb d_Mo_read_106 rfl (lv_at hl 0 rfl) ?_
            refine gf_Mo_tree hx hb T hown hK hw rfl (kf_Mo_189 T) d_Mo_read_107 ?_
            refine lv_if_eq hx hb d_Mo_read_110 rfl (fun h56 => ?_) (fun h56 => ?_)
            · skip
              have hF := hF.trans (if_pos h56)
              refine lv_iconst (v := 0) hx hb d_Mo_read_120 (by decide) ?_
              exact gr_i B hw d_Mo_read_121 ⟨_, rfl, hF⟩
            · skip
              have hF := hF.trans (if_neg h56)
              refine lv_aload_n hx hb d_Mo_read_113 rfl (lv_at hl 0 rfl) ?_
              refine gf_Mo_elements hx hb T hown hK hw rfl (kf_Mo_147 T) d_Mo_read_114 ?_
              refine lv_goto hx hb d_Mo_read_117 rfl ?_
              exact gr_i B hw d_Mo_read_121 ⟨_, rfl, hF⟩
set_option maxHeartbeats 4000000 in
set_option maxRecDepth 100000 in
theorem t_Mo_reason {l : Launch} {s0 : State} {D : va_G} {aC : Nat → ClassId} {a0 : Array Value} (G : gG l s0 D aC a0) (M : gMem) (r : gRef) (ow : Int64) (fu : Nat)  (hno : F_Mo_reason fu M r ≠ .no) : gMet l s0 D aC y_Mo_reason (Cond.code y_Mo_reason b_Mo_reason 1 (some .int)) 0 0 0 0 [.ref (s0.heap.size + 383)] M r ow (qI (F_Mo_reason fu M r)) (qT (F_Mo_reason fu M r)) := by
  refine gm_of G (by decide) (Nat.le_of_ble_eq_true rfl) ?_
  intro p e s m below meth c ls B hexc hl hw
  have hx := B.1
  have hb := B.2.1
  have hown := B.2.2.2.2.2.1
  have T := B.2.2.2.2.2.2.1
  have hK := B.2.2.2.2.2.2.2.1
  have hF := F_Mo_reason.eq_1 fu M r
  refine lv_aload_n hx hb d_Mo_reason_0 rfl (lv_at hl 0 rfl) ?_
  refine lv_iconst (v := 0) hx hb d_Mo_reason_1 (by decide) ?_
  refine pf_Mo_thrown hx hb T hown hK hw rfl (kf_Mo_65 T) d_Mo_reason_2 (fun H locs hw => ?_)
  refine lv_aload_n hx hb d_Mo_reason_5 rfl (lv_at hl 0 rfl) ?_
  refine gf_Mo_reason hx hb T hown hK hw rfl (kf_Mo_78 T) d_Mo_reason_6 ?_
  exact gr_i B hw d_Mo_reason_9 ⟨_, rfl, hF⟩
set_option maxHeartbeats 4000000 in
set_option maxRecDepth 100000 in
theorem t_Mo_place {l : Launch} {s0 : State} {D : va_G} {aC : Nat → ClassId} {a0 : Array Value} (G : gG l s0 D aC a0) (M : gMem) (r : gRef) (ow : Int64) (fu : Nat)  (hno : F_Mo_place fu M r ≠ .no) : gMet l s0 D aC y_Mo_place (Cond.code y_Mo_place b_Mo_place 1 (some .int)) 0 0 0 0 [.ref (s0.heap.size + 383)] M r ow (qI (F_Mo_place fu M r)) (qT (F_Mo_place fu M r)) := by
  refine gm_of G (by decide) (Nat.le_of_ble_eq_true rfl) ?_
  intro p e s m below meth c ls B hexc hl hw
  have hx := B.1
  have hb := B.2.1
  have hown := B.2.2.2.2.2.1
  have T := B.2.2.2.2.2.2.1
  have hK := B.2.2.2.2.2.2.2.1
  have hF := F_Mo_place.eq_1 fu M r
  refine lv_aload_n hx hb d_Mo_place_0 rfl (lv_at hl 0 rfl) ?_
  refine lv_iconst (v := 0) hx hb d_Mo_place_1 (by decide) ?_
  refine pf_Mo_thrown hx hb T hown hK hw rfl (kf_Mo_65 T) d_Mo_place_2 (fun H locs hw => ?_)
  refine lv_aload_n hx hb d_Mo_place_5 rfl (lv_at hl 0 rfl) ?_
  refine gf_Mo_place hx hb T hown hK hw rfl (kf_Mo_13 T) d_Mo_place_6 ?_
  exact gr_i B hw d_Mo_place_9 ⟨_, rfl, hF⟩
theorem d_Mo_elementSpace_0 : decode b_Mo_elementSpace 0 = .ok (.aload_n 0, 1) := by decide +kernel
theorem d_Mo_elementSpace_1 : decode b_Mo_elementSpace 1 = .ok (.iload_n 1, 1) := by decide +kernel
theorem d_Mo_elementSpace_2 : decode b_Mo_elementSpace 2 = .ok (.aload_n 0, 1) := by decide +kernel
theorem d_Mo_elementSpace_3 : decode b_Mo_elementSpace 3 = .ok (.getfield 23, 3) := by decide +kernel
theorem d_Mo_elementSpace_6 : decode b_Mo_elementSpace 6 = .ok (.iload_n 1, 1) := by decide +kernel
theorem d_Mo_elementSpace_7 : decode b_Mo_elementSpace 7 = .ok (.iaload, 1) := by decide +kernel
theorem d_Mo_elementSpace_8 : decode b_Mo_elementSpace 8 = .ok (.aload_n 0, 1) := by decide +kernel
theorem d_Mo_elementSpace_9 : decode b_Mo_elementSpace 9 = .ok (.getfield 29, 3) := by decide +kernel
theorem d_Mo_elementSpace_12 : decode b_Mo_elementSpace 12 = .ok (.iload_n 1, 1) := by decide +kernel
theorem d_Mo_elementSpace_13 : decode b_Mo_elementSpace 13 = .ok (.iaload, 1) := by decide +kernel
theorem d_Mo_elementSpace_14 : decode b_Mo_elementSpace 14 = .ok (.ifCond .ge 7, 3) := by decide +kernel
theorem d_Mo_elementSpace_17 : decode b_Mo_elementSpace 17 = .ok (.iconst 0, 1) := by decide +kernel
theorem d_Mo_elementSpace_18 : decode b_Mo_elementSpace 18 = .ok (.goto 9, 3) := by decide +kernel
theorem d_Mo_elementSpace_21 : decode b_Mo_elementSpace 21 = .ok (.aload_n 0, 1) := by decide +kernel
theorem d_Mo_elementSpace_22 : decode b_Mo_elementSpace 22 = .ok (.getfield 29, 3) := by decide +kernel
theorem d_Mo_elementSpace_25 : decode b_Mo_elementSpace 25 = .ok (.iload_n 1, 1) := by decide +kernel
theorem d_Mo_elementSpace_26 : decode b_Mo_elementSpace 26 = .ok (.iaload, 1) := by decide +kernel
theorem d_Mo_elementSpace_27 : decode b_Mo_elementSpace 27 = .ok (.invokevirtual 208, 3) := by decide +kernel
theorem d_Mo_elementSpace_30 : decode b_Mo_elementSpace 30 = .ok (.istore_n 2, 1) := by decide +kernel
theorem d_Mo_elementSpace_31 : decode b_Mo_elementSpace 31 = .ok (.iload_n 2, 1) := by decide +kernel
theorem d_Mo_elementSpace_32 : decode b_Mo_elementSpace 32 = .ok (.ifCond .lt 16, 3) := by decide +kernel
theorem d_Mo_elementSpace_35 : decode b_Mo_elementSpace 35 = .ok (.aload_n 0, 1) := by decide +kernel
theorem d_Mo_elementSpace_36 : decode b_Mo_elementSpace 36 = .ok (.getfield 53, 3) := by decide +kernel
theorem d_Mo_elementSpace_39 : decode b_Mo_elementSpace 39 = .ok (.iload_n 2, 1) := by decide +kernel
theorem d_Mo_elementSpace_40 : decode b_Mo_elementSpace 40 = .ok (.iaload, 1) := by decide +kernel
theorem d_Mo_elementSpace_41 : decode b_Mo_elementSpace 41 = .ok (.ifCond .ne 7, 3) := by decide +kernel
theorem d_Mo_elementSpace_44 : decode b_Mo_elementSpace 44 = .ok (.iconst (-1), 1) := by decide +kernel
theorem d_Mo_elementSpace_45 : decode b_Mo_elementSpace 45 = .ok (.goto 4, 3) := by decide +kernel
theorem d_Mo_elementSpace_48 : decode b_Mo_elementSpace 48 = .ok (.iload_n 2, 1) := by decide +kernel
theorem d_Mo_elementSpace_49 : decode b_Mo_elementSpace 49 = .ok (.ireturn, 1) := by decide +kernel
set_option maxHeartbeats 4000000 in
set_option maxRecDepth 100000 in
theorem t_Mo_elementSpace {l : Launch} {s0 : State} {D : va_G} {aC : Nat → ClassId} {a0 : Array Value} (G : gG l s0 D aC a0) (M : gMem) (r : gRef) (ow : Int64) (fu : Nat) (x1 : Int32)  (hno : F_Mo_elementSpace fu x1 M r ≠ .no) : gMet l s0 D aC y_Mo_elementSpace (Cond.code y_Mo_elementSpace b_Mo_elementSpace 3 (some .int)) 3 69 0 0 [.ref (s0.heap.size + 383), .int x1] M r ow (qI (F_Mo_elementSpace fu x1 M r)) (qT (F_Mo_elementSpace fu x1 M r)) := by
  refine gm_of G (by decide) (Nat.le_of_ble_eq_true rfl) ?_
  intro p e s m below meth c ls B hexc hl hw
  have hx := B.1
  have hb := B.2.1
  have hown := B.2.2.2.2.2.1
  have T := B.2.2.2.2.2.2.1
  have hK := B.2.2.2.2.2.2.2.1
  have hF := F_Mo_elementSpace.eq_1 fu x1 M r
  refine lv_aload_n hx hb d_Mo_elementSpace_0 rfl (lv_at hl 0 rfl) ?_
  refine lv_iload_n hx hb d_Mo_elementSpace_1 rfl (lv_at hl 1 rfl) ?_
  refine lv_aload_n hx hb d_Mo_elementSpace_2 rfl (lv_at hl 0 rfl) ?_
  refine gf_Mo_nameFrom hx hb T hown hK hw rfl (kf_Mo_23 T) d_Mo_elementSpace_3 ?_
  refine lv_iload_n hx hb d_Mo_elementSpace_6 rfl (lv_at hl 1 rfl) ?_
  have g13 := ng hno hF
  have hF := hF.trans (gd_yes g13)
  refine ga_Mo_nameFrom hx hb hK hw rfl g13 d_Mo_elementSpace_7 ?_
  refine lv_aload_n hx hb d_Mo_elementSpace_8 rfl (lv_at hl 0 rfl) ?_
  refine gf_Mo_nameColon hx hb T hown hK hw rfl (kf_Mo_29 T) d_Mo_elementSpace_9 ?_
  refine lv_iload_n hx hb d_Mo_elementSpace_12 rfl (lv_at hl 1 rfl) ?_
  have g14 := ng hno hF
  have hF := hF.trans (gd_yes g14)
  refine ga_Mo_nameColon hx hb hK hw rfl g14 d_Mo_elementSpace_13 ?_
  refine lv_if_ge hx hb d_Mo_elementSpace_14 rfl (fun h15 => ?_) (fun h15 => ?_)
  · skip
    have hF := hF.trans (if_pos h15)
    refine lv_aload_n hx hb d_Mo_elementSpace_21 rfl (lv_at hl 0 rfl) ?_
    refine gf_Mo_nameColon hx hb T hown hK hw rfl (kf_Mo_29 T) d_Mo_elementSpace_22 ?_
    refine lv_iload_n hx hb d_Mo_elementSpace_25 rfl (lv_at hl 1 rfl) ?_
    have g16 := ng hno hF
    have hF := hF.trans (gd_yes g16)
    refine ga_Mo_nameColon hx hb hK hw rfl g16 d_Mo_elementSpace_26 ?_
    refine gy_V B hl.1 hw (t_Mo_declared G _ _ ow fu x1 (M 111 x1.toNatClampNeg) (M 113 x1.toNatClampNeg) (nn hno hF)) (kd_Mo_declared T) (ki_Mo T) (km_Mo_208 T) (ka_Mo_declared T) (ks_Mo_declared T) ⟨by decide, by decide, by rfl⟩ (rv_Mo hK hw rfl) rfl (Nat.le_of_ble_eq_true rfl) ⟨by decide, by decide⟩ ⟨by decide, by decide⟩ d_Mo_elementSpace_27 (fun v M17 r17 H locs hw hp => ?_) (fun x ek M17 r17 H locs hw hE hp => gr_t B hexc hw hE (by decide) (by decide) (hF.trans (bnd_ex hp)))
    obtain ⟨v17, rfl, hp⟩ := hp
    have hF := hF.trans (bnd_ok hp)
    refine lv_istore_n hx hb d_Mo_elementSpace_30 rfl hl (by decide) rfl (fun ls hl => ?_)
    refine lv_iload_n hx hb d_Mo_elementSpace_31 rfl (lv_at hl 0 rfl) ?_
    refine lv_if_lt hx hb d_Mo_elementSpace_32 rfl (fun h18 => ?_) (fun h18 => ?_)
    · skip
      have hF := hF.trans (if_pos h18)
      refine lv_iload_n hx hb d_Mo_elementSpace_48 rfl (lv_at hl 0 rfl) ?_
      exact gr_i B hw d_Mo_elementSpace_49 ⟨_, rfl, hF⟩
    · skip
      have hF := hF.trans (if_neg h18)
      refine lv_aload_n hx hb d_Mo_elementSpace_35 rfl (lv_at hl 1 rfl) ?_
      refine gf_Mo_valueSize hx hb T hown hK hw rfl (kf_Mo_53 T) d_Mo_elementSpace_36 ?_
      refine lv_iload_n hx hb d_Mo_elementSpace_39 rfl (lv_at hl 0 rfl) ?_
      have g19 := ng hno hF
      have hF := hF.trans (gd_yes g19)
      refine ga_Mo_valueSize hx hb hK hw rfl g19 d_Mo_elementSpace_40 ?_
      refine lv_if_ne hx hb d_Mo_elementSpace_41 rfl (fun h20 => ?_) (fun h20 => ?_)
      · skip
        have hF := hF.trans (if_neg h20)
        refine lv_iload_n hx hb d_Mo_elementSpace_48 rfl (lv_at hl 0 rfl) ?_
        exact gr_i B hw d_Mo_elementSpace_49 ⟨_, rfl, hF⟩
      · skip
        have hF := hF.trans (if_pos h20)
        refine lv_iconst (v := -1) hx hb d_Mo_elementSpace_44 (by decide) ?_
        refine lv_goto hx hb d_Mo_elementSpace_45 rfl ?_
        exact gr_i B hw d_Mo_elementSpace_49 ⟨_, rfl, hF⟩
  · skip
    have hF := hF.trans (if_neg h15)
    refine lv_iconst (v := 0) hx hb d_Mo_elementSpace_17 (by decide) ?_
    refine lv_goto hx hb d_Mo_elementSpace_18 rfl ?_
    refine gy_V B hl.1 hw (t_Mo_declared G _ _ ow fu x1 (M 111 x1.toNatClampNeg) 0 (nn hno hF)) (kd_Mo_declared T) (ki_Mo T) (km_Mo_208 T) (ka_Mo_declared T) (ks_Mo_declared T) ⟨by decide, by decide, by rfl⟩ (rv_Mo hK hw rfl) rfl (Nat.le_of_ble_eq_true rfl) ⟨by decide, by decide⟩ ⟨by decide, by decide⟩ d_Mo_elementSpace_27 (fun v M21 r21 H locs hw hp => ?_) (fun x ek M21 r21 H locs hw hE hp => gr_t B hexc hw hE (by decide) (by decide) (hF.trans (bnd_ex hp)))
    obtain ⟨v21, rfl, hp⟩ := hp
    have hF := hF.trans (bnd_ok hp)
    refine lv_istore_n hx hb d_Mo_elementSpace_30 rfl hl (by decide) rfl (fun ls hl => ?_)
    refine lv_iload_n hx hb d_Mo_elementSpace_31 rfl (lv_at hl 0 rfl) ?_
    refine lv_if_lt hx hb d_Mo_elementSpace_32 rfl (fun h22 => ?_) (fun h22 => ?_)
    · skip
      have hF := hF.trans (if_pos h22)
      refine lv_iload_n hx hb d_Mo_elementSpace_48 rfl (lv_at hl 0 rfl) ?_
      exact gr_i B hw d_Mo_elementSpace_49 ⟨_, rfl, hF⟩
    · skip
      have hF := hF.trans (if_neg h22)
      refine lv_aload_n hx hb d_Mo_elementSpace_35 rfl (lv_at hl 1 rfl) ?_
      refine gf_Mo_valueSize hx hb T hown hK hw rfl (kf_Mo_53 T) d_Mo_elementSpace_36 ?_
      refine lv_iload_n hx hb d_Mo_elementSpace_39 rfl (lv_at hl 0 rfl) ?_
      have g23 := ng hno hF
      have hF := hF.trans (gd_yes g23)
      refine ga_Mo_valueSize hx hb hK hw rfl g23 d_Mo_elementSpace_40 ?_
      refine lv_if_ne hx hb d_Mo_elementSpace_41 rfl (fun h24 => ?_) (fun h24 => ?_)
      · skip
        have hF := hF.trans (if_neg h24)
        refine lv_iload_n hx hb d_Mo_elementSpace_48 rfl (lv_at hl 0 rfl) ?_
        exact gr_i B hw d_Mo_elementSpace_49 ⟨_, rfl, hF⟩
      · skip
        have hF := hF.trans (if_pos h24)
        refine lv_iconst (v := -1) hx hb d_Mo_elementSpace_44 (by decide) ?_
        refine lv_goto hx hb d_Mo_elementSpace_45 rfl ?_
        exact gr_i B hw d_Mo_elementSpace_49 ⟨_, rfl, hF⟩
set_option maxHeartbeats 4000000 in
set_option maxRecDepth 100000 in
theorem t_Mo_noElement {l : Launch} {s0 : State} {D : va_G} {aC : Nat → ClassId} {a0 : Array Value} (G : gG l s0 D aC a0) (M : gMem) (r : gRef) (ow : Int64) (fu : Nat) (x1 : Int32)  (hno : F_Mo_noElement fu x1 M r ≠ .no) : gMet l s0 D aC y_Mo_noElement (Cond.code y_Mo_noElement b_Mo_noElement 2 (some .boolean)) 0 0 0 0 [.ref (s0.heap.size + 383), .int x1] M r ow (qI (F_Mo_noElement fu x1 M r)) (qT (F_Mo_noElement fu x1 M r)) := by
  refine gm_of G (by decide) (Nat.le_of_ble_eq_true rfl) ?_
  intro p e s m below meth c ls B hexc hl hw
  have hx := B.1
  have hb := B.2.1
  have hown := B.2.2.2.2.2.1
  have T := B.2.2.2.2.2.2.1
  have hK := B.2.2.2.2.2.2.2.1
  have hF := F_Mo_noElement.eq_1 fu x1 M r
  refine lv_aload_n hx hb d_Mo_noElement_0 rfl (lv_at hl 0 rfl) ?_
  refine gf_Mo_tree hx hb T hown hK hw rfl (kf_Mo_189 T) d_Mo_noElement_1 ?_
  refine lv_if_eq hx hb d_Mo_noElement_4 rfl (fun h4 => ?_) (fun h4 => ?_)
  · skip
    have hF := hF.trans (if_pos h4)
    refine lv_iconst (v := 1) hx hb d_Mo_noElement_19 (by decide) ?_
    refine lv_goto hx hb d_Mo_noElement_20 rfl ?_
    exact gr_z B hw (by rfl) d_Mo_noElement_24 ⟨_, rfl, hF⟩
  · skip
    have hF := hF.trans (if_neg h4)
    refine lv_iload_n hx hb d_Mo_noElement_7 rfl (lv_at hl 1 rfl) ?_
    refine lv_if_lt hx hb d_Mo_noElement_8 rfl (fun h5 => ?_) (fun h5 => ?_)
    · skip
      have hF := hF.trans (if_pos h5)
      refine lv_iconst (v := 1) hx hb d_Mo_noElement_19 (by decide) ?_
      refine lv_goto hx hb d_Mo_noElement_20 rfl ?_
      exact gr_z B hw (by rfl) d_Mo_noElement_24 ⟨_, rfl, hF⟩
    · skip
      have hF := hF.trans (if_neg h5)
      refine lv_iload_n hx hb d_Mo_noElement_11 rfl (lv_at hl 1 rfl) ?_
      refine lv_aload_n hx hb d_Mo_noElement_12 rfl (lv_at hl 0 rfl) ?_
      refine gf_Mo_elements hx hb T hown hK hw rfl (kf_Mo_147 T) d_Mo_noElement_13 ?_
      refine lv_icmp_lt hx hb d_Mo_noElement_16 rfl (fun h6 => ?_) (fun h6 => ?_)
      · skip
        have hF := hF.trans (if_pos h6)
        refine lv_iconst (v := 0) hx hb d_Mo_noElement_23 (by decide) ?_
        exact gr_z B hw (by rfl) d_Mo_noElement_24 ⟨_, rfl, hF⟩
      · skip
        have hF := hF.trans (if_neg h6)
        refine lv_iconst (v := 1) hx hb d_Mo_noElement_19 (by decide) ?_
        refine lv_goto hx hb d_Mo_noElement_20 rfl ?_
        exact gr_z B hw (by rfl) d_Mo_noElement_24 ⟨_, rfl, hF⟩
theorem d_Mo_own_0 : decode b_Mo_own 0 = .ok (.iconst 0, 1) := by decide +kernel
theorem d_Mo_own_1 : decode b_Mo_own 1 = .ok (.istore_n 3, 1) := by decide +kernel
theorem d_Mo_own_2 : decode b_Mo_own 2 = .ok (.iconst (-1), 1) := by decide +kernel
theorem d_Mo_own_3 : decode b_Mo_own 3 = .ok (.istore 4, 2) := by decide +kernel
theorem d_Mo_own_5 : decode b_Mo_own 5 = .ok (.iconst 0, 1) := by decide +kernel
theorem d_Mo_own_6 : decode b_Mo_own 6 = .ok (.istore 5, 2) := by decide +kernel
theorem d_Mo_own_8 : decode b_Mo_own 8 = .ok (.iload 5, 2) := by decide +kernel
theorem d_Mo_own_10 : decode b_Mo_own 10 = .ok (.aload_n 0, 1) := by decide +kernel
theorem d_Mo_own_11 : decode b_Mo_own 11 = .ok (.getfield 163, 3) := by decide +kernel
theorem d_Mo_own_14 : decode b_Mo_own 14 = .ok (.if_icmp .ge 78, 3) := by decide +kernel
theorem d_Mo_own_17 : decode b_Mo_own 17 = .ok (.aload_n 0, 1) := by decide +kernel
theorem d_Mo_own_18 : decode b_Mo_own 18 = .ok (.getfield 56, 3) := by decide +kernel
theorem d_Mo_own_21 : decode b_Mo_own 21 = .ok (.iload 5, 2) := by decide +kernel
theorem d_Mo_own_23 : decode b_Mo_own 23 = .ok (.iaload, 1) := by decide +kernel
theorem d_Mo_own_24 : decode b_Mo_own 24 = .ok (.istore 6, 2) := by decide +kernel
theorem d_Mo_own_26 : decode b_Mo_own 26 = .ok (.iload 6, 2) := by decide +kernel
theorem d_Mo_own_28 : decode b_Mo_own 28 = .ok (.sipush 2000, 3) := by decide +kernel
theorem d_Mo_own_31 : decode b_Mo_own 31 = .ok (.if_icmp .lt 19, 3) := by decide +kernel
theorem d_Mo_own_34 : decode b_Mo_own 34 = .ok (.aload_n 0, 1) := by decide +kernel
theorem d_Mo_own_35 : decode b_Mo_own 35 = .ok (.getfield 20, 3) := by decide +kernel
theorem d_Mo_own_38 : decode b_Mo_own 38 = .ok (.iload 6, 2) := by decide +kernel
theorem d_Mo_own_40 : decode b_Mo_own 40 = .ok (.sipush 2000, 3) := by decide +kernel
theorem d_Mo_own_43 : decode b_Mo_own 43 = .ok (.isub, 1) := by decide +kernel
theorem d_Mo_own_44 : decode b_Mo_own 44 = .ok (.iaload, 1) := by decide +kernel
theorem d_Mo_own_45 : decode b_Mo_own 45 = .ok (.istore 4, 2) := by decide +kernel
theorem d_Mo_own_47 : decode b_Mo_own 47 = .ok (.goto 39, 3) := by decide +kernel
theorem d_Mo_own_50 : decode b_Mo_own 50 = .ok (.iload 6, 2) := by decide +kernel
theorem d_Mo_own_52 : decode b_Mo_own 52 = .ok (.sipush 1000, 3) := by decide +kernel
theorem d_Mo_own_55 : decode b_Mo_own 55 = .ok (.if_icmp .lt 14, 3) := by decide +kernel
theorem d_Mo_own_58 : decode b_Mo_own 58 = .ok (.iload 6, 2) := by decide +kernel
theorem d_Mo_own_60 : decode b_Mo_own 60 = .ok (.sipush 1000, 3) := by decide +kernel
theorem d_Mo_own_63 : decode b_Mo_own 63 = .ok (.isub, 1) := by decide +kernel
theorem d_Mo_own_64 : decode b_Mo_own 64 = .ok (.istore 4, 2) := by decide +kernel
theorem d_Mo_own_66 : decode b_Mo_own 66 = .ok (.goto 20, 3) := by decide +kernel
theorem d_Mo_own_69 : decode b_Mo_own 69 = .ok (.iload 4, 2) := by decide +kernel
theorem d_Mo_own_71 : decode b_Mo_own 71 = .ok (.iload_n 1, 1) := by decide +kernel
theorem d_Mo_own_72 : decode b_Mo_own 72 = .ok (.if_icmp .ne 14, 3) := by decide +kernel
theorem d_Mo_own_75 : decode b_Mo_own 75 = .ok (.iload_n 3, 1) := by decide +kernel
theorem d_Mo_own_76 : decode b_Mo_own 76 = .ok (.iload_n 2, 1) := by decide +kernel
theorem d_Mo_own_77 : decode b_Mo_own 77 = .ok (.if_icmp .ne 6, 3) := by decide +kernel
theorem d_Mo_own_80 : decode b_Mo_own 80 = .ok (.iload 6, 2) := by decide +kernel
theorem d_Mo_own_82 : decode b_Mo_own 82 = .ok (.ireturn, 1) := by decide +kernel
theorem d_Mo_own_83 : decode b_Mo_own 83 = .ok (.iinc 3 1, 3) := by decide +kernel
theorem d_Mo_own_86 : decode b_Mo_own 86 = .ok (.iinc 5 1, 3) := by decide +kernel
theorem d_Mo_own_89 : decode b_Mo_own 89 = .ok (.goto (-81), 3) := by decide +kernel
theorem d_Mo_own_92 : decode b_Mo_own 92 = .ok (.iload_n 2, 1) := by decide +kernel
theorem d_Mo_own_93 : decode b_Mo_own 93 = .ok (.ifCond .ge 7, 3) := by decide +kernel
theorem d_Mo_own_96 : decode b_Mo_own 96 = .ok (.iload_n 3, 1) := by decide +kernel
theorem d_Mo_own_97 : decode b_Mo_own 97 = .ok (.goto 4, 3) := by decide +kernel
theorem d_Mo_own_100 : decode b_Mo_own 100 = .ok (.iconst (-1), 1) := by decide +kernel
theorem d_Mo_own_101 : decode b_Mo_own 101 = .ok (.ireturn, 1) := by decide +kernel
set_option maxHeartbeats 4000000 in
set_option maxRecDepth 100000 in
theorem t_Mo_own {l : Launch} {s0 : State} {D : va_G} {aC : Nat → ClassId} {a0 : Array Value} (G : gG l s0 D aC a0) (M : gMem) (r : gRef) (ow : Int64) (fu : Nat) (x1 : Int32) (x2 : Int32)  (hno : F_Mo_own fu x1 x2 M r ≠ .no) : gMet l s0 D aC y_Mo_own (Cond.code y_Mo_own b_Mo_own 7 (some .int)) 0 0 0 0 [.ref (s0.heap.size + 383), .int x1, .int x2] M r ow (qI (F_Mo_own fu x1 x2 M r)) (qT (F_Mo_own fu x1 x2 M r)) := by
  refine gm_of G (by decide) (Nat.le_of_ble_eq_true rfl) ?_
  intro p e s m below meth c ls B hexc hl hw
  have hx := B.1
  have hb := B.2.1
  have hown := B.2.2.2.2.2.1
  have T := B.2.2.2.2.2.2.1
  have hK := B.2.2.2.2.2.2.2.1
  have X92 : ∀ (x3 : Int32) (M1 : gMem) (r1 : gRef) (H : Heap) (locs : List Loc) (ls : Array Slot), lv_has ls 7 [(3, .int x3), (2, .int x2)] → gWd s0 D aC M1 r1 ow H locs → F_Mo_own fu x1 x2 M r = F_Mo_own_B92 fu x1 x2 x3 M1 r1 → W p l e (gRm 0 0 0 0) s m ([.ref (s0.heap.size + 383), .int x1, .int x2] : List Value).toArray below meth c H locs 0 0 (gt_Q below (gQ s0 D aC ow (qI (F_Mo_own fu x1 x2 M r)) (qT (F_Mo_own fu x1 x2 M r))) s 0 0 0 0 (fun q => s0.heap.size ≤ q)) (F0 m 92 ls []) := by
    intro x3 M1 r1 H locs ls hl hw hF
    have hF := hF.trans (F_Mo_own_B92.eq_1 _ _ _ _ _ _)
    refine lv_iload_n hx hb d_Mo_own_92 rfl (lv_at hl 1 rfl) ?_
    refine lv_if_ge hx hb d_Mo_own_93 rfl (fun h9 => ?_) (fun h9 => ?_)
    · skip
      have hF := hF.trans (if_pos h9)
      refine lv_iconst (v := -1) hx hb d_Mo_own_100 (by decide) ?_
      exact gr_i B hw d_Mo_own_101 ⟨_, rfl, hF⟩
    · skip
      have hF := hF.trans (if_neg h9)
      refine lv_iload_n hx hb d_Mo_own_96 rfl (lv_at hl 0 rfl) ?_
      refine lv_goto hx hb d_Mo_own_97 rfl ?_
      exact gr_i B hw d_Mo_own_101 ⟨_, rfl, hF⟩
  have L8 : ∀ (d : Nat) (x3 : Int32) (x4 : Int32) (x5 : Int32) (M1 : gMem) (r1 : gRef) (H : Heap) (locs : List Loc) (ls : Array Slot), lv_has ls 7 [(3, .int x3), (4, .int x4), (5, .int x5), (0, .ref (s0.heap.size + 383)), (1, .int x1), (2, .int x2)] → gWd s0 D aC M1 r1 ow H locs → F_Mo_own fu x1 x2 M r = F_Mo_own_L8 fu x1 x2 d x3 x4 x5 M1 r1 → W p l e (gRm 0 0 0 0) s m ([.ref (s0.heap.size + 383), .int x1, .int x2] : List Value).toArray below meth c H locs 0 0 (gt_Q below (gQ s0 D aC ow (qI (F_Mo_own fu x1 x2 M r)) (qT (F_Mo_own fu x1 x2 M r))) s 0 0 0 0 (fun q => s0.heap.size ≤ q)) (F0 m 8 ls []) := by
    intro d
    induction d with
    | zero => intro x3 x4 x5 M1 r1 H locs ls hl hw hF; exact absurd hF hno
    | succ d ih =>
      intro x3 x4 x5 M1 r1 H locs ls hl hw hF
      have hF := hF.trans (F_Mo_own_L8.eq_2 _ _ _ _ _ _ _ _ _)
      refine lv_iload hx hb d_Mo_own_8 (lv_at hl 2 rfl) ?_
      refine lv_aload_n hx hb d_Mo_own_10 rfl (lv_at hl 3 rfl) ?_
      refine gf_Mo_events hx hb T hown hK hw rfl (kf_Mo_163 T) d_Mo_own_11 ?_
      refine lv_icmp_ge hx hb d_Mo_own_14 rfl (fun h10 => ?_) (fun h10 => ?_)
      · skip
        have hF := hF.trans (if_pos h10)
        exact X92 x3 _ _ _ _ _ (gv_loc hl [0, 5] rfl) hw hF
      · skip
        have hF := hF.trans (if_neg h10)
        refine lv_aload_n hx hb d_Mo_own_17 rfl (lv_at hl 3 rfl) ?_
        refine gf_Mo_happened hx hb T hown hK hw rfl (kf_Mo_56 T) d_Mo_own_18 ?_
        refine lv_iload hx hb d_Mo_own_21 (lv_at hl 2 rfl) ?_
        have g11 := ng hno hF
        have hF := hF.trans (gd_yes g11)
        refine ga_Mo_happened hx hb hK hw rfl g11 d_Mo_own_23 ?_
        refine lv_istore hx hb d_Mo_own_24 hl (by decide) rfl (fun ls hl => ?_)
        refine lv_iload hx hb d_Mo_own_26 (lv_at hl 0 rfl) ?_
        refine lv_sipush (v := 2000) hx hb d_Mo_own_28 (by decide) ?_
        refine lv_icmp_lt hx hb d_Mo_own_31 rfl (fun h12 => ?_) (fun h12 => ?_)
        · skip
          have hF := hF.trans (if_pos h12)
          refine lv_iload hx hb d_Mo_own_50 (lv_at hl 0 rfl) ?_
          refine lv_sipush (v := 1000) hx hb d_Mo_own_52 (by decide) ?_
          refine lv_icmp_lt hx hb d_Mo_own_55 rfl (fun h13 => ?_) (fun h13 => ?_)
          · skip
            have hF := hF.trans (if_pos h13)
            refine lv_iload hx hb d_Mo_own_69 (lv_at hl 2 rfl) ?_
            refine lv_iload_n hx hb d_Mo_own_71 rfl (lv_at hl 5 rfl) ?_
            refine lv_icmp_ne hx hb d_Mo_own_72 rfl (fun h14 => ?_) (fun h14 => ?_)
            · skip
              have hF := hF.trans (if_neg h14)
              refine lv_iinc (k := 3) hx hb d_Mo_own_86 hl rfl (show _ + Int32.ofInt 1 = _ + 1 from rfl) (by decide) rfl (fun ls hl => ?_)
              refine lv_goto hx hb d_Mo_own_89 rfl ?_
              exact ih x3 x4 (x5 + 1) _ _ _ _ _ (gv_loc hl [2, 3, 0, 4, 5, 6] rfl) hw hF
            · skip
              have hF := hF.trans (if_pos h14)
              refine lv_iload_n hx hb d_Mo_own_75 rfl (lv_at hl 1 rfl) ?_
              refine lv_iload_n hx hb d_Mo_own_76 rfl (lv_at hl 6 rfl) ?_
              refine lv_icmp_ne hx hb d_Mo_own_77 rfl (fun h15 => ?_) (fun h15 => ?_)
              · skip
                have hF := hF.trans (if_neg h15)
                refine lv_iinc (k := 1) hx hb d_Mo_own_83 hl rfl (show _ + Int32.ofInt 1 = _ + 1 from rfl) (by decide) rfl (fun ls hl => ?_)
                refine lv_iinc (k := 3) hx hb d_Mo_own_86 hl rfl (show _ + Int32.ofInt 1 = _ + 1 from rfl) (by decide) rfl (fun ls hl => ?_)
                refine lv_goto hx hb d_Mo_own_89 rfl ?_
                exact ih (x3 + 1) x4 (x5 + 1) _ _ _ _ _ (gv_loc hl [1, 3, 0, 4, 5, 6] rfl) hw hF
              · skip
                have hF := hF.trans (if_pos h15)
                refine lv_iload hx hb d_Mo_own_80 (lv_at hl 0 rfl) ?_
                exact gr_i B hw d_Mo_own_82 ⟨_, rfl, hF⟩
          · skip
            have hF := hF.trans (if_neg h13)
            refine lv_iload hx hb d_Mo_own_58 (lv_at hl 0 rfl) ?_
            refine lv_sipush (v := 1000) hx hb d_Mo_own_60 (by decide) ?_
            refine lv_isub hx hb d_Mo_own_63 ?_
            refine lv_istore hx hb d_Mo_own_64 hl (by decide) rfl (fun ls hl => ?_)
            refine lv_goto hx hb d_Mo_own_66 rfl ?_
            refine lv_iinc (k := 3) hx hb d_Mo_own_86 hl rfl (show _ + Int32.ofInt 1 = _ + 1 from rfl) (by decide) rfl (fun ls hl => ?_)
            refine lv_goto hx hb d_Mo_own_89 rfl ?_
            exact ih x3 ((M1 123 x5.toNatClampNeg) - 1000) (x5 + 1) _ _ _ _ _ (gv_loc hl [3, 1, 0, 4, 5, 6] rfl) hw hF
        · skip
          have hF := hF.trans (if_neg h12)
          refine lv_aload_n hx hb d_Mo_own_34 rfl (lv_at hl 4 rfl) ?_
          refine gf_Mo_parents hx hb T hown hK hw rfl (kf_Mo_20 T) d_Mo_own_35 ?_
          refine lv_iload hx hb d_Mo_own_38 (lv_at hl 0 rfl) ?_
          refine lv_sipush (v := 2000) hx hb d_Mo_own_40 (by decide) ?_
          refine lv_isub hx hb d_Mo_own_43 ?_
          have g16 := ng hno hF
          have hF := hF.trans (gd_yes g16)
          refine ga_Mo_parents hx hb hK hw rfl g16 d_Mo_own_44 ?_
          refine lv_istore hx hb d_Mo_own_45 hl (by decide) rfl (fun ls hl => ?_)
          refine lv_goto hx hb d_Mo_own_47 rfl ?_
          refine lv_iinc (k := 3) hx hb d_Mo_own_86 hl rfl (show _ + Int32.ofInt 1 = _ + 1 from rfl) (by decide) rfl (fun ls hl => ?_)
          refine lv_goto hx hb d_Mo_own_89 rfl ?_
          exact ih x3 (M1 110 ((M1 123 x5.toNatClampNeg) - 2000).toNatClampNeg) (x5 + 1) _ _ _ _ _ (gv_loc hl [3, 1, 0, 4, 5, 6] rfl) hw hF
  have hF := F_Mo_own.eq_1 fu x1 x2 M r
  refine lv_iconst (v := 0) hx hb d_Mo_own_0 (by decide) ?_
  refine lv_istore_n hx hb d_Mo_own_1 rfl hl (by decide) rfl (fun ls hl => ?_)
  refine lv_iconst (v := -1) hx hb d_Mo_own_2 (by decide) ?_
  refine lv_istore hx hb d_Mo_own_3 hl (by decide) rfl (fun ls hl => ?_)
  refine lv_iconst (v := 0) hx hb d_Mo_own_5 (by decide) ?_
  refine lv_istore hx hb d_Mo_own_6 hl (by decide) rfl (fun ls hl => ?_)
  exact L8 fu 0 (-1) 0 _ _ _ _ _ (gv_loc hl [2, 1, 0, 3, 4, 5] rfl) hw hF
set_option maxHeartbeats 4000000 in
set_option maxRecDepth 100000 in
theorem t_Mo_element {l : Launch} {s0 : State} {D : va_G} {aC : Nat → ClassId} {a0 : Array Value} (G : gG l s0 D aC a0) (M : gMem) (r : gRef) (ow : Int64) (fu : Nat) (x1 : Int32) (x2 : Int32)  (hno : F_Mo_element fu x1 x2 M r ≠ .no) : gMet l s0 D aC y_Mo_element (Cond.code y_Mo_element b_Mo_element 5 (some .int)) 4 91 0 0 [.ref (s0.heap.size + 383), .int x1, .int x2] M r ow (qI (F_Mo_element fu x1 x2 M r)) (qT (F_Mo_element fu x1 x2 M r)) := by
  refine gm_of G (by decide) (Nat.le_of_ble_eq_true rfl) ?_
  intro p e s m below meth c ls B hexc hl hw
  have hx := B.1
  have hb := B.2.1
  have hown := B.2.2.2.2.2.1
  have T := B.2.2.2.2.2.2.1
  have hK := B.2.2.2.2.2.2.2.1
  have X133 : ∀ (x3 : Int32) (M1 : gMem) (r1 : gRef) (H : Heap) (locs : List Loc) (ls : Array Slot), lv_has ls 5 [(3, .int x3), (0, .ref (s0.heap.size + 383)), (1, .int x1), (2, .int x2)] → gWd s0 D aC M1 r1 ow H locs → F_Mo_element fu x1 x2 M r = F_Mo_element_B133 fu x1 x2 x3 M1 r1 → W p l e (gRm 4 91 0 0) s m ([.ref (s0.heap.size + 383), .int x1, .int x2] : List Value).toArray below meth c H locs 0 0 (gt_Q below (gQ s0 D aC ow (qI (F_Mo_element fu x1 x2 M r)) (qT (F_Mo_element fu x1 x2 M r))) s 0 0 0 0 (fun q => s0.heap.size ≤ q)) (F0 m 133 ls []) := by
    intro x3 M1 r1 H locs ls hl hw hF
    have hF := hF.trans (F_Mo_element_B133.eq_1 _ _ _ _ _ _)
    refine lv_aload_n hx hb d_Mo_element_133 rfl (lv_at hl 1 rfl) ?_
    refine lv_iload_n hx hb d_Mo_element_134 rfl (lv_at hl 2 rfl) ?_
    refine gy_V B hl.1 hw (t_Mo_elementSpace G _ _ ow fu x1 (nn hno hF)) (kd_Mo_elementSpace T) (ki_Mo T) (km_Mo_257 T) (ka_Mo_elementSpace T) (ks_Mo_elementSpace T) ⟨by decide, by decide, by rfl⟩ (rv_Mo hK hw rfl) rfl (Nat.le_of_ble_eq_true rfl) ⟨by decide, by decide⟩ ⟨by decide, by decide⟩ d_Mo_element_135 (fun v M22 r22 H locs hw hp => ?_) (fun x ek M22 r22 H locs hw hE hp => gr_t B hexc hw hE (by decide) (by decide) (hF.trans (bnd_ex hp)))
    obtain ⟨v22, rfl, hp⟩ := hp
    have hF := hF.trans (bnd_ok hp)
    refine lv_istore hx hb d_Mo_element_138 hl (by decide) rfl (fun ls hl => ?_)
    refine lv_iload_n hx hb d_Mo_element_140 rfl (lv_at hl 4 rfl) ?_
    refine lv_if_ne hx hb d_Mo_element_141 rfl (fun h23 => ?_) (fun h23 => ?_)
    · skip
      have hF := hF.trans (if_neg h23)
      refine lv_iload_n hx hb d_Mo_element_153 rfl (lv_at hl 4 rfl) ?_
      refine lv_iconst (v := 3) hx hb d_Mo_element_154 (by decide) ?_
      refine lv_icmp_ge hx hb d_Mo_element_155 rfl (fun h24 => ?_) (fun h24 => ?_)
      · skip
        have hF := hF.trans (if_pos h24)
        refine lv_iload_n hx hb d_Mo_element_162 rfl (lv_at hl 4 rfl) ?_
        refine lv_iconst (v := 3) hx hb d_Mo_element_163 (by decide) ?_
        refine lv_icmp_ne hx hb d_Mo_element_164 rfl (fun h25 => ?_) (fun h25 => ?_)
        · skip
          have hF := hF.trans (if_neg h25)
          refine lv_iload hx hb d_Mo_element_176 (lv_at hl 0 rfl) ?_
          refine lv_if_ge hx hb d_Mo_element_178 rfl (fun h26 => ?_) (fun h26 => ?_)
          · skip
            have hF := hF.trans (if_pos h26)
            refine lv_aload_n hx hb d_Mo_element_185 rfl (lv_at hl 2 rfl) ?_
            refine gf_Mo_valueSize hx hb T hown hK hw rfl (kf_Mo_53 T) d_Mo_element_186 ?_
            refine lv_iload hx hb d_Mo_element_189 (lv_at hl 0 rfl) ?_
            have g27 := ng hno hF
            have hF := hF.trans (gd_yes g27)
            refine ga_Mo_valueSize hx hb hK hw rfl g27 d_Mo_element_191 ?_
            exact gr_i B hw d_Mo_element_192 ⟨_, rfl, hF⟩
          · skip
            have hF := hF.trans (if_neg h26)
            refine lv_iconst (v := -1) hx hb d_Mo_element_181 (by decide) ?_
            refine lv_goto hx hb d_Mo_element_182 rfl ?_
            exact gr_i B hw d_Mo_element_192 ⟨_, rfl, hF⟩
        · skip
          have hF := hF.trans (if_pos h25)
          refine lv_aload_n hx hb d_Mo_element_167 rfl (lv_at hl 2 rfl) ?_
          refine lv_iload_n hx hb d_Mo_element_168 rfl (lv_at hl 3 rfl) ?_
          refine lv_iconst (v := -1) hx hb d_Mo_element_169 (by decide) ?_
          refine gy_V B hl.1 hw (t_Mo_own G _ _ ow fu x1 (-1) (nn hno hF)) (kd_Mo_own T) (ki_Mo T) (km_Mo_260 T) (ka_Mo_own T) (ks_Mo_own T) ⟨by decide, by decide, by rfl⟩ (rv_Mo hK hw rfl) rfl (Nat.le_of_ble_eq_true rfl) ⟨by decide, by decide⟩ ⟨by decide, by decide⟩ d_Mo_element_170 (fun v M28 r28 H locs hw hp => ?_) (fun x ek M28 r28 H locs hw hE hp => gr_t B hexc hw hE (by decide) (by decide) (hF.trans (bnd_ex hp)))
          obtain ⟨v28, rfl, hp⟩ := hp
          have hF := hF.trans (bnd_ok hp)
          refine lv_goto hx hb d_Mo_element_173 rfl ?_
          exact gr_i B hw d_Mo_element_192 ⟨_, rfl, hF⟩
      · skip
        have hF := hF.trans (if_neg h24)
        refine lv_iload_n hx hb d_Mo_element_158 rfl (lv_at hl 1 rfl) ?_
        refine lv_goto hx hb d_Mo_element_159 rfl ?_
        exact gr_i B hw d_Mo_element_192 ⟨_, rfl, hF⟩
    · skip
      have hF := hF.trans (if_pos h23)
      refine lv_aload_n hx hb d_Mo_element_144 rfl (lv_at hl 2 rfl) ?_
      refine gf_Mo_parents hx hb T hown hK hw rfl (kf_Mo_20 T) d_Mo_element_145 ?_
      refine lv_iload_n hx hb d_Mo_element_148 rfl (lv_at hl 3 rfl) ?_
      have g29 := ng hno hF
      have hF := hF.trans (gd_yes g29)
      refine ga_Mo_parents hx hb hK hw rfl g29 d_Mo_element_149 ?_
      refine lv_goto hx hb d_Mo_element_150 rfl ?_
      exact gr_i B hw d_Mo_element_192 ⟨_, rfl, hF⟩
  have L89 : ∀ (d : Nat) (x3 : Int32) (x4 : Int32) (M1 : gMem) (r1 : gRef) (H : Heap) (locs : List Loc) (ls : Array Slot), lv_has ls 5 [(3, .int x3), (4, .int x4), (0, .ref (s0.heap.size + 383)), (1, .int x1), (2, .int x2)] → gWd s0 D aC M1 r1 ow H locs → F_Mo_element fu x1 x2 M r = F_Mo_element_L89 fu x1 x2 d x3 x4 M1 r1 → W p l e (gRm 4 91 0 0) s m ([.ref (s0.heap.size + 383), .int x1, .int x2] : List Value).toArray below meth c H locs 0 0 (gt_Q below (gQ s0 D aC ow (qI (F_Mo_element fu x1 x2 M r)) (qT (F_Mo_element fu x1 x2 M r))) s 0 0 0 0 (fun q => s0.heap.size ≤ q)) (F0 m 89 ls []) := by
    intro d
    induction d with
    | zero => intro x3 x4 M1 r1 H locs ls hl hw hF; exact absurd hF hno
    | succ d ih =>
      intro x3 x4 M1 r1 H locs ls hl hw hF
      have hF := hF.trans (F_Mo_element_L89.eq_2 _ _ _ _ _ _ _ _)
      refine lv_iload hx hb d_Mo_element_89 (lv_at hl 1 rfl) ?_
      refine lv_bipush (v := 6) hx hb d_Mo_element_91 (by decide) ?_
      refine lv_iload_n hx hb d_Mo_element_93 rfl (lv_at hl 3 rfl) ?_
      refine lv_imul hx hb d_Mo_element_94 ?_
      refine lv_aload_n hx hb d_Mo_element_95 rfl (lv_at hl 2 rfl) ?_
      refine gf_Mo_counts hx hb T hown hK hw rfl (kf_Mo_35 T) d_Mo_element_96 ?_
      refine lv_iload_n hx hb d_Mo_element_99 rfl (lv_at hl 3 rfl) ?_
      have g30 := ng hno hF
      have hF := hF.trans (gd_yes g30)
      refine ga_Mo_counts hx hb hK hw rfl g30 d_Mo_element_100 ?_
      refine lv_iadd hx hb d_Mo_element_101 ?_
      refine lv_icmp_ge hx hb d_Mo_element_102 rfl (fun h31 => ?_) (fun h31 => ?_)
      · skip
        have hF := hF.trans (if_pos h31)
        exact X133 x3 _ _ _ _ _ (gv_loc hl [0, 2, 3, 4] rfl) hw hF
      · skip
        have hF := hF.trans (if_neg h31)
        refine lv_iload_n hx hb d_Mo_element_105 rfl (lv_at hl 4 rfl) ?_
        refine lv_iconst (v := 2) hx hb d_Mo_element_106 (by decide) ?_
        refine lv_icmp_ne hx hb d_Mo_element_107 rfl (fun h32 => ?_) (fun h32 => ?_)
        · skip
          have hF := hF.trans (if_neg h32)
          exact X133 x3 _ _ _ _ _ (gv_loc hl [0, 2, 3, 4] rfl) hw hF
        · skip
          have hF := hF.trans (if_pos h32)
          refine lv_iload_n hx hb d_Mo_element_110 rfl (lv_at hl 0 rfl) ?_
          refine lv_aload_n hx hb d_Mo_element_111 rfl (lv_at hl 2 rfl) ?_
          refine lv_iload hx hb d_Mo_element_112 (lv_at hl 1 rfl) ?_
          refine gy_V B hl.1 hw (t_Mo_declares G _ _ ow fu x4 (nn hno hF)) (kd_Mo_declares T) (ki_Mo T) (km_Mo_205 T) (ka_Mo_declares T) (ks_Mo_declares T) ⟨by decide, by decide, by rfl⟩ (rv_Mo hK hw rfl) rfl (Nat.le_of_ble_eq_true rfl) ⟨by decide, by decide⟩ ⟨by decide, by decide⟩ d_Mo_element_114 (fun v M33 r33 H locs hw hp => ?_) (fun x ek M33 r33 H locs hw hE hp => gr_t B hexc hw hE (by decide) (by decide) (hF.trans (bnd_ex hp)))
          obtain ⟨v33, rfl, hp⟩ := hp
          have hF := hF.trans (bnd_ok hp)
          refine lv_if_eq hx hb d_Mo_element_117 rfl (fun h34 => ?_) (fun h34 => ?_)
          · skip
            have hF := hF.trans (if_pos h34)
            refine lv_iconst (v := 1) hx hb d_Mo_element_124 (by decide) ?_
            refine lv_iadd hx hb d_Mo_element_125 ?_
            refine lv_istore_n hx hb d_Mo_element_126 rfl hl (by decide) rfl (fun ls hl => ?_)
            refine lv_iinc (k := 1) hx hb d_Mo_element_127 hl rfl (show _ + Int32.ofInt 1 = _ + 1 from rfl) (by decide) rfl (fun ls hl => ?_)
            refine lv_goto hx hb d_Mo_element_130 rfl ?_
            exact ih (x3 + 1) (x4 + 1) _ _ _ _ _ (gv_loc hl [1, 0, 2, 3, 4] rfl) hw hF
          · skip
            have hF := hF.trans (if_neg h34)
            refine lv_iconst (v := 0) hx hb d_Mo_element_120 (by decide) ?_
            refine lv_goto hx hb d_Mo_element_121 rfl ?_
            refine lv_iadd hx hb d_Mo_element_125 ?_
            refine lv_istore_n hx hb d_Mo_element_126 rfl hl (by decide) rfl (fun ls hl => ?_)
            refine lv_iinc (k := 1) hx hb d_Mo_element_127 hl rfl (show _ + Int32.ofInt 1 = _ + 1 from rfl) (by decide) rfl (fun ls hl => ?_)
            refine lv_goto hx hb d_Mo_element_130 rfl ?_
            exact ih (x3 + 0) (x4 + 1) _ _ _ _ _ (gv_loc hl [1, 0, 2, 3, 4] rfl) hw hF
  have X83 : ∀ (x3 : Int32) (M1 : gMem) (r1 : gRef) (H : Heap) (locs : List Loc) (ls : Array Slot), lv_has ls 5 [(3, .int x3), (0, .ref (s0.heap.size + 383)), (1, .int x1), (2, .int x2)] → gWd s0 D aC M1 r1 ow H locs → F_Mo_element fu x1 x2 M r = F_Mo_element_B83 fu x1 x2 x3 M1 r1 → W p l e (gRm 4 91 0 0) s m ([.ref (s0.heap.size + 383), .int x1, .int x2] : List Value).toArray below meth c H locs 0 0 (gt_Q below (gQ s0 D aC ow (qI (F_Mo_element fu x1 x2 M r)) (qT (F_Mo_element fu x1 x2 M r))) s 0 0 0 0 (fun q => s0.heap.size ≤ q)) (F0 m 83 ls []) := by
    intro x3 M1 r1 H locs ls hl hw hF
    have hF := hF.trans (F_Mo_element_B83.eq_1 _ _ _ _ _ _)
    refine lv_bipush (v := 6) hx hb d_Mo_element_83 (by decide) ?_
    refine lv_iload_n hx hb d_Mo_element_85 rfl (lv_at hl 2 rfl) ?_
    refine lv_imul hx hb d_Mo_element_86 ?_
    refine lv_istore hx hb d_Mo_element_87 hl (by decide) rfl (fun ls hl => ?_)
    exact L89 fu x3 (6 * x1) _ _ _ _ _ (gv_loc hl [1, 0, 2, 3, 4] rfl) hw hF
  have L44 : ∀ (d : Nat) (x3 : Int32) (x4 : Int32) (M1 : gMem) (r1 : gRef) (H : Heap) (locs : List Loc) (ls : Array Slot), lv_has ls 5 [(3, .int x3), (4, .int x4), (0, .ref (s0.heap.size + 383)), (1, .int x1), (2, .int x2)] → gWd s0 D aC M1 r1 ow H locs → F_Mo_element fu x1 x2 M r = F_Mo_element_L44 fu x1 x2 d x3 x4 M1 r1 → W p l e (gRm 4 91 0 0) s m ([.ref (s0.heap.size + 383), .int x1, .int x2] : List Value).toArray below meth c H locs 0 0 (gt_Q below (gQ s0 D aC ow (qI (F_Mo_element fu x1 x2 M r)) (qT (F_Mo_element fu x1 x2 M r))) s 0 0 0 0 (fun q => s0.heap.size ≤ q)) (F0 m 44 ls []) := by
    intro d
    induction d with
    | zero => intro x3 x4 M1 r1 H locs ls hl hw hF; exact absurd hF hno
    | succ d ih =>
      intro x3 x4 M1 r1 H locs ls hl hw hF
      have hF := hF.trans (F_Mo_element_L44.eq_2 _ _ _ _ _ _ _ _)
      refine lv_iload hx hb d_Mo_element_44 (lv_at hl 1 rfl) ?_
      refine lv_aload_n hx hb d_Mo_element_46 rfl (lv_at hl 2 rfl) ?_
      refine gf_Mo_elements hx hb T hown hK hw rfl (kf_Mo_147 T) d_Mo_element_47 ?_
      refine lv_icmp_ge hx hb d_Mo_element_50 rfl (fun h35 => ?_) (fun h35 => ?_)
      · skip
        have hF := hF.trans (if_pos h35)
        exact X83 x3 _ _ _ _ _ (gv_loc hl [0, 2, 3, 4] rfl) hw hF
      · skip
        have hF := hF.trans (if_neg h35)
        refine lv_iload_n hx hb d_Mo_element_53 rfl (lv_at hl 4 rfl) ?_
        refine lv_iconst (v := 1) hx hb d_Mo_element_54 (by decide) ?_
        refine lv_icmp_ne hx hb d_Mo_element_55 rfl (fun h36 => ?_) (fun h36 => ?_)
        · skip
          have hF := hF.trans (if_neg h36)
          exact X83 x3 _ _ _ _ _ (gv_loc hl [0, 2, 3, 4] rfl) hw hF
        · skip
          have hF := hF.trans (if_pos h36)
          refine lv_iload_n hx hb d_Mo_element_58 rfl (lv_at hl 0 rfl) ?_
          refine lv_aload_n hx hb d_Mo_element_59 rfl (lv_at hl 2 rfl) ?_
          refine gf_Mo_parents hx hb T hown hK hw rfl (kf_Mo_20 T) d_Mo_element_60 ?_
          refine lv_iload hx hb d_Mo_element_63 (lv_at hl 1 rfl) ?_
          have g37 := ng hno hF
          have hF := hF.trans (gd_yes g37)
          refine ga_Mo_parents hx hb hK hw rfl g37 d_Mo_element_65 ?_
          refine lv_iload_n hx hb d_Mo_element_66 rfl (lv_at hl 3 rfl) ?_
          refine lv_icmp_ne hx hb d_Mo_element_67 rfl (fun h38 => ?_) (fun h38 => ?_)
          · skip
            have hF := hF.trans (if_neg h38)
            refine lv_iconst (v := 0) hx hb d_Mo_element_74 (by decide) ?_
            refine lv_iadd hx hb d_Mo_element_75 ?_
            refine lv_istore_n hx hb d_Mo_element_76 rfl hl (by decide) rfl (fun ls hl => ?_)
            refine lv_iinc (k := 1) hx hb d_Mo_element_77 hl rfl (show _ + Int32.ofInt 1 = _ + 1 from rfl) (by decide) rfl (fun ls hl => ?_)
            refine lv_goto hx hb d_Mo_element_80 rfl ?_
            exact ih (x3 + 0) (x4 + 1) _ _ _ _ _ (gv_loc hl [1, 0, 2, 3, 4] rfl) hw hF
          · skip
            have hF := hF.trans (if_pos h38)
            refine lv_iconst (v := 1) hx hb d_Mo_element_70 (by decide) ?_
            refine lv_goto hx hb d_Mo_element_71 rfl ?_
            refine lv_iadd hx hb d_Mo_element_75 ?_
            refine lv_istore_n hx hb d_Mo_element_76 rfl hl (by decide) rfl (fun ls hl => ?_)
            refine lv_iinc (k := 1) hx hb d_Mo_element_77 hl rfl (show _ + Int32.ofInt 1 = _ + 1 from rfl) (by decide) rfl (fun ls hl => ?_)
            refine lv_goto hx hb d_Mo_element_80 rfl ?_
            exact ih (x3 + 1) (x4 + 1) _ _ _ _ _ (gv_loc hl [1, 0, 2, 3, 4] rfl) hw hF
  have hF := F_Mo_element.eq_1 fu x1 x2 M r
  refine lv_aload_n hx hb d_Mo_element_0 rfl (lv_at hl 0 rfl) ?_
  refine lv_aload_n hx hb d_Mo_element_1 rfl (lv_at hl 0 rfl) ?_
  refine lv_iload_n hx hb d_Mo_element_2 rfl (lv_at hl 1 rfl) ?_
  refine gy_V B hl.1 hw (t_Mo_noElement G _ _ ow fu x1 (nn hno hF)) (kd_Mo_noElement T) (ki_Mo T) (km_Mo_254 T) (ka_Mo_noElement T) (ks_Mo_noElement T) ⟨by decide, by decide, by rfl⟩ (rv_Mo hK hw rfl) rfl (Nat.le_of_ble_eq_true rfl) ⟨by decide, by decide⟩ ⟨by decide, by decide⟩ d_Mo_element_3 (fun v M39 r39 H locs hw hp => ?_) (fun x ek M39 r39 H locs hw hE hp => gr_t B hexc hw hE (by decide) (by decide) (hF.trans (bnd_ex hp)))
  obtain ⟨v39, rfl, hp⟩ := hp
  have hF := hF.trans (bnd_ok hp)
  refine lv_if_eq hx hb d_Mo_element_6 rfl (fun h40 => ?_) (fun h40 => ?_)
  · skip
    have hF := hF.trans (if_pos h40)
    refine lv_iload_n hx hb d_Mo_element_13 rfl (lv_at hl 2 rfl) ?_
    refine lv_if_lt hx hb d_Mo_element_14 rfl (fun h41 => ?_) (fun h41 => ?_)
    · skip
      have hF := hF.trans (if_pos h41)
      refine lv_iconst (v := 2) hx hb d_Mo_element_22 (by decide) ?_
      refine lv_goto hx hb d_Mo_element_23 rfl ?_
      refine pf_Mo_thrown hx hb T hown hK hw rfl (kf_Mo_65 T) d_Mo_element_27 (fun H locs hw => ?_)
      refine lv_aload_n hx hb d_Mo_element_30 rfl (lv_at hl 0 rfl) ?_
      refine gf_Mo_thrown hx hb T hown hK hw rfl (kf_Mo_65 T) d_Mo_element_31 ?_
      rw [mS_same]
      refine lv_if_eq hx hb d_Mo_element_34 rfl (fun h => absurd h (by decide)) (fun _ => ?_)
      refine lv_iconst (v := 0) hx hb d_Mo_element_37 (by decide) ?_
      exact gr_i B hw d_Mo_element_38 ⟨_, rfl, hF⟩
    · skip
      have hF := hF.trans (if_neg h41)
      refine lv_iload_n hx hb d_Mo_element_17 rfl (lv_at hl 2 rfl) ?_
      refine lv_iconst (v := 4) hx hb d_Mo_element_18 (by decide) ?_
      refine lv_icmp_le hx hb d_Mo_element_19 rfl (fun h42 => ?_) (fun h42 => ?_)
      · skip
        have hF := hF.trans (if_pos h42)
        refine lv_iconst (v := 0) hx hb d_Mo_element_26 (by decide) ?_
        refine pf_Mo_thrown hx hb T hown hK hw rfl (kf_Mo_65 T) d_Mo_element_27 (fun H locs hw => ?_)
        refine lv_aload_n hx hb d_Mo_element_30 rfl (lv_at hl 0 rfl) ?_
        refine gf_Mo_thrown hx hb T hown hK hw rfl (kf_Mo_65 T) d_Mo_element_31 ?_
        rw [mS_same]
        refine lv_if_eq hx hb d_Mo_element_34 rfl (fun _ => ?_) (fun h => absurd h (by decide))
        refine lv_iconst (v := 0) hx hb d_Mo_element_39 (by decide) ?_
        refine lv_istore_n hx hb d_Mo_element_40 rfl hl (by decide) rfl (fun ls hl => ?_)
        refine lv_iconst (v := 0) hx hb d_Mo_element_41 (by decide) ?_
        refine lv_istore hx hb d_Mo_element_42 hl (by decide) rfl (fun ls hl => ?_)
        exact L44 fu 0 0 _ _ _ _ _ (gv_loc hl [1, 0, 2, 3, 4] rfl) hw hF
      · skip
        have hF := hF.trans (if_neg h42)
        refine lv_iconst (v := 2) hx hb d_Mo_element_22 (by decide) ?_
        refine lv_goto hx hb d_Mo_element_23 rfl ?_
        refine pf_Mo_thrown hx hb T hown hK hw rfl (kf_Mo_65 T) d_Mo_element_27 (fun H locs hw => ?_)
        refine lv_aload_n hx hb d_Mo_element_30 rfl (lv_at hl 0 rfl) ?_
        refine gf_Mo_thrown hx hb T hown hK hw rfl (kf_Mo_65 T) d_Mo_element_31 ?_
        rw [mS_same]
        refine lv_if_eq hx hb d_Mo_element_34 rfl (fun h => absurd h (by decide)) (fun _ => ?_)
        refine lv_iconst (v := 0) hx hb d_Mo_element_37 (by decide) ?_
        exact gr_i B hw d_Mo_element_38 ⟨_, rfl, hF⟩
  · skip
    have hF := hF.trans (if_neg h40)
    refine lv_iconst (v := 1) hx hb d_Mo_element_9 (by decide) ?_
    refine lv_goto hx hb d_Mo_element_10 rfl ?_
    refine pf_Mo_thrown hx hb T hown hK hw rfl (kf_Mo_65 T) d_Mo_element_27 (fun H locs hw => ?_)
    refine lv_aload_n hx hb d_Mo_element_30 rfl (lv_at hl 0 rfl) ?_
    refine gf_Mo_thrown hx hb T hown hK hw rfl (kf_Mo_65 T) d_Mo_element_31 ?_
    rw [mS_same]
    refine lv_if_eq hx hb d_Mo_element_34 rfl (fun h => absurd h (by decide)) (fun _ => ?_)
    refine lv_iconst (v := 0) hx hb d_Mo_element_37 (by decide) ?_
    exact gr_i B hw d_Mo_element_38 ⟨_, rfl, hF⟩
set_option maxHeartbeats 4000000 in
set_option maxRecDepth 100000 in
theorem t_Mo_name {l : Launch} {s0 : State} {D : va_G} {aC : Nat → ClassId} {a0 : Array Value} (G : gG l s0 D aC a0) (M : gMem) (r : gRef) (ow : Int64) (fu : Nat) (x1 : Int32) (x2 : Int32)  (hno : F_Mo_name fu x1 x2 M r ≠ .no) : gMet l s0 D aC y_Mo_name (Cond.code y_Mo_name b_Mo_name 3 (some .char)) 1 21 0 0 [.ref (s0.heap.size + 383), .int x1, .int x2] M r ow (qI (F_Mo_name fu x1 x2 M r)) (qT (F_Mo_name fu x1 x2 M r)) := by
  refine gm_of G (by decide) (Nat.le_of_ble_eq_true rfl) ?_
  intro p e s m below meth c ls B hexc hl hw
  have hx := B.1
  have hb := B.2.1
  have hown := B.2.2.2.2.2.1
  have T := B.2.2.2.2.2.2.1
  have hK := B.2.2.2.2.2.2.2.1
  have hF := F_Mo_name.eq_1 fu x1 x2 M r
  refine lv_aload_n hx hb d_Mo_name_0 rfl (lv_at hl 0 rfl) ?_
  refine lv_aload_n hx hb d_Mo_name_1 rfl (lv_at hl 0 rfl) ?_
  refine lv_iload_n hx hb d_Mo_name_2 rfl (lv_at hl 1 rfl) ?_
  refine gy_V B hl.1 hw (t_Mo_noElement G _ _ ow fu x1 (nn hno hF)) (kd_Mo_noElement T) (ki_Mo T) (km_Mo_254 T) (ka_Mo_noElement T) (ks_Mo_noElement T) ⟨by decide, by decide, by rfl⟩ (rv_Mo hK hw rfl) rfl (Nat.le_of_ble_eq_true rfl) ⟨by decide, by decide⟩ ⟨by decide, by decide⟩ d_Mo_name_3 (fun v M9 r9 H locs hw hp => ?_) (fun x ek M9 r9 H locs hw hE hp => gr_t B hexc hw hE (by decide) (by decide) (hF.trans (bnd_ex hp)))
  obtain ⟨v9, rfl, hp⟩ := hp
  have hF := hF.trans (bnd_ok hp)
  refine lv_if_eq hx hb d_Mo_name_6 rfl (fun h10 => ?_) (fun h10 => ?_)
  · skip
    have hF := hF.trans (if_pos h10)
    refine lv_iload_n hx hb d_Mo_name_13 rfl (lv_at hl 2 rfl) ?_
    refine lv_if_lt hx hb d_Mo_name_14 rfl (fun h11 => ?_) (fun h11 => ?_)
    · skip
      have hF := hF.trans (if_pos h11)
      refine lv_iconst (v := 1) hx hb d_Mo_name_27 (by decide) ?_
      refine lv_goto hx hb d_Mo_name_28 rfl ?_
      refine pf_Mo_thrown hx hb T hown hK hw rfl (kf_Mo_65 T) d_Mo_name_32 (fun H locs hw => ?_)
      refine lv_aload_n hx hb d_Mo_name_35 rfl (lv_at hl 0 rfl) ?_
      refine gf_Mo_thrown hx hb T hown hK hw rfl (kf_Mo_65 T) d_Mo_name_36 ?_
      rw [mS_same]
      refine lv_if_eq hx hb d_Mo_name_39 rfl (fun h => absurd h (by decide)) (fun _ => ?_)
      refine lv_iconst (v := 0) hx hb d_Mo_name_42 (by decide) ?_
      refine lv_goto hx hb d_Mo_name_43 rfl ?_
      exact gr_z B hw (by rfl) d_Mo_name_60 ⟨_, rfl, hF⟩
    · skip
      have hF := hF.trans (if_neg h11)
      refine lv_iload_n hx hb d_Mo_name_17 rfl (lv_at hl 2 rfl) ?_
      refine lv_aload_n hx hb d_Mo_name_18 rfl (lv_at hl 0 rfl) ?_
      refine gf_Mo_nameSize hx hb T hown hK hw rfl (kf_Mo_26 T) d_Mo_name_19 ?_
      refine lv_iload_n hx hb d_Mo_name_22 rfl (lv_at hl 1 rfl) ?_
      have g12 := ng hno hF
      have hF := hF.trans (gd_yes g12)
      refine ga_Mo_nameSize hx hb hK hw rfl g12 d_Mo_name_23 ?_
      refine lv_icmp_lt hx hb d_Mo_name_24 rfl (fun h13 => ?_) (fun h13 => ?_)
      · skip
        have hF := hF.trans (if_pos h13)
        refine lv_iconst (v := 0) hx hb d_Mo_name_31 (by decide) ?_
        refine pf_Mo_thrown hx hb T hown hK hw rfl (kf_Mo_65 T) d_Mo_name_32 (fun H locs hw => ?_)
        refine lv_aload_n hx hb d_Mo_name_35 rfl (lv_at hl 0 rfl) ?_
        refine gf_Mo_thrown hx hb T hown hK hw rfl (kf_Mo_65 T) d_Mo_name_36 ?_
        rw [mS_same]
        refine lv_if_eq hx hb d_Mo_name_39 rfl (fun _ => ?_) (fun h => absurd h (by decide))
        refine lv_aload_n hx hb d_Mo_name_46 rfl (lv_at hl 0 rfl) ?_
        refine gf_Mo_pool hx hb T hown hK hw rfl (kf_Mo_17 T) d_Mo_name_47 ?_
        refine lv_aload_n hx hb d_Mo_name_50 rfl (lv_at hl 0 rfl) ?_
        refine gf_Mo_nameFrom hx hb T hown hK hw rfl (kf_Mo_23 T) d_Mo_name_51 ?_
        refine lv_iload_n hx hb d_Mo_name_54 rfl (lv_at hl 1 rfl) ?_
        have g14 := ng hno hF
        have hF := hF.trans (gd_yes g14)
        refine ga_Mo_nameFrom hx hb hK hw rfl g14 d_Mo_name_55 ?_
        refine lv_iload_n hx hb d_Mo_name_56 rfl (lv_at hl 2 rfl) ?_
        refine lv_iadd hx hb d_Mo_name_57 ?_
        have g15 := ng hno hF
        have hF := hF.trans (gd_yes g15)
        refine ga_Mo_pool hx hb hK hw rfl g15 d_Mo_name_58 ?_
        refine lv_i2c (v := iC ((mS M9 100 0 0) 108 (((mS M9 100 0 0) 111 x1.toNatClampNeg) + x2).toNatClampNeg)) hx hb d_Mo_name_59 rfl ?_
        have g16 := ng hno hF
        have hF := hF.trans (gd_yes g16)
        exact gr_z B hw g16 d_Mo_name_60 ⟨_, rfl, hF⟩
      · skip
        have hF := hF.trans (if_neg h13)
        refine lv_iconst (v := 1) hx hb d_Mo_name_27 (by decide) ?_
        refine lv_goto hx hb d_Mo_name_28 rfl ?_
        refine pf_Mo_thrown hx hb T hown hK hw rfl (kf_Mo_65 T) d_Mo_name_32 (fun H locs hw => ?_)
        refine lv_aload_n hx hb d_Mo_name_35 rfl (lv_at hl 0 rfl) ?_
        refine gf_Mo_thrown hx hb T hown hK hw rfl (kf_Mo_65 T) d_Mo_name_36 ?_
        rw [mS_same]
        refine lv_if_eq hx hb d_Mo_name_39 rfl (fun h => absurd h (by decide)) (fun _ => ?_)
        refine lv_iconst (v := 0) hx hb d_Mo_name_42 (by decide) ?_
        refine lv_goto hx hb d_Mo_name_43 rfl ?_
        exact gr_z B hw (by rfl) d_Mo_name_60 ⟨_, rfl, hF⟩
  · skip
    have hF := hF.trans (if_neg h10)
    refine lv_iconst (v := 1) hx hb d_Mo_name_9 (by decide) ?_
    refine lv_goto hx hb d_Mo_name_10 rfl ?_
    refine pf_Mo_thrown hx hb T hown hK hw rfl (kf_Mo_65 T) d_Mo_name_32 (fun H locs hw => ?_)
    refine lv_aload_n hx hb d_Mo_name_35 rfl (lv_at hl 0 rfl) ?_
    refine gf_Mo_thrown hx hb T hown hK hw rfl (kf_Mo_65 T) d_Mo_name_36 ?_
    rw [mS_same]
    refine lv_if_eq hx hb d_Mo_name_39 rfl (fun h => absurd h (by decide)) (fun _ => ?_)
    refine lv_iconst (v := 0) hx hb d_Mo_name_42 (by decide) ?_
    refine lv_goto hx hb d_Mo_name_43 rfl ?_
    exact gr_z B hw (by rfl) d_Mo_name_60 ⟨_, rfl, hF⟩
set_option maxHeartbeats 4000000 in
set_option maxRecDepth 100000 in
theorem t_Mo_content {l : Launch} {s0 : State} {D : va_G} {aC : Nat → ClassId} {a0 : Array Value} (G : gG l s0 D aC a0) (M : gMem) (r : gRef) (ow : Int64) (fu : Nat) (x1 : Int32) (x2 : Int32)  (hno : F_Mo_content fu x1 x2 M r ≠ .no) : gMet l s0 D aC y_Mo_content (Cond.code y_Mo_content b_Mo_content 3 (some .char)) 1 26 0 0 [.ref (s0.heap.size + 383), .int x1, .int x2] M r ow (qI (F_Mo_content fu x1 x2 M r)) (qT (F_Mo_content fu x1 x2 M r)) := by
  refine gm_of G (by decide) (Nat.le_of_ble_eq_true rfl) ?_
  intro p e s m below meth c ls B hexc hl hw
  have hx := B.1
  have hb := B.2.1
  have hown := B.2.2.2.2.2.1
  have T := B.2.2.2.2.2.2.1
  have hK := B.2.2.2.2.2.2.2.1
  have hF := F_Mo_content.eq_1 fu x1 x2 M r
  refine lv_aload_n hx hb d_Mo_content_0 rfl (lv_at hl 0 rfl) ?_
  refine lv_aload_n hx hb d_Mo_content_1 rfl (lv_at hl 0 rfl) ?_
  refine lv_iload_n hx hb d_Mo_content_2 rfl (lv_at hl 1 rfl) ?_
  refine gy_V B hl.1 hw (t_Mo_noElement G _ _ ow fu x1 (nn hno hF)) (kd_Mo_noElement T) (ki_Mo T) (km_Mo_254 T) (ka_Mo_noElement T) (ks_Mo_noElement T) ⟨by decide, by decide, by rfl⟩ (rv_Mo hK hw rfl) rfl (Nat.le_of_ble_eq_true rfl) ⟨by decide, by decide⟩ ⟨by decide, by decide⟩ d_Mo_content_3 (fun v M8 r8 H locs hw hp => ?_) (fun x ek M8 r8 H locs hw hE hp => gr_t B hexc hw hE (by decide) (by decide) (hF.trans (bnd_ex hp)))
  obtain ⟨v8, rfl, hp⟩ := hp
  have hF := hF.trans (bnd_ok hp)
  refine lv_if_ne hx hb d_Mo_content_6 rfl (fun h9 => ?_) (fun h9 => ?_)
  · skip
    have hF := hF.trans (if_neg h9)
    refine lv_iconst (v := 1) hx hb d_Mo_content_13 (by decide) ?_
    refine lv_goto hx hb d_Mo_content_14 rfl ?_
    refine pf_Mo_thrown hx hb T hown hK hw rfl (kf_Mo_65 T) d_Mo_content_31 (fun H locs hw => ?_)
    refine lv_aload_n hx hb d_Mo_content_34 rfl (lv_at hl 0 rfl) ?_
    refine gf_Mo_thrown hx hb T hown hK hw rfl (kf_Mo_65 T) d_Mo_content_35 ?_
    rw [mS_same]
    refine lv_if_eq hx hb d_Mo_content_38 rfl (fun h => absurd h (by decide)) (fun _ => ?_)
    refine lv_iconst (v := 0) hx hb d_Mo_content_41 (by decide) ?_
    refine lv_goto hx hb d_Mo_content_42 rfl ?_
    exact gr_z B hw (by rfl) d_Mo_content_52 ⟨_, rfl, hF⟩
  · skip
    have hF := hF.trans (if_pos h9)
    refine lv_iload_n hx hb d_Mo_content_9 rfl (lv_at hl 2 rfl) ?_
    refine lv_if_ge hx hb d_Mo_content_10 rfl (fun h10 => ?_) (fun h10 => ?_)
    · skip
      have hF := hF.trans (if_pos h10)
      refine lv_aload_n hx hb d_Mo_content_17 rfl (lv_at hl 0 rfl) ?_
      refine lv_iload_n hx hb d_Mo_content_18 rfl (lv_at hl 1 rfl) ?_
      refine lv_iload_n hx hb d_Mo_content_19 rfl (lv_at hl 2 rfl) ?_
      refine gy_V B hl.1 hw (t_Mo_own G _ _ ow fu x1 x2 (nn hno hF)) (kd_Mo_own T) (ki_Mo T) (km_Mo_260 T) (ka_Mo_own T) (ks_Mo_own T) ⟨by decide, by decide, by rfl⟩ (rv_Mo hK hw rfl) rfl (Nat.le_of_ble_eq_true rfl) ⟨by decide, by decide⟩ ⟨by decide, by decide⟩ d_Mo_content_20 (fun v M11 r11 H locs hw hp => ?_) (fun x ek M11 r11 H locs hw hE hp => gr_t B hexc hw hE (by decide) (by decide) (hF.trans (bnd_ex hp)))
      obtain ⟨v11, rfl, hp⟩ := hp
      have hF := hF.trans (bnd_ok hp)
      refine lv_if_ge hx hb d_Mo_content_23 rfl (fun h12 => ?_) (fun h12 => ?_)
      · skip
        have hF := hF.trans (if_pos h12)
        refine lv_iconst (v := 0) hx hb d_Mo_content_30 (by decide) ?_
        refine pf_Mo_thrown hx hb T hown hK hw rfl (kf_Mo_65 T) d_Mo_content_31 (fun H locs hw => ?_)
        refine lv_aload_n hx hb d_Mo_content_34 rfl (lv_at hl 0 rfl) ?_
        refine gf_Mo_thrown hx hb T hown hK hw rfl (kf_Mo_65 T) d_Mo_content_35 ?_
        rw [mS_same]
        refine lv_if_eq hx hb d_Mo_content_38 rfl (fun _ => ?_) (fun h => absurd h (by decide))
        refine lv_aload_n hx hb d_Mo_content_45 rfl (lv_at hl 0 rfl) ?_
        refine lv_iload_n hx hb d_Mo_content_46 rfl (lv_at hl 1 rfl) ?_
        refine lv_iload_n hx hb d_Mo_content_47 rfl (lv_at hl 2 rfl) ?_
        refine gy_V B hl.1 hw (t_Mo_own G _ _ ow fu x1 x2 (nn hno hF)) (kd_Mo_own T) (ki_Mo T) (km_Mo_260 T) (ka_Mo_own T) (ks_Mo_own T) ⟨by decide, by decide, by rfl⟩ (rv_Mo hK hw rfl) rfl (Nat.le_of_ble_eq_true rfl) ⟨by decide, by decide⟩ ⟨by decide, by decide⟩ d_Mo_content_48 (fun v M13 r13 H locs hw hp => ?_) (fun x ek M13 r13 H locs hw hE hp => gr_t B hexc hw hE (by decide) (by decide) (hF.trans (bnd_ex hp)))
        obtain ⟨v13, rfl, hp⟩ := hp
        have hF := hF.trans (bnd_ok hp)
        refine lv_i2c (v := iC v13) hx hb d_Mo_content_51 rfl ?_
        have g14 := ng hno hF
        have hF := hF.trans (gd_yes g14)
        exact gr_z B hw g14 d_Mo_content_52 ⟨_, rfl, hF⟩
      · skip
        have hF := hF.trans (if_neg h12)
        refine lv_iconst (v := 1) hx hb d_Mo_content_26 (by decide) ?_
        refine lv_goto hx hb d_Mo_content_27 rfl ?_
        refine pf_Mo_thrown hx hb T hown hK hw rfl (kf_Mo_65 T) d_Mo_content_31 (fun H locs hw => ?_)
        refine lv_aload_n hx hb d_Mo_content_34 rfl (lv_at hl 0 rfl) ?_
        refine gf_Mo_thrown hx hb T hown hK hw rfl (kf_Mo_65 T) d_Mo_content_35 ?_
        rw [mS_same]
        refine lv_if_eq hx hb d_Mo_content_38 rfl (fun h => absurd h (by decide)) (fun _ => ?_)
        refine lv_iconst (v := 0) hx hb d_Mo_content_41 (by decide) ?_
        refine lv_goto hx hb d_Mo_content_42 rfl ?_
        exact gr_z B hw (by rfl) d_Mo_content_52 ⟨_, rfl, hF⟩
    · skip
      have hF := hF.trans (if_neg h10)
      refine lv_iconst (v := 1) hx hb d_Mo_content_13 (by decide) ?_
      refine lv_goto hx hb d_Mo_content_14 rfl ?_
      refine pf_Mo_thrown hx hb T hown hK hw rfl (kf_Mo_65 T) d_Mo_content_31 (fun H locs hw => ?_)
      refine lv_aload_n hx hb d_Mo_content_34 rfl (lv_at hl 0 rfl) ?_
      refine gf_Mo_thrown hx hb T hown hK hw rfl (kf_Mo_65 T) d_Mo_content_35 ?_
      rw [mS_same]
      refine lv_if_eq hx hb d_Mo_content_38 rfl (fun h => absurd h (by decide)) (fun _ => ?_)
      refine lv_iconst (v := 0) hx hb d_Mo_content_41 (by decide) ?_
      refine lv_goto hx hb d_Mo_content_42 rfl ?_
      exact gr_z B hw (by rfl) d_Mo_content_52 ⟨_, rfl, hF⟩
set_option maxHeartbeats 4000000 in
set_option maxRecDepth 100000 in
theorem t_Mo_space {l : Launch} {s0 : State} {D : va_G} {aC : Nat → ClassId} {a0 : Array Value} (G : gG l s0 D aC a0) (M : gMem) (r : gRef) (ow : Int64) (fu : Nat) (x1 : Int32) (x2 : Int32)  (hno : F_Mo_space fu x1 x2 M r ≠ .no) : gMet l s0 D aC y_Mo_space (Cond.code y_Mo_space b_Mo_space 4 (some .char)) 4 91 0 0 [.ref (s0.heap.size + 383), .int x1, .int x2] M r ow (qI (F_Mo_space fu x1 x2 M r)) (qT (F_Mo_space fu x1 x2 M r)) := by
  refine gm_of G (by decide) (Nat.le_of_ble_eq_true rfl) ?_
  intro p e s m below meth c ls B hexc hl hw
  have hx := B.1
  have hb := B.2.1
  have hown := B.2.2.2.2.2.1
  have T := B.2.2.2.2.2.2.1
  have hK := B.2.2.2.2.2.2.2.1
  have hF := F_Mo_space.eq_1 fu x1 x2 M r
  refine lv_aload_n hx hb d_Mo_space_0 rfl (lv_at hl 0 rfl) ?_
  refine lv_aload_n hx hb d_Mo_space_1 rfl (lv_at hl 0 rfl) ?_
  refine lv_iload_n hx hb d_Mo_space_2 rfl (lv_at hl 1 rfl) ?_
  refine gy_V B hl.1 hw (t_Mo_noElement G _ _ ow fu x1 (nn hno hF)) (kd_Mo_noElement T) (ki_Mo T) (km_Mo_254 T) (ka_Mo_noElement T) (ks_Mo_noElement T) ⟨by decide, by decide, by rfl⟩ (rv_Mo hK hw rfl) rfl (Nat.le_of_ble_eq_true rfl) ⟨by decide, by decide⟩ ⟨by decide, by decide⟩ d_Mo_space_3 (fun v M11 r11 H locs hw hp => ?_) (fun x ek M11 r11 H locs hw hE hp => gr_t B hexc hw hE (by decide) (by decide) (hF.trans (bnd_ex hp)))
  obtain ⟨v11, rfl, hp⟩ := hp
  have hF := hF.trans (bnd_ok hp)
  refine lv_if_eq hx hb d_Mo_space_6 rfl (fun h12 => ?_) (fun h12 => ?_)
  · skip
    have hF := hF.trans (if_pos h12)
    refine lv_iconst (v := 0) hx hb d_Mo_space_13 (by decide) ?_
    refine pf_Mo_thrown hx hb T hown hK hw rfl (kf_Mo_65 T) d_Mo_space_14 (fun H locs hw => ?_)
    refine lv_aload_n hx hb d_Mo_space_17 rfl (lv_at hl 0 rfl) ?_
    refine gf_Mo_thrown hx hb T hown hK hw rfl (kf_Mo_65 T) d_Mo_space_18 ?_
    rw [mS_same]
    refine lv_if_eq hx hb d_Mo_space_21 rfl (fun _ => ?_) (fun h => absurd h (by decide))
    refine lv_aload_n hx hb d_Mo_space_26 rfl (lv_at hl 0 rfl) ?_
    refine lv_iload_n hx hb d_Mo_space_27 rfl (lv_at hl 1 rfl) ?_
    refine gy_V B hl.1 hw (t_Mo_elementSpace G _ _ ow fu x1 (nn hno hF)) (kd_Mo_elementSpace T) (ki_Mo T) (km_Mo_257 T) (ka_Mo_elementSpace T) (ks_Mo_elementSpace T) ⟨by decide, by decide, by rfl⟩ (rv_Mo hK hw rfl) rfl (Nat.le_of_ble_eq_true rfl) ⟨by decide, by decide⟩ ⟨by decide, by decide⟩ d_Mo_space_28 (fun v M13 r13 H locs hw hp => ?_) (fun x ek M13 r13 H locs hw hE hp => gr_t B hexc hw hE (by decide) (by decide) (hF.trans (bnd_ex hp)))
    obtain ⟨v13, rfl, hp⟩ := hp
    have hF := hF.trans (bnd_ok hp)
    refine lv_istore_n hx hb d_Mo_space_31 rfl hl (by decide) rfl (fun ls hl => ?_)
    refine lv_aload_n hx hb d_Mo_space_32 rfl (lv_at hl 1 rfl) ?_
    refine lv_iload_n hx hb d_Mo_space_33 rfl (lv_at hl 0 rfl) ?_
    refine lv_if_lt hx hb d_Mo_space_34 rfl (fun h14 => ?_) (fun h14 => ?_)
    · skip
      have hF := hF.trans (if_pos h14)
      refine lv_iconst (v := 1) hx hb d_Mo_space_51 (by decide) ?_
      refine lv_goto hx hb d_Mo_space_52 rfl ?_
      refine pf_Mo_thrown hx hb T hown hK hw rfl (kf_Mo_65 T) d_Mo_space_56 (fun H locs hw => ?_)
      refine lv_aload_n hx hb d_Mo_space_59 rfl (lv_at hl 1 rfl) ?_
      refine gf_Mo_thrown hx hb T hown hK hw rfl (kf_Mo_65 T) d_Mo_space_60 ?_
      rw [mS_same]
      refine lv_if_eq hx hb d_Mo_space_63 rfl (fun h => absurd h (by decide)) (fun _ => ?_)
      refine lv_iconst (v := 0) hx hb d_Mo_space_66 (by decide) ?_
      refine lv_goto hx hb d_Mo_space_67 rfl ?_
      exact gr_z B hw (by rfl) d_Mo_space_84 ⟨_, rfl, hF⟩
    · skip
      have hF := hF.trans (if_neg h14)
      refine lv_iload_n hx hb d_Mo_space_37 rfl (lv_at hl 3 rfl) ?_
      refine lv_if_lt hx hb d_Mo_space_38 rfl (fun h15 => ?_) (fun h15 => ?_)
      · skip
        have hF := hF.trans (if_pos h15)
        refine lv_iconst (v := 1) hx hb d_Mo_space_51 (by decide) ?_
        refine lv_goto hx hb d_Mo_space_52 rfl ?_
        refine pf_Mo_thrown hx hb T hown hK hw rfl (kf_Mo_65 T) d_Mo_space_56 (fun H locs hw => ?_)
        refine lv_aload_n hx hb d_Mo_space_59 rfl (lv_at hl 1 rfl) ?_
        refine gf_Mo_thrown hx hb T hown hK hw rfl (kf_Mo_65 T) d_Mo_space_60 ?_
        rw [mS_same]
        refine lv_if_eq hx hb d_Mo_space_63 rfl (fun h => absurd h (by decide)) (fun _ => ?_)
        refine lv_iconst (v := 0) hx hb d_Mo_space_66 (by decide) ?_
        refine lv_goto hx hb d_Mo_space_67 rfl ?_
        exact gr_z B hw (by rfl) d_Mo_space_84 ⟨_, rfl, hF⟩
      · skip
        have hF := hF.trans (if_neg h15)
        refine lv_iload_n hx hb d_Mo_space_41 rfl (lv_at hl 3 rfl) ?_
        refine lv_aload_n hx hb d_Mo_space_42 rfl (lv_at hl 1 rfl) ?_
        refine gf_Mo_valueSize hx hb T hown hK hw rfl (kf_Mo_53 T) d_Mo_space_43 ?_
        refine lv_iload_n hx hb d_Mo_space_46 rfl (lv_at hl 0 rfl) ?_
        have g16 := ng hno hF
        have hF := hF.trans (gd_yes g16)
        refine ga_Mo_valueSize hx hb hK hw rfl g16 d_Mo_space_47 ?_
        refine lv_icmp_lt hx hb d_Mo_space_48 rfl (fun h17 => ?_) (fun h17 => ?_)
        · skip
          have hF := hF.trans (if_pos h17)
          refine lv_iconst (v := 0) hx hb d_Mo_space_55 (by decide) ?_
          refine pf_Mo_thrown hx hb T hown hK hw rfl (kf_Mo_65 T) d_Mo_space_56 (fun H locs hw => ?_)
          refine lv_aload_n hx hb d_Mo_space_59 rfl (lv_at hl 1 rfl) ?_
          refine gf_Mo_thrown hx hb T hown hK hw rfl (kf_Mo_65 T) d_Mo_space_60 ?_
          rw [mS_same]
          refine lv_if_eq hx hb d_Mo_space_63 rfl (fun _ => ?_) (fun h => absurd h (by decide))
          refine lv_aload_n hx hb d_Mo_space_70 rfl (lv_at hl 1 rfl) ?_
          refine gf_Mo_pool hx hb T hown hK hw rfl (kf_Mo_17 T) d_Mo_space_71 ?_
          refine lv_aload_n hx hb d_Mo_space_74 rfl (lv_at hl 1 rfl) ?_
          refine gf_Mo_valueFrom hx hb T hown hK hw rfl (kf_Mo_50 T) d_Mo_space_75 ?_
          refine lv_iload_n hx hb d_Mo_space_78 rfl (lv_at hl 0 rfl) ?_
          have g18 := ng hno hF
          have hF := hF.trans (gd_yes g18)
          refine ga_Mo_valueFrom hx hb hK hw rfl g18 d_Mo_space_79 ?_
          refine lv_iload_n hx hb d_Mo_space_80 rfl (lv_at hl 3 rfl) ?_
          refine lv_iadd hx hb d_Mo_space_81 ?_
          have g19 := ng hno hF
          have hF := hF.trans (gd_yes g19)
          refine ga_Mo_pool hx hb hK hw rfl g19 d_Mo_space_82 ?_
          refine lv_i2c (v := iC ((mS M13 100 0 0) 108 (((mS M13 100 0 0) 120 v13.toNatClampNeg) + x2).toNatClampNeg)) hx hb d_Mo_space_83 rfl ?_
          have g20 := ng hno hF
          have hF := hF.trans (gd_yes g20)
          exact gr_z B hw g20 d_Mo_space_84 ⟨_, rfl, hF⟩
        · skip
          have hF := hF.trans (if_neg h17)
          refine lv_iconst (v := 1) hx hb d_Mo_space_51 (by decide) ?_
          refine lv_goto hx hb d_Mo_space_52 rfl ?_
          refine pf_Mo_thrown hx hb T hown hK hw rfl (kf_Mo_65 T) d_Mo_space_56 (fun H locs hw => ?_)
          refine lv_aload_n hx hb d_Mo_space_59 rfl (lv_at hl 1 rfl) ?_
          refine gf_Mo_thrown hx hb T hown hK hw rfl (kf_Mo_65 T) d_Mo_space_60 ?_
          rw [mS_same]
          refine lv_if_eq hx hb d_Mo_space_63 rfl (fun h => absurd h (by decide)) (fun _ => ?_)
          refine lv_iconst (v := 0) hx hb d_Mo_space_66 (by decide) ?_
          refine lv_goto hx hb d_Mo_space_67 rfl ?_
          exact gr_z B hw (by rfl) d_Mo_space_84 ⟨_, rfl, hF⟩
  · skip
    have hF := hF.trans (if_neg h12)
    refine lv_iconst (v := 1) hx hb d_Mo_space_9 (by decide) ?_
    refine lv_goto hx hb d_Mo_space_10 rfl ?_
    refine pf_Mo_thrown hx hb T hown hK hw rfl (kf_Mo_65 T) d_Mo_space_14 (fun H locs hw => ?_)
    refine lv_aload_n hx hb d_Mo_space_17 rfl (lv_at hl 0 rfl) ?_
    refine gf_Mo_thrown hx hb T hown hK hw rfl (kf_Mo_65 T) d_Mo_space_18 ?_
    rw [mS_same]
    refine lv_if_eq hx hb d_Mo_space_21 rfl (fun h => absurd h (by decide)) (fun _ => ?_)
    refine lv_iconst (v := 0) hx hb d_Mo_space_24 (by decide) ?_
    exact gr_z B hw (by rfl) d_Mo_space_25 ⟨_, rfl, hF⟩
