/-! The contracts of methods, as their functions say -/
set_option maxHeartbeats 4000000 in
set_option maxRecDepth 100000 in
theorem t_Mo_starts {l : Launch} {s0 : State} {D : va_G} {aC : Nat → ClassId} {a0 : Array Value} (G : gG l s0 D aC a0) (M : gMem) (r : gRef) (ow : Int64) (fu : Nat) (x1 : Int32)  (hno : F_Mo_starts fu x1 M r ≠ .no) : gMet l s0 D aC y_Mo_starts (Cond.code y_Mo_starts b_Mo_starts 2 (some .boolean)) 0 0 0 0 [.ref (s0.heap.size + 383), .int x1] M r ow (qI (F_Mo_starts fu x1 M r)) (qT (F_Mo_starts fu x1 M r)) := by
  refine gm_of G (by decide) (Nat.le_of_ble_eq_true rfl) ?_
  intro p e s m below meth c ls B hexc hl hw
  have hx := B.1
  have hb := B.2.1
  have hown := B.2.2.2.2.2.1
  have T := B.2.2.2.2.2.2.1
  have hK := B.2.2.2.2.2.2.2.1
  have hF := F_Mo_starts.eq_1 fu x1 M r
  refine lv_iload_n hx hb d_Mo_starts_0 rfl (lv_at hl 1 rfl) ?_
  refine lv_bipush (v := 97) hx hb d_Mo_starts_1 (by decide) ?_
  refine lv_icmp_lt hx hb d_Mo_starts_3 rfl (fun h11 => ?_) (fun h11 => ?_)
  · skip
    have hF := hF.trans (if_pos h11)
    refine lv_iload_n hx hb d_Mo_starts_12 rfl (lv_at hl 1 rfl) ?_
    refine lv_bipush (v := 65) hx hb d_Mo_starts_13 (by decide) ?_
    refine lv_icmp_lt hx hb d_Mo_starts_15 rfl (fun h12 => ?_) (fun h12 => ?_)
    · skip
      have hF := hF.trans (if_pos h12)
      refine lv_iload_n hx hb d_Mo_starts_24 rfl (lv_at hl 1 rfl) ?_
      refine lv_bipush (v := 95) hx hb d_Mo_starts_25 (by decide) ?_
      refine lv_icmp_ne hx hb d_Mo_starts_27 rfl (fun h13 => ?_) (fun h13 => ?_)
      · skip
        have hF := hF.trans (if_neg h13)
        refine lv_iconst (v := 0) hx hb d_Mo_starts_34 (by decide) ?_
        exact gr_z B hw (by rfl) d_Mo_starts_35 ⟨_, rfl, hF⟩
      · skip
        have hF := hF.trans (if_pos h13)
        refine lv_iconst (v := 1) hx hb d_Mo_starts_30 (by decide) ?_
        refine lv_goto hx hb d_Mo_starts_31 rfl ?_
        exact gr_z B hw (by rfl) d_Mo_starts_35 ⟨_, rfl, hF⟩
    · skip
      have hF := hF.trans (if_neg h12)
      refine lv_iload_n hx hb d_Mo_starts_18 rfl (lv_at hl 1 rfl) ?_
      refine lv_bipush (v := 90) hx hb d_Mo_starts_19 (by decide) ?_
      refine lv_icmp_le hx hb d_Mo_starts_21 rfl (fun h14 => ?_) (fun h14 => ?_)
      · skip
        have hF := hF.trans (if_pos h14)
        refine lv_iconst (v := 1) hx hb d_Mo_starts_30 (by decide) ?_
        refine lv_goto hx hb d_Mo_starts_31 rfl ?_
        exact gr_z B hw (by rfl) d_Mo_starts_35 ⟨_, rfl, hF⟩
      · skip
        have hF := hF.trans (if_neg h14)
        refine lv_iload_n hx hb d_Mo_starts_24 rfl (lv_at hl 1 rfl) ?_
        refine lv_bipush (v := 95) hx hb d_Mo_starts_25 (by decide) ?_
        refine lv_icmp_ne hx hb d_Mo_starts_27 rfl (fun h15 => ?_) (fun h15 => ?_)
        · skip
          have hF := hF.trans (if_neg h15)
          refine lv_iconst (v := 0) hx hb d_Mo_starts_34 (by decide) ?_
          exact gr_z B hw (by rfl) d_Mo_starts_35 ⟨_, rfl, hF⟩
        · skip
          have hF := hF.trans (if_pos h15)
          refine lv_iconst (v := 1) hx hb d_Mo_starts_30 (by decide) ?_
          refine lv_goto hx hb d_Mo_starts_31 rfl ?_
          exact gr_z B hw (by rfl) d_Mo_starts_35 ⟨_, rfl, hF⟩
  · skip
    have hF := hF.trans (if_neg h11)
    refine lv_iload_n hx hb d_Mo_starts_6 rfl (lv_at hl 1 rfl) ?_
    refine lv_bipush (v := 122) hx hb d_Mo_starts_7 (by decide) ?_
    refine lv_icmp_le hx hb d_Mo_starts_9 rfl (fun h16 => ?_) (fun h16 => ?_)
    · skip
      have hF := hF.trans (if_pos h16)
      refine lv_iconst (v := 1) hx hb d_Mo_starts_30 (by decide) ?_
      refine lv_goto hx hb d_Mo_starts_31 rfl ?_
      exact gr_z B hw (by rfl) d_Mo_starts_35 ⟨_, rfl, hF⟩
    · skip
      have hF := hF.trans (if_neg h16)
      refine lv_iload_n hx hb d_Mo_starts_12 rfl (lv_at hl 1 rfl) ?_
      refine lv_bipush (v := 65) hx hb d_Mo_starts_13 (by decide) ?_
      refine lv_icmp_lt hx hb d_Mo_starts_15 rfl (fun h17 => ?_) (fun h17 => ?_)
      · skip
        have hF := hF.trans (if_pos h17)
        refine lv_iload_n hx hb d_Mo_starts_24 rfl (lv_at hl 1 rfl) ?_
        refine lv_bipush (v := 95) hx hb d_Mo_starts_25 (by decide) ?_
        refine lv_icmp_ne hx hb d_Mo_starts_27 rfl (fun h18 => ?_) (fun h18 => ?_)
        · skip
          have hF := hF.trans (if_neg h18)
          refine lv_iconst (v := 0) hx hb d_Mo_starts_34 (by decide) ?_
          exact gr_z B hw (by rfl) d_Mo_starts_35 ⟨_, rfl, hF⟩
        · skip
          have hF := hF.trans (if_pos h18)
          refine lv_iconst (v := 1) hx hb d_Mo_starts_30 (by decide) ?_
          refine lv_goto hx hb d_Mo_starts_31 rfl ?_
          exact gr_z B hw (by rfl) d_Mo_starts_35 ⟨_, rfl, hF⟩
      · skip
        have hF := hF.trans (if_neg h17)
        refine lv_iload_n hx hb d_Mo_starts_18 rfl (lv_at hl 1 rfl) ?_
        refine lv_bipush (v := 90) hx hb d_Mo_starts_19 (by decide) ?_
        refine lv_icmp_le hx hb d_Mo_starts_21 rfl (fun h19 => ?_) (fun h19 => ?_)
        · skip
          have hF := hF.trans (if_pos h19)
          refine lv_iconst (v := 1) hx hb d_Mo_starts_30 (by decide) ?_
          refine lv_goto hx hb d_Mo_starts_31 rfl ?_
          exact gr_z B hw (by rfl) d_Mo_starts_35 ⟨_, rfl, hF⟩
        · skip
          have hF := hF.trans (if_neg h19)
          refine lv_iload_n hx hb d_Mo_starts_24 rfl (lv_at hl 1 rfl) ?_
          refine lv_bipush (v := 95) hx hb d_Mo_starts_25 (by decide) ?_
          refine lv_icmp_ne hx hb d_Mo_starts_27 rfl (fun h20 => ?_) (fun h20 => ?_)
          · skip
            have hF := hF.trans (if_neg h20)
            refine lv_iconst (v := 0) hx hb d_Mo_starts_34 (by decide) ?_
            exact gr_z B hw (by rfl) d_Mo_starts_35 ⟨_, rfl, hF⟩
          · skip
            have hF := hF.trans (if_pos h20)
            refine lv_iconst (v := 1) hx hb d_Mo_starts_30 (by decide) ?_
            refine lv_goto hx hb d_Mo_starts_31 rfl ?_
            exact gr_z B hw (by rfl) d_Mo_starts_35 ⟨_, rfl, hF⟩
set_option maxHeartbeats 4000000 in
set_option maxRecDepth 100000 in
theorem t_Mo_goesOn {l : Launch} {s0 : State} {D : va_G} {aC : Nat → ClassId} {a0 : Array Value} (G : gG l s0 D aC a0) (M : gMem) (r : gRef) (ow : Int64) (fu : Nat) (x1 : Int32)  (hno : F_Mo_goesOn fu x1 M r ≠ .no) : gMet l s0 D aC y_Mo_goesOn (Cond.code y_Mo_goesOn b_Mo_goesOn 2 (some .boolean)) 1 21 0 0 [.ref (s0.heap.size + 383), .int x1] M r ow (qI (F_Mo_goesOn fu x1 M r)) (qT (F_Mo_goesOn fu x1 M r)) := by
  refine gm_of G (by decide) (Nat.le_of_ble_eq_true rfl) ?_
  intro p e s m below meth c ls B hexc hl hw
  have hx := B.1
  have hb := B.2.1
  have hown := B.2.2.2.2.2.1
  have T := B.2.2.2.2.2.2.1
  have hK := B.2.2.2.2.2.2.2.1
  have hF := F_Mo_goesOn.eq_1 fu x1 M r
  refine lv_aload_n hx hb d_Mo_goesOn_0 rfl (lv_at hl 0 rfl) ?_
  refine lv_iload_n hx hb d_Mo_goesOn_1 rfl (lv_at hl 1 rfl) ?_
  refine gy_V B hl.1 hw (t_Mo_starts G _ _ ow fu x1 (nn hno hF)) (kd_Mo_starts T) (ki_Mo T) (km_Mo_68 T) (ka_Mo_starts T) (ks_Mo_starts T) ⟨by decide, by decide, by rfl⟩ (rv_Mo hK hw rfl) rfl (Nat.le_of_ble_eq_true rfl) ⟨by decide, by decide⟩ ⟨by decide, by decide⟩ d_Mo_goesOn_2 (fun v M9 r9 H locs hw hp => ?_) (fun x ek M9 r9 H locs hw hE hp => gr_t B hexc hw hE (by decide) (by decide) (hF.trans (bnd_ex hp)))
  obtain ⟨v9, rfl, hp⟩ := hp
  have hF := hF.trans (bnd_ok hp)
  refine lv_if_ne hx hb d_Mo_goesOn_5 rfl (fun h10 => ?_) (fun h10 => ?_)
  · skip
    have hF := hF.trans (if_neg h10)
    refine lv_iconst (v := 1) hx hb d_Mo_goesOn_32 (by decide) ?_
    refine lv_goto hx hb d_Mo_goesOn_33 rfl ?_
    exact gr_z B hw (by rfl) d_Mo_goesOn_37 ⟨_, rfl, hF⟩
  · skip
    have hF := hF.trans (if_pos h10)
    refine lv_iload_n hx hb d_Mo_goesOn_8 rfl (lv_at hl 1 rfl) ?_
    refine lv_bipush (v := 48) hx hb d_Mo_goesOn_9 (by decide) ?_
    refine lv_icmp_lt hx hb d_Mo_goesOn_11 rfl (fun h11 => ?_) (fun h11 => ?_)
    · skip
      have hF := hF.trans (if_pos h11)
      refine lv_iload_n hx hb d_Mo_goesOn_20 rfl (lv_at hl 1 rfl) ?_
      refine lv_bipush (v := 45) hx hb d_Mo_goesOn_21 (by decide) ?_
      refine lv_icmp_eq hx hb d_Mo_goesOn_23 rfl (fun h12 => ?_) (fun h12 => ?_)
      · skip
        have hF := hF.trans (if_pos h12)
        refine lv_iconst (v := 1) hx hb d_Mo_goesOn_32 (by decide) ?_
        refine lv_goto hx hb d_Mo_goesOn_33 rfl ?_
        exact gr_z B hw (by rfl) d_Mo_goesOn_37 ⟨_, rfl, hF⟩
      · skip
        have hF := hF.trans (if_neg h12)
        refine lv_iload_n hx hb d_Mo_goesOn_26 rfl (lv_at hl 1 rfl) ?_
        refine lv_bipush (v := 46) hx hb d_Mo_goesOn_27 (by decide) ?_
        refine lv_icmp_ne hx hb d_Mo_goesOn_29 rfl (fun h13 => ?_) (fun h13 => ?_)
        · skip
          have hF := hF.trans (if_neg h13)
          refine lv_iconst (v := 0) hx hb d_Mo_goesOn_36 (by decide) ?_
          exact gr_z B hw (by rfl) d_Mo_goesOn_37 ⟨_, rfl, hF⟩
        · skip
          have hF := hF.trans (if_pos h13)
          refine lv_iconst (v := 1) hx hb d_Mo_goesOn_32 (by decide) ?_
          refine lv_goto hx hb d_Mo_goesOn_33 rfl ?_
          exact gr_z B hw (by rfl) d_Mo_goesOn_37 ⟨_, rfl, hF⟩
    · skip
      have hF := hF.trans (if_neg h11)
      refine lv_iload_n hx hb d_Mo_goesOn_14 rfl (lv_at hl 1 rfl) ?_
      refine lv_bipush (v := 57) hx hb d_Mo_goesOn_15 (by decide) ?_
      refine lv_icmp_le hx hb d_Mo_goesOn_17 rfl (fun h14 => ?_) (fun h14 => ?_)
      · skip
        have hF := hF.trans (if_pos h14)
        refine lv_iconst (v := 1) hx hb d_Mo_goesOn_32 (by decide) ?_
        refine lv_goto hx hb d_Mo_goesOn_33 rfl ?_
        exact gr_z B hw (by rfl) d_Mo_goesOn_37 ⟨_, rfl, hF⟩
      · skip
        have hF := hF.trans (if_neg h14)
        refine lv_iload_n hx hb d_Mo_goesOn_20 rfl (lv_at hl 1 rfl) ?_
        refine lv_bipush (v := 45) hx hb d_Mo_goesOn_21 (by decide) ?_
        refine lv_icmp_eq hx hb d_Mo_goesOn_23 rfl (fun h15 => ?_) (fun h15 => ?_)
        · skip
          have hF := hF.trans (if_pos h15)
          refine lv_iconst (v := 1) hx hb d_Mo_goesOn_32 (by decide) ?_
          refine lv_goto hx hb d_Mo_goesOn_33 rfl ?_
          exact gr_z B hw (by rfl) d_Mo_goesOn_37 ⟨_, rfl, hF⟩
        · skip
          have hF := hF.trans (if_neg h15)
          refine lv_iload_n hx hb d_Mo_goesOn_26 rfl (lv_at hl 1 rfl) ?_
          refine lv_bipush (v := 46) hx hb d_Mo_goesOn_27 (by decide) ?_
          refine lv_icmp_ne hx hb d_Mo_goesOn_29 rfl (fun h16 => ?_) (fun h16 => ?_)
          · skip
            have hF := hF.trans (if_neg h16)
            refine lv_iconst (v := 0) hx hb d_Mo_goesOn_36 (by decide) ?_
            exact gr_z B hw (by rfl) d_Mo_goesOn_37 ⟨_, rfl, hF⟩
          · skip
            have hF := hF.trans (if_pos h16)
            refine lv_iconst (v := 1) hx hb d_Mo_goesOn_32 (by decide) ?_
            refine lv_goto hx hb d_Mo_goesOn_33 rfl ?_
            exact gr_z B hw (by rfl) d_Mo_goesOn_37 ⟨_, rfl, hF⟩
set_option maxHeartbeats 4000000 in
set_option maxRecDepth 100000 in
theorem t_Mo_here {l : Launch} {s0 : State} {D : va_G} {aC : Nat → ClassId} {a0 : Array Value} (G : gG l s0 D aC a0) (M : gMem) (r : gRef) (ow : Int64) (fu : Nat) (x1 : Int32)  (hno : F_Mo_here fu x1 M r ≠ .no) : gMet l s0 D aC y_Mo_here (Cond.code y_Mo_here b_Mo_here 2 (some .int)) 0 0 0 0 [.ref (s0.heap.size + 383), .int x1] M r ow (qI (F_Mo_here fu x1 M r)) (qT (F_Mo_here fu x1 M r)) := by
  refine gm_of G (by decide) (Nat.le_of_ble_eq_true rfl) ?_
  intro p e s m below meth c ls B hexc hl hw
  have hx := B.1
  have hb := B.2.1
  have hown := B.2.2.2.2.2.1
  have T := B.2.2.2.2.2.2.1
  have hK := B.2.2.2.2.2.2.2.1
  have hF := F_Mo_here.eq_1 fu x1 M r
  refine lv_iload_n hx hb d_Mo_here_0 rfl (lv_at hl 1 rfl) ?_
  refine lv_aload_n hx hb d_Mo_here_1 rfl (lv_at hl 0 rfl) ?_
  refine gf_Mo_typed hx hb T hown hK hw rfl (kf_Mo_72 T) d_Mo_here_2 ?_
  refine lv_icmp_ge hx hb d_Mo_here_5 rfl (fun h3 => ?_) (fun h3 => ?_)
  · skip
    have hF := hF.trans (if_pos h3)
    refine lv_iconst (v := 0) hx hb d_Mo_here_17 (by decide) ?_
    exact gr_i B hw d_Mo_here_18 ⟨_, rfl, hF⟩
  · skip
    have hF := hF.trans (if_neg h3)
    refine lv_aload_n hx hb d_Mo_here_8 rfl (lv_at hl 0 rfl) ?_
    refine gf_Mo_text hx hb T hown hK hw rfl (kf_Mo_7 T) d_Mo_here_9 ?_
    refine lv_iload_n hx hb d_Mo_here_12 rfl (lv_at hl 1 rfl) ?_
    have g4 := ng hno hF
    have hF := hF.trans (gd_yes g4)
    refine ga_Mo_text hx hb hK hw rfl g4 d_Mo_here_13 ?_
    refine lv_goto hx hb d_Mo_here_14 rfl ?_
    exact gr_i B hw d_Mo_here_18 ⟨_, rfl, hF⟩
set_option maxHeartbeats 4000000 in
set_option maxRecDepth 100000 in
theorem t_Mo_blank {l : Launch} {s0 : State} {D : va_G} {aC : Nat → ClassId} {a0 : Array Value} (G : gG l s0 D aC a0) (M : gMem) (r : gRef) (ow : Int64) (fu : Nat) (x1 : Int32)  (hno : F_Mo_blank fu x1 M r ≠ .no) : gMet l s0 D aC y_Mo_blank (Cond.code y_Mo_blank b_Mo_blank 2 (some .boolean)) 0 0 0 0 [.ref (s0.heap.size + 383), .int x1] M r ow (qI (F_Mo_blank fu x1 M r)) (qT (F_Mo_blank fu x1 M r)) := by
  refine gm_of G (by decide) (Nat.le_of_ble_eq_true rfl) ?_
  intro p e s m below meth c ls B hexc hl hw
  have hx := B.1
  have hb := B.2.1
  have hown := B.2.2.2.2.2.1
  have T := B.2.2.2.2.2.2.1
  have hK := B.2.2.2.2.2.2.2.1
  have hF := F_Mo_blank.eq_1 fu x1 M r
  refine lv_iload_n hx hb d_Mo_blank_0 rfl (lv_at hl 1 rfl) ?_
  refine lv_bipush (v := 32) hx hb d_Mo_blank_1 (by decide) ?_
  refine lv_icmp_eq hx hb d_Mo_blank_3 rfl (fun h3 => ?_) (fun h3 => ?_)
  · skip
    have hF := hF.trans (if_pos h3)
    refine lv_iconst (v := 1) hx hb d_Mo_blank_12 (by decide) ?_
    refine lv_goto hx hb d_Mo_blank_13 rfl ?_
    exact gr_z B hw (by rfl) d_Mo_blank_17 ⟨_, rfl, hF⟩
  · skip
    have hF := hF.trans (if_neg h3)
    refine lv_iload_n hx hb d_Mo_blank_6 rfl (lv_at hl 1 rfl) ?_
    refine lv_bipush (v := 10) hx hb d_Mo_blank_7 (by decide) ?_
    refine lv_icmp_ne hx hb d_Mo_blank_9 rfl (fun h4 => ?_) (fun h4 => ?_)
    · skip
      have hF := hF.trans (if_neg h4)
      refine lv_iconst (v := 0) hx hb d_Mo_blank_16 (by decide) ?_
      exact gr_z B hw (by rfl) d_Mo_blank_17 ⟨_, rfl, hF⟩
    · skip
      have hF := hF.trans (if_pos h4)
      refine lv_iconst (v := 1) hx hb d_Mo_blank_12 (by decide) ?_
      refine lv_goto hx hb d_Mo_blank_13 rfl ?_
      exact gr_z B hw (by rfl) d_Mo_blank_17 ⟨_, rfl, hF⟩
set_option maxHeartbeats 4000000 in
set_option maxRecDepth 100000 in
theorem t_Mo_type {l : Launch} {s0 : State} {D : va_G} {aC : Nat → ClassId} {a0 : Array Value} (G : gG l s0 D aC a0) (M : gMem) (r : gRef) (ow : Int64) (fu : Nat) (x1 : Int32)  (hno : F_Mo_type fu x1 M r ≠ .no) : gMet l s0 D aC y_Mo_type (Cond.code y_Mo_type b_Mo_type 2 (some .int)) 1 21 0 0 [.ref (s0.heap.size + 383), .int x1] M r ow (qI (F_Mo_type fu x1 M r)) (qT (F_Mo_type fu x1 M r)) := by
  refine gm_of G (by decide) (Nat.le_of_ble_eq_true rfl) ?_
  intro p e s m below meth c ls B hexc hl hw
  have hx := B.1
  have hb := B.2.1
  have hown := B.2.2.2.2.2.1
  have T := B.2.2.2.2.2.2.1
  have hK := B.2.2.2.2.2.2.2.1
  have hF := F_Mo_type.eq_1 fu x1 M r
  refine lv_aload_n hx hb d_Mo_type_0 rfl (lv_at hl 0 rfl) ?_
  refine lv_aload_n hx hb d_Mo_type_1 rfl (lv_at hl 0 rfl) ?_
  refine lv_iload_n hx hb d_Mo_type_2 rfl (lv_at hl 1 rfl) ?_
  refine gy_V B hl.1 hw (t_Mo_isCharacter G _ _ ow fu x1 (nn hno hF)) (kd_Mo_isCharacter T) (ki_Mo T) (km_Mo_75 T) (ka_Mo_isCharacter T) (ks_Mo_isCharacter T) ⟨by decide, by decide, by rfl⟩ (rv_Mo hK hw rfl) rfl (Nat.le_of_ble_eq_true rfl) ⟨by decide, by decide⟩ ⟨by decide, by decide⟩ d_Mo_type_3 (fun v M5 r5 H locs hw hp => ?_) (fun x ek M5 r5 H locs hw hE hp => gr_t B hexc hw hE (by decide) (by decide) (hF.trans (bnd_ex hp)))
  obtain ⟨v5, rfl, hp⟩ := hp
  have hF := hF.trans (bnd_ok hp)
  refine lv_if_ne hx hb d_Mo_type_6 rfl (fun h6 => ?_) (fun h6 => ?_)
  · skip
    have hF := hF.trans (if_neg h6)
    refine lv_aload_n hx hb d_Mo_type_13 rfl (lv_at hl 0 rfl) ?_
    refine gf_Mo_typed hx hb T hown hK hw rfl (kf_Mo_72 T) d_Mo_type_14 ?_
    refine lv_sipush (v := 240) hx hb d_Mo_type_17 (by decide) ?_
    refine lv_icmp_ne hx hb d_Mo_type_20 rfl (fun h7 => ?_) (fun h7 => ?_)
    · skip
      have hF := hF.trans (if_neg h7)
      refine lv_iconst (v := 0) hx hb d_Mo_type_27 (by decide) ?_
      refine pf_Mo_thrown hx hb T hown hK hw rfl (kf_Mo_65 T) d_Mo_type_28 (fun H locs hw => ?_)
      refine lv_aload_n hx hb d_Mo_type_31 rfl (lv_at hl 0 rfl) ?_
      refine gf_Mo_thrown hx hb T hown hK hw rfl (kf_Mo_65 T) d_Mo_type_32 ?_
      rw [mS_same]
      refine lv_if_eq hx hb d_Mo_type_35 rfl (fun _ => ?_) (fun h => absurd h (by decide))
      refine lv_aload_n hx hb d_Mo_type_40 rfl (lv_at hl 0 rfl) ?_
      refine gf_Mo_text hx hb T hown hK hw rfl (kf_Mo_7 T) d_Mo_type_41 ?_
      refine lv_aload_n hx hb d_Mo_type_44 rfl (lv_at hl 0 rfl) ?_
      refine gf_Mo_typed hx hb T hown hK hw rfl (kf_Mo_72 T) d_Mo_type_45 ?_
      refine lv_iload_n hx hb d_Mo_type_48 rfl (lv_at hl 1 rfl) ?_
      have g8 := ng hno hF
      have hF := hF.trans (gd_yes g8)
      refine gs_Mo_text hx hb hK hw rfl g8 d_Mo_type_49 (fun H locs hw => ?_)
      refine lv_aload_n hx hb d_Mo_type_50 rfl (lv_at hl 0 rfl) ?_
      refine lv_dup hx hb d_Mo_type_51 rfl ?_
      refine gf_Mo_typed hx hb T hown hK hw rfl (kf_Mo_72 T) d_Mo_type_52 ?_
      refine lv_iconst (v := 1) hx hb d_Mo_type_55 (by decide) ?_
      refine lv_iadd hx hb d_Mo_type_56 ?_
      refine pf_Mo_typed hx hb T hown hK hw rfl (kf_Mo_72 T) d_Mo_type_57 (fun H locs hw => ?_)
      refine lv_aload_n hx hb d_Mo_type_60 rfl (lv_at hl 0 rfl) ?_
      refine gf_Mo_typed hx hb T hown hK hw rfl (kf_Mo_72 T) d_Mo_type_61 ?_
      exact gr_i B hw d_Mo_type_64 ⟨_, rfl, hF⟩
    · skip
      have hF := hF.trans (if_pos h7)
      refine lv_iconst (v := 2) hx hb d_Mo_type_23 (by decide) ?_
      refine lv_goto hx hb d_Mo_type_24 rfl ?_
      refine pf_Mo_thrown hx hb T hown hK hw rfl (kf_Mo_65 T) d_Mo_type_28 (fun H locs hw => ?_)
      refine lv_aload_n hx hb d_Mo_type_31 rfl (lv_at hl 0 rfl) ?_
      refine gf_Mo_thrown hx hb T hown hK hw rfl (kf_Mo_65 T) d_Mo_type_32 ?_
      rw [mS_same]
      refine lv_if_eq hx hb d_Mo_type_35 rfl (fun h => absurd h (by decide)) (fun _ => ?_)
      refine lv_iconst (v := 0) hx hb d_Mo_type_38 (by decide) ?_
      exact gr_i B hw d_Mo_type_39 ⟨_, rfl, hF⟩
  · skip
    have hF := hF.trans (if_pos h6)
    refine lv_iconst (v := 1) hx hb d_Mo_type_9 (by decide) ?_
    refine lv_goto hx hb d_Mo_type_10 rfl ?_
    refine pf_Mo_thrown hx hb T hown hK hw rfl (kf_Mo_65 T) d_Mo_type_28 (fun H locs hw => ?_)
    refine lv_aload_n hx hb d_Mo_type_31 rfl (lv_at hl 0 rfl) ?_
    refine gf_Mo_thrown hx hb T hown hK hw rfl (kf_Mo_65 T) d_Mo_type_32 ?_
    rw [mS_same]
    refine lv_if_eq hx hb d_Mo_type_35 rfl (fun h => absurd h (by decide)) (fun _ => ?_)
    refine lv_iconst (v := 0) hx hb d_Mo_type_38 (by decide) ?_
    exact gr_i B hw d_Mo_type_39 ⟨_, rfl, hF⟩
set_option maxHeartbeats 4000000 in
set_option maxRecDepth 100000 in
theorem t_Mo_wipe {l : Launch} {s0 : State} {D : va_G} {aC : Nat → ClassId} {a0 : Array Value} (G : gG l s0 D aC a0) (M : gMem) (r : gRef) (ow : Int64) (fu : Nat)  (hno : F_Mo_wipe fu M r ≠ .no) : gMet l s0 D aC y_Mo_wipe (Cond.code y_Mo_wipe b_Mo_wipe 1 none) 0 0 0 0 [.ref (s0.heap.size + 383)] M r ow (qV (F_Mo_wipe fu M r)) (qT (F_Mo_wipe fu M r)) := by
  refine gm_of G (by decide) (Nat.le_of_ble_eq_true rfl) ?_
  intro p e s m below meth c ls B hexc hl hw
  have hx := B.1
  have hb := B.2.1
  have hown := B.2.2.2.2.2.1
  have T := B.2.2.2.2.2.2.1
  have hK := B.2.2.2.2.2.2.2.1
  have hF := F_Mo_wipe.eq_1 fu M r
  refine lv_aload_n hx hb d_Mo_wipe_0 rfl (lv_at hl 0 rfl) ?_
  refine lv_iconst (v := 0) hx hb d_Mo_wipe_1 (by decide) ?_
  refine pf_Mo_thrown hx hb T hown hK hw rfl (kf_Mo_65 T) d_Mo_wipe_2 (fun H locs hw => ?_)
  refine lv_aload_n hx hb d_Mo_wipe_5 rfl (lv_at hl 0 rfl) ?_
  refine lv_iconst (v := 0) hx hb d_Mo_wipe_6 (by decide) ?_
  refine pf_Mo_typed hx hb T hown hK hw rfl (kf_Mo_72 T) d_Mo_wipe_7 (fun H locs hw => ?_)
  exact gr_v B hw d_Mo_wipe_10 ⟨rfl, hF⟩
set_option maxHeartbeats 4000000 in
set_option maxRecDepth 100000 in
theorem t_Mo_fail {l : Launch} {s0 : State} {D : va_G} {aC : Nat → ClassId} {a0 : Array Value} (G : gG l s0 D aC a0) (M : gMem) (r : gRef) (ow : Int64) (fu : Nat) (x1 : Int32) (x2 : Int32)  (hno : F_Mo_fail fu x1 x2 M r ≠ .no) : gMet l s0 D aC y_Mo_fail (Cond.code y_Mo_fail b_Mo_fail 3 (some .boolean)) 0 0 0 0 [.ref (s0.heap.size + 383), .int x1, .int x2] M r ow (qI (F_Mo_fail fu x1 x2 M r)) (qT (F_Mo_fail fu x1 x2 M r)) := by
  refine gm_of G (by decide) (Nat.le_of_ble_eq_true rfl) ?_
  intro p e s m below meth c ls B hexc hl hw
  have hx := B.1
  have hb := B.2.1
  have hown := B.2.2.2.2.2.1
  have T := B.2.2.2.2.2.2.1
  have hK := B.2.2.2.2.2.2.2.1
  have hF := F_Mo_fail.eq_1 fu x1 x2 M r
  refine lv_aload_n hx hb d_Mo_fail_0 rfl (lv_at hl 0 rfl) ?_
  refine lv_iload_n hx hb d_Mo_fail_1 rfl (lv_at hl 1 rfl) ?_
  refine pf_Mo_reason hx hb T hown hK hw rfl (kf_Mo_78 T) d_Mo_fail_2 (fun H locs hw => ?_)
  refine lv_aload_n hx hb d_Mo_fail_5 rfl (lv_at hl 0 rfl) ?_
  refine lv_iload_n hx hb d_Mo_fail_6 rfl (lv_at hl 2 rfl) ?_
  refine pf_Mo_place hx hb T hown hK hw rfl (kf_Mo_13 T) d_Mo_fail_7 (fun H locs hw => ?_)
  refine lv_iconst (v := 0) hx hb d_Mo_fail_10 (by decide) ?_
  exact gr_z B hw (by rfl) d_Mo_fail_11 ⟨_, rfl, hF⟩
set_option maxHeartbeats 4000000 in
set_option maxRecDepth 100000 in
theorem t_Mo_over {l : Launch} {s0 : State} {D : va_G} {aC : Nat → ClassId} {a0 : Array Value} (G : gG l s0 D aC a0) (M : gMem) (r : gRef) (ow : Int64) (fu : Nat) (x1 : Int32)  (hno : F_Mo_over fu x1 M r ≠ .no) : gMet l s0 D aC y_Mo_over (Cond.code y_Mo_over b_Mo_over 2 (some .boolean)) 1 22 0 0 [.ref (s0.heap.size + 383), .int x1] M r ow (qI (F_Mo_over fu x1 M r)) (qT (F_Mo_over fu x1 M r)) := by
  refine gm_of G (by decide) (Nat.le_of_ble_eq_true rfl) ?_
  intro p e s m below meth c ls B hexc hl hw
  have hx := B.1
  have hb := B.2.1
  have hown := B.2.2.2.2.2.1
  have T := B.2.2.2.2.2.2.1
  have hK := B.2.2.2.2.2.2.2.1
  have hF := F_Mo_over.eq_1 fu x1 M r
  refine lv_aload_n hx hb d_Mo_over_0 rfl (lv_at hl 0 rfl) ?_
  refine lv_aload_n hx hb d_Mo_over_1 rfl (lv_at hl 0 rfl) ?_
  refine gf_Mo_at hx hb T hown hK hw rfl (kf_Mo_81 T) d_Mo_over_2 ?_
  refine gy_V B hl.1 hw (t_Mo_here G _ _ ow fu (M 103 0) (nn hno hF)) (kd_Mo_here T) (ki_Mo T) (km_Mo_84 T) (ka_Mo_here T) (ks_Mo_here T) ⟨by decide, by decide, by rfl⟩ (rv_Mo hK hw rfl) rfl (Nat.le_of_ble_eq_true rfl) ⟨by decide, by decide⟩ ⟨by decide, by decide⟩ d_Mo_over_5 (fun v M5 r5 H locs hw hp => ?_) (fun x ek M5 r5 H locs hw hE hp => gr_t B hexc hw hE (by decide) (by decide) (hF.trans (bnd_ex hp)))
  obtain ⟨v5, rfl, hp⟩ := hp
  have hF := hF.trans (bnd_ok hp)
  refine lv_iload_n hx hb d_Mo_over_8 rfl (lv_at hl 1 rfl) ?_
  refine lv_icmp_eq hx hb d_Mo_over_9 rfl (fun h6 => ?_) (fun h6 => ?_)
  · skip
    have hF := hF.trans (if_pos h6)
    refine lv_aload_n hx hb d_Mo_over_22 rfl (lv_at hl 0 rfl) ?_
    refine lv_dup hx hb d_Mo_over_23 rfl ?_
    refine gf_Mo_at hx hb T hown hK hw rfl (kf_Mo_81 T) d_Mo_over_24 ?_
    refine lv_iconst (v := 1) hx hb d_Mo_over_27 (by decide) ?_
    refine lv_iadd hx hb d_Mo_over_28 ?_
    refine pf_Mo_at hx hb T hown hK hw rfl (kf_Mo_81 T) d_Mo_over_29 (fun H locs hw => ?_)
    refine lv_iconst (v := 1) hx hb d_Mo_over_32 (by decide) ?_
    exact gr_z B hw (by rfl) d_Mo_over_33 ⟨_, rfl, hF⟩
  · skip
    have hF := hF.trans (if_neg h6)
    refine lv_aload_n hx hb d_Mo_over_12 rfl (lv_at hl 0 rfl) ?_
    refine lv_iconst (v := 1) hx hb d_Mo_over_13 (by decide) ?_
    refine lv_aload_n hx hb d_Mo_over_14 rfl (lv_at hl 0 rfl) ?_
    refine gf_Mo_at hx hb T hown hK hw rfl (kf_Mo_81 T) d_Mo_over_15 ?_
    refine gy_V B hl.1 hw (t_Mo_fail G _ _ ow fu 1 (M5 103 0) (nn hno hF)) (kd_Mo_fail T) (ki_Mo T) (km_Mo_88 T) (ka_Mo_fail T) (ks_Mo_fail T) ⟨by decide, by decide, by rfl⟩ (rv_Mo hK hw rfl) rfl (Nat.le_of_ble_eq_true rfl) ⟨by decide, by decide⟩ ⟨by decide, by decide⟩ d_Mo_over_18 (fun v M7 r7 H locs hw hp => ?_) (fun x ek M7 r7 H locs hw hE hp => gr_t B hexc hw hE (by decide) (by decide) (hF.trans (bnd_ex hp)))
    obtain ⟨v7, rfl, hp⟩ := hp
    have hF := hF.trans (bnd_ok hp)
    have g8 := ng hno hF
    have hF := hF.trans (gd_yes g8)
    exact gr_z B hw g8 d_Mo_over_21 ⟨_, rfl, hF⟩
set_option maxHeartbeats 4000000 in
set_option maxRecDepth 100000 in
theorem t_Mo_skip {l : Launch} {s0 : State} {D : va_G} {aC : Nat → ClassId} {a0 : Array Value} (G : gG l s0 D aC a0) (M : gMem) (r : gRef) (ow : Int64) (fu : Nat)  (hno : F_Mo_skip fu M r ≠ .no) : gMet l s0 D aC y_Mo_skip (Cond.code y_Mo_skip b_Mo_skip 2 (some .int)) 1 21 0 0 [.ref (s0.heap.size + 383)] M r ow (qI (F_Mo_skip fu M r)) (qT (F_Mo_skip fu M r)) := by
  refine gm_of G (by decide) (Nat.le_of_ble_eq_true rfl) ?_
  intro p e s m below meth c ls B hexc hl hw
  have hx := B.1
  have hb := B.2.1
  have hown := B.2.2.2.2.2.1
  have T := B.2.2.2.2.2.2.1
  have hK := B.2.2.2.2.2.2.2.1
  have X33 : ∀ (x1 : Int32) (M1 : gMem) (r1 : gRef) (H : Heap) (locs : List Loc) (ls : Array Slot), lv_has ls 2 [(1, .int x1)] → gWd s0 D aC M1 r1 ow H locs → F_Mo_skip fu M r = F_Mo_skip_B33 fu x1 M1 r1 → W p l e (gRm 1 21 0 0) s m ([.ref (s0.heap.size + 383)] : List Value).toArray below meth c H locs 0 0 (gt_Q below (gQ s0 D aC ow (qI (F_Mo_skip fu M r)) (qT (F_Mo_skip fu M r))) s 0 0 0 0 (fun q => s0.heap.size ≤ q)) (F0 m 33 ls []) := by
    intro x1 M1 r1 H locs ls hl hw hF
    have hF := hF.trans (F_Mo_skip_B33.eq_1 _ _ _ _)
    refine lv_iload_n hx hb d_Mo_skip_33 rfl (lv_at hl 0 rfl) ?_
    exact gr_i B hw d_Mo_skip_34 ⟨_, rfl, hF⟩
  have L2 : ∀ (d : Nat) (x1 : Int32) (M1 : gMem) (r1 : gRef) (H : Heap) (locs : List Loc) (ls : Array Slot), lv_has ls 2 [(1, .int x1), (0, .ref (s0.heap.size + 383))] → gWd s0 D aC M1 r1 ow H locs → F_Mo_skip fu M r = F_Mo_skip_L2 fu d x1 M1 r1 → W p l e (gRm 1 21 0 0) s m ([.ref (s0.heap.size + 383)] : List Value).toArray below meth c H locs 0 0 (gt_Q below (gQ s0 D aC ow (qI (F_Mo_skip fu M r)) (qT (F_Mo_skip fu M r))) s 0 0 0 0 (fun q => s0.heap.size ≤ q)) (F0 m 2 ls []) := by
    intro d
    induction d with
    | zero => intro x1 M1 r1 H locs ls hl hw hF; exact absurd hF hno
    | succ d ih =>
      intro x1 M1 r1 H locs ls hl hw hF
      have hF := hF.trans (F_Mo_skip_L2.eq_2 _ _ _ _ _)
      refine lv_aload_n hx hb d_Mo_skip_2 rfl (lv_at hl 1 rfl) ?_
      refine lv_aload_n hx hb d_Mo_skip_3 rfl (lv_at hl 1 rfl) ?_
      refine lv_aload_n hx hb d_Mo_skip_4 rfl (lv_at hl 1 rfl) ?_
      refine gf_Mo_at hx hb T hown hK hw rfl (kf_Mo_81 T) d_Mo_skip_5 ?_
      refine gy_V B hl.1 hw (t_Mo_here G _ _ ow fu (M1 103 0) (nn hno hF)) (kd_Mo_here T) (ki_Mo T) (km_Mo_84 T) (ka_Mo_here T) (ks_Mo_here T) ⟨by decide, by decide, by rfl⟩ (rv_Mo hK hw rfl) rfl (Nat.le_of_ble_eq_true rfl) ⟨by decide, by decide⟩ ⟨by decide, by decide⟩ d_Mo_skip_8 (fun v M4 r4 H locs hw hp => ?_) (fun x ek M4 r4 H locs hw hE hp => gr_t B hexc hw hE (by decide) (by decide) (hF.trans (bnd_ex hp)))
      obtain ⟨v4, rfl, hp⟩ := hp
      have hF := hF.trans (bnd_ok hp)
      refine gy_V B hl.1 hw (t_Mo_blank G _ _ ow fu v4 (nn hno hF)) (kd_Mo_blank T) (ki_Mo T) (km_Mo_92 T) (ka_Mo_blank T) (ks_Mo_blank T) ⟨by decide, by decide, by rfl⟩ (rv_Mo hK hw rfl) rfl (Nat.le_of_ble_eq_true rfl) ⟨by decide, by decide⟩ ⟨by decide, by decide⟩ d_Mo_skip_11 (fun v M5 r5 H locs hw hp => ?_) (fun x ek M5 r5 H locs hw hE hp => gr_t B hexc hw hE (by decide) (by decide) (hF.trans (bnd_ex hp)))
      obtain ⟨v5, rfl, hp⟩ := hp
      have hF := hF.trans (bnd_ok hp)
      refine lv_if_eq hx hb d_Mo_skip_14 rfl (fun h6 => ?_) (fun h6 => ?_)
      · skip
        have hF := hF.trans (if_pos h6)
        exact X33 x1 _ _ _ _ _ (gv_loc hl [0] rfl) hw hF
      · skip
        have hF := hF.trans (if_neg h6)
        refine lv_aload_n hx hb d_Mo_skip_17 rfl (lv_at hl 1 rfl) ?_
        refine lv_dup hx hb d_Mo_skip_18 rfl ?_
        refine gf_Mo_at hx hb T hown hK hw rfl (kf_Mo_81 T) d_Mo_skip_19 ?_
        refine lv_iconst (v := 1) hx hb d_Mo_skip_22 (by decide) ?_
        refine lv_iadd hx hb d_Mo_skip_23 ?_
        refine pf_Mo_at hx hb T hown hK hw rfl (kf_Mo_81 T) d_Mo_skip_24 (fun H locs hw => ?_)
        refine lv_iinc (k := 0) hx hb d_Mo_skip_27 hl rfl (show _ + Int32.ofInt 1 = _ + 1 from rfl) (by decide) rfl (fun ls hl => ?_)
        refine lv_goto hx hb d_Mo_skip_30 rfl ?_
        exact ih (x1 + 1) _ _ _ _ _ (gv_loc hl [0, 1] rfl) hw hF
  have hF := F_Mo_skip.eq_1 fu M r
  refine lv_iconst (v := 0) hx hb d_Mo_skip_0 (by decide) ?_
  refine lv_istore_n hx hb d_Mo_skip_1 rfl hl (by decide) rfl (fun ls hl => ?_)
  exact L2 fu 0 _ _ _ _ _ (gv_loc hl [0, 1] rfl) hw hF
theorem d_Mo_comment_0 : decode b_Mo_comment 0 = .ok (.aload_n 0, 1) := by decide +kernel
theorem d_Mo_comment_1 : decode b_Mo_comment 1 = .ok (.bipush 45, 2) := by decide +kernel
theorem d_Mo_comment_3 : decode b_Mo_comment 3 = .ok (.invokevirtual 95, 3) := by decide +kernel
theorem d_Mo_comment_6 : decode b_Mo_comment 6 = .ok (.ifCond .eq 12, 3) := by decide +kernel
theorem d_Mo_comment_9 : decode b_Mo_comment 9 = .ok (.aload_n 0, 1) := by decide +kernel
theorem d_Mo_comment_10 : decode b_Mo_comment 10 = .ok (.bipush 45, 2) := by decide +kernel
theorem d_Mo_comment_12 : decode b_Mo_comment 12 = .ok (.invokevirtual 95, 3) := by decide +kernel
theorem d_Mo_comment_15 : decode b_Mo_comment 15 = .ok (.ifCond .ne 5, 3) := by decide +kernel
theorem d_Mo_comment_18 : decode b_Mo_comment 18 = .ok (.iconst 0, 1) := by decide +kernel
theorem d_Mo_comment_19 : decode b_Mo_comment 19 = .ok (.ireturn, 1) := by decide +kernel
theorem d_Mo_comment_20 : decode b_Mo_comment 20 = .ok (.iconst 0, 1) := by decide +kernel
theorem d_Mo_comment_21 : decode b_Mo_comment 21 = .ok (.istore_n 1, 1) := by decide +kernel
theorem d_Mo_comment_22 : decode b_Mo_comment 22 = .ok (.aload_n 0, 1) := by decide +kernel
theorem d_Mo_comment_23 : decode b_Mo_comment 23 = .ok (.getfield 81, 3) := by decide +kernel
theorem d_Mo_comment_26 : decode b_Mo_comment 26 = .ok (.aload_n 0, 1) := by decide +kernel
theorem d_Mo_comment_27 : decode b_Mo_comment 27 = .ok (.getfield 72, 3) := by decide +kernel
theorem d_Mo_comment_30 : decode b_Mo_comment 30 = .ok (.if_icmp .ge 52, 3) := by decide +kernel
theorem d_Mo_comment_33 : decode b_Mo_comment 33 = .ok (.aload_n 0, 1) := by decide +kernel
theorem d_Mo_comment_34 : decode b_Mo_comment 34 = .ok (.getfield 7, 3) := by decide +kernel
theorem d_Mo_comment_37 : decode b_Mo_comment 37 = .ok (.aload_n 0, 1) := by decide +kernel
theorem d_Mo_comment_38 : decode b_Mo_comment 38 = .ok (.getfield 81, 3) := by decide +kernel
theorem d_Mo_comment_41 : decode b_Mo_comment 41 = .ok (.iaload, 1) := by decide +kernel
theorem d_Mo_comment_42 : decode b_Mo_comment 42 = .ok (.istore_n 2, 1) := by decide +kernel
theorem d_Mo_comment_43 : decode b_Mo_comment 43 = .ok (.iload_n 1, 1) := by decide +kernel
theorem d_Mo_comment_44 : decode b_Mo_comment 44 = .ok (.iconst 2, 1) := by decide +kernel
theorem d_Mo_comment_45 : decode b_Mo_comment 45 = .ok (.if_icmp .ne 10, 3) := by decide +kernel
theorem d_Mo_comment_48 : decode b_Mo_comment 48 = .ok (.aload_n 0, 1) := by decide +kernel
theorem d_Mo_comment_49 : decode b_Mo_comment 49 = .ok (.bipush 62, 2) := by decide +kernel
theorem d_Mo_comment_51 : decode b_Mo_comment 51 = .ok (.invokevirtual 95, 3) := by decide +kernel
theorem d_Mo_comment_54 : decode b_Mo_comment 54 = .ok (.ireturn, 1) := by decide +kernel
theorem d_Mo_comment_55 : decode b_Mo_comment 55 = .ok (.iload_n 2, 1) := by decide +kernel
theorem d_Mo_comment_56 : decode b_Mo_comment 56 = .ok (.bipush 45, 2) := by decide +kernel
theorem d_Mo_comment_58 : decode b_Mo_comment 58 = .ok (.if_icmp .ne 9, 3) := by decide +kernel
theorem d_Mo_comment_61 : decode b_Mo_comment 61 = .ok (.iload_n 1, 1) := by decide +kernel
theorem d_Mo_comment_62 : decode b_Mo_comment 62 = .ok (.iconst 1, 1) := by decide +kernel
theorem d_Mo_comment_63 : decode b_Mo_comment 63 = .ok (.iadd, 1) := by decide +kernel
theorem d_Mo_comment_64 : decode b_Mo_comment 64 = .ok (.goto 4, 3) := by decide +kernel
theorem d_Mo_comment_67 : decode b_Mo_comment 67 = .ok (.iconst 0, 1) := by decide +kernel
theorem d_Mo_comment_68 : decode b_Mo_comment 68 = .ok (.istore_n 1, 1) := by decide +kernel
theorem d_Mo_comment_69 : decode b_Mo_comment 69 = .ok (.aload_n 0, 1) := by decide +kernel
theorem d_Mo_comment_70 : decode b_Mo_comment 70 = .ok (.dup, 1) := by decide +kernel
theorem d_Mo_comment_71 : decode b_Mo_comment 71 = .ok (.getfield 81, 3) := by decide +kernel
theorem d_Mo_comment_74 : decode b_Mo_comment 74 = .ok (.iconst 1, 1) := by decide +kernel
theorem d_Mo_comment_75 : decode b_Mo_comment 75 = .ok (.iadd, 1) := by decide +kernel
theorem d_Mo_comment_76 : decode b_Mo_comment 76 = .ok (.putfield 81, 3) := by decide +kernel
theorem d_Mo_comment_79 : decode b_Mo_comment 79 = .ok (.goto (-57), 3) := by decide +kernel
theorem d_Mo_comment_82 : decode b_Mo_comment 82 = .ok (.aload_n 0, 1) := by decide +kernel
theorem d_Mo_comment_83 : decode b_Mo_comment 83 = .ok (.iconst 1, 1) := by decide +kernel
theorem d_Mo_comment_84 : decode b_Mo_comment 84 = .ok (.aload_n 0, 1) := by decide +kernel
theorem d_Mo_comment_85 : decode b_Mo_comment 85 = .ok (.getfield 81, 3) := by decide +kernel
theorem d_Mo_comment_88 : decode b_Mo_comment 88 = .ok (.invokevirtual 88, 3) := by decide +kernel
theorem d_Mo_comment_91 : decode b_Mo_comment 91 = .ok (.ireturn, 1) := by decide +kernel
set_option maxHeartbeats 4000000 in
set_option maxRecDepth 100000 in
theorem t_Mo_comment {l : Launch} {s0 : State} {D : va_G} {aC : Nat → ClassId} {a0 : Array Value} (G : gG l s0 D aC a0) (M : gMem) (r : gRef) (ow : Int64) (fu : Nat)  (hno : F_Mo_comment fu M r ≠ .no) : gMet l s0 D aC y_Mo_comment (Cond.code y_Mo_comment b_Mo_comment 3 (some .boolean)) 2 43 0 0 [.ref (s0.heap.size + 383)] M r ow (qI (F_Mo_comment fu M r)) (qT (F_Mo_comment fu M r)) := by
  refine gm_of G (by decide) (Nat.le_of_ble_eq_true rfl) ?_
  intro p e s m below meth c ls B hexc hl hw
  have hx := B.1
  have hb := B.2.1
  have hown := B.2.2.2.2.2.1
  have T := B.2.2.2.2.2.2.1
  have hK := B.2.2.2.2.2.2.2.1
  have X82 : ∀ (M1 : gMem) (r1 : gRef) (H : Heap) (locs : List Loc) (ls : Array Slot), lv_has ls 3 [(0, .ref (s0.heap.size + 383))] → gWd s0 D aC M1 r1 ow H locs → F_Mo_comment fu M r = F_Mo_comment_B82 fu M1 r1 → W p l e (gRm 2 43 0 0) s m ([.ref (s0.heap.size + 383)] : List Value).toArray below meth c H locs 0 0 (gt_Q below (gQ s0 D aC ow (qI (F_Mo_comment fu M r)) (qT (F_Mo_comment fu M r))) s 0 0 0 0 (fun q => s0.heap.size ≤ q)) (F0 m 82 ls []) := by
    intro  M1 r1 H locs ls hl hw hF
    have hF := hF.trans (F_Mo_comment_B82.eq_1 _ _ _)
    refine lv_aload_n hx hb d_Mo_comment_82 rfl (lv_at hl 0 rfl) ?_
    refine lv_iconst (v := 1) hx hb d_Mo_comment_83 (by decide) ?_
    refine lv_aload_n hx hb d_Mo_comment_84 rfl (lv_at hl 0 rfl) ?_
    refine gf_Mo_at hx hb T hown hK hw rfl (kf_Mo_81 T) d_Mo_comment_85 ?_
    refine gy_V B hl.1 hw (t_Mo_fail G _ _ ow fu 1 (M1 103 0) (nn hno hF)) (kd_Mo_fail T) (ki_Mo T) (km_Mo_88 T) (ka_Mo_fail T) (ks_Mo_fail T) ⟨by decide, by decide, by rfl⟩ (rv_Mo hK hw rfl) rfl (Nat.le_of_ble_eq_true rfl) ⟨by decide, by decide⟩ ⟨by decide, by decide⟩ d_Mo_comment_88 (fun v M13 r13 H locs hw hp => ?_) (fun x ek M13 r13 H locs hw hE hp => gr_t B hexc hw hE (by decide) (by decide) (hF.trans (bnd_ex hp)))
    obtain ⟨v13, rfl, hp⟩ := hp
    have hF := hF.trans (bnd_ok hp)
    have g14 := ng hno hF
    have hF := hF.trans (gd_yes g14)
    exact gr_z B hw g14 d_Mo_comment_91 ⟨_, rfl, hF⟩
  have L22 : ∀ (d : Nat) (x1 : Int32) (M1 : gMem) (r1 : gRef) (H : Heap) (locs : List Loc) (ls : Array Slot), lv_has ls 3 [(1, .int x1), (0, .ref (s0.heap.size + 383))] → gWd s0 D aC M1 r1 ow H locs → F_Mo_comment fu M r = F_Mo_comment_L22 fu d x1 M1 r1 → W p l e (gRm 2 43 0 0) s m ([.ref (s0.heap.size + 383)] : List Value).toArray below meth c H locs 0 0 (gt_Q below (gQ s0 D aC ow (qI (F_Mo_comment fu M r)) (qT (F_Mo_comment fu M r))) s 0 0 0 0 (fun q => s0.heap.size ≤ q)) (F0 m 22 ls []) := by
    intro d
    induction d with
    | zero => intro x1 M1 r1 H locs ls hl hw hF; exact absurd hF hno
    | succ d ih =>
      intro x1 M1 r1 H locs ls hl hw hF
      have hF := hF.trans (F_Mo_comment_L22.eq_2 _ _ _ _ _)
      refine lv_aload_n hx hb d_Mo_comment_22 rfl (lv_at hl 1 rfl) ?_
      refine gf_Mo_at hx hb T hown hK hw rfl (kf_Mo_81 T) d_Mo_comment_23 ?_
      refine lv_aload_n hx hb d_Mo_comment_26 rfl (lv_at hl 1 rfl) ?_
      refine gf_Mo_typed hx hb T hown hK hw rfl (kf_Mo_72 T) d_Mo_comment_27 ?_
      refine lv_icmp_ge hx hb d_Mo_comment_30 rfl (fun h15 => ?_) (fun h15 => ?_)
      · skip
        have hF := hF.trans (if_pos h15)
        exact X82  _ _ _ _ _ (gv_loc hl [1] rfl) hw hF
      · skip
        have hF := hF.trans (if_neg h15)
        refine lv_aload_n hx hb d_Mo_comment_33 rfl (lv_at hl 1 rfl) ?_
        refine gf_Mo_text hx hb T hown hK hw rfl (kf_Mo_7 T) d_Mo_comment_34 ?_
        refine lv_aload_n hx hb d_Mo_comment_37 rfl (lv_at hl 1 rfl) ?_
        refine gf_Mo_at hx hb T hown hK hw rfl (kf_Mo_81 T) d_Mo_comment_38 ?_
        have g16 := ng hno hF
        have hF := hF.trans (gd_yes g16)
        refine ga_Mo_text hx hb hK hw rfl g16 d_Mo_comment_41 ?_
        refine lv_istore_n hx hb d_Mo_comment_42 rfl hl (by decide) rfl (fun ls hl => ?_)
        refine lv_iload_n hx hb d_Mo_comment_43 rfl (lv_at hl 1 rfl) ?_
        refine lv_iconst (v := 2) hx hb d_Mo_comment_44 (by decide) ?_
        refine lv_icmp_ne hx hb d_Mo_comment_45 rfl (fun h17 => ?_) (fun h17 => ?_)
        · skip
          have hF := hF.trans (if_neg h17)
          refine lv_iload_n hx hb d_Mo_comment_55 rfl (lv_at hl 0 rfl) ?_
          refine lv_bipush (v := 45) hx hb d_Mo_comment_56 (by decide) ?_
          refine lv_icmp_ne hx hb d_Mo_comment_58 rfl (fun h18 => ?_) (fun h18 => ?_)
          · skip
            have hF := hF.trans (if_neg h18)
            refine lv_iconst (v := 0) hx hb d_Mo_comment_67 (by decide) ?_
            refine lv_istore_n hx hb d_Mo_comment_68 rfl hl (by decide) rfl (fun ls hl => ?_)
            refine lv_aload_n hx hb d_Mo_comment_69 rfl (lv_at hl 2 rfl) ?_
            refine lv_dup hx hb d_Mo_comment_70 rfl ?_
            refine gf_Mo_at hx hb T hown hK hw rfl (kf_Mo_81 T) d_Mo_comment_71 ?_
            refine lv_iconst (v := 1) hx hb d_Mo_comment_74 (by decide) ?_
            refine lv_iadd hx hb d_Mo_comment_75 ?_
            refine pf_Mo_at hx hb T hown hK hw rfl (kf_Mo_81 T) d_Mo_comment_76 (fun H locs hw => ?_)
            refine lv_goto hx hb d_Mo_comment_79 rfl ?_
            exact ih 0 _ _ _ _ _ (gv_loc hl [0, 2] rfl) hw hF
          · skip
            have hF := hF.trans (if_pos h18)
            refine lv_iload_n hx hb d_Mo_comment_61 rfl (lv_at hl 1 rfl) ?_
            refine lv_iconst (v := 1) hx hb d_Mo_comment_62 (by decide) ?_
            refine lv_iadd hx hb d_Mo_comment_63 ?_
            refine lv_goto hx hb d_Mo_comment_64 rfl ?_
            refine lv_istore_n hx hb d_Mo_comment_68 rfl hl (by decide) rfl (fun ls hl => ?_)
            refine lv_aload_n hx hb d_Mo_comment_69 rfl (lv_at hl 2 rfl) ?_
            refine lv_dup hx hb d_Mo_comment_70 rfl ?_
            refine gf_Mo_at hx hb T hown hK hw rfl (kf_Mo_81 T) d_Mo_comment_71 ?_
            refine lv_iconst (v := 1) hx hb d_Mo_comment_74 (by decide) ?_
            refine lv_iadd hx hb d_Mo_comment_75 ?_
            refine pf_Mo_at hx hb T hown hK hw rfl (kf_Mo_81 T) d_Mo_comment_76 (fun H locs hw => ?_)
            refine lv_goto hx hb d_Mo_comment_79 rfl ?_
            exact ih (x1 + 1) _ _ _ _ _ (gv_loc hl [0, 2] rfl) hw hF
        · skip
          have hF := hF.trans (if_pos h17)
          refine lv_aload_n hx hb d_Mo_comment_48 rfl (lv_at hl 2 rfl) ?_
          refine lv_bipush (v := 62) hx hb d_Mo_comment_49 (by decide) ?_
          refine gy_V B hl.1 hw (t_Mo_over G _ _ ow fu 62 (nn hno hF)) (kd_Mo_over T) (ki_Mo T) (km_Mo_95 T) (ka_Mo_over T) (ks_Mo_over T) ⟨by decide, by decide, by rfl⟩ (rv_Mo hK hw rfl) rfl (Nat.le_of_ble_eq_true rfl) ⟨by decide, by decide⟩ ⟨by decide, by decide⟩ d_Mo_comment_51 (fun v M19 r19 H locs hw hp => ?_) (fun x ek M19 r19 H locs hw hE hp => gr_t B hexc hw hE (by decide) (by decide) (hF.trans (bnd_ex hp)))
          obtain ⟨v19, rfl, hp⟩ := hp
          have hF := hF.trans (bnd_ok hp)
          have g20 := ng hno hF
          have hF := hF.trans (gd_yes g20)
          exact gr_z B hw g20 d_Mo_comment_54 ⟨_, rfl, hF⟩
  have hF := F_Mo_comment.eq_1 fu M r
  refine lv_aload_n hx hb d_Mo_comment_0 rfl (lv_at hl 0 rfl) ?_
  refine lv_bipush (v := 45) hx hb d_Mo_comment_1 (by decide) ?_
  refine gy_V B hl.1 hw (t_Mo_over G _ _ ow fu 45 (nn hno hF)) (kd_Mo_over T) (ki_Mo T) (km_Mo_95 T) (ka_Mo_over T) (ks_Mo_over T) ⟨by decide, by decide, by rfl⟩ (rv_Mo hK hw rfl) rfl (Nat.le_of_ble_eq_true rfl) ⟨by decide, by decide⟩ ⟨by decide, by decide⟩ d_Mo_comment_3 (fun v M21 r21 H locs hw hp => ?_) (fun x ek M21 r21 H locs hw hE hp => gr_t B hexc hw hE (by decide) (by decide) (hF.trans (bnd_ex hp)))
  obtain ⟨v21, rfl, hp⟩ := hp
  have hF := hF.trans (bnd_ok hp)
  refine lv_if_eq hx hb d_Mo_comment_6 rfl (fun h22 => ?_) (fun h22 => ?_)
  · skip
    have hF := hF.trans (if_pos h22)
    refine lv_iconst (v := 0) hx hb d_Mo_comment_18 (by decide) ?_
    exact gr_z B hw (by rfl) d_Mo_comment_19 ⟨_, rfl, hF⟩
  · skip
    have hF := hF.trans (if_neg h22)
    refine lv_aload_n hx hb d_Mo_comment_9 rfl (lv_at hl 0 rfl) ?_
    refine lv_bipush (v := 45) hx hb d_Mo_comment_10 (by decide) ?_
    refine gy_V B hl.1 hw (t_Mo_over G _ _ ow fu 45 (nn hno hF)) (kd_Mo_over T) (ki_Mo T) (km_Mo_95 T) (ka_Mo_over T) (ks_Mo_over T) ⟨by decide, by decide, by rfl⟩ (rv_Mo hK hw rfl) rfl (Nat.le_of_ble_eq_true rfl) ⟨by decide, by decide⟩ ⟨by decide, by decide⟩ d_Mo_comment_12 (fun v M23 r23 H locs hw hp => ?_) (fun x ek M23 r23 H locs hw hE hp => gr_t B hexc hw hE (by decide) (by decide) (hF.trans (bnd_ex hp)))
    obtain ⟨v23, rfl, hp⟩ := hp
    have hF := hF.trans (bnd_ok hp)
    refine lv_if_ne hx hb d_Mo_comment_15 rfl (fun h24 => ?_) (fun h24 => ?_)
    · skip
      have hF := hF.trans (if_neg h24)
      refine lv_iconst (v := 0) hx hb d_Mo_comment_20 (by decide) ?_
      refine lv_istore_n hx hb d_Mo_comment_21 rfl hl (by decide) rfl (fun ls hl => ?_)
      exact L22 fu 0 _ _ _ _ _ (gv_loc hl [0, 1] rfl) hw hF
    · skip
      have hF := hF.trans (if_pos h24)
      refine lv_iconst (v := 0) hx hb d_Mo_comment_18 (by decide) ?_
      exact gr_z B hw (by rfl) d_Mo_comment_19 ⟨_, rfl, hF⟩
set_option maxHeartbeats 4000000 in
set_option maxRecDepth 100000 in
theorem t_Mo_around {l : Launch} {s0 : State} {D : va_G} {aC : Nat → ClassId} {a0 : Array Value} (G : gG l s0 D aC a0) (M : gMem) (r : gRef) (ow : Int64) (fu : Nat) (x1 : Int32)  (hno : F_Mo_around fu x1 M r ≠ .no) : gMet l s0 D aC y_Mo_around (Cond.code y_Mo_around b_Mo_around 3 (some .boolean)) 3 65 0 0 [.ref (s0.heap.size + 383), .int x1] M r ow (qI (F_Mo_around fu x1 M r)) (qT (F_Mo_around fu x1 M r)) := by
  refine gm_of G (by decide) (Nat.le_of_ble_eq_true rfl) ?_
  intro p e s m below meth c ls B hexc hl hw
  have hx := B.1
  have hb := B.2.1
  have hown := B.2.2.2.2.2.1
  have T := B.2.2.2.2.2.2.1
  have hK := B.2.2.2.2.2.2.2.1
  have L0 : ∀ (d : Nat) (M1 : gMem) (r1 : gRef) (H : Heap) (locs : List Loc) (ls : Array Slot), lv_has ls 3 [(0, .ref (s0.heap.size + 383)), (1, .int x1)] → gWd s0 D aC M1 r1 ow H locs → F_Mo_around fu x1 M r = F_Mo_around_L0 fu x1 d M1 r1 → W p l e (gRm 3 65 0 0) s m ([.ref (s0.heap.size + 383), .int x1] : List Value).toArray below meth c H locs 0 0 (gt_Q below (gQ s0 D aC ow (qI (F_Mo_around fu x1 M r)) (qT (F_Mo_around fu x1 M r))) s 0 0 0 0 (fun q => s0.heap.size ≤ q)) (F0 m 0 ls []) := by
    intro d
    induction d with
    | zero => intro  M1 r1 H locs ls hl hw hF; exact absurd hF hno
    | succ d ih =>
      intro  M1 r1 H locs ls hl hw hF
      have hF := hF.trans (F_Mo_around_L0.eq_2 _ _ _ _ _)
      refine lv_aload_n hx hb d_Mo_around_0 rfl (lv_at hl 0 rfl) ?_
      refine gy_V B hl.1 hw (t_Mo_skip G _ _ ow fu (nn hno hF)) (kd_Mo_skip T) (ki_Mo T) (km_Mo_98 T) (ka_Mo_skip T) (ks_Mo_skip T) ⟨by decide, by decide, by rfl⟩ (rv_Mo hK hw rfl) rfl (Nat.le_of_ble_eq_true rfl) ⟨by decide, by decide⟩ ⟨by decide, by decide⟩ d_Mo_around_1 (fun v M16 r16 H locs hw hp => ?_) (fun x ek M16 r16 H locs hw hE hp => gr_t B hexc hw hE (by decide) (by decide) (hF.trans (bnd_ex hp)))
      obtain ⟨v16, rfl, hp⟩ := hp
      have hF := hF.trans (bnd_ok hp)
      refine lv_istore_n hx hb d_Mo_around_4 rfl hl (by decide) rfl (fun ls hl => ?_)
      refine lv_aload_n hx hb d_Mo_around_5 rfl (lv_at hl 1 rfl) ?_
      refine gf_Mo_at hx hb T hown hK hw rfl (kf_Mo_81 T) d_Mo_around_6 ?_
      refine lv_aload_n hx hb d_Mo_around_9 rfl (lv_at hl 1 rfl) ?_
      refine gf_Mo_typed hx hb T hown hK hw rfl (kf_Mo_72 T) d_Mo_around_10 ?_
      refine lv_icmp_ne hx hb d_Mo_around_13 rfl (fun h17 => ?_) (fun h17 => ?_)
      · skip
        have hF := hF.trans (if_neg h17)
        refine lv_aload_n hx hb d_Mo_around_42 rfl (lv_at hl 1 rfl) ?_
        refine lv_bipush (v := 60) hx hb d_Mo_around_43 (by decide) ?_
        refine gy_V B hl.1 hw (t_Mo_over G _ _ ow fu 60 (nn hno hF)) (kd_Mo_over T) (ki_Mo T) (km_Mo_95 T) (ka_Mo_over T) (ks_Mo_over T) ⟨by decide, by decide, by rfl⟩ (rv_Mo hK hw rfl) rfl (Nat.le_of_ble_eq_true rfl) ⟨by decide, by decide⟩ ⟨by decide, by decide⟩ d_Mo_around_45 (fun v M18 r18 H locs hw hp => ?_) (fun x ek M18 r18 H locs hw hE hp => gr_t B hexc hw hE (by decide) (by decide) (hF.trans (bnd_ex hp)))
        obtain ⟨v18, rfl, hp⟩ := hp
        have hF := hF.trans (bnd_ok hp)
        refine lv_if_ne hx hb d_Mo_around_48 rfl (fun h19 => ?_) (fun h19 => ?_)
        · skip
          have hF := hF.trans (if_neg h19)
          refine lv_aload_n hx hb d_Mo_around_53 rfl (lv_at hl 1 rfl) ?_
          refine lv_aload_n hx hb d_Mo_around_54 rfl (lv_at hl 1 rfl) ?_
          refine gf_Mo_at hx hb T hown hK hw rfl (kf_Mo_81 T) d_Mo_around_55 ?_
          refine gy_V B hl.1 hw (t_Mo_here G _ _ ow fu (M18 103 0) (nn hno hF)) (kd_Mo_here T) (ki_Mo T) (km_Mo_84 T) (ka_Mo_here T) (ks_Mo_here T) ⟨by decide, by decide, by rfl⟩ (rv_Mo hK hw rfl) rfl (Nat.le_of_ble_eq_true rfl) ⟨by decide, by decide⟩ ⟨by decide, by decide⟩ d_Mo_around_58 (fun v M20 r20 H locs hw hp => ?_) (fun x ek M20 r20 H locs hw hE hp => gr_t B hexc hw hE (by decide) (by decide) (hF.trans (bnd_ex hp)))
          obtain ⟨v20, rfl, hp⟩ := hp
          have hF := hF.trans (bnd_ok hp)
          refine lv_bipush (v := 33) hx hb d_Mo_around_61 (by decide) ?_
          refine lv_icmp_ne hx hb d_Mo_around_63 rfl (fun h21 => ?_) (fun h21 => ?_)
          · skip
            have hF := hF.trans (if_neg h21)
            refine lv_iload_n hx hb d_Mo_around_85 rfl (lv_at hl 2 rfl) ?_
            refine lv_if_eq hx hb d_Mo_around_86 rfl (fun h22 => ?_) (fun h22 => ?_)
            · skip
              have hF := hF.trans (if_pos h22)
              refine lv_aload_n hx hb d_Mo_around_101 rfl (lv_at hl 1 rfl) ?_
              refine lv_iconst (v := 1) hx hb d_Mo_around_102 (by decide) ?_
              refine lv_aload_n hx hb d_Mo_around_103 rfl (lv_at hl 1 rfl) ?_
              refine gf_Mo_at hx hb T hown hK hw rfl (kf_Mo_81 T) d_Mo_around_104 ?_
              refine gy_V B hl.1 hw (t_Mo_fail G _ _ ow fu 1 (M20 103 0) (nn hno hF)) (kd_Mo_fail T) (ki_Mo T) (km_Mo_88 T) (ka_Mo_fail T) (ks_Mo_fail T) ⟨by decide, by decide, by rfl⟩ (rv_Mo hK hw rfl) rfl (Nat.le_of_ble_eq_true rfl) ⟨by decide, by decide⟩ ⟨by decide, by decide⟩ d_Mo_around_107 (fun v M23 r23 H locs hw hp => ?_) (fun x ek M23 r23 H locs hw hE hp => gr_t B hexc hw hE (by decide) (by decide) (hF.trans (bnd_ex hp)))
              obtain ⟨v23, rfl, hp⟩ := hp
              have hF := hF.trans (bnd_ok hp)
              have g24 := ng hno hF
              have hF := hF.trans (gd_yes g24)
              exact gr_z B hw g24 d_Mo_around_110 ⟨_, rfl, hF⟩
            · skip
              have hF := hF.trans (if_neg h22)
              refine lv_aload_n hx hb d_Mo_around_89 rfl (lv_at hl 1 rfl) ?_
              refine lv_dup hx hb d_Mo_around_90 rfl ?_
              refine gf_Mo_at hx hb T hown hK hw rfl (kf_Mo_81 T) d_Mo_around_91 ?_
              refine lv_iconst (v := 1) hx hb d_Mo_around_94 (by decide) ?_
              refine lv_isub hx hb d_Mo_around_95 ?_
              refine pf_Mo_at hx hb T hown hK hw rfl (kf_Mo_81 T) d_Mo_around_96 (fun H locs hw => ?_)
              refine lv_iconst (v := 1) hx hb d_Mo_around_99 (by decide) ?_
              exact gr_z B hw (by rfl) d_Mo_around_100 ⟨_, rfl, hF⟩
          · skip
            have hF := hF.trans (if_pos h21)
            refine lv_aload_n hx hb d_Mo_around_66 rfl (lv_at hl 1 rfl) ?_
            refine lv_dup hx hb d_Mo_around_67 rfl ?_
            refine gf_Mo_at hx hb T hown hK hw rfl (kf_Mo_81 T) d_Mo_around_68 ?_
            refine lv_iconst (v := 1) hx hb d_Mo_around_71 (by decide) ?_
            refine lv_iadd hx hb d_Mo_around_72 ?_
            refine pf_Mo_at hx hb T hown hK hw rfl (kf_Mo_81 T) d_Mo_around_73 (fun H locs hw => ?_)
            refine lv_aload_n hx hb d_Mo_around_76 rfl (lv_at hl 1 rfl) ?_
            refine gy_V B hl.1 hw (t_Mo_comment G _ _ ow fu (nn hno hF)) (kd_Mo_comment T) (ki_Mo T) (km_Mo_102 T) (ka_Mo_comment T) (ks_Mo_comment T) ⟨by decide, by decide, by rfl⟩ (rv_Mo hK hw rfl) rfl (Nat.le_of_ble_eq_true rfl) ⟨by decide, by decide⟩ ⟨by decide, by decide⟩ d_Mo_around_77 (fun v M25 r25 H locs hw hp => ?_) (fun x ek M25 r25 H locs hw hE hp => gr_t B hexc hw hE (by decide) (by decide) (hF.trans (bnd_ex hp)))
            obtain ⟨v25, rfl, hp⟩ := hp
            have hF := hF.trans (bnd_ok hp)
            refine lv_if_ne hx hb d_Mo_around_80 rfl (fun h26 => ?_) (fun h26 => ?_)
            · skip
              have hF := hF.trans (if_neg h26)
              refine lv_goto hx hb d_Mo_around_111 rfl ?_
              exact ih  _ _ _ _ _ (gv_loc hl [1, 2] rfl) hw hF
            · skip
              have hF := hF.trans (if_pos h26)
              refine lv_iconst (v := 0) hx hb d_Mo_around_83 (by decide) ?_
              exact gr_z B hw (by rfl) d_Mo_around_84 ⟨_, rfl, hF⟩
        · skip
          have hF := hF.trans (if_pos h19)
          refine lv_iconst (v := 0) hx hb d_Mo_around_51 (by decide) ?_
          exact gr_z B hw (by rfl) d_Mo_around_52 ⟨_, rfl, hF⟩
      · skip
        have hF := hF.trans (if_pos h17)
        refine lv_iload_n hx hb d_Mo_around_16 rfl (lv_at hl 2 rfl) ?_
        refine lv_if_eq hx hb d_Mo_around_17 rfl (fun h27 => ?_) (fun h27 => ?_)
        · skip
          have hF := hF.trans (if_pos h27)
          refine lv_iload_n hx hb d_Mo_around_32 rfl (lv_at hl 0 rfl) ?_
          refine lv_if_lt hx hb d_Mo_around_33 rfl (fun h28 => ?_) (fun h28 => ?_)
          · skip
            have hF := hF.trans (if_pos h28)
            refine lv_iconst (v := 0) hx hb d_Mo_around_40 (by decide) ?_
            exact gr_z B hw (by rfl) d_Mo_around_41 ⟨_, rfl, hF⟩
          · skip
            have hF := hF.trans (if_neg h28)
            refine lv_iconst (v := 1) hx hb d_Mo_around_36 (by decide) ?_
            refine lv_goto hx hb d_Mo_around_37 rfl ?_
            exact gr_z B hw (by rfl) d_Mo_around_41 ⟨_, rfl, hF⟩
        · skip
          have hF := hF.trans (if_neg h27)
          refine lv_aload_n hx hb d_Mo_around_20 rfl (lv_at hl 1 rfl) ?_
          refine lv_iconst (v := 1) hx hb d_Mo_around_21 (by decide) ?_
          refine lv_aload_n hx hb d_Mo_around_22 rfl (lv_at hl 1 rfl) ?_
          refine gf_Mo_at hx hb T hown hK hw rfl (kf_Mo_81 T) d_Mo_around_23 ?_
          refine gy_V B hl.1 hw (t_Mo_fail G _ _ ow fu 1 (M16 103 0) (nn hno hF)) (kd_Mo_fail T) (ki_Mo T) (km_Mo_88 T) (ka_Mo_fail T) (ks_Mo_fail T) ⟨by decide, by decide, by rfl⟩ (rv_Mo hK hw rfl) rfl (Nat.le_of_ble_eq_true rfl) ⟨by decide, by decide⟩ ⟨by decide, by decide⟩ d_Mo_around_26 (fun v M29 r29 H locs hw hp => ?_) (fun x ek M29 r29 H locs hw hE hp => gr_t B hexc hw hE (by decide) (by decide) (hF.trans (bnd_ex hp)))
          obtain ⟨v29, rfl, hp⟩ := hp
          have hF := hF.trans (bnd_ok hp)
          refine lv_goto hx hb d_Mo_around_29 rfl ?_
          have g30 := ng hno hF
          have hF := hF.trans (gd_yes g30)
          exact gr_z B hw g30 d_Mo_around_41 ⟨_, rfl, hF⟩
  have hF := F_Mo_around.eq_1 fu x1 M r
  exact L0 fu  _ _ _ _ _ (gv_loc hl [0, 1] rfl) hw hF
theorem d_Mo_readName_0 : decode b_Mo_readName 0 = .ok (.aload_n 0, 1) := by decide +kernel
theorem d_Mo_readName_1 : decode b_Mo_readName 1 = .ok (.aload_n 0, 1) := by decide +kernel
theorem d_Mo_readName_2 : decode b_Mo_readName 2 = .ok (.aload_n 0, 1) := by decide +kernel
theorem d_Mo_readName_3 : decode b_Mo_readName 3 = .ok (.getfield 81, 3) := by decide +kernel
theorem d_Mo_readName_6 : decode b_Mo_readName 6 = .ok (.invokevirtual 84, 3) := by decide +kernel
theorem d_Mo_readName_9 : decode b_Mo_readName 9 = .ok (.invokevirtual 68, 3) := by decide +kernel
theorem d_Mo_readName_12 : decode b_Mo_readName 12 = .ok (.ifCond .ne 13, 3) := by decide +kernel
theorem d_Mo_readName_15 : decode b_Mo_readName 15 = .ok (.aload_n 0, 1) := by decide +kernel
theorem d_Mo_readName_16 : decode b_Mo_readName 16 = .ok (.iconst 1, 1) := by decide +kernel
theorem d_Mo_readName_17 : decode b_Mo_readName 17 = .ok (.aload_n 0, 1) := by decide +kernel
theorem d_Mo_readName_18 : decode b_Mo_readName 18 = .ok (.getfield 81, 3) := by decide +kernel
theorem d_Mo_readName_21 : decode b_Mo_readName 21 = .ok (.invokevirtual 88, 3) := by decide +kernel
theorem d_Mo_readName_24 : decode b_Mo_readName 24 = .ok (.ireturn, 1) := by decide +kernel
theorem d_Mo_readName_25 : decode b_Mo_readName 25 = .ok (.aload_n 0, 1) := by decide +kernel
theorem d_Mo_readName_26 : decode b_Mo_readName 26 = .ok (.aload_n 0, 1) := by decide +kernel
theorem d_Mo_readName_27 : decode b_Mo_readName 27 = .ok (.getfield 106, 3) := by decide +kernel
theorem d_Mo_readName_30 : decode b_Mo_readName 30 = .ok (.putfield 109, 3) := by decide +kernel
theorem d_Mo_readName_33 : decode b_Mo_readName 33 = .ok (.aload_n 0, 1) := by decide +kernel
theorem d_Mo_readName_34 : decode b_Mo_readName 34 = .ok (.iconst (-1), 1) := by decide +kernel
theorem d_Mo_readName_35 : decode b_Mo_readName 35 = .ok (.putfield 112, 3) := by decide +kernel
theorem d_Mo_readName_38 : decode b_Mo_readName 38 = .ok (.aload_n 0, 1) := by decide +kernel
theorem d_Mo_readName_39 : decode b_Mo_readName 39 = .ok (.getfield 81, 3) := by decide +kernel
theorem d_Mo_readName_42 : decode b_Mo_readName 42 = .ok (.istore_n 1, 1) := by decide +kernel
theorem d_Mo_readName_43 : decode b_Mo_readName 43 = .ok (.aload_n 0, 1) := by decide +kernel
theorem d_Mo_readName_44 : decode b_Mo_readName 44 = .ok (.aload_n 0, 1) := by decide +kernel
theorem d_Mo_readName_45 : decode b_Mo_readName 45 = .ok (.aload_n 0, 1) := by decide +kernel
theorem d_Mo_readName_46 : decode b_Mo_readName 46 = .ok (.getfield 81, 3) := by decide +kernel
theorem d_Mo_readName_49 : decode b_Mo_readName 49 = .ok (.invokevirtual 84, 3) := by decide +kernel
theorem d_Mo_readName_52 : decode b_Mo_readName 52 = .ok (.invokevirtual 115, 3) := by decide +kernel
theorem d_Mo_readName_55 : decode b_Mo_readName 55 = .ok (.ifCond .ne 23, 3) := by decide +kernel
theorem d_Mo_readName_58 : decode b_Mo_readName 58 = .ok (.aload_n 0, 1) := by decide +kernel
theorem d_Mo_readName_59 : decode b_Mo_readName 59 = .ok (.aload_n 0, 1) := by decide +kernel
theorem d_Mo_readName_60 : decode b_Mo_readName 60 = .ok (.getfield 81, 3) := by decide +kernel
theorem d_Mo_readName_63 : decode b_Mo_readName 63 = .ok (.invokevirtual 84, 3) := by decide +kernel
theorem d_Mo_readName_66 : decode b_Mo_readName 66 = .ok (.bipush 58, 2) := by decide +kernel
theorem d_Mo_readName_68 : decode b_Mo_readName 68 = .ok (.if_icmp .ne 103, 3) := by decide +kernel
theorem d_Mo_readName_71 : decode b_Mo_readName 71 = .ok (.aload_n 0, 1) := by decide +kernel
theorem d_Mo_readName_72 : decode b_Mo_readName 72 = .ok (.getfield 112, 3) := by decide +kernel
theorem d_Mo_readName_75 : decode b_Mo_readName 75 = .ok (.ifCond .ge 96, 3) := by decide +kernel
theorem d_Mo_readName_78 : decode b_Mo_readName 78 = .ok (.aload_n 0, 1) := by decide +kernel
theorem d_Mo_readName_79 : decode b_Mo_readName 79 = .ok (.aload_n 0, 1) := by decide +kernel
theorem d_Mo_readName_80 : decode b_Mo_readName 80 = .ok (.getfield 81, 3) := by decide +kernel
theorem d_Mo_readName_83 : decode b_Mo_readName 83 = .ok (.invokevirtual 84, 3) := by decide +kernel
theorem d_Mo_readName_86 : decode b_Mo_readName 86 = .ok (.bipush 58, 2) := by decide +kernel
theorem d_Mo_readName_88 : decode b_Mo_readName 88 = .ok (.if_icmp .ne 42, 3) := by decide +kernel
theorem d_Mo_readName_91 : decode b_Mo_readName 91 = .ok (.aload_n 0, 1) := by decide +kernel
theorem d_Mo_readName_92 : decode b_Mo_readName 92 = .ok (.aload_n 0, 1) := by decide +kernel
theorem d_Mo_readName_93 : decode b_Mo_readName 93 = .ok (.getfield 81, 3) := by decide +kernel
theorem d_Mo_readName_96 : decode b_Mo_readName 96 = .ok (.iload_n 1, 1) := by decide +kernel
theorem d_Mo_readName_97 : decode b_Mo_readName 97 = .ok (.isub, 1) := by decide +kernel
theorem d_Mo_readName_98 : decode b_Mo_readName 98 = .ok (.putfield 112, 3) := by decide +kernel
theorem d_Mo_readName_101 : decode b_Mo_readName 101 = .ok (.aload_n 0, 1) := by decide +kernel
theorem d_Mo_readName_102 : decode b_Mo_readName 102 = .ok (.aload_n 0, 1) := by decide +kernel
theorem d_Mo_readName_103 : decode b_Mo_readName 103 = .ok (.aload_n 0, 1) := by decide +kernel
theorem d_Mo_readName_104 : decode b_Mo_readName 104 = .ok (.getfield 81, 3) := by decide +kernel
theorem d_Mo_readName_107 : decode b_Mo_readName 107 = .ok (.iconst 1, 1) := by decide +kernel
theorem d_Mo_readName_108 : decode b_Mo_readName 108 = .ok (.iadd, 1) := by decide +kernel
theorem d_Mo_readName_109 : decode b_Mo_readName 109 = .ok (.invokevirtual 84, 3) := by decide +kernel
theorem d_Mo_readName_112 : decode b_Mo_readName 112 = .ok (.invokevirtual 68, 3) := by decide +kernel
theorem d_Mo_readName_115 : decode b_Mo_readName 115 = .ok (.ifCond .ne 15, 3) := by decide +kernel
theorem d_Mo_readName_118 : decode b_Mo_readName 118 = .ok (.aload_n 0, 1) := by decide +kernel
theorem d_Mo_readName_119 : decode b_Mo_readName 119 = .ok (.iconst 1, 1) := by decide +kernel
theorem d_Mo_readName_120 : decode b_Mo_readName 120 = .ok (.aload_n 0, 1) := by decide +kernel
theorem d_Mo_readName_121 : decode b_Mo_readName 121 = .ok (.getfield 81, 3) := by decide +kernel
theorem d_Mo_readName_124 : decode b_Mo_readName 124 = .ok (.iconst 1, 1) := by decide +kernel
theorem d_Mo_readName_125 : decode b_Mo_readName 125 = .ok (.iadd, 1) := by decide +kernel
theorem d_Mo_readName_126 : decode b_Mo_readName 126 = .ok (.invokevirtual 88, 3) := by decide +kernel
theorem d_Mo_readName_129 : decode b_Mo_readName 129 = .ok (.ireturn, 1) := by decide +kernel
theorem d_Mo_readName_130 : decode b_Mo_readName 130 = .ok (.aload_n 0, 1) := by decide +kernel
theorem d_Mo_readName_131 : decode b_Mo_readName 131 = .ok (.getfield 17, 3) := by decide +kernel
theorem d_Mo_readName_134 : decode b_Mo_readName 134 = .ok (.aload_n 0, 1) := by decide +kernel
theorem d_Mo_readName_135 : decode b_Mo_readName 135 = .ok (.getfield 106, 3) := by decide +kernel
theorem d_Mo_readName_138 : decode b_Mo_readName 138 = .ok (.aload_n 0, 1) := by decide +kernel
theorem d_Mo_readName_139 : decode b_Mo_readName 139 = .ok (.getfield 7, 3) := by decide +kernel
theorem d_Mo_readName_142 : decode b_Mo_readName 142 = .ok (.aload_n 0, 1) := by decide +kernel
theorem d_Mo_readName_143 : decode b_Mo_readName 143 = .ok (.getfield 81, 3) := by decide +kernel
theorem d_Mo_readName_146 : decode b_Mo_readName 146 = .ok (.iaload, 1) := by decide +kernel
theorem d_Mo_readName_147 : decode b_Mo_readName 147 = .ok (.iastore, 1) := by decide +kernel
theorem d_Mo_readName_148 : decode b_Mo_readName 148 = .ok (.aload_n 0, 1) := by decide +kernel
theorem d_Mo_readName_149 : decode b_Mo_readName 149 = .ok (.dup, 1) := by decide +kernel
theorem d_Mo_readName_150 : decode b_Mo_readName 150 = .ok (.getfield 106, 3) := by decide +kernel
theorem d_Mo_readName_153 : decode b_Mo_readName 153 = .ok (.iconst 1, 1) := by decide +kernel
theorem d_Mo_readName_154 : decode b_Mo_readName 154 = .ok (.iadd, 1) := by decide +kernel
theorem d_Mo_readName_155 : decode b_Mo_readName 155 = .ok (.putfield 106, 3) := by decide +kernel
theorem d_Mo_readName_158 : decode b_Mo_readName 158 = .ok (.aload_n 0, 1) := by decide +kernel
theorem d_Mo_readName_159 : decode b_Mo_readName 159 = .ok (.dup, 1) := by decide +kernel
theorem d_Mo_readName_160 : decode b_Mo_readName 160 = .ok (.getfield 81, 3) := by decide +kernel
theorem d_Mo_readName_163 : decode b_Mo_readName 163 = .ok (.iconst 1, 1) := by decide +kernel
theorem d_Mo_readName_164 : decode b_Mo_readName 164 = .ok (.iadd, 1) := by decide +kernel
theorem d_Mo_readName_165 : decode b_Mo_readName 165 = .ok (.putfield 81, 3) := by decide +kernel
theorem d_Mo_readName_168 : decode b_Mo_readName 168 = .ok (.goto (-125), 3) := by decide +kernel
theorem d_Mo_readName_171 : decode b_Mo_readName 171 = .ok (.aload_n 0, 1) := by decide +kernel
theorem d_Mo_readName_172 : decode b_Mo_readName 172 = .ok (.aload_n 0, 1) := by decide +kernel
theorem d_Mo_readName_173 : decode b_Mo_readName 173 = .ok (.getfield 106, 3) := by decide +kernel
theorem d_Mo_readName_176 : decode b_Mo_readName 176 = .ok (.aload_n 0, 1) := by decide +kernel
theorem d_Mo_readName_177 : decode b_Mo_readName 177 = .ok (.getfield 109, 3) := by decide +kernel
theorem d_Mo_readName_180 : decode b_Mo_readName 180 = .ok (.isub, 1) := by decide +kernel
theorem d_Mo_readName_181 : decode b_Mo_readName 181 = .ok (.putfield 118, 3) := by decide +kernel
theorem d_Mo_readName_184 : decode b_Mo_readName 184 = .ok (.iconst 1, 1) := by decide +kernel
theorem d_Mo_readName_185 : decode b_Mo_readName 185 = .ok (.ireturn, 1) := by decide +kernel
set_option maxHeartbeats 4000000 in
set_option maxRecDepth 100000 in
theorem t_Mo_readName {l : Launch} {s0 : State} {D : va_G} {aC : Nat → ClassId} {a0 : Array Value} (G : gG l s0 D aC a0) (M : gMem) (r : gRef) (ow : Int64) (fu : Nat)  (hno : F_Mo_readName fu M r ≠ .no) : gMet l s0 D aC y_Mo_readName (Cond.code y_Mo_readName b_Mo_readName 2 (some .boolean)) 2 42 0 0 [.ref (s0.heap.size + 383)] M r ow (qI (F_Mo_readName fu M r)) (qT (F_Mo_readName fu M r)) := by
  refine gm_of G (by decide) (Nat.le_of_ble_eq_true rfl) ?_
  intro p e s m below meth c ls B hexc hl hw
  have hx := B.1
  have hb := B.2.1
  have hown := B.2.2.2.2.2.1
  have T := B.2.2.2.2.2.2.1
  have hK := B.2.2.2.2.2.2.2.1
  have X171 : ∀ (M1 : gMem) (r1 : gRef) (H : Heap) (locs : List Loc) (ls : Array Slot), lv_has ls 2 [(0, .ref (s0.heap.size + 383))] → gWd s0 D aC M1 r1 ow H locs → F_Mo_readName fu M r = F_Mo_readName_B171 fu M1 r1 → W p l e (gRm 2 42 0 0) s m ([.ref (s0.heap.size + 383)] : List Value).toArray below meth c H locs 0 0 (gt_Q below (gQ s0 D aC ow (qI (F_Mo_readName fu M r)) (qT (F_Mo_readName fu M r))) s 0 0 0 0 (fun q => s0.heap.size ≤ q)) (F0 m 171 ls []) := by
    intro  M1 r1 H locs ls hl hw hF
    have hF := hF.trans (F_Mo_readName_B171.eq_1 _ _ _)
    refine lv_aload_n hx hb d_Mo_readName_171 rfl (lv_at hl 0 rfl) ?_
    refine lv_aload_n hx hb d_Mo_readName_172 rfl (lv_at hl 0 rfl) ?_
    refine gf_Mo_used hx hb T hown hK hw rfl (kf_Mo_106 T) d_Mo_readName_173 ?_
    refine lv_aload_n hx hb d_Mo_readName_176 rfl (lv_at hl 0 rfl) ?_
    refine gf_Mo_begun hx hb T hown hK hw rfl (kf_Mo_109 T) d_Mo_readName_177 ?_
    refine lv_isub hx hb d_Mo_readName_180 ?_
    refine pf_Mo_long0 hx hb T hown hK hw rfl (kf_Mo_118 T) d_Mo_readName_181 (fun H locs hw => ?_)
    refine lv_iconst (v := 1) hx hb d_Mo_readName_184 (by decide) ?_
    exact gr_z B hw (by rfl) d_Mo_readName_185 ⟨_, rfl, hF⟩
  have L43 : ∀ (d : Nat) (x1 : Int32) (M1 : gMem) (r1 : gRef) (H : Heap) (locs : List Loc) (ls : Array Slot), lv_has ls 2 [(1, .int x1), (0, .ref (s0.heap.size + 383))] → gWd s0 D aC M1 r1 ow H locs → F_Mo_readName fu M r = F_Mo_readName_L43 fu d x1 M1 r1 → W p l e (gRm 2 42 0 0) s m ([.ref (s0.heap.size + 383)] : List Value).toArray below meth c H locs 0 0 (gt_Q below (gQ s0 D aC ow (qI (F_Mo_readName fu M r)) (qT (F_Mo_readName fu M r))) s 0 0 0 0 (fun q => s0.heap.size ≤ q)) (F0 m 43 ls []) := by
    intro d
    induction d with
    | zero => intro x1 M1 r1 H locs ls hl hw hF; exact absurd hF hno
    | succ d ih =>
      intro x1 M1 r1 H locs ls hl hw hF
      have hF := hF.trans (F_Mo_readName_L43.eq_2 _ _ _ _ _)
      refine lv_aload_n hx hb d_Mo_readName_43 rfl (lv_at hl 1 rfl) ?_
      refine lv_aload_n hx hb d_Mo_readName_44 rfl (lv_at hl 1 rfl) ?_
      refine lv_aload_n hx hb d_Mo_readName_45 rfl (lv_at hl 1 rfl) ?_
      refine gf_Mo_at hx hb T hown hK hw rfl (kf_Mo_81 T) d_Mo_readName_46 ?_
      refine gy_V B hl.1 hw (t_Mo_here G _ _ ow fu (M1 103 0) (nn hno hF)) (kd_Mo_here T) (ki_Mo T) (km_Mo_84 T) (ka_Mo_here T) (ks_Mo_here T) ⟨by decide, by decide, by rfl⟩ (rv_Mo hK hw rfl) rfl (Nat.le_of_ble_eq_true rfl) ⟨by decide, by decide⟩ ⟨by decide, by decide⟩ d_Mo_readName_49 (fun v M34 r34 H locs hw hp => ?_) (fun x ek M34 r34 H locs hw hE hp => gr_t B hexc hw hE (by decide) (by decide) (hF.trans (bnd_ex hp)))
      obtain ⟨v34, rfl, hp⟩ := hp
      have hF := hF.trans (bnd_ok hp)
      refine gy_V B hl.1 hw (t_Mo_goesOn G _ _ ow fu v34 (nn hno hF)) (kd_Mo_goesOn T) (ki_Mo T) (km_Mo_115 T) (ka_Mo_goesOn T) (ks_Mo_goesOn T) ⟨by decide, by decide, by rfl⟩ (rv_Mo hK hw rfl) rfl (Nat.le_of_ble_eq_true rfl) ⟨by decide, by decide⟩ ⟨by decide, by decide⟩ d_Mo_readName_52 (fun v M35 r35 H locs hw hp => ?_) (fun x ek M35 r35 H locs hw hE hp => gr_t B hexc hw hE (by decide) (by decide) (hF.trans (bnd_ex hp)))
      obtain ⟨v35, rfl, hp⟩ := hp
      have hF := hF.trans (bnd_ok hp)
      refine lv_if_ne hx hb d_Mo_readName_55 rfl (fun h36 => ?_) (fun h36 => ?_)
      · skip
        have hF := hF.trans (if_neg h36)
        refine lv_aload_n hx hb d_Mo_readName_78 rfl (lv_at hl 1 rfl) ?_
        refine lv_aload_n hx hb d_Mo_readName_79 rfl (lv_at hl 1 rfl) ?_
        refine gf_Mo_at hx hb T hown hK hw rfl (kf_Mo_81 T) d_Mo_readName_80 ?_
        refine gy_V B hl.1 hw (t_Mo_here G _ _ ow fu (M35 103 0) (nn hno hF)) (kd_Mo_here T) (ki_Mo T) (km_Mo_84 T) (ka_Mo_here T) (ks_Mo_here T) ⟨by decide, by decide, by rfl⟩ (rv_Mo hK hw rfl) rfl (Nat.le_of_ble_eq_true rfl) ⟨by decide, by decide⟩ ⟨by decide, by decide⟩ d_Mo_readName_83 (fun v M37 r37 H locs hw hp => ?_) (fun x ek M37 r37 H locs hw hE hp => gr_t B hexc hw hE (by decide) (by decide) (hF.trans (bnd_ex hp)))
        obtain ⟨v37, rfl, hp⟩ := hp
        have hF := hF.trans (bnd_ok hp)
        refine lv_bipush (v := 58) hx hb d_Mo_readName_86 (by decide) ?_
        refine lv_icmp_ne hx hb d_Mo_readName_88 rfl (fun h38 => ?_) (fun h38 => ?_)
        · skip
          have hF := hF.trans (if_neg h38)
          refine lv_aload_n hx hb d_Mo_readName_130 rfl (lv_at hl 1 rfl) ?_
          refine gf_Mo_pool hx hb T hown hK hw rfl (kf_Mo_17 T) d_Mo_readName_131 ?_
          refine lv_aload_n hx hb d_Mo_readName_134 rfl (lv_at hl 1 rfl) ?_
          refine gf_Mo_used hx hb T hown hK hw rfl (kf_Mo_106 T) d_Mo_readName_135 ?_
          refine lv_aload_n hx hb d_Mo_readName_138 rfl (lv_at hl 1 rfl) ?_
          refine gf_Mo_text hx hb T hown hK hw rfl (kf_Mo_7 T) d_Mo_readName_139 ?_
          refine lv_aload_n hx hb d_Mo_readName_142 rfl (lv_at hl 1 rfl) ?_
          refine gf_Mo_at hx hb T hown hK hw rfl (kf_Mo_81 T) d_Mo_readName_143 ?_
          have g39 := ng hno hF
          have hF := hF.trans (gd_yes g39)
          refine ga_Mo_text hx hb hK hw rfl g39 d_Mo_readName_146 ?_
          have g40 := ng hno hF
          have hF := hF.trans (gd_yes g40)
          refine gs_Mo_pool hx hb hK hw rfl g40 d_Mo_readName_147 (fun H locs hw => ?_)
          refine lv_aload_n hx hb d_Mo_readName_148 rfl (lv_at hl 1 rfl) ?_
          refine lv_dup hx hb d_Mo_readName_149 rfl ?_
          refine gf_Mo_used hx hb T hown hK hw rfl (kf_Mo_106 T) d_Mo_readName_150 ?_
          refine lv_iconst (v := 1) hx hb d_Mo_readName_153 (by decide) ?_
          refine lv_iadd hx hb d_Mo_readName_154 ?_
          refine pf_Mo_used hx hb T hown hK hw rfl (kf_Mo_106 T) d_Mo_readName_155 (fun H locs hw => ?_)
          refine lv_aload_n hx hb d_Mo_readName_158 rfl (lv_at hl 1 rfl) ?_
          refine lv_dup hx hb d_Mo_readName_159 rfl ?_
          refine gf_Mo_at hx hb T hown hK hw rfl (kf_Mo_81 T) d_Mo_readName_160 ?_
          refine lv_iconst (v := 1) hx hb d_Mo_readName_163 (by decide) ?_
          refine lv_iadd hx hb d_Mo_readName_164 ?_
          refine pf_Mo_at hx hb T hown hK hw rfl (kf_Mo_81 T) d_Mo_readName_165 (fun H locs hw => ?_)
          refine lv_goto hx hb d_Mo_readName_168 rfl ?_
          exact ih x1 _ _ _ _ _ (gv_loc hl [0, 1] rfl) hw hF
        · skip
          have hF := hF.trans (if_pos h38)
          refine lv_aload_n hx hb d_Mo_readName_91 rfl (lv_at hl 1 rfl) ?_
          refine lv_aload_n hx hb d_Mo_readName_92 rfl (lv_at hl 1 rfl) ?_
          refine gf_Mo_at hx hb T hown hK hw rfl (kf_Mo_81 T) d_Mo_readName_93 ?_
          refine lv_iload_n hx hb d_Mo_readName_96 rfl (lv_at hl 0 rfl) ?_
          refine lv_isub hx hb d_Mo_readName_97 ?_
          refine pf_Mo_colonAt hx hb T hown hK hw rfl (kf_Mo_112 T) d_Mo_readName_98 (fun H locs hw => ?_)
          refine lv_aload_n hx hb d_Mo_readName_101 rfl (lv_at hl 1 rfl) ?_
          refine lv_aload_n hx hb d_Mo_readName_102 rfl (lv_at hl 1 rfl) ?_
          refine lv_aload_n hx hb d_Mo_readName_103 rfl (lv_at hl 1 rfl) ?_
          refine gf_Mo_at hx hb T hown hK hw rfl (kf_Mo_81 T) d_Mo_readName_104 ?_
          refine lv_iconst (v := 1) hx hb d_Mo_readName_107 (by decide) ?_
          refine lv_iadd hx hb d_Mo_readName_108 ?_
          refine gy_V B hl.1 hw (t_Mo_here G _ _ ow fu (((mS M37 133 0 ((M37 103 0) - x1)) 103 0) + 1) (nn hno hF)) (kd_Mo_here T) (ki_Mo T) (km_Mo_84 T) (ka_Mo_here T) (ks_Mo_here T) ⟨by decide, by decide, by rfl⟩ (rv_Mo hK hw rfl) rfl (Nat.le_of_ble_eq_true rfl) ⟨by decide, by decide⟩ ⟨by decide, by decide⟩ d_Mo_readName_109 (fun v M41 r41 H locs hw hp => ?_) (fun x ek M41 r41 H locs hw hE hp => gr_t B hexc hw hE (by decide) (by decide) (hF.trans (bnd_ex hp)))
          obtain ⟨v41, rfl, hp⟩ := hp
          have hF := hF.trans (bnd_ok hp)
          refine gy_V B hl.1 hw (t_Mo_starts G _ _ ow fu v41 (nn hno hF)) (kd_Mo_starts T) (ki_Mo T) (km_Mo_68 T) (ka_Mo_starts T) (ks_Mo_starts T) ⟨by decide, by decide, by rfl⟩ (rv_Mo hK hw rfl) rfl (Nat.le_of_ble_eq_true rfl) ⟨by decide, by decide⟩ ⟨by decide, by decide⟩ d_Mo_readName_112 (fun v M42 r42 H locs hw hp => ?_) (fun x ek M42 r42 H locs hw hE hp => gr_t B hexc hw hE (by decide) (by decide) (hF.trans (bnd_ex hp)))
          obtain ⟨v42, rfl, hp⟩ := hp
          have hF := hF.trans (bnd_ok hp)
          refine lv_if_ne hx hb d_Mo_readName_115 rfl (fun h43 => ?_) (fun h43 => ?_)
          · skip
            have hF := hF.trans (if_neg h43)
            refine lv_aload_n hx hb d_Mo_readName_130 rfl (lv_at hl 1 rfl) ?_
            refine gf_Mo_pool hx hb T hown hK hw rfl (kf_Mo_17 T) d_Mo_readName_131 ?_
            refine lv_aload_n hx hb d_Mo_readName_134 rfl (lv_at hl 1 rfl) ?_
            refine gf_Mo_used hx hb T hown hK hw rfl (kf_Mo_106 T) d_Mo_readName_135 ?_
            refine lv_aload_n hx hb d_Mo_readName_138 rfl (lv_at hl 1 rfl) ?_
            refine gf_Mo_text hx hb T hown hK hw rfl (kf_Mo_7 T) d_Mo_readName_139 ?_
            refine lv_aload_n hx hb d_Mo_readName_142 rfl (lv_at hl 1 rfl) ?_
            refine gf_Mo_at hx hb T hown hK hw rfl (kf_Mo_81 T) d_Mo_readName_143 ?_
            have g44 := ng hno hF
            have hF := hF.trans (gd_yes g44)
            refine ga_Mo_text hx hb hK hw rfl g44 d_Mo_readName_146 ?_
            have g45 := ng hno hF
            have hF := hF.trans (gd_yes g45)
            refine gs_Mo_pool hx hb hK hw rfl g45 d_Mo_readName_147 (fun H locs hw => ?_)
            refine lv_aload_n hx hb d_Mo_readName_148 rfl (lv_at hl 1 rfl) ?_
            refine lv_dup hx hb d_Mo_readName_149 rfl ?_
            refine gf_Mo_used hx hb T hown hK hw rfl (kf_Mo_106 T) d_Mo_readName_150 ?_
            refine lv_iconst (v := 1) hx hb d_Mo_readName_153 (by decide) ?_
            refine lv_iadd hx hb d_Mo_readName_154 ?_
            refine pf_Mo_used hx hb T hown hK hw rfl (kf_Mo_106 T) d_Mo_readName_155 (fun H locs hw => ?_)
            refine lv_aload_n hx hb d_Mo_readName_158 rfl (lv_at hl 1 rfl) ?_
            refine lv_dup hx hb d_Mo_readName_159 rfl ?_
            refine gf_Mo_at hx hb T hown hK hw rfl (kf_Mo_81 T) d_Mo_readName_160 ?_
            refine lv_iconst (v := 1) hx hb d_Mo_readName_163 (by decide) ?_
            refine lv_iadd hx hb d_Mo_readName_164 ?_
            refine pf_Mo_at hx hb T hown hK hw rfl (kf_Mo_81 T) d_Mo_readName_165 (fun H locs hw => ?_)
            refine lv_goto hx hb d_Mo_readName_168 rfl ?_
            exact ih x1 _ _ _ _ _ (gv_loc hl [0, 1] rfl) hw hF
          · skip
            have hF := hF.trans (if_pos h43)
            refine lv_aload_n hx hb d_Mo_readName_118 rfl (lv_at hl 1 rfl) ?_
            refine lv_iconst (v := 1) hx hb d_Mo_readName_119 (by decide) ?_
            refine lv_aload_n hx hb d_Mo_readName_120 rfl (lv_at hl 1 rfl) ?_
            refine gf_Mo_at hx hb T hown hK hw rfl (kf_Mo_81 T) d_Mo_readName_121 ?_
            refine lv_iconst (v := 1) hx hb d_Mo_readName_124 (by decide) ?_
            refine lv_iadd hx hb d_Mo_readName_125 ?_
            refine gy_V B hl.1 hw (t_Mo_fail G _ _ ow fu 1 ((M42 103 0) + 1) (nn hno hF)) (kd_Mo_fail T) (ki_Mo T) (km_Mo_88 T) (ka_Mo_fail T) (ks_Mo_fail T) ⟨by decide, by decide, by rfl⟩ (rv_Mo hK hw rfl) rfl (Nat.le_of_ble_eq_true rfl) ⟨by decide, by decide⟩ ⟨by decide, by decide⟩ d_Mo_readName_126 (fun v M46 r46 H locs hw hp => ?_) (fun x ek M46 r46 H locs hw hE hp => gr_t B hexc hw hE (by decide) (by decide) (hF.trans (bnd_ex hp)))
            obtain ⟨v46, rfl, hp⟩ := hp
            have hF := hF.trans (bnd_ok hp)
            have g47 := ng hno hF
            have hF := hF.trans (gd_yes g47)
            exact gr_z B hw g47 d_Mo_readName_129 ⟨_, rfl, hF⟩
      · skip
        have hF := hF.trans (if_pos h36)
        refine lv_aload_n hx hb d_Mo_readName_58 rfl (lv_at hl 1 rfl) ?_
        refine lv_aload_n hx hb d_Mo_readName_59 rfl (lv_at hl 1 rfl) ?_
        refine gf_Mo_at hx hb T hown hK hw rfl (kf_Mo_81 T) d_Mo_readName_60 ?_
        refine gy_V B hl.1 hw (t_Mo_here G _ _ ow fu (M35 103 0) (nn hno hF)) (kd_Mo_here T) (ki_Mo T) (km_Mo_84 T) (ka_Mo_here T) (ks_Mo_here T) ⟨by decide, by decide, by rfl⟩ (rv_Mo hK hw rfl) rfl (Nat.le_of_ble_eq_true rfl) ⟨by decide, by decide⟩ ⟨by decide, by decide⟩ d_Mo_readName_63 (fun v M48 r48 H locs hw hp => ?_) (fun x ek M48 r48 H locs hw hE hp => gr_t B hexc hw hE (by decide) (by decide) (hF.trans (bnd_ex hp)))
        obtain ⟨v48, rfl, hp⟩ := hp
        have hF := hF.trans (bnd_ok hp)
        refine lv_bipush (v := 58) hx hb d_Mo_readName_66 (by decide) ?_
        refine lv_icmp_ne hx hb d_Mo_readName_68 rfl (fun h49 => ?_) (fun h49 => ?_)
        · skip
          have hF := hF.trans (if_neg h49)
          exact X171  _ _ _ _ _ (gv_loc hl [1] rfl) hw hF
        · skip
          have hF := hF.trans (if_pos h49)
          refine lv_aload_n hx hb d_Mo_readName_71 rfl (lv_at hl 1 rfl) ?_
          refine gf_Mo_colonAt hx hb T hown hK hw rfl (kf_Mo_112 T) d_Mo_readName_72 ?_
          refine lv_if_ge hx hb d_Mo_readName_75 rfl (fun h50 => ?_) (fun h50 => ?_)
          · skip
            have hF := hF.trans (if_pos h50)
            exact X171  _ _ _ _ _ (gv_loc hl [1] rfl) hw hF
          · skip
            have hF := hF.trans (if_neg h50)
            refine lv_aload_n hx hb d_Mo_readName_78 rfl (lv_at hl 1 rfl) ?_
            refine lv_aload_n hx hb d_Mo_readName_79 rfl (lv_at hl 1 rfl) ?_
            refine gf_Mo_at hx hb T hown hK hw rfl (kf_Mo_81 T) d_Mo_readName_80 ?_
            refine gy_V B hl.1 hw (t_Mo_here G _ _ ow fu (M48 103 0) (nn hno hF)) (kd_Mo_here T) (ki_Mo T) (km_Mo_84 T) (ka_Mo_here T) (ks_Mo_here T) ⟨by decide, by decide, by rfl⟩ (rv_Mo hK hw rfl) rfl (Nat.le_of_ble_eq_true rfl) ⟨by decide, by decide⟩ ⟨by decide, by decide⟩ d_Mo_readName_83 (fun v M51 r51 H locs hw hp => ?_) (fun x ek M51 r51 H locs hw hE hp => gr_t B hexc hw hE (by decide) (by decide) (hF.trans (bnd_ex hp)))
            obtain ⟨v51, rfl, hp⟩ := hp
            have hF := hF.trans (bnd_ok hp)
            refine lv_bipush (v := 58) hx hb d_Mo_readName_86 (by decide) ?_
            refine lv_icmp_ne hx hb d_Mo_readName_88 rfl (fun h52 => ?_) (fun h52 => ?_)
            · skip
              have hF := hF.trans (if_neg h52)
              refine lv_aload_n hx hb d_Mo_readName_130 rfl (lv_at hl 1 rfl) ?_
              refine gf_Mo_pool hx hb T hown hK hw rfl (kf_Mo_17 T) d_Mo_readName_131 ?_
              refine lv_aload_n hx hb d_Mo_readName_134 rfl (lv_at hl 1 rfl) ?_
              refine gf_Mo_used hx hb T hown hK hw rfl (kf_Mo_106 T) d_Mo_readName_135 ?_
              refine lv_aload_n hx hb d_Mo_readName_138 rfl (lv_at hl 1 rfl) ?_
              refine gf_Mo_text hx hb T hown hK hw rfl (kf_Mo_7 T) d_Mo_readName_139 ?_
              refine lv_aload_n hx hb d_Mo_readName_142 rfl (lv_at hl 1 rfl) ?_
              refine gf_Mo_at hx hb T hown hK hw rfl (kf_Mo_81 T) d_Mo_readName_143 ?_
              have g53 := ng hno hF
              have hF := hF.trans (gd_yes g53)
              refine ga_Mo_text hx hb hK hw rfl g53 d_Mo_readName_146 ?_
              have g54 := ng hno hF
              have hF := hF.trans (gd_yes g54)
              refine gs_Mo_pool hx hb hK hw rfl g54 d_Mo_readName_147 (fun H locs hw => ?_)
              refine lv_aload_n hx hb d_Mo_readName_148 rfl (lv_at hl 1 rfl) ?_
              refine lv_dup hx hb d_Mo_readName_149 rfl ?_
              refine gf_Mo_used hx hb T hown hK hw rfl (kf_Mo_106 T) d_Mo_readName_150 ?_
              refine lv_iconst (v := 1) hx hb d_Mo_readName_153 (by decide) ?_
              refine lv_iadd hx hb d_Mo_readName_154 ?_
              refine pf_Mo_used hx hb T hown hK hw rfl (kf_Mo_106 T) d_Mo_readName_155 (fun H locs hw => ?_)
              refine lv_aload_n hx hb d_Mo_readName_158 rfl (lv_at hl 1 rfl) ?_
              refine lv_dup hx hb d_Mo_readName_159 rfl ?_
              refine gf_Mo_at hx hb T hown hK hw rfl (kf_Mo_81 T) d_Mo_readName_160 ?_
              refine lv_iconst (v := 1) hx hb d_Mo_readName_163 (by decide) ?_
              refine lv_iadd hx hb d_Mo_readName_164 ?_
              refine pf_Mo_at hx hb T hown hK hw rfl (kf_Mo_81 T) d_Mo_readName_165 (fun H locs hw => ?_)
              refine lv_goto hx hb d_Mo_readName_168 rfl ?_
              exact ih x1 _ _ _ _ _ (gv_loc hl [0, 1] rfl) hw hF
            · skip
              have hF := hF.trans (if_pos h52)
              refine lv_aload_n hx hb d_Mo_readName_91 rfl (lv_at hl 1 rfl) ?_
              refine lv_aload_n hx hb d_Mo_readName_92 rfl (lv_at hl 1 rfl) ?_
              refine gf_Mo_at hx hb T hown hK hw rfl (kf_Mo_81 T) d_Mo_readName_93 ?_
              refine lv_iload_n hx hb d_Mo_readName_96 rfl (lv_at hl 0 rfl) ?_
              refine lv_isub hx hb d_Mo_readName_97 ?_
              refine pf_Mo_colonAt hx hb T hown hK hw rfl (kf_Mo_112 T) d_Mo_readName_98 (fun H locs hw => ?_)
              refine lv_aload_n hx hb d_Mo_readName_101 rfl (lv_at hl 1 rfl) ?_
              refine lv_aload_n hx hb d_Mo_readName_102 rfl (lv_at hl 1 rfl) ?_
              refine lv_aload_n hx hb d_Mo_readName_103 rfl (lv_at hl 1 rfl) ?_
              refine gf_Mo_at hx hb T hown hK hw rfl (kf_Mo_81 T) d_Mo_readName_104 ?_
              refine lv_iconst (v := 1) hx hb d_Mo_readName_107 (by decide) ?_
              refine lv_iadd hx hb d_Mo_readName_108 ?_
              refine gy_V B hl.1 hw (t_Mo_here G _ _ ow fu (((mS M51 133 0 ((M51 103 0) - x1)) 103 0) + 1) (nn hno hF)) (kd_Mo_here T) (ki_Mo T) (km_Mo_84 T) (ka_Mo_here T) (ks_Mo_here T) ⟨by decide, by decide, by rfl⟩ (rv_Mo hK hw rfl) rfl (Nat.le_of_ble_eq_true rfl) ⟨by decide, by decide⟩ ⟨by decide, by decide⟩ d_Mo_readName_109 (fun v M55 r55 H locs hw hp => ?_) (fun x ek M55 r55 H locs hw hE hp => gr_t B hexc hw hE (by decide) (by decide) (hF.trans (bnd_ex hp)))
              obtain ⟨v55, rfl, hp⟩ := hp
              have hF := hF.trans (bnd_ok hp)
              refine gy_V B hl.1 hw (t_Mo_starts G _ _ ow fu v55 (nn hno hF)) (kd_Mo_starts T) (ki_Mo T) (km_Mo_68 T) (ka_Mo_starts T) (ks_Mo_starts T) ⟨by decide, by decide, by rfl⟩ (rv_Mo hK hw rfl) rfl (Nat.le_of_ble_eq_true rfl) ⟨by decide, by decide⟩ ⟨by decide, by decide⟩ d_Mo_readName_112 (fun v M56 r56 H locs hw hp => ?_) (fun x ek M56 r56 H locs hw hE hp => gr_t B hexc hw hE (by decide) (by decide) (hF.trans (bnd_ex hp)))
              obtain ⟨v56, rfl, hp⟩ := hp
              have hF := hF.trans (bnd_ok hp)
              refine lv_if_ne hx hb d_Mo_readName_115 rfl (fun h57 => ?_) (fun h57 => ?_)
              · skip
                have hF := hF.trans (if_neg h57)
                refine lv_aload_n hx hb d_Mo_readName_130 rfl (lv_at hl 1 rfl) ?_
                refine gf_Mo_pool hx hb T hown hK hw rfl (kf_Mo_17 T) d_Mo_readName_131 ?_
                refine lv_aload_n hx hb d_Mo_readName_134 rfl (lv_at hl 1 rfl) ?_
                refine gf_Mo_used hx hb T hown hK hw rfl (kf_Mo_106 T) d_Mo_readName_135 ?_
                refine lv_aload_n hx hb d_Mo_readName_138 rfl (lv_at hl 1 rfl) ?_
                refine gf_Mo_text hx hb T hown hK hw rfl (kf_Mo_7 T) d_Mo_readName_139 ?_
                refine lv_aload_n hx hb d_Mo_readName_142 rfl (lv_at hl 1 rfl) ?_
                refine gf_Mo_at hx hb T hown hK hw rfl (kf_Mo_81 T) d_Mo_readName_143 ?_
                have g58 := ng hno hF
                have hF := hF.trans (gd_yes g58)
                refine ga_Mo_text hx hb hK hw rfl g58 d_Mo_readName_146 ?_
                have g59 := ng hno hF
                have hF := hF.trans (gd_yes g59)
                refine gs_Mo_pool hx hb hK hw rfl g59 d_Mo_readName_147 (fun H locs hw => ?_)
                refine lv_aload_n hx hb d_Mo_readName_148 rfl (lv_at hl 1 rfl) ?_
                refine lv_dup hx hb d_Mo_readName_149 rfl ?_
                refine gf_Mo_used hx hb T hown hK hw rfl (kf_Mo_106 T) d_Mo_readName_150 ?_
                refine lv_iconst (v := 1) hx hb d_Mo_readName_153 (by decide) ?_
                refine lv_iadd hx hb d_Mo_readName_154 ?_
                refine pf_Mo_used hx hb T hown hK hw rfl (kf_Mo_106 T) d_Mo_readName_155 (fun H locs hw => ?_)
                refine lv_aload_n hx hb d_Mo_readName_158 rfl (lv_at hl 1 rfl) ?_
                refine lv_dup hx hb d_Mo_readName_159 rfl ?_
                refine gf_Mo_at hx hb T hown hK hw rfl (kf_Mo_81 T) d_Mo_readName_160 ?_
                refine lv_iconst (v := 1) hx hb d_Mo_readName_163 (by decide) ?_
                refine lv_iadd hx hb d_Mo_readName_164 ?_
                refine pf_Mo_at hx hb T hown hK hw rfl (kf_Mo_81 T) d_Mo_readName_165 (fun H locs hw => ?_)
                refine lv_goto hx hb d_Mo_readName_168 rfl ?_
                exact ih x1 _ _ _ _ _ (gv_loc hl [0, 1] rfl) hw hF
              · skip
                have hF := hF.trans (if_pos h57)
                refine lv_aload_n hx hb d_Mo_readName_118 rfl (lv_at hl 1 rfl) ?_
                refine lv_iconst (v := 1) hx hb d_Mo_readName_119 (by decide) ?_
                refine lv_aload_n hx hb d_Mo_readName_120 rfl (lv_at hl 1 rfl) ?_
                refine gf_Mo_at hx hb T hown hK hw rfl (kf_Mo_81 T) d_Mo_readName_121 ?_
                refine lv_iconst (v := 1) hx hb d_Mo_readName_124 (by decide) ?_
                refine lv_iadd hx hb d_Mo_readName_125 ?_
                refine gy_V B hl.1 hw (t_Mo_fail G _ _ ow fu 1 ((M56 103 0) + 1) (nn hno hF)) (kd_Mo_fail T) (ki_Mo T) (km_Mo_88 T) (ka_Mo_fail T) (ks_Mo_fail T) ⟨by decide, by decide, by rfl⟩ (rv_Mo hK hw rfl) rfl (Nat.le_of_ble_eq_true rfl) ⟨by decide, by decide⟩ ⟨by decide, by decide⟩ d_Mo_readName_126 (fun v M60 r60 H locs hw hp => ?_) (fun x ek M60 r60 H locs hw hE hp => gr_t B hexc hw hE (by decide) (by decide) (hF.trans (bnd_ex hp)))
                obtain ⟨v60, rfl, hp⟩ := hp
                have hF := hF.trans (bnd_ok hp)
                have g61 := ng hno hF
                have hF := hF.trans (gd_yes g61)
                exact gr_z B hw g61 d_Mo_readName_129 ⟨_, rfl, hF⟩
  have hF := F_Mo_readName.eq_1 fu M r
  refine lv_aload_n hx hb d_Mo_readName_0 rfl (lv_at hl 0 rfl) ?_
  refine lv_aload_n hx hb d_Mo_readName_1 rfl (lv_at hl 0 rfl) ?_
  refine lv_aload_n hx hb d_Mo_readName_2 rfl (lv_at hl 0 rfl) ?_
  refine gf_Mo_at hx hb T hown hK hw rfl (kf_Mo_81 T) d_Mo_readName_3 ?_
  refine gy_V B hl.1 hw (t_Mo_here G _ _ ow fu (M 103 0) (nn hno hF)) (kd_Mo_here T) (ki_Mo T) (km_Mo_84 T) (ka_Mo_here T) (ks_Mo_here T) ⟨by decide, by decide, by rfl⟩ (rv_Mo hK hw rfl) rfl (Nat.le_of_ble_eq_true rfl) ⟨by decide, by decide⟩ ⟨by decide, by decide⟩ d_Mo_readName_6 (fun v M62 r62 H locs hw hp => ?_) (fun x ek M62 r62 H locs hw hE hp => gr_t B hexc hw hE (by decide) (by decide) (hF.trans (bnd_ex hp)))
  obtain ⟨v62, rfl, hp⟩ := hp
  have hF := hF.trans (bnd_ok hp)
  refine gy_V B hl.1 hw (t_Mo_starts G _ _ ow fu v62 (nn hno hF)) (kd_Mo_starts T) (ki_Mo T) (km_Mo_68 T) (ka_Mo_starts T) (ks_Mo_starts T) ⟨by decide, by decide, by rfl⟩ (rv_Mo hK hw rfl) rfl (Nat.le_of_ble_eq_true rfl) ⟨by decide, by decide⟩ ⟨by decide, by decide⟩ d_Mo_readName_9 (fun v M63 r63 H locs hw hp => ?_) (fun x ek M63 r63 H locs hw hE hp => gr_t B hexc hw hE (by decide) (by decide) (hF.trans (bnd_ex hp)))
  obtain ⟨v63, rfl, hp⟩ := hp
  have hF := hF.trans (bnd_ok hp)
  refine lv_if_ne hx hb d_Mo_readName_12 rfl (fun h64 => ?_) (fun h64 => ?_)
  · skip
    have hF := hF.trans (if_neg h64)
    refine lv_aload_n hx hb d_Mo_readName_25 rfl (lv_at hl 0 rfl) ?_
    refine lv_aload_n hx hb d_Mo_readName_26 rfl (lv_at hl 0 rfl) ?_
    refine gf_Mo_used hx hb T hown hK hw rfl (kf_Mo_106 T) d_Mo_readName_27 ?_
    refine pf_Mo_begun hx hb T hown hK hw rfl (kf_Mo_109 T) d_Mo_readName_30 (fun H locs hw => ?_)
    refine lv_aload_n hx hb d_Mo_readName_33 rfl (lv_at hl 0 rfl) ?_
    refine lv_iconst (v := -1) hx hb d_Mo_readName_34 (by decide) ?_
    refine pf_Mo_colonAt hx hb T hown hK hw rfl (kf_Mo_112 T) d_Mo_readName_35 (fun H locs hw => ?_)
    refine lv_aload_n hx hb d_Mo_readName_38 rfl (lv_at hl 0 rfl) ?_
    refine gf_Mo_at hx hb T hown hK hw rfl (kf_Mo_81 T) d_Mo_readName_39 ?_
    refine lv_istore_n hx hb d_Mo_readName_42 rfl hl (by decide) rfl (fun ls hl => ?_)
    exact L43 fu ((mS (mS M63 131 0 (M63 107 0)) 133 0 (-1)) 103 0) _ _ _ _ _ (gv_loc hl [0, 1] rfl) hw hF
  · skip
    have hF := hF.trans (if_pos h64)
    refine lv_aload_n hx hb d_Mo_readName_15 rfl (lv_at hl 0 rfl) ?_
    refine lv_iconst (v := 1) hx hb d_Mo_readName_16 (by decide) ?_
    refine lv_aload_n hx hb d_Mo_readName_17 rfl (lv_at hl 0 rfl) ?_
    refine gf_Mo_at hx hb T hown hK hw rfl (kf_Mo_81 T) d_Mo_readName_18 ?_
    refine gy_V B hl.1 hw (t_Mo_fail G _ _ ow fu 1 (M63 103 0) (nn hno hF)) (kd_Mo_fail T) (ki_Mo T) (km_Mo_88 T) (ka_Mo_fail T) (ks_Mo_fail T) ⟨by decide, by decide, by rfl⟩ (rv_Mo hK hw rfl) rfl (Nat.le_of_ble_eq_true rfl) ⟨by decide, by decide⟩ ⟨by decide, by decide⟩ d_Mo_readName_21 (fun v M65 r65 H locs hw hp => ?_) (fun x ek M65 r65 H locs hw hE hp => gr_t B hexc hw hE (by decide) (by decide) (hF.trans (bnd_ex hp)))
    obtain ⟨v65, rfl, hp⟩ := hp
    have hF := hF.trans (bnd_ok hp)
    have g66 := ng hno hF
    have hF := hF.trans (gd_yes g66)
    exact gr_z B hw g66 d_Mo_readName_24 ⟨_, rfl, hF⟩
set_option maxHeartbeats 4000000 in
set_option maxRecDepth 100000 in
theorem t_Mo_digit {l : Launch} {s0 : State} {D : va_G} {aC : Nat → ClassId} {a0 : Array Value} (G : gG l s0 D aC a0) (M : gMem) (r : gRef) (ow : Int64) (fu : Nat) (x1 : Int32) (x2 : Int32)  (hno : F_Mo_digit fu x1 x2 M r ≠ .no) : gMet l s0 D aC y_Mo_digit (Cond.code y_Mo_digit b_Mo_digit 4 (some .int)) 0 0 0 0 [.ref (s0.heap.size + 383), .int x1, .int x2] M r ow (qI (F_Mo_digit fu x1 x2 M r)) (qT (F_Mo_digit fu x1 x2 M r)) := by
  refine gm_of G (by decide) (Nat.le_of_ble_eq_true rfl) ?_
  intro p e s m below meth c ls B hexc hl hw
  have hx := B.1
  have hb := B.2.1
  have hown := B.2.2.2.2.2.1
  have T := B.2.2.2.2.2.2.1
  have hK := B.2.2.2.2.2.2.2.1
  have hF := F_Mo_digit.eq_1 fu x1 x2 M r
  refine lv_iload_n hx hb d_Mo_digit_0 rfl (lv_at hl 1 rfl) ?_
  refine lv_bipush (v := 48) hx hb d_Mo_digit_1 (by decide) ?_
  refine lv_icmp_lt hx hb d_Mo_digit_3 rfl (fun h30 => ?_) (fun h30 => ?_)
  · skip
    have hF := hF.trans (if_pos h30)
    refine lv_iload_n hx hb d_Mo_digit_19 rfl (lv_at hl 1 rfl) ?_
    refine lv_bipush (v := 97) hx hb d_Mo_digit_20 (by decide) ?_
    refine lv_icmp_lt hx hb d_Mo_digit_22 rfl (fun h31 => ?_) (fun h31 => ?_)
    · skip
      have hF := hF.trans (if_pos h31)
      refine lv_iload_n hx hb d_Mo_digit_41 rfl (lv_at hl 1 rfl) ?_
      refine lv_bipush (v := 65) hx hb d_Mo_digit_42 (by decide) ?_
      refine lv_icmp_lt hx hb d_Mo_digit_44 rfl (fun h32 => ?_) (fun h32 => ?_)
      · skip
        have hF := hF.trans (if_pos h32)
        refine lv_bipush (v := 99) hx hb d_Mo_digit_63 (by decide) ?_
        refine lv_istore_n hx hb d_Mo_digit_65 rfl hl (by decide) rfl (fun ls hl => ?_)
        refine lv_iload_n hx hb d_Mo_digit_66 rfl (lv_at hl 0 rfl) ?_
        refine lv_iload_n hx hb d_Mo_digit_67 rfl (lv_at hl 3 rfl) ?_
        refine lv_icmp_ge hx hb d_Mo_digit_68 rfl (fun h33 => ?_) (fun h33 => ?_)
        · skip
          have hF := hF.trans (if_pos h33)
          refine lv_iconst (v := -1) hx hb d_Mo_digit_75 (by decide) ?_
          exact gr_i B hw d_Mo_digit_76 ⟨_, rfl, hF⟩
        · skip
          have hF := hF.trans (if_neg h33)
          refine lv_iload_n hx hb d_Mo_digit_71 rfl (lv_at hl 0 rfl) ?_
          refine lv_goto hx hb d_Mo_digit_72 rfl ?_
          exact gr_i B hw d_Mo_digit_76 ⟨_, rfl, hF⟩
      · skip
        have hF := hF.trans (if_neg h32)
        refine lv_iload_n hx hb d_Mo_digit_47 rfl (lv_at hl 1 rfl) ?_
        refine lv_bipush (v := 70) hx hb d_Mo_digit_48 (by decide) ?_
        refine lv_icmp_gt hx hb d_Mo_digit_50 rfl (fun h34 => ?_) (fun h34 => ?_)
        · skip
          have hF := hF.trans (if_pos h34)
          refine lv_bipush (v := 99) hx hb d_Mo_digit_63 (by decide) ?_
          refine lv_istore_n hx hb d_Mo_digit_65 rfl hl (by decide) rfl (fun ls hl => ?_)
          refine lv_iload_n hx hb d_Mo_digit_66 rfl (lv_at hl 0 rfl) ?_
          refine lv_iload_n hx hb d_Mo_digit_67 rfl (lv_at hl 3 rfl) ?_
          refine lv_icmp_ge hx hb d_Mo_digit_68 rfl (fun h35 => ?_) (fun h35 => ?_)
          · skip
            have hF := hF.trans (if_pos h35)
            refine lv_iconst (v := -1) hx hb d_Mo_digit_75 (by decide) ?_
            exact gr_i B hw d_Mo_digit_76 ⟨_, rfl, hF⟩
          · skip
            have hF := hF.trans (if_neg h35)
            refine lv_iload_n hx hb d_Mo_digit_71 rfl (lv_at hl 0 rfl) ?_
            refine lv_goto hx hb d_Mo_digit_72 rfl ?_
            exact gr_i B hw d_Mo_digit_76 ⟨_, rfl, hF⟩
        · skip
          have hF := hF.trans (if_neg h34)
          refine lv_iload_n hx hb d_Mo_digit_53 rfl (lv_at hl 1 rfl) ?_
          refine lv_bipush (v := 65) hx hb d_Mo_digit_54 (by decide) ?_
          refine lv_isub hx hb d_Mo_digit_56 ?_
          refine lv_bipush (v := 10) hx hb d_Mo_digit_57 (by decide) ?_
          refine lv_iadd hx hb d_Mo_digit_59 ?_
          refine lv_goto hx hb d_Mo_digit_60 rfl ?_
          refine lv_istore_n hx hb d_Mo_digit_65 rfl hl (by decide) rfl (fun ls hl => ?_)
          refine lv_iload_n hx hb d_Mo_digit_66 rfl (lv_at hl 0 rfl) ?_
          refine lv_iload_n hx hb d_Mo_digit_67 rfl (lv_at hl 3 rfl) ?_
          refine lv_icmp_ge hx hb d_Mo_digit_68 rfl (fun h36 => ?_) (fun h36 => ?_)
          · skip
            have hF := hF.trans (if_pos h36)
            refine lv_iconst (v := -1) hx hb d_Mo_digit_75 (by decide) ?_
            exact gr_i B hw d_Mo_digit_76 ⟨_, rfl, hF⟩
          · skip
            have hF := hF.trans (if_neg h36)
            refine lv_iload_n hx hb d_Mo_digit_71 rfl (lv_at hl 0 rfl) ?_
            refine lv_goto hx hb d_Mo_digit_72 rfl ?_
            exact gr_i B hw d_Mo_digit_76 ⟨_, rfl, hF⟩
    · skip
      have hF := hF.trans (if_neg h31)
      refine lv_iload_n hx hb d_Mo_digit_25 rfl (lv_at hl 1 rfl) ?_
      refine lv_bipush (v := 102) hx hb d_Mo_digit_26 (by decide) ?_
      refine lv_icmp_gt hx hb d_Mo_digit_28 rfl (fun h37 => ?_) (fun h37 => ?_)
      · skip
        have hF := hF.trans (if_pos h37)
        refine lv_iload_n hx hb d_Mo_digit_41 rfl (lv_at hl 1 rfl) ?_
        refine lv_bipush (v := 65) hx hb d_Mo_digit_42 (by decide) ?_
        refine lv_icmp_lt hx hb d_Mo_digit_44 rfl (fun h38 => ?_) (fun h38 => ?_)
        · skip
          have hF := hF.trans (if_pos h38)
          refine lv_bipush (v := 99) hx hb d_Mo_digit_63 (by decide) ?_
          refine lv_istore_n hx hb d_Mo_digit_65 rfl hl (by decide) rfl (fun ls hl => ?_)
          refine lv_iload_n hx hb d_Mo_digit_66 rfl (lv_at hl 0 rfl) ?_
          refine lv_iload_n hx hb d_Mo_digit_67 rfl (lv_at hl 3 rfl) ?_
          refine lv_icmp_ge hx hb d_Mo_digit_68 rfl (fun h39 => ?_) (fun h39 => ?_)
          · skip
            have hF := hF.trans (if_pos h39)
            refine lv_iconst (v := -1) hx hb d_Mo_digit_75 (by decide) ?_
            exact gr_i B hw d_Mo_digit_76 ⟨_, rfl, hF⟩
          · skip
            have hF := hF.trans (if_neg h39)
            refine lv_iload_n hx hb d_Mo_digit_71 rfl (lv_at hl 0 rfl) ?_
            refine lv_goto hx hb d_Mo_digit_72 rfl ?_
            exact gr_i B hw d_Mo_digit_76 ⟨_, rfl, hF⟩
        · skip
          have hF := hF.trans (if_neg h38)
          refine lv_iload_n hx hb d_Mo_digit_47 rfl (lv_at hl 1 rfl) ?_
          refine lv_bipush (v := 70) hx hb d_Mo_digit_48 (by decide) ?_
          refine lv_icmp_gt hx hb d_Mo_digit_50 rfl (fun h40 => ?_) (fun h40 => ?_)
          · skip
            have hF := hF.trans (if_pos h40)
            refine lv_bipush (v := 99) hx hb d_Mo_digit_63 (by decide) ?_
            refine lv_istore_n hx hb d_Mo_digit_65 rfl hl (by decide) rfl (fun ls hl => ?_)
            refine lv_iload_n hx hb d_Mo_digit_66 rfl (lv_at hl 0 rfl) ?_
            refine lv_iload_n hx hb d_Mo_digit_67 rfl (lv_at hl 3 rfl) ?_
            refine lv_icmp_ge hx hb d_Mo_digit_68 rfl (fun h41 => ?_) (fun h41 => ?_)
            · skip
              have hF := hF.trans (if_pos h41)
              refine lv_iconst (v := -1) hx hb d_Mo_digit_75 (by decide) ?_
              exact gr_i B hw d_Mo_digit_76 ⟨_, rfl, hF⟩
            · skip
              have hF := hF.trans (if_neg h41)
              refine lv_iload_n hx hb d_Mo_digit_71 rfl (lv_at hl 0 rfl) ?_
              refine lv_goto hx hb d_Mo_digit_72 rfl ?_
              exact gr_i B hw d_Mo_digit_76 ⟨_, rfl, hF⟩
          · skip
            have hF := hF.trans (if_neg h40)
            refine lv_iload_n hx hb d_Mo_digit_53 rfl (lv_at hl 1 rfl) ?_
            refine lv_bipush (v := 65) hx hb d_Mo_digit_54 (by decide) ?_
            refine lv_isub hx hb d_Mo_digit_56 ?_
            refine lv_bipush (v := 10) hx hb d_Mo_digit_57 (by decide) ?_
            refine lv_iadd hx hb d_Mo_digit_59 ?_
            refine lv_goto hx hb d_Mo_digit_60 rfl ?_
            refine lv_istore_n hx hb d_Mo_digit_65 rfl hl (by decide) rfl (fun ls hl => ?_)
            refine lv_iload_n hx hb d_Mo_digit_66 rfl (lv_at hl 0 rfl) ?_
            refine lv_iload_n hx hb d_Mo_digit_67 rfl (lv_at hl 3 rfl) ?_
            refine lv_icmp_ge hx hb d_Mo_digit_68 rfl (fun h42 => ?_) (fun h42 => ?_)
            · skip
              have hF := hF.trans (if_pos h42)
              refine lv_iconst (v := -1) hx hb d_Mo_digit_75 (by decide) ?_
              exact gr_i B hw d_Mo_digit_76 ⟨_, rfl, hF⟩
            · skip
              have hF := hF.trans (if_neg h42)
              refine lv_iload_n hx hb d_Mo_digit_71 rfl (lv_at hl 0 rfl) ?_
              refine lv_goto hx hb d_Mo_digit_72 rfl ?_
              exact gr_i B hw d_Mo_digit_76 ⟨_, rfl, hF⟩
      · skip
        have hF := hF.trans (if_neg h37)
        refine lv_iload_n hx hb d_Mo_digit_31 rfl (lv_at hl 1 rfl) ?_
        refine lv_bipush (v := 97) hx hb d_Mo_digit_32 (by decide) ?_
        refine lv_isub hx hb d_Mo_digit_34 ?_
        refine lv_bipush (v := 10) hx hb d_Mo_digit_35 (by decide) ?_
        refine lv_iadd hx hb d_Mo_digit_37 ?_
        refine lv_goto hx hb d_Mo_digit_38 rfl ?_
        refine lv_istore_n hx hb d_Mo_digit_65 rfl hl (by decide) rfl (fun ls hl => ?_)
        refine lv_iload_n hx hb d_Mo_digit_66 rfl (lv_at hl 0 rfl) ?_
        refine lv_iload_n hx hb d_Mo_digit_67 rfl (lv_at hl 3 rfl) ?_
        refine lv_icmp_ge hx hb d_Mo_digit_68 rfl (fun h43 => ?_) (fun h43 => ?_)
        · skip
          have hF := hF.trans (if_pos h43)
          refine lv_iconst (v := -1) hx hb d_Mo_digit_75 (by decide) ?_
          exact gr_i B hw d_Mo_digit_76 ⟨_, rfl, hF⟩
        · skip
          have hF := hF.trans (if_neg h43)
          refine lv_iload_n hx hb d_Mo_digit_71 rfl (lv_at hl 0 rfl) ?_
          refine lv_goto hx hb d_Mo_digit_72 rfl ?_
          exact gr_i B hw d_Mo_digit_76 ⟨_, rfl, hF⟩
  · skip
    have hF := hF.trans (if_neg h30)
    refine lv_iload_n hx hb d_Mo_digit_6 rfl (lv_at hl 1 rfl) ?_
    refine lv_bipush (v := 57) hx hb d_Mo_digit_7 (by decide) ?_
    refine lv_icmp_gt hx hb d_Mo_digit_9 rfl (fun h44 => ?_) (fun h44 => ?_)
    · skip
      have hF := hF.trans (if_pos h44)
      refine lv_iload_n hx hb d_Mo_digit_19 rfl (lv_at hl 1 rfl) ?_
      refine lv_bipush (v := 97) hx hb d_Mo_digit_20 (by decide) ?_
      refine lv_icmp_lt hx hb d_Mo_digit_22 rfl (fun h45 => ?_) (fun h45 => ?_)
      · skip
        have hF := hF.trans (if_pos h45)
        refine lv_iload_n hx hb d_Mo_digit_41 rfl (lv_at hl 1 rfl) ?_
        refine lv_bipush (v := 65) hx hb d_Mo_digit_42 (by decide) ?_
        refine lv_icmp_lt hx hb d_Mo_digit_44 rfl (fun h46 => ?_) (fun h46 => ?_)
        · skip
          have hF := hF.trans (if_pos h46)
          refine lv_bipush (v := 99) hx hb d_Mo_digit_63 (by decide) ?_
          refine lv_istore_n hx hb d_Mo_digit_65 rfl hl (by decide) rfl (fun ls hl => ?_)
          refine lv_iload_n hx hb d_Mo_digit_66 rfl (lv_at hl 0 rfl) ?_
          refine lv_iload_n hx hb d_Mo_digit_67 rfl (lv_at hl 3 rfl) ?_
          refine lv_icmp_ge hx hb d_Mo_digit_68 rfl (fun h47 => ?_) (fun h47 => ?_)
          · skip
            have hF := hF.trans (if_pos h47)
            refine lv_iconst (v := -1) hx hb d_Mo_digit_75 (by decide) ?_
            exact gr_i B hw d_Mo_digit_76 ⟨_, rfl, hF⟩
          · skip
            have hF := hF.trans (if_neg h47)
            refine lv_iload_n hx hb d_Mo_digit_71 rfl (lv_at hl 0 rfl) ?_
            refine lv_goto hx hb d_Mo_digit_72 rfl ?_
            exact gr_i B hw d_Mo_digit_76 ⟨_, rfl, hF⟩
        · skip
          have hF := hF.trans (if_neg h46)
          refine lv_iload_n hx hb d_Mo_digit_47 rfl (lv_at hl 1 rfl) ?_
          refine lv_bipush (v := 70) hx hb d_Mo_digit_48 (by decide) ?_
          refine lv_icmp_gt hx hb d_Mo_digit_50 rfl (fun h48 => ?_) (fun h48 => ?_)
          · skip
            have hF := hF.trans (if_pos h48)
            refine lv_bipush (v := 99) hx hb d_Mo_digit_63 (by decide) ?_
            refine lv_istore_n hx hb d_Mo_digit_65 rfl hl (by decide) rfl (fun ls hl => ?_)
            refine lv_iload_n hx hb d_Mo_digit_66 rfl (lv_at hl 0 rfl) ?_
            refine lv_iload_n hx hb d_Mo_digit_67 rfl (lv_at hl 3 rfl) ?_
            refine lv_icmp_ge hx hb d_Mo_digit_68 rfl (fun h49 => ?_) (fun h49 => ?_)
            · skip
              have hF := hF.trans (if_pos h49)
              refine lv_iconst (v := -1) hx hb d_Mo_digit_75 (by decide) ?_
              exact gr_i B hw d_Mo_digit_76 ⟨_, rfl, hF⟩
            · skip
              have hF := hF.trans (if_neg h49)
              refine lv_iload_n hx hb d_Mo_digit_71 rfl (lv_at hl 0 rfl) ?_
              refine lv_goto hx hb d_Mo_digit_72 rfl ?_
              exact gr_i B hw d_Mo_digit_76 ⟨_, rfl, hF⟩
          · skip
            have hF := hF.trans (if_neg h48)
            refine lv_iload_n hx hb d_Mo_digit_53 rfl (lv_at hl 1 rfl) ?_
            refine lv_bipush (v := 65) hx hb d_Mo_digit_54 (by decide) ?_
            refine lv_isub hx hb d_Mo_digit_56 ?_
            refine lv_bipush (v := 10) hx hb d_Mo_digit_57 (by decide) ?_
            refine lv_iadd hx hb d_Mo_digit_59 ?_
            refine lv_goto hx hb d_Mo_digit_60 rfl ?_
            refine lv_istore_n hx hb d_Mo_digit_65 rfl hl (by decide) rfl (fun ls hl => ?_)
            refine lv_iload_n hx hb d_Mo_digit_66 rfl (lv_at hl 0 rfl) ?_
            refine lv_iload_n hx hb d_Mo_digit_67 rfl (lv_at hl 3 rfl) ?_
            refine lv_icmp_ge hx hb d_Mo_digit_68 rfl (fun h50 => ?_) (fun h50 => ?_)
            · skip
              have hF := hF.trans (if_pos h50)
              refine lv_iconst (v := -1) hx hb d_Mo_digit_75 (by decide) ?_
              exact gr_i B hw d_Mo_digit_76 ⟨_, rfl, hF⟩
            · skip
              have hF := hF.trans (if_neg h50)
              refine lv_iload_n hx hb d_Mo_digit_71 rfl (lv_at hl 0 rfl) ?_
              refine lv_goto hx hb d_Mo_digit_72 rfl ?_
              exact gr_i B hw d_Mo_digit_76 ⟨_, rfl, hF⟩
      · skip
        have hF := hF.trans (if_neg h45)
        refine lv_iload_n hx hb d_Mo_digit_25 rfl (lv_at hl 1 rfl) ?_
        refine lv_bipush (v := 102) hx hb d_Mo_digit_26 (by decide) ?_
        refine lv_icmp_gt hx hb d_Mo_digit_28 rfl (fun h51 => ?_) (fun h51 => ?_)
        · skip
          have hF := hF.trans (if_pos h51)
          refine lv_iload_n hx hb d_Mo_digit_41 rfl (lv_at hl 1 rfl) ?_
          refine lv_bipush (v := 65) hx hb d_Mo_digit_42 (by decide) ?_
          refine lv_icmp_lt hx hb d_Mo_digit_44 rfl (fun h52 => ?_) (fun h52 => ?_)
          · skip
            have hF := hF.trans (if_pos h52)
            refine lv_bipush (v := 99) hx hb d_Mo_digit_63 (by decide) ?_
            refine lv_istore_n hx hb d_Mo_digit_65 rfl hl (by decide) rfl (fun ls hl => ?_)
            refine lv_iload_n hx hb d_Mo_digit_66 rfl (lv_at hl 0 rfl) ?_
            refine lv_iload_n hx hb d_Mo_digit_67 rfl (lv_at hl 3 rfl) ?_
            refine lv_icmp_ge hx hb d_Mo_digit_68 rfl (fun h53 => ?_) (fun h53 => ?_)
            · skip
              have hF := hF.trans (if_pos h53)
              refine lv_iconst (v := -1) hx hb d_Mo_digit_75 (by decide) ?_
              exact gr_i B hw d_Mo_digit_76 ⟨_, rfl, hF⟩
            · skip
              have hF := hF.trans (if_neg h53)
              refine lv_iload_n hx hb d_Mo_digit_71 rfl (lv_at hl 0 rfl) ?_
              refine lv_goto hx hb d_Mo_digit_72 rfl ?_
              exact gr_i B hw d_Mo_digit_76 ⟨_, rfl, hF⟩
          · skip
            have hF := hF.trans (if_neg h52)
            refine lv_iload_n hx hb d_Mo_digit_47 rfl (lv_at hl 1 rfl) ?_
            refine lv_bipush (v := 70) hx hb d_Mo_digit_48 (by decide) ?_
            refine lv_icmp_gt hx hb d_Mo_digit_50 rfl (fun h54 => ?_) (fun h54 => ?_)
            · skip
              have hF := hF.trans (if_pos h54)
              refine lv_bipush (v := 99) hx hb d_Mo_digit_63 (by decide) ?_
              refine lv_istore_n hx hb d_Mo_digit_65 rfl hl (by decide) rfl (fun ls hl => ?_)
              refine lv_iload_n hx hb d_Mo_digit_66 rfl (lv_at hl 0 rfl) ?_
              refine lv_iload_n hx hb d_Mo_digit_67 rfl (lv_at hl 3 rfl) ?_
              refine lv_icmp_ge hx hb d_Mo_digit_68 rfl (fun h55 => ?_) (fun h55 => ?_)
              · skip
                have hF := hF.trans (if_pos h55)
                refine lv_iconst (v := -1) hx hb d_Mo_digit_75 (by decide) ?_
                exact gr_i B hw d_Mo_digit_76 ⟨_, rfl, hF⟩
              · skip
                have hF := hF.trans (if_neg h55)
                refine lv_iload_n hx hb d_Mo_digit_71 rfl (lv_at hl 0 rfl) ?_
                refine lv_goto hx hb d_Mo_digit_72 rfl ?_
                exact gr_i B hw d_Mo_digit_76 ⟨_, rfl, hF⟩
            · skip
              have hF := hF.trans (if_neg h54)
              refine lv_iload_n hx hb d_Mo_digit_53 rfl (lv_at hl 1 rfl) ?_
              refine lv_bipush (v := 65) hx hb d_Mo_digit_54 (by decide) ?_
              refine lv_isub hx hb d_Mo_digit_56 ?_
              refine lv_bipush (v := 10) hx hb d_Mo_digit_57 (by decide) ?_
              refine lv_iadd hx hb d_Mo_digit_59 ?_
              refine lv_goto hx hb d_Mo_digit_60 rfl ?_
              refine lv_istore_n hx hb d_Mo_digit_65 rfl hl (by decide) rfl (fun ls hl => ?_)
              refine lv_iload_n hx hb d_Mo_digit_66 rfl (lv_at hl 0 rfl) ?_
              refine lv_iload_n hx hb d_Mo_digit_67 rfl (lv_at hl 3 rfl) ?_
              refine lv_icmp_ge hx hb d_Mo_digit_68 rfl (fun h56 => ?_) (fun h56 => ?_)
              · skip
                have hF := hF.trans (if_pos h56)
                refine lv_iconst (v := -1) hx hb d_Mo_digit_75 (by decide) ?_
                exact gr_i B hw d_Mo_digit_76 ⟨_, rfl, hF⟩
              · skip
                have hF := hF.trans (if_neg h56)
                refine lv_iload_n hx hb d_Mo_digit_71 rfl (lv_at hl 0 rfl) ?_
                refine lv_goto hx hb d_Mo_digit_72 rfl ?_
                exact gr_i B hw d_Mo_digit_76 ⟨_, rfl, hF⟩
        · skip
          have hF := hF.trans (if_neg h51)
          refine lv_iload_n hx hb d_Mo_digit_31 rfl (lv_at hl 1 rfl) ?_
          refine lv_bipush (v := 97) hx hb d_Mo_digit_32 (by decide) ?_
          refine lv_isub hx hb d_Mo_digit_34 ?_
          refine lv_bipush (v := 10) hx hb d_Mo_digit_35 (by decide) ?_
          refine lv_iadd hx hb d_Mo_digit_37 ?_
          refine lv_goto hx hb d_Mo_digit_38 rfl ?_
          refine lv_istore_n hx hb d_Mo_digit_65 rfl hl (by decide) rfl (fun ls hl => ?_)
          refine lv_iload_n hx hb d_Mo_digit_66 rfl (lv_at hl 0 rfl) ?_
          refine lv_iload_n hx hb d_Mo_digit_67 rfl (lv_at hl 3 rfl) ?_
          refine lv_icmp_ge hx hb d_Mo_digit_68 rfl (fun h57 => ?_) (fun h57 => ?_)
          · skip
            have hF := hF.trans (if_pos h57)
            refine lv_iconst (v := -1) hx hb d_Mo_digit_75 (by decide) ?_
            exact gr_i B hw d_Mo_digit_76 ⟨_, rfl, hF⟩
          · skip
            have hF := hF.trans (if_neg h57)
            refine lv_iload_n hx hb d_Mo_digit_71 rfl (lv_at hl 0 rfl) ?_
            refine lv_goto hx hb d_Mo_digit_72 rfl ?_
            exact gr_i B hw d_Mo_digit_76 ⟨_, rfl, hF⟩
    · skip
      have hF := hF.trans (if_neg h44)
      refine lv_iload_n hx hb d_Mo_digit_12 rfl (lv_at hl 1 rfl) ?_
      refine lv_bipush (v := 48) hx hb d_Mo_digit_13 (by decide) ?_
      refine lv_isub hx hb d_Mo_digit_15 ?_
      refine lv_goto hx hb d_Mo_digit_16 rfl ?_
      refine lv_istore_n hx hb d_Mo_digit_65 rfl hl (by decide) rfl (fun ls hl => ?_)
      refine lv_iload_n hx hb d_Mo_digit_66 rfl (lv_at hl 0 rfl) ?_
      refine lv_iload_n hx hb d_Mo_digit_67 rfl (lv_at hl 3 rfl) ?_
      refine lv_icmp_ge hx hb d_Mo_digit_68 rfl (fun h58 => ?_) (fun h58 => ?_)
      · skip
        have hF := hF.trans (if_pos h58)
        refine lv_iconst (v := -1) hx hb d_Mo_digit_75 (by decide) ?_
        exact gr_i B hw d_Mo_digit_76 ⟨_, rfl, hF⟩
      · skip
        have hF := hF.trans (if_neg h58)
        refine lv_iload_n hx hb d_Mo_digit_71 rfl (lv_at hl 0 rfl) ?_
        refine lv_goto hx hb d_Mo_digit_72 rfl ?_
        exact gr_i B hw d_Mo_digit_76 ⟨_, rfl, hF⟩
theorem d_Mo_numbered_0 : decode b_Mo_numbered 0 = .ok (.iload_n 1, 1) := by decide +kernel
theorem d_Mo_numbered_1 : decode b_Mo_numbered 1 = .ok (.istore_n 3, 1) := by decide +kernel
theorem d_Mo_numbered_2 : decode b_Mo_numbered 2 = .ok (.iconst 0, 1) := by decide +kernel
theorem d_Mo_numbered_3 : decode b_Mo_numbered 3 = .ok (.istore 4, 2) := by decide +kernel
theorem d_Mo_numbered_5 : decode b_Mo_numbered 5 = .ok (.aload_n 0, 1) := by decide +kernel
theorem d_Mo_numbered_6 : decode b_Mo_numbered 6 = .ok (.aload_n 0, 1) := by decide +kernel
theorem d_Mo_numbered_7 : decode b_Mo_numbered 7 = .ok (.iload_n 3, 1) := by decide +kernel
theorem d_Mo_numbered_8 : decode b_Mo_numbered 8 = .ok (.invokevirtual 84, 3) := by decide +kernel
theorem d_Mo_numbered_11 : decode b_Mo_numbered 11 = .ok (.iload_n 2, 1) := by decide +kernel
theorem d_Mo_numbered_12 : decode b_Mo_numbered 12 = .ok (.invokevirtual 121, 3) := by decide +kernel
theorem d_Mo_numbered_15 : decode b_Mo_numbered 15 = .ok (.ifCond .lt 40, 3) := by decide +kernel
theorem d_Mo_numbered_18 : decode b_Mo_numbered 18 = .ok (.iload 4, 2) := by decide +kernel
theorem d_Mo_numbered_20 : decode b_Mo_numbered 20 = .ok (.sipush 999, 3) := by decide +kernel
theorem d_Mo_numbered_23 : decode b_Mo_numbered 23 = .ok (.if_icmp .le 9, 3) := by decide +kernel
theorem d_Mo_numbered_26 : decode b_Mo_numbered 26 = .ok (.sipush 999, 3) := by decide +kernel
theorem d_Mo_numbered_29 : decode b_Mo_numbered 29 = .ok (.goto 18, 3) := by decide +kernel
theorem d_Mo_numbered_32 : decode b_Mo_numbered 32 = .ok (.iload_n 2, 1) := by decide +kernel
theorem d_Mo_numbered_33 : decode b_Mo_numbered 33 = .ok (.iload 4, 2) := by decide +kernel
theorem d_Mo_numbered_35 : decode b_Mo_numbered 35 = .ok (.imul, 1) := by decide +kernel
theorem d_Mo_numbered_36 : decode b_Mo_numbered 36 = .ok (.aload_n 0, 1) := by decide +kernel
theorem d_Mo_numbered_37 : decode b_Mo_numbered 37 = .ok (.aload_n 0, 1) := by decide +kernel
theorem d_Mo_numbered_38 : decode b_Mo_numbered 38 = .ok (.iload_n 3, 1) := by decide +kernel
theorem d_Mo_numbered_39 : decode b_Mo_numbered 39 = .ok (.invokevirtual 84, 3) := by decide +kernel
theorem d_Mo_numbered_42 : decode b_Mo_numbered 42 = .ok (.iload_n 2, 1) := by decide +kernel
theorem d_Mo_numbered_43 : decode b_Mo_numbered 43 = .ok (.invokevirtual 121, 3) := by decide +kernel
theorem d_Mo_numbered_46 : decode b_Mo_numbered 46 = .ok (.iadd, 1) := by decide +kernel
theorem d_Mo_numbered_47 : decode b_Mo_numbered 47 = .ok (.istore 4, 2) := by decide +kernel
theorem d_Mo_numbered_49 : decode b_Mo_numbered 49 = .ok (.iinc 3 1, 3) := by decide +kernel
theorem d_Mo_numbered_52 : decode b_Mo_numbered 52 = .ok (.goto (-47), 3) := by decide +kernel
theorem d_Mo_numbered_55 : decode b_Mo_numbered 55 = .ok (.iload_n 3, 1) := by decide +kernel
theorem d_Mo_numbered_56 : decode b_Mo_numbered 56 = .ok (.iload_n 1, 1) := by decide +kernel
theorem d_Mo_numbered_57 : decode b_Mo_numbered 57 = .ok (.if_icmp .eq 22, 3) := by decide +kernel
theorem d_Mo_numbered_60 : decode b_Mo_numbered 60 = .ok (.aload_n 0, 1) := by decide +kernel
theorem d_Mo_numbered_61 : decode b_Mo_numbered 61 = .ok (.iload_n 3, 1) := by decide +kernel
theorem d_Mo_numbered_62 : decode b_Mo_numbered 62 = .ok (.invokevirtual 84, 3) := by decide +kernel
theorem d_Mo_numbered_65 : decode b_Mo_numbered 65 = .ok (.bipush 59, 2) := by decide +kernel
theorem d_Mo_numbered_67 : decode b_Mo_numbered 67 = .ok (.if_icmp .ne 12, 3) := by decide +kernel
theorem d_Mo_numbered_70 : decode b_Mo_numbered 70 = .ok (.aload_n 0, 1) := by decide +kernel
theorem d_Mo_numbered_71 : decode b_Mo_numbered 71 = .ok (.iload 4, 2) := by decide +kernel
theorem d_Mo_numbered_73 : decode b_Mo_numbered 73 = .ok (.invokevirtual 75, 3) := by decide +kernel
theorem d_Mo_numbered_76 : decode b_Mo_numbered 76 = .ok (.ifCond .ne 5, 3) := by decide +kernel
theorem d_Mo_numbered_79 : decode b_Mo_numbered 79 = .ok (.iconst (-1), 1) := by decide +kernel
theorem d_Mo_numbered_80 : decode b_Mo_numbered 80 = .ok (.ireturn, 1) := by decide +kernel
theorem d_Mo_numbered_81 : decode b_Mo_numbered 81 = .ok (.aload_n 0, 1) := by decide +kernel
theorem d_Mo_numbered_82 : decode b_Mo_numbered 82 = .ok (.iload_n 3, 1) := by decide +kernel
theorem d_Mo_numbered_83 : decode b_Mo_numbered 83 = .ok (.iconst 1, 1) := by decide +kernel
theorem d_Mo_numbered_84 : decode b_Mo_numbered 84 = .ok (.iadd, 1) := by decide +kernel
theorem d_Mo_numbered_85 : decode b_Mo_numbered 85 = .ok (.putfield 81, 3) := by decide +kernel
theorem d_Mo_numbered_88 : decode b_Mo_numbered 88 = .ok (.iload 4, 2) := by decide +kernel
theorem d_Mo_numbered_90 : decode b_Mo_numbered 90 = .ok (.ireturn, 1) := by decide +kernel
set_option maxHeartbeats 4000000 in
set_option maxRecDepth 100000 in
theorem t_Mo_numbered {l : Launch} {s0 : State} {D : va_G} {aC : Nat → ClassId} {a0 : Array Value} (G : gG l s0 D aC a0) (M : gMem) (r : gRef) (ow : Int64) (fu : Nat) (x1 : Int32) (x2 : Int32)  (hno : F_Mo_numbered fu x1 x2 M r ≠ .no) : gMet l s0 D aC y_Mo_numbered (Cond.code y_Mo_numbered b_Mo_numbered 5 (some .int)) 1 23 0 0 [.ref (s0.heap.size + 383), .int x1, .int x2] M r ow (qI (F_Mo_numbered fu x1 x2 M r)) (qT (F_Mo_numbered fu x1 x2 M r)) := by
  refine gm_of G (by decide) (Nat.le_of_ble_eq_true rfl) ?_
  intro p e s m below meth c ls B hexc hl hw
  have hx := B.1
  have hb := B.2.1
  have hown := B.2.2.2.2.2.1
  have T := B.2.2.2.2.2.2.1
  have hK := B.2.2.2.2.2.2.2.1
  have X55 : ∀ (x3 : Int32) (x4 : Int32) (M1 : gMem) (r1 : gRef) (H : Heap) (locs : List Loc) (ls : Array Slot), lv_has ls 5 [(3, .int x3), (4, .int x4), (0, .ref (s0.heap.size + 383)), (1, .int x1)] → gWd s0 D aC M1 r1 ow H locs → F_Mo_numbered fu x1 x2 M r = F_Mo_numbered_B55 fu x1 x2 x3 x4 M1 r1 → W p l e (gRm 1 23 0 0) s m ([.ref (s0.heap.size + 383), .int x1, .int x2] : List Value).toArray below meth c H locs 0 0 (gt_Q below (gQ s0 D aC ow (qI (F_Mo_numbered fu x1 x2 M r)) (qT (F_Mo_numbered fu x1 x2 M r))) s 0 0 0 0 (fun q => s0.heap.size ≤ q)) (F0 m 55 ls []) := by
    intro x3 x4 M1 r1 H locs ls hl hw hF
    have hF := hF.trans (F_Mo_numbered_B55.eq_1 _ _ _ _ _ _ _)
    refine lv_iload_n hx hb d_Mo_numbered_55 rfl (lv_at hl 0 rfl) ?_
    refine lv_iload_n hx hb d_Mo_numbered_56 rfl (lv_at hl 3 rfl) ?_
    refine lv_icmp_eq hx hb d_Mo_numbered_57 rfl (fun h12 => ?_) (fun h12 => ?_)
    · skip
      have hF := hF.trans (if_pos h12)
      refine lv_iconst (v := -1) hx hb d_Mo_numbered_79 (by decide) ?_
      exact gr_i B hw d_Mo_numbered_80 ⟨_, rfl, hF⟩
    · skip
      have hF := hF.trans (if_neg h12)
      refine lv_aload_n hx hb d_Mo_numbered_60 rfl (lv_at hl 2 rfl) ?_
      refine lv_iload_n hx hb d_Mo_numbered_61 rfl (lv_at hl 0 rfl) ?_
      refine gy_V B hl.1 hw (t_Mo_here G _ _ ow fu x3 (nn hno hF)) (kd_Mo_here T) (ki_Mo T) (km_Mo_84 T) (ka_Mo_here T) (ks_Mo_here T) ⟨by decide, by decide, by rfl⟩ (rv_Mo hK hw rfl) rfl (Nat.le_of_ble_eq_true rfl) ⟨by decide, by decide⟩ ⟨by decide, by decide⟩ d_Mo_numbered_62 (fun v M13 r13 H locs hw hp => ?_) (fun x ek M13 r13 H locs hw hE hp => gr_t B hexc hw hE (by decide) (by decide) (hF.trans (bnd_ex hp)))
      obtain ⟨v13, rfl, hp⟩ := hp
      have hF := hF.trans (bnd_ok hp)
      refine lv_bipush (v := 59) hx hb d_Mo_numbered_65 (by decide) ?_
      refine lv_icmp_ne hx hb d_Mo_numbered_67 rfl (fun h14 => ?_) (fun h14 => ?_)
      · skip
        have hF := hF.trans (if_neg h14)
        refine lv_iconst (v := -1) hx hb d_Mo_numbered_79 (by decide) ?_
        exact gr_i B hw d_Mo_numbered_80 ⟨_, rfl, hF⟩
      · skip
        have hF := hF.trans (if_pos h14)
        refine lv_aload_n hx hb d_Mo_numbered_70 rfl (lv_at hl 2 rfl) ?_
        refine lv_iload hx hb d_Mo_numbered_71 (lv_at hl 1 rfl) ?_
        refine gy_V B hl.1 hw (t_Mo_isCharacter G _ _ ow fu x4 (nn hno hF)) (kd_Mo_isCharacter T) (ki_Mo T) (km_Mo_75 T) (ka_Mo_isCharacter T) (ks_Mo_isCharacter T) ⟨by decide, by decide, by rfl⟩ (rv_Mo hK hw rfl) rfl (Nat.le_of_ble_eq_true rfl) ⟨by decide, by decide⟩ ⟨by decide, by decide⟩ d_Mo_numbered_73 (fun v M15 r15 H locs hw hp => ?_) (fun x ek M15 r15 H locs hw hE hp => gr_t B hexc hw hE (by decide) (by decide) (hF.trans (bnd_ex hp)))
        obtain ⟨v15, rfl, hp⟩ := hp
        have hF := hF.trans (bnd_ok hp)
        refine lv_if_ne hx hb d_Mo_numbered_76 rfl (fun h16 => ?_) (fun h16 => ?_)
        · skip
          have hF := hF.trans (if_neg h16)
          refine lv_aload_n hx hb d_Mo_numbered_81 rfl (lv_at hl 2 rfl) ?_
          refine lv_iload_n hx hb d_Mo_numbered_82 rfl (lv_at hl 0 rfl) ?_
          refine lv_iconst (v := 1) hx hb d_Mo_numbered_83 (by decide) ?_
          refine lv_iadd hx hb d_Mo_numbered_84 ?_
          refine pf_Mo_at hx hb T hown hK hw rfl (kf_Mo_81 T) d_Mo_numbered_85 (fun H locs hw => ?_)
          refine lv_iload hx hb d_Mo_numbered_88 (lv_at hl 1 rfl) ?_
          exact gr_i B hw d_Mo_numbered_90 ⟨_, rfl, hF⟩
        · skip
          have hF := hF.trans (if_pos h16)
          refine lv_iconst (v := -1) hx hb d_Mo_numbered_79 (by decide) ?_
          exact gr_i B hw d_Mo_numbered_80 ⟨_, rfl, hF⟩
  have L5 : ∀ (d : Nat) (x3 : Int32) (x4 : Int32) (M1 : gMem) (r1 : gRef) (H : Heap) (locs : List Loc) (ls : Array Slot), lv_has ls 5 [(3, .int x3), (4, .int x4), (0, .ref (s0.heap.size + 383)), (1, .int x1), (2, .int x2)] → gWd s0 D aC M1 r1 ow H locs → F_Mo_numbered fu x1 x2 M r = F_Mo_numbered_L5 fu x1 x2 d x3 x4 M1 r1 → W p l e (gRm 1 23 0 0) s m ([.ref (s0.heap.size + 383), .int x1, .int x2] : List Value).toArray below meth c H locs 0 0 (gt_Q below (gQ s0 D aC ow (qI (F_Mo_numbered fu x1 x2 M r)) (qT (F_Mo_numbered fu x1 x2 M r))) s 0 0 0 0 (fun q => s0.heap.size ≤ q)) (F0 m 5 ls []) := by
    intro d
    induction d with
    | zero => intro x3 x4 M1 r1 H locs ls hl hw hF; exact absurd hF hno
    | succ d ih =>
      intro x3 x4 M1 r1 H locs ls hl hw hF
      have hF := hF.trans (F_Mo_numbered_L5.eq_2 _ _ _ _ _ _ _ _)
      refine lv_aload_n hx hb d_Mo_numbered_5 rfl (lv_at hl 2 rfl) ?_
      refine lv_aload_n hx hb d_Mo_numbered_6 rfl (lv_at hl 2 rfl) ?_
      refine lv_iload_n hx hb d_Mo_numbered_7 rfl (lv_at hl 0 rfl) ?_
      refine gy_V B hl.1 hw (t_Mo_here G _ _ ow fu x3 (nn hno hF)) (kd_Mo_here T) (ki_Mo T) (km_Mo_84 T) (ka_Mo_here T) (ks_Mo_here T) ⟨by decide, by decide, by rfl⟩ (rv_Mo hK hw rfl) rfl (Nat.le_of_ble_eq_true rfl) ⟨by decide, by decide⟩ ⟨by decide, by decide⟩ d_Mo_numbered_8 (fun v M17 r17 H locs hw hp => ?_) (fun x ek M17 r17 H locs hw hE hp => gr_t B hexc hw hE (by decide) (by decide) (hF.trans (bnd_ex hp)))
      obtain ⟨v17, rfl, hp⟩ := hp
      have hF := hF.trans (bnd_ok hp)
      refine lv_iload_n hx hb d_Mo_numbered_11 rfl (lv_at hl 4 rfl) ?_
      refine gy_V B hl.1 hw (t_Mo_digit G _ _ ow fu v17 x2 (nn hno hF)) (kd_Mo_digit T) (ki_Mo T) (km_Mo_121 T) (ka_Mo_digit T) (ks_Mo_digit T) ⟨by decide, by decide, by rfl⟩ (rv_Mo hK hw rfl) rfl (Nat.le_of_ble_eq_true rfl) ⟨by decide, by decide⟩ ⟨by decide, by decide⟩ d_Mo_numbered_12 (fun v M18 r18 H locs hw hp => ?_) (fun x ek M18 r18 H locs hw hE hp => gr_t B hexc hw hE (by decide) (by decide) (hF.trans (bnd_ex hp)))
      obtain ⟨v18, rfl, hp⟩ := hp
      have hF := hF.trans (bnd_ok hp)
      refine lv_if_lt hx hb d_Mo_numbered_15 rfl (fun h19 => ?_) (fun h19 => ?_)
      · skip
        have hF := hF.trans (if_pos h19)
        exact X55 x3 x4 _ _ _ _ _ (gv_loc hl [0, 1, 2, 3] rfl) hw hF
      · skip
        have hF := hF.trans (if_neg h19)
        refine lv_iload hx hb d_Mo_numbered_18 (lv_at hl 1 rfl) ?_
        refine lv_sipush (v := 999) hx hb d_Mo_numbered_20 (by decide) ?_
        refine lv_icmp_le hx hb d_Mo_numbered_23 rfl (fun h20 => ?_) (fun h20 => ?_)
        · skip
          have hF := hF.trans (if_pos h20)
          refine lv_iload_n hx hb d_Mo_numbered_32 rfl (lv_at hl 4 rfl) ?_
          refine lv_iload hx hb d_Mo_numbered_33 (lv_at hl 1 rfl) ?_
          refine lv_imul hx hb d_Mo_numbered_35 ?_
          refine lv_aload_n hx hb d_Mo_numbered_36 rfl (lv_at hl 2 rfl) ?_
          refine lv_aload_n hx hb d_Mo_numbered_37 rfl (lv_at hl 2 rfl) ?_
          refine lv_iload_n hx hb d_Mo_numbered_38 rfl (lv_at hl 0 rfl) ?_
          refine gy_V B hl.1 hw (t_Mo_here G _ _ ow fu x3 (nn hno hF)) (kd_Mo_here T) (ki_Mo T) (km_Mo_84 T) (ka_Mo_here T) (ks_Mo_here T) ⟨by decide, by decide, by rfl⟩ (rv_Mo hK hw rfl) rfl (Nat.le_of_ble_eq_true rfl) ⟨by decide, by decide⟩ ⟨by decide, by decide⟩ d_Mo_numbered_39 (fun v M21 r21 H locs hw hp => ?_) (fun x ek M21 r21 H locs hw hE hp => gr_t B hexc hw hE (by decide) (by decide) (hF.trans (bnd_ex hp)))
          obtain ⟨v21, rfl, hp⟩ := hp
          have hF := hF.trans (bnd_ok hp)
          refine lv_iload_n hx hb d_Mo_numbered_42 rfl (lv_at hl 4 rfl) ?_
          refine gy_V B hl.1 hw (t_Mo_digit G _ _ ow fu v21 x2 (nn hno hF)) (kd_Mo_digit T) (ki_Mo T) (km_Mo_121 T) (ka_Mo_digit T) (ks_Mo_digit T) ⟨by decide, by decide, by rfl⟩ (rv_Mo hK hw rfl) rfl (Nat.le_of_ble_eq_true rfl) ⟨by decide, by decide⟩ ⟨by decide, by decide⟩ d_Mo_numbered_43 (fun v M22 r22 H locs hw hp => ?_) (fun x ek M22 r22 H locs hw hE hp => gr_t B hexc hw hE (by decide) (by decide) (hF.trans (bnd_ex hp)))
          obtain ⟨v22, rfl, hp⟩ := hp
          have hF := hF.trans (bnd_ok hp)
          refine lv_iadd hx hb d_Mo_numbered_46 ?_
          refine lv_istore hx hb d_Mo_numbered_47 hl (by decide) rfl (fun ls hl => ?_)
          refine lv_iinc (k := 1) hx hb d_Mo_numbered_49 hl rfl (show _ + Int32.ofInt 1 = _ + 1 from rfl) (by decide) rfl (fun ls hl => ?_)
          refine lv_goto hx hb d_Mo_numbered_52 rfl ?_
          exact ih (x3 + 1) ((x2 * x4) + v22) _ _ _ _ _ (gv_loc hl [0, 1, 2, 3, 4] rfl) hw hF
        · skip
          have hF := hF.trans (if_neg h20)
          refine lv_sipush (v := 999) hx hb d_Mo_numbered_26 (by decide) ?_
          refine lv_goto hx hb d_Mo_numbered_29 rfl ?_
          refine lv_istore hx hb d_Mo_numbered_47 hl (by decide) rfl (fun ls hl => ?_)
          refine lv_iinc (k := 1) hx hb d_Mo_numbered_49 hl rfl (show _ + Int32.ofInt 1 = _ + 1 from rfl) (by decide) rfl (fun ls hl => ?_)
          refine lv_goto hx hb d_Mo_numbered_52 rfl ?_
          exact ih (x3 + 1) 999 _ _ _ _ _ (gv_loc hl [0, 1, 2, 3, 4] rfl) hw hF
  have hF := F_Mo_numbered.eq_1 fu x1 x2 M r
  refine lv_iload_n hx hb d_Mo_numbered_0 rfl (lv_at hl 1 rfl) ?_
  refine lv_istore_n hx hb d_Mo_numbered_1 rfl hl (by decide) rfl (fun ls hl => ?_)
  refine lv_iconst (v := 0) hx hb d_Mo_numbered_2 (by decide) ?_
  refine lv_istore hx hb d_Mo_numbered_3 hl (by decide) rfl (fun ls hl => ?_)
  exact L5 fu x1 0 _ _ _ _ _ (gv_loc hl [1, 0, 2, 3, 4] rfl) hw hF
theorem d_Mo_stands_0 : decode b_Mo_stands 0 = .ok (.aload_n 0, 1) := by decide +kernel
theorem d_Mo_stands_1 : decode b_Mo_stands 1 = .ok (.iload_n 1, 1) := by decide +kernel
theorem d_Mo_stands_2 : decode b_Mo_stands 2 = .ok (.invokevirtual 84, 3) := by decide +kernel
theorem d_Mo_stands_5 : decode b_Mo_stands 5 = .ok (.iload_n 2, 1) := by decide +kernel
theorem d_Mo_stands_6 : decode b_Mo_stands 6 = .ok (.if_icmp .ne 18, 3) := by decide +kernel
theorem d_Mo_stands_9 : decode b_Mo_stands 9 = .ok (.aload_n 0, 1) := by decide +kernel
theorem d_Mo_stands_10 : decode b_Mo_stands 10 = .ok (.iload_n 1, 1) := by decide +kernel
theorem d_Mo_stands_11 : decode b_Mo_stands 11 = .ok (.iconst 1, 1) := by decide +kernel
theorem d_Mo_stands_12 : decode b_Mo_stands 12 = .ok (.iadd, 1) := by decide +kernel
theorem d_Mo_stands_13 : decode b_Mo_stands 13 = .ok (.invokevirtual 84, 3) := by decide +kernel
theorem d_Mo_stands_16 : decode b_Mo_stands 16 = .ok (.iload_n 3, 1) := by decide +kernel
theorem d_Mo_stands_17 : decode b_Mo_stands 17 = .ok (.if_icmp .ne 7, 3) := by decide +kernel
theorem d_Mo_stands_20 : decode b_Mo_stands 20 = .ok (.iconst 1, 1) := by decide +kernel
theorem d_Mo_stands_21 : decode b_Mo_stands 21 = .ok (.goto 4, 3) := by decide +kernel
theorem d_Mo_stands_24 : decode b_Mo_stands 24 = .ok (.iconst 0, 1) := by decide +kernel
theorem d_Mo_stands_25 : decode b_Mo_stands 25 = .ok (.istore 6, 2) := by decide +kernel
theorem d_Mo_stands_27 : decode b_Mo_stands 27 = .ok (.iload 6, 2) := by decide +kernel
theorem d_Mo_stands_29 : decode b_Mo_stands 29 = .ok (.ifCond .eq 29, 3) := by decide +kernel
theorem d_Mo_stands_32 : decode b_Mo_stands 32 = .ok (.aload_n 0, 1) := by decide +kernel
theorem d_Mo_stands_33 : decode b_Mo_stands 33 = .ok (.iload_n 1, 1) := by decide +kernel
theorem d_Mo_stands_34 : decode b_Mo_stands 34 = .ok (.iconst 2, 1) := by decide +kernel
theorem d_Mo_stands_35 : decode b_Mo_stands 35 = .ok (.iadd, 1) := by decide +kernel
theorem d_Mo_stands_36 : decode b_Mo_stands 36 = .ok (.invokevirtual 84, 3) := by decide +kernel
theorem d_Mo_stands_39 : decode b_Mo_stands 39 = .ok (.iload 4, 2) := by decide +kernel
theorem d_Mo_stands_41 : decode b_Mo_stands 41 = .ok (.ifCond .ne 8, 3) := by decide +kernel
theorem d_Mo_stands_44 : decode b_Mo_stands 44 = .ok (.bipush 59, 2) := by decide +kernel
theorem d_Mo_stands_46 : decode b_Mo_stands 46 = .ok (.goto 5, 3) := by decide +kernel
theorem d_Mo_stands_49 : decode b_Mo_stands 49 = .ok (.iload 4, 2) := by decide +kernel
theorem d_Mo_stands_51 : decode b_Mo_stands 51 = .ok (.if_icmp .ne 7, 3) := by decide +kernel
theorem d_Mo_stands_54 : decode b_Mo_stands 54 = .ok (.iconst 1, 1) := by decide +kernel
theorem d_Mo_stands_55 : decode b_Mo_stands 55 = .ok (.goto 4, 3) := by decide +kernel
theorem d_Mo_stands_58 : decode b_Mo_stands 58 = .ok (.iconst 0, 1) := by decide +kernel
theorem d_Mo_stands_59 : decode b_Mo_stands 59 = .ok (.istore 6, 2) := by decide +kernel
theorem d_Mo_stands_61 : decode b_Mo_stands 61 = .ok (.iload 6, 2) := by decide +kernel
theorem d_Mo_stands_63 : decode b_Mo_stands 63 = .ok (.ifCond .eq 51, 3) := by decide +kernel
theorem d_Mo_stands_66 : decode b_Mo_stands 66 = .ok (.iload 4, 2) := by decide +kernel
theorem d_Mo_stands_68 : decode b_Mo_stands 68 = .ok (.ifCond .eq 42, 3) := by decide +kernel
theorem d_Mo_stands_71 : decode b_Mo_stands 71 = .ok (.aload_n 0, 1) := by decide +kernel
theorem d_Mo_stands_72 : decode b_Mo_stands 72 = .ok (.iload_n 1, 1) := by decide +kernel
theorem d_Mo_stands_73 : decode b_Mo_stands 73 = .ok (.iconst 3, 1) := by decide +kernel
theorem d_Mo_stands_74 : decode b_Mo_stands 74 = .ok (.iadd, 1) := by decide +kernel
theorem d_Mo_stands_75 : decode b_Mo_stands 75 = .ok (.invokevirtual 84, 3) := by decide +kernel
theorem d_Mo_stands_78 : decode b_Mo_stands 78 = .ok (.iload 5, 2) := by decide +kernel
theorem d_Mo_stands_80 : decode b_Mo_stands 80 = .ok (.ifCond .ne 8, 3) := by decide +kernel
theorem d_Mo_stands_83 : decode b_Mo_stands 83 = .ok (.bipush 59, 2) := by decide +kernel
theorem d_Mo_stands_85 : decode b_Mo_stands 85 = .ok (.goto 5, 3) := by decide +kernel
theorem d_Mo_stands_88 : decode b_Mo_stands 88 = .ok (.iload 5, 2) := by decide +kernel
theorem d_Mo_stands_90 : decode b_Mo_stands 90 = .ok (.if_icmp .ne 24, 3) := by decide +kernel
theorem d_Mo_stands_93 : decode b_Mo_stands 93 = .ok (.iload 5, 2) := by decide +kernel
theorem d_Mo_stands_95 : decode b_Mo_stands 95 = .ok (.ifCond .eq 15, 3) := by decide +kernel
theorem d_Mo_stands_98 : decode b_Mo_stands 98 = .ok (.aload_n 0, 1) := by decide +kernel
theorem d_Mo_stands_99 : decode b_Mo_stands 99 = .ok (.iload_n 1, 1) := by decide +kernel
theorem d_Mo_stands_100 : decode b_Mo_stands 100 = .ok (.iconst 4, 1) := by decide +kernel
theorem d_Mo_stands_101 : decode b_Mo_stands 101 = .ok (.iadd, 1) := by decide +kernel
theorem d_Mo_stands_102 : decode b_Mo_stands 102 = .ok (.invokevirtual 84, 3) := by decide +kernel
theorem d_Mo_stands_105 : decode b_Mo_stands 105 = .ok (.bipush 59, 2) := by decide +kernel
theorem d_Mo_stands_107 : decode b_Mo_stands 107 = .ok (.if_icmp .ne 7, 3) := by decide +kernel
theorem d_Mo_stands_110 : decode b_Mo_stands 110 = .ok (.iconst 1, 1) := by decide +kernel
theorem d_Mo_stands_111 : decode b_Mo_stands 111 = .ok (.goto 4, 3) := by decide +kernel
theorem d_Mo_stands_114 : decode b_Mo_stands 114 = .ok (.iconst 0, 1) := by decide +kernel
theorem d_Mo_stands_115 : decode b_Mo_stands 115 = .ok (.ireturn, 1) := by decide +kernel
set_option maxHeartbeats 4000000 in
set_option maxRecDepth 100000 in
theorem t_Mo_stands {l : Launch} {s0 : State} {D : va_G} {aC : Nat → ClassId} {a0 : Array Value} (G : gG l s0 D aC a0) (M : gMem) (r : gRef) (ow : Int64) (fu : Nat) (x1 : Int32) (x2 : Int32) (x3 : Int32) (x4 : Int32) (x5 : Int32)  (hno : F_Mo_stands fu x1 x2 x3 x4 x5 M r ≠ .no) : gMet l s0 D aC y_Mo_stands (Cond.code y_Mo_stands b_Mo_stands 7 (some .boolean)) 1 21 0 0 [.ref (s0.heap.size + 383), .int x1, .int x2, .int x3, .int x4, .int x5] M r ow (qI (F_Mo_stands fu x1 x2 x3 x4 x5 M r)) (qT (F_Mo_stands fu x1 x2 x3 x4 x5 M r)) := by
  refine gm_of G (by decide) (Nat.le_of_ble_eq_true rfl) ?_
  intro p e s m below meth c ls B hexc hl hw
  have hx := B.1
  have hb := B.2.1
  have hown := B.2.2.2.2.2.1
  have T := B.2.2.2.2.2.2.1
  have hK := B.2.2.2.2.2.2.2.1
  have hF := F_Mo_stands.eq_1 fu x1 x2 x3 x4 x5 M r
  refine lv_aload_n hx hb d_Mo_stands_0 rfl (lv_at hl 0 rfl) ?_
  refine lv_iload_n hx hb d_Mo_stands_1 rfl (lv_at hl 1 rfl) ?_
  refine gy_V B hl.1 hw (t_Mo_here G _ _ ow fu x1 (nn hno hF)) (kd_Mo_here T) (ki_Mo T) (km_Mo_84 T) (ka_Mo_here T) (ks_Mo_here T) ⟨by decide, by decide, by rfl⟩ (rv_Mo hK hw rfl) rfl (Nat.le_of_ble_eq_true rfl) ⟨by decide, by decide⟩ ⟨by decide, by decide⟩ d_Mo_stands_2 (fun v M31 r31 H locs hw hp => ?_) (fun x ek M31 r31 H locs hw hE hp => gr_t B hexc hw hE (by decide) (by decide) (hF.trans (bnd_ex hp)))
  obtain ⟨v31, rfl, hp⟩ := hp
  have hF := hF.trans (bnd_ok hp)
  refine lv_iload_n hx hb d_Mo_stands_5 rfl (lv_at hl 2 rfl) ?_
  refine lv_icmp_ne hx hb d_Mo_stands_6 rfl (fun h32 => ?_) (fun h32 => ?_)
  · skip
    have hF := hF.trans (if_neg h32)
    refine lv_iconst (v := 0) hx hb d_Mo_stands_24 (by decide) ?_
    refine lv_istore hx hb d_Mo_stands_25 hl (by decide) rfl (fun ls hl => ?_)
    refine lv_iload hx hb d_Mo_stands_27 (lv_at hl 0 rfl) ?_
    refine lv_if_eq hx hb d_Mo_stands_29 rfl (fun _ => ?_) (fun h => absurd h (by decide))
    refine lv_iconst (v := 0) hx hb d_Mo_stands_58 (by decide) ?_
    refine lv_istore hx hb d_Mo_stands_59 hl (by decide) rfl (fun ls hl => ?_)
    refine lv_iload hx hb d_Mo_stands_61 (lv_at hl 0 rfl) ?_
    refine lv_if_eq hx hb d_Mo_stands_63 rfl (fun _ => ?_) (fun h => absurd h (by decide))
    refine lv_iconst (v := 0) hx hb d_Mo_stands_114 (by decide) ?_
    exact gr_z B hw (by rfl) d_Mo_stands_115 ⟨_, rfl, hF⟩
  · skip
    have hF := hF.trans (if_pos h32)
    refine lv_aload_n hx hb d_Mo_stands_9 rfl (lv_at hl 0 rfl) ?_
    refine lv_iload_n hx hb d_Mo_stands_10 rfl (lv_at hl 1 rfl) ?_
    refine lv_iconst (v := 1) hx hb d_Mo_stands_11 (by decide) ?_
    refine lv_iadd hx hb d_Mo_stands_12 ?_
    refine gy_V B hl.1 hw (t_Mo_here G _ _ ow fu (x1 + 1) (nn hno hF)) (kd_Mo_here T) (ki_Mo T) (km_Mo_84 T) (ka_Mo_here T) (ks_Mo_here T) ⟨by decide, by decide, by rfl⟩ (rv_Mo hK hw rfl) rfl (Nat.le_of_ble_eq_true rfl) ⟨by decide, by decide⟩ ⟨by decide, by decide⟩ d_Mo_stands_13 (fun v M33 r33 H locs hw hp => ?_) (fun x ek M33 r33 H locs hw hE hp => gr_t B hexc hw hE (by decide) (by decide) (hF.trans (bnd_ex hp)))
    obtain ⟨v33, rfl, hp⟩ := hp
    have hF := hF.trans (bnd_ok hp)
    refine lv_iload_n hx hb d_Mo_stands_16 rfl (lv_at hl 3 rfl) ?_
    refine lv_icmp_ne hx hb d_Mo_stands_17 rfl (fun h34 => ?_) (fun h34 => ?_)
    · skip
      have hF := hF.trans (if_neg h34)
      refine lv_iconst (v := 0) hx hb d_Mo_stands_24 (by decide) ?_
      refine lv_istore hx hb d_Mo_stands_25 hl (by decide) rfl (fun ls hl => ?_)
      refine lv_iload hx hb d_Mo_stands_27 (lv_at hl 0 rfl) ?_
      refine lv_if_eq hx hb d_Mo_stands_29 rfl (fun _ => ?_) (fun h => absurd h (by decide))
      refine lv_iconst (v := 0) hx hb d_Mo_stands_58 (by decide) ?_
      refine lv_istore hx hb d_Mo_stands_59 hl (by decide) rfl (fun ls hl => ?_)
      refine lv_iload hx hb d_Mo_stands_61 (lv_at hl 0 rfl) ?_
      refine lv_if_eq hx hb d_Mo_stands_63 rfl (fun _ => ?_) (fun h => absurd h (by decide))
      refine lv_iconst (v := 0) hx hb d_Mo_stands_114 (by decide) ?_
      exact gr_z B hw (by rfl) d_Mo_stands_115 ⟨_, rfl, hF⟩
    · skip
      have hF := hF.trans (if_pos h34)
      refine lv_iconst (v := 1) hx hb d_Mo_stands_20 (by decide) ?_
      refine lv_goto hx hb d_Mo_stands_21 rfl ?_
      refine lv_istore hx hb d_Mo_stands_25 hl (by decide) rfl (fun ls hl => ?_)
      refine lv_iload hx hb d_Mo_stands_27 (lv_at hl 0 rfl) ?_
      refine lv_if_eq hx hb d_Mo_stands_29 rfl (fun h => absurd h (by decide)) (fun _ => ?_)
      refine lv_aload_n hx hb d_Mo_stands_32 rfl (lv_at hl 1 rfl) ?_
      refine lv_iload_n hx hb d_Mo_stands_33 rfl (lv_at hl 2 rfl) ?_
      refine lv_iconst (v := 2) hx hb d_Mo_stands_34 (by decide) ?_
      refine lv_iadd hx hb d_Mo_stands_35 ?_
      refine gy_V B hl.1 hw (t_Mo_here G _ _ ow fu (x1 + 2) (nn hno hF)) (kd_Mo_here T) (ki_Mo T) (km_Mo_84 T) (ka_Mo_here T) (ks_Mo_here T) ⟨by decide, by decide, by rfl⟩ (rv_Mo hK hw rfl) rfl (Nat.le_of_ble_eq_true rfl) ⟨by decide, by decide⟩ ⟨by decide, by decide⟩ d_Mo_stands_36 (fun v M35 r35 H locs hw hp => ?_) (fun x ek M35 r35 H locs hw hE hp => gr_t B hexc hw hE (by decide) (by decide) (hF.trans (bnd_ex hp)))
      obtain ⟨v35, rfl, hp⟩ := hp
      have hF := hF.trans (bnd_ok hp)
      refine lv_iload hx hb d_Mo_stands_39 (lv_at hl 5 rfl) ?_
      refine lv_if_ne hx hb d_Mo_stands_41 rfl (fun h36 => ?_) (fun h36 => ?_)
      · skip
        have hF := hF.trans (if_neg h36)
        refine lv_iload hx hb d_Mo_stands_49 (lv_at hl 5 rfl) ?_
        refine lv_icmp_ne hx hb d_Mo_stands_51 rfl (fun h37 => ?_) (fun h37 => ?_)
        · skip
          have hF := hF.trans (if_neg h37)
          refine lv_iconst (v := 0) hx hb d_Mo_stands_58 (by decide) ?_
          refine lv_istore hx hb d_Mo_stands_59 hl (by decide) rfl (fun ls hl => ?_)
          refine lv_iload hx hb d_Mo_stands_61 (lv_at hl 0 rfl) ?_
          refine lv_if_eq hx hb d_Mo_stands_63 rfl (fun _ => ?_) (fun h => absurd h (by decide))
          refine lv_iconst (v := 0) hx hb d_Mo_stands_114 (by decide) ?_
          exact gr_z B hw (by rfl) d_Mo_stands_115 ⟨_, rfl, hF⟩
        · skip
          have hF := hF.trans (if_pos h37)
          refine lv_iconst (v := 1) hx hb d_Mo_stands_54 (by decide) ?_
          refine lv_goto hx hb d_Mo_stands_55 rfl ?_
          refine lv_istore hx hb d_Mo_stands_59 hl (by decide) rfl (fun ls hl => ?_)
          refine lv_iload hx hb d_Mo_stands_61 (lv_at hl 0 rfl) ?_
          refine lv_if_eq hx hb d_Mo_stands_63 rfl (fun h => absurd h (by decide)) (fun _ => ?_)
          refine lv_iload hx hb d_Mo_stands_66 (lv_at hl 5 rfl) ?_
          refine lv_if_eq hx hb d_Mo_stands_68 rfl (fun h38 => ?_) (fun h38 => ?_)
          · skip
            have hF := hF.trans (if_pos h38)
            refine lv_iconst (v := 1) hx hb d_Mo_stands_110 (by decide) ?_
            refine lv_goto hx hb d_Mo_stands_111 rfl ?_
            exact gr_z B hw (by rfl) d_Mo_stands_115 ⟨_, rfl, hF⟩
          · skip
            have hF := hF.trans (if_neg h38)
            refine lv_aload_n hx hb d_Mo_stands_71 rfl (lv_at hl 1 rfl) ?_
            refine lv_iload_n hx hb d_Mo_stands_72 rfl (lv_at hl 2 rfl) ?_
            refine lv_iconst (v := 3) hx hb d_Mo_stands_73 (by decide) ?_
            refine lv_iadd hx hb d_Mo_stands_74 ?_
            refine gy_V B hl.1 hw (t_Mo_here G _ _ ow fu (x1 + 3) (nn hno hF)) (kd_Mo_here T) (ki_Mo T) (km_Mo_84 T) (ka_Mo_here T) (ks_Mo_here T) ⟨by decide, by decide, by rfl⟩ (rv_Mo hK hw rfl) rfl (Nat.le_of_ble_eq_true rfl) ⟨by decide, by decide⟩ ⟨by decide, by decide⟩ d_Mo_stands_75 (fun v M39 r39 H locs hw hp => ?_) (fun x ek M39 r39 H locs hw hE hp => gr_t B hexc hw hE (by decide) (by decide) (hF.trans (bnd_ex hp)))
            obtain ⟨v39, rfl, hp⟩ := hp
            have hF := hF.trans (bnd_ok hp)
            refine lv_iload hx hb d_Mo_stands_78 (lv_at hl 6 rfl) ?_
            refine lv_if_ne hx hb d_Mo_stands_80 rfl (fun h40 => ?_) (fun h40 => ?_)
            · skip
              have hF := hF.trans (if_neg h40)
              refine lv_iload hx hb d_Mo_stands_88 (lv_at hl 6 rfl) ?_
              refine lv_icmp_ne hx hb d_Mo_stands_90 rfl (fun h41 => ?_) (fun h41 => ?_)
              · skip
                have hF := hF.trans (if_neg h41)
                refine lv_iconst (v := 0) hx hb d_Mo_stands_114 (by decide) ?_
                exact gr_z B hw (by rfl) d_Mo_stands_115 ⟨_, rfl, hF⟩
              · skip
                have hF := hF.trans (if_pos h41)
                refine lv_iload hx hb d_Mo_stands_93 (lv_at hl 6 rfl) ?_
                refine lv_if_eq hx hb d_Mo_stands_95 rfl (fun h42 => ?_) (fun h42 => ?_)
                · skip
                  have hF := hF.trans (if_pos h42)
                  refine lv_iconst (v := 1) hx hb d_Mo_stands_110 (by decide) ?_
                  refine lv_goto hx hb d_Mo_stands_111 rfl ?_
                  exact gr_z B hw (by rfl) d_Mo_stands_115 ⟨_, rfl, hF⟩
                · skip
                  have hF := hF.trans (if_neg h42)
                  refine lv_aload_n hx hb d_Mo_stands_98 rfl (lv_at hl 1 rfl) ?_
                  refine lv_iload_n hx hb d_Mo_stands_99 rfl (lv_at hl 2 rfl) ?_
                  refine lv_iconst (v := 4) hx hb d_Mo_stands_100 (by decide) ?_
                  refine lv_iadd hx hb d_Mo_stands_101 ?_
                  refine gy_V B hl.1 hw (t_Mo_here G _ _ ow fu (x1 + 4) (nn hno hF)) (kd_Mo_here T) (ki_Mo T) (km_Mo_84 T) (ka_Mo_here T) (ks_Mo_here T) ⟨by decide, by decide, by rfl⟩ (rv_Mo hK hw rfl) rfl (Nat.le_of_ble_eq_true rfl) ⟨by decide, by decide⟩ ⟨by decide, by decide⟩ d_Mo_stands_102 (fun v M43 r43 H locs hw hp => ?_) (fun x ek M43 r43 H locs hw hE hp => gr_t B hexc hw hE (by decide) (by decide) (hF.trans (bnd_ex hp)))
                  obtain ⟨v43, rfl, hp⟩ := hp
                  have hF := hF.trans (bnd_ok hp)
                  refine lv_bipush (v := 59) hx hb d_Mo_stands_105 (by decide) ?_
                  refine lv_icmp_ne hx hb d_Mo_stands_107 rfl (fun h44 => ?_) (fun h44 => ?_)
                  · skip
                    have hF := hF.trans (if_neg h44)
                    refine lv_iconst (v := 0) hx hb d_Mo_stands_114 (by decide) ?_
                    exact gr_z B hw (by rfl) d_Mo_stands_115 ⟨_, rfl, hF⟩
                  · skip
                    have hF := hF.trans (if_pos h44)
                    refine lv_iconst (v := 1) hx hb d_Mo_stands_110 (by decide) ?_
                    refine lv_goto hx hb d_Mo_stands_111 rfl ?_
                    exact gr_z B hw (by rfl) d_Mo_stands_115 ⟨_, rfl, hF⟩
            · skip
              have hF := hF.trans (if_pos h40)
              refine lv_bipush (v := 59) hx hb d_Mo_stands_83 (by decide) ?_
              refine lv_goto hx hb d_Mo_stands_85 rfl ?_
              refine lv_icmp_ne hx hb d_Mo_stands_90 rfl (fun h45 => ?_) (fun h45 => ?_)
              · skip
                have hF := hF.trans (if_neg h45)
                refine lv_iconst (v := 0) hx hb d_Mo_stands_114 (by decide) ?_
                exact gr_z B hw (by rfl) d_Mo_stands_115 ⟨_, rfl, hF⟩
              · skip
                have hF := hF.trans (if_pos h45)
                refine lv_iload hx hb d_Mo_stands_93 (lv_at hl 6 rfl) ?_
                refine lv_if_eq hx hb d_Mo_stands_95 rfl (fun h46 => ?_) (fun h46 => ?_)
                · skip
                  have hF := hF.trans (if_pos h46)
                  refine lv_iconst (v := 1) hx hb d_Mo_stands_110 (by decide) ?_
                  refine lv_goto hx hb d_Mo_stands_111 rfl ?_
                  exact gr_z B hw (by rfl) d_Mo_stands_115 ⟨_, rfl, hF⟩
                · skip
                  have hF := hF.trans (if_neg h46)
                  refine lv_aload_n hx hb d_Mo_stands_98 rfl (lv_at hl 1 rfl) ?_
                  refine lv_iload_n hx hb d_Mo_stands_99 rfl (lv_at hl 2 rfl) ?_
                  refine lv_iconst (v := 4) hx hb d_Mo_stands_100 (by decide) ?_
                  refine lv_iadd hx hb d_Mo_stands_101 ?_
                  refine gy_V B hl.1 hw (t_Mo_here G _ _ ow fu (x1 + 4) (nn hno hF)) (kd_Mo_here T) (ki_Mo T) (km_Mo_84 T) (ka_Mo_here T) (ks_Mo_here T) ⟨by decide, by decide, by rfl⟩ (rv_Mo hK hw rfl) rfl (Nat.le_of_ble_eq_true rfl) ⟨by decide, by decide⟩ ⟨by decide, by decide⟩ d_Mo_stands_102 (fun v M47 r47 H locs hw hp => ?_) (fun x ek M47 r47 H locs hw hE hp => gr_t B hexc hw hE (by decide) (by decide) (hF.trans (bnd_ex hp)))
                  obtain ⟨v47, rfl, hp⟩ := hp
                  have hF := hF.trans (bnd_ok hp)
                  refine lv_bipush (v := 59) hx hb d_Mo_stands_105 (by decide) ?_
                  refine lv_icmp_ne hx hb d_Mo_stands_107 rfl (fun h48 => ?_) (fun h48 => ?_)
                  · skip
                    have hF := hF.trans (if_neg h48)
                    refine lv_iconst (v := 0) hx hb d_Mo_stands_114 (by decide) ?_
                    exact gr_z B hw (by rfl) d_Mo_stands_115 ⟨_, rfl, hF⟩
                  · skip
                    have hF := hF.trans (if_pos h48)
                    refine lv_iconst (v := 1) hx hb d_Mo_stands_110 (by decide) ?_
                    refine lv_goto hx hb d_Mo_stands_111 rfl ?_
                    exact gr_z B hw (by rfl) d_Mo_stands_115 ⟨_, rfl, hF⟩
      · skip
        have hF := hF.trans (if_pos h36)
        refine lv_bipush (v := 59) hx hb d_Mo_stands_44 (by decide) ?_
        refine lv_goto hx hb d_Mo_stands_46 rfl ?_
        refine lv_icmp_ne hx hb d_Mo_stands_51 rfl (fun h49 => ?_) (fun h49 => ?_)
        · skip
          have hF := hF.trans (if_neg h49)
          refine lv_iconst (v := 0) hx hb d_Mo_stands_58 (by decide) ?_
          refine lv_istore hx hb d_Mo_stands_59 hl (by decide) rfl (fun ls hl => ?_)
          refine lv_iload hx hb d_Mo_stands_61 (lv_at hl 0 rfl) ?_
          refine lv_if_eq hx hb d_Mo_stands_63 rfl (fun _ => ?_) (fun h => absurd h (by decide))
          refine lv_iconst (v := 0) hx hb d_Mo_stands_114 (by decide) ?_
          exact gr_z B hw (by rfl) d_Mo_stands_115 ⟨_, rfl, hF⟩
        · skip
          have hF := hF.trans (if_pos h49)
          refine lv_iconst (v := 1) hx hb d_Mo_stands_54 (by decide) ?_
          refine lv_goto hx hb d_Mo_stands_55 rfl ?_
          refine lv_istore hx hb d_Mo_stands_59 hl (by decide) rfl (fun ls hl => ?_)
          refine lv_iload hx hb d_Mo_stands_61 (lv_at hl 0 rfl) ?_
          refine lv_if_eq hx hb d_Mo_stands_63 rfl (fun h => absurd h (by decide)) (fun _ => ?_)
          refine lv_iload hx hb d_Mo_stands_66 (lv_at hl 5 rfl) ?_
          refine lv_if_eq hx hb d_Mo_stands_68 rfl (fun h50 => ?_) (fun h50 => ?_)
          · skip
            have hF := hF.trans (if_pos h50)
            refine lv_iconst (v := 1) hx hb d_Mo_stands_110 (by decide) ?_
            refine lv_goto hx hb d_Mo_stands_111 rfl ?_
            exact gr_z B hw (by rfl) d_Mo_stands_115 ⟨_, rfl, hF⟩
          · skip
            have hF := hF.trans (if_neg h50)
            refine lv_aload_n hx hb d_Mo_stands_71 rfl (lv_at hl 1 rfl) ?_
            refine lv_iload_n hx hb d_Mo_stands_72 rfl (lv_at hl 2 rfl) ?_
            refine lv_iconst (v := 3) hx hb d_Mo_stands_73 (by decide) ?_
            refine lv_iadd hx hb d_Mo_stands_74 ?_
            refine gy_V B hl.1 hw (t_Mo_here G _ _ ow fu (x1 + 3) (nn hno hF)) (kd_Mo_here T) (ki_Mo T) (km_Mo_84 T) (ka_Mo_here T) (ks_Mo_here T) ⟨by decide, by decide, by rfl⟩ (rv_Mo hK hw rfl) rfl (Nat.le_of_ble_eq_true rfl) ⟨by decide, by decide⟩ ⟨by decide, by decide⟩ d_Mo_stands_75 (fun v M51 r51 H locs hw hp => ?_) (fun x ek M51 r51 H locs hw hE hp => gr_t B hexc hw hE (by decide) (by decide) (hF.trans (bnd_ex hp)))
            obtain ⟨v51, rfl, hp⟩ := hp
            have hF := hF.trans (bnd_ok hp)
            refine lv_iload hx hb d_Mo_stands_78 (lv_at hl 6 rfl) ?_
            refine lv_if_ne hx hb d_Mo_stands_80 rfl (fun h52 => ?_) (fun h52 => ?_)
            · skip
              have hF := hF.trans (if_neg h52)
              refine lv_iload hx hb d_Mo_stands_88 (lv_at hl 6 rfl) ?_
              refine lv_icmp_ne hx hb d_Mo_stands_90 rfl (fun h53 => ?_) (fun h53 => ?_)
              · skip
                have hF := hF.trans (if_neg h53)
                refine lv_iconst (v := 0) hx hb d_Mo_stands_114 (by decide) ?_
                exact gr_z B hw (by rfl) d_Mo_stands_115 ⟨_, rfl, hF⟩
              · skip
                have hF := hF.trans (if_pos h53)
                refine lv_iload hx hb d_Mo_stands_93 (lv_at hl 6 rfl) ?_
                refine lv_if_eq hx hb d_Mo_stands_95 rfl (fun h54 => ?_) (fun h54 => ?_)
                · skip
                  have hF := hF.trans (if_pos h54)
                  refine lv_iconst (v := 1) hx hb d_Mo_stands_110 (by decide) ?_
                  refine lv_goto hx hb d_Mo_stands_111 rfl ?_
                  exact gr_z B hw (by rfl) d_Mo_stands_115 ⟨_, rfl, hF⟩
                · skip
                  have hF := hF.trans (if_neg h54)
                  refine lv_aload_n hx hb d_Mo_stands_98 rfl (lv_at hl 1 rfl) ?_
                  refine lv_iload_n hx hb d_Mo_stands_99 rfl (lv_at hl 2 rfl) ?_
                  refine lv_iconst (v := 4) hx hb d_Mo_stands_100 (by decide) ?_
                  refine lv_iadd hx hb d_Mo_stands_101 ?_
                  refine gy_V B hl.1 hw (t_Mo_here G _ _ ow fu (x1 + 4) (nn hno hF)) (kd_Mo_here T) (ki_Mo T) (km_Mo_84 T) (ka_Mo_here T) (ks_Mo_here T) ⟨by decide, by decide, by rfl⟩ (rv_Mo hK hw rfl) rfl (Nat.le_of_ble_eq_true rfl) ⟨by decide, by decide⟩ ⟨by decide, by decide⟩ d_Mo_stands_102 (fun v M55 r55 H locs hw hp => ?_) (fun x ek M55 r55 H locs hw hE hp => gr_t B hexc hw hE (by decide) (by decide) (hF.trans (bnd_ex hp)))
                  obtain ⟨v55, rfl, hp⟩ := hp
                  have hF := hF.trans (bnd_ok hp)
                  refine lv_bipush (v := 59) hx hb d_Mo_stands_105 (by decide) ?_
                  refine lv_icmp_ne hx hb d_Mo_stands_107 rfl (fun h56 => ?_) (fun h56 => ?_)
                  · skip
                    have hF := hF.trans (if_neg h56)
                    refine lv_iconst (v := 0) hx hb d_Mo_stands_114 (by decide) ?_
                    exact gr_z B hw (by rfl) d_Mo_stands_115 ⟨_, rfl, hF⟩
                  · skip
                    have hF := hF.trans (if_pos h56)
                    refine lv_iconst (v := 1) hx hb d_Mo_stands_110 (by decide) ?_
                    refine lv_goto hx hb d_Mo_stands_111 rfl ?_
                    exact gr_z B hw (by rfl) d_Mo_stands_115 ⟨_, rfl, hF⟩
            · skip
              have hF := hF.trans (if_pos h52)
              refine lv_bipush (v := 59) hx hb d_Mo_stands_83 (by decide) ?_
              refine lv_goto hx hb d_Mo_stands_85 rfl ?_
              refine lv_icmp_ne hx hb d_Mo_stands_90 rfl (fun h57 => ?_) (fun h57 => ?_)
              · skip
                have hF := hF.trans (if_neg h57)
                refine lv_iconst (v := 0) hx hb d_Mo_stands_114 (by decide) ?_
                exact gr_z B hw (by rfl) d_Mo_stands_115 ⟨_, rfl, hF⟩
              · skip
                have hF := hF.trans (if_pos h57)
                refine lv_iload hx hb d_Mo_stands_93 (lv_at hl 6 rfl) ?_
                refine lv_if_eq hx hb d_Mo_stands_95 rfl (fun h58 => ?_) (fun h58 => ?_)
                · skip
                  have hF := hF.trans (if_pos h58)
                  refine lv_iconst (v := 1) hx hb d_Mo_stands_110 (by decide) ?_
                  refine lv_goto hx hb d_Mo_stands_111 rfl ?_
                  exact gr_z B hw (by rfl) d_Mo_stands_115 ⟨_, rfl, hF⟩
                · skip
                  have hF := hF.trans (if_neg h58)
                  refine lv_aload_n hx hb d_Mo_stands_98 rfl (lv_at hl 1 rfl) ?_
                  refine lv_iload_n hx hb d_Mo_stands_99 rfl (lv_at hl 2 rfl) ?_
                  refine lv_iconst (v := 4) hx hb d_Mo_stands_100 (by decide) ?_
                  refine lv_iadd hx hb d_Mo_stands_101 ?_
                  refine gy_V B hl.1 hw (t_Mo_here G _ _ ow fu (x1 + 4) (nn hno hF)) (kd_Mo_here T) (ki_Mo T) (km_Mo_84 T) (ka_Mo_here T) (ks_Mo_here T) ⟨by decide, by decide, by rfl⟩ (rv_Mo hK hw rfl) rfl (Nat.le_of_ble_eq_true rfl) ⟨by decide, by decide⟩ ⟨by decide, by decide⟩ d_Mo_stands_102 (fun v M59 r59 H locs hw hp => ?_) (fun x ek M59 r59 H locs hw hE hp => gr_t B hexc hw hE (by decide) (by decide) (hF.trans (bnd_ex hp)))
                  obtain ⟨v59, rfl, hp⟩ := hp
                  have hF := hF.trans (bnd_ok hp)
                  refine lv_bipush (v := 59) hx hb d_Mo_stands_105 (by decide) ?_
                  refine lv_icmp_ne hx hb d_Mo_stands_107 rfl (fun h60 => ?_) (fun h60 => ?_)
                  · skip
                    have hF := hF.trans (if_neg h60)
                    refine lv_iconst (v := 0) hx hb d_Mo_stands_114 (by decide) ?_
                    exact gr_z B hw (by rfl) d_Mo_stands_115 ⟨_, rfl, hF⟩
                  · skip
                    have hF := hF.trans (if_pos h60)
                    refine lv_iconst (v := 1) hx hb d_Mo_stands_110 (by decide) ?_
                    refine lv_goto hx hb d_Mo_stands_111 rfl ?_
                    exact gr_z B hw (by rfl) d_Mo_stands_115 ⟨_, rfl, hF⟩
