/-! The contracts of methods, as their functions say -/
theorem d_Mo_reference_0 : decode b_Mo_reference 0 = .ok (.aload_n 0, 1) := by decide +kernel
theorem d_Mo_reference_1 : decode b_Mo_reference 1 = .ok (.getfield 81, 3) := by decide +kernel
theorem d_Mo_reference_4 : decode b_Mo_reference 4 = .ok (.iconst 1, 1) := by decide +kernel
theorem d_Mo_reference_5 : decode b_Mo_reference 5 = .ok (.iadd, 1) := by decide +kernel
theorem d_Mo_reference_6 : decode b_Mo_reference 6 = .ok (.istore_n 1, 1) := by decide +kernel
theorem d_Mo_reference_7 : decode b_Mo_reference 7 = .ok (.aload_n 0, 1) := by decide +kernel
theorem d_Mo_reference_8 : decode b_Mo_reference 8 = .ok (.iload_n 1, 1) := by decide +kernel
theorem d_Mo_reference_9 : decode b_Mo_reference 9 = .ok (.invokevirtual 84, 3) := by decide +kernel
theorem d_Mo_reference_12 : decode b_Mo_reference 12 = .ok (.bipush 35, 2) := by decide +kernel
theorem d_Mo_reference_14 : decode b_Mo_reference 14 = .ok (.if_icmp .ne 37, 3) := by decide +kernel
theorem d_Mo_reference_17 : decode b_Mo_reference 17 = .ok (.aload_n 0, 1) := by decide +kernel
theorem d_Mo_reference_18 : decode b_Mo_reference 18 = .ok (.iload_n 1, 1) := by decide +kernel
theorem d_Mo_reference_19 : decode b_Mo_reference 19 = .ok (.iconst 1, 1) := by decide +kernel
theorem d_Mo_reference_20 : decode b_Mo_reference 20 = .ok (.iadd, 1) := by decide +kernel
theorem d_Mo_reference_21 : decode b_Mo_reference 21 = .ok (.invokevirtual 84, 3) := by decide +kernel
theorem d_Mo_reference_24 : decode b_Mo_reference 24 = .ok (.bipush 120, 2) := by decide +kernel
theorem d_Mo_reference_26 : decode b_Mo_reference 26 = .ok (.if_icmp .ne 15, 3) := by decide +kernel
theorem d_Mo_reference_29 : decode b_Mo_reference 29 = .ok (.aload_n 0, 1) := by decide +kernel
theorem d_Mo_reference_30 : decode b_Mo_reference 30 = .ok (.iload_n 1, 1) := by decide +kernel
theorem d_Mo_reference_31 : decode b_Mo_reference 31 = .ok (.iconst 2, 1) := by decide +kernel
theorem d_Mo_reference_32 : decode b_Mo_reference 32 = .ok (.iadd, 1) := by decide +kernel
theorem d_Mo_reference_33 : decode b_Mo_reference 33 = .ok (.bipush 16, 2) := by decide +kernel
theorem d_Mo_reference_35 : decode b_Mo_reference 35 = .ok (.invokevirtual 125, 3) := by decide +kernel
theorem d_Mo_reference_38 : decode b_Mo_reference 38 = .ok (.goto 12, 3) := by decide +kernel
theorem d_Mo_reference_41 : decode b_Mo_reference 41 = .ok (.aload_n 0, 1) := by decide +kernel
theorem d_Mo_reference_42 : decode b_Mo_reference 42 = .ok (.iload_n 1, 1) := by decide +kernel
theorem d_Mo_reference_43 : decode b_Mo_reference 43 = .ok (.iconst 1, 1) := by decide +kernel
theorem d_Mo_reference_44 : decode b_Mo_reference 44 = .ok (.iadd, 1) := by decide +kernel
theorem d_Mo_reference_45 : decode b_Mo_reference 45 = .ok (.bipush 10, 2) := by decide +kernel
theorem d_Mo_reference_47 : decode b_Mo_reference 47 = .ok (.invokevirtual 125, 3) := by decide +kernel
theorem d_Mo_reference_50 : decode b_Mo_reference 50 = .ok (.ireturn, 1) := by decide +kernel
theorem d_Mo_reference_51 : decode b_Mo_reference 51 = .ok (.aload_n 0, 1) := by decide +kernel
theorem d_Mo_reference_52 : decode b_Mo_reference 52 = .ok (.iload_n 1, 1) := by decide +kernel
theorem d_Mo_reference_53 : decode b_Mo_reference 53 = .ok (.bipush 108, 2) := by decide +kernel
theorem d_Mo_reference_55 : decode b_Mo_reference 55 = .ok (.bipush 116, 2) := by decide +kernel
theorem d_Mo_reference_57 : decode b_Mo_reference 57 = .ok (.iconst 0, 1) := by decide +kernel
theorem d_Mo_reference_58 : decode b_Mo_reference 58 = .ok (.iconst 0, 1) := by decide +kernel
theorem d_Mo_reference_59 : decode b_Mo_reference 59 = .ok (.invokevirtual 128, 3) := by decide +kernel
theorem d_Mo_reference_62 : decode b_Mo_reference 62 = .ok (.ifCond .eq 13, 3) := by decide +kernel
theorem d_Mo_reference_65 : decode b_Mo_reference 65 = .ok (.aload_n 0, 1) := by decide +kernel
theorem d_Mo_reference_66 : decode b_Mo_reference 66 = .ok (.iload_n 1, 1) := by decide +kernel
theorem d_Mo_reference_67 : decode b_Mo_reference 67 = .ok (.iconst 3, 1) := by decide +kernel
theorem d_Mo_reference_68 : decode b_Mo_reference 68 = .ok (.iadd, 1) := by decide +kernel
theorem d_Mo_reference_69 : decode b_Mo_reference 69 = .ok (.putfield 81, 3) := by decide +kernel
theorem d_Mo_reference_72 : decode b_Mo_reference 72 = .ok (.bipush 60, 2) := by decide +kernel
theorem d_Mo_reference_74 : decode b_Mo_reference 74 = .ok (.ireturn, 1) := by decide +kernel
theorem d_Mo_reference_75 : decode b_Mo_reference 75 = .ok (.aload_n 0, 1) := by decide +kernel
theorem d_Mo_reference_76 : decode b_Mo_reference 76 = .ok (.iload_n 1, 1) := by decide +kernel
theorem d_Mo_reference_77 : decode b_Mo_reference 77 = .ok (.bipush 103, 2) := by decide +kernel
theorem d_Mo_reference_79 : decode b_Mo_reference 79 = .ok (.bipush 116, 2) := by decide +kernel
theorem d_Mo_reference_81 : decode b_Mo_reference 81 = .ok (.iconst 0, 1) := by decide +kernel
theorem d_Mo_reference_82 : decode b_Mo_reference 82 = .ok (.iconst 0, 1) := by decide +kernel
theorem d_Mo_reference_83 : decode b_Mo_reference 83 = .ok (.invokevirtual 128, 3) := by decide +kernel
theorem d_Mo_reference_86 : decode b_Mo_reference 86 = .ok (.ifCond .eq 13, 3) := by decide +kernel
theorem d_Mo_reference_89 : decode b_Mo_reference 89 = .ok (.aload_n 0, 1) := by decide +kernel
theorem d_Mo_reference_90 : decode b_Mo_reference 90 = .ok (.iload_n 1, 1) := by decide +kernel
theorem d_Mo_reference_91 : decode b_Mo_reference 91 = .ok (.iconst 3, 1) := by decide +kernel
theorem d_Mo_reference_92 : decode b_Mo_reference 92 = .ok (.iadd, 1) := by decide +kernel
theorem d_Mo_reference_93 : decode b_Mo_reference 93 = .ok (.putfield 81, 3) := by decide +kernel
theorem d_Mo_reference_96 : decode b_Mo_reference 96 = .ok (.bipush 62, 2) := by decide +kernel
theorem d_Mo_reference_98 : decode b_Mo_reference 98 = .ok (.ireturn, 1) := by decide +kernel
theorem d_Mo_reference_99 : decode b_Mo_reference 99 = .ok (.aload_n 0, 1) := by decide +kernel
theorem d_Mo_reference_100 : decode b_Mo_reference 100 = .ok (.iload_n 1, 1) := by decide +kernel
theorem d_Mo_reference_101 : decode b_Mo_reference 101 = .ok (.bipush 97, 2) := by decide +kernel
theorem d_Mo_reference_103 : decode b_Mo_reference 103 = .ok (.bipush 109, 2) := by decide +kernel
theorem d_Mo_reference_105 : decode b_Mo_reference 105 = .ok (.bipush 112, 2) := by decide +kernel
theorem d_Mo_reference_107 : decode b_Mo_reference 107 = .ok (.iconst 0, 1) := by decide +kernel
theorem d_Mo_reference_108 : decode b_Mo_reference 108 = .ok (.invokevirtual 128, 3) := by decide +kernel
theorem d_Mo_reference_111 : decode b_Mo_reference 111 = .ok (.ifCond .eq 13, 3) := by decide +kernel
theorem d_Mo_reference_114 : decode b_Mo_reference 114 = .ok (.aload_n 0, 1) := by decide +kernel
theorem d_Mo_reference_115 : decode b_Mo_reference 115 = .ok (.iload_n 1, 1) := by decide +kernel
theorem d_Mo_reference_116 : decode b_Mo_reference 116 = .ok (.iconst 4, 1) := by decide +kernel
theorem d_Mo_reference_117 : decode b_Mo_reference 117 = .ok (.iadd, 1) := by decide +kernel
theorem d_Mo_reference_118 : decode b_Mo_reference 118 = .ok (.putfield 81, 3) := by decide +kernel
theorem d_Mo_reference_121 : decode b_Mo_reference 121 = .ok (.bipush 38, 2) := by decide +kernel
theorem d_Mo_reference_123 : decode b_Mo_reference 123 = .ok (.ireturn, 1) := by decide +kernel
theorem d_Mo_reference_124 : decode b_Mo_reference 124 = .ok (.aload_n 0, 1) := by decide +kernel
theorem d_Mo_reference_125 : decode b_Mo_reference 125 = .ok (.iload_n 1, 1) := by decide +kernel
theorem d_Mo_reference_126 : decode b_Mo_reference 126 = .ok (.bipush 113, 2) := by decide +kernel
theorem d_Mo_reference_128 : decode b_Mo_reference 128 = .ok (.bipush 117, 2) := by decide +kernel
theorem d_Mo_reference_130 : decode b_Mo_reference 130 = .ok (.bipush 111, 2) := by decide +kernel
theorem d_Mo_reference_132 : decode b_Mo_reference 132 = .ok (.bipush 116, 2) := by decide +kernel
theorem d_Mo_reference_134 : decode b_Mo_reference 134 = .ok (.invokevirtual 128, 3) := by decide +kernel
theorem d_Mo_reference_137 : decode b_Mo_reference 137 = .ok (.istore_n 2, 1) := by decide +kernel
theorem d_Mo_reference_138 : decode b_Mo_reference 138 = .ok (.iload_n 2, 1) := by decide +kernel
theorem d_Mo_reference_139 : decode b_Mo_reference 139 = .ok (.ifCond .ne 19, 3) := by decide +kernel
theorem d_Mo_reference_142 : decode b_Mo_reference 142 = .ok (.aload_n 0, 1) := by decide +kernel
theorem d_Mo_reference_143 : decode b_Mo_reference 143 = .ok (.iload_n 1, 1) := by decide +kernel
theorem d_Mo_reference_144 : decode b_Mo_reference 144 = .ok (.bipush 97, 2) := by decide +kernel
theorem d_Mo_reference_146 : decode b_Mo_reference 146 = .ok (.bipush 112, 2) := by decide +kernel
theorem d_Mo_reference_148 : decode b_Mo_reference 148 = .ok (.bipush 111, 2) := by decide +kernel
theorem d_Mo_reference_150 : decode b_Mo_reference 150 = .ok (.bipush 115, 2) := by decide +kernel
theorem d_Mo_reference_152 : decode b_Mo_reference 152 = .ok (.invokevirtual 128, 3) := by decide +kernel
theorem d_Mo_reference_155 : decode b_Mo_reference 155 = .ok (.ifCond .eq 22, 3) := by decide +kernel
theorem d_Mo_reference_158 : decode b_Mo_reference 158 = .ok (.aload_n 0, 1) := by decide +kernel
theorem d_Mo_reference_159 : decode b_Mo_reference 159 = .ok (.iload_n 1, 1) := by decide +kernel
theorem d_Mo_reference_160 : decode b_Mo_reference 160 = .ok (.iconst 5, 1) := by decide +kernel
theorem d_Mo_reference_161 : decode b_Mo_reference 161 = .ok (.iadd, 1) := by decide +kernel
theorem d_Mo_reference_162 : decode b_Mo_reference 162 = .ok (.putfield 81, 3) := by decide +kernel
theorem d_Mo_reference_165 : decode b_Mo_reference 165 = .ok (.iload_n 2, 1) := by decide +kernel
theorem d_Mo_reference_166 : decode b_Mo_reference 166 = .ok (.ifCond .eq 8, 3) := by decide +kernel
theorem d_Mo_reference_169 : decode b_Mo_reference 169 = .ok (.bipush 34, 2) := by decide +kernel
theorem d_Mo_reference_171 : decode b_Mo_reference 171 = .ok (.goto 5, 3) := by decide +kernel
theorem d_Mo_reference_174 : decode b_Mo_reference 174 = .ok (.bipush 39, 2) := by decide +kernel
theorem d_Mo_reference_176 : decode b_Mo_reference 176 = .ok (.ireturn, 1) := by decide +kernel
theorem d_Mo_reference_177 : decode b_Mo_reference 177 = .ok (.iconst (-1), 1) := by decide +kernel
theorem d_Mo_reference_178 : decode b_Mo_reference 178 = .ok (.ireturn, 1) := by decide +kernel
set_option maxHeartbeats 4000000 in
set_option maxRecDepth 100000 in
theorem t_Mo_reference {l : Launch} {s0 : State} {D : va_G} {aC : Nat → ClassId} {a0 : Array Value} (G : gG l s0 D aC a0) (M : gMem) (r : gRef) (ow : Int64) (fu : Nat)  (hno : F_Mo_reference fu M r ≠ .no) : gMet l s0 D aC y_Mo_reference (Cond.code y_Mo_reference b_Mo_reference 3 (some .int)) 2 47 0 0 [.ref (s0.heap.size + 383)] M r ow (qI (F_Mo_reference fu M r)) (qT (F_Mo_reference fu M r)) := by
  refine gm_of G (by decide) (Nat.le_of_ble_eq_true rfl) ?_
  intro p e s m below meth c ls B hexc hl hw
  have hx := B.1
  have hb := B.2.1
  have hown := B.2.2.2.2.2.1
  have T := B.2.2.2.2.2.2.1
  have hK := B.2.2.2.2.2.2.2.1
  have hF := F_Mo_reference.eq_1 fu M r
  refine lv_aload_n hx hb d_Mo_reference_0 rfl (lv_at hl 0 rfl) ?_
  refine gf_Mo_at hx hb T hown hK hw rfl (kf_Mo_81 T) d_Mo_reference_1 ?_
  refine lv_iconst (v := 1) hx hb d_Mo_reference_4 (by decide) ?_
  refine lv_iadd hx hb d_Mo_reference_5 ?_
  refine lv_istore_n hx hb d_Mo_reference_6 rfl hl (by decide) rfl (fun ls hl => ?_)
  refine lv_aload_n hx hb d_Mo_reference_7 rfl (lv_at hl 1 rfl) ?_
  refine lv_iload_n hx hb d_Mo_reference_8 rfl (lv_at hl 0 rfl) ?_
  refine gy_V B hl.1 hw (t_Mo_here G _ _ ow fu ((M 103 0) + 1) (nn hno hF)) (kd_Mo_here T) (ki_Mo T) (km_Mo_84 T) (ka_Mo_here T) (ks_Mo_here T) ⟨by decide, by decide, by rfl⟩ (rv_Mo hK hw rfl) rfl (Nat.le_of_ble_eq_true rfl) ⟨by decide, by decide⟩ ⟨by decide, by decide⟩ d_Mo_reference_9 (fun v M19 r19 H locs hw hp => ?_) (fun x ek M19 r19 H locs hw hE hp => gr_t B hexc hw hE (by decide) (by decide) (hF.trans (bnd_ex hp)))
  obtain ⟨v19, rfl, hp⟩ := hp
  have hF := hF.trans (bnd_ok hp)
  refine lv_bipush (v := 35) hx hb d_Mo_reference_12 (by decide) ?_
  refine lv_icmp_ne hx hb d_Mo_reference_14 rfl (fun h20 => ?_) (fun h20 => ?_)
  · skip
    have hF := hF.trans (if_neg h20)
    refine lv_aload_n hx hb d_Mo_reference_51 rfl (lv_at hl 1 rfl) ?_
    refine lv_iload_n hx hb d_Mo_reference_52 rfl (lv_at hl 0 rfl) ?_
    refine lv_bipush (v := 108) hx hb d_Mo_reference_53 (by decide) ?_
    refine lv_bipush (v := 116) hx hb d_Mo_reference_55 (by decide) ?_
    refine lv_iconst (v := 0) hx hb d_Mo_reference_57 (by decide) ?_
    refine lv_iconst (v := 0) hx hb d_Mo_reference_58 (by decide) ?_
    refine gy_V B hl.1 hw (t_Mo_stands G _ _ ow fu ((M 103 0) + 1) 108 116 0 0 (nn hno hF)) (kd_Mo_stands T) (ki_Mo T) (km_Mo_128 T) (ka_Mo_stands T) (ks_Mo_stands T) ⟨by decide, by decide, by rfl⟩ (rv_Mo hK hw rfl) rfl (Nat.le_of_ble_eq_true rfl) ⟨by decide, by decide⟩ ⟨by decide, by decide⟩ d_Mo_reference_59 (fun v M21 r21 H locs hw hp => ?_) (fun x ek M21 r21 H locs hw hE hp => gr_t B hexc hw hE (by decide) (by decide) (hF.trans (bnd_ex hp)))
    obtain ⟨v21, rfl, hp⟩ := hp
    have hF := hF.trans (bnd_ok hp)
    refine lv_if_eq hx hb d_Mo_reference_62 rfl (fun h22 => ?_) (fun h22 => ?_)
    · skip
      have hF := hF.trans (if_pos h22)
      refine lv_aload_n hx hb d_Mo_reference_75 rfl (lv_at hl 1 rfl) ?_
      refine lv_iload_n hx hb d_Mo_reference_76 rfl (lv_at hl 0 rfl) ?_
      refine lv_bipush (v := 103) hx hb d_Mo_reference_77 (by decide) ?_
      refine lv_bipush (v := 116) hx hb d_Mo_reference_79 (by decide) ?_
      refine lv_iconst (v := 0) hx hb d_Mo_reference_81 (by decide) ?_
      refine lv_iconst (v := 0) hx hb d_Mo_reference_82 (by decide) ?_
      refine gy_V B hl.1 hw (t_Mo_stands G _ _ ow fu ((M 103 0) + 1) 103 116 0 0 (nn hno hF)) (kd_Mo_stands T) (ki_Mo T) (km_Mo_128 T) (ka_Mo_stands T) (ks_Mo_stands T) ⟨by decide, by decide, by rfl⟩ (rv_Mo hK hw rfl) rfl (Nat.le_of_ble_eq_true rfl) ⟨by decide, by decide⟩ ⟨by decide, by decide⟩ d_Mo_reference_83 (fun v M23 r23 H locs hw hp => ?_) (fun x ek M23 r23 H locs hw hE hp => gr_t B hexc hw hE (by decide) (by decide) (hF.trans (bnd_ex hp)))
      obtain ⟨v23, rfl, hp⟩ := hp
      have hF := hF.trans (bnd_ok hp)
      refine lv_if_eq hx hb d_Mo_reference_86 rfl (fun h24 => ?_) (fun h24 => ?_)
      · skip
        have hF := hF.trans (if_pos h24)
        refine lv_aload_n hx hb d_Mo_reference_99 rfl (lv_at hl 1 rfl) ?_
        refine lv_iload_n hx hb d_Mo_reference_100 rfl (lv_at hl 0 rfl) ?_
        refine lv_bipush (v := 97) hx hb d_Mo_reference_101 (by decide) ?_
        refine lv_bipush (v := 109) hx hb d_Mo_reference_103 (by decide) ?_
        refine lv_bipush (v := 112) hx hb d_Mo_reference_105 (by decide) ?_
        refine lv_iconst (v := 0) hx hb d_Mo_reference_107 (by decide) ?_
        refine gy_V B hl.1 hw (t_Mo_stands G _ _ ow fu ((M 103 0) + 1) 97 109 112 0 (nn hno hF)) (kd_Mo_stands T) (ki_Mo T) (km_Mo_128 T) (ka_Mo_stands T) (ks_Mo_stands T) ⟨by decide, by decide, by rfl⟩ (rv_Mo hK hw rfl) rfl (Nat.le_of_ble_eq_true rfl) ⟨by decide, by decide⟩ ⟨by decide, by decide⟩ d_Mo_reference_108 (fun v M25 r25 H locs hw hp => ?_) (fun x ek M25 r25 H locs hw hE hp => gr_t B hexc hw hE (by decide) (by decide) (hF.trans (bnd_ex hp)))
        obtain ⟨v25, rfl, hp⟩ := hp
        have hF := hF.trans (bnd_ok hp)
        refine lv_if_eq hx hb d_Mo_reference_111 rfl (fun h26 => ?_) (fun h26 => ?_)
        · skip
          have hF := hF.trans (if_pos h26)
          refine lv_aload_n hx hb d_Mo_reference_124 rfl (lv_at hl 1 rfl) ?_
          refine lv_iload_n hx hb d_Mo_reference_125 rfl (lv_at hl 0 rfl) ?_
          refine lv_bipush (v := 113) hx hb d_Mo_reference_126 (by decide) ?_
          refine lv_bipush (v := 117) hx hb d_Mo_reference_128 (by decide) ?_
          refine lv_bipush (v := 111) hx hb d_Mo_reference_130 (by decide) ?_
          refine lv_bipush (v := 116) hx hb d_Mo_reference_132 (by decide) ?_
          refine gy_V B hl.1 hw (t_Mo_stands G _ _ ow fu ((M 103 0) + 1) 113 117 111 116 (nn hno hF)) (kd_Mo_stands T) (ki_Mo T) (km_Mo_128 T) (ka_Mo_stands T) (ks_Mo_stands T) ⟨by decide, by decide, by rfl⟩ (rv_Mo hK hw rfl) rfl (Nat.le_of_ble_eq_true rfl) ⟨by decide, by decide⟩ ⟨by decide, by decide⟩ d_Mo_reference_134 (fun v M27 r27 H locs hw hp => ?_) (fun x ek M27 r27 H locs hw hE hp => gr_t B hexc hw hE (by decide) (by decide) (hF.trans (bnd_ex hp)))
          obtain ⟨v27, rfl, hp⟩ := hp
          have hF := hF.trans (bnd_ok hp)
          refine lv_istore_n hx hb d_Mo_reference_137 rfl hl (by decide) rfl (fun ls hl => ?_)
          refine lv_iload_n hx hb d_Mo_reference_138 rfl (lv_at hl 0 rfl) ?_
          refine lv_if_ne hx hb d_Mo_reference_139 rfl (fun h28 => ?_) (fun h28 => ?_)
          · skip
            have hF := hF.trans (if_neg h28)
            refine lv_aload_n hx hb d_Mo_reference_158 rfl (lv_at hl 2 rfl) ?_
            refine lv_iload_n hx hb d_Mo_reference_159 rfl (lv_at hl 1 rfl) ?_
            refine lv_iconst (v := 5) hx hb d_Mo_reference_160 (by decide) ?_
            refine lv_iadd hx hb d_Mo_reference_161 ?_
            refine pf_Mo_at hx hb T hown hK hw rfl (kf_Mo_81 T) d_Mo_reference_162 (fun H locs hw => ?_)
            refine lv_iload_n hx hb d_Mo_reference_165 rfl (lv_at hl 0 rfl) ?_
            refine lv_if_eq hx hb d_Mo_reference_166 rfl (fun h29 => ?_) (fun h29 => ?_)
            · skip
              have hF := hF.trans (if_pos h29)
              refine lv_bipush (v := 39) hx hb d_Mo_reference_174 (by decide) ?_
              exact gr_i B hw d_Mo_reference_176 ⟨_, rfl, hF⟩
            · skip
              have hF := hF.trans (if_neg h29)
              refine lv_bipush (v := 34) hx hb d_Mo_reference_169 (by decide) ?_
              refine lv_goto hx hb d_Mo_reference_171 rfl ?_
              exact gr_i B hw d_Mo_reference_176 ⟨_, rfl, hF⟩
          · skip
            have hF := hF.trans (if_pos h28)
            refine lv_aload_n hx hb d_Mo_reference_142 rfl (lv_at hl 2 rfl) ?_
            refine lv_iload_n hx hb d_Mo_reference_143 rfl (lv_at hl 1 rfl) ?_
            refine lv_bipush (v := 97) hx hb d_Mo_reference_144 (by decide) ?_
            refine lv_bipush (v := 112) hx hb d_Mo_reference_146 (by decide) ?_
            refine lv_bipush (v := 111) hx hb d_Mo_reference_148 (by decide) ?_
            refine lv_bipush (v := 115) hx hb d_Mo_reference_150 (by decide) ?_
            refine gy_V B hl.1 hw (t_Mo_stands G _ _ ow fu ((M 103 0) + 1) 97 112 111 115 (nn hno hF)) (kd_Mo_stands T) (ki_Mo T) (km_Mo_128 T) (ka_Mo_stands T) (ks_Mo_stands T) ⟨by decide, by decide, by rfl⟩ (rv_Mo hK hw rfl) rfl (Nat.le_of_ble_eq_true rfl) ⟨by decide, by decide⟩ ⟨by decide, by decide⟩ d_Mo_reference_152 (fun v M30 r30 H locs hw hp => ?_) (fun x ek M30 r30 H locs hw hE hp => gr_t B hexc hw hE (by decide) (by decide) (hF.trans (bnd_ex hp)))
            obtain ⟨v30, rfl, hp⟩ := hp
            have hF := hF.trans (bnd_ok hp)
            refine lv_if_eq hx hb d_Mo_reference_155 rfl (fun h31 => ?_) (fun h31 => ?_)
            · skip
              have hF := hF.trans (if_pos h31)
              refine lv_iconst (v := -1) hx hb d_Mo_reference_177 (by decide) ?_
              exact gr_i B hw d_Mo_reference_178 ⟨_, rfl, hF⟩
            · skip
              have hF := hF.trans (if_neg h31)
              refine lv_aload_n hx hb d_Mo_reference_158 rfl (lv_at hl 2 rfl) ?_
              refine lv_iload_n hx hb d_Mo_reference_159 rfl (lv_at hl 1 rfl) ?_
              refine lv_iconst (v := 5) hx hb d_Mo_reference_160 (by decide) ?_
              refine lv_iadd hx hb d_Mo_reference_161 ?_
              refine pf_Mo_at hx hb T hown hK hw rfl (kf_Mo_81 T) d_Mo_reference_162 (fun H locs hw => ?_)
              refine lv_iload_n hx hb d_Mo_reference_165 rfl (lv_at hl 0 rfl) ?_
              refine lv_if_eq hx hb d_Mo_reference_166 rfl (fun h32 => ?_) (fun h32 => ?_)
              · skip
                have hF := hF.trans (if_pos h32)
                refine lv_bipush (v := 39) hx hb d_Mo_reference_174 (by decide) ?_
                exact gr_i B hw d_Mo_reference_176 ⟨_, rfl, hF⟩
              · skip
                have hF := hF.trans (if_neg h32)
                refine lv_bipush (v := 34) hx hb d_Mo_reference_169 (by decide) ?_
                refine lv_goto hx hb d_Mo_reference_171 rfl ?_
                exact gr_i B hw d_Mo_reference_176 ⟨_, rfl, hF⟩
        · skip
          have hF := hF.trans (if_neg h26)
          refine lv_aload_n hx hb d_Mo_reference_114 rfl (lv_at hl 1 rfl) ?_
          refine lv_iload_n hx hb d_Mo_reference_115 rfl (lv_at hl 0 rfl) ?_
          refine lv_iconst (v := 4) hx hb d_Mo_reference_116 (by decide) ?_
          refine lv_iadd hx hb d_Mo_reference_117 ?_
          refine pf_Mo_at hx hb T hown hK hw rfl (kf_Mo_81 T) d_Mo_reference_118 (fun H locs hw => ?_)
          refine lv_bipush (v := 38) hx hb d_Mo_reference_121 (by decide) ?_
          exact gr_i B hw d_Mo_reference_123 ⟨_, rfl, hF⟩
      · skip
        have hF := hF.trans (if_neg h24)
        refine lv_aload_n hx hb d_Mo_reference_89 rfl (lv_at hl 1 rfl) ?_
        refine lv_iload_n hx hb d_Mo_reference_90 rfl (lv_at hl 0 rfl) ?_
        refine lv_iconst (v := 3) hx hb d_Mo_reference_91 (by decide) ?_
        refine lv_iadd hx hb d_Mo_reference_92 ?_
        refine pf_Mo_at hx hb T hown hK hw rfl (kf_Mo_81 T) d_Mo_reference_93 (fun H locs hw => ?_)
        refine lv_bipush (v := 62) hx hb d_Mo_reference_96 (by decide) ?_
        exact gr_i B hw d_Mo_reference_98 ⟨_, rfl, hF⟩
    · skip
      have hF := hF.trans (if_neg h22)
      refine lv_aload_n hx hb d_Mo_reference_65 rfl (lv_at hl 1 rfl) ?_
      refine lv_iload_n hx hb d_Mo_reference_66 rfl (lv_at hl 0 rfl) ?_
      refine lv_iconst (v := 3) hx hb d_Mo_reference_67 (by decide) ?_
      refine lv_iadd hx hb d_Mo_reference_68 ?_
      refine pf_Mo_at hx hb T hown hK hw rfl (kf_Mo_81 T) d_Mo_reference_69 (fun H locs hw => ?_)
      refine lv_bipush (v := 60) hx hb d_Mo_reference_72 (by decide) ?_
      exact gr_i B hw d_Mo_reference_74 ⟨_, rfl, hF⟩
  · skip
    have hF := hF.trans (if_pos h20)
    refine lv_aload_n hx hb d_Mo_reference_17 rfl (lv_at hl 1 rfl) ?_
    refine lv_iload_n hx hb d_Mo_reference_18 rfl (lv_at hl 0 rfl) ?_
    refine lv_iconst (v := 1) hx hb d_Mo_reference_19 (by decide) ?_
    refine lv_iadd hx hb d_Mo_reference_20 ?_
    refine gy_V B hl.1 hw (t_Mo_here G _ _ ow fu (((M 103 0) + 1) + 1) (nn hno hF)) (kd_Mo_here T) (ki_Mo T) (km_Mo_84 T) (ka_Mo_here T) (ks_Mo_here T) ⟨by decide, by decide, by rfl⟩ (rv_Mo hK hw rfl) rfl (Nat.le_of_ble_eq_true rfl) ⟨by decide, by decide⟩ ⟨by decide, by decide⟩ d_Mo_reference_21 (fun v M33 r33 H locs hw hp => ?_) (fun x ek M33 r33 H locs hw hE hp => gr_t B hexc hw hE (by decide) (by decide) (hF.trans (bnd_ex hp)))
    obtain ⟨v33, rfl, hp⟩ := hp
    have hF := hF.trans (bnd_ok hp)
    refine lv_bipush (v := 120) hx hb d_Mo_reference_24 (by decide) ?_
    refine lv_icmp_ne hx hb d_Mo_reference_26 rfl (fun h34 => ?_) (fun h34 => ?_)
    · skip
      have hF := hF.trans (if_neg h34)
      refine lv_aload_n hx hb d_Mo_reference_41 rfl (lv_at hl 1 rfl) ?_
      refine lv_iload_n hx hb d_Mo_reference_42 rfl (lv_at hl 0 rfl) ?_
      refine lv_iconst (v := 1) hx hb d_Mo_reference_43 (by decide) ?_
      refine lv_iadd hx hb d_Mo_reference_44 ?_
      refine lv_bipush (v := 10) hx hb d_Mo_reference_45 (by decide) ?_
      refine gy_V B hl.1 hw (t_Mo_numbered G _ _ ow fu (((M 103 0) + 1) + 1) 10 (nn hno hF)) (kd_Mo_numbered T) (ki_Mo T) (km_Mo_125 T) (ka_Mo_numbered T) (ks_Mo_numbered T) ⟨by decide, by decide, by rfl⟩ (rv_Mo hK hw rfl) rfl (Nat.le_of_ble_eq_true rfl) ⟨by decide, by decide⟩ ⟨by decide, by decide⟩ d_Mo_reference_47 (fun v M35 r35 H locs hw hp => ?_) (fun x ek M35 r35 H locs hw hE hp => gr_t B hexc hw hE (by decide) (by decide) (hF.trans (bnd_ex hp)))
      obtain ⟨v35, rfl, hp⟩ := hp
      have hF := hF.trans (bnd_ok hp)
      exact gr_i B hw d_Mo_reference_50 ⟨_, rfl, hF⟩
    · skip
      have hF := hF.trans (if_pos h34)
      refine lv_aload_n hx hb d_Mo_reference_29 rfl (lv_at hl 1 rfl) ?_
      refine lv_iload_n hx hb d_Mo_reference_30 rfl (lv_at hl 0 rfl) ?_
      refine lv_iconst (v := 2) hx hb d_Mo_reference_31 (by decide) ?_
      refine lv_iadd hx hb d_Mo_reference_32 ?_
      refine lv_bipush (v := 16) hx hb d_Mo_reference_33 (by decide) ?_
      refine gy_V B hl.1 hw (t_Mo_numbered G _ _ ow fu (((M 103 0) + 1) + 2) 16 (nn hno hF)) (kd_Mo_numbered T) (ki_Mo T) (km_Mo_125 T) (ka_Mo_numbered T) (ks_Mo_numbered T) ⟨by decide, by decide, by rfl⟩ (rv_Mo hK hw rfl) rfl (Nat.le_of_ble_eq_true rfl) ⟨by decide, by decide⟩ ⟨by decide, by decide⟩ d_Mo_reference_35 (fun v M36 r36 H locs hw hp => ?_) (fun x ek M36 r36 H locs hw hE hp => gr_t B hexc hw hE (by decide) (by decide) (hF.trans (bnd_ex hp)))
      obtain ⟨v36, rfl, hp⟩ := hp
      have hF := hF.trans (bnd_ok hp)
      refine lv_goto hx hb d_Mo_reference_38 rfl ?_
      exact gr_i B hw d_Mo_reference_50 ⟨_, rfl, hF⟩
theorem d_Mo_readValue_0 : decode b_Mo_readValue 0 = .ok (.aload_n 0, 1) := by decide +kernel
theorem d_Mo_readValue_1 : decode b_Mo_readValue 1 = .ok (.aload_n 0, 1) := by decide +kernel
theorem d_Mo_readValue_2 : decode b_Mo_readValue 2 = .ok (.getfield 81, 3) := by decide +kernel
theorem d_Mo_readValue_5 : decode b_Mo_readValue 5 = .ok (.invokevirtual 84, 3) := by decide +kernel
theorem d_Mo_readValue_8 : decode b_Mo_readValue 8 = .ok (.istore_n 2, 1) := by decide +kernel
theorem d_Mo_readValue_9 : decode b_Mo_readValue 9 = .ok (.iload_n 2, 1) := by decide +kernel
theorem d_Mo_readValue_10 : decode b_Mo_readValue 10 = .ok (.bipush 34, 2) := by decide +kernel
theorem d_Mo_readValue_12 : decode b_Mo_readValue 12 = .ok (.if_icmp .eq 19, 3) := by decide +kernel
theorem d_Mo_readValue_15 : decode b_Mo_readValue 15 = .ok (.iload_n 2, 1) := by decide +kernel
theorem d_Mo_readValue_16 : decode b_Mo_readValue 16 = .ok (.bipush 39, 2) := by decide +kernel
theorem d_Mo_readValue_18 : decode b_Mo_readValue 18 = .ok (.if_icmp .eq 13, 3) := by decide +kernel
theorem d_Mo_readValue_21 : decode b_Mo_readValue 21 = .ok (.aload_n 0, 1) := by decide +kernel
theorem d_Mo_readValue_22 : decode b_Mo_readValue 22 = .ok (.iconst 1, 1) := by decide +kernel
theorem d_Mo_readValue_23 : decode b_Mo_readValue 23 = .ok (.aload_n 0, 1) := by decide +kernel
theorem d_Mo_readValue_24 : decode b_Mo_readValue 24 = .ok (.getfield 81, 3) := by decide +kernel
theorem d_Mo_readValue_27 : decode b_Mo_readValue 27 = .ok (.invokevirtual 88, 3) := by decide +kernel
theorem d_Mo_readValue_30 : decode b_Mo_readValue 30 = .ok (.ireturn, 1) := by decide +kernel
theorem d_Mo_readValue_31 : decode b_Mo_readValue 31 = .ok (.aload_n 0, 1) := by decide +kernel
theorem d_Mo_readValue_32 : decode b_Mo_readValue 32 = .ok (.dup, 1) := by decide +kernel
theorem d_Mo_readValue_33 : decode b_Mo_readValue 33 = .ok (.getfield 81, 3) := by decide +kernel
theorem d_Mo_readValue_36 : decode b_Mo_readValue 36 = .ok (.iconst 1, 1) := by decide +kernel
theorem d_Mo_readValue_37 : decode b_Mo_readValue 37 = .ok (.iadd, 1) := by decide +kernel
theorem d_Mo_readValue_38 : decode b_Mo_readValue 38 = .ok (.putfield 81, 3) := by decide +kernel
theorem d_Mo_readValue_41 : decode b_Mo_readValue 41 = .ok (.aload_n 0, 1) := by decide +kernel
theorem d_Mo_readValue_42 : decode b_Mo_readValue 42 = .ok (.getfield 50, 3) := by decide +kernel
theorem d_Mo_readValue_45 : decode b_Mo_readValue 45 = .ok (.iload_n 1, 1) := by decide +kernel
theorem d_Mo_readValue_46 : decode b_Mo_readValue 46 = .ok (.aload_n 0, 1) := by decide +kernel
theorem d_Mo_readValue_47 : decode b_Mo_readValue 47 = .ok (.getfield 106, 3) := by decide +kernel
theorem d_Mo_readValue_50 : decode b_Mo_readValue 50 = .ok (.iastore, 1) := by decide +kernel
theorem d_Mo_readValue_51 : decode b_Mo_readValue 51 = .ok (.aload_n 0, 1) := by decide +kernel
theorem d_Mo_readValue_52 : decode b_Mo_readValue 52 = .ok (.aload_n 0, 1) := by decide +kernel
theorem d_Mo_readValue_53 : decode b_Mo_readValue 53 = .ok (.getfield 81, 3) := by decide +kernel
theorem d_Mo_readValue_56 : decode b_Mo_readValue 56 = .ok (.invokevirtual 84, 3) := by decide +kernel
theorem d_Mo_readValue_59 : decode b_Mo_readValue 59 = .ok (.iload_n 2, 1) := by decide +kernel
theorem d_Mo_readValue_60 : decode b_Mo_readValue 60 = .ok (.if_icmp .eq 114, 3) := by decide +kernel
theorem d_Mo_readValue_63 : decode b_Mo_readValue 63 = .ok (.aload_n 0, 1) := by decide +kernel
theorem d_Mo_readValue_64 : decode b_Mo_readValue 64 = .ok (.aload_n 0, 1) := by decide +kernel
theorem d_Mo_readValue_65 : decode b_Mo_readValue 65 = .ok (.getfield 81, 3) := by decide +kernel
theorem d_Mo_readValue_68 : decode b_Mo_readValue 68 = .ok (.invokevirtual 84, 3) := by decide +kernel
theorem d_Mo_readValue_71 : decode b_Mo_readValue 71 = .ok (.istore_n 3, 1) := by decide +kernel
theorem d_Mo_readValue_72 : decode b_Mo_readValue 72 = .ok (.aload_n 0, 1) := by decide +kernel
theorem d_Mo_readValue_73 : decode b_Mo_readValue 73 = .ok (.getfield 81, 3) := by decide +kernel
theorem d_Mo_readValue_76 : decode b_Mo_readValue 76 = .ok (.istore 4, 2) := by decide +kernel
theorem d_Mo_readValue_78 : decode b_Mo_readValue 78 = .ok (.aload_n 0, 1) := by decide +kernel
theorem d_Mo_readValue_79 : decode b_Mo_readValue 79 = .ok (.getfield 81, 3) := by decide +kernel
theorem d_Mo_readValue_82 : decode b_Mo_readValue 82 = .ok (.aload_n 0, 1) := by decide +kernel
theorem d_Mo_readValue_83 : decode b_Mo_readValue 83 = .ok (.getfield 72, 3) := by decide +kernel
theorem d_Mo_readValue_86 : decode b_Mo_readValue 86 = .ok (.if_icmp .eq 9, 3) := by decide +kernel
theorem d_Mo_readValue_89 : decode b_Mo_readValue 89 = .ok (.iload_n 3, 1) := by decide +kernel
theorem d_Mo_readValue_90 : decode b_Mo_readValue 90 = .ok (.bipush 60, 2) := by decide +kernel
theorem d_Mo_readValue_92 : decode b_Mo_readValue 92 = .ok (.if_icmp .ne 13, 3) := by decide +kernel
theorem d_Mo_readValue_95 : decode b_Mo_readValue 95 = .ok (.aload_n 0, 1) := by decide +kernel
theorem d_Mo_readValue_96 : decode b_Mo_readValue 96 = .ok (.iconst 1, 1) := by decide +kernel
theorem d_Mo_readValue_97 : decode b_Mo_readValue 97 = .ok (.aload_n 0, 1) := by decide +kernel
theorem d_Mo_readValue_98 : decode b_Mo_readValue 98 = .ok (.getfield 81, 3) := by decide +kernel
theorem d_Mo_readValue_101 : decode b_Mo_readValue 101 = .ok (.invokevirtual 88, 3) := by decide +kernel
theorem d_Mo_readValue_104 : decode b_Mo_readValue 104 = .ok (.ireturn, 1) := by decide +kernel
theorem d_Mo_readValue_105 : decode b_Mo_readValue 105 = .ok (.iload_n 3, 1) := by decide +kernel
theorem d_Mo_readValue_106 : decode b_Mo_readValue 106 = .ok (.bipush 38, 2) := by decide +kernel
theorem d_Mo_readValue_108 : decode b_Mo_readValue 108 = .ok (.if_icmp .ne 20, 3) := by decide +kernel
theorem d_Mo_readValue_111 : decode b_Mo_readValue 111 = .ok (.aload_n 0, 1) := by decide +kernel
theorem d_Mo_readValue_112 : decode b_Mo_readValue 112 = .ok (.invokevirtual 132, 3) := by decide +kernel
theorem d_Mo_readValue_115 : decode b_Mo_readValue 115 = .ok (.istore_n 3, 1) := by decide +kernel
theorem d_Mo_readValue_116 : decode b_Mo_readValue 116 = .ok (.iload_n 3, 1) := by decide +kernel
theorem d_Mo_readValue_117 : decode b_Mo_readValue 117 = .ok (.ifCond .ge 34, 3) := by decide +kernel
theorem d_Mo_readValue_120 : decode b_Mo_readValue 120 = .ok (.aload_n 0, 1) := by decide +kernel
theorem d_Mo_readValue_121 : decode b_Mo_readValue 121 = .ok (.iconst 3, 1) := by decide +kernel
theorem d_Mo_readValue_122 : decode b_Mo_readValue 122 = .ok (.iload 4, 2) := by decide +kernel
theorem d_Mo_readValue_124 : decode b_Mo_readValue 124 = .ok (.invokevirtual 88, 3) := by decide +kernel
theorem d_Mo_readValue_127 : decode b_Mo_readValue 127 = .ok (.ireturn, 1) := by decide +kernel
theorem d_Mo_readValue_128 : decode b_Mo_readValue 128 = .ok (.iload_n 3, 1) := by decide +kernel
theorem d_Mo_readValue_129 : decode b_Mo_readValue 129 = .ok (.bipush 10, 2) := by decide +kernel
theorem d_Mo_readValue_131 : decode b_Mo_readValue 131 = .ok (.if_icmp .ne 8, 3) := by decide +kernel
theorem d_Mo_readValue_134 : decode b_Mo_readValue 134 = .ok (.bipush 32, 2) := by decide +kernel
theorem d_Mo_readValue_136 : decode b_Mo_readValue 136 = .ok (.goto 4, 3) := by decide +kernel
theorem d_Mo_readValue_139 : decode b_Mo_readValue 139 = .ok (.iload_n 3, 1) := by decide +kernel
theorem d_Mo_readValue_140 : decode b_Mo_readValue 140 = .ok (.istore_n 3, 1) := by decide +kernel
theorem d_Mo_readValue_141 : decode b_Mo_readValue 141 = .ok (.aload_n 0, 1) := by decide +kernel
theorem d_Mo_readValue_142 : decode b_Mo_readValue 142 = .ok (.dup, 1) := by decide +kernel
theorem d_Mo_readValue_143 : decode b_Mo_readValue 143 = .ok (.getfield 81, 3) := by decide +kernel
theorem d_Mo_readValue_146 : decode b_Mo_readValue 146 = .ok (.iconst 1, 1) := by decide +kernel
theorem d_Mo_readValue_147 : decode b_Mo_readValue 147 = .ok (.iadd, 1) := by decide +kernel
theorem d_Mo_readValue_148 : decode b_Mo_readValue 148 = .ok (.putfield 81, 3) := by decide +kernel
theorem d_Mo_readValue_151 : decode b_Mo_readValue 151 = .ok (.aload_n 0, 1) := by decide +kernel
theorem d_Mo_readValue_152 : decode b_Mo_readValue 152 = .ok (.getfield 17, 3) := by decide +kernel
theorem d_Mo_readValue_155 : decode b_Mo_readValue 155 = .ok (.aload_n 0, 1) := by decide +kernel
theorem d_Mo_readValue_156 : decode b_Mo_readValue 156 = .ok (.getfield 106, 3) := by decide +kernel
theorem d_Mo_readValue_159 : decode b_Mo_readValue 159 = .ok (.iload_n 3, 1) := by decide +kernel
theorem d_Mo_readValue_160 : decode b_Mo_readValue 160 = .ok (.iastore, 1) := by decide +kernel
theorem d_Mo_readValue_161 : decode b_Mo_readValue 161 = .ok (.aload_n 0, 1) := by decide +kernel
theorem d_Mo_readValue_162 : decode b_Mo_readValue 162 = .ok (.dup, 1) := by decide +kernel
theorem d_Mo_readValue_163 : decode b_Mo_readValue 163 = .ok (.getfield 106, 3) := by decide +kernel
theorem d_Mo_readValue_166 : decode b_Mo_readValue 166 = .ok (.iconst 1, 1) := by decide +kernel
theorem d_Mo_readValue_167 : decode b_Mo_readValue 167 = .ok (.iadd, 1) := by decide +kernel
theorem d_Mo_readValue_168 : decode b_Mo_readValue 168 = .ok (.putfield 106, 3) := by decide +kernel
theorem d_Mo_readValue_171 : decode b_Mo_readValue 171 = .ok (.goto (-120), 3) := by decide +kernel
theorem d_Mo_readValue_174 : decode b_Mo_readValue 174 = .ok (.aload_n 0, 1) := by decide +kernel
theorem d_Mo_readValue_175 : decode b_Mo_readValue 175 = .ok (.dup, 1) := by decide +kernel
theorem d_Mo_readValue_176 : decode b_Mo_readValue 176 = .ok (.getfield 81, 3) := by decide +kernel
theorem d_Mo_readValue_179 : decode b_Mo_readValue 179 = .ok (.iconst 1, 1) := by decide +kernel
theorem d_Mo_readValue_180 : decode b_Mo_readValue 180 = .ok (.iadd, 1) := by decide +kernel
theorem d_Mo_readValue_181 : decode b_Mo_readValue 181 = .ok (.putfield 81, 3) := by decide +kernel
theorem d_Mo_readValue_184 : decode b_Mo_readValue 184 = .ok (.aload_n 0, 1) := by decide +kernel
theorem d_Mo_readValue_185 : decode b_Mo_readValue 185 = .ok (.getfield 53, 3) := by decide +kernel
theorem d_Mo_readValue_188 : decode b_Mo_readValue 188 = .ok (.iload_n 1, 1) := by decide +kernel
theorem d_Mo_readValue_189 : decode b_Mo_readValue 189 = .ok (.aload_n 0, 1) := by decide +kernel
theorem d_Mo_readValue_190 : decode b_Mo_readValue 190 = .ok (.getfield 106, 3) := by decide +kernel
theorem d_Mo_readValue_193 : decode b_Mo_readValue 193 = .ok (.aload_n 0, 1) := by decide +kernel
theorem d_Mo_readValue_194 : decode b_Mo_readValue 194 = .ok (.getfield 50, 3) := by decide +kernel
theorem d_Mo_readValue_197 : decode b_Mo_readValue 197 = .ok (.iload_n 1, 1) := by decide +kernel
theorem d_Mo_readValue_198 : decode b_Mo_readValue 198 = .ok (.iaload, 1) := by decide +kernel
theorem d_Mo_readValue_199 : decode b_Mo_readValue 199 = .ok (.isub, 1) := by decide +kernel
theorem d_Mo_readValue_200 : decode b_Mo_readValue 200 = .ok (.iastore, 1) := by decide +kernel
theorem d_Mo_readValue_201 : decode b_Mo_readValue 201 = .ok (.iconst 1, 1) := by decide +kernel
theorem d_Mo_readValue_202 : decode b_Mo_readValue 202 = .ok (.ireturn, 1) := by decide +kernel
set_option maxHeartbeats 4000000 in
set_option maxRecDepth 100000 in
theorem t_Mo_readValue {l : Launch} {s0 : State} {D : va_G} {aC : Nat → ClassId} {a0 : Array Value} (G : gG l s0 D aC a0) (M : gMem) (r : gRef) (ow : Int64) (fu : Nat) (x1 : Int32)  (hno : F_Mo_readValue fu x1 M r ≠ .no) : gMet l s0 D aC y_Mo_readValue (Cond.code y_Mo_readValue b_Mo_readValue 5 (some .boolean)) 3 69 0 0 [.ref (s0.heap.size + 383), .int x1] M r ow (qI (F_Mo_readValue fu x1 M r)) (qT (F_Mo_readValue fu x1 M r)) := by
  refine gm_of G (by decide) (Nat.le_of_ble_eq_true rfl) ?_
  intro p e s m below meth c ls B hexc hl hw
  have hx := B.1
  have hb := B.2.1
  have hown := B.2.2.2.2.2.1
  have T := B.2.2.2.2.2.2.1
  have hK := B.2.2.2.2.2.2.2.1
  have X174 : ∀ (M1 : gMem) (r1 : gRef) (H : Heap) (locs : List Loc) (ls : Array Slot), lv_has ls 5 [(0, .ref (s0.heap.size + 383)), (1, .int x1)] → gWd s0 D aC M1 r1 ow H locs → F_Mo_readValue fu x1 M r = F_Mo_readValue_B174 fu x1 M1 r1 → W p l e (gRm 3 69 0 0) s m ([.ref (s0.heap.size + 383), .int x1] : List Value).toArray below meth c H locs 0 0 (gt_Q below (gQ s0 D aC ow (qI (F_Mo_readValue fu x1 M r)) (qT (F_Mo_readValue fu x1 M r))) s 0 0 0 0 (fun q => s0.heap.size ≤ q)) (F0 m 174 ls []) := by
    intro  M1 r1 H locs ls hl hw hF
    have hF := hF.trans (F_Mo_readValue_B174.eq_1 _ _ _ _)
    refine lv_aload_n hx hb d_Mo_readValue_174 rfl (lv_at hl 0 rfl) ?_
    refine lv_dup hx hb d_Mo_readValue_175 rfl ?_
    refine gf_Mo_at hx hb T hown hK hw rfl (kf_Mo_81 T) d_Mo_readValue_176 ?_
    refine lv_iconst (v := 1) hx hb d_Mo_readValue_179 (by decide) ?_
    refine lv_iadd hx hb d_Mo_readValue_180 ?_
    refine pf_Mo_at hx hb T hown hK hw rfl (kf_Mo_81 T) d_Mo_readValue_181 (fun H locs hw => ?_)
    refine lv_aload_n hx hb d_Mo_readValue_184 rfl (lv_at hl 0 rfl) ?_
    refine gf_Mo_valueSize hx hb T hown hK hw rfl (kf_Mo_53 T) d_Mo_readValue_185 ?_
    refine lv_iload_n hx hb d_Mo_readValue_188 rfl (lv_at hl 1 rfl) ?_
    refine lv_aload_n hx hb d_Mo_readValue_189 rfl (lv_at hl 0 rfl) ?_
    refine gf_Mo_used hx hb T hown hK hw rfl (kf_Mo_106 T) d_Mo_readValue_190 ?_
    refine lv_aload_n hx hb d_Mo_readValue_193 rfl (lv_at hl 0 rfl) ?_
    refine gf_Mo_valueFrom hx hb T hown hK hw rfl (kf_Mo_50 T) d_Mo_readValue_194 ?_
    refine lv_iload_n hx hb d_Mo_readValue_197 rfl (lv_at hl 1 rfl) ?_
    have g28 := ng hno hF
    have hF := hF.trans (gd_yes g28)
    refine ga_Mo_valueFrom hx hb hK hw rfl g28 d_Mo_readValue_198 ?_
    refine lv_isub hx hb d_Mo_readValue_199 ?_
    have g29 := ng hno hF
    have hF := hF.trans (gd_yes g29)
    refine gs_Mo_valueSize hx hb hK hw rfl g29 d_Mo_readValue_200 (fun H locs hw => ?_)
    refine lv_iconst (v := 1) hx hb d_Mo_readValue_201 (by decide) ?_
    exact gr_z B hw (by rfl) d_Mo_readValue_202 ⟨_, rfl, hF⟩
  have L51 : ∀ (d : Nat) (x2 : Int32) (M1 : gMem) (r1 : gRef) (H : Heap) (locs : List Loc) (ls : Array Slot), lv_has ls 5 [(2, .int x2), (0, .ref (s0.heap.size + 383)), (1, .int x1)] → gWd s0 D aC M1 r1 ow H locs → F_Mo_readValue fu x1 M r = F_Mo_readValue_L51 fu x1 d x2 M1 r1 → W p l e (gRm 3 69 0 0) s m ([.ref (s0.heap.size + 383), .int x1] : List Value).toArray below meth c H locs 0 0 (gt_Q below (gQ s0 D aC ow (qI (F_Mo_readValue fu x1 M r)) (qT (F_Mo_readValue fu x1 M r))) s 0 0 0 0 (fun q => s0.heap.size ≤ q)) (F0 m 51 ls []) := by
    intro d
    induction d with
    | zero => intro x2 M1 r1 H locs ls hl hw hF; exact absurd hF hno
    | succ d ih =>
      intro x2 M1 r1 H locs ls hl hw hF
      have hF := hF.trans (F_Mo_readValue_L51.eq_2 _ _ _ _ _ _)
      refine lv_aload_n hx hb d_Mo_readValue_51 rfl (lv_at hl 1 rfl) ?_
      refine lv_aload_n hx hb d_Mo_readValue_52 rfl (lv_at hl 1 rfl) ?_
      refine gf_Mo_at hx hb T hown hK hw rfl (kf_Mo_81 T) d_Mo_readValue_53 ?_
      refine gy_V B hl.1 hw (t_Mo_here G _ _ ow fu (M1 103 0) (nn hno hF)) (kd_Mo_here T) (ki_Mo T) (km_Mo_84 T) (ka_Mo_here T) (ks_Mo_here T) ⟨by decide, by decide, by rfl⟩ (rv_Mo hK hw rfl) rfl (Nat.le_of_ble_eq_true rfl) ⟨by decide, by decide⟩ ⟨by decide, by decide⟩ d_Mo_readValue_56 (fun v M30 r30 H locs hw hp => ?_) (fun x ek M30 r30 H locs hw hE hp => gr_t B hexc hw hE (by decide) (by decide) (hF.trans (bnd_ex hp)))
      obtain ⟨v30, rfl, hp⟩ := hp
      have hF := hF.trans (bnd_ok hp)
      refine lv_iload_n hx hb d_Mo_readValue_59 rfl (lv_at hl 0 rfl) ?_
      refine lv_icmp_eq hx hb d_Mo_readValue_60 rfl (fun h31 => ?_) (fun h31 => ?_)
      · skip
        have hF := hF.trans (if_pos h31)
        exact X174  _ _ _ _ _ (gv_loc hl [1, 2] rfl) hw hF
      · skip
        have hF := hF.trans (if_neg h31)
        refine lv_aload_n hx hb d_Mo_readValue_63 rfl (lv_at hl 1 rfl) ?_
        refine lv_aload_n hx hb d_Mo_readValue_64 rfl (lv_at hl 1 rfl) ?_
        refine gf_Mo_at hx hb T hown hK hw rfl (kf_Mo_81 T) d_Mo_readValue_65 ?_
        refine gy_V B hl.1 hw (t_Mo_here G _ _ ow fu (M30 103 0) (nn hno hF)) (kd_Mo_here T) (ki_Mo T) (km_Mo_84 T) (ka_Mo_here T) (ks_Mo_here T) ⟨by decide, by decide, by rfl⟩ (rv_Mo hK hw rfl) rfl (Nat.le_of_ble_eq_true rfl) ⟨by decide, by decide⟩ ⟨by decide, by decide⟩ d_Mo_readValue_68 (fun v M32 r32 H locs hw hp => ?_) (fun x ek M32 r32 H locs hw hE hp => gr_t B hexc hw hE (by decide) (by decide) (hF.trans (bnd_ex hp)))
        obtain ⟨v32, rfl, hp⟩ := hp
        have hF := hF.trans (bnd_ok hp)
        refine lv_istore_n hx hb d_Mo_readValue_71 rfl hl (by decide) rfl (fun ls hl => ?_)
        refine lv_aload_n hx hb d_Mo_readValue_72 rfl (lv_at hl 2 rfl) ?_
        refine gf_Mo_at hx hb T hown hK hw rfl (kf_Mo_81 T) d_Mo_readValue_73 ?_
        refine lv_istore hx hb d_Mo_readValue_76 hl (by decide) rfl (fun ls hl => ?_)
        refine lv_aload_n hx hb d_Mo_readValue_78 rfl (lv_at hl 3 rfl) ?_
        refine gf_Mo_at hx hb T hown hK hw rfl (kf_Mo_81 T) d_Mo_readValue_79 ?_
        refine lv_aload_n hx hb d_Mo_readValue_82 rfl (lv_at hl 3 rfl) ?_
        refine gf_Mo_typed hx hb T hown hK hw rfl (kf_Mo_72 T) d_Mo_readValue_83 ?_
        refine lv_icmp_eq hx hb d_Mo_readValue_86 rfl (fun h33 => ?_) (fun h33 => ?_)
        · skip
          have hF := hF.trans (if_pos h33)
          refine lv_aload_n hx hb d_Mo_readValue_95 rfl (lv_at hl 3 rfl) ?_
          refine lv_iconst (v := 1) hx hb d_Mo_readValue_96 (by decide) ?_
          refine lv_aload_n hx hb d_Mo_readValue_97 rfl (lv_at hl 3 rfl) ?_
          refine gf_Mo_at hx hb T hown hK hw rfl (kf_Mo_81 T) d_Mo_readValue_98 ?_
          refine gy_V B hl.1 hw (t_Mo_fail G _ _ ow fu 1 (M32 103 0) (nn hno hF)) (kd_Mo_fail T) (ki_Mo T) (km_Mo_88 T) (ka_Mo_fail T) (ks_Mo_fail T) ⟨by decide, by decide, by rfl⟩ (rv_Mo hK hw rfl) rfl (Nat.le_of_ble_eq_true rfl) ⟨by decide, by decide⟩ ⟨by decide, by decide⟩ d_Mo_readValue_101 (fun v M34 r34 H locs hw hp => ?_) (fun x ek M34 r34 H locs hw hE hp => gr_t B hexc hw hE (by decide) (by decide) (hF.trans (bnd_ex hp)))
          obtain ⟨v34, rfl, hp⟩ := hp
          have hF := hF.trans (bnd_ok hp)
          have g35 := ng hno hF
          have hF := hF.trans (gd_yes g35)
          exact gr_z B hw g35 d_Mo_readValue_104 ⟨_, rfl, hF⟩
        · skip
          have hF := hF.trans (if_neg h33)
          refine lv_iload_n hx hb d_Mo_readValue_89 rfl (lv_at hl 1 rfl) ?_
          refine lv_bipush (v := 60) hx hb d_Mo_readValue_90 (by decide) ?_
          refine lv_icmp_ne hx hb d_Mo_readValue_92 rfl (fun h36 => ?_) (fun h36 => ?_)
          · skip
            have hF := hF.trans (if_neg h36)
            refine lv_iload_n hx hb d_Mo_readValue_105 rfl (lv_at hl 1 rfl) ?_
            refine lv_bipush (v := 38) hx hb d_Mo_readValue_106 (by decide) ?_
            refine lv_icmp_ne hx hb d_Mo_readValue_108 rfl (fun h37 => ?_) (fun h37 => ?_)
            · skip
              have hF := hF.trans (if_neg h37)
              refine lv_iload_n hx hb d_Mo_readValue_128 rfl (lv_at hl 1 rfl) ?_
              refine lv_bipush (v := 10) hx hb d_Mo_readValue_129 (by decide) ?_
              refine lv_icmp_ne hx hb d_Mo_readValue_131 rfl (fun h38 => ?_) (fun h38 => ?_)
              · skip
                have hF := hF.trans (if_neg h38)
                refine lv_iload_n hx hb d_Mo_readValue_139 rfl (lv_at hl 1 rfl) ?_
                refine lv_istore_n hx hb d_Mo_readValue_140 rfl hl (by decide) rfl (fun ls hl => ?_)
                refine lv_aload_n hx hb d_Mo_readValue_141 rfl (lv_at hl 3 rfl) ?_
                refine lv_dup hx hb d_Mo_readValue_142 rfl ?_
                refine gf_Mo_at hx hb T hown hK hw rfl (kf_Mo_81 T) d_Mo_readValue_143 ?_
                refine lv_iconst (v := 1) hx hb d_Mo_readValue_146 (by decide) ?_
                refine lv_iadd hx hb d_Mo_readValue_147 ?_
                refine pf_Mo_at hx hb T hown hK hw rfl (kf_Mo_81 T) d_Mo_readValue_148 (fun H locs hw => ?_)
                refine lv_aload_n hx hb d_Mo_readValue_151 rfl (lv_at hl 3 rfl) ?_
                refine gf_Mo_pool hx hb T hown hK hw rfl (kf_Mo_17 T) d_Mo_readValue_152 ?_
                refine lv_aload_n hx hb d_Mo_readValue_155 rfl (lv_at hl 3 rfl) ?_
                refine gf_Mo_used hx hb T hown hK hw rfl (kf_Mo_106 T) d_Mo_readValue_156 ?_
                refine lv_iload_n hx hb d_Mo_readValue_159 rfl (lv_at hl 0 rfl) ?_
                have g39 := ng hno hF
                have hF := hF.trans (gd_yes g39)
                refine gs_Mo_pool hx hb hK hw rfl g39 d_Mo_readValue_160 (fun H locs hw => ?_)
                refine lv_aload_n hx hb d_Mo_readValue_161 rfl (lv_at hl 3 rfl) ?_
                refine lv_dup hx hb d_Mo_readValue_162 rfl ?_
                refine gf_Mo_used hx hb T hown hK hw rfl (kf_Mo_106 T) d_Mo_readValue_163 ?_
                refine lv_iconst (v := 1) hx hb d_Mo_readValue_166 (by decide) ?_
                refine lv_iadd hx hb d_Mo_readValue_167 ?_
                refine pf_Mo_used hx hb T hown hK hw rfl (kf_Mo_106 T) d_Mo_readValue_168 (fun H locs hw => ?_)
                refine lv_goto hx hb d_Mo_readValue_171 rfl ?_
                exact ih x2 _ _ _ _ _ (gv_loc hl [2, 3, 4] rfl) hw hF
              · skip
                have hF := hF.trans (if_pos h38)
                refine lv_bipush (v := 32) hx hb d_Mo_readValue_134 (by decide) ?_
                refine lv_goto hx hb d_Mo_readValue_136 rfl ?_
                refine lv_istore_n hx hb d_Mo_readValue_140 rfl hl (by decide) rfl (fun ls hl => ?_)
                refine lv_aload_n hx hb d_Mo_readValue_141 rfl (lv_at hl 3 rfl) ?_
                refine lv_dup hx hb d_Mo_readValue_142 rfl ?_
                refine gf_Mo_at hx hb T hown hK hw rfl (kf_Mo_81 T) d_Mo_readValue_143 ?_
                refine lv_iconst (v := 1) hx hb d_Mo_readValue_146 (by decide) ?_
                refine lv_iadd hx hb d_Mo_readValue_147 ?_
                refine pf_Mo_at hx hb T hown hK hw rfl (kf_Mo_81 T) d_Mo_readValue_148 (fun H locs hw => ?_)
                refine lv_aload_n hx hb d_Mo_readValue_151 rfl (lv_at hl 3 rfl) ?_
                refine gf_Mo_pool hx hb T hown hK hw rfl (kf_Mo_17 T) d_Mo_readValue_152 ?_
                refine lv_aload_n hx hb d_Mo_readValue_155 rfl (lv_at hl 3 rfl) ?_
                refine gf_Mo_used hx hb T hown hK hw rfl (kf_Mo_106 T) d_Mo_readValue_156 ?_
                refine lv_iload_n hx hb d_Mo_readValue_159 rfl (lv_at hl 0 rfl) ?_
                have g40 := ng hno hF
                have hF := hF.trans (gd_yes g40)
                refine gs_Mo_pool hx hb hK hw rfl g40 d_Mo_readValue_160 (fun H locs hw => ?_)
                refine lv_aload_n hx hb d_Mo_readValue_161 rfl (lv_at hl 3 rfl) ?_
                refine lv_dup hx hb d_Mo_readValue_162 rfl ?_
                refine gf_Mo_used hx hb T hown hK hw rfl (kf_Mo_106 T) d_Mo_readValue_163 ?_
                refine lv_iconst (v := 1) hx hb d_Mo_readValue_166 (by decide) ?_
                refine lv_iadd hx hb d_Mo_readValue_167 ?_
                refine pf_Mo_used hx hb T hown hK hw rfl (kf_Mo_106 T) d_Mo_readValue_168 (fun H locs hw => ?_)
                refine lv_goto hx hb d_Mo_readValue_171 rfl ?_
                exact ih x2 _ _ _ _ _ (gv_loc hl [2, 3, 4] rfl) hw hF
            · skip
              have hF := hF.trans (if_pos h37)
              refine lv_aload_n hx hb d_Mo_readValue_111 rfl (lv_at hl 3 rfl) ?_
              refine gy_V B hl.1 hw (t_Mo_reference G _ _ ow fu (nn hno hF)) (kd_Mo_reference T) (ki_Mo T) (km_Mo_132 T) (ka_Mo_reference T) (ks_Mo_reference T) ⟨by decide, by decide, by rfl⟩ (rv_Mo hK hw rfl) rfl (Nat.le_of_ble_eq_true rfl) ⟨by decide, by decide⟩ ⟨by decide, by decide⟩ d_Mo_readValue_112 (fun v M41 r41 H locs hw hp => ?_) (fun x ek M41 r41 H locs hw hE hp => gr_t B hexc hw hE (by decide) (by decide) (hF.trans (bnd_ex hp)))
              obtain ⟨v41, rfl, hp⟩ := hp
              have hF := hF.trans (bnd_ok hp)
              refine lv_istore_n hx hb d_Mo_readValue_115 rfl hl (by decide) rfl (fun ls hl => ?_)
              refine lv_iload_n hx hb d_Mo_readValue_116 rfl (lv_at hl 0 rfl) ?_
              refine lv_if_ge hx hb d_Mo_readValue_117 rfl (fun h42 => ?_) (fun h42 => ?_)
              · skip
                have hF := hF.trans (if_pos h42)
                refine lv_aload_n hx hb d_Mo_readValue_151 rfl (lv_at hl 3 rfl) ?_
                refine gf_Mo_pool hx hb T hown hK hw rfl (kf_Mo_17 T) d_Mo_readValue_152 ?_
                refine lv_aload_n hx hb d_Mo_readValue_155 rfl (lv_at hl 3 rfl) ?_
                refine gf_Mo_used hx hb T hown hK hw rfl (kf_Mo_106 T) d_Mo_readValue_156 ?_
                refine lv_iload_n hx hb d_Mo_readValue_159 rfl (lv_at hl 0 rfl) ?_
                have g43 := ng hno hF
                have hF := hF.trans (gd_yes g43)
                refine gs_Mo_pool hx hb hK hw rfl g43 d_Mo_readValue_160 (fun H locs hw => ?_)
                refine lv_aload_n hx hb d_Mo_readValue_161 rfl (lv_at hl 3 rfl) ?_
                refine lv_dup hx hb d_Mo_readValue_162 rfl ?_
                refine gf_Mo_used hx hb T hown hK hw rfl (kf_Mo_106 T) d_Mo_readValue_163 ?_
                refine lv_iconst (v := 1) hx hb d_Mo_readValue_166 (by decide) ?_
                refine lv_iadd hx hb d_Mo_readValue_167 ?_
                refine pf_Mo_used hx hb T hown hK hw rfl (kf_Mo_106 T) d_Mo_readValue_168 (fun H locs hw => ?_)
                refine lv_goto hx hb d_Mo_readValue_171 rfl ?_
                exact ih x2 _ _ _ _ _ (gv_loc hl [2, 3, 4] rfl) hw hF
              · skip
                have hF := hF.trans (if_neg h42)
                refine lv_aload_n hx hb d_Mo_readValue_120 rfl (lv_at hl 3 rfl) ?_
                refine lv_iconst (v := 3) hx hb d_Mo_readValue_121 (by decide) ?_
                refine lv_iload hx hb d_Mo_readValue_122 (lv_at hl 1 rfl) ?_
                refine gy_V B hl.1 hw (t_Mo_fail G _ _ ow fu 3 (M32 103 0) (nn hno hF)) (kd_Mo_fail T) (ki_Mo T) (km_Mo_88 T) (ka_Mo_fail T) (ks_Mo_fail T) ⟨by decide, by decide, by rfl⟩ (rv_Mo hK hw rfl) rfl (Nat.le_of_ble_eq_true rfl) ⟨by decide, by decide⟩ ⟨by decide, by decide⟩ d_Mo_readValue_124 (fun v M44 r44 H locs hw hp => ?_) (fun x ek M44 r44 H locs hw hE hp => gr_t B hexc hw hE (by decide) (by decide) (hF.trans (bnd_ex hp)))
                obtain ⟨v44, rfl, hp⟩ := hp
                have hF := hF.trans (bnd_ok hp)
                have g45 := ng hno hF
                have hF := hF.trans (gd_yes g45)
                exact gr_z B hw g45 d_Mo_readValue_127 ⟨_, rfl, hF⟩
          · skip
            have hF := hF.trans (if_pos h36)
            refine lv_aload_n hx hb d_Mo_readValue_95 rfl (lv_at hl 3 rfl) ?_
            refine lv_iconst (v := 1) hx hb d_Mo_readValue_96 (by decide) ?_
            refine lv_aload_n hx hb d_Mo_readValue_97 rfl (lv_at hl 3 rfl) ?_
            refine gf_Mo_at hx hb T hown hK hw rfl (kf_Mo_81 T) d_Mo_readValue_98 ?_
            refine gy_V B hl.1 hw (t_Mo_fail G _ _ ow fu 1 (M32 103 0) (nn hno hF)) (kd_Mo_fail T) (ki_Mo T) (km_Mo_88 T) (ka_Mo_fail T) (ks_Mo_fail T) ⟨by decide, by decide, by rfl⟩ (rv_Mo hK hw rfl) rfl (Nat.le_of_ble_eq_true rfl) ⟨by decide, by decide⟩ ⟨by decide, by decide⟩ d_Mo_readValue_101 (fun v M46 r46 H locs hw hp => ?_) (fun x ek M46 r46 H locs hw hE hp => gr_t B hexc hw hE (by decide) (by decide) (hF.trans (bnd_ex hp)))
            obtain ⟨v46, rfl, hp⟩ := hp
            have hF := hF.trans (bnd_ok hp)
            have g47 := ng hno hF
            have hF := hF.trans (gd_yes g47)
            exact gr_z B hw g47 d_Mo_readValue_104 ⟨_, rfl, hF⟩
  have hF := F_Mo_readValue.eq_1 fu x1 M r
  refine lv_aload_n hx hb d_Mo_readValue_0 rfl (lv_at hl 0 rfl) ?_
  refine lv_aload_n hx hb d_Mo_readValue_1 rfl (lv_at hl 0 rfl) ?_
  refine gf_Mo_at hx hb T hown hK hw rfl (kf_Mo_81 T) d_Mo_readValue_2 ?_
  refine gy_V B hl.1 hw (t_Mo_here G _ _ ow fu (M 103 0) (nn hno hF)) (kd_Mo_here T) (ki_Mo T) (km_Mo_84 T) (ka_Mo_here T) (ks_Mo_here T) ⟨by decide, by decide, by rfl⟩ (rv_Mo hK hw rfl) rfl (Nat.le_of_ble_eq_true rfl) ⟨by decide, by decide⟩ ⟨by decide, by decide⟩ d_Mo_readValue_5 (fun v M48 r48 H locs hw hp => ?_) (fun x ek M48 r48 H locs hw hE hp => gr_t B hexc hw hE (by decide) (by decide) (hF.trans (bnd_ex hp)))
  obtain ⟨v48, rfl, hp⟩ := hp
  have hF := hF.trans (bnd_ok hp)
  refine lv_istore_n hx hb d_Mo_readValue_8 rfl hl (by decide) rfl (fun ls hl => ?_)
  refine lv_iload_n hx hb d_Mo_readValue_9 rfl (lv_at hl 0 rfl) ?_
  refine lv_bipush (v := 34) hx hb d_Mo_readValue_10 (by decide) ?_
  refine lv_icmp_eq hx hb d_Mo_readValue_12 rfl (fun h49 => ?_) (fun h49 => ?_)
  · skip
    have hF := hF.trans (if_pos h49)
    refine lv_aload_n hx hb d_Mo_readValue_31 rfl (lv_at hl 1 rfl) ?_
    refine lv_dup hx hb d_Mo_readValue_32 rfl ?_
    refine gf_Mo_at hx hb T hown hK hw rfl (kf_Mo_81 T) d_Mo_readValue_33 ?_
    refine lv_iconst (v := 1) hx hb d_Mo_readValue_36 (by decide) ?_
    refine lv_iadd hx hb d_Mo_readValue_37 ?_
    refine pf_Mo_at hx hb T hown hK hw rfl (kf_Mo_81 T) d_Mo_readValue_38 (fun H locs hw => ?_)
    refine lv_aload_n hx hb d_Mo_readValue_41 rfl (lv_at hl 1 rfl) ?_
    refine gf_Mo_valueFrom hx hb T hown hK hw rfl (kf_Mo_50 T) d_Mo_readValue_42 ?_
    refine lv_iload_n hx hb d_Mo_readValue_45 rfl (lv_at hl 2 rfl) ?_
    refine lv_aload_n hx hb d_Mo_readValue_46 rfl (lv_at hl 1 rfl) ?_
    refine gf_Mo_used hx hb T hown hK hw rfl (kf_Mo_106 T) d_Mo_readValue_47 ?_
    have g50 := ng hno hF
    have hF := hF.trans (gd_yes g50)
    refine gs_Mo_valueFrom hx hb hK hw rfl g50 d_Mo_readValue_50 (fun H locs hw => ?_)
    exact L51 fu v48 _ _ _ _ _ (gv_loc hl [0, 1, 2] rfl) hw hF
  · skip
    have hF := hF.trans (if_neg h49)
    refine lv_iload_n hx hb d_Mo_readValue_15 rfl (lv_at hl 0 rfl) ?_
    refine lv_bipush (v := 39) hx hb d_Mo_readValue_16 (by decide) ?_
    refine lv_icmp_eq hx hb d_Mo_readValue_18 rfl (fun h51 => ?_) (fun h51 => ?_)
    · skip
      have hF := hF.trans (if_pos h51)
      refine lv_aload_n hx hb d_Mo_readValue_31 rfl (lv_at hl 1 rfl) ?_
      refine lv_dup hx hb d_Mo_readValue_32 rfl ?_
      refine gf_Mo_at hx hb T hown hK hw rfl (kf_Mo_81 T) d_Mo_readValue_33 ?_
      refine lv_iconst (v := 1) hx hb d_Mo_readValue_36 (by decide) ?_
      refine lv_iadd hx hb d_Mo_readValue_37 ?_
      refine pf_Mo_at hx hb T hown hK hw rfl (kf_Mo_81 T) d_Mo_readValue_38 (fun H locs hw => ?_)
      refine lv_aload_n hx hb d_Mo_readValue_41 rfl (lv_at hl 1 rfl) ?_
      refine gf_Mo_valueFrom hx hb T hown hK hw rfl (kf_Mo_50 T) d_Mo_readValue_42 ?_
      refine lv_iload_n hx hb d_Mo_readValue_45 rfl (lv_at hl 2 rfl) ?_
      refine lv_aload_n hx hb d_Mo_readValue_46 rfl (lv_at hl 1 rfl) ?_
      refine gf_Mo_used hx hb T hown hK hw rfl (kf_Mo_106 T) d_Mo_readValue_47 ?_
      have g52 := ng hno hF
      have hF := hF.trans (gd_yes g52)
      refine gs_Mo_valueFrom hx hb hK hw rfl g52 d_Mo_readValue_50 (fun H locs hw => ?_)
      exact L51 fu v48 _ _ _ _ _ (gv_loc hl [0, 1, 2] rfl) hw hF
    · skip
      have hF := hF.trans (if_neg h51)
      refine lv_aload_n hx hb d_Mo_readValue_21 rfl (lv_at hl 1 rfl) ?_
      refine lv_iconst (v := 1) hx hb d_Mo_readValue_22 (by decide) ?_
      refine lv_aload_n hx hb d_Mo_readValue_23 rfl (lv_at hl 1 rfl) ?_
      refine gf_Mo_at hx hb T hown hK hw rfl (kf_Mo_81 T) d_Mo_readValue_24 ?_
      refine gy_V B hl.1 hw (t_Mo_fail G _ _ ow fu 1 (M48 103 0) (nn hno hF)) (kd_Mo_fail T) (ki_Mo T) (km_Mo_88 T) (ka_Mo_fail T) (ks_Mo_fail T) ⟨by decide, by decide, by rfl⟩ (rv_Mo hK hw rfl) rfl (Nat.le_of_ble_eq_true rfl) ⟨by decide, by decide⟩ ⟨by decide, by decide⟩ d_Mo_readValue_27 (fun v M53 r53 H locs hw hp => ?_) (fun x ek M53 r53 H locs hw hE hp => gr_t B hexc hw hE (by decide) (by decide) (hF.trans (bnd_ex hp)))
      obtain ⟨v53, rfl, hp⟩ := hp
      have hF := hF.trans (bnd_ok hp)
      have g54 := ng hno hF
      have hF := hF.trans (gd_yes g54)
      exact gr_z B hw g54 d_Mo_readValue_30 ⟨_, rfl, hF⟩
theorem d_Mo_readAttribute_0 : decode b_Mo_readAttribute 0 = .ok (.bipush 6, 2) := by decide +kernel
theorem d_Mo_readAttribute_2 : decode b_Mo_readAttribute 2 = .ok (.iload_n 1, 1) := by decide +kernel
theorem d_Mo_readAttribute_3 : decode b_Mo_readAttribute 3 = .ok (.imul, 1) := by decide +kernel
theorem d_Mo_readAttribute_4 : decode b_Mo_readAttribute 4 = .ok (.aload_n 0, 1) := by decide +kernel
theorem d_Mo_readAttribute_5 : decode b_Mo_readAttribute 5 = .ok (.getfield 35, 3) := by decide +kernel
theorem d_Mo_readAttribute_8 : decode b_Mo_readAttribute 8 = .ok (.iload_n 1, 1) := by decide +kernel
theorem d_Mo_readAttribute_9 : decode b_Mo_readAttribute 9 = .ok (.iaload, 1) := by decide +kernel
theorem d_Mo_readAttribute_10 : decode b_Mo_readAttribute 10 = .ok (.iadd, 1) := by decide +kernel
theorem d_Mo_readAttribute_11 : decode b_Mo_readAttribute 11 = .ok (.istore_n 2, 1) := by decide +kernel
theorem d_Mo_readAttribute_12 : decode b_Mo_readAttribute 12 = .ok (.aload_n 0, 1) := by decide +kernel
theorem d_Mo_readAttribute_13 : decode b_Mo_readAttribute 13 = .ok (.getfield 47, 3) := by decide +kernel
theorem d_Mo_readAttribute_16 : decode b_Mo_readAttribute 16 = .ok (.iload_n 2, 1) := by decide +kernel
theorem d_Mo_readAttribute_17 : decode b_Mo_readAttribute 17 = .ok (.aload_n 0, 1) := by decide +kernel
theorem d_Mo_readAttribute_18 : decode b_Mo_readAttribute 18 = .ok (.getfield 81, 3) := by decide +kernel
theorem d_Mo_readAttribute_21 : decode b_Mo_readAttribute 21 = .ok (.iastore, 1) := by decide +kernel
theorem d_Mo_readAttribute_22 : decode b_Mo_readAttribute 22 = .ok (.aload_n 0, 1) := by decide +kernel
theorem d_Mo_readAttribute_23 : decode b_Mo_readAttribute 23 = .ok (.invokevirtual 135, 3) := by decide +kernel
theorem d_Mo_readAttribute_26 : decode b_Mo_readAttribute 26 = .ok (.ifCond .ne 5, 3) := by decide +kernel
theorem d_Mo_readAttribute_29 : decode b_Mo_readAttribute 29 = .ok (.iconst 0, 1) := by decide +kernel
theorem d_Mo_readAttribute_30 : decode b_Mo_readAttribute 30 = .ok (.ireturn, 1) := by decide +kernel
theorem d_Mo_readAttribute_31 : decode b_Mo_readAttribute 31 = .ok (.aload_n 0, 1) := by decide +kernel
theorem d_Mo_readAttribute_32 : decode b_Mo_readAttribute 32 = .ok (.getfield 38, 3) := by decide +kernel
theorem d_Mo_readAttribute_35 : decode b_Mo_readAttribute 35 = .ok (.iload_n 2, 1) := by decide +kernel
theorem d_Mo_readAttribute_36 : decode b_Mo_readAttribute 36 = .ok (.aload_n 0, 1) := by decide +kernel
theorem d_Mo_readAttribute_37 : decode b_Mo_readAttribute 37 = .ok (.getfield 109, 3) := by decide +kernel
theorem d_Mo_readAttribute_40 : decode b_Mo_readAttribute 40 = .ok (.iastore, 1) := by decide +kernel
theorem d_Mo_readAttribute_41 : decode b_Mo_readAttribute 41 = .ok (.aload_n 0, 1) := by decide +kernel
theorem d_Mo_readAttribute_42 : decode b_Mo_readAttribute 42 = .ok (.getfield 41, 3) := by decide +kernel
theorem d_Mo_readAttribute_45 : decode b_Mo_readAttribute 45 = .ok (.iload_n 2, 1) := by decide +kernel
theorem d_Mo_readAttribute_46 : decode b_Mo_readAttribute 46 = .ok (.aload_n 0, 1) := by decide +kernel
theorem d_Mo_readAttribute_47 : decode b_Mo_readAttribute 47 = .ok (.getfield 118, 3) := by decide +kernel
theorem d_Mo_readAttribute_50 : decode b_Mo_readAttribute 50 = .ok (.iastore, 1) := by decide +kernel
theorem d_Mo_readAttribute_51 : decode b_Mo_readAttribute 51 = .ok (.aload_n 0, 1) := by decide +kernel
theorem d_Mo_readAttribute_52 : decode b_Mo_readAttribute 52 = .ok (.getfield 44, 3) := by decide +kernel
theorem d_Mo_readAttribute_55 : decode b_Mo_readAttribute 55 = .ok (.iload_n 2, 1) := by decide +kernel
theorem d_Mo_readAttribute_56 : decode b_Mo_readAttribute 56 = .ok (.aload_n 0, 1) := by decide +kernel
theorem d_Mo_readAttribute_57 : decode b_Mo_readAttribute 57 = .ok (.getfield 112, 3) := by decide +kernel
theorem d_Mo_readAttribute_60 : decode b_Mo_readAttribute 60 = .ok (.iastore, 1) := by decide +kernel
theorem d_Mo_readAttribute_61 : decode b_Mo_readAttribute 61 = .ok (.aload_n 0, 1) := by decide +kernel
theorem d_Mo_readAttribute_62 : decode b_Mo_readAttribute 62 = .ok (.invokevirtual 98, 3) := by decide +kernel
theorem d_Mo_readAttribute_65 : decode b_Mo_readAttribute 65 = .ok (.istore_n 3, 1) := by decide +kernel
theorem d_Mo_readAttribute_66 : decode b_Mo_readAttribute 66 = .ok (.aload_n 0, 1) := by decide +kernel
theorem d_Mo_readAttribute_67 : decode b_Mo_readAttribute 67 = .ok (.bipush 61, 2) := by decide +kernel
theorem d_Mo_readAttribute_69 : decode b_Mo_readAttribute 69 = .ok (.invokevirtual 95, 3) := by decide +kernel
theorem d_Mo_readAttribute_72 : decode b_Mo_readAttribute 72 = .ok (.ifCond .ne 5, 3) := by decide +kernel
theorem d_Mo_readAttribute_75 : decode b_Mo_readAttribute 75 = .ok (.iconst 0, 1) := by decide +kernel
theorem d_Mo_readAttribute_76 : decode b_Mo_readAttribute 76 = .ok (.ireturn, 1) := by decide +kernel
theorem d_Mo_readAttribute_77 : decode b_Mo_readAttribute 77 = .ok (.aload_n 0, 1) := by decide +kernel
theorem d_Mo_readAttribute_78 : decode b_Mo_readAttribute 78 = .ok (.invokevirtual 98, 3) := by decide +kernel
theorem d_Mo_readAttribute_81 : decode b_Mo_readAttribute 81 = .ok (.istore_n 3, 1) := by decide +kernel
theorem d_Mo_readAttribute_82 : decode b_Mo_readAttribute 82 = .ok (.aload_n 0, 1) := by decide +kernel
theorem d_Mo_readAttribute_83 : decode b_Mo_readAttribute 83 = .ok (.iload_n 2, 1) := by decide +kernel
theorem d_Mo_readAttribute_84 : decode b_Mo_readAttribute 84 = .ok (.invokevirtual 138, 3) := by decide +kernel
theorem d_Mo_readAttribute_87 : decode b_Mo_readAttribute 87 = .ok (.ifCond .ne 5, 3) := by decide +kernel
theorem d_Mo_readAttribute_90 : decode b_Mo_readAttribute 90 = .ok (.iconst 0, 1) := by decide +kernel
theorem d_Mo_readAttribute_91 : decode b_Mo_readAttribute 91 = .ok (.ireturn, 1) := by decide +kernel
theorem d_Mo_readAttribute_92 : decode b_Mo_readAttribute 92 = .ok (.aload_n 0, 1) := by decide +kernel
theorem d_Mo_readAttribute_93 : decode b_Mo_readAttribute 93 = .ok (.getfield 35, 3) := by decide +kernel
theorem d_Mo_readAttribute_96 : decode b_Mo_readAttribute 96 = .ok (.iload_n 1, 1) := by decide +kernel
theorem d_Mo_readAttribute_97 : decode b_Mo_readAttribute 97 = .ok (.dup2, 1) := by decide +kernel
theorem d_Mo_readAttribute_98 : decode b_Mo_readAttribute 98 = .ok (.iaload, 1) := by decide +kernel
theorem d_Mo_readAttribute_99 : decode b_Mo_readAttribute 99 = .ok (.iconst 1, 1) := by decide +kernel
theorem d_Mo_readAttribute_100 : decode b_Mo_readAttribute 100 = .ok (.iadd, 1) := by decide +kernel
theorem d_Mo_readAttribute_101 : decode b_Mo_readAttribute 101 = .ok (.iastore, 1) := by decide +kernel
theorem d_Mo_readAttribute_102 : decode b_Mo_readAttribute 102 = .ok (.iload_n 3, 1) := by decide +kernel
theorem d_Mo_readAttribute_103 : decode b_Mo_readAttribute 103 = .ok (.ifCond .lt 7, 3) := by decide +kernel
theorem d_Mo_readAttribute_106 : decode b_Mo_readAttribute 106 = .ok (.iconst 1, 1) := by decide +kernel
theorem d_Mo_readAttribute_107 : decode b_Mo_readAttribute 107 = .ok (.goto 4, 3) := by decide +kernel
theorem d_Mo_readAttribute_110 : decode b_Mo_readAttribute 110 = .ok (.iconst 0, 1) := by decide +kernel
theorem d_Mo_readAttribute_111 : decode b_Mo_readAttribute 111 = .ok (.ireturn, 1) := by decide +kernel
set_option maxHeartbeats 4000000 in
set_option maxRecDepth 100000 in
theorem t_Mo_readAttribute {l : Launch} {s0 : State} {D : va_G} {aC : Nat → ClassId} {a0 : Array Value} (G : gG l s0 D aC a0) (M : gMem) (r : gRef) (ow : Int64) (fu : Nat) (x1 : Int32)  (hno : F_Mo_readAttribute fu x1 M r ≠ .no) : gMet l s0 D aC y_Mo_readAttribute (Cond.code y_Mo_readAttribute b_Mo_readAttribute 4 (some .boolean)) 4 93 0 0 [.ref (s0.heap.size + 383), .int x1] M r ow (qI (F_Mo_readAttribute fu x1 M r)) (qT (F_Mo_readAttribute fu x1 M r)) := by
  refine gm_of G (by decide) (Nat.le_of_ble_eq_true rfl) ?_
  intro p e s m below meth c ls B hexc hl hw
  have hx := B.1
  have hb := B.2.1
  have hown := B.2.2.2.2.2.1
  have T := B.2.2.2.2.2.2.1
  have hK := B.2.2.2.2.2.2.2.1
  have hF := F_Mo_readAttribute.eq_1 fu x1 M r
  refine lv_bipush (v := 6) hx hb d_Mo_readAttribute_0 (by decide) ?_
  refine lv_iload_n hx hb d_Mo_readAttribute_2 rfl (lv_at hl 1 rfl) ?_
  refine lv_imul hx hb d_Mo_readAttribute_3 ?_
  refine lv_aload_n hx hb d_Mo_readAttribute_4 rfl (lv_at hl 0 rfl) ?_
  refine gf_Mo_counts hx hb T hown hK hw rfl (kf_Mo_35 T) d_Mo_readAttribute_5 ?_
  refine lv_iload_n hx hb d_Mo_readAttribute_8 rfl (lv_at hl 1 rfl) ?_
  have g17 := ng hno hF
  have hF := hF.trans (gd_yes g17)
  refine ga_Mo_counts hx hb hK hw rfl g17 d_Mo_readAttribute_9 ?_
  refine lv_iadd hx hb d_Mo_readAttribute_10 ?_
  refine lv_istore_n hx hb d_Mo_readAttribute_11 rfl hl (by decide) rfl (fun ls hl => ?_)
  refine lv_aload_n hx hb d_Mo_readAttribute_12 rfl (lv_at hl 1 rfl) ?_
  refine gf_Mo_places hx hb T hown hK hw rfl (kf_Mo_47 T) d_Mo_readAttribute_13 ?_
  refine lv_iload_n hx hb d_Mo_readAttribute_16 rfl (lv_at hl 0 rfl) ?_
  refine lv_aload_n hx hb d_Mo_readAttribute_17 rfl (lv_at hl 1 rfl) ?_
  refine gf_Mo_at hx hb T hown hK hw rfl (kf_Mo_81 T) d_Mo_readAttribute_18 ?_
  have g18 := ng hno hF
  have hF := hF.trans (gd_yes g18)
  refine gs_Mo_places hx hb hK hw rfl g18 d_Mo_readAttribute_21 (fun H locs hw => ?_)
  refine lv_aload_n hx hb d_Mo_readAttribute_22 rfl (lv_at hl 1 rfl) ?_
  refine gy_V B hl.1 hw (t_Mo_readName G _ _ ow fu (nn hno hF)) (kd_Mo_readName T) (ki_Mo T) (km_Mo_135 T) (ka_Mo_readName T) (ks_Mo_readName T) ⟨by decide, by decide, by rfl⟩ (rv_Mo hK hw rfl) rfl (Nat.le_of_ble_eq_true rfl) ⟨by decide, by decide⟩ ⟨by decide, by decide⟩ d_Mo_readAttribute_23 (fun v M19 r19 H locs hw hp => ?_) (fun x ek M19 r19 H locs hw hE hp => gr_t B hexc hw hE (by decide) (by decide) (hF.trans (bnd_ex hp)))
  obtain ⟨v19, rfl, hp⟩ := hp
  have hF := hF.trans (bnd_ok hp)
  refine lv_if_ne hx hb d_Mo_readAttribute_26 rfl (fun h20 => ?_) (fun h20 => ?_)
  · skip
    have hF := hF.trans (if_neg h20)
    refine lv_aload_n hx hb d_Mo_readAttribute_31 rfl (lv_at hl 1 rfl) ?_
    refine gf_Mo_from hx hb T hown hK hw rfl (kf_Mo_38 T) d_Mo_readAttribute_32 ?_
    refine lv_iload_n hx hb d_Mo_readAttribute_35 rfl (lv_at hl 0 rfl) ?_
    refine lv_aload_n hx hb d_Mo_readAttribute_36 rfl (lv_at hl 1 rfl) ?_
    refine gf_Mo_begun hx hb T hown hK hw rfl (kf_Mo_109 T) d_Mo_readAttribute_37 ?_
    have g21 := ng hno hF
    have hF := hF.trans (gd_yes g21)
    refine gs_Mo_from hx hb hK hw rfl g21 d_Mo_readAttribute_40 (fun H locs hw => ?_)
    refine lv_aload_n hx hb d_Mo_readAttribute_41 rfl (lv_at hl 1 rfl) ?_
    refine gf_Mo_size hx hb T hown hK hw rfl (kf_Mo_41 T) d_Mo_readAttribute_42 ?_
    refine lv_iload_n hx hb d_Mo_readAttribute_45 rfl (lv_at hl 0 rfl) ?_
    refine lv_aload_n hx hb d_Mo_readAttribute_46 rfl (lv_at hl 1 rfl) ?_
    refine gf_Mo_long0 hx hb T hown hK hw rfl (kf_Mo_118 T) d_Mo_readAttribute_47 ?_
    have g22 := ng hno hF
    have hF := hF.trans (gd_yes g22)
    refine gs_Mo_size hx hb hK hw rfl g22 d_Mo_readAttribute_50 (fun H locs hw => ?_)
    refine lv_aload_n hx hb d_Mo_readAttribute_51 rfl (lv_at hl 1 rfl) ?_
    refine gf_Mo_colon hx hb T hown hK hw rfl (kf_Mo_44 T) d_Mo_readAttribute_52 ?_
    refine lv_iload_n hx hb d_Mo_readAttribute_55 rfl (lv_at hl 0 rfl) ?_
    refine lv_aload_n hx hb d_Mo_readAttribute_56 rfl (lv_at hl 1 rfl) ?_
    refine gf_Mo_colonAt hx hb T hown hK hw rfl (kf_Mo_112 T) d_Mo_readAttribute_57 ?_
    have g23 := ng hno hF
    have hF := hF.trans (gd_yes g23)
    refine gs_Mo_colon hx hb hK hw rfl g23 d_Mo_readAttribute_60 (fun H locs hw => ?_)
    refine lv_aload_n hx hb d_Mo_readAttribute_61 rfl (lv_at hl 1 rfl) ?_
    refine gy_V B hl.1 hw (t_Mo_skip G _ _ ow fu (nn hno hF)) (kd_Mo_skip T) (ki_Mo T) (km_Mo_98 T) (ka_Mo_skip T) (ks_Mo_skip T) ⟨by decide, by decide, by rfl⟩ (rv_Mo hK hw rfl) rfl (Nat.le_of_ble_eq_true rfl) ⟨by decide, by decide⟩ ⟨by decide, by decide⟩ d_Mo_readAttribute_62 (fun v M24 r24 H locs hw hp => ?_) (fun x ek M24 r24 H locs hw hE hp => gr_t B hexc hw hE (by decide) (by decide) (hF.trans (bnd_ex hp)))
    obtain ⟨v24, rfl, hp⟩ := hp
    have hF := hF.trans (bnd_ok hp)
    refine lv_istore_n hx hb d_Mo_readAttribute_65 rfl hl (by decide) rfl (fun ls hl => ?_)
    refine lv_aload_n hx hb d_Mo_readAttribute_66 rfl (lv_at hl 2 rfl) ?_
    refine lv_bipush (v := 61) hx hb d_Mo_readAttribute_67 (by decide) ?_
    refine gy_V B hl.1 hw (t_Mo_over G _ _ ow fu 61 (nn hno hF)) (kd_Mo_over T) (ki_Mo T) (km_Mo_95 T) (ka_Mo_over T) (ks_Mo_over T) ⟨by decide, by decide, by rfl⟩ (rv_Mo hK hw rfl) rfl (Nat.le_of_ble_eq_true rfl) ⟨by decide, by decide⟩ ⟨by decide, by decide⟩ d_Mo_readAttribute_69 (fun v M25 r25 H locs hw hp => ?_) (fun x ek M25 r25 H locs hw hE hp => gr_t B hexc hw hE (by decide) (by decide) (hF.trans (bnd_ex hp)))
    obtain ⟨v25, rfl, hp⟩ := hp
    have hF := hF.trans (bnd_ok hp)
    refine lv_if_ne hx hb d_Mo_readAttribute_72 rfl (fun h26 => ?_) (fun h26 => ?_)
    · skip
      have hF := hF.trans (if_neg h26)
      refine lv_aload_n hx hb d_Mo_readAttribute_77 rfl (lv_at hl 2 rfl) ?_
      refine gy_V B hl.1 hw (t_Mo_skip G _ _ ow fu (nn hno hF)) (kd_Mo_skip T) (ki_Mo T) (km_Mo_98 T) (ka_Mo_skip T) (ks_Mo_skip T) ⟨by decide, by decide, by rfl⟩ (rv_Mo hK hw rfl) rfl (Nat.le_of_ble_eq_true rfl) ⟨by decide, by decide⟩ ⟨by decide, by decide⟩ d_Mo_readAttribute_78 (fun v M27 r27 H locs hw hp => ?_) (fun x ek M27 r27 H locs hw hE hp => gr_t B hexc hw hE (by decide) (by decide) (hF.trans (bnd_ex hp)))
      obtain ⟨v27, rfl, hp⟩ := hp
      have hF := hF.trans (bnd_ok hp)
      refine lv_istore_n hx hb d_Mo_readAttribute_81 rfl hl (by decide) rfl (fun ls hl => ?_)
      refine lv_aload_n hx hb d_Mo_readAttribute_82 rfl (lv_at hl 2 rfl) ?_
      refine lv_iload_n hx hb d_Mo_readAttribute_83 rfl (lv_at hl 1 rfl) ?_
      refine gy_V B hl.1 hw (t_Mo_readValue G _ _ ow fu ((6 * x1) + (M 115 x1.toNatClampNeg)) (nn hno hF)) (kd_Mo_readValue T) (ki_Mo T) (km_Mo_138 T) (ka_Mo_readValue T) (ks_Mo_readValue T) ⟨by decide, by decide, by rfl⟩ (rv_Mo hK hw rfl) rfl (Nat.le_of_ble_eq_true rfl) ⟨by decide, by decide⟩ ⟨by decide, by decide⟩ d_Mo_readAttribute_84 (fun v M28 r28 H locs hw hp => ?_) (fun x ek M28 r28 H locs hw hE hp => gr_t B hexc hw hE (by decide) (by decide) (hF.trans (bnd_ex hp)))
      obtain ⟨v28, rfl, hp⟩ := hp
      have hF := hF.trans (bnd_ok hp)
      refine lv_if_ne hx hb d_Mo_readAttribute_87 rfl (fun h29 => ?_) (fun h29 => ?_)
      · skip
        have hF := hF.trans (if_neg h29)
        refine lv_aload_n hx hb d_Mo_readAttribute_92 rfl (lv_at hl 2 rfl) ?_
        refine gf_Mo_counts hx hb T hown hK hw rfl (kf_Mo_35 T) d_Mo_readAttribute_93 ?_
        refine lv_iload_n hx hb d_Mo_readAttribute_96 rfl (lv_at hl 3 rfl) ?_
        refine lv_dup2_11 hx hb d_Mo_readAttribute_97 rfl rfl ?_
        have g30 := ng hno hF
        have hF := hF.trans (gd_yes g30)
        refine ga_Mo_counts hx hb hK hw rfl g30 d_Mo_readAttribute_98 ?_
        refine lv_iconst (v := 1) hx hb d_Mo_readAttribute_99 (by decide) ?_
        refine lv_iadd hx hb d_Mo_readAttribute_100 ?_
        have g31 := ng hno hF
        have hF := hF.trans (gd_yes g31)
        refine gs_Mo_counts hx hb hK hw rfl g31 d_Mo_readAttribute_101 (fun H locs hw => ?_)
        refine lv_iload_n hx hb d_Mo_readAttribute_102 rfl (lv_at hl 0 rfl) ?_
        refine lv_if_lt hx hb d_Mo_readAttribute_103 rfl (fun h32 => ?_) (fun h32 => ?_)
        · skip
          have hF := hF.trans (if_pos h32)
          refine lv_iconst (v := 0) hx hb d_Mo_readAttribute_110 (by decide) ?_
          exact gr_z B hw (by rfl) d_Mo_readAttribute_111 ⟨_, rfl, hF⟩
        · skip
          have hF := hF.trans (if_neg h32)
          refine lv_iconst (v := 1) hx hb d_Mo_readAttribute_106 (by decide) ?_
          refine lv_goto hx hb d_Mo_readAttribute_107 rfl ?_
          exact gr_z B hw (by rfl) d_Mo_readAttribute_111 ⟨_, rfl, hF⟩
      · skip
        have hF := hF.trans (if_pos h29)
        refine lv_iconst (v := 0) hx hb d_Mo_readAttribute_90 (by decide) ?_
        exact gr_z B hw (by rfl) d_Mo_readAttribute_91 ⟨_, rfl, hF⟩
    · skip
      have hF := hF.trans (if_pos h26)
      refine lv_iconst (v := 0) hx hb d_Mo_readAttribute_75 (by decide) ?_
      exact gr_z B hw (by rfl) d_Mo_readAttribute_76 ⟨_, rfl, hF⟩
  · skip
    have hF := hF.trans (if_pos h20)
    refine lv_iconst (v := 0) hx hb d_Mo_readAttribute_29 (by decide) ?_
    exact gr_z B hw (by rfl) d_Mo_readAttribute_30 ⟨_, rfl, hF⟩
theorem d_Mo_readRest_0 : decode b_Mo_readRest 0 = .ok (.aload_n 0, 1) := by decide +kernel
theorem d_Mo_readRest_1 : decode b_Mo_readRest 1 = .ok (.invokevirtual 98, 3) := by decide +kernel
theorem d_Mo_readRest_4 : decode b_Mo_readRest 4 = .ok (.istore_n 3, 1) := by decide +kernel
theorem d_Mo_readRest_5 : decode b_Mo_readRest 5 = .ok (.aload_n 0, 1) := by decide +kernel
theorem d_Mo_readRest_6 : decode b_Mo_readRest 6 = .ok (.aload_n 0, 1) := by decide +kernel
theorem d_Mo_readRest_7 : decode b_Mo_readRest 7 = .ok (.getfield 81, 3) := by decide +kernel
theorem d_Mo_readRest_10 : decode b_Mo_readRest 10 = .ok (.invokevirtual 84, 3) := by decide +kernel
theorem d_Mo_readRest_13 : decode b_Mo_readRest 13 = .ok (.istore 4, 2) := by decide +kernel
theorem d_Mo_readRest_15 : decode b_Mo_readRest 15 = .ok (.iload 4, 2) := by decide +kernel
theorem d_Mo_readRest_17 : decode b_Mo_readRest 17 = .ok (.bipush 62, 2) := by decide +kernel
theorem d_Mo_readRest_19 : decode b_Mo_readRest 19 = .ok (.if_icmp .eq 10, 3) := by decide +kernel
theorem d_Mo_readRest_22 : decode b_Mo_readRest 22 = .ok (.iload 4, 2) := by decide +kernel
theorem d_Mo_readRest_24 : decode b_Mo_readRest 24 = .ok (.bipush 47, 2) := by decide +kernel
theorem d_Mo_readRest_26 : decode b_Mo_readRest 26 = .ok (.if_icmp .ne 39, 3) := by decide +kernel
theorem d_Mo_readRest_29 : decode b_Mo_readRest 29 = .ok (.aload_n 0, 1) := by decide +kernel
theorem d_Mo_readRest_30 : decode b_Mo_readRest 30 = .ok (.dup, 1) := by decide +kernel
theorem d_Mo_readRest_31 : decode b_Mo_readRest 31 = .ok (.getfield 81, 3) := by decide +kernel
theorem d_Mo_readRest_34 : decode b_Mo_readRest 34 = .ok (.iconst 1, 1) := by decide +kernel
theorem d_Mo_readRest_35 : decode b_Mo_readRest 35 = .ok (.iadd, 1) := by decide +kernel
theorem d_Mo_readRest_36 : decode b_Mo_readRest 36 = .ok (.putfield 81, 3) := by decide +kernel
theorem d_Mo_readRest_39 : decode b_Mo_readRest 39 = .ok (.iload 4, 2) := by decide +kernel
theorem d_Mo_readRest_41 : decode b_Mo_readRest 41 = .ok (.bipush 62, 2) := by decide +kernel
theorem d_Mo_readRest_43 : decode b_Mo_readRest 43 = .ok (.if_icmp .ne 7, 3) := by decide +kernel
theorem d_Mo_readRest_46 : decode b_Mo_readRest 46 = .ok (.iconst 1, 1) := by decide +kernel
theorem d_Mo_readRest_47 : decode b_Mo_readRest 47 = .ok (.goto 17, 3) := by decide +kernel
theorem d_Mo_readRest_50 : decode b_Mo_readRest 50 = .ok (.aload_n 0, 1) := by decide +kernel
theorem d_Mo_readRest_51 : decode b_Mo_readRest 51 = .ok (.bipush 62, 2) := by decide +kernel
theorem d_Mo_readRest_53 : decode b_Mo_readRest 53 = .ok (.invokevirtual 95, 3) := by decide +kernel
theorem d_Mo_readRest_56 : decode b_Mo_readRest 56 = .ok (.ifCond .eq 7, 3) := by decide +kernel
theorem d_Mo_readRest_59 : decode b_Mo_readRest 59 = .ok (.iconst 2, 1) := by decide +kernel
theorem d_Mo_readRest_60 : decode b_Mo_readRest 60 = .ok (.goto 4, 3) := by decide +kernel
theorem d_Mo_readRest_63 : decode b_Mo_readRest 63 = .ok (.iconst 0, 1) := by decide +kernel
theorem d_Mo_readRest_64 : decode b_Mo_readRest 64 = .ok (.ireturn, 1) := by decide +kernel
theorem d_Mo_readRest_65 : decode b_Mo_readRest 65 = .ok (.iload_n 3, 1) := by decide +kernel
theorem d_Mo_readRest_66 : decode b_Mo_readRest 66 = .ok (.ifCond .eq 12, 3) := by decide +kernel
theorem d_Mo_readRest_69 : decode b_Mo_readRest 69 = .ok (.aload_n 0, 1) := by decide +kernel
theorem d_Mo_readRest_70 : decode b_Mo_readRest 70 = .ok (.iload 4, 2) := by decide +kernel
theorem d_Mo_readRest_72 : decode b_Mo_readRest 72 = .ok (.invokevirtual 68, 3) := by decide +kernel
theorem d_Mo_readRest_75 : decode b_Mo_readRest 75 = .ok (.ifCond .ne 21, 3) := by decide +kernel
theorem d_Mo_readRest_78 : decode b_Mo_readRest 78 = .ok (.aload_n 0, 1) := by decide +kernel
theorem d_Mo_readRest_79 : decode b_Mo_readRest 79 = .ok (.iconst 1, 1) := by decide +kernel
theorem d_Mo_readRest_80 : decode b_Mo_readRest 80 = .ok (.aload_n 0, 1) := by decide +kernel
theorem d_Mo_readRest_81 : decode b_Mo_readRest 81 = .ok (.getfield 81, 3) := by decide +kernel
theorem d_Mo_readRest_84 : decode b_Mo_readRest 84 = .ok (.invokevirtual 88, 3) := by decide +kernel
theorem d_Mo_readRest_87 : decode b_Mo_readRest 87 = .ok (.ifCond .eq 7, 3) := by decide +kernel
theorem d_Mo_readRest_90 : decode b_Mo_readRest 90 = .ok (.iconst 1, 1) := by decide +kernel
theorem d_Mo_readRest_91 : decode b_Mo_readRest 91 = .ok (.goto 4, 3) := by decide +kernel
theorem d_Mo_readRest_94 : decode b_Mo_readRest 94 = .ok (.iconst 0, 1) := by decide +kernel
theorem d_Mo_readRest_95 : decode b_Mo_readRest 95 = .ok (.ireturn, 1) := by decide +kernel
theorem d_Mo_readRest_96 : decode b_Mo_readRest 96 = .ok (.aload_n 0, 1) := by decide +kernel
theorem d_Mo_readRest_97 : decode b_Mo_readRest 97 = .ok (.getfield 35, 3) := by decide +kernel
theorem d_Mo_readRest_100 : decode b_Mo_readRest 100 = .ok (.iload_n 1, 1) := by decide +kernel
theorem d_Mo_readRest_101 : decode b_Mo_readRest 101 = .ok (.iaload, 1) := by decide +kernel
theorem d_Mo_readRest_102 : decode b_Mo_readRest 102 = .ok (.bipush 6, 2) := by decide +kernel
theorem d_Mo_readRest_104 : decode b_Mo_readRest 104 = .ok (.if_icmp .ne 18, 3) := by decide +kernel
theorem d_Mo_readRest_107 : decode b_Mo_readRest 107 = .ok (.aload_n 0, 1) := by decide +kernel
theorem d_Mo_readRest_108 : decode b_Mo_readRest 108 = .ok (.iconst 4, 1) := by decide +kernel
theorem d_Mo_readRest_109 : decode b_Mo_readRest 109 = .ok (.iload_n 2, 1) := by decide +kernel
theorem d_Mo_readRest_110 : decode b_Mo_readRest 110 = .ok (.invokevirtual 88, 3) := by decide +kernel
theorem d_Mo_readRest_113 : decode b_Mo_readRest 113 = .ok (.ifCond .eq 7, 3) := by decide +kernel
theorem d_Mo_readRest_116 : decode b_Mo_readRest 116 = .ok (.iconst 1, 1) := by decide +kernel
theorem d_Mo_readRest_117 : decode b_Mo_readRest 117 = .ok (.goto 4, 3) := by decide +kernel
theorem d_Mo_readRest_120 : decode b_Mo_readRest 120 = .ok (.iconst 0, 1) := by decide +kernel
theorem d_Mo_readRest_121 : decode b_Mo_readRest 121 = .ok (.ireturn, 1) := by decide +kernel
theorem d_Mo_readRest_122 : decode b_Mo_readRest 122 = .ok (.aload_n 0, 1) := by decide +kernel
theorem d_Mo_readRest_123 : decode b_Mo_readRest 123 = .ok (.iload_n 1, 1) := by decide +kernel
theorem d_Mo_readRest_124 : decode b_Mo_readRest 124 = .ok (.invokevirtual 141, 3) := by decide +kernel
theorem d_Mo_readRest_127 : decode b_Mo_readRest 127 = .ok (.ifCond .ne 5, 3) := by decide +kernel
theorem d_Mo_readRest_130 : decode b_Mo_readRest 130 = .ok (.iconst 0, 1) := by decide +kernel
theorem d_Mo_readRest_131 : decode b_Mo_readRest 131 = .ok (.ireturn, 1) := by decide +kernel
theorem d_Mo_readRest_132 : decode b_Mo_readRest 132 = .ok (.goto (-132), 3) := by decide +kernel
set_option maxHeartbeats 4000000 in
set_option maxRecDepth 100000 in
theorem t_Mo_readRest {l : Launch} {s0 : State} {D : va_G} {aC : Nat → ClassId} {a0 : Array Value} (G : gG l s0 D aC a0) (M : gMem) (r : gRef) (ow : Int64) (fu : Nat) (x1 : Int32) (x2 : Int32)  (hno : F_Mo_readRest fu x1 x2 M r ≠ .no) : gMet l s0 D aC y_Mo_readRest (Cond.code y_Mo_readRest b_Mo_readRest 5 (some .int)) 5 116 0 0 [.ref (s0.heap.size + 383), .int x1, .int x2] M r ow (qI (F_Mo_readRest fu x1 x2 M r)) (qT (F_Mo_readRest fu x1 x2 M r)) := by
  refine gm_of G (by decide) (Nat.le_of_ble_eq_true rfl) ?_
  intro p e s m below meth c ls B hexc hl hw
  have hx := B.1
  have hb := B.2.1
  have hown := B.2.2.2.2.2.1
  have T := B.2.2.2.2.2.2.1
  have hK := B.2.2.2.2.2.2.2.1
  have L0 : ∀ (d : Nat) (M1 : gMem) (r1 : gRef) (H : Heap) (locs : List Loc) (ls : Array Slot), lv_has ls 5 [(0, .ref (s0.heap.size + 383)), (1, .int x1), (2, .int x2)] → gWd s0 D aC M1 r1 ow H locs → F_Mo_readRest fu x1 x2 M r = F_Mo_readRest_L0 fu x1 x2 d M1 r1 → W p l e (gRm 5 116 0 0) s m ([.ref (s0.heap.size + 383), .int x1, .int x2] : List Value).toArray below meth c H locs 0 0 (gt_Q below (gQ s0 D aC ow (qI (F_Mo_readRest fu x1 x2 M r)) (qT (F_Mo_readRest fu x1 x2 M r))) s 0 0 0 0 (fun q => s0.heap.size ≤ q)) (F0 m 0 ls []) := by
    intro d
    induction d with
    | zero => intro  M1 r1 H locs ls hl hw hF; exact absurd hF hno
    | succ d ih =>
      intro  M1 r1 H locs ls hl hw hF
      have hF := hF.trans (F_Mo_readRest_L0.eq_2 _ _ _ _ _ _)
      refine lv_aload_n hx hb d_Mo_readRest_0 rfl (lv_at hl 0 rfl) ?_
      refine gy_V B hl.1 hw (t_Mo_skip G _ _ ow fu (nn hno hF)) (kd_Mo_skip T) (ki_Mo T) (km_Mo_98 T) (ka_Mo_skip T) (ks_Mo_skip T) ⟨by decide, by decide, by rfl⟩ (rv_Mo hK hw rfl) rfl (Nat.le_of_ble_eq_true rfl) ⟨by decide, by decide⟩ ⟨by decide, by decide⟩ d_Mo_readRest_1 (fun v M24 r24 H locs hw hp => ?_) (fun x ek M24 r24 H locs hw hE hp => gr_t B hexc hw hE (by decide) (by decide) (hF.trans (bnd_ex hp)))
      obtain ⟨v24, rfl, hp⟩ := hp
      have hF := hF.trans (bnd_ok hp)
      refine lv_istore_n hx hb d_Mo_readRest_4 rfl hl (by decide) rfl (fun ls hl => ?_)
      refine lv_aload_n hx hb d_Mo_readRest_5 rfl (lv_at hl 1 rfl) ?_
      refine lv_aload_n hx hb d_Mo_readRest_6 rfl (lv_at hl 1 rfl) ?_
      refine gf_Mo_at hx hb T hown hK hw rfl (kf_Mo_81 T) d_Mo_readRest_7 ?_
      refine gy_V B hl.1 hw (t_Mo_here G _ _ ow fu (M24 103 0) (nn hno hF)) (kd_Mo_here T) (ki_Mo T) (km_Mo_84 T) (ka_Mo_here T) (ks_Mo_here T) ⟨by decide, by decide, by rfl⟩ (rv_Mo hK hw rfl) rfl (Nat.le_of_ble_eq_true rfl) ⟨by decide, by decide⟩ ⟨by decide, by decide⟩ d_Mo_readRest_10 (fun v M25 r25 H locs hw hp => ?_) (fun x ek M25 r25 H locs hw hE hp => gr_t B hexc hw hE (by decide) (by decide) (hF.trans (bnd_ex hp)))
      obtain ⟨v25, rfl, hp⟩ := hp
      have hF := hF.trans (bnd_ok hp)
      refine lv_istore hx hb d_Mo_readRest_13 hl (by decide) rfl (fun ls hl => ?_)
      refine lv_iload hx hb d_Mo_readRest_15 (lv_at hl 0 rfl) ?_
      refine lv_bipush (v := 62) hx hb d_Mo_readRest_17 (by decide) ?_
      refine lv_icmp_eq hx hb d_Mo_readRest_19 rfl (fun h26 => ?_) (fun h26 => ?_)
      · skip
        have hF := hF.trans (if_pos h26)
        refine lv_aload_n hx hb d_Mo_readRest_29 rfl (lv_at hl 2 rfl) ?_
        refine lv_dup hx hb d_Mo_readRest_30 rfl ?_
        refine gf_Mo_at hx hb T hown hK hw rfl (kf_Mo_81 T) d_Mo_readRest_31 ?_
        refine lv_iconst (v := 1) hx hb d_Mo_readRest_34 (by decide) ?_
        refine lv_iadd hx hb d_Mo_readRest_35 ?_
        refine pf_Mo_at hx hb T hown hK hw rfl (kf_Mo_81 T) d_Mo_readRest_36 (fun H locs hw => ?_)
        refine lv_iload hx hb d_Mo_readRest_39 (lv_at hl 0 rfl) ?_
        refine lv_bipush (v := 62) hx hb d_Mo_readRest_41 (by decide) ?_
        refine lv_icmp_ne hx hb d_Mo_readRest_43 rfl (fun h27 => ?_) (fun h27 => ?_)
        · skip
          have hF := hF.trans (if_neg h27)
          refine lv_aload_n hx hb d_Mo_readRest_50 rfl (lv_at hl 2 rfl) ?_
          refine lv_bipush (v := 62) hx hb d_Mo_readRest_51 (by decide) ?_
          refine gy_V B hl.1 hw (t_Mo_over G _ _ ow fu 62 (nn hno hF)) (kd_Mo_over T) (ki_Mo T) (km_Mo_95 T) (ka_Mo_over T) (ks_Mo_over T) ⟨by decide, by decide, by rfl⟩ (rv_Mo hK hw rfl) rfl (Nat.le_of_ble_eq_true rfl) ⟨by decide, by decide⟩ ⟨by decide, by decide⟩ d_Mo_readRest_53 (fun v M28 r28 H locs hw hp => ?_) (fun x ek M28 r28 H locs hw hE hp => gr_t B hexc hw hE (by decide) (by decide) (hF.trans (bnd_ex hp)))
          obtain ⟨v28, rfl, hp⟩ := hp
          have hF := hF.trans (bnd_ok hp)
          refine lv_if_eq hx hb d_Mo_readRest_56 rfl (fun h29 => ?_) (fun h29 => ?_)
          · skip
            have hF := hF.trans (if_pos h29)
            refine lv_iconst (v := 0) hx hb d_Mo_readRest_63 (by decide) ?_
            exact gr_i B hw d_Mo_readRest_64 ⟨_, rfl, hF⟩
          · skip
            have hF := hF.trans (if_neg h29)
            refine lv_iconst (v := 2) hx hb d_Mo_readRest_59 (by decide) ?_
            refine lv_goto hx hb d_Mo_readRest_60 rfl ?_
            exact gr_i B hw d_Mo_readRest_64 ⟨_, rfl, hF⟩
        · skip
          have hF := hF.trans (if_pos h27)
          refine lv_iconst (v := 1) hx hb d_Mo_readRest_46 (by decide) ?_
          refine lv_goto hx hb d_Mo_readRest_47 rfl ?_
          exact gr_i B hw d_Mo_readRest_64 ⟨_, rfl, hF⟩
      · skip
        have hF := hF.trans (if_neg h26)
        refine lv_iload hx hb d_Mo_readRest_22 (lv_at hl 0 rfl) ?_
        refine lv_bipush (v := 47) hx hb d_Mo_readRest_24 (by decide) ?_
        refine lv_icmp_ne hx hb d_Mo_readRest_26 rfl (fun h30 => ?_) (fun h30 => ?_)
        · skip
          have hF := hF.trans (if_neg h30)
          refine lv_iload_n hx hb d_Mo_readRest_65 rfl (lv_at hl 1 rfl) ?_
          refine lv_if_eq hx hb d_Mo_readRest_66 rfl (fun h31 => ?_) (fun h31 => ?_)
          · skip
            have hF := hF.trans (if_pos h31)
            refine lv_aload_n hx hb d_Mo_readRest_78 rfl (lv_at hl 2 rfl) ?_
            refine lv_iconst (v := 1) hx hb d_Mo_readRest_79 (by decide) ?_
            refine lv_aload_n hx hb d_Mo_readRest_80 rfl (lv_at hl 2 rfl) ?_
            refine gf_Mo_at hx hb T hown hK hw rfl (kf_Mo_81 T) d_Mo_readRest_81 ?_
            refine gy_V B hl.1 hw (t_Mo_fail G _ _ ow fu 1 (M25 103 0) (nn hno hF)) (kd_Mo_fail T) (ki_Mo T) (km_Mo_88 T) (ka_Mo_fail T) (ks_Mo_fail T) ⟨by decide, by decide, by rfl⟩ (rv_Mo hK hw rfl) rfl (Nat.le_of_ble_eq_true rfl) ⟨by decide, by decide⟩ ⟨by decide, by decide⟩ d_Mo_readRest_84 (fun v M32 r32 H locs hw hp => ?_) (fun x ek M32 r32 H locs hw hE hp => gr_t B hexc hw hE (by decide) (by decide) (hF.trans (bnd_ex hp)))
            obtain ⟨v32, rfl, hp⟩ := hp
            have hF := hF.trans (bnd_ok hp)
            refine lv_if_eq hx hb d_Mo_readRest_87 rfl (fun h33 => ?_) (fun h33 => ?_)
            · skip
              have hF := hF.trans (if_pos h33)
              refine lv_iconst (v := 0) hx hb d_Mo_readRest_94 (by decide) ?_
              exact gr_i B hw d_Mo_readRest_95 ⟨_, rfl, hF⟩
            · skip
              have hF := hF.trans (if_neg h33)
              refine lv_iconst (v := 1) hx hb d_Mo_readRest_90 (by decide) ?_
              refine lv_goto hx hb d_Mo_readRest_91 rfl ?_
              exact gr_i B hw d_Mo_readRest_95 ⟨_, rfl, hF⟩
          · skip
            have hF := hF.trans (if_neg h31)
            refine lv_aload_n hx hb d_Mo_readRest_69 rfl (lv_at hl 2 rfl) ?_
            refine lv_iload hx hb d_Mo_readRest_70 (lv_at hl 0 rfl) ?_
            refine gy_V B hl.1 hw (t_Mo_starts G _ _ ow fu v25 (nn hno hF)) (kd_Mo_starts T) (ki_Mo T) (km_Mo_68 T) (ka_Mo_starts T) (ks_Mo_starts T) ⟨by decide, by decide, by rfl⟩ (rv_Mo hK hw rfl) rfl (Nat.le_of_ble_eq_true rfl) ⟨by decide, by decide⟩ ⟨by decide, by decide⟩ d_Mo_readRest_72 (fun v M34 r34 H locs hw hp => ?_) (fun x ek M34 r34 H locs hw hE hp => gr_t B hexc hw hE (by decide) (by decide) (hF.trans (bnd_ex hp)))
            obtain ⟨v34, rfl, hp⟩ := hp
            have hF := hF.trans (bnd_ok hp)
            refine lv_if_ne hx hb d_Mo_readRest_75 rfl (fun h35 => ?_) (fun h35 => ?_)
            · skip
              have hF := hF.trans (if_neg h35)
              refine lv_aload_n hx hb d_Mo_readRest_96 rfl (lv_at hl 2 rfl) ?_
              refine gf_Mo_counts hx hb T hown hK hw rfl (kf_Mo_35 T) d_Mo_readRest_97 ?_
              refine lv_iload_n hx hb d_Mo_readRest_100 rfl (lv_at hl 3 rfl) ?_
              have g36 := ng hno hF
              have hF := hF.trans (gd_yes g36)
              refine ga_Mo_counts hx hb hK hw rfl g36 d_Mo_readRest_101 ?_
              refine lv_bipush (v := 6) hx hb d_Mo_readRest_102 (by decide) ?_
              refine lv_icmp_ne hx hb d_Mo_readRest_104 rfl (fun h37 => ?_) (fun h37 => ?_)
              · skip
                have hF := hF.trans (if_neg h37)
                refine lv_aload_n hx hb d_Mo_readRest_122 rfl (lv_at hl 2 rfl) ?_
                refine lv_iload_n hx hb d_Mo_readRest_123 rfl (lv_at hl 3 rfl) ?_
                refine gy_V B hl.1 hw (t_Mo_readAttribute G _ _ ow fu x1 (nn hno hF)) (kd_Mo_readAttribute T) (ki_Mo T) (km_Mo_141 T) (ka_Mo_readAttribute T) (ks_Mo_readAttribute T) ⟨by decide, by decide, by rfl⟩ (rv_Mo hK hw rfl) rfl (Nat.le_of_ble_eq_true rfl) ⟨by decide, by decide⟩ ⟨by decide, by decide⟩ d_Mo_readRest_124 (fun v M38 r38 H locs hw hp => ?_) (fun x ek M38 r38 H locs hw hE hp => gr_t B hexc hw hE (by decide) (by decide) (hF.trans (bnd_ex hp)))
                obtain ⟨v38, rfl, hp⟩ := hp
                have hF := hF.trans (bnd_ok hp)
                refine lv_if_ne hx hb d_Mo_readRest_127 rfl (fun h39 => ?_) (fun h39 => ?_)
                · skip
                  have hF := hF.trans (if_neg h39)
                  refine lv_goto hx hb d_Mo_readRest_132 rfl ?_
                  exact ih  _ _ _ _ _ (gv_loc hl [2, 3, 4] rfl) hw hF
                · skip
                  have hF := hF.trans (if_pos h39)
                  refine lv_iconst (v := 0) hx hb d_Mo_readRest_130 (by decide) ?_
                  exact gr_i B hw d_Mo_readRest_131 ⟨_, rfl, hF⟩
              · skip
                have hF := hF.trans (if_pos h37)
                refine lv_aload_n hx hb d_Mo_readRest_107 rfl (lv_at hl 2 rfl) ?_
                refine lv_iconst (v := 4) hx hb d_Mo_readRest_108 (by decide) ?_
                refine lv_iload_n hx hb d_Mo_readRest_109 rfl (lv_at hl 4 rfl) ?_
                refine gy_V B hl.1 hw (t_Mo_fail G _ _ ow fu 4 x2 (nn hno hF)) (kd_Mo_fail T) (ki_Mo T) (km_Mo_88 T) (ka_Mo_fail T) (ks_Mo_fail T) ⟨by decide, by decide, by rfl⟩ (rv_Mo hK hw rfl) rfl (Nat.le_of_ble_eq_true rfl) ⟨by decide, by decide⟩ ⟨by decide, by decide⟩ d_Mo_readRest_110 (fun v M40 r40 H locs hw hp => ?_) (fun x ek M40 r40 H locs hw hE hp => gr_t B hexc hw hE (by decide) (by decide) (hF.trans (bnd_ex hp)))
                obtain ⟨v40, rfl, hp⟩ := hp
                have hF := hF.trans (bnd_ok hp)
                refine lv_if_eq hx hb d_Mo_readRest_113 rfl (fun h41 => ?_) (fun h41 => ?_)
                · skip
                  have hF := hF.trans (if_pos h41)
                  refine lv_iconst (v := 0) hx hb d_Mo_readRest_120 (by decide) ?_
                  exact gr_i B hw d_Mo_readRest_121 ⟨_, rfl, hF⟩
                · skip
                  have hF := hF.trans (if_neg h41)
                  refine lv_iconst (v := 1) hx hb d_Mo_readRest_116 (by decide) ?_
                  refine lv_goto hx hb d_Mo_readRest_117 rfl ?_
                  exact gr_i B hw d_Mo_readRest_121 ⟨_, rfl, hF⟩
            · skip
              have hF := hF.trans (if_pos h35)
              refine lv_aload_n hx hb d_Mo_readRest_78 rfl (lv_at hl 2 rfl) ?_
              refine lv_iconst (v := 1) hx hb d_Mo_readRest_79 (by decide) ?_
              refine lv_aload_n hx hb d_Mo_readRest_80 rfl (lv_at hl 2 rfl) ?_
              refine gf_Mo_at hx hb T hown hK hw rfl (kf_Mo_81 T) d_Mo_readRest_81 ?_
              refine gy_V B hl.1 hw (t_Mo_fail G _ _ ow fu 1 (M34 103 0) (nn hno hF)) (kd_Mo_fail T) (ki_Mo T) (km_Mo_88 T) (ka_Mo_fail T) (ks_Mo_fail T) ⟨by decide, by decide, by rfl⟩ (rv_Mo hK hw rfl) rfl (Nat.le_of_ble_eq_true rfl) ⟨by decide, by decide⟩ ⟨by decide, by decide⟩ d_Mo_readRest_84 (fun v M42 r42 H locs hw hp => ?_) (fun x ek M42 r42 H locs hw hE hp => gr_t B hexc hw hE (by decide) (by decide) (hF.trans (bnd_ex hp)))
              obtain ⟨v42, rfl, hp⟩ := hp
              have hF := hF.trans (bnd_ok hp)
              refine lv_if_eq hx hb d_Mo_readRest_87 rfl (fun h43 => ?_) (fun h43 => ?_)
              · skip
                have hF := hF.trans (if_pos h43)
                refine lv_iconst (v := 0) hx hb d_Mo_readRest_94 (by decide) ?_
                exact gr_i B hw d_Mo_readRest_95 ⟨_, rfl, hF⟩
              · skip
                have hF := hF.trans (if_neg h43)
                refine lv_iconst (v := 1) hx hb d_Mo_readRest_90 (by decide) ?_
                refine lv_goto hx hb d_Mo_readRest_91 rfl ?_
                exact gr_i B hw d_Mo_readRest_95 ⟨_, rfl, hF⟩
        · skip
          have hF := hF.trans (if_pos h30)
          refine lv_aload_n hx hb d_Mo_readRest_29 rfl (lv_at hl 2 rfl) ?_
          refine lv_dup hx hb d_Mo_readRest_30 rfl ?_
          refine gf_Mo_at hx hb T hown hK hw rfl (kf_Mo_81 T) d_Mo_readRest_31 ?_
          refine lv_iconst (v := 1) hx hb d_Mo_readRest_34 (by decide) ?_
          refine lv_iadd hx hb d_Mo_readRest_35 ?_
          refine pf_Mo_at hx hb T hown hK hw rfl (kf_Mo_81 T) d_Mo_readRest_36 (fun H locs hw => ?_)
          refine lv_iload hx hb d_Mo_readRest_39 (lv_at hl 0 rfl) ?_
          refine lv_bipush (v := 62) hx hb d_Mo_readRest_41 (by decide) ?_
          refine lv_icmp_ne hx hb d_Mo_readRest_43 rfl (fun h44 => ?_) (fun h44 => ?_)
          · skip
            have hF := hF.trans (if_neg h44)
            refine lv_aload_n hx hb d_Mo_readRest_50 rfl (lv_at hl 2 rfl) ?_
            refine lv_bipush (v := 62) hx hb d_Mo_readRest_51 (by decide) ?_
            refine gy_V B hl.1 hw (t_Mo_over G _ _ ow fu 62 (nn hno hF)) (kd_Mo_over T) (ki_Mo T) (km_Mo_95 T) (ka_Mo_over T) (ks_Mo_over T) ⟨by decide, by decide, by rfl⟩ (rv_Mo hK hw rfl) rfl (Nat.le_of_ble_eq_true rfl) ⟨by decide, by decide⟩ ⟨by decide, by decide⟩ d_Mo_readRest_53 (fun v M45 r45 H locs hw hp => ?_) (fun x ek M45 r45 H locs hw hE hp => gr_t B hexc hw hE (by decide) (by decide) (hF.trans (bnd_ex hp)))
            obtain ⟨v45, rfl, hp⟩ := hp
            have hF := hF.trans (bnd_ok hp)
            refine lv_if_eq hx hb d_Mo_readRest_56 rfl (fun h46 => ?_) (fun h46 => ?_)
            · skip
              have hF := hF.trans (if_pos h46)
              refine lv_iconst (v := 0) hx hb d_Mo_readRest_63 (by decide) ?_
              exact gr_i B hw d_Mo_readRest_64 ⟨_, rfl, hF⟩
            · skip
              have hF := hF.trans (if_neg h46)
              refine lv_iconst (v := 2) hx hb d_Mo_readRest_59 (by decide) ?_
              refine lv_goto hx hb d_Mo_readRest_60 rfl ?_
              exact gr_i B hw d_Mo_readRest_64 ⟨_, rfl, hF⟩
          · skip
            have hF := hF.trans (if_pos h44)
            refine lv_iconst (v := 1) hx hb d_Mo_readRest_46 (by decide) ?_
            refine lv_goto hx hb d_Mo_readRest_47 rfl ?_
            exact gr_i B hw d_Mo_readRest_64 ⟨_, rfl, hF⟩
  have hF := F_Mo_readRest.eq_1 fu x1 x2 M r
  exact L0 fu  _ _ _ _ _ (gv_loc hl [0, 1, 2] rfl) hw hF
theorem d_Mo_compare_0 : decode b_Mo_compare 0 = .ok (.iconst 0, 1) := by decide +kernel
theorem d_Mo_compare_1 : decode b_Mo_compare 1 = .ok (.istore 5, 2) := by decide +kernel
theorem d_Mo_compare_3 : decode b_Mo_compare 3 = .ok (.iload 5, 2) := by decide +kernel
theorem d_Mo_compare_5 : decode b_Mo_compare 5 = .ok (.iload_n 2, 1) := by decide +kernel
theorem d_Mo_compare_6 : decode b_Mo_compare 6 = .ok (.if_icmp .ge 64, 3) := by decide +kernel
theorem d_Mo_compare_9 : decode b_Mo_compare 9 = .ok (.iload 5, 2) := by decide +kernel
theorem d_Mo_compare_11 : decode b_Mo_compare 11 = .ok (.iload 4, 2) := by decide +kernel
theorem d_Mo_compare_13 : decode b_Mo_compare 13 = .ok (.if_icmp .ge 57, 3) := by decide +kernel
theorem d_Mo_compare_16 : decode b_Mo_compare 16 = .ok (.aload_n 0, 1) := by decide +kernel
theorem d_Mo_compare_17 : decode b_Mo_compare 17 = .ok (.getfield 17, 3) := by decide +kernel
theorem d_Mo_compare_20 : decode b_Mo_compare 20 = .ok (.iload_n 1, 1) := by decide +kernel
theorem d_Mo_compare_21 : decode b_Mo_compare 21 = .ok (.iload 5, 2) := by decide +kernel
theorem d_Mo_compare_23 : decode b_Mo_compare 23 = .ok (.iadd, 1) := by decide +kernel
theorem d_Mo_compare_24 : decode b_Mo_compare 24 = .ok (.iaload, 1) := by decide +kernel
theorem d_Mo_compare_25 : decode b_Mo_compare 25 = .ok (.aload_n 0, 1) := by decide +kernel
theorem d_Mo_compare_26 : decode b_Mo_compare 26 = .ok (.getfield 17, 3) := by decide +kernel
theorem d_Mo_compare_29 : decode b_Mo_compare 29 = .ok (.iload_n 3, 1) := by decide +kernel
theorem d_Mo_compare_30 : decode b_Mo_compare 30 = .ok (.iload 5, 2) := by decide +kernel
theorem d_Mo_compare_32 : decode b_Mo_compare 32 = .ok (.iadd, 1) := by decide +kernel
theorem d_Mo_compare_33 : decode b_Mo_compare 33 = .ok (.iaload, 1) := by decide +kernel
theorem d_Mo_compare_34 : decode b_Mo_compare 34 = .ok (.if_icmp .eq 30, 3) := by decide +kernel
theorem d_Mo_compare_37 : decode b_Mo_compare 37 = .ok (.aload_n 0, 1) := by decide +kernel
theorem d_Mo_compare_38 : decode b_Mo_compare 38 = .ok (.getfield 17, 3) := by decide +kernel
theorem d_Mo_compare_41 : decode b_Mo_compare 41 = .ok (.iload_n 1, 1) := by decide +kernel
theorem d_Mo_compare_42 : decode b_Mo_compare 42 = .ok (.iload 5, 2) := by decide +kernel
theorem d_Mo_compare_44 : decode b_Mo_compare 44 = .ok (.iadd, 1) := by decide +kernel
theorem d_Mo_compare_45 : decode b_Mo_compare 45 = .ok (.iaload, 1) := by decide +kernel
theorem d_Mo_compare_46 : decode b_Mo_compare 46 = .ok (.aload_n 0, 1) := by decide +kernel
theorem d_Mo_compare_47 : decode b_Mo_compare 47 = .ok (.getfield 17, 3) := by decide +kernel
theorem d_Mo_compare_50 : decode b_Mo_compare 50 = .ok (.iload_n 3, 1) := by decide +kernel
theorem d_Mo_compare_51 : decode b_Mo_compare 51 = .ok (.iload 5, 2) := by decide +kernel
theorem d_Mo_compare_53 : decode b_Mo_compare 53 = .ok (.iadd, 1) := by decide +kernel
theorem d_Mo_compare_54 : decode b_Mo_compare 54 = .ok (.iaload, 1) := by decide +kernel
theorem d_Mo_compare_55 : decode b_Mo_compare 55 = .ok (.if_icmp .ge 7, 3) := by decide +kernel
theorem d_Mo_compare_58 : decode b_Mo_compare 58 = .ok (.iconst (-1), 1) := by decide +kernel
theorem d_Mo_compare_59 : decode b_Mo_compare 59 = .ok (.goto 4, 3) := by decide +kernel
theorem d_Mo_compare_62 : decode b_Mo_compare 62 = .ok (.iconst 1, 1) := by decide +kernel
theorem d_Mo_compare_63 : decode b_Mo_compare 63 = .ok (.ireturn, 1) := by decide +kernel
theorem d_Mo_compare_64 : decode b_Mo_compare 64 = .ok (.iinc 5 1, 3) := by decide +kernel
theorem d_Mo_compare_67 : decode b_Mo_compare 67 = .ok (.goto (-64), 3) := by decide +kernel
theorem d_Mo_compare_70 : decode b_Mo_compare 70 = .ok (.iload_n 2, 1) := by decide +kernel
theorem d_Mo_compare_71 : decode b_Mo_compare 71 = .ok (.iload 4, 2) := by decide +kernel
theorem d_Mo_compare_73 : decode b_Mo_compare 73 = .ok (.if_icmp .ge 7, 3) := by decide +kernel
theorem d_Mo_compare_76 : decode b_Mo_compare 76 = .ok (.iconst (-1), 1) := by decide +kernel
theorem d_Mo_compare_77 : decode b_Mo_compare 77 = .ok (.goto 14, 3) := by decide +kernel
theorem d_Mo_compare_80 : decode b_Mo_compare 80 = .ok (.iload_n 2, 1) := by decide +kernel
theorem d_Mo_compare_81 : decode b_Mo_compare 81 = .ok (.iload 4, 2) := by decide +kernel
theorem d_Mo_compare_83 : decode b_Mo_compare 83 = .ok (.if_icmp .le 7, 3) := by decide +kernel
theorem d_Mo_compare_86 : decode b_Mo_compare 86 = .ok (.iconst 1, 1) := by decide +kernel
theorem d_Mo_compare_87 : decode b_Mo_compare 87 = .ok (.goto 4, 3) := by decide +kernel
theorem d_Mo_compare_90 : decode b_Mo_compare 90 = .ok (.iconst 0, 1) := by decide +kernel
theorem d_Mo_compare_91 : decode b_Mo_compare 91 = .ok (.ireturn, 1) := by decide +kernel
set_option maxHeartbeats 4000000 in
set_option maxRecDepth 100000 in
theorem t_Mo_compare {l : Launch} {s0 : State} {D : va_G} {aC : Nat → ClassId} {a0 : Array Value} (G : gG l s0 D aC a0) (M : gMem) (r : gRef) (ow : Int64) (fu : Nat) (x1 : Int32) (x2 : Int32) (x3 : Int32) (x4 : Int32)  (hno : F_Mo_compare fu x1 x2 x3 x4 M r ≠ .no) : gMet l s0 D aC y_Mo_compare (Cond.code y_Mo_compare b_Mo_compare 6 (some .int)) 0 0 0 0 [.ref (s0.heap.size + 383), .int x1, .int x2, .int x3, .int x4] M r ow (qI (F_Mo_compare fu x1 x2 x3 x4 M r)) (qT (F_Mo_compare fu x1 x2 x3 x4 M r)) := by
  refine gm_of G (by decide) (Nat.le_of_ble_eq_true rfl) ?_
  intro p e s m below meth c ls B hexc hl hw
  have hx := B.1
  have hb := B.2.1
  have hown := B.2.2.2.2.2.1
  have T := B.2.2.2.2.2.2.1
  have hK := B.2.2.2.2.2.2.2.1
  have X70 : ∀ (M1 : gMem) (r1 : gRef) (H : Heap) (locs : List Loc) (ls : Array Slot), lv_has ls 6 [(2, .int x2), (4, .int x4)] → gWd s0 D aC M1 r1 ow H locs → F_Mo_compare fu x1 x2 x3 x4 M r = F_Mo_compare_B70 fu x1 x2 x3 x4 M1 r1 → W p l e (gRm 0 0 0 0) s m ([.ref (s0.heap.size + 383), .int x1, .int x2, .int x3, .int x4] : List Value).toArray below meth c H locs 0 0 (gt_Q below (gQ s0 D aC ow (qI (F_Mo_compare fu x1 x2 x3 x4 M r)) (qT (F_Mo_compare fu x1 x2 x3 x4 M r))) s 0 0 0 0 (fun q => s0.heap.size ≤ q)) (F0 m 70 ls []) := by
    intro  M1 r1 H locs ls hl hw hF
    have hF := hF.trans (F_Mo_compare_B70.eq_1 _ _ _ _ _ _ _)
    refine lv_iload_n hx hb d_Mo_compare_70 rfl (lv_at hl 0 rfl) ?_
    refine lv_iload hx hb d_Mo_compare_71 (lv_at hl 1 rfl) ?_
    refine lv_icmp_ge hx hb d_Mo_compare_73 rfl (fun h11 => ?_) (fun h11 => ?_)
    · skip
      have hF := hF.trans (if_pos h11)
      refine lv_iload_n hx hb d_Mo_compare_80 rfl (lv_at hl 0 rfl) ?_
      refine lv_iload hx hb d_Mo_compare_81 (lv_at hl 1 rfl) ?_
      refine lv_icmp_le hx hb d_Mo_compare_83 rfl (fun h12 => ?_) (fun h12 => ?_)
      · skip
        have hF := hF.trans (if_pos h12)
        refine lv_iconst (v := 0) hx hb d_Mo_compare_90 (by decide) ?_
        exact gr_i B hw d_Mo_compare_91 ⟨_, rfl, hF⟩
      · skip
        have hF := hF.trans (if_neg h12)
        refine lv_iconst (v := 1) hx hb d_Mo_compare_86 (by decide) ?_
        refine lv_goto hx hb d_Mo_compare_87 rfl ?_
        exact gr_i B hw d_Mo_compare_91 ⟨_, rfl, hF⟩
    · skip
      have hF := hF.trans (if_neg h11)
      refine lv_iconst (v := -1) hx hb d_Mo_compare_76 (by decide) ?_
      refine lv_goto hx hb d_Mo_compare_77 rfl ?_
      exact gr_i B hw d_Mo_compare_91 ⟨_, rfl, hF⟩
  have L3 : ∀ (d : Nat) (x5 : Int32) (M1 : gMem) (r1 : gRef) (H : Heap) (locs : List Loc) (ls : Array Slot), lv_has ls 6 [(5, .int x5), (0, .ref (s0.heap.size + 383)), (1, .int x1), (2, .int x2), (3, .int x3), (4, .int x4)] → gWd s0 D aC M1 r1 ow H locs → F_Mo_compare fu x1 x2 x3 x4 M r = F_Mo_compare_L3 fu x1 x2 x3 x4 d x5 M1 r1 → W p l e (gRm 0 0 0 0) s m ([.ref (s0.heap.size + 383), .int x1, .int x2, .int x3, .int x4] : List Value).toArray below meth c H locs 0 0 (gt_Q below (gQ s0 D aC ow (qI (F_Mo_compare fu x1 x2 x3 x4 M r)) (qT (F_Mo_compare fu x1 x2 x3 x4 M r))) s 0 0 0 0 (fun q => s0.heap.size ≤ q)) (F0 m 3 ls []) := by
    intro d
    induction d with
    | zero => intro x5 M1 r1 H locs ls hl hw hF; exact absurd hF hno
    | succ d ih =>
      intro x5 M1 r1 H locs ls hl hw hF
      have hF := hF.trans (F_Mo_compare_L3.eq_2 _ _ _ _ _ _ _ _ _)
      refine lv_iload hx hb d_Mo_compare_3 (lv_at hl 0 rfl) ?_
      refine lv_iload_n hx hb d_Mo_compare_5 rfl (lv_at hl 3 rfl) ?_
      refine lv_icmp_ge hx hb d_Mo_compare_6 rfl (fun h13 => ?_) (fun h13 => ?_)
      · skip
        have hF := hF.trans (if_pos h13)
        exact X70  _ _ _ _ _ (gv_loc hl [3, 5] rfl) hw hF
      · skip
        have hF := hF.trans (if_neg h13)
        refine lv_iload hx hb d_Mo_compare_9 (lv_at hl 0 rfl) ?_
        refine lv_iload hx hb d_Mo_compare_11 (lv_at hl 5 rfl) ?_
        refine lv_icmp_ge hx hb d_Mo_compare_13 rfl (fun h14 => ?_) (fun h14 => ?_)
        · skip
          have hF := hF.trans (if_pos h14)
          exact X70  _ _ _ _ _ (gv_loc hl [3, 5] rfl) hw hF
        · skip
          have hF := hF.trans (if_neg h14)
          refine lv_aload_n hx hb d_Mo_compare_16 rfl (lv_at hl 1 rfl) ?_
          refine gf_Mo_pool hx hb T hown hK hw rfl (kf_Mo_17 T) d_Mo_compare_17 ?_
          refine lv_iload_n hx hb d_Mo_compare_20 rfl (lv_at hl 2 rfl) ?_
          refine lv_iload hx hb d_Mo_compare_21 (lv_at hl 0 rfl) ?_
          refine lv_iadd hx hb d_Mo_compare_23 ?_
          have g15 := ng hno hF
          have hF := hF.trans (gd_yes g15)
          refine ga_Mo_pool hx hb hK hw rfl g15 d_Mo_compare_24 ?_
          refine lv_aload_n hx hb d_Mo_compare_25 rfl (lv_at hl 1 rfl) ?_
          refine gf_Mo_pool hx hb T hown hK hw rfl (kf_Mo_17 T) d_Mo_compare_26 ?_
          refine lv_iload_n hx hb d_Mo_compare_29 rfl (lv_at hl 4 rfl) ?_
          refine lv_iload hx hb d_Mo_compare_30 (lv_at hl 0 rfl) ?_
          refine lv_iadd hx hb d_Mo_compare_32 ?_
          have g16 := ng hno hF
          have hF := hF.trans (gd_yes g16)
          refine ga_Mo_pool hx hb hK hw rfl g16 d_Mo_compare_33 ?_
          refine lv_icmp_eq hx hb d_Mo_compare_34 rfl (fun h17 => ?_) (fun h17 => ?_)
          · skip
            have hF := hF.trans (if_pos h17)
            refine lv_iinc (k := 0) hx hb d_Mo_compare_64 hl rfl (show _ + Int32.ofInt 1 = _ + 1 from rfl) (by decide) rfl (fun ls hl => ?_)
            refine lv_goto hx hb d_Mo_compare_67 rfl ?_
            exact ih (x5 + 1) _ _ _ _ _ (gv_loc hl [0, 1, 2, 3, 4, 5] rfl) hw hF
          · skip
            have hF := hF.trans (if_neg h17)
            refine lv_aload_n hx hb d_Mo_compare_37 rfl (lv_at hl 1 rfl) ?_
            refine gf_Mo_pool hx hb T hown hK hw rfl (kf_Mo_17 T) d_Mo_compare_38 ?_
            refine lv_iload_n hx hb d_Mo_compare_41 rfl (lv_at hl 2 rfl) ?_
            refine lv_iload hx hb d_Mo_compare_42 (lv_at hl 0 rfl) ?_
            refine lv_iadd hx hb d_Mo_compare_44 ?_
            have g18 := ng hno hF
            have hF := hF.trans (gd_yes g18)
            refine ga_Mo_pool hx hb hK hw rfl g18 d_Mo_compare_45 ?_
            refine lv_aload_n hx hb d_Mo_compare_46 rfl (lv_at hl 1 rfl) ?_
            refine gf_Mo_pool hx hb T hown hK hw rfl (kf_Mo_17 T) d_Mo_compare_47 ?_
            refine lv_iload_n hx hb d_Mo_compare_50 rfl (lv_at hl 4 rfl) ?_
            refine lv_iload hx hb d_Mo_compare_51 (lv_at hl 0 rfl) ?_
            refine lv_iadd hx hb d_Mo_compare_53 ?_
            have g19 := ng hno hF
            have hF := hF.trans (gd_yes g19)
            refine ga_Mo_pool hx hb hK hw rfl g19 d_Mo_compare_54 ?_
            refine lv_icmp_ge hx hb d_Mo_compare_55 rfl (fun h20 => ?_) (fun h20 => ?_)
            · skip
              have hF := hF.trans (if_pos h20)
              refine lv_iconst (v := 1) hx hb d_Mo_compare_62 (by decide) ?_
              exact gr_i B hw d_Mo_compare_63 ⟨_, rfl, hF⟩
            · skip
              have hF := hF.trans (if_neg h20)
              refine lv_iconst (v := -1) hx hb d_Mo_compare_58 (by decide) ?_
              refine lv_goto hx hb d_Mo_compare_59 rfl ?_
              exact gr_i B hw d_Mo_compare_63 ⟨_, rfl, hF⟩
  have hF := F_Mo_compare.eq_1 fu x1 x2 x3 x4 M r
  refine lv_iconst (v := 0) hx hb d_Mo_compare_0 (by decide) ?_
  refine lv_istore hx hb d_Mo_compare_1 hl (by decide) rfl (fun ls hl => ?_)
  exact L3 fu 0 _ _ _ _ _ (gv_loc hl [0, 1, 2, 3, 4, 5] rfl) hw hF
theorem d_Mo_localSize_0 : decode b_Mo_localSize 0 = .ok (.aload_n 0, 1) := by decide +kernel
theorem d_Mo_localSize_1 : decode b_Mo_localSize 1 = .ok (.getfield 41, 3) := by decide +kernel
theorem d_Mo_localSize_4 : decode b_Mo_localSize 4 = .ok (.iload_n 1, 1) := by decide +kernel
theorem d_Mo_localSize_5 : decode b_Mo_localSize 5 = .ok (.iaload, 1) := by decide +kernel
theorem d_Mo_localSize_6 : decode b_Mo_localSize 6 = .ok (.aload_n 0, 1) := by decide +kernel
theorem d_Mo_localSize_7 : decode b_Mo_localSize 7 = .ok (.getfield 44, 3) := by decide +kernel
theorem d_Mo_localSize_10 : decode b_Mo_localSize 10 = .ok (.iload_n 1, 1) := by decide +kernel
theorem d_Mo_localSize_11 : decode b_Mo_localSize 11 = .ok (.iaload, 1) := by decide +kernel
theorem d_Mo_localSize_12 : decode b_Mo_localSize 12 = .ok (.isub, 1) := by decide +kernel
theorem d_Mo_localSize_13 : decode b_Mo_localSize 13 = .ok (.iconst 1, 1) := by decide +kernel
theorem d_Mo_localSize_14 : decode b_Mo_localSize 14 = .ok (.isub, 1) := by decide +kernel
theorem d_Mo_localSize_15 : decode b_Mo_localSize 15 = .ok (.ireturn, 1) := by decide +kernel
set_option maxHeartbeats 4000000 in
set_option maxRecDepth 100000 in
theorem t_Mo_localSize {l : Launch} {s0 : State} {D : va_G} {aC : Nat → ClassId} {a0 : Array Value} (G : gG l s0 D aC a0) (M : gMem) (r : gRef) (ow : Int64) (fu : Nat) (x1 : Int32)  (hno : F_Mo_localSize fu x1 M r ≠ .no) : gMet l s0 D aC y_Mo_localSize (Cond.code y_Mo_localSize b_Mo_localSize 2 (some .int)) 0 0 0 0 [.ref (s0.heap.size + 383), .int x1] M r ow (qI (F_Mo_localSize fu x1 M r)) (qT (F_Mo_localSize fu x1 M r)) := by
  refine gm_of G (by decide) (Nat.le_of_ble_eq_true rfl) ?_
  intro p e s m below meth c ls B hexc hl hw
  have hx := B.1
  have hb := B.2.1
  have hown := B.2.2.2.2.2.1
  have T := B.2.2.2.2.2.2.1
  have hK := B.2.2.2.2.2.2.2.1
  have hF := F_Mo_localSize.eq_1 fu x1 M r
  refine lv_aload_n hx hb d_Mo_localSize_0 rfl (lv_at hl 0 rfl) ?_
  refine gf_Mo_size hx hb T hown hK hw rfl (kf_Mo_41 T) d_Mo_localSize_1 ?_
  refine lv_iload_n hx hb d_Mo_localSize_4 rfl (lv_at hl 1 rfl) ?_
  have g3 := ng hno hF
  have hF := hF.trans (gd_yes g3)
  refine ga_Mo_size hx hb hK hw rfl g3 d_Mo_localSize_5 ?_
  refine lv_aload_n hx hb d_Mo_localSize_6 rfl (lv_at hl 0 rfl) ?_
  refine gf_Mo_colon hx hb T hown hK hw rfl (kf_Mo_44 T) d_Mo_localSize_7 ?_
  refine lv_iload_n hx hb d_Mo_localSize_10 rfl (lv_at hl 1 rfl) ?_
  have g4 := ng hno hF
  have hF := hF.trans (gd_yes g4)
  refine ga_Mo_colon hx hb hK hw rfl g4 d_Mo_localSize_11 ?_
  refine lv_isub hx hb d_Mo_localSize_12 ?_
  refine lv_iconst (v := 1) hx hb d_Mo_localSize_13 (by decide) ?_
  refine lv_isub hx hb d_Mo_localSize_14 ?_
  exact gr_i B hw d_Mo_localSize_15 ⟨_, rfl, hF⟩
theorem d_Mo_local_0 : decode b_Mo_local 0 = .ok (.aload_n 0, 1) := by decide +kernel
theorem d_Mo_local_1 : decode b_Mo_local 1 = .ok (.getfield 38, 3) := by decide +kernel
theorem d_Mo_local_4 : decode b_Mo_local 4 = .ok (.iload_n 1, 1) := by decide +kernel
theorem d_Mo_local_5 : decode b_Mo_local 5 = .ok (.iaload, 1) := by decide +kernel
theorem d_Mo_local_6 : decode b_Mo_local 6 = .ok (.aload_n 0, 1) := by decide +kernel
theorem d_Mo_local_7 : decode b_Mo_local 7 = .ok (.getfield 44, 3) := by decide +kernel
theorem d_Mo_local_10 : decode b_Mo_local 10 = .ok (.iload_n 1, 1) := by decide +kernel
theorem d_Mo_local_11 : decode b_Mo_local 11 = .ok (.iaload, 1) := by decide +kernel
theorem d_Mo_local_12 : decode b_Mo_local 12 = .ok (.iadd, 1) := by decide +kernel
theorem d_Mo_local_13 : decode b_Mo_local 13 = .ok (.iconst 1, 1) := by decide +kernel
theorem d_Mo_local_14 : decode b_Mo_local 14 = .ok (.iadd, 1) := by decide +kernel
theorem d_Mo_local_15 : decode b_Mo_local 15 = .ok (.ireturn, 1) := by decide +kernel
set_option maxHeartbeats 4000000 in
set_option maxRecDepth 100000 in
theorem t_Mo_local {l : Launch} {s0 : State} {D : va_G} {aC : Nat → ClassId} {a0 : Array Value} (G : gG l s0 D aC a0) (M : gMem) (r : gRef) (ow : Int64) (fu : Nat) (x1 : Int32)  (hno : F_Mo_local fu x1 M r ≠ .no) : gMet l s0 D aC y_Mo_local (Cond.code y_Mo_local b_Mo_local 2 (some .int)) 0 0 0 0 [.ref (s0.heap.size + 383), .int x1] M r ow (qI (F_Mo_local fu x1 M r)) (qT (F_Mo_local fu x1 M r)) := by
  refine gm_of G (by decide) (Nat.le_of_ble_eq_true rfl) ?_
  intro p e s m below meth c ls B hexc hl hw
  have hx := B.1
  have hb := B.2.1
  have hown := B.2.2.2.2.2.1
  have T := B.2.2.2.2.2.2.1
  have hK := B.2.2.2.2.2.2.2.1
  have hF := F_Mo_local.eq_1 fu x1 M r
  refine lv_aload_n hx hb d_Mo_local_0 rfl (lv_at hl 0 rfl) ?_
  refine gf_Mo_from hx hb T hown hK hw rfl (kf_Mo_38 T) d_Mo_local_1 ?_
  refine lv_iload_n hx hb d_Mo_local_4 rfl (lv_at hl 1 rfl) ?_
  have g3 := ng hno hF
  have hF := hF.trans (gd_yes g3)
  refine ga_Mo_from hx hb hK hw rfl g3 d_Mo_local_5 ?_
  refine lv_aload_n hx hb d_Mo_local_6 rfl (lv_at hl 0 rfl) ?_
  refine gf_Mo_colon hx hb T hown hK hw rfl (kf_Mo_44 T) d_Mo_local_7 ?_
  refine lv_iload_n hx hb d_Mo_local_10 rfl (lv_at hl 1 rfl) ?_
  have g4 := ng hno hF
  have hF := hF.trans (gd_yes g4)
  refine ga_Mo_colon hx hb hK hw rfl g4 d_Mo_local_11 ?_
  refine lv_iadd hx hb d_Mo_local_12 ?_
  refine lv_iconst (v := 1) hx hb d_Mo_local_13 (by decide) ?_
  refine lv_iadd hx hb d_Mo_local_14 ?_
  exact gr_i B hw d_Mo_local_15 ⟨_, rfl, hF⟩
theorem d_Mo_isXmlns_0 : decode b_Mo_isXmlns 0 = .ok (.iload_n 2, 1) := by decide +kernel
theorem d_Mo_isXmlns_1 : decode b_Mo_isXmlns 1 = .ok (.iconst 5, 1) := by decide +kernel
theorem d_Mo_isXmlns_2 : decode b_Mo_isXmlns 2 = .ok (.if_icmp .ne 70, 3) := by decide +kernel
theorem d_Mo_isXmlns_5 : decode b_Mo_isXmlns 5 = .ok (.aload_n 0, 1) := by decide +kernel
theorem d_Mo_isXmlns_6 : decode b_Mo_isXmlns 6 = .ok (.getfield 17, 3) := by decide +kernel
theorem d_Mo_isXmlns_9 : decode b_Mo_isXmlns 9 = .ok (.iload_n 1, 1) := by decide +kernel
theorem d_Mo_isXmlns_10 : decode b_Mo_isXmlns 10 = .ok (.iaload, 1) := by decide +kernel
theorem d_Mo_isXmlns_11 : decode b_Mo_isXmlns 11 = .ok (.bipush 120, 2) := by decide +kernel
theorem d_Mo_isXmlns_13 : decode b_Mo_isXmlns 13 = .ok (.if_icmp .ne 59, 3) := by decide +kernel
theorem d_Mo_isXmlns_16 : decode b_Mo_isXmlns 16 = .ok (.aload_n 0, 1) := by decide +kernel
theorem d_Mo_isXmlns_17 : decode b_Mo_isXmlns 17 = .ok (.getfield 17, 3) := by decide +kernel
theorem d_Mo_isXmlns_20 : decode b_Mo_isXmlns 20 = .ok (.iload_n 1, 1) := by decide +kernel
theorem d_Mo_isXmlns_21 : decode b_Mo_isXmlns 21 = .ok (.iconst 1, 1) := by decide +kernel
theorem d_Mo_isXmlns_22 : decode b_Mo_isXmlns 22 = .ok (.iadd, 1) := by decide +kernel
theorem d_Mo_isXmlns_23 : decode b_Mo_isXmlns 23 = .ok (.iaload, 1) := by decide +kernel
theorem d_Mo_isXmlns_24 : decode b_Mo_isXmlns 24 = .ok (.bipush 109, 2) := by decide +kernel
theorem d_Mo_isXmlns_26 : decode b_Mo_isXmlns 26 = .ok (.if_icmp .ne 46, 3) := by decide +kernel
theorem d_Mo_isXmlns_29 : decode b_Mo_isXmlns 29 = .ok (.aload_n 0, 1) := by decide +kernel
theorem d_Mo_isXmlns_30 : decode b_Mo_isXmlns 30 = .ok (.getfield 17, 3) := by decide +kernel
theorem d_Mo_isXmlns_33 : decode b_Mo_isXmlns 33 = .ok (.iload_n 1, 1) := by decide +kernel
theorem d_Mo_isXmlns_34 : decode b_Mo_isXmlns 34 = .ok (.iconst 2, 1) := by decide +kernel
theorem d_Mo_isXmlns_35 : decode b_Mo_isXmlns 35 = .ok (.iadd, 1) := by decide +kernel
theorem d_Mo_isXmlns_36 : decode b_Mo_isXmlns 36 = .ok (.iaload, 1) := by decide +kernel
theorem d_Mo_isXmlns_37 : decode b_Mo_isXmlns 37 = .ok (.bipush 108, 2) := by decide +kernel
theorem d_Mo_isXmlns_39 : decode b_Mo_isXmlns 39 = .ok (.if_icmp .ne 33, 3) := by decide +kernel
theorem d_Mo_isXmlns_42 : decode b_Mo_isXmlns 42 = .ok (.aload_n 0, 1) := by decide +kernel
theorem d_Mo_isXmlns_43 : decode b_Mo_isXmlns 43 = .ok (.getfield 17, 3) := by decide +kernel
theorem d_Mo_isXmlns_46 : decode b_Mo_isXmlns 46 = .ok (.iload_n 1, 1) := by decide +kernel
theorem d_Mo_isXmlns_47 : decode b_Mo_isXmlns 47 = .ok (.iconst 3, 1) := by decide +kernel
theorem d_Mo_isXmlns_48 : decode b_Mo_isXmlns 48 = .ok (.iadd, 1) := by decide +kernel
theorem d_Mo_isXmlns_49 : decode b_Mo_isXmlns 49 = .ok (.iaload, 1) := by decide +kernel
theorem d_Mo_isXmlns_50 : decode b_Mo_isXmlns 50 = .ok (.bipush 110, 2) := by decide +kernel
theorem d_Mo_isXmlns_52 : decode b_Mo_isXmlns 52 = .ok (.if_icmp .ne 20, 3) := by decide +kernel
theorem d_Mo_isXmlns_55 : decode b_Mo_isXmlns 55 = .ok (.aload_n 0, 1) := by decide +kernel
theorem d_Mo_isXmlns_56 : decode b_Mo_isXmlns 56 = .ok (.getfield 17, 3) := by decide +kernel
theorem d_Mo_isXmlns_59 : decode b_Mo_isXmlns 59 = .ok (.iload_n 1, 1) := by decide +kernel
theorem d_Mo_isXmlns_60 : decode b_Mo_isXmlns 60 = .ok (.iconst 4, 1) := by decide +kernel
theorem d_Mo_isXmlns_61 : decode b_Mo_isXmlns 61 = .ok (.iadd, 1) := by decide +kernel
theorem d_Mo_isXmlns_62 : decode b_Mo_isXmlns 62 = .ok (.iaload, 1) := by decide +kernel
theorem d_Mo_isXmlns_63 : decode b_Mo_isXmlns 63 = .ok (.bipush 115, 2) := by decide +kernel
theorem d_Mo_isXmlns_65 : decode b_Mo_isXmlns 65 = .ok (.if_icmp .ne 7, 3) := by decide +kernel
theorem d_Mo_isXmlns_68 : decode b_Mo_isXmlns 68 = .ok (.iconst 1, 1) := by decide +kernel
theorem d_Mo_isXmlns_69 : decode b_Mo_isXmlns 69 = .ok (.goto 4, 3) := by decide +kernel
theorem d_Mo_isXmlns_72 : decode b_Mo_isXmlns 72 = .ok (.iconst 0, 1) := by decide +kernel
theorem d_Mo_isXmlns_73 : decode b_Mo_isXmlns 73 = .ok (.ireturn, 1) := by decide +kernel
set_option maxHeartbeats 4000000 in
set_option maxRecDepth 100000 in
theorem t_Mo_isXmlns {l : Launch} {s0 : State} {D : va_G} {aC : Nat → ClassId} {a0 : Array Value} (G : gG l s0 D aC a0) (M : gMem) (r : gRef) (ow : Int64) (fu : Nat) (x1 : Int32) (x2 : Int32)  (hno : F_Mo_isXmlns fu x1 x2 M r ≠ .no) : gMet l s0 D aC y_Mo_isXmlns (Cond.code y_Mo_isXmlns b_Mo_isXmlns 3 (some .boolean)) 0 0 0 0 [.ref (s0.heap.size + 383), .int x1, .int x2] M r ow (qI (F_Mo_isXmlns fu x1 x2 M r)) (qT (F_Mo_isXmlns fu x1 x2 M r)) := by
  refine gm_of G (by decide) (Nat.le_of_ble_eq_true rfl) ?_
  intro p e s m below meth c ls B hexc hl hw
  have hx := B.1
  have hb := B.2.1
  have hown := B.2.2.2.2.2.1
  have T := B.2.2.2.2.2.2.1
  have hK := B.2.2.2.2.2.2.2.1
  have hF := F_Mo_isXmlns.eq_1 fu x1 x2 M r
  refine lv_iload_n hx hb d_Mo_isXmlns_0 rfl (lv_at hl 2 rfl) ?_
  refine lv_iconst (v := 5) hx hb d_Mo_isXmlns_1 (by decide) ?_
  refine lv_icmp_ne hx hb d_Mo_isXmlns_2 rfl (fun h12 => ?_) (fun h12 => ?_)
  · skip
    have hF := hF.trans (if_neg h12)
    refine lv_iconst (v := 0) hx hb d_Mo_isXmlns_72 (by decide) ?_
    exact gr_z B hw (by rfl) d_Mo_isXmlns_73 ⟨_, rfl, hF⟩
  · skip
    have hF := hF.trans (if_pos h12)
    refine lv_aload_n hx hb d_Mo_isXmlns_5 rfl (lv_at hl 0 rfl) ?_
    refine gf_Mo_pool hx hb T hown hK hw rfl (kf_Mo_17 T) d_Mo_isXmlns_6 ?_
    refine lv_iload_n hx hb d_Mo_isXmlns_9 rfl (lv_at hl 1 rfl) ?_
    have g13 := ng hno hF
    have hF := hF.trans (gd_yes g13)
    refine ga_Mo_pool hx hb hK hw rfl g13 d_Mo_isXmlns_10 ?_
    refine lv_bipush (v := 120) hx hb d_Mo_isXmlns_11 (by decide) ?_
    refine lv_icmp_ne hx hb d_Mo_isXmlns_13 rfl (fun h14 => ?_) (fun h14 => ?_)
    · skip
      have hF := hF.trans (if_neg h14)
      refine lv_iconst (v := 0) hx hb d_Mo_isXmlns_72 (by decide) ?_
      exact gr_z B hw (by rfl) d_Mo_isXmlns_73 ⟨_, rfl, hF⟩
    · skip
      have hF := hF.trans (if_pos h14)
      refine lv_aload_n hx hb d_Mo_isXmlns_16 rfl (lv_at hl 0 rfl) ?_
      refine gf_Mo_pool hx hb T hown hK hw rfl (kf_Mo_17 T) d_Mo_isXmlns_17 ?_
      refine lv_iload_n hx hb d_Mo_isXmlns_20 rfl (lv_at hl 1 rfl) ?_
      refine lv_iconst (v := 1) hx hb d_Mo_isXmlns_21 (by decide) ?_
      refine lv_iadd hx hb d_Mo_isXmlns_22 ?_
      have g15 := ng hno hF
      have hF := hF.trans (gd_yes g15)
      refine ga_Mo_pool hx hb hK hw rfl g15 d_Mo_isXmlns_23 ?_
      refine lv_bipush (v := 109) hx hb d_Mo_isXmlns_24 (by decide) ?_
      refine lv_icmp_ne hx hb d_Mo_isXmlns_26 rfl (fun h16 => ?_) (fun h16 => ?_)
      · skip
        have hF := hF.trans (if_neg h16)
        refine lv_iconst (v := 0) hx hb d_Mo_isXmlns_72 (by decide) ?_
        exact gr_z B hw (by rfl) d_Mo_isXmlns_73 ⟨_, rfl, hF⟩
      · skip
        have hF := hF.trans (if_pos h16)
        refine lv_aload_n hx hb d_Mo_isXmlns_29 rfl (lv_at hl 0 rfl) ?_
        refine gf_Mo_pool hx hb T hown hK hw rfl (kf_Mo_17 T) d_Mo_isXmlns_30 ?_
        refine lv_iload_n hx hb d_Mo_isXmlns_33 rfl (lv_at hl 1 rfl) ?_
        refine lv_iconst (v := 2) hx hb d_Mo_isXmlns_34 (by decide) ?_
        refine lv_iadd hx hb d_Mo_isXmlns_35 ?_
        have g17 := ng hno hF
        have hF := hF.trans (gd_yes g17)
        refine ga_Mo_pool hx hb hK hw rfl g17 d_Mo_isXmlns_36 ?_
        refine lv_bipush (v := 108) hx hb d_Mo_isXmlns_37 (by decide) ?_
        refine lv_icmp_ne hx hb d_Mo_isXmlns_39 rfl (fun h18 => ?_) (fun h18 => ?_)
        · skip
          have hF := hF.trans (if_neg h18)
          refine lv_iconst (v := 0) hx hb d_Mo_isXmlns_72 (by decide) ?_
          exact gr_z B hw (by rfl) d_Mo_isXmlns_73 ⟨_, rfl, hF⟩
        · skip
          have hF := hF.trans (if_pos h18)
          refine lv_aload_n hx hb d_Mo_isXmlns_42 rfl (lv_at hl 0 rfl) ?_
          refine gf_Mo_pool hx hb T hown hK hw rfl (kf_Mo_17 T) d_Mo_isXmlns_43 ?_
          refine lv_iload_n hx hb d_Mo_isXmlns_46 rfl (lv_at hl 1 rfl) ?_
          refine lv_iconst (v := 3) hx hb d_Mo_isXmlns_47 (by decide) ?_
          refine lv_iadd hx hb d_Mo_isXmlns_48 ?_
          have g19 := ng hno hF
          have hF := hF.trans (gd_yes g19)
          refine ga_Mo_pool hx hb hK hw rfl g19 d_Mo_isXmlns_49 ?_
          refine lv_bipush (v := 110) hx hb d_Mo_isXmlns_50 (by decide) ?_
          refine lv_icmp_ne hx hb d_Mo_isXmlns_52 rfl (fun h20 => ?_) (fun h20 => ?_)
          · skip
            have hF := hF.trans (if_neg h20)
            refine lv_iconst (v := 0) hx hb d_Mo_isXmlns_72 (by decide) ?_
            exact gr_z B hw (by rfl) d_Mo_isXmlns_73 ⟨_, rfl, hF⟩
          · skip
            have hF := hF.trans (if_pos h20)
            refine lv_aload_n hx hb d_Mo_isXmlns_55 rfl (lv_at hl 0 rfl) ?_
            refine gf_Mo_pool hx hb T hown hK hw rfl (kf_Mo_17 T) d_Mo_isXmlns_56 ?_
            refine lv_iload_n hx hb d_Mo_isXmlns_59 rfl (lv_at hl 1 rfl) ?_
            refine lv_iconst (v := 4) hx hb d_Mo_isXmlns_60 (by decide) ?_
            refine lv_iadd hx hb d_Mo_isXmlns_61 ?_
            have g21 := ng hno hF
            have hF := hF.trans (gd_yes g21)
            refine ga_Mo_pool hx hb hK hw rfl g21 d_Mo_isXmlns_62 ?_
            refine lv_bipush (v := 115) hx hb d_Mo_isXmlns_63 (by decide) ?_
            refine lv_icmp_ne hx hb d_Mo_isXmlns_65 rfl (fun h22 => ?_) (fun h22 => ?_)
            · skip
              have hF := hF.trans (if_neg h22)
              refine lv_iconst (v := 0) hx hb d_Mo_isXmlns_72 (by decide) ?_
              exact gr_z B hw (by rfl) d_Mo_isXmlns_73 ⟨_, rfl, hF⟩
            · skip
              have hF := hF.trans (if_pos h22)
              refine lv_iconst (v := 1) hx hb d_Mo_isXmlns_68 (by decide) ?_
              refine lv_goto hx hb d_Mo_isXmlns_69 rfl ?_
              exact gr_z B hw (by rfl) d_Mo_isXmlns_73 ⟨_, rfl, hF⟩
theorem d_Mo_declares_0 : decode b_Mo_declares 0 = .ok (.aload_n 0, 1) := by decide +kernel
theorem d_Mo_declares_1 : decode b_Mo_declares 1 = .ok (.aload_n 0, 1) := by decide +kernel
theorem d_Mo_declares_2 : decode b_Mo_declares 2 = .ok (.getfield 38, 3) := by decide +kernel
theorem d_Mo_declares_5 : decode b_Mo_declares 5 = .ok (.iload_n 1, 1) := by decide +kernel
theorem d_Mo_declares_6 : decode b_Mo_declares 6 = .ok (.iaload, 1) := by decide +kernel
theorem d_Mo_declares_7 : decode b_Mo_declares 7 = .ok (.aload_n 0, 1) := by decide +kernel
theorem d_Mo_declares_8 : decode b_Mo_declares 8 = .ok (.getfield 44, 3) := by decide +kernel
theorem d_Mo_declares_11 : decode b_Mo_declares 11 = .ok (.iload_n 1, 1) := by decide +kernel
theorem d_Mo_declares_12 : decode b_Mo_declares 12 = .ok (.iaload, 1) := by decide +kernel
theorem d_Mo_declares_13 : decode b_Mo_declares 13 = .ok (.ifCond .ge 12, 3) := by decide +kernel
theorem d_Mo_declares_16 : decode b_Mo_declares 16 = .ok (.aload_n 0, 1) := by decide +kernel
theorem d_Mo_declares_17 : decode b_Mo_declares 17 = .ok (.getfield 41, 3) := by decide +kernel
theorem d_Mo_declares_20 : decode b_Mo_declares 20 = .ok (.iload_n 1, 1) := by decide +kernel
theorem d_Mo_declares_21 : decode b_Mo_declares 21 = .ok (.iaload, 1) := by decide +kernel
theorem d_Mo_declares_22 : decode b_Mo_declares 22 = .ok (.goto 9, 3) := by decide +kernel
theorem d_Mo_declares_25 : decode b_Mo_declares 25 = .ok (.aload_n 0, 1) := by decide +kernel
theorem d_Mo_declares_26 : decode b_Mo_declares 26 = .ok (.getfield 44, 3) := by decide +kernel
theorem d_Mo_declares_29 : decode b_Mo_declares 29 = .ok (.iload_n 1, 1) := by decide +kernel
theorem d_Mo_declares_30 : decode b_Mo_declares 30 = .ok (.iaload, 1) := by decide +kernel
theorem d_Mo_declares_31 : decode b_Mo_declares 31 = .ok (.invokevirtual 196, 3) := by decide +kernel
theorem d_Mo_declares_34 : decode b_Mo_declares 34 = .ok (.ireturn, 1) := by decide +kernel
set_option maxHeartbeats 4000000 in
set_option maxRecDepth 100000 in
theorem t_Mo_declares {l : Launch} {s0 : State} {D : va_G} {aC : Nat → ClassId} {a0 : Array Value} (G : gG l s0 D aC a0) (M : gMem) (r : gRef) (ow : Int64) (fu : Nat) (x1 : Int32)  (hno : F_Mo_declares fu x1 M r ≠ .no) : gMet l s0 D aC y_Mo_declares (Cond.code y_Mo_declares b_Mo_declares 2 (some .boolean)) 1 22 0 0 [.ref (s0.heap.size + 383), .int x1] M r ow (qI (F_Mo_declares fu x1 M r)) (qT (F_Mo_declares fu x1 M r)) := by
  refine gm_of G (by decide) (Nat.le_of_ble_eq_true rfl) ?_
  intro p e s m below meth c ls B hexc hl hw
  have hx := B.1
  have hb := B.2.1
  have hown := B.2.2.2.2.2.1
  have T := B.2.2.2.2.2.2.1
  have hK := B.2.2.2.2.2.2.2.1
  have hF := F_Mo_declares.eq_1 fu x1 M r
  refine lv_aload_n hx hb d_Mo_declares_0 rfl (lv_at hl 0 rfl) ?_
  refine lv_aload_n hx hb d_Mo_declares_1 rfl (lv_at hl 0 rfl) ?_
  refine gf_Mo_from hx hb T hown hK hw rfl (kf_Mo_38 T) d_Mo_declares_2 ?_
  refine lv_iload_n hx hb d_Mo_declares_5 rfl (lv_at hl 1 rfl) ?_
  have g10 := ng hno hF
  have hF := hF.trans (gd_yes g10)
  refine ga_Mo_from hx hb hK hw rfl g10 d_Mo_declares_6 ?_
  refine lv_aload_n hx hb d_Mo_declares_7 rfl (lv_at hl 0 rfl) ?_
  refine gf_Mo_colon hx hb T hown hK hw rfl (kf_Mo_44 T) d_Mo_declares_8 ?_
  refine lv_iload_n hx hb d_Mo_declares_11 rfl (lv_at hl 1 rfl) ?_
  have g11 := ng hno hF
  have hF := hF.trans (gd_yes g11)
  refine ga_Mo_colon hx hb hK hw rfl g11 d_Mo_declares_12 ?_
  refine lv_if_ge hx hb d_Mo_declares_13 rfl (fun h12 => ?_) (fun h12 => ?_)
  · skip
    have hF := hF.trans (if_pos h12)
    refine lv_aload_n hx hb d_Mo_declares_25 rfl (lv_at hl 0 rfl) ?_
    refine gf_Mo_colon hx hb T hown hK hw rfl (kf_Mo_44 T) d_Mo_declares_26 ?_
    refine lv_iload_n hx hb d_Mo_declares_29 rfl (lv_at hl 1 rfl) ?_
    have g13 := ng hno hF
    have hF := hF.trans (gd_yes g13)
    refine ga_Mo_colon hx hb hK hw rfl g13 d_Mo_declares_30 ?_
    refine gy_V B hl.1 hw (t_Mo_isXmlns G _ _ ow fu (M 116 x1.toNatClampNeg) (M 118 x1.toNatClampNeg) (nn hno hF)) (kd_Mo_isXmlns T) (ki_Mo T) (km_Mo_196 T) (ka_Mo_isXmlns T) (ks_Mo_isXmlns T) ⟨by decide, by decide, by rfl⟩ (rv_Mo hK hw rfl) rfl (Nat.le_of_ble_eq_true rfl) ⟨by decide, by decide⟩ ⟨by decide, by decide⟩ d_Mo_declares_31 (fun v M14 r14 H locs hw hp => ?_) (fun x ek M14 r14 H locs hw hE hp => gr_t B hexc hw hE (by decide) (by decide) (hF.trans (bnd_ex hp)))
    obtain ⟨v14, rfl, hp⟩ := hp
    have hF := hF.trans (bnd_ok hp)
    have g15 := ng hno hF
    have hF := hF.trans (gd_yes g15)
    exact gr_z B hw g15 d_Mo_declares_34 ⟨_, rfl, hF⟩
  · skip
    have hF := hF.trans (if_neg h12)
    refine lv_aload_n hx hb d_Mo_declares_16 rfl (lv_at hl 0 rfl) ?_
    refine gf_Mo_size hx hb T hown hK hw rfl (kf_Mo_41 T) d_Mo_declares_17 ?_
    refine lv_iload_n hx hb d_Mo_declares_20 rfl (lv_at hl 1 rfl) ?_
    have g16 := ng hno hF
    have hF := hF.trans (gd_yes g16)
    refine ga_Mo_size hx hb hK hw rfl g16 d_Mo_declares_21 ?_
    refine lv_goto hx hb d_Mo_declares_22 rfl ?_
    refine gy_V B hl.1 hw (t_Mo_isXmlns G _ _ ow fu (M 116 x1.toNatClampNeg) (M 117 x1.toNatClampNeg) (nn hno hF)) (kd_Mo_isXmlns T) (ki_Mo T) (km_Mo_196 T) (ka_Mo_isXmlns T) (ks_Mo_isXmlns T) ⟨by decide, by decide, by rfl⟩ (rv_Mo hK hw rfl) rfl (Nat.le_of_ble_eq_true rfl) ⟨by decide, by decide⟩ ⟨by decide, by decide⟩ d_Mo_declares_31 (fun v M17 r17 H locs hw hp => ?_) (fun x ek M17 r17 H locs hw hE hp => gr_t B hexc hw hE (by decide) (by decide) (hF.trans (bnd_ex hp)))
    obtain ⟨v17, rfl, hp⟩ := hp
    have hF := hF.trans (bnd_ok hp)
    have g18 := ng hno hF
    have hF := hF.trans (gd_yes g18)
    exact gr_z B hw g18 d_Mo_declares_34 ⟨_, rfl, hF⟩
theorem d_Mo_declared_0 : decode b_Mo_declared 0 = .ok (.iload_n 1, 1) := by decide +kernel
theorem d_Mo_declared_1 : decode b_Mo_declared 1 = .ok (.istore 4, 2) := by decide +kernel
theorem d_Mo_declared_3 : decode b_Mo_declared 3 = .ok (.iload 4, 2) := by decide +kernel
theorem d_Mo_declared_5 : decode b_Mo_declared 5 = .ok (.ifCond .lt 117, 3) := by decide +kernel
theorem d_Mo_declared_8 : decode b_Mo_declared 8 = .ok (.bipush 6, 2) := by decide +kernel
theorem d_Mo_declared_10 : decode b_Mo_declared 10 = .ok (.iload 4, 2) := by decide +kernel
theorem d_Mo_declared_12 : decode b_Mo_declared 12 = .ok (.imul, 1) := by decide +kernel
theorem d_Mo_declared_13 : decode b_Mo_declared 13 = .ok (.istore 5, 2) := by decide +kernel
theorem d_Mo_declared_15 : decode b_Mo_declared 15 = .ok (.iload 5, 2) := by decide +kernel
theorem d_Mo_declared_17 : decode b_Mo_declared 17 = .ok (.bipush 6, 2) := by decide +kernel
theorem d_Mo_declared_19 : decode b_Mo_declared 19 = .ok (.iload 4, 2) := by decide +kernel
theorem d_Mo_declared_21 : decode b_Mo_declared 21 = .ok (.imul, 1) := by decide +kernel
theorem d_Mo_declared_22 : decode b_Mo_declared 22 = .ok (.aload_n 0, 1) := by decide +kernel
theorem d_Mo_declared_23 : decode b_Mo_declared 23 = .ok (.getfield 35, 3) := by decide +kernel
theorem d_Mo_declared_26 : decode b_Mo_declared 26 = .ok (.iload 4, 2) := by decide +kernel
theorem d_Mo_declared_28 : decode b_Mo_declared 28 = .ok (.iaload, 1) := by decide +kernel
theorem d_Mo_declared_29 : decode b_Mo_declared 29 = .ok (.iadd, 1) := by decide +kernel
theorem d_Mo_declared_30 : decode b_Mo_declared 30 = .ok (.if_icmp .ge 80, 3) := by decide +kernel
theorem d_Mo_declared_33 : decode b_Mo_declared 33 = .ok (.aload_n 0, 1) := by decide +kernel
theorem d_Mo_declared_34 : decode b_Mo_declared 34 = .ok (.getfield 44, 3) := by decide +kernel
theorem d_Mo_declared_37 : decode b_Mo_declared 37 = .ok (.iload 5, 2) := by decide +kernel
theorem d_Mo_declared_39 : decode b_Mo_declared 39 = .ok (.iaload, 1) := by decide +kernel
theorem d_Mo_declared_40 : decode b_Mo_declared 40 = .ok (.ifCond .ge 15, 3) := by decide +kernel
theorem d_Mo_declared_43 : decode b_Mo_declared 43 = .ok (.iload_n 3, 1) := by decide +kernel
theorem d_Mo_declared_44 : decode b_Mo_declared 44 = .ok (.ifCond .ne 7, 3) := by decide +kernel
theorem d_Mo_declared_47 : decode b_Mo_declared 47 = .ok (.iconst 1, 1) := by decide +kernel
theorem d_Mo_declared_48 : decode b_Mo_declared 48 = .ok (.goto 37, 3) := by decide +kernel
theorem d_Mo_declared_51 : decode b_Mo_declared 51 = .ok (.iconst 0, 1) := by decide +kernel
theorem d_Mo_declared_52 : decode b_Mo_declared 52 = .ok (.goto 33, 3) := by decide +kernel
theorem d_Mo_declared_55 : decode b_Mo_declared 55 = .ok (.iload_n 3, 1) := by decide +kernel
theorem d_Mo_declared_56 : decode b_Mo_declared 56 = .ok (.ifCond .le 28, 3) := by decide +kernel
theorem d_Mo_declared_59 : decode b_Mo_declared 59 = .ok (.aload_n 0, 1) := by decide +kernel
theorem d_Mo_declared_60 : decode b_Mo_declared 60 = .ok (.aload_n 0, 1) := by decide +kernel
theorem d_Mo_declared_61 : decode b_Mo_declared 61 = .ok (.iload 5, 2) := by decide +kernel
theorem d_Mo_declared_63 : decode b_Mo_declared 63 = .ok (.invokevirtual 199, 3) := by decide +kernel
theorem d_Mo_declared_66 : decode b_Mo_declared 66 = .ok (.aload_n 0, 1) := by decide +kernel
theorem d_Mo_declared_67 : decode b_Mo_declared 67 = .ok (.iload 5, 2) := by decide +kernel
theorem d_Mo_declared_69 : decode b_Mo_declared 69 = .ok (.invokevirtual 202, 3) := by decide +kernel
theorem d_Mo_declared_72 : decode b_Mo_declared 72 = .ok (.iload_n 2, 1) := by decide +kernel
theorem d_Mo_declared_73 : decode b_Mo_declared 73 = .ok (.iload_n 3, 1) := by decide +kernel
theorem d_Mo_declared_74 : decode b_Mo_declared 74 = .ok (.invokevirtual 166, 3) := by decide +kernel
theorem d_Mo_declared_77 : decode b_Mo_declared 77 = .ok (.ifCond .ne 7, 3) := by decide +kernel
theorem d_Mo_declared_80 : decode b_Mo_declared 80 = .ok (.iconst 1, 1) := by decide +kernel
theorem d_Mo_declared_81 : decode b_Mo_declared 81 = .ok (.goto 4, 3) := by decide +kernel
theorem d_Mo_declared_84 : decode b_Mo_declared 84 = .ok (.iconst 0, 1) := by decide +kernel
theorem d_Mo_declared_85 : decode b_Mo_declared 85 = .ok (.istore 6, 2) := by decide +kernel
theorem d_Mo_declared_87 : decode b_Mo_declared 87 = .ok (.aload_n 0, 1) := by decide +kernel
theorem d_Mo_declared_88 : decode b_Mo_declared 88 = .ok (.iload 5, 2) := by decide +kernel
theorem d_Mo_declared_90 : decode b_Mo_declared 90 = .ok (.invokevirtual 205, 3) := by decide +kernel
theorem d_Mo_declared_93 : decode b_Mo_declared 93 = .ok (.ifCond .eq 11, 3) := by decide +kernel
theorem d_Mo_declared_96 : decode b_Mo_declared 96 = .ok (.iload 6, 2) := by decide +kernel
theorem d_Mo_declared_98 : decode b_Mo_declared 98 = .ok (.ifCond .eq 6, 3) := by decide +kernel
theorem d_Mo_declared_101 : decode b_Mo_declared 101 = .ok (.iload 5, 2) := by decide +kernel
theorem d_Mo_declared_103 : decode b_Mo_declared 103 = .ok (.ireturn, 1) := by decide +kernel
theorem d_Mo_declared_104 : decode b_Mo_declared 104 = .ok (.iinc 5 1, 3) := by decide +kernel
theorem d_Mo_declared_107 : decode b_Mo_declared 107 = .ok (.goto (-92), 3) := by decide +kernel
theorem d_Mo_declared_110 : decode b_Mo_declared 110 = .ok (.aload_n 0, 1) := by decide +kernel
theorem d_Mo_declared_111 : decode b_Mo_declared 111 = .ok (.getfield 20, 3) := by decide +kernel
theorem d_Mo_declared_114 : decode b_Mo_declared 114 = .ok (.iload 4, 2) := by decide +kernel
theorem d_Mo_declared_116 : decode b_Mo_declared 116 = .ok (.iaload, 1) := by decide +kernel
theorem d_Mo_declared_117 : decode b_Mo_declared 117 = .ok (.istore 4, 2) := by decide +kernel
theorem d_Mo_declared_119 : decode b_Mo_declared 119 = .ok (.goto (-116), 3) := by decide +kernel
theorem d_Mo_declared_122 : decode b_Mo_declared 122 = .ok (.iconst (-1), 1) := by decide +kernel
theorem d_Mo_declared_123 : decode b_Mo_declared 123 = .ok (.ireturn, 1) := by decide +kernel
set_option maxHeartbeats 4000000 in
set_option maxRecDepth 100000 in
theorem t_Mo_declared {l : Launch} {s0 : State} {D : va_G} {aC : Nat → ClassId} {a0 : Array Value} (G : gG l s0 D aC a0) (M : gMem) (r : gRef) (ow : Int64) (fu : Nat) (x1 : Int32) (x2 : Int32) (x3 : Int32)  (hno : F_Mo_declared fu x1 x2 x3 M r ≠ .no) : gMet l s0 D aC y_Mo_declared (Cond.code y_Mo_declared b_Mo_declared 7 (some .int)) 2 43 0 0 [.ref (s0.heap.size + 383), .int x1, .int x2, .int x3] M r ow (qI (F_Mo_declared fu x1 x2 x3 M r)) (qT (F_Mo_declared fu x1 x2 x3 M r)) := by
  refine gm_of G (by decide) (Nat.le_of_ble_eq_true rfl) ?_
  intro p e s m below meth c ls B hexc hl hw
  have hx := B.1
  have hb := B.2.1
  have hown := B.2.2.2.2.2.1
  have T := B.2.2.2.2.2.2.1
  have hK := B.2.2.2.2.2.2.2.1
  have X122 : ∀ (M1 : gMem) (r1 : gRef) (H : Heap) (locs : List Loc) (ls : Array Slot), lv_has ls 7 [] → gWd s0 D aC M1 r1 ow H locs → F_Mo_declared fu x1 x2 x3 M r = F_Mo_declared_B122 fu x1 x2 x3 M1 r1 → W p l e (gRm 2 43 0 0) s m ([.ref (s0.heap.size + 383), .int x1, .int x2, .int x3] : List Value).toArray below meth c H locs 0 0 (gt_Q below (gQ s0 D aC ow (qI (F_Mo_declared fu x1 x2 x3 M r)) (qT (F_Mo_declared fu x1 x2 x3 M r))) s 0 0 0 0 (fun q => s0.heap.size ≤ q)) (F0 m 122 ls []) := by
    intro  M1 r1 H locs ls hl hw hF
    have hF := hF.trans (F_Mo_declared_B122.eq_1 _ _ _ _ _ _)
    refine lv_iconst (v := -1) hx hb d_Mo_declared_122 (by decide) ?_
    exact gr_i B hw d_Mo_declared_123 ⟨_, rfl, hF⟩
  have L3 : ∀ (d : Nat) (x4 : Int32) (M1 : gMem) (r1 : gRef) (H : Heap) (locs : List Loc) (ls : Array Slot), lv_has ls 7 [(4, .int x4), (0, .ref (s0.heap.size + 383)), (2, .int x2), (3, .int x3)] → gWd s0 D aC M1 r1 ow H locs → F_Mo_declared fu x1 x2 x3 M r = F_Mo_declared_L3 fu x1 x2 x3 d x4 M1 r1 → W p l e (gRm 2 43 0 0) s m ([.ref (s0.heap.size + 383), .int x1, .int x2, .int x3] : List Value).toArray below meth c H locs 0 0 (gt_Q below (gQ s0 D aC ow (qI (F_Mo_declared fu x1 x2 x3 M r)) (qT (F_Mo_declared fu x1 x2 x3 M r))) s 0 0 0 0 (fun q => s0.heap.size ≤ q)) (F0 m 3 ls []) := by
    intro d
    induction d with
    | zero => intro x4 M1 r1 H locs ls hl hw hF; exact absurd hF hno
    | succ d ih =>
      intro x4 M1 r1 H locs ls hl hw hF
      have hF := hF.trans (F_Mo_declared_L3.eq_2 _ _ _ _ _ _ _ _)
      refine lv_iload hx hb d_Mo_declared_3 (lv_at hl 0 rfl) ?_
      refine lv_if_lt hx hb d_Mo_declared_5 rfl (fun h24 => ?_) (fun h24 => ?_)
      · skip
        have hF := hF.trans (if_pos h24)
        exact X122  _ _ _ _ _ (gv_loc hl [] rfl) hw hF
      · skip
        have hF := hF.trans (if_neg h24)
        refine lv_bipush (v := 6) hx hb d_Mo_declared_8 (by decide) ?_
        refine lv_iload hx hb d_Mo_declared_10 (lv_at hl 0 rfl) ?_
        refine lv_imul hx hb d_Mo_declared_12 ?_
        refine lv_istore hx hb d_Mo_declared_13 hl (by decide) rfl (fun ls hl => ?_)
        have I15 : ∀ (d2 : Nat) (x5 : Int32) (M1 : gMem) (r1 : gRef) (H : Heap) (locs : List Loc) (ls : Array Slot), lv_has ls 7 [(0, .ref (s0.heap.size + 383)), (2, .int x2), (3, .int x3), (4, .int x4), (5, .int x5)] → gWd s0 D aC M1 r1 ow H locs → F_Mo_declared fu x1 x2 x3 M r = gO.bnd (F_Mo_declared_I15 fu x1 x2 x3 d2 x4 x5 M1 r1) (fun s45 M45 r45 => gsm s45 (fun v => .ok v M45 r45) (fun _ => gd (vp_in x4 24) (F_Mo_declared_L3 fu x1 x2 x3 d (M45 110 x4.toNatClampNeg) M45 r45))) → W p l e (gRm 2 43 0 0) s m ([.ref (s0.heap.size + 383), .int x1, .int x2, .int x3] : List Value).toArray below meth c H locs 0 0 (gt_Q below (gQ s0 D aC ow (qI (F_Mo_declared fu x1 x2 x3 M r)) (qT (F_Mo_declared fu x1 x2 x3 M r))) s 0 0 0 0 (fun q => s0.heap.size ≤ q)) (F0 m 15 ls []) := by
          intro d2
          induction d2 with
          | zero => intro x5 M1 r1 H locs ls hl hw hF; exact absurd hF hno
          | succ d2 ih2 =>
            intro x5 M1 r1 H locs ls hl hw hF
            have hF := hF.trans (bnc (F_Mo_declared_I15.eq_2 _ _ _ _ _ _ _ _ _))
            refine lv_iload hx hb d_Mo_declared_15 (lv_at hl 4 rfl) ?_
            refine lv_bipush (v := 6) hx hb d_Mo_declared_17 (by decide) ?_
            refine lv_iload hx hb d_Mo_declared_19 (lv_at hl 3 rfl) ?_
            refine lv_imul hx hb d_Mo_declared_21 ?_
            refine lv_aload_n hx hb d_Mo_declared_22 rfl (lv_at hl 0 rfl) ?_
            refine gf_Mo_counts hx hb T hown hK hw rfl (kf_Mo_35 T) d_Mo_declared_23 ?_
            refine lv_iload hx hb d_Mo_declared_26 (lv_at hl 3 rfl) ?_
            have g47 := ng2 hno hF
            have hF := hF.trans (bnc (gd_yes g47))
            refine ga_Mo_counts hx hb hK hw rfl g47 d_Mo_declared_28 ?_
            refine lv_iadd hx hb d_Mo_declared_29 ?_
            refine lv_icmp_ge hx hb d_Mo_declared_30 rfl (fun h48 => ?_) (fun h48 => ?_)
            · skip
              have hF := hF.trans (bnc (if_pos h48))
              have hF := hF.trans (show _ = gd (vp_in x4 24) (F_Mo_declared_L3 fu x1 x2 x3 d (M1 110 x4.toNatClampNeg) M1 r1) from rfl)
              refine lv_aload_n hx hb d_Mo_declared_110 rfl (lv_at hl 0 rfl) ?_
              refine gf_Mo_parents hx hb T hown hK hw rfl (kf_Mo_20 T) d_Mo_declared_111 ?_
              refine lv_iload hx hb d_Mo_declared_114 (lv_at hl 3 rfl) ?_
              have g49 := ng hno hF
              have hF := hF.trans (gd_yes g49)
              refine ga_Mo_parents hx hb hK hw rfl g49 d_Mo_declared_116 ?_
              refine lv_istore hx hb d_Mo_declared_117 hl (by decide) rfl (fun ls hl => ?_)
              refine lv_goto hx hb d_Mo_declared_119 rfl ?_
              exact ih (M1 110 x4.toNatClampNeg) _ _ _ _ _ (gv_loc hl [0, 1, 2, 3] rfl) hw hF
            · skip
              have hF := hF.trans (bnc (if_neg h48))
              refine lv_aload_n hx hb d_Mo_declared_33 rfl (lv_at hl 0 rfl) ?_
              refine gf_Mo_colon hx hb T hown hK hw rfl (kf_Mo_44 T) d_Mo_declared_34 ?_
              refine lv_iload hx hb d_Mo_declared_37 (lv_at hl 4 rfl) ?_
              have g50 := ng2 hno hF
              have hF := hF.trans (bnc (gd_yes g50))
              refine ga_Mo_colon hx hb hK hw rfl g50 d_Mo_declared_39 ?_
              refine lv_if_ge hx hb d_Mo_declared_40 rfl (fun h51 => ?_) (fun h51 => ?_)
              · skip
                have hF := hF.trans (bnc (if_pos h51))
                refine lv_iload_n hx hb d_Mo_declared_55 rfl (lv_at hl 2 rfl) ?_
                refine lv_if_le hx hb d_Mo_declared_56 rfl (fun h52 => ?_) (fun h52 => ?_)
                · skip
                  have hF := hF.trans (bnc (if_pos h52))
                  refine lv_iconst (v := 0) hx hb d_Mo_declared_84 (by decide) ?_
                  refine lv_istore hx hb d_Mo_declared_85 hl (by decide) rfl (fun ls hl => ?_)
                  refine lv_aload_n hx hb d_Mo_declared_87 rfl (lv_at hl 1 rfl) ?_
                  refine lv_iload hx hb d_Mo_declared_88 (lv_at hl 5 rfl) ?_
                  refine gy_V B hl.1 hw (t_Mo_declares G _ _ ow fu x5 (nn2 hno hF)) (kd_Mo_declares T) (ki_Mo T) (km_Mo_205 T) (ka_Mo_declares T) (ks_Mo_declares T) ⟨by decide, by decide, by rfl⟩ (rv_Mo hK hw rfl) rfl (Nat.le_of_ble_eq_true rfl) ⟨by decide, by decide⟩ ⟨by decide, by decide⟩ d_Mo_declared_90 (fun v M53 r53 H locs hw hp => ?_) (fun x ek M53 r53 H locs hw hE hp => gr_t B hexc hw hE (by decide) (by decide) (hF.trans (bnc (bnd_ex hp))))
                  obtain ⟨v53, rfl, hp⟩ := hp
                  have hF := hF.trans (bnc (bnd_ok hp))
                  refine lv_if_eq hx hb d_Mo_declared_93 rfl (fun h54 => ?_) (fun h54 => ?_)
                  · skip
                    have hF := hF.trans (bnc (if_pos h54))
                    refine lv_iinc (k := 5) hx hb d_Mo_declared_104 hl rfl (show _ + Int32.ofInt 1 = _ + 1 from rfl) (by decide) rfl (fun ls hl => ?_)
                    refine lv_goto hx hb d_Mo_declared_107 rfl ?_
                    exact ih2 (x5 + 1) _ _ _ _ _ (gv_loc hl [2, 3, 4, 5, 0] rfl) hw hF
                  · skip
                    have hF := hF.trans (bnc (if_neg h54))
                    refine lv_iload hx hb d_Mo_declared_96 (lv_at hl 0 rfl) ?_
                    refine lv_if_eq hx hb d_Mo_declared_98 rfl (fun _ => ?_) (fun h => absurd h (by decide))
                    refine lv_iinc (k := 5) hx hb d_Mo_declared_104 hl rfl (show _ + Int32.ofInt 1 = _ + 1 from rfl) (by decide) rfl (fun ls hl => ?_)
                    refine lv_goto hx hb d_Mo_declared_107 rfl ?_
                    exact ih2 (x5 + 1) _ _ _ _ _ (gv_loc hl [2, 3, 4, 5, 0] rfl) hw hF
                · skip
                  have hF := hF.trans (bnc (if_neg h52))
                  refine lv_aload_n hx hb d_Mo_declared_59 rfl (lv_at hl 0 rfl) ?_
                  refine lv_aload_n hx hb d_Mo_declared_60 rfl (lv_at hl 0 rfl) ?_
                  refine lv_iload hx hb d_Mo_declared_61 (lv_at hl 4 rfl) ?_
                  refine gy_V B hl.1 hw (t_Mo_local G _ _ ow fu x5 (nn2 hno hF)) (kd_Mo_local T) (ki_Mo T) (km_Mo_199 T) (ka_Mo_local T) (ks_Mo_local T) ⟨by decide, by decide, by rfl⟩ (rv_Mo hK hw rfl) rfl (Nat.le_of_ble_eq_true rfl) ⟨by decide, by decide⟩ ⟨by decide, by decide⟩ d_Mo_declared_63 (fun v M55 r55 H locs hw hp => ?_) (fun x ek M55 r55 H locs hw hE hp => gr_t B hexc hw hE (by decide) (by decide) (hF.trans (bnc (bnd_ex hp))))
                  obtain ⟨v55, rfl, hp⟩ := hp
                  have hF := hF.trans (bnc (bnd_ok hp))
                  refine lv_aload_n hx hb d_Mo_declared_66 rfl (lv_at hl 0 rfl) ?_
                  refine lv_iload hx hb d_Mo_declared_67 (lv_at hl 4 rfl) ?_
                  refine gy_V B hl.1 hw (t_Mo_localSize G _ _ ow fu x5 (nn2 hno hF)) (kd_Mo_localSize T) (ki_Mo T) (km_Mo_202 T) (ka_Mo_localSize T) (ks_Mo_localSize T) ⟨by decide, by decide, by rfl⟩ (rv_Mo hK hw rfl) rfl (Nat.le_of_ble_eq_true rfl) ⟨by decide, by decide⟩ ⟨by decide, by decide⟩ d_Mo_declared_69 (fun v M56 r56 H locs hw hp => ?_) (fun x ek M56 r56 H locs hw hE hp => gr_t B hexc hw hE (by decide) (by decide) (hF.trans (bnc (bnd_ex hp))))
                  obtain ⟨v56, rfl, hp⟩ := hp
                  have hF := hF.trans (bnc (bnd_ok hp))
                  refine lv_iload_n hx hb d_Mo_declared_72 rfl (lv_at hl 1 rfl) ?_
                  refine lv_iload_n hx hb d_Mo_declared_73 rfl (lv_at hl 2 rfl) ?_
                  refine gy_V B hl.1 hw (t_Mo_compare G _ _ ow fu v55 v56 x2 x3 (nn2 hno hF)) (kd_Mo_compare T) (ki_Mo T) (km_Mo_166 T) (ka_Mo_compare T) (ks_Mo_compare T) ⟨by decide, by decide, by rfl⟩ (rv_Mo hK hw rfl) rfl (Nat.le_of_ble_eq_true rfl) ⟨by decide, by decide⟩ ⟨by decide, by decide⟩ d_Mo_declared_74 (fun v M57 r57 H locs hw hp => ?_) (fun x ek M57 r57 H locs hw hE hp => gr_t B hexc hw hE (by decide) (by decide) (hF.trans (bnc (bnd_ex hp))))
                  obtain ⟨v57, rfl, hp⟩ := hp
                  have hF := hF.trans (bnc (bnd_ok hp))
                  refine lv_if_ne hx hb d_Mo_declared_77 rfl (fun h58 => ?_) (fun h58 => ?_)
                  · skip
                    have hF := hF.trans (bnc (if_neg h58))
                    refine lv_iconst (v := 0) hx hb d_Mo_declared_84 (by decide) ?_
                    refine lv_istore hx hb d_Mo_declared_85 hl (by decide) rfl (fun ls hl => ?_)
                    refine lv_aload_n hx hb d_Mo_declared_87 rfl (lv_at hl 1 rfl) ?_
                    refine lv_iload hx hb d_Mo_declared_88 (lv_at hl 5 rfl) ?_
                    refine gy_V B hl.1 hw (t_Mo_declares G _ _ ow fu x5 (nn2 hno hF)) (kd_Mo_declares T) (ki_Mo T) (km_Mo_205 T) (ka_Mo_declares T) (ks_Mo_declares T) ⟨by decide, by decide, by rfl⟩ (rv_Mo hK hw rfl) rfl (Nat.le_of_ble_eq_true rfl) ⟨by decide, by decide⟩ ⟨by decide, by decide⟩ d_Mo_declared_90 (fun v M59 r59 H locs hw hp => ?_) (fun x ek M59 r59 H locs hw hE hp => gr_t B hexc hw hE (by decide) (by decide) (hF.trans (bnc (bnd_ex hp))))
                    obtain ⟨v59, rfl, hp⟩ := hp
                    have hF := hF.trans (bnc (bnd_ok hp))
                    refine lv_if_eq hx hb d_Mo_declared_93 rfl (fun h60 => ?_) (fun h60 => ?_)
                    · skip
                      have hF := hF.trans (bnc (if_pos h60))
                      refine lv_iinc (k := 5) hx hb d_Mo_declared_104 hl rfl (show _ + Int32.ofInt 1 = _ + 1 from rfl) (by decide) rfl (fun ls hl => ?_)
                      refine lv_goto hx hb d_Mo_declared_107 rfl ?_
                      exact ih2 (x5 + 1) _ _ _ _ _ (gv_loc hl [2, 3, 4, 5, 0] rfl) hw hF
                    · skip
                      have hF := hF.trans (bnc (if_neg h60))
                      refine lv_iload hx hb d_Mo_declared_96 (lv_at hl 0 rfl) ?_
                      refine lv_if_eq hx hb d_Mo_declared_98 rfl (fun _ => ?_) (fun h => absurd h (by decide))
                      refine lv_iinc (k := 5) hx hb d_Mo_declared_104 hl rfl (show _ + Int32.ofInt 1 = _ + 1 from rfl) (by decide) rfl (fun ls hl => ?_)
                      refine lv_goto hx hb d_Mo_declared_107 rfl ?_
                      exact ih2 (x5 + 1) _ _ _ _ _ (gv_loc hl [2, 3, 4, 5, 0] rfl) hw hF
                  · skip
                    have hF := hF.trans (bnc (if_pos h58))
                    refine lv_iconst (v := 1) hx hb d_Mo_declared_80 (by decide) ?_
                    refine lv_goto hx hb d_Mo_declared_81 rfl ?_
                    refine lv_istore hx hb d_Mo_declared_85 hl (by decide) rfl (fun ls hl => ?_)
                    refine lv_aload_n hx hb d_Mo_declared_87 rfl (lv_at hl 1 rfl) ?_
                    refine lv_iload hx hb d_Mo_declared_88 (lv_at hl 5 rfl) ?_
                    refine gy_V B hl.1 hw (t_Mo_declares G _ _ ow fu x5 (nn2 hno hF)) (kd_Mo_declares T) (ki_Mo T) (km_Mo_205 T) (ka_Mo_declares T) (ks_Mo_declares T) ⟨by decide, by decide, by rfl⟩ (rv_Mo hK hw rfl) rfl (Nat.le_of_ble_eq_true rfl) ⟨by decide, by decide⟩ ⟨by decide, by decide⟩ d_Mo_declared_90 (fun v M61 r61 H locs hw hp => ?_) (fun x ek M61 r61 H locs hw hE hp => gr_t B hexc hw hE (by decide) (by decide) (hF.trans (bnc (bnd_ex hp))))
                    obtain ⟨v61, rfl, hp⟩ := hp
                    have hF := hF.trans (bnc (bnd_ok hp))
                    refine lv_if_eq hx hb d_Mo_declared_93 rfl (fun h62 => ?_) (fun h62 => ?_)
                    · skip
                      have hF := hF.trans (bnc (if_pos h62))
                      refine lv_iinc (k := 5) hx hb d_Mo_declared_104 hl rfl (show _ + Int32.ofInt 1 = _ + 1 from rfl) (by decide) rfl (fun ls hl => ?_)
                      refine lv_goto hx hb d_Mo_declared_107 rfl ?_
                      exact ih2 (x5 + 1) _ _ _ _ _ (gv_loc hl [2, 3, 4, 5, 0] rfl) hw hF
                    · skip
                      have hF := hF.trans (bnc (if_neg h62))
                      refine lv_iload hx hb d_Mo_declared_96 (lv_at hl 0 rfl) ?_
                      refine lv_if_eq hx hb d_Mo_declared_98 rfl (fun h => absurd h (by decide)) (fun _ => ?_)
                      refine lv_iload hx hb d_Mo_declared_101 (lv_at hl 5 rfl) ?_
                      exact gr_i B hw d_Mo_declared_103 ⟨_, rfl, hF⟩
              · skip
                have hF := hF.trans (bnc (if_neg h51))
                refine lv_iload_n hx hb d_Mo_declared_43 rfl (lv_at hl 2 rfl) ?_
                refine lv_if_ne hx hb d_Mo_declared_44 rfl (fun h63 => ?_) (fun h63 => ?_)
                · skip
                  have hF := hF.trans (bnc (if_neg h63))
                  refine lv_iconst (v := 0) hx hb d_Mo_declared_51 (by decide) ?_
                  refine lv_goto hx hb d_Mo_declared_52 rfl ?_
                  refine lv_istore hx hb d_Mo_declared_85 hl (by decide) rfl (fun ls hl => ?_)
                  refine lv_aload_n hx hb d_Mo_declared_87 rfl (lv_at hl 1 rfl) ?_
                  refine lv_iload hx hb d_Mo_declared_88 (lv_at hl 5 rfl) ?_
                  refine gy_V B hl.1 hw (t_Mo_declares G _ _ ow fu x5 (nn2 hno hF)) (kd_Mo_declares T) (ki_Mo T) (km_Mo_205 T) (ka_Mo_declares T) (ks_Mo_declares T) ⟨by decide, by decide, by rfl⟩ (rv_Mo hK hw rfl) rfl (Nat.le_of_ble_eq_true rfl) ⟨by decide, by decide⟩ ⟨by decide, by decide⟩ d_Mo_declared_90 (fun v M64 r64 H locs hw hp => ?_) (fun x ek M64 r64 H locs hw hE hp => gr_t B hexc hw hE (by decide) (by decide) (hF.trans (bnc (bnd_ex hp))))
                  obtain ⟨v64, rfl, hp⟩ := hp
                  have hF := hF.trans (bnc (bnd_ok hp))
                  refine lv_if_eq hx hb d_Mo_declared_93 rfl (fun h65 => ?_) (fun h65 => ?_)
                  · skip
                    have hF := hF.trans (bnc (if_pos h65))
                    refine lv_iinc (k := 5) hx hb d_Mo_declared_104 hl rfl (show _ + Int32.ofInt 1 = _ + 1 from rfl) (by decide) rfl (fun ls hl => ?_)
                    refine lv_goto hx hb d_Mo_declared_107 rfl ?_
                    exact ih2 (x5 + 1) _ _ _ _ _ (gv_loc hl [2, 3, 4, 5, 0] rfl) hw hF
                  · skip
                    have hF := hF.trans (bnc (if_neg h65))
                    refine lv_iload hx hb d_Mo_declared_96 (lv_at hl 0 rfl) ?_
                    refine lv_if_eq hx hb d_Mo_declared_98 rfl (fun _ => ?_) (fun h => absurd h (by decide))
                    refine lv_iinc (k := 5) hx hb d_Mo_declared_104 hl rfl (show _ + Int32.ofInt 1 = _ + 1 from rfl) (by decide) rfl (fun ls hl => ?_)
                    refine lv_goto hx hb d_Mo_declared_107 rfl ?_
                    exact ih2 (x5 + 1) _ _ _ _ _ (gv_loc hl [2, 3, 4, 5, 0] rfl) hw hF
                · skip
                  have hF := hF.trans (bnc (if_pos h63))
                  refine lv_iconst (v := 1) hx hb d_Mo_declared_47 (by decide) ?_
                  refine lv_goto hx hb d_Mo_declared_48 rfl ?_
                  refine lv_istore hx hb d_Mo_declared_85 hl (by decide) rfl (fun ls hl => ?_)
                  refine lv_aload_n hx hb d_Mo_declared_87 rfl (lv_at hl 1 rfl) ?_
                  refine lv_iload hx hb d_Mo_declared_88 (lv_at hl 5 rfl) ?_
                  refine gy_V B hl.1 hw (t_Mo_declares G _ _ ow fu x5 (nn2 hno hF)) (kd_Mo_declares T) (ki_Mo T) (km_Mo_205 T) (ka_Mo_declares T) (ks_Mo_declares T) ⟨by decide, by decide, by rfl⟩ (rv_Mo hK hw rfl) rfl (Nat.le_of_ble_eq_true rfl) ⟨by decide, by decide⟩ ⟨by decide, by decide⟩ d_Mo_declared_90 (fun v M66 r66 H locs hw hp => ?_) (fun x ek M66 r66 H locs hw hE hp => gr_t B hexc hw hE (by decide) (by decide) (hF.trans (bnc (bnd_ex hp))))
                  obtain ⟨v66, rfl, hp⟩ := hp
                  have hF := hF.trans (bnc (bnd_ok hp))
                  refine lv_if_eq hx hb d_Mo_declared_93 rfl (fun h67 => ?_) (fun h67 => ?_)
                  · skip
                    have hF := hF.trans (bnc (if_pos h67))
                    refine lv_iinc (k := 5) hx hb d_Mo_declared_104 hl rfl (show _ + Int32.ofInt 1 = _ + 1 from rfl) (by decide) rfl (fun ls hl => ?_)
                    refine lv_goto hx hb d_Mo_declared_107 rfl ?_
                    exact ih2 (x5 + 1) _ _ _ _ _ (gv_loc hl [2, 3, 4, 5, 0] rfl) hw hF
                  · skip
                    have hF := hF.trans (bnc (if_neg h67))
                    refine lv_iload hx hb d_Mo_declared_96 (lv_at hl 0 rfl) ?_
                    refine lv_if_eq hx hb d_Mo_declared_98 rfl (fun h => absurd h (by decide)) (fun _ => ?_)
                    refine lv_iload hx hb d_Mo_declared_101 (lv_at hl 5 rfl) ?_
                    exact gr_i B hw d_Mo_declared_103 ⟨_, rfl, hF⟩
        exact I15 fu (6 * x4) _ _ _ _ _ (gv_loc hl [2, 3, 4, 1, 0] rfl) hw hF
  have hF := F_Mo_declared.eq_1 fu x1 x2 x3 M r
  refine lv_iload_n hx hb d_Mo_declared_0 rfl (lv_at hl 1 rfl) ?_
  refine lv_istore hx hb d_Mo_declared_1 hl (by decide) rfl (fun ls hl => ?_)
  exact L3 fu x1 _ _ _ _ _ (gv_loc hl [0, 1, 3, 4] rfl) hw hF
theorem d_Mo_spaceOf_0 : decode b_Mo_spaceOf 0 = .ok (.aload_n 0, 1) := by decide +kernel
theorem d_Mo_spaceOf_1 : decode b_Mo_spaceOf 1 = .ok (.getfield 44, 3) := by decide +kernel
theorem d_Mo_spaceOf_4 : decode b_Mo_spaceOf 4 = .ok (.iload_n 1, 1) := by decide +kernel
theorem d_Mo_spaceOf_5 : decode b_Mo_spaceOf 5 = .ok (.iaload, 1) := by decide +kernel
theorem d_Mo_spaceOf_6 : decode b_Mo_spaceOf 6 = .ok (.ifCond .ge 7, 3) := by decide +kernel
theorem d_Mo_spaceOf_9 : decode b_Mo_spaceOf 9 = .ok (.iconst (-1), 1) := by decide +kernel
theorem d_Mo_spaceOf_10 : decode b_Mo_spaceOf 10 = .ok (.goto 23, 3) := by decide +kernel
theorem d_Mo_spaceOf_13 : decode b_Mo_spaceOf 13 = .ok (.aload_n 0, 1) := by decide +kernel
theorem d_Mo_spaceOf_14 : decode b_Mo_spaceOf 14 = .ok (.iload_n 1, 1) := by decide +kernel
theorem d_Mo_spaceOf_15 : decode b_Mo_spaceOf 15 = .ok (.bipush 6, 2) := by decide +kernel
theorem d_Mo_spaceOf_17 : decode b_Mo_spaceOf 17 = .ok (.idiv, 1) := by decide +kernel
theorem d_Mo_spaceOf_18 : decode b_Mo_spaceOf 18 = .ok (.aload_n 0, 1) := by decide +kernel
theorem d_Mo_spaceOf_19 : decode b_Mo_spaceOf 19 = .ok (.getfield 38, 3) := by decide +kernel
theorem d_Mo_spaceOf_22 : decode b_Mo_spaceOf 22 = .ok (.iload_n 1, 1) := by decide +kernel
theorem d_Mo_spaceOf_23 : decode b_Mo_spaceOf 23 = .ok (.iaload, 1) := by decide +kernel
theorem d_Mo_spaceOf_24 : decode b_Mo_spaceOf 24 = .ok (.aload_n 0, 1) := by decide +kernel
theorem d_Mo_spaceOf_25 : decode b_Mo_spaceOf 25 = .ok (.getfield 44, 3) := by decide +kernel
theorem d_Mo_spaceOf_28 : decode b_Mo_spaceOf 28 = .ok (.iload_n 1, 1) := by decide +kernel
theorem d_Mo_spaceOf_29 : decode b_Mo_spaceOf 29 = .ok (.iaload, 1) := by decide +kernel
theorem d_Mo_spaceOf_30 : decode b_Mo_spaceOf 30 = .ok (.invokevirtual 208, 3) := by decide +kernel
theorem d_Mo_spaceOf_33 : decode b_Mo_spaceOf 33 = .ok (.ireturn, 1) := by decide +kernel
set_option maxHeartbeats 4000000 in
set_option maxRecDepth 100000 in
theorem t_Mo_spaceOf {l : Launch} {s0 : State} {D : va_G} {aC : Nat → ClassId} {a0 : Array Value} (G : gG l s0 D aC a0) (M : gMem) (r : gRef) (ow : Int64) (fu : Nat) (x1 : Int32)  (hno : F_Mo_spaceOf fu x1 M r ≠ .no) : gMet l s0 D aC y_Mo_spaceOf (Cond.code y_Mo_spaceOf b_Mo_spaceOf 2 (some .int)) 3 69 0 0 [.ref (s0.heap.size + 383), .int x1] M r ow (qI (F_Mo_spaceOf fu x1 M r)) (qT (F_Mo_spaceOf fu x1 M r)) := by
  refine gm_of G (by decide) (Nat.le_of_ble_eq_true rfl) ?_
  intro p e s m below meth c ls B hexc hl hw
  have hx := B.1
  have hb := B.2.1
  have hown := B.2.2.2.2.2.1
  have T := B.2.2.2.2.2.2.1
  have hK := B.2.2.2.2.2.2.2.1
  have hF := F_Mo_spaceOf.eq_1 fu x1 M r
  refine lv_aload_n hx hb d_Mo_spaceOf_0 rfl (lv_at hl 0 rfl) ?_
  refine gf_Mo_colon hx hb T hown hK hw rfl (kf_Mo_44 T) d_Mo_spaceOf_1 ?_
  refine lv_iload_n hx hb d_Mo_spaceOf_4 rfl (lv_at hl 1 rfl) ?_
  have g6 := ng hno hF
  have hF := hF.trans (gd_yes g6)
  refine ga_Mo_colon hx hb hK hw rfl g6 d_Mo_spaceOf_5 ?_
  refine lv_if_ge hx hb d_Mo_spaceOf_6 rfl (fun h7 => ?_) (fun h7 => ?_)
  · skip
    have hF := hF.trans (if_pos h7)
    refine lv_aload_n hx hb d_Mo_spaceOf_13 rfl (lv_at hl 0 rfl) ?_
    refine lv_iload_n hx hb d_Mo_spaceOf_14 rfl (lv_at hl 1 rfl) ?_
    refine lv_bipush (v := 6) hx hb d_Mo_spaceOf_15 (by decide) ?_
    refine lv_idiv hx hb d_Mo_spaceOf_17 (by decide) ?_
    refine lv_aload_n hx hb d_Mo_spaceOf_18 rfl (lv_at hl 0 rfl) ?_
    refine gf_Mo_from hx hb T hown hK hw rfl (kf_Mo_38 T) d_Mo_spaceOf_19 ?_
    refine lv_iload_n hx hb d_Mo_spaceOf_22 rfl (lv_at hl 1 rfl) ?_
    have g8 := ng hno hF
    have hF := hF.trans (gd_yes g8)
    refine ga_Mo_from hx hb hK hw rfl g8 d_Mo_spaceOf_23 ?_
    refine lv_aload_n hx hb d_Mo_spaceOf_24 rfl (lv_at hl 0 rfl) ?_
    refine gf_Mo_colon hx hb T hown hK hw rfl (kf_Mo_44 T) d_Mo_spaceOf_25 ?_
    refine lv_iload_n hx hb d_Mo_spaceOf_28 rfl (lv_at hl 1 rfl) ?_
    have g9 := ng hno hF
    have hF := hF.trans (gd_yes g9)
    refine ga_Mo_colon hx hb hK hw rfl g9 d_Mo_spaceOf_29 ?_
    refine gy_V B hl.1 hw (t_Mo_declared G _ _ ow fu (x1 / 6) (M 116 x1.toNatClampNeg) (M 118 x1.toNatClampNeg) (nn hno hF)) (kd_Mo_declared T) (ki_Mo T) (km_Mo_208 T) (ka_Mo_declared T) (ks_Mo_declared T) ⟨by decide, by decide, by rfl⟩ (rv_Mo hK hw rfl) rfl (Nat.le_of_ble_eq_true rfl) ⟨by decide, by decide⟩ ⟨by decide, by decide⟩ d_Mo_spaceOf_30 (fun v M10 r10 H locs hw hp => ?_) (fun x ek M10 r10 H locs hw hE hp => gr_t B hexc hw hE (by decide) (by decide) (hF.trans (bnd_ex hp)))
    obtain ⟨v10, rfl, hp⟩ := hp
    have hF := hF.trans (bnd_ok hp)
    exact gr_i B hw d_Mo_spaceOf_33 ⟨_, rfl, hF⟩
  · skip
    have hF := hF.trans (if_neg h7)
    refine lv_iconst (v := -1) hx hb d_Mo_spaceOf_9 (by decide) ?_
    refine lv_goto hx hb d_Mo_spaceOf_10 rfl ?_
    exact gr_i B hw d_Mo_spaceOf_33 ⟨_, rfl, hF⟩
theorem d_Mo_compareValues_0 : decode b_Mo_compareValues 0 = .ok (.aload_n 0, 1) := by decide +kernel
theorem d_Mo_compareValues_1 : decode b_Mo_compareValues 1 = .ok (.aload_n 0, 1) := by decide +kernel
theorem d_Mo_compareValues_2 : decode b_Mo_compareValues 2 = .ok (.getfield 50, 3) := by decide +kernel
theorem d_Mo_compareValues_5 : decode b_Mo_compareValues 5 = .ok (.iload_n 1, 1) := by decide +kernel
theorem d_Mo_compareValues_6 : decode b_Mo_compareValues 6 = .ok (.iaload, 1) := by decide +kernel
theorem d_Mo_compareValues_7 : decode b_Mo_compareValues 7 = .ok (.aload_n 0, 1) := by decide +kernel
theorem d_Mo_compareValues_8 : decode b_Mo_compareValues 8 = .ok (.getfield 53, 3) := by decide +kernel
theorem d_Mo_compareValues_11 : decode b_Mo_compareValues 11 = .ok (.iload_n 1, 1) := by decide +kernel
theorem d_Mo_compareValues_12 : decode b_Mo_compareValues 12 = .ok (.iaload, 1) := by decide +kernel
theorem d_Mo_compareValues_13 : decode b_Mo_compareValues 13 = .ok (.aload_n 0, 1) := by decide +kernel
theorem d_Mo_compareValues_14 : decode b_Mo_compareValues 14 = .ok (.getfield 50, 3) := by decide +kernel
theorem d_Mo_compareValues_17 : decode b_Mo_compareValues 17 = .ok (.iload_n 2, 1) := by decide +kernel
theorem d_Mo_compareValues_18 : decode b_Mo_compareValues 18 = .ok (.iaload, 1) := by decide +kernel
theorem d_Mo_compareValues_19 : decode b_Mo_compareValues 19 = .ok (.aload_n 0, 1) := by decide +kernel
theorem d_Mo_compareValues_20 : decode b_Mo_compareValues 20 = .ok (.getfield 53, 3) := by decide +kernel
theorem d_Mo_compareValues_23 : decode b_Mo_compareValues 23 = .ok (.iload_n 2, 1) := by decide +kernel
theorem d_Mo_compareValues_24 : decode b_Mo_compareValues 24 = .ok (.iaload, 1) := by decide +kernel
theorem d_Mo_compareValues_25 : decode b_Mo_compareValues 25 = .ok (.invokevirtual 166, 3) := by decide +kernel
theorem d_Mo_compareValues_28 : decode b_Mo_compareValues 28 = .ok (.ireturn, 1) := by decide +kernel
set_option maxHeartbeats 4000000 in
set_option maxRecDepth 100000 in
theorem t_Mo_compareValues {l : Launch} {s0 : State} {D : va_G} {aC : Nat → ClassId} {a0 : Array Value} (G : gG l s0 D aC a0) (M : gMem) (r : gRef) (ow : Int64) (fu : Nat) (x1 : Int32) (x2 : Int32)  (hno : F_Mo_compareValues fu x1 x2 M r ≠ .no) : gMet l s0 D aC y_Mo_compareValues (Cond.code y_Mo_compareValues b_Mo_compareValues 3 (some .int)) 1 25 0 0 [.ref (s0.heap.size + 383), .int x1, .int x2] M r ow (qI (F_Mo_compareValues fu x1 x2 M r)) (qT (F_Mo_compareValues fu x1 x2 M r)) := by
  refine gm_of G (by decide) (Nat.le_of_ble_eq_true rfl) ?_
  intro p e s m below meth c ls B hexc hl hw
  have hx := B.1
  have hb := B.2.1
  have hown := B.2.2.2.2.2.1
  have T := B.2.2.2.2.2.2.1
  have hK := B.2.2.2.2.2.2.2.1
  have hF := F_Mo_compareValues.eq_1 fu x1 x2 M r
  refine lv_aload_n hx hb d_Mo_compareValues_0 rfl (lv_at hl 0 rfl) ?_
  refine lv_aload_n hx hb d_Mo_compareValues_1 rfl (lv_at hl 0 rfl) ?_
  refine gf_Mo_valueFrom hx hb T hown hK hw rfl (kf_Mo_50 T) d_Mo_compareValues_2 ?_
  refine lv_iload_n hx hb d_Mo_compareValues_5 rfl (lv_at hl 1 rfl) ?_
  have g6 := ng hno hF
  have hF := hF.trans (gd_yes g6)
  refine ga_Mo_valueFrom hx hb hK hw rfl g6 d_Mo_compareValues_6 ?_
  refine lv_aload_n hx hb d_Mo_compareValues_7 rfl (lv_at hl 0 rfl) ?_
  refine gf_Mo_valueSize hx hb T hown hK hw rfl (kf_Mo_53 T) d_Mo_compareValues_8 ?_
  refine lv_iload_n hx hb d_Mo_compareValues_11 rfl (lv_at hl 1 rfl) ?_
  have g7 := ng hno hF
  have hF := hF.trans (gd_yes g7)
  refine ga_Mo_valueSize hx hb hK hw rfl g7 d_Mo_compareValues_12 ?_
  refine lv_aload_n hx hb d_Mo_compareValues_13 rfl (lv_at hl 0 rfl) ?_
  refine gf_Mo_valueFrom hx hb T hown hK hw rfl (kf_Mo_50 T) d_Mo_compareValues_14 ?_
  refine lv_iload_n hx hb d_Mo_compareValues_17 rfl (lv_at hl 2 rfl) ?_
  have g8 := ng hno hF
  have hF := hF.trans (gd_yes g8)
  refine ga_Mo_valueFrom hx hb hK hw rfl g8 d_Mo_compareValues_18 ?_
  refine lv_aload_n hx hb d_Mo_compareValues_19 rfl (lv_at hl 0 rfl) ?_
  refine gf_Mo_valueSize hx hb T hown hK hw rfl (kf_Mo_53 T) d_Mo_compareValues_20 ?_
  refine lv_iload_n hx hb d_Mo_compareValues_23 rfl (lv_at hl 2 rfl) ?_
  have g9 := ng hno hF
  have hF := hF.trans (gd_yes g9)
  refine ga_Mo_valueSize hx hb hK hw rfl g9 d_Mo_compareValues_24 ?_
  refine gy_V B hl.1 hw (t_Mo_compare G _ _ ow fu (M 120 x1.toNatClampNeg) (M 121 x1.toNatClampNeg) (M 120 x2.toNatClampNeg) (M 121 x2.toNatClampNeg) (nn hno hF)) (kd_Mo_compare T) (ki_Mo T) (km_Mo_166 T) (ka_Mo_compare T) (ks_Mo_compare T) ⟨by decide, by decide, by rfl⟩ (rv_Mo hK hw rfl) rfl (Nat.le_of_ble_eq_true rfl) ⟨by decide, by decide⟩ ⟨by decide, by decide⟩ d_Mo_compareValues_25 (fun v M10 r10 H locs hw hp => ?_) (fun x ek M10 r10 H locs hw hE hp => gr_t B hexc hw hE (by decide) (by decide) (hF.trans (bnd_ex hp)))
  obtain ⟨v10, rfl, hp⟩ := hp
  have hF := hF.trans (bnd_ok hp)
  exact gr_i B hw d_Mo_compareValues_28 ⟨_, rfl, hF⟩
theorem d_Mo_checkTwins_0 : decode b_Mo_checkTwins 0 = .ok (.iload_n 1, 1) := by decide +kernel
theorem d_Mo_checkTwins_1 : decode b_Mo_checkTwins 1 = .ok (.istore_n 3, 1) := by decide +kernel
theorem d_Mo_checkTwins_2 : decode b_Mo_checkTwins 2 = .ok (.iload_n 3, 1) := by decide +kernel
theorem d_Mo_checkTwins_3 : decode b_Mo_checkTwins 3 = .ok (.iload_n 2, 1) := by decide +kernel
theorem d_Mo_checkTwins_4 : decode b_Mo_checkTwins 4 = .ok (.if_icmp .ge 132, 3) := by decide +kernel
theorem d_Mo_checkTwins_7 : decode b_Mo_checkTwins 7 = .ok (.iload_n 1, 1) := by decide +kernel
theorem d_Mo_checkTwins_8 : decode b_Mo_checkTwins 8 = .ok (.istore 4, 2) := by decide +kernel
theorem d_Mo_checkTwins_10 : decode b_Mo_checkTwins 10 = .ok (.iload 4, 2) := by decide +kernel
theorem d_Mo_checkTwins_12 : decode b_Mo_checkTwins 12 = .ok (.iload_n 3, 1) := by decide +kernel
theorem d_Mo_checkTwins_13 : decode b_Mo_checkTwins 13 = .ok (.if_icmp .ge 117, 3) := by decide +kernel
theorem d_Mo_checkTwins_16 : decode b_Mo_checkTwins 16 = .ok (.aload_n 0, 1) := by decide +kernel
theorem d_Mo_checkTwins_17 : decode b_Mo_checkTwins 17 = .ok (.iload_n 3, 1) := by decide +kernel
theorem d_Mo_checkTwins_18 : decode b_Mo_checkTwins 18 = .ok (.invokevirtual 205, 3) := by decide +kernel
theorem d_Mo_checkTwins_21 : decode b_Mo_checkTwins 21 = .ok (.ifCond .ne 35, 3) := by decide +kernel
theorem d_Mo_checkTwins_24 : decode b_Mo_checkTwins 24 = .ok (.aload_n 0, 1) := by decide +kernel
theorem d_Mo_checkTwins_25 : decode b_Mo_checkTwins 25 = .ok (.iload 4, 2) := by decide +kernel
theorem d_Mo_checkTwins_27 : decode b_Mo_checkTwins 27 = .ok (.invokevirtual 205, 3) := by decide +kernel
theorem d_Mo_checkTwins_30 : decode b_Mo_checkTwins 30 = .ok (.ifCond .ne 26, 3) := by decide +kernel
theorem d_Mo_checkTwins_33 : decode b_Mo_checkTwins 33 = .ok (.aload_n 0, 1) := by decide +kernel
theorem d_Mo_checkTwins_34 : decode b_Mo_checkTwins 34 = .ok (.getfield 44, 3) := by decide +kernel
theorem d_Mo_checkTwins_37 : decode b_Mo_checkTwins 37 = .ok (.iload_n 3, 1) := by decide +kernel
theorem d_Mo_checkTwins_38 : decode b_Mo_checkTwins 38 = .ok (.iaload, 1) := by decide +kernel
theorem d_Mo_checkTwins_39 : decode b_Mo_checkTwins 39 = .ok (.ifCond .lt 17, 3) := by decide +kernel
theorem d_Mo_checkTwins_42 : decode b_Mo_checkTwins 42 = .ok (.aload_n 0, 1) := by decide +kernel
theorem d_Mo_checkTwins_43 : decode b_Mo_checkTwins 43 = .ok (.getfield 44, 3) := by decide +kernel
theorem d_Mo_checkTwins_46 : decode b_Mo_checkTwins 46 = .ok (.iload 4, 2) := by decide +kernel
theorem d_Mo_checkTwins_48 : decode b_Mo_checkTwins 48 = .ok (.iaload, 1) := by decide +kernel
theorem d_Mo_checkTwins_49 : decode b_Mo_checkTwins 49 = .ok (.ifCond .lt 7, 3) := by decide +kernel
theorem d_Mo_checkTwins_52 : decode b_Mo_checkTwins 52 = .ok (.iconst 1, 1) := by decide +kernel
theorem d_Mo_checkTwins_53 : decode b_Mo_checkTwins 53 = .ok (.goto 4, 3) := by decide +kernel
theorem d_Mo_checkTwins_56 : decode b_Mo_checkTwins 56 = .ok (.iconst 0, 1) := by decide +kernel
theorem d_Mo_checkTwins_57 : decode b_Mo_checkTwins 57 = .ok (.istore 5, 2) := by decide +kernel
theorem d_Mo_checkTwins_59 : decode b_Mo_checkTwins 59 = .ok (.iload 5, 2) := by decide +kernel
theorem d_Mo_checkTwins_61 : decode b_Mo_checkTwins 61 = .ok (.ifCond .eq 63, 3) := by decide +kernel
theorem d_Mo_checkTwins_64 : decode b_Mo_checkTwins 64 = .ok (.aload_n 0, 1) := by decide +kernel
theorem d_Mo_checkTwins_65 : decode b_Mo_checkTwins 65 = .ok (.aload_n 0, 1) := by decide +kernel
theorem d_Mo_checkTwins_66 : decode b_Mo_checkTwins 66 = .ok (.iload_n 3, 1) := by decide +kernel
theorem d_Mo_checkTwins_67 : decode b_Mo_checkTwins 67 = .ok (.invokevirtual 199, 3) := by decide +kernel
theorem d_Mo_checkTwins_70 : decode b_Mo_checkTwins 70 = .ok (.aload_n 0, 1) := by decide +kernel
theorem d_Mo_checkTwins_71 : decode b_Mo_checkTwins 71 = .ok (.iload_n 3, 1) := by decide +kernel
theorem d_Mo_checkTwins_72 : decode b_Mo_checkTwins 72 = .ok (.invokevirtual 202, 3) := by decide +kernel
theorem d_Mo_checkTwins_75 : decode b_Mo_checkTwins 75 = .ok (.aload_n 0, 1) := by decide +kernel
theorem d_Mo_checkTwins_76 : decode b_Mo_checkTwins 76 = .ok (.iload 4, 2) := by decide +kernel
theorem d_Mo_checkTwins_78 : decode b_Mo_checkTwins 78 = .ok (.invokevirtual 199, 3) := by decide +kernel
theorem d_Mo_checkTwins_81 : decode b_Mo_checkTwins 81 = .ok (.aload_n 0, 1) := by decide +kernel
theorem d_Mo_checkTwins_82 : decode b_Mo_checkTwins 82 = .ok (.iload 4, 2) := by decide +kernel
theorem d_Mo_checkTwins_84 : decode b_Mo_checkTwins 84 = .ok (.invokevirtual 202, 3) := by decide +kernel
theorem d_Mo_checkTwins_87 : decode b_Mo_checkTwins 87 = .ok (.invokevirtual 166, 3) := by decide +kernel
theorem d_Mo_checkTwins_90 : decode b_Mo_checkTwins 90 = .ok (.ifCond .ne 34, 3) := by decide +kernel
theorem d_Mo_checkTwins_93 : decode b_Mo_checkTwins 93 = .ok (.aload_n 0, 1) := by decide +kernel
theorem d_Mo_checkTwins_94 : decode b_Mo_checkTwins 94 = .ok (.aload_n 0, 1) := by decide +kernel
theorem d_Mo_checkTwins_95 : decode b_Mo_checkTwins 95 = .ok (.iload_n 3, 1) := by decide +kernel
theorem d_Mo_checkTwins_96 : decode b_Mo_checkTwins 96 = .ok (.invokevirtual 212, 3) := by decide +kernel
theorem d_Mo_checkTwins_99 : decode b_Mo_checkTwins 99 = .ok (.aload_n 0, 1) := by decide +kernel
theorem d_Mo_checkTwins_100 : decode b_Mo_checkTwins 100 = .ok (.iload 4, 2) := by decide +kernel
theorem d_Mo_checkTwins_102 : decode b_Mo_checkTwins 102 = .ok (.invokevirtual 212, 3) := by decide +kernel
theorem d_Mo_checkTwins_105 : decode b_Mo_checkTwins 105 = .ok (.invokevirtual 218, 3) := by decide +kernel
theorem d_Mo_checkTwins_108 : decode b_Mo_checkTwins 108 = .ok (.ifCond .ne 16, 3) := by decide +kernel
theorem d_Mo_checkTwins_111 : decode b_Mo_checkTwins 111 = .ok (.aload_n 0, 1) := by decide +kernel
theorem d_Mo_checkTwins_112 : decode b_Mo_checkTwins 112 = .ok (.bipush 8, 2) := by decide +kernel
theorem d_Mo_checkTwins_114 : decode b_Mo_checkTwins 114 = .ok (.aload_n 0, 1) := by decide +kernel
theorem d_Mo_checkTwins_115 : decode b_Mo_checkTwins 115 = .ok (.getfield 47, 3) := by decide +kernel
theorem d_Mo_checkTwins_118 : decode b_Mo_checkTwins 118 = .ok (.iload_n 3, 1) := by decide +kernel
theorem d_Mo_checkTwins_119 : decode b_Mo_checkTwins 119 = .ok (.iaload, 1) := by decide +kernel
theorem d_Mo_checkTwins_120 : decode b_Mo_checkTwins 120 = .ok (.invokevirtual 88, 3) := by decide +kernel
theorem d_Mo_checkTwins_123 : decode b_Mo_checkTwins 123 = .ok (.ireturn, 1) := by decide +kernel
theorem d_Mo_checkTwins_124 : decode b_Mo_checkTwins 124 = .ok (.iinc 4 1, 3) := by decide +kernel
theorem d_Mo_checkTwins_127 : decode b_Mo_checkTwins 127 = .ok (.goto (-117), 3) := by decide +kernel
theorem d_Mo_checkTwins_130 : decode b_Mo_checkTwins 130 = .ok (.iinc 3 1, 3) := by decide +kernel
theorem d_Mo_checkTwins_133 : decode b_Mo_checkTwins 133 = .ok (.goto (-131), 3) := by decide +kernel
theorem d_Mo_checkTwins_136 : decode b_Mo_checkTwins 136 = .ok (.iconst 1, 1) := by decide +kernel
theorem d_Mo_checkTwins_137 : decode b_Mo_checkTwins 137 = .ok (.ireturn, 1) := by decide +kernel
set_option maxHeartbeats 4000000 in
set_option maxRecDepth 100000 in
theorem t_Mo_checkTwins {l : Launch} {s0 : State} {D : va_G} {aC : Nat → ClassId} {a0 : Array Value} (G : gG l s0 D aC a0) (M : gMem) (r : gRef) (ow : Int64) (fu : Nat) (x1 : Int32) (x2 : Int32)  (hno : F_Mo_checkTwins fu x1 x2 M r ≠ .no) : gMet l s0 D aC y_Mo_checkTwins (Cond.code y_Mo_checkTwins b_Mo_checkTwins 6 (some .boolean)) 4 90 0 0 [.ref (s0.heap.size + 383), .int x1, .int x2] M r ow (qI (F_Mo_checkTwins fu x1 x2 M r)) (qT (F_Mo_checkTwins fu x1 x2 M r)) := by
  refine gm_of G (by decide) (Nat.le_of_ble_eq_true rfl) ?_
  intro p e s m below meth c ls B hexc hl hw
  have hx := B.1
  have hb := B.2.1
  have hown := B.2.2.2.2.2.1
  have T := B.2.2.2.2.2.2.1
  have hK := B.2.2.2.2.2.2.2.1
  have X136 : ∀ (M1 : gMem) (r1 : gRef) (H : Heap) (locs : List Loc) (ls : Array Slot), lv_has ls 6 [] → gWd s0 D aC M1 r1 ow H locs → F_Mo_checkTwins fu x1 x2 M r = F_Mo_checkTwins_B136 fu x1 x2 M1 r1 → W p l e (gRm 4 90 0 0) s m ([.ref (s0.heap.size + 383), .int x1, .int x2] : List Value).toArray below meth c H locs 0 0 (gt_Q below (gQ s0 D aC ow (qI (F_Mo_checkTwins fu x1 x2 M r)) (qT (F_Mo_checkTwins fu x1 x2 M r))) s 0 0 0 0 (fun q => s0.heap.size ≤ q)) (F0 m 136 ls []) := by
    intro  M1 r1 H locs ls hl hw hF
    have hF := hF.trans (F_Mo_checkTwins_B136.eq_1 _ _ _ _ _)
    refine lv_iconst (v := 1) hx hb d_Mo_checkTwins_136 (by decide) ?_
    exact gr_z B hw (by rfl) d_Mo_checkTwins_137 ⟨_, rfl, hF⟩
  have L2 : ∀ (d : Nat) (x3 : Int32) (M1 : gMem) (r1 : gRef) (H : Heap) (locs : List Loc) (ls : Array Slot), lv_has ls 6 [(3, .int x3), (0, .ref (s0.heap.size + 383)), (1, .int x1), (2, .int x2)] → gWd s0 D aC M1 r1 ow H locs → F_Mo_checkTwins fu x1 x2 M r = F_Mo_checkTwins_L2 fu x1 x2 d x3 M1 r1 → W p l e (gRm 4 90 0 0) s m ([.ref (s0.heap.size + 383), .int x1, .int x2] : List Value).toArray below meth c H locs 0 0 (gt_Q below (gQ s0 D aC ow (qI (F_Mo_checkTwins fu x1 x2 M r)) (qT (F_Mo_checkTwins fu x1 x2 M r))) s 0 0 0 0 (fun q => s0.heap.size ≤ q)) (F0 m 2 ls []) := by
    intro d
    induction d with
    | zero => intro x3 M1 r1 H locs ls hl hw hF; exact absurd hF hno
    | succ d ih =>
      intro x3 M1 r1 H locs ls hl hw hF
      have hF := hF.trans (F_Mo_checkTwins_L2.eq_2 _ _ _ _ _ _ _)
      refine lv_iload_n hx hb d_Mo_checkTwins_2 rfl (lv_at hl 0 rfl) ?_
      refine lv_iload_n hx hb d_Mo_checkTwins_3 rfl (lv_at hl 3 rfl) ?_
      refine lv_icmp_ge hx hb d_Mo_checkTwins_4 rfl (fun h25 => ?_) (fun h25 => ?_)
      · skip
        have hF := hF.trans (if_pos h25)
        exact X136  _ _ _ _ _ (gv_loc hl [] rfl) hw hF
      · skip
        have hF := hF.trans (if_neg h25)
        refine lv_iload_n hx hb d_Mo_checkTwins_7 rfl (lv_at hl 2 rfl) ?_
        refine lv_istore hx hb d_Mo_checkTwins_8 hl (by decide) rfl (fun ls hl => ?_)
        have I10 : ∀ (d2 : Nat) (x4 : Int32) (M1 : gMem) (r1 : gRef) (H : Heap) (locs : List Loc) (ls : Array Slot), lv_has ls 6 [(0, .ref (s0.heap.size + 383)), (1, .int x1), (2, .int x2), (3, .int x3), (4, .int x4)] → gWd s0 D aC M1 r1 ow H locs → F_Mo_checkTwins fu x1 x2 M r = gO.bnd (F_Mo_checkTwins_I10 fu x1 x2 d2 x3 x4 M1 r1) (fun s48 M48 r48 => gsm s48 (fun v => .ok v M48 r48) (fun _ => F_Mo_checkTwins_L2 fu x1 x2 d (x3 + 1) M48 r48)) → W p l e (gRm 4 90 0 0) s m ([.ref (s0.heap.size + 383), .int x1, .int x2] : List Value).toArray below meth c H locs 0 0 (gt_Q below (gQ s0 D aC ow (qI (F_Mo_checkTwins fu x1 x2 M r)) (qT (F_Mo_checkTwins fu x1 x2 M r))) s 0 0 0 0 (fun q => s0.heap.size ≤ q)) (F0 m 10 ls []) := by
          intro d2
          induction d2 with
          | zero => intro x4 M1 r1 H locs ls hl hw hF; exact absurd hF hno
          | succ d2 ih2 =>
            intro x4 M1 r1 H locs ls hl hw hF
            have hF := hF.trans (bnc (F_Mo_checkTwins_I10.eq_2 _ _ _ _ _ _ _ _))
            refine lv_iload hx hb d_Mo_checkTwins_10 (lv_at hl 4 rfl) ?_
            refine lv_iload_n hx hb d_Mo_checkTwins_12 rfl (lv_at hl 3 rfl) ?_
            refine lv_icmp_ge hx hb d_Mo_checkTwins_13 rfl (fun h49 => ?_) (fun h49 => ?_)
            · skip
              have hF := hF.trans (bnc (if_pos h49))
              have hF := hF.trans (show _ = F_Mo_checkTwins_L2 fu x1 x2 d (x3 + 1) M1 r1 from rfl)
              refine lv_iinc (k := 3) hx hb d_Mo_checkTwins_130 hl rfl (show _ + Int32.ofInt 1 = _ + 1 from rfl) (by decide) rfl (fun ls hl => ?_)
              refine lv_goto hx hb d_Mo_checkTwins_133 rfl ?_
              exact ih (x3 + 1) _ _ _ _ _ (gv_loc hl [0, 1, 2, 3] rfl) hw hF
            · skip
              have hF := hF.trans (bnc (if_neg h49))
              refine lv_aload_n hx hb d_Mo_checkTwins_16 rfl (lv_at hl 0 rfl) ?_
              refine lv_iload_n hx hb d_Mo_checkTwins_17 rfl (lv_at hl 3 rfl) ?_
              refine gy_V B hl.1 hw (t_Mo_declares G _ _ ow fu x3 (nn2 hno hF)) (kd_Mo_declares T) (ki_Mo T) (km_Mo_205 T) (ka_Mo_declares T) (ks_Mo_declares T) ⟨by decide, by decide, by rfl⟩ (rv_Mo hK hw rfl) rfl (Nat.le_of_ble_eq_true rfl) ⟨by decide, by decide⟩ ⟨by decide, by decide⟩ d_Mo_checkTwins_18 (fun v M50 r50 H locs hw hp => ?_) (fun x ek M50 r50 H locs hw hE hp => gr_t B hexc hw hE (by decide) (by decide) (hF.trans (bnc (bnd_ex hp))))
              obtain ⟨v50, rfl, hp⟩ := hp
              have hF := hF.trans (bnc (bnd_ok hp))
              refine lv_if_ne hx hb d_Mo_checkTwins_21 rfl (fun h51 => ?_) (fun h51 => ?_)
              · skip
                have hF := hF.trans (bnc (if_neg h51))
                refine lv_iconst (v := 0) hx hb d_Mo_checkTwins_56 (by decide) ?_
                refine lv_istore hx hb d_Mo_checkTwins_57 hl (by decide) rfl (fun ls hl => ?_)
                refine lv_iload hx hb d_Mo_checkTwins_59 (lv_at hl 0 rfl) ?_
                refine lv_if_eq hx hb d_Mo_checkTwins_61 rfl (fun _ => ?_) (fun h => absurd h (by decide))
                refine lv_iinc (k := 5) hx hb d_Mo_checkTwins_124 hl rfl (show _ + Int32.ofInt 1 = _ + 1 from rfl) (by decide) rfl (fun ls hl => ?_)
                refine lv_goto hx hb d_Mo_checkTwins_127 rfl ?_
                exact ih2 (x4 + 1) _ _ _ _ _ (gv_loc hl [2, 3, 4, 5, 0] rfl) hw hF
              · skip
                have hF := hF.trans (bnc (if_pos h51))
                refine lv_aload_n hx hb d_Mo_checkTwins_24 rfl (lv_at hl 0 rfl) ?_
                refine lv_iload hx hb d_Mo_checkTwins_25 (lv_at hl 4 rfl) ?_
                refine gy_V B hl.1 hw (t_Mo_declares G _ _ ow fu x4 (nn2 hno hF)) (kd_Mo_declares T) (ki_Mo T) (km_Mo_205 T) (ka_Mo_declares T) (ks_Mo_declares T) ⟨by decide, by decide, by rfl⟩ (rv_Mo hK hw rfl) rfl (Nat.le_of_ble_eq_true rfl) ⟨by decide, by decide⟩ ⟨by decide, by decide⟩ d_Mo_checkTwins_27 (fun v M52 r52 H locs hw hp => ?_) (fun x ek M52 r52 H locs hw hE hp => gr_t B hexc hw hE (by decide) (by decide) (hF.trans (bnc (bnd_ex hp))))
                obtain ⟨v52, rfl, hp⟩ := hp
                have hF := hF.trans (bnc (bnd_ok hp))
                refine lv_if_ne hx hb d_Mo_checkTwins_30 rfl (fun h53 => ?_) (fun h53 => ?_)
                · skip
                  have hF := hF.trans (bnc (if_neg h53))
                  refine lv_iconst (v := 0) hx hb d_Mo_checkTwins_56 (by decide) ?_
                  refine lv_istore hx hb d_Mo_checkTwins_57 hl (by decide) rfl (fun ls hl => ?_)
                  refine lv_iload hx hb d_Mo_checkTwins_59 (lv_at hl 0 rfl) ?_
                  refine lv_if_eq hx hb d_Mo_checkTwins_61 rfl (fun _ => ?_) (fun h => absurd h (by decide))
                  refine lv_iinc (k := 5) hx hb d_Mo_checkTwins_124 hl rfl (show _ + Int32.ofInt 1 = _ + 1 from rfl) (by decide) rfl (fun ls hl => ?_)
                  refine lv_goto hx hb d_Mo_checkTwins_127 rfl ?_
                  exact ih2 (x4 + 1) _ _ _ _ _ (gv_loc hl [2, 3, 4, 5, 0] rfl) hw hF
                · skip
                  have hF := hF.trans (bnc (if_pos h53))
                  refine lv_aload_n hx hb d_Mo_checkTwins_33 rfl (lv_at hl 0 rfl) ?_
                  refine gf_Mo_colon hx hb T hown hK hw rfl (kf_Mo_44 T) d_Mo_checkTwins_34 ?_
                  refine lv_iload_n hx hb d_Mo_checkTwins_37 rfl (lv_at hl 3 rfl) ?_
                  have g54 := ng2 hno hF
                  have hF := hF.trans (bnc (gd_yes g54))
                  refine ga_Mo_colon hx hb hK hw rfl g54 d_Mo_checkTwins_38 ?_
                  refine lv_if_lt hx hb d_Mo_checkTwins_39 rfl (fun h55 => ?_) (fun h55 => ?_)
                  · skip
                    have hF := hF.trans (bnc (if_pos h55))
                    refine lv_iconst (v := 0) hx hb d_Mo_checkTwins_56 (by decide) ?_
                    refine lv_istore hx hb d_Mo_checkTwins_57 hl (by decide) rfl (fun ls hl => ?_)
                    refine lv_iload hx hb d_Mo_checkTwins_59 (lv_at hl 0 rfl) ?_
                    refine lv_if_eq hx hb d_Mo_checkTwins_61 rfl (fun _ => ?_) (fun h => absurd h (by decide))
                    refine lv_iinc (k := 5) hx hb d_Mo_checkTwins_124 hl rfl (show _ + Int32.ofInt 1 = _ + 1 from rfl) (by decide) rfl (fun ls hl => ?_)
                    refine lv_goto hx hb d_Mo_checkTwins_127 rfl ?_
                    exact ih2 (x4 + 1) _ _ _ _ _ (gv_loc hl [2, 3, 4, 5, 0] rfl) hw hF
                  · skip
                    have hF := hF.trans (bnc (if_neg h55))
                    refine lv_aload_n hx hb d_Mo_checkTwins_42 rfl (lv_at hl 0 rfl) ?_
                    refine gf_Mo_colon hx hb T hown hK hw rfl (kf_Mo_44 T) d_Mo_checkTwins_43 ?_
                    refine lv_iload hx hb d_Mo_checkTwins_46 (lv_at hl 4 rfl) ?_
                    have g56 := ng2 hno hF
                    have hF := hF.trans (bnc (gd_yes g56))
                    refine ga_Mo_colon hx hb hK hw rfl g56 d_Mo_checkTwins_48 ?_
                    refine lv_if_lt hx hb d_Mo_checkTwins_49 rfl (fun h57 => ?_) (fun h57 => ?_)
                    · skip
                      have hF := hF.trans (bnc (if_pos h57))
                      refine lv_iconst (v := 0) hx hb d_Mo_checkTwins_56 (by decide) ?_
                      refine lv_istore hx hb d_Mo_checkTwins_57 hl (by decide) rfl (fun ls hl => ?_)
                      refine lv_iload hx hb d_Mo_checkTwins_59 (lv_at hl 0 rfl) ?_
                      refine lv_if_eq hx hb d_Mo_checkTwins_61 rfl (fun _ => ?_) (fun h => absurd h (by decide))
                      refine lv_iinc (k := 5) hx hb d_Mo_checkTwins_124 hl rfl (show _ + Int32.ofInt 1 = _ + 1 from rfl) (by decide) rfl (fun ls hl => ?_)
                      refine lv_goto hx hb d_Mo_checkTwins_127 rfl ?_
                      exact ih2 (x4 + 1) _ _ _ _ _ (gv_loc hl [2, 3, 4, 5, 0] rfl) hw hF
                    · skip
                      have hF := hF.trans (bnc (if_neg h57))
                      refine lv_iconst (v := 1) hx hb d_Mo_checkTwins_52 (by decide) ?_
                      refine lv_goto hx hb d_Mo_checkTwins_53 rfl ?_
                      refine lv_istore hx hb d_Mo_checkTwins_57 hl (by decide) rfl (fun ls hl => ?_)
                      refine lv_iload hx hb d_Mo_checkTwins_59 (lv_at hl 0 rfl) ?_
                      refine lv_if_eq hx hb d_Mo_checkTwins_61 rfl (fun h => absurd h (by decide)) (fun _ => ?_)
                      refine lv_aload_n hx hb d_Mo_checkTwins_64 rfl (lv_at hl 1 rfl) ?_
                      refine lv_aload_n hx hb d_Mo_checkTwins_65 rfl (lv_at hl 1 rfl) ?_
                      refine lv_iload_n hx hb d_Mo_checkTwins_66 rfl (lv_at hl 4 rfl) ?_
                      refine gy_V B hl.1 hw (t_Mo_local G _ _ ow fu x3 (nn2 hno hF)) (kd_Mo_local T) (ki_Mo T) (km_Mo_199 T) (ka_Mo_local T) (ks_Mo_local T) ⟨by decide, by decide, by rfl⟩ (rv_Mo hK hw rfl) rfl (Nat.le_of_ble_eq_true rfl) ⟨by decide, by decide⟩ ⟨by decide, by decide⟩ d_Mo_checkTwins_67 (fun v M58 r58 H locs hw hp => ?_) (fun x ek M58 r58 H locs hw hE hp => gr_t B hexc hw hE (by decide) (by decide) (hF.trans (bnc (bnd_ex hp))))
                      obtain ⟨v58, rfl, hp⟩ := hp
                      have hF := hF.trans (bnc (bnd_ok hp))
                      refine lv_aload_n hx hb d_Mo_checkTwins_70 rfl (lv_at hl 1 rfl) ?_
                      refine lv_iload_n hx hb d_Mo_checkTwins_71 rfl (lv_at hl 4 rfl) ?_
                      refine gy_V B hl.1 hw (t_Mo_localSize G _ _ ow fu x3 (nn2 hno hF)) (kd_Mo_localSize T) (ki_Mo T) (km_Mo_202 T) (ka_Mo_localSize T) (ks_Mo_localSize T) ⟨by decide, by decide, by rfl⟩ (rv_Mo hK hw rfl) rfl (Nat.le_of_ble_eq_true rfl) ⟨by decide, by decide⟩ ⟨by decide, by decide⟩ d_Mo_checkTwins_72 (fun v M59 r59 H locs hw hp => ?_) (fun x ek M59 r59 H locs hw hE hp => gr_t B hexc hw hE (by decide) (by decide) (hF.trans (bnc (bnd_ex hp))))
                      obtain ⟨v59, rfl, hp⟩ := hp
                      have hF := hF.trans (bnc (bnd_ok hp))
                      refine lv_aload_n hx hb d_Mo_checkTwins_75 rfl (lv_at hl 1 rfl) ?_
                      refine lv_iload hx hb d_Mo_checkTwins_76 (lv_at hl 5 rfl) ?_
                      refine gy_V B hl.1 hw (t_Mo_local G _ _ ow fu x4 (nn2 hno hF)) (kd_Mo_local T) (ki_Mo T) (km_Mo_199 T) (ka_Mo_local T) (ks_Mo_local T) ⟨by decide, by decide, by rfl⟩ (rv_Mo hK hw rfl) rfl (Nat.le_of_ble_eq_true rfl) ⟨by decide, by decide⟩ ⟨by decide, by decide⟩ d_Mo_checkTwins_78 (fun v M60 r60 H locs hw hp => ?_) (fun x ek M60 r60 H locs hw hE hp => gr_t B hexc hw hE (by decide) (by decide) (hF.trans (bnc (bnd_ex hp))))
                      obtain ⟨v60, rfl, hp⟩ := hp
                      have hF := hF.trans (bnc (bnd_ok hp))
                      refine lv_aload_n hx hb d_Mo_checkTwins_81 rfl (lv_at hl 1 rfl) ?_
                      refine lv_iload hx hb d_Mo_checkTwins_82 (lv_at hl 5 rfl) ?_
                      refine gy_V B hl.1 hw (t_Mo_localSize G _ _ ow fu x4 (nn2 hno hF)) (kd_Mo_localSize T) (ki_Mo T) (km_Mo_202 T) (ka_Mo_localSize T) (ks_Mo_localSize T) ⟨by decide, by decide, by rfl⟩ (rv_Mo hK hw rfl) rfl (Nat.le_of_ble_eq_true rfl) ⟨by decide, by decide⟩ ⟨by decide, by decide⟩ d_Mo_checkTwins_84 (fun v M61 r61 H locs hw hp => ?_) (fun x ek M61 r61 H locs hw hE hp => gr_t B hexc hw hE (by decide) (by decide) (hF.trans (bnc (bnd_ex hp))))
                      obtain ⟨v61, rfl, hp⟩ := hp
                      have hF := hF.trans (bnc (bnd_ok hp))
                      refine gy_V B hl.1 hw (t_Mo_compare G _ _ ow fu v58 v59 v60 v61 (nn2 hno hF)) (kd_Mo_compare T) (ki_Mo T) (km_Mo_166 T) (ka_Mo_compare T) (ks_Mo_compare T) ⟨by decide, by decide, by rfl⟩ (rv_Mo hK hw rfl) rfl (Nat.le_of_ble_eq_true rfl) ⟨by decide, by decide⟩ ⟨by decide, by decide⟩ d_Mo_checkTwins_87 (fun v M62 r62 H locs hw hp => ?_) (fun x ek M62 r62 H locs hw hE hp => gr_t B hexc hw hE (by decide) (by decide) (hF.trans (bnc (bnd_ex hp))))
                      obtain ⟨v62, rfl, hp⟩ := hp
                      have hF := hF.trans (bnc (bnd_ok hp))
                      refine lv_if_ne hx hb d_Mo_checkTwins_90 rfl (fun h63 => ?_) (fun h63 => ?_)
                      · skip
                        have hF := hF.trans (bnc (if_neg h63))
                        refine lv_iinc (k := 5) hx hb d_Mo_checkTwins_124 hl rfl (show _ + Int32.ofInt 1 = _ + 1 from rfl) (by decide) rfl (fun ls hl => ?_)
                        refine lv_goto hx hb d_Mo_checkTwins_127 rfl ?_
                        exact ih2 (x4 + 1) _ _ _ _ _ (gv_loc hl [2, 3, 4, 5, 0] rfl) hw hF
                      · skip
                        have hF := hF.trans (bnc (if_pos h63))
                        refine lv_aload_n hx hb d_Mo_checkTwins_93 rfl (lv_at hl 1 rfl) ?_
                        refine lv_aload_n hx hb d_Mo_checkTwins_94 rfl (lv_at hl 1 rfl) ?_
                        refine lv_iload_n hx hb d_Mo_checkTwins_95 rfl (lv_at hl 4 rfl) ?_
                        refine gy_V B hl.1 hw (t_Mo_spaceOf G _ _ ow fu x3 (nn2 hno hF)) (kd_Mo_spaceOf T) (ki_Mo T) (km_Mo_212 T) (ka_Mo_spaceOf T) (ks_Mo_spaceOf T) ⟨by decide, by decide, by rfl⟩ (rv_Mo hK hw rfl) rfl (Nat.le_of_ble_eq_true rfl) ⟨by decide, by decide⟩ ⟨by decide, by decide⟩ d_Mo_checkTwins_96 (fun v M64 r64 H locs hw hp => ?_) (fun x ek M64 r64 H locs hw hE hp => gr_t B hexc hw hE (by decide) (by decide) (hF.trans (bnc (bnd_ex hp))))
                        obtain ⟨v64, rfl, hp⟩ := hp
                        have hF := hF.trans (bnc (bnd_ok hp))
                        refine lv_aload_n hx hb d_Mo_checkTwins_99 rfl (lv_at hl 1 rfl) ?_
                        refine lv_iload hx hb d_Mo_checkTwins_100 (lv_at hl 5 rfl) ?_
                        refine gy_V B hl.1 hw (t_Mo_spaceOf G _ _ ow fu x4 (nn2 hno hF)) (kd_Mo_spaceOf T) (ki_Mo T) (km_Mo_212 T) (ka_Mo_spaceOf T) (ks_Mo_spaceOf T) ⟨by decide, by decide, by rfl⟩ (rv_Mo hK hw rfl) rfl (Nat.le_of_ble_eq_true rfl) ⟨by decide, by decide⟩ ⟨by decide, by decide⟩ d_Mo_checkTwins_102 (fun v M65 r65 H locs hw hp => ?_) (fun x ek M65 r65 H locs hw hE hp => gr_t B hexc hw hE (by decide) (by decide) (hF.trans (bnc (bnd_ex hp))))
                        obtain ⟨v65, rfl, hp⟩ := hp
                        have hF := hF.trans (bnc (bnd_ok hp))
                        refine gy_V B hl.1 hw (t_Mo_compareValues G _ _ ow fu v64 v65 (nn2 hno hF)) (kd_Mo_compareValues T) (ki_Mo T) (km_Mo_218 T) (ka_Mo_compareValues T) (ks_Mo_compareValues T) ⟨by decide, by decide, by rfl⟩ (rv_Mo hK hw rfl) rfl (Nat.le_of_ble_eq_true rfl) ⟨by decide, by decide⟩ ⟨by decide, by decide⟩ d_Mo_checkTwins_105 (fun v M66 r66 H locs hw hp => ?_) (fun x ek M66 r66 H locs hw hE hp => gr_t B hexc hw hE (by decide) (by decide) (hF.trans (bnc (bnd_ex hp))))
                        obtain ⟨v66, rfl, hp⟩ := hp
                        have hF := hF.trans (bnc (bnd_ok hp))
                        refine lv_if_ne hx hb d_Mo_checkTwins_108 rfl (fun h67 => ?_) (fun h67 => ?_)
                        · skip
                          have hF := hF.trans (bnc (if_neg h67))
                          refine lv_iinc (k := 5) hx hb d_Mo_checkTwins_124 hl rfl (show _ + Int32.ofInt 1 = _ + 1 from rfl) (by decide) rfl (fun ls hl => ?_)
                          refine lv_goto hx hb d_Mo_checkTwins_127 rfl ?_
                          exact ih2 (x4 + 1) _ _ _ _ _ (gv_loc hl [2, 3, 4, 5, 0] rfl) hw hF
                        · skip
                          have hF := hF.trans (bnc (if_pos h67))
                          refine lv_aload_n hx hb d_Mo_checkTwins_111 rfl (lv_at hl 1 rfl) ?_
                          refine lv_bipush (v := 8) hx hb d_Mo_checkTwins_112 (by decide) ?_
                          refine lv_aload_n hx hb d_Mo_checkTwins_114 rfl (lv_at hl 1 rfl) ?_
                          refine gf_Mo_places hx hb T hown hK hw rfl (kf_Mo_47 T) d_Mo_checkTwins_115 ?_
                          refine lv_iload_n hx hb d_Mo_checkTwins_118 rfl (lv_at hl 4 rfl) ?_
                          have g68 := ng2 hno hF
                          have hF := hF.trans (bnc (gd_yes g68))
                          refine ga_Mo_places hx hb hK hw rfl g68 d_Mo_checkTwins_119 ?_
                          refine gy_V B hl.1 hw (t_Mo_fail G _ _ ow fu 8 (M66 119 x3.toNatClampNeg) (nn2 hno hF)) (kd_Mo_fail T) (ki_Mo T) (km_Mo_88 T) (ka_Mo_fail T) (ks_Mo_fail T) ⟨by decide, by decide, by rfl⟩ (rv_Mo hK hw rfl) rfl (Nat.le_of_ble_eq_true rfl) ⟨by decide, by decide⟩ ⟨by decide, by decide⟩ d_Mo_checkTwins_120 (fun v M69 r69 H locs hw hp => ?_) (fun x ek M69 r69 H locs hw hE hp => gr_t B hexc hw hE (by decide) (by decide) (hF.trans (bnc (bnd_ex hp))))
                          obtain ⟨v69, rfl, hp⟩ := hp
                          have hF := hF.trans (bnc (bnd_ok hp))
                          have g70 := ng2 hno hF
                          have hF := hF.trans (bnc (gd_yes g70))
                          exact gr_z B hw g70 d_Mo_checkTwins_123 ⟨_, rfl, hF⟩
        exact I10 fu x1 _ _ _ _ _ (gv_loc hl [2, 3, 4, 1, 0] rfl) hw hF
  have hF := F_Mo_checkTwins.eq_1 fu x1 x2 M r
  refine lv_iload_n hx hb d_Mo_checkTwins_0 rfl (lv_at hl 1 rfl) ?_
  refine lv_istore_n hx hb d_Mo_checkTwins_1 rfl hl (by decide) rfl (fun ls hl => ?_)
  exact L2 fu x1 _ _ _ _ _ (gv_loc hl [0, 1, 2, 3] rfl) hw hF
theorem d_Mo_checks_0 : decode b_Mo_checks 0 = .ok (.bipush 6, 2) := by decide +kernel
theorem d_Mo_checks_2 : decode b_Mo_checks 2 = .ok (.iload_n 1, 1) := by decide +kernel
theorem d_Mo_checks_3 : decode b_Mo_checks 3 = .ok (.imul, 1) := by decide +kernel
theorem d_Mo_checks_4 : decode b_Mo_checks 4 = .ok (.aload_n 0, 1) := by decide +kernel
theorem d_Mo_checks_5 : decode b_Mo_checks 5 = .ok (.getfield 35, 3) := by decide +kernel
theorem d_Mo_checks_8 : decode b_Mo_checks 8 = .ok (.iload_n 1, 1) := by decide +kernel
theorem d_Mo_checks_9 : decode b_Mo_checks 9 = .ok (.iaload, 1) := by decide +kernel
theorem d_Mo_checks_10 : decode b_Mo_checks 10 = .ok (.iadd, 1) := by decide +kernel
theorem d_Mo_checks_11 : decode b_Mo_checks 11 = .ok (.istore_n 2, 1) := by decide +kernel
theorem d_Mo_checks_12 : decode b_Mo_checks 12 = .ok (.bipush 6, 2) := by decide +kernel
theorem d_Mo_checks_14 : decode b_Mo_checks 14 = .ok (.iload_n 1, 1) := by decide +kernel
theorem d_Mo_checks_15 : decode b_Mo_checks 15 = .ok (.imul, 1) := by decide +kernel
theorem d_Mo_checks_16 : decode b_Mo_checks 16 = .ok (.istore_n 3, 1) := by decide +kernel
theorem d_Mo_checks_17 : decode b_Mo_checks 17 = .ok (.iload_n 3, 1) := by decide +kernel
theorem d_Mo_checks_18 : decode b_Mo_checks 18 = .ok (.iload_n 2, 1) := by decide +kernel
theorem d_Mo_checks_19 : decode b_Mo_checks 19 = .ok (.if_icmp .ge 72, 3) := by decide +kernel
theorem d_Mo_checks_22 : decode b_Mo_checks 22 = .ok (.bipush 6, 2) := by decide +kernel
theorem d_Mo_checks_24 : decode b_Mo_checks 24 = .ok (.iload_n 1, 1) := by decide +kernel
theorem d_Mo_checks_25 : decode b_Mo_checks 25 = .ok (.imul, 1) := by decide +kernel
theorem d_Mo_checks_26 : decode b_Mo_checks 26 = .ok (.istore 4, 2) := by decide +kernel
theorem d_Mo_checks_28 : decode b_Mo_checks 28 = .ok (.iload 4, 2) := by decide +kernel
theorem d_Mo_checks_30 : decode b_Mo_checks 30 = .ok (.iload_n 3, 1) := by decide +kernel
theorem d_Mo_checks_31 : decode b_Mo_checks 31 = .ok (.if_icmp .ge 54, 3) := by decide +kernel
theorem d_Mo_checks_34 : decode b_Mo_checks 34 = .ok (.aload_n 0, 1) := by decide +kernel
theorem d_Mo_checks_35 : decode b_Mo_checks 35 = .ok (.aload_n 0, 1) := by decide +kernel
theorem d_Mo_checks_36 : decode b_Mo_checks 36 = .ok (.getfield 38, 3) := by decide +kernel
theorem d_Mo_checks_39 : decode b_Mo_checks 39 = .ok (.iload_n 3, 1) := by decide +kernel
theorem d_Mo_checks_40 : decode b_Mo_checks 40 = .ok (.iaload, 1) := by decide +kernel
theorem d_Mo_checks_41 : decode b_Mo_checks 41 = .ok (.aload_n 0, 1) := by decide +kernel
theorem d_Mo_checks_42 : decode b_Mo_checks 42 = .ok (.getfield 41, 3) := by decide +kernel
theorem d_Mo_checks_45 : decode b_Mo_checks 45 = .ok (.iload_n 3, 1) := by decide +kernel
theorem d_Mo_checks_46 : decode b_Mo_checks 46 = .ok (.iaload, 1) := by decide +kernel
theorem d_Mo_checks_47 : decode b_Mo_checks 47 = .ok (.aload_n 0, 1) := by decide +kernel
theorem d_Mo_checks_48 : decode b_Mo_checks 48 = .ok (.getfield 38, 3) := by decide +kernel
theorem d_Mo_checks_51 : decode b_Mo_checks 51 = .ok (.iload 4, 2) := by decide +kernel
theorem d_Mo_checks_53 : decode b_Mo_checks 53 = .ok (.iaload, 1) := by decide +kernel
theorem d_Mo_checks_54 : decode b_Mo_checks 54 = .ok (.aload_n 0, 1) := by decide +kernel
theorem d_Mo_checks_55 : decode b_Mo_checks 55 = .ok (.getfield 41, 3) := by decide +kernel
theorem d_Mo_checks_58 : decode b_Mo_checks 58 = .ok (.iload 4, 2) := by decide +kernel
theorem d_Mo_checks_60 : decode b_Mo_checks 60 = .ok (.iaload, 1) := by decide +kernel
theorem d_Mo_checks_61 : decode b_Mo_checks 61 = .ok (.invokevirtual 166, 3) := by decide +kernel
theorem d_Mo_checks_64 : decode b_Mo_checks 64 = .ok (.ifCond .ne 15, 3) := by decide +kernel
theorem d_Mo_checks_67 : decode b_Mo_checks 67 = .ok (.aload_n 0, 1) := by decide +kernel
theorem d_Mo_checks_68 : decode b_Mo_checks 68 = .ok (.iconst 5, 1) := by decide +kernel
theorem d_Mo_checks_69 : decode b_Mo_checks 69 = .ok (.aload_n 0, 1) := by decide +kernel
theorem d_Mo_checks_70 : decode b_Mo_checks 70 = .ok (.getfield 47, 3) := by decide +kernel
theorem d_Mo_checks_73 : decode b_Mo_checks 73 = .ok (.iload_n 3, 1) := by decide +kernel
theorem d_Mo_checks_74 : decode b_Mo_checks 74 = .ok (.iaload, 1) := by decide +kernel
theorem d_Mo_checks_75 : decode b_Mo_checks 75 = .ok (.invokevirtual 88, 3) := by decide +kernel
theorem d_Mo_checks_78 : decode b_Mo_checks 78 = .ok (.ireturn, 1) := by decide +kernel
theorem d_Mo_checks_79 : decode b_Mo_checks 79 = .ok (.iinc 4 1, 3) := by decide +kernel
theorem d_Mo_checks_82 : decode b_Mo_checks 82 = .ok (.goto (-54), 3) := by decide +kernel
theorem d_Mo_checks_85 : decode b_Mo_checks 85 = .ok (.iinc 3 1, 3) := by decide +kernel
theorem d_Mo_checks_88 : decode b_Mo_checks 88 = .ok (.goto (-71), 3) := by decide +kernel
theorem d_Mo_checks_91 : decode b_Mo_checks 91 = .ok (.bipush 6, 2) := by decide +kernel
theorem d_Mo_checks_93 : decode b_Mo_checks 93 = .ok (.iload_n 1, 1) := by decide +kernel
theorem d_Mo_checks_94 : decode b_Mo_checks 94 = .ok (.imul, 1) := by decide +kernel
theorem d_Mo_checks_95 : decode b_Mo_checks 95 = .ok (.istore_n 3, 1) := by decide +kernel
theorem d_Mo_checks_96 : decode b_Mo_checks 96 = .ok (.iload_n 3, 1) := by decide +kernel
theorem d_Mo_checks_97 : decode b_Mo_checks 97 = .ok (.iload_n 2, 1) := by decide +kernel
theorem d_Mo_checks_98 : decode b_Mo_checks 98 = .ok (.if_icmp .ge 131, 3) := by decide +kernel
theorem d_Mo_checks_101 : decode b_Mo_checks 101 = .ok (.aload_n 0, 1) := by decide +kernel
theorem d_Mo_checks_102 : decode b_Mo_checks 102 = .ok (.iload_n 3, 1) := by decide +kernel
theorem d_Mo_checks_103 : decode b_Mo_checks 103 = .ok (.invokevirtual 202, 3) := by decide +kernel
theorem d_Mo_checks_106 : decode b_Mo_checks 106 = .ok (.istore 4, 2) := by decide +kernel
theorem d_Mo_checks_108 : decode b_Mo_checks 108 = .ok (.aload_n 0, 1) := by decide +kernel
theorem d_Mo_checks_109 : decode b_Mo_checks 109 = .ok (.iload_n 3, 1) := by decide +kernel
theorem d_Mo_checks_110 : decode b_Mo_checks 110 = .ok (.invokevirtual 199, 3) := by decide +kernel
theorem d_Mo_checks_113 : decode b_Mo_checks 113 = .ok (.istore 5, 2) := by decide +kernel
theorem d_Mo_checks_115 : decode b_Mo_checks 115 = .ok (.iload 4, 2) := by decide +kernel
theorem d_Mo_checks_117 : decode b_Mo_checks 117 = .ok (.iconst 3, 1) := by decide +kernel
theorem d_Mo_checks_118 : decode b_Mo_checks 118 = .ok (.if_icmp .ne 47, 3) := by decide +kernel
theorem d_Mo_checks_121 : decode b_Mo_checks 121 = .ok (.aload_n 0, 1) := by decide +kernel
theorem d_Mo_checks_122 : decode b_Mo_checks 122 = .ok (.getfield 17, 3) := by decide +kernel
theorem d_Mo_checks_125 : decode b_Mo_checks 125 = .ok (.iload 5, 2) := by decide +kernel
theorem d_Mo_checks_127 : decode b_Mo_checks 127 = .ok (.iaload, 1) := by decide +kernel
theorem d_Mo_checks_128 : decode b_Mo_checks 128 = .ok (.bipush 120, 2) := by decide +kernel
theorem d_Mo_checks_130 : decode b_Mo_checks 130 = .ok (.if_icmp .ne 35, 3) := by decide +kernel
theorem d_Mo_checks_133 : decode b_Mo_checks 133 = .ok (.aload_n 0, 1) := by decide +kernel
theorem d_Mo_checks_134 : decode b_Mo_checks 134 = .ok (.getfield 17, 3) := by decide +kernel
theorem d_Mo_checks_137 : decode b_Mo_checks 137 = .ok (.iload 5, 2) := by decide +kernel
theorem d_Mo_checks_139 : decode b_Mo_checks 139 = .ok (.iconst 1, 1) := by decide +kernel
theorem d_Mo_checks_140 : decode b_Mo_checks 140 = .ok (.iadd, 1) := by decide +kernel
theorem d_Mo_checks_141 : decode b_Mo_checks 141 = .ok (.iaload, 1) := by decide +kernel
theorem d_Mo_checks_142 : decode b_Mo_checks 142 = .ok (.bipush 109, 2) := by decide +kernel
theorem d_Mo_checks_144 : decode b_Mo_checks 144 = .ok (.if_icmp .ne 21, 3) := by decide +kernel
theorem d_Mo_checks_147 : decode b_Mo_checks 147 = .ok (.aload_n 0, 1) := by decide +kernel
theorem d_Mo_checks_148 : decode b_Mo_checks 148 = .ok (.getfield 17, 3) := by decide +kernel
theorem d_Mo_checks_151 : decode b_Mo_checks 151 = .ok (.iload 5, 2) := by decide +kernel
theorem d_Mo_checks_153 : decode b_Mo_checks 153 = .ok (.iconst 2, 1) := by decide +kernel
theorem d_Mo_checks_154 : decode b_Mo_checks 154 = .ok (.iadd, 1) := by decide +kernel
theorem d_Mo_checks_155 : decode b_Mo_checks 155 = .ok (.iaload, 1) := by decide +kernel
theorem d_Mo_checks_156 : decode b_Mo_checks 156 = .ok (.bipush 108, 2) := by decide +kernel
theorem d_Mo_checks_158 : decode b_Mo_checks 158 = .ok (.if_icmp .ne 7, 3) := by decide +kernel
theorem d_Mo_checks_161 : decode b_Mo_checks 161 = .ok (.iconst 1, 1) := by decide +kernel
theorem d_Mo_checks_162 : decode b_Mo_checks 162 = .ok (.goto 4, 3) := by decide +kernel
theorem d_Mo_checks_165 : decode b_Mo_checks 165 = .ok (.iconst 0, 1) := by decide +kernel
theorem d_Mo_checks_166 : decode b_Mo_checks 166 = .ok (.istore 6, 2) := by decide +kernel
theorem d_Mo_checks_168 : decode b_Mo_checks 168 = .ok (.aload_n 0, 1) := by decide +kernel
theorem d_Mo_checks_169 : decode b_Mo_checks 169 = .ok (.iload_n 3, 1) := by decide +kernel
theorem d_Mo_checks_170 : decode b_Mo_checks 170 = .ok (.invokevirtual 205, 3) := by decide +kernel
theorem d_Mo_checks_173 : decode b_Mo_checks 173 = .ok (.ifCond .eq 50, 3) := by decide +kernel
theorem d_Mo_checks_176 : decode b_Mo_checks 176 = .ok (.aload_n 0, 1) := by decide +kernel
theorem d_Mo_checks_177 : decode b_Mo_checks 177 = .ok (.getfield 44, 3) := by decide +kernel
theorem d_Mo_checks_180 : decode b_Mo_checks 180 = .ok (.iload_n 3, 1) := by decide +kernel
theorem d_Mo_checks_181 : decode b_Mo_checks 181 = .ok (.iaload, 1) := by decide +kernel
theorem d_Mo_checks_182 : decode b_Mo_checks 182 = .ok (.ifCond .lt 41, 3) := by decide +kernel
theorem d_Mo_checks_185 : decode b_Mo_checks 185 = .ok (.iload 6, 2) := by decide +kernel
theorem d_Mo_checks_187 : decode b_Mo_checks 187 = .ok (.ifCond .ne 23, 3) := by decide +kernel
theorem d_Mo_checks_190 : decode b_Mo_checks 190 = .ok (.aload_n 0, 1) := by decide +kernel
theorem d_Mo_checks_191 : decode b_Mo_checks 191 = .ok (.iload 5, 2) := by decide +kernel
theorem d_Mo_checks_193 : decode b_Mo_checks 193 = .ok (.iload 4, 2) := by decide +kernel
theorem d_Mo_checks_195 : decode b_Mo_checks 195 = .ok (.invokevirtual 196, 3) := by decide +kernel
theorem d_Mo_checks_198 : decode b_Mo_checks 198 = .ok (.ifCond .ne 12, 3) := by decide +kernel
theorem d_Mo_checks_201 : decode b_Mo_checks 201 = .ok (.aload_n 0, 1) := by decide +kernel
theorem d_Mo_checks_202 : decode b_Mo_checks 202 = .ok (.getfield 53, 3) := by decide +kernel
theorem d_Mo_checks_205 : decode b_Mo_checks 205 = .ok (.iload_n 3, 1) := by decide +kernel
theorem d_Mo_checks_206 : decode b_Mo_checks 206 = .ok (.iaload, 1) := by decide +kernel
theorem d_Mo_checks_207 : decode b_Mo_checks 207 = .ok (.ifCond .ne 16, 3) := by decide +kernel
theorem d_Mo_checks_210 : decode b_Mo_checks 210 = .ok (.aload_n 0, 1) := by decide +kernel
theorem d_Mo_checks_211 : decode b_Mo_checks 211 = .ok (.bipush 6, 2) := by decide +kernel
theorem d_Mo_checks_213 : decode b_Mo_checks 213 = .ok (.aload_n 0, 1) := by decide +kernel
theorem d_Mo_checks_214 : decode b_Mo_checks 214 = .ok (.getfield 47, 3) := by decide +kernel
theorem d_Mo_checks_217 : decode b_Mo_checks 217 = .ok (.iload_n 3, 1) := by decide +kernel
theorem d_Mo_checks_218 : decode b_Mo_checks 218 = .ok (.iaload, 1) := by decide +kernel
theorem d_Mo_checks_219 : decode b_Mo_checks 219 = .ok (.invokevirtual 88, 3) := by decide +kernel
theorem d_Mo_checks_222 : decode b_Mo_checks 222 = .ok (.ireturn, 1) := by decide +kernel
theorem d_Mo_checks_223 : decode b_Mo_checks 223 = .ok (.iinc 3 1, 3) := by decide +kernel
theorem d_Mo_checks_226 : decode b_Mo_checks 226 = .ok (.goto (-130), 3) := by decide +kernel
theorem d_Mo_checks_229 : decode b_Mo_checks 229 = .ok (.aload_n 0, 1) := by decide +kernel
theorem d_Mo_checks_230 : decode b_Mo_checks 230 = .ok (.getfield 29, 3) := by decide +kernel
theorem d_Mo_checks_233 : decode b_Mo_checks 233 = .ok (.iload_n 1, 1) := by decide +kernel
theorem d_Mo_checks_234 : decode b_Mo_checks 234 = .ok (.iaload, 1) := by decide +kernel
theorem d_Mo_checks_235 : decode b_Mo_checks 235 = .ok (.ifCond .lt 36, 3) := by decide +kernel
theorem d_Mo_checks_238 : decode b_Mo_checks 238 = .ok (.aload_n 0, 1) := by decide +kernel
theorem d_Mo_checks_239 : decode b_Mo_checks 239 = .ok (.iload_n 1, 1) := by decide +kernel
theorem d_Mo_checks_240 : decode b_Mo_checks 240 = .ok (.aload_n 0, 1) := by decide +kernel
theorem d_Mo_checks_241 : decode b_Mo_checks 241 = .ok (.getfield 23, 3) := by decide +kernel
theorem d_Mo_checks_244 : decode b_Mo_checks 244 = .ok (.iload_n 1, 1) := by decide +kernel
theorem d_Mo_checks_245 : decode b_Mo_checks 245 = .ok (.iaload, 1) := by decide +kernel
theorem d_Mo_checks_246 : decode b_Mo_checks 246 = .ok (.aload_n 0, 1) := by decide +kernel
theorem d_Mo_checks_247 : decode b_Mo_checks 247 = .ok (.getfield 29, 3) := by decide +kernel
theorem d_Mo_checks_250 : decode b_Mo_checks 250 = .ok (.iload_n 1, 1) := by decide +kernel
theorem d_Mo_checks_251 : decode b_Mo_checks 251 = .ok (.iaload, 1) := by decide +kernel
theorem d_Mo_checks_252 : decode b_Mo_checks 252 = .ok (.invokevirtual 208, 3) := by decide +kernel
theorem d_Mo_checks_255 : decode b_Mo_checks 255 = .ok (.ifCond .ge 16, 3) := by decide +kernel
theorem d_Mo_checks_258 : decode b_Mo_checks 258 = .ok (.aload_n 0, 1) := by decide +kernel
theorem d_Mo_checks_259 : decode b_Mo_checks 259 = .ok (.bipush 7, 2) := by decide +kernel
theorem d_Mo_checks_261 : decode b_Mo_checks 261 = .ok (.aload_n 0, 1) := by decide +kernel
theorem d_Mo_checks_262 : decode b_Mo_checks 262 = .ok (.getfield 32, 3) := by decide +kernel
theorem d_Mo_checks_265 : decode b_Mo_checks 265 = .ok (.iload_n 1, 1) := by decide +kernel
theorem d_Mo_checks_266 : decode b_Mo_checks 266 = .ok (.iaload, 1) := by decide +kernel
theorem d_Mo_checks_267 : decode b_Mo_checks 267 = .ok (.invokevirtual 88, 3) := by decide +kernel
theorem d_Mo_checks_270 : decode b_Mo_checks 270 = .ok (.ireturn, 1) := by decide +kernel
theorem d_Mo_checks_271 : decode b_Mo_checks 271 = .ok (.bipush 6, 2) := by decide +kernel
theorem d_Mo_checks_273 : decode b_Mo_checks 273 = .ok (.iload_n 1, 1) := by decide +kernel
theorem d_Mo_checks_274 : decode b_Mo_checks 274 = .ok (.imul, 1) := by decide +kernel
theorem d_Mo_checks_275 : decode b_Mo_checks 275 = .ok (.istore_n 3, 1) := by decide +kernel
theorem d_Mo_checks_276 : decode b_Mo_checks 276 = .ok (.iload_n 3, 1) := by decide +kernel
theorem d_Mo_checks_277 : decode b_Mo_checks 277 = .ok (.iload_n 2, 1) := by decide +kernel
theorem d_Mo_checks_278 : decode b_Mo_checks 278 = .ok (.if_icmp .ge 47, 3) := by decide +kernel
theorem d_Mo_checks_281 : decode b_Mo_checks 281 = .ok (.aload_n 0, 1) := by decide +kernel
theorem d_Mo_checks_282 : decode b_Mo_checks 282 = .ok (.iload_n 3, 1) := by decide +kernel
theorem d_Mo_checks_283 : decode b_Mo_checks 283 = .ok (.invokevirtual 205, 3) := by decide +kernel
theorem d_Mo_checks_286 : decode b_Mo_checks 286 = .ok (.ifCond .ne 33, 3) := by decide +kernel
theorem d_Mo_checks_289 : decode b_Mo_checks 289 = .ok (.aload_n 0, 1) := by decide +kernel
theorem d_Mo_checks_290 : decode b_Mo_checks 290 = .ok (.getfield 44, 3) := by decide +kernel
theorem d_Mo_checks_293 : decode b_Mo_checks 293 = .ok (.iload_n 3, 1) := by decide +kernel
theorem d_Mo_checks_294 : decode b_Mo_checks 294 = .ok (.iaload, 1) := by decide +kernel
theorem d_Mo_checks_295 : decode b_Mo_checks 295 = .ok (.ifCond .lt 24, 3) := by decide +kernel
theorem d_Mo_checks_298 : decode b_Mo_checks 298 = .ok (.aload_n 0, 1) := by decide +kernel
theorem d_Mo_checks_299 : decode b_Mo_checks 299 = .ok (.iload_n 3, 1) := by decide +kernel
theorem d_Mo_checks_300 : decode b_Mo_checks 300 = .ok (.invokevirtual 212, 3) := by decide +kernel
theorem d_Mo_checks_303 : decode b_Mo_checks 303 = .ok (.ifCond .ge 16, 3) := by decide +kernel
theorem d_Mo_checks_306 : decode b_Mo_checks 306 = .ok (.aload_n 0, 1) := by decide +kernel
theorem d_Mo_checks_307 : decode b_Mo_checks 307 = .ok (.bipush 7, 2) := by decide +kernel
theorem d_Mo_checks_309 : decode b_Mo_checks 309 = .ok (.aload_n 0, 1) := by decide +kernel
theorem d_Mo_checks_310 : decode b_Mo_checks 310 = .ok (.getfield 47, 3) := by decide +kernel
theorem d_Mo_checks_313 : decode b_Mo_checks 313 = .ok (.iload_n 3, 1) := by decide +kernel
theorem d_Mo_checks_314 : decode b_Mo_checks 314 = .ok (.iaload, 1) := by decide +kernel
theorem d_Mo_checks_315 : decode b_Mo_checks 315 = .ok (.invokevirtual 88, 3) := by decide +kernel
theorem d_Mo_checks_318 : decode b_Mo_checks 318 = .ok (.ireturn, 1) := by decide +kernel
theorem d_Mo_checks_319 : decode b_Mo_checks 319 = .ok (.iinc 3 1, 3) := by decide +kernel
theorem d_Mo_checks_322 : decode b_Mo_checks 322 = .ok (.goto (-46), 3) := by decide +kernel
theorem d_Mo_checks_325 : decode b_Mo_checks 325 = .ok (.aload_n 0, 1) := by decide +kernel
theorem d_Mo_checks_326 : decode b_Mo_checks 326 = .ok (.bipush 6, 2) := by decide +kernel
theorem d_Mo_checks_328 : decode b_Mo_checks 328 = .ok (.iload_n 1, 1) := by decide +kernel
theorem d_Mo_checks_329 : decode b_Mo_checks 329 = .ok (.imul, 1) := by decide +kernel
theorem d_Mo_checks_330 : decode b_Mo_checks 330 = .ok (.iload_n 2, 1) := by decide +kernel
theorem d_Mo_checks_331 : decode b_Mo_checks 331 = .ok (.invokevirtual 215, 3) := by decide +kernel
theorem d_Mo_checks_334 : decode b_Mo_checks 334 = .ok (.ireturn, 1) := by decide +kernel
set_option maxHeartbeats 4000000 in
set_option maxRecDepth 100000 in
theorem t_Mo_checks {l : Launch} {s0 : State} {D : va_G} {aC : Nat → ClassId} {a0 : Array Value} (G : gG l s0 D aC a0) (M : gMem) (r : gRef) (ow : Int64) (fu : Nat) (x1 : Int32)  (hno : F_Mo_checks fu x1 M r ≠ .no) : gMet l s0 D aC y_Mo_checks (Cond.code y_Mo_checks b_Mo_checks 7 (some .boolean)) 5 115 0 0 [.ref (s0.heap.size + 383), .int x1] M r ow (qI (F_Mo_checks fu x1 M r)) (qT (F_Mo_checks fu x1 M r)) := by
  refine gm_of G (by decide) (Nat.le_of_ble_eq_true rfl) ?_
  intro p e s m below meth c ls B hexc hl hw
  have hx := B.1
  have hb := B.2.1
  have hown := B.2.2.2.2.2.1
  have T := B.2.2.2.2.2.2.1
  have hK := B.2.2.2.2.2.2.2.1
  have X325 : ∀ (x2 : Int32) (M1 : gMem) (r1 : gRef) (H : Heap) (locs : List Loc) (ls : Array Slot), lv_has ls 7 [(2, .int x2), (0, .ref (s0.heap.size + 383)), (1, .int x1)] → gWd s0 D aC M1 r1 ow H locs → F_Mo_checks fu x1 M r = F_Mo_checks_B325 fu x1 x2 M1 r1 → W p l e (gRm 5 115 0 0) s m ([.ref (s0.heap.size + 383), .int x1] : List Value).toArray below meth c H locs 0 0 (gt_Q below (gQ s0 D aC ow (qI (F_Mo_checks fu x1 M r)) (qT (F_Mo_checks fu x1 M r))) s 0 0 0 0 (fun q => s0.heap.size ≤ q)) (F0 m 325 ls []) := by
    intro x2 M1 r1 H locs ls hl hw hF
    have hF := hF.trans (F_Mo_checks_B325.eq_1 _ _ _ _ _)
    refine lv_aload_n hx hb d_Mo_checks_325 rfl (lv_at hl 1 rfl) ?_
    refine lv_bipush (v := 6) hx hb d_Mo_checks_326 (by decide) ?_
    refine lv_iload_n hx hb d_Mo_checks_328 rfl (lv_at hl 2 rfl) ?_
    refine lv_imul hx hb d_Mo_checks_329 ?_
    refine lv_iload_n hx hb d_Mo_checks_330 rfl (lv_at hl 0 rfl) ?_
    refine gy_V B hl.1 hw (t_Mo_checkTwins G _ _ ow fu (6 * x1) x2 (nn hno hF)) (kd_Mo_checkTwins T) (ki_Mo T) (km_Mo_215 T) (ka_Mo_checkTwins T) (ks_Mo_checkTwins T) ⟨by decide, by decide, by rfl⟩ (rv_Mo hK hw rfl) rfl (Nat.le_of_ble_eq_true rfl) ⟨by decide, by decide⟩ ⟨by decide, by decide⟩ d_Mo_checks_331 (fun v M108 r108 H locs hw hp => ?_) (fun x ek M108 r108 H locs hw hE hp => gr_t B hexc hw hE (by decide) (by decide) (hF.trans (bnd_ex hp)))
    obtain ⟨v108, rfl, hp⟩ := hp
    have hF := hF.trans (bnd_ok hp)
    have g109 := ng hno hF
    have hF := hF.trans (gd_yes g109)
    exact gr_z B hw g109 d_Mo_checks_334 ⟨_, rfl, hF⟩
  have L276 : ∀ (d : Nat) (x2 : Int32) (x3 : Int32) (M1 : gMem) (r1 : gRef) (H : Heap) (locs : List Loc) (ls : Array Slot), lv_has ls 7 [(2, .int x2), (3, .int x3), (0, .ref (s0.heap.size + 383)), (1, .int x1)] → gWd s0 D aC M1 r1 ow H locs → F_Mo_checks fu x1 M r = F_Mo_checks_L276 fu x1 d x2 x3 M1 r1 → W p l e (gRm 5 115 0 0) s m ([.ref (s0.heap.size + 383), .int x1] : List Value).toArray below meth c H locs 0 0 (gt_Q below (gQ s0 D aC ow (qI (F_Mo_checks fu x1 M r)) (qT (F_Mo_checks fu x1 M r))) s 0 0 0 0 (fun q => s0.heap.size ≤ q)) (F0 m 276 ls []) := by
    intro d
    induction d with
    | zero => intro x2 x3 M1 r1 H locs ls hl hw hF; exact absurd hF hno
    | succ d ih =>
      intro x2 x3 M1 r1 H locs ls hl hw hF
      have hF := hF.trans (F_Mo_checks_L276.eq_2 _ _ _ _ _ _ _)
      refine lv_iload_n hx hb d_Mo_checks_276 rfl (lv_at hl 1 rfl) ?_
      refine lv_iload_n hx hb d_Mo_checks_277 rfl (lv_at hl 0 rfl) ?_
      refine lv_icmp_ge hx hb d_Mo_checks_278 rfl (fun h110 => ?_) (fun h110 => ?_)
      · skip
        have hF := hF.trans (if_pos h110)
        exact X325 x2 _ _ _ _ _ (gv_loc hl [0, 2, 3] rfl) hw hF
      · skip
        have hF := hF.trans (if_neg h110)
        refine lv_aload_n hx hb d_Mo_checks_281 rfl (lv_at hl 2 rfl) ?_
        refine lv_iload_n hx hb d_Mo_checks_282 rfl (lv_at hl 1 rfl) ?_
        refine gy_V B hl.1 hw (t_Mo_declares G _ _ ow fu x3 (nn hno hF)) (kd_Mo_declares T) (ki_Mo T) (km_Mo_205 T) (ka_Mo_declares T) (ks_Mo_declares T) ⟨by decide, by decide, by rfl⟩ (rv_Mo hK hw rfl) rfl (Nat.le_of_ble_eq_true rfl) ⟨by decide, by decide⟩ ⟨by decide, by decide⟩ d_Mo_checks_283 (fun v M111 r111 H locs hw hp => ?_) (fun x ek M111 r111 H locs hw hE hp => gr_t B hexc hw hE (by decide) (by decide) (hF.trans (bnd_ex hp)))
        obtain ⟨v111, rfl, hp⟩ := hp
        have hF := hF.trans (bnd_ok hp)
        refine lv_if_ne hx hb d_Mo_checks_286 rfl (fun h112 => ?_) (fun h112 => ?_)
        · skip
          have hF := hF.trans (if_neg h112)
          refine lv_iinc (k := 1) hx hb d_Mo_checks_319 hl rfl (show _ + Int32.ofInt 1 = _ + 1 from rfl) (by decide) rfl (fun ls hl => ?_)
          refine lv_goto hx hb d_Mo_checks_322 rfl ?_
          exact ih x2 (x3 + 1) _ _ _ _ _ (gv_loc hl [1, 0, 2, 3] rfl) hw hF
        · skip
          have hF := hF.trans (if_pos h112)
          refine lv_aload_n hx hb d_Mo_checks_289 rfl (lv_at hl 2 rfl) ?_
          refine gf_Mo_colon hx hb T hown hK hw rfl (kf_Mo_44 T) d_Mo_checks_290 ?_
          refine lv_iload_n hx hb d_Mo_checks_293 rfl (lv_at hl 1 rfl) ?_
          have g113 := ng hno hF
          have hF := hF.trans (gd_yes g113)
          refine ga_Mo_colon hx hb hK hw rfl g113 d_Mo_checks_294 ?_
          refine lv_if_lt hx hb d_Mo_checks_295 rfl (fun h114 => ?_) (fun h114 => ?_)
          · skip
            have hF := hF.trans (if_pos h114)
            refine lv_iinc (k := 1) hx hb d_Mo_checks_319 hl rfl (show _ + Int32.ofInt 1 = _ + 1 from rfl) (by decide) rfl (fun ls hl => ?_)
            refine lv_goto hx hb d_Mo_checks_322 rfl ?_
            exact ih x2 (x3 + 1) _ _ _ _ _ (gv_loc hl [1, 0, 2, 3] rfl) hw hF
          · skip
            have hF := hF.trans (if_neg h114)
            refine lv_aload_n hx hb d_Mo_checks_298 rfl (lv_at hl 2 rfl) ?_
            refine lv_iload_n hx hb d_Mo_checks_299 rfl (lv_at hl 1 rfl) ?_
            refine gy_V B hl.1 hw (t_Mo_spaceOf G _ _ ow fu x3 (nn hno hF)) (kd_Mo_spaceOf T) (ki_Mo T) (km_Mo_212 T) (ka_Mo_spaceOf T) (ks_Mo_spaceOf T) ⟨by decide, by decide, by rfl⟩ (rv_Mo hK hw rfl) rfl (Nat.le_of_ble_eq_true rfl) ⟨by decide, by decide⟩ ⟨by decide, by decide⟩ d_Mo_checks_300 (fun v M115 r115 H locs hw hp => ?_) (fun x ek M115 r115 H locs hw hE hp => gr_t B hexc hw hE (by decide) (by decide) (hF.trans (bnd_ex hp)))
            obtain ⟨v115, rfl, hp⟩ := hp
            have hF := hF.trans (bnd_ok hp)
            refine lv_if_ge hx hb d_Mo_checks_303 rfl (fun h116 => ?_) (fun h116 => ?_)
            · skip
              have hF := hF.trans (if_pos h116)
              refine lv_iinc (k := 1) hx hb d_Mo_checks_319 hl rfl (show _ + Int32.ofInt 1 = _ + 1 from rfl) (by decide) rfl (fun ls hl => ?_)
              refine lv_goto hx hb d_Mo_checks_322 rfl ?_
              exact ih x2 (x3 + 1) _ _ _ _ _ (gv_loc hl [1, 0, 2, 3] rfl) hw hF
            · skip
              have hF := hF.trans (if_neg h116)
              refine lv_aload_n hx hb d_Mo_checks_306 rfl (lv_at hl 2 rfl) ?_
              refine lv_bipush (v := 7) hx hb d_Mo_checks_307 (by decide) ?_
              refine lv_aload_n hx hb d_Mo_checks_309 rfl (lv_at hl 2 rfl) ?_
              refine gf_Mo_places hx hb T hown hK hw rfl (kf_Mo_47 T) d_Mo_checks_310 ?_
              refine lv_iload_n hx hb d_Mo_checks_313 rfl (lv_at hl 1 rfl) ?_
              have g117 := ng hno hF
              have hF := hF.trans (gd_yes g117)
              refine ga_Mo_places hx hb hK hw rfl g117 d_Mo_checks_314 ?_
              refine gy_V B hl.1 hw (t_Mo_fail G _ _ ow fu 7 (M115 119 x3.toNatClampNeg) (nn hno hF)) (kd_Mo_fail T) (ki_Mo T) (km_Mo_88 T) (ka_Mo_fail T) (ks_Mo_fail T) ⟨by decide, by decide, by rfl⟩ (rv_Mo hK hw rfl) rfl (Nat.le_of_ble_eq_true rfl) ⟨by decide, by decide⟩ ⟨by decide, by decide⟩ d_Mo_checks_315 (fun v M118 r118 H locs hw hp => ?_) (fun x ek M118 r118 H locs hw hE hp => gr_t B hexc hw hE (by decide) (by decide) (hF.trans (bnd_ex hp)))
              obtain ⟨v118, rfl, hp⟩ := hp
              have hF := hF.trans (bnd_ok hp)
              have g119 := ng hno hF
              have hF := hF.trans (gd_yes g119)
              exact gr_z B hw g119 d_Mo_checks_318 ⟨_, rfl, hF⟩
  have X229 : ∀ (x2 : Int32) (M1 : gMem) (r1 : gRef) (H : Heap) (locs : List Loc) (ls : Array Slot), lv_has ls 7 [(2, .int x2), (0, .ref (s0.heap.size + 383)), (1, .int x1)] → gWd s0 D aC M1 r1 ow H locs → F_Mo_checks fu x1 M r = F_Mo_checks_B229 fu x1 x2 M1 r1 → W p l e (gRm 5 115 0 0) s m ([.ref (s0.heap.size + 383), .int x1] : List Value).toArray below meth c H locs 0 0 (gt_Q below (gQ s0 D aC ow (qI (F_Mo_checks fu x1 M r)) (qT (F_Mo_checks fu x1 M r))) s 0 0 0 0 (fun q => s0.heap.size ≤ q)) (F0 m 229 ls []) := by
    intro x2 M1 r1 H locs ls hl hw hF
    have hF := hF.trans (F_Mo_checks_B229.eq_1 _ _ _ _ _)
    refine lv_aload_n hx hb d_Mo_checks_229 rfl (lv_at hl 1 rfl) ?_
    refine gf_Mo_nameColon hx hb T hown hK hw rfl (kf_Mo_29 T) d_Mo_checks_230 ?_
    refine lv_iload_n hx hb d_Mo_checks_233 rfl (lv_at hl 2 rfl) ?_
    have g120 := ng hno hF
    have hF := hF.trans (gd_yes g120)
    refine ga_Mo_nameColon hx hb hK hw rfl g120 d_Mo_checks_234 ?_
    refine lv_if_lt hx hb d_Mo_checks_235 rfl (fun h121 => ?_) (fun h121 => ?_)
    · skip
      have hF := hF.trans (if_pos h121)
      refine lv_bipush (v := 6) hx hb d_Mo_checks_271 (by decide) ?_
      refine lv_iload_n hx hb d_Mo_checks_273 rfl (lv_at hl 2 rfl) ?_
      refine lv_imul hx hb d_Mo_checks_274 ?_
      refine lv_istore_n hx hb d_Mo_checks_275 rfl hl (by decide) rfl (fun ls hl => ?_)
      exact L276 fu x2 (6 * x1) _ _ _ _ _ (gv_loc hl [1, 0, 2, 3] rfl) hw hF
    · skip
      have hF := hF.trans (if_neg h121)
      refine lv_aload_n hx hb d_Mo_checks_238 rfl (lv_at hl 1 rfl) ?_
      refine lv_iload_n hx hb d_Mo_checks_239 rfl (lv_at hl 2 rfl) ?_
      refine lv_aload_n hx hb d_Mo_checks_240 rfl (lv_at hl 1 rfl) ?_
      refine gf_Mo_nameFrom hx hb T hown hK hw rfl (kf_Mo_23 T) d_Mo_checks_241 ?_
      refine lv_iload_n hx hb d_Mo_checks_244 rfl (lv_at hl 2 rfl) ?_
      have g122 := ng hno hF
      have hF := hF.trans (gd_yes g122)
      refine ga_Mo_nameFrom hx hb hK hw rfl g122 d_Mo_checks_245 ?_
      refine lv_aload_n hx hb d_Mo_checks_246 rfl (lv_at hl 1 rfl) ?_
      refine gf_Mo_nameColon hx hb T hown hK hw rfl (kf_Mo_29 T) d_Mo_checks_247 ?_
      refine lv_iload_n hx hb d_Mo_checks_250 rfl (lv_at hl 2 rfl) ?_
      have g123 := ng hno hF
      have hF := hF.trans (gd_yes g123)
      refine ga_Mo_nameColon hx hb hK hw rfl g123 d_Mo_checks_251 ?_
      refine gy_V B hl.1 hw (t_Mo_declared G _ _ ow fu x1 (M1 111 x1.toNatClampNeg) (M1 113 x1.toNatClampNeg) (nn hno hF)) (kd_Mo_declared T) (ki_Mo T) (km_Mo_208 T) (ka_Mo_declared T) (ks_Mo_declared T) ⟨by decide, by decide, by rfl⟩ (rv_Mo hK hw rfl) rfl (Nat.le_of_ble_eq_true rfl) ⟨by decide, by decide⟩ ⟨by decide, by decide⟩ d_Mo_checks_252 (fun v M124 r124 H locs hw hp => ?_) (fun x ek M124 r124 H locs hw hE hp => gr_t B hexc hw hE (by decide) (by decide) (hF.trans (bnd_ex hp)))
      obtain ⟨v124, rfl, hp⟩ := hp
      have hF := hF.trans (bnd_ok hp)
      refine lv_if_ge hx hb d_Mo_checks_255 rfl (fun h125 => ?_) (fun h125 => ?_)
      · skip
        have hF := hF.trans (if_pos h125)
        refine lv_bipush (v := 6) hx hb d_Mo_checks_271 (by decide) ?_
        refine lv_iload_n hx hb d_Mo_checks_273 rfl (lv_at hl 2 rfl) ?_
        refine lv_imul hx hb d_Mo_checks_274 ?_
        refine lv_istore_n hx hb d_Mo_checks_275 rfl hl (by decide) rfl (fun ls hl => ?_)
        exact L276 fu x2 (6 * x1) _ _ _ _ _ (gv_loc hl [1, 0, 2, 3] rfl) hw hF
      · skip
        have hF := hF.trans (if_neg h125)
        refine lv_aload_n hx hb d_Mo_checks_258 rfl (lv_at hl 1 rfl) ?_
        refine lv_bipush (v := 7) hx hb d_Mo_checks_259 (by decide) ?_
        refine lv_aload_n hx hb d_Mo_checks_261 rfl (lv_at hl 1 rfl) ?_
        refine gf_Mo_namePlace hx hb T hown hK hw rfl (kf_Mo_32 T) d_Mo_checks_262 ?_
        refine lv_iload_n hx hb d_Mo_checks_265 rfl (lv_at hl 2 rfl) ?_
        have g126 := ng hno hF
        have hF := hF.trans (gd_yes g126)
        refine ga_Mo_namePlace hx hb hK hw rfl g126 d_Mo_checks_266 ?_
        refine gy_V B hl.1 hw (t_Mo_fail G _ _ ow fu 7 (M124 114 x1.toNatClampNeg) (nn hno hF)) (kd_Mo_fail T) (ki_Mo T) (km_Mo_88 T) (ka_Mo_fail T) (ks_Mo_fail T) ⟨by decide, by decide, by rfl⟩ (rv_Mo hK hw rfl) rfl (Nat.le_of_ble_eq_true rfl) ⟨by decide, by decide⟩ ⟨by decide, by decide⟩ d_Mo_checks_267 (fun v M127 r127 H locs hw hp => ?_) (fun x ek M127 r127 H locs hw hE hp => gr_t B hexc hw hE (by decide) (by decide) (hF.trans (bnd_ex hp)))
        obtain ⟨v127, rfl, hp⟩ := hp
        have hF := hF.trans (bnd_ok hp)
        have g128 := ng hno hF
        have hF := hF.trans (gd_yes g128)
        exact gr_z B hw g128 d_Mo_checks_270 ⟨_, rfl, hF⟩
  have L96 : ∀ (d : Nat) (x2 : Int32) (x3 : Int32) (M1 : gMem) (r1 : gRef) (H : Heap) (locs : List Loc) (ls : Array Slot), lv_has ls 7 [(2, .int x2), (3, .int x3), (0, .ref (s0.heap.size + 383)), (1, .int x1)] → gWd s0 D aC M1 r1 ow H locs → F_Mo_checks fu x1 M r = F_Mo_checks_L96 fu x1 d x2 x3 M1 r1 → W p l e (gRm 5 115 0 0) s m ([.ref (s0.heap.size + 383), .int x1] : List Value).toArray below meth c H locs 0 0 (gt_Q below (gQ s0 D aC ow (qI (F_Mo_checks fu x1 M r)) (qT (F_Mo_checks fu x1 M r))) s 0 0 0 0 (fun q => s0.heap.size ≤ q)) (F0 m 96 ls []) := by
    intro d
    induction d with
    | zero => intro x2 x3 M1 r1 H locs ls hl hw hF; exact absurd hF hno
    | succ d ih =>
      intro x2 x3 M1 r1 H locs ls hl hw hF
      have hF := hF.trans (F_Mo_checks_L96.eq_2 _ _ _ _ _ _ _)
      refine lv_iload_n hx hb d_Mo_checks_96 rfl (lv_at hl 1 rfl) ?_
      refine lv_iload_n hx hb d_Mo_checks_97 rfl (lv_at hl 0 rfl) ?_
      refine lv_icmp_ge hx hb d_Mo_checks_98 rfl (fun h129 => ?_) (fun h129 => ?_)
      · skip
        have hF := hF.trans (if_pos h129)
        exact X229 x2 _ _ _ _ _ (gv_loc hl [0, 2, 3] rfl) hw hF
      · skip
        have hF := hF.trans (if_neg h129)
        refine lv_aload_n hx hb d_Mo_checks_101 rfl (lv_at hl 2 rfl) ?_
        refine lv_iload_n hx hb d_Mo_checks_102 rfl (lv_at hl 1 rfl) ?_
        refine gy_V B hl.1 hw (t_Mo_localSize G _ _ ow fu x3 (nn hno hF)) (kd_Mo_localSize T) (ki_Mo T) (km_Mo_202 T) (ka_Mo_localSize T) (ks_Mo_localSize T) ⟨by decide, by decide, by rfl⟩ (rv_Mo hK hw rfl) rfl (Nat.le_of_ble_eq_true rfl) ⟨by decide, by decide⟩ ⟨by decide, by decide⟩ d_Mo_checks_103 (fun v M130 r130 H locs hw hp => ?_) (fun x ek M130 r130 H locs hw hE hp => gr_t B hexc hw hE (by decide) (by decide) (hF.trans (bnd_ex hp)))
        obtain ⟨v130, rfl, hp⟩ := hp
        have hF := hF.trans (bnd_ok hp)
        refine lv_istore hx hb d_Mo_checks_106 hl (by decide) rfl (fun ls hl => ?_)
        refine lv_aload_n hx hb d_Mo_checks_108 rfl (lv_at hl 3 rfl) ?_
        refine lv_iload_n hx hb d_Mo_checks_109 rfl (lv_at hl 2 rfl) ?_
        refine gy_V B hl.1 hw (t_Mo_local G _ _ ow fu x3 (nn hno hF)) (kd_Mo_local T) (ki_Mo T) (km_Mo_199 T) (ka_Mo_local T) (ks_Mo_local T) ⟨by decide, by decide, by rfl⟩ (rv_Mo hK hw rfl) rfl (Nat.le_of_ble_eq_true rfl) ⟨by decide, by decide⟩ ⟨by decide, by decide⟩ d_Mo_checks_110 (fun v M131 r131 H locs hw hp => ?_) (fun x ek M131 r131 H locs hw hE hp => gr_t B hexc hw hE (by decide) (by decide) (hF.trans (bnd_ex hp)))
        obtain ⟨v131, rfl, hp⟩ := hp
        have hF := hF.trans (bnd_ok hp)
        refine lv_istore hx hb d_Mo_checks_113 hl (by decide) rfl (fun ls hl => ?_)
        refine lv_iload hx hb d_Mo_checks_115 (lv_at hl 1 rfl) ?_
        refine lv_iconst (v := 3) hx hb d_Mo_checks_117 (by decide) ?_
        refine lv_icmp_ne hx hb d_Mo_checks_118 rfl (fun h132 => ?_) (fun h132 => ?_)
        · skip
          have hF := hF.trans (if_neg h132)
          refine lv_iconst (v := 0) hx hb d_Mo_checks_165 (by decide) ?_
          refine lv_istore hx hb d_Mo_checks_166 hl (by decide) rfl (fun ls hl => ?_)
          refine lv_aload_n hx hb d_Mo_checks_168 rfl (lv_at hl 5 rfl) ?_
          refine lv_iload_n hx hb d_Mo_checks_169 rfl (lv_at hl 4 rfl) ?_
          refine gy_V B hl.1 hw (t_Mo_declares G _ _ ow fu x3 (nn hno hF)) (kd_Mo_declares T) (ki_Mo T) (km_Mo_205 T) (ka_Mo_declares T) (ks_Mo_declares T) ⟨by decide, by decide, by rfl⟩ (rv_Mo hK hw rfl) rfl (Nat.le_of_ble_eq_true rfl) ⟨by decide, by decide⟩ ⟨by decide, by decide⟩ d_Mo_checks_170 (fun v M133 r133 H locs hw hp => ?_) (fun x ek M133 r133 H locs hw hE hp => gr_t B hexc hw hE (by decide) (by decide) (hF.trans (bnd_ex hp)))
          obtain ⟨v133, rfl, hp⟩ := hp
          have hF := hF.trans (bnd_ok hp)
          refine lv_if_eq hx hb d_Mo_checks_173 rfl (fun h134 => ?_) (fun h134 => ?_)
          · skip
            have hF := hF.trans (if_pos h134)
            refine lv_iinc (k := 4) hx hb d_Mo_checks_223 hl rfl (show _ + Int32.ofInt 1 = _ + 1 from rfl) (by decide) rfl (fun ls hl => ?_)
            refine lv_goto hx hb d_Mo_checks_226 rfl ?_
            exact ih x2 (x3 + 1) _ _ _ _ _ (gv_loc hl [4, 0, 5, 6] rfl) hw hF
          · skip
            have hF := hF.trans (if_neg h134)
            refine lv_aload_n hx hb d_Mo_checks_176 rfl (lv_at hl 5 rfl) ?_
            refine gf_Mo_colon hx hb T hown hK hw rfl (kf_Mo_44 T) d_Mo_checks_177 ?_
            refine lv_iload_n hx hb d_Mo_checks_180 rfl (lv_at hl 4 rfl) ?_
            have g135 := ng hno hF
            have hF := hF.trans (gd_yes g135)
            refine ga_Mo_colon hx hb hK hw rfl g135 d_Mo_checks_181 ?_
            refine lv_if_lt hx hb d_Mo_checks_182 rfl (fun h136 => ?_) (fun h136 => ?_)
            · skip
              have hF := hF.trans (if_pos h136)
              refine lv_iinc (k := 4) hx hb d_Mo_checks_223 hl rfl (show _ + Int32.ofInt 1 = _ + 1 from rfl) (by decide) rfl (fun ls hl => ?_)
              refine lv_goto hx hb d_Mo_checks_226 rfl ?_
              exact ih x2 (x3 + 1) _ _ _ _ _ (gv_loc hl [4, 0, 5, 6] rfl) hw hF
            · skip
              have hF := hF.trans (if_neg h136)
              refine lv_iload hx hb d_Mo_checks_185 (lv_at hl 0 rfl) ?_
              refine lv_if_ne hx hb d_Mo_checks_187 rfl (fun h => absurd h (by decide)) (fun _ => ?_)
              refine lv_aload_n hx hb d_Mo_checks_190 rfl (lv_at hl 5 rfl) ?_
              refine lv_iload hx hb d_Mo_checks_191 (lv_at hl 1 rfl) ?_
              refine lv_iload hx hb d_Mo_checks_193 (lv_at hl 2 rfl) ?_
              refine gy_V B hl.1 hw (t_Mo_isXmlns G _ _ ow fu v131 v130 (nn hno hF)) (kd_Mo_isXmlns T) (ki_Mo T) (km_Mo_196 T) (ka_Mo_isXmlns T) (ks_Mo_isXmlns T) ⟨by decide, by decide, by rfl⟩ (rv_Mo hK hw rfl) rfl (Nat.le_of_ble_eq_true rfl) ⟨by decide, by decide⟩ ⟨by decide, by decide⟩ d_Mo_checks_195 (fun v M137 r137 H locs hw hp => ?_) (fun x ek M137 r137 H locs hw hE hp => gr_t B hexc hw hE (by decide) (by decide) (hF.trans (bnd_ex hp)))
              obtain ⟨v137, rfl, hp⟩ := hp
              have hF := hF.trans (bnd_ok hp)
              refine lv_if_ne hx hb d_Mo_checks_198 rfl (fun h138 => ?_) (fun h138 => ?_)
              · skip
                have hF := hF.trans (if_neg h138)
                refine lv_aload_n hx hb d_Mo_checks_210 rfl (lv_at hl 5 rfl) ?_
                refine lv_bipush (v := 6) hx hb d_Mo_checks_211 (by decide) ?_
                refine lv_aload_n hx hb d_Mo_checks_213 rfl (lv_at hl 5 rfl) ?_
                refine gf_Mo_places hx hb T hown hK hw rfl (kf_Mo_47 T) d_Mo_checks_214 ?_
                refine lv_iload_n hx hb d_Mo_checks_217 rfl (lv_at hl 4 rfl) ?_
                have g139 := ng hno hF
                have hF := hF.trans (gd_yes g139)
                refine ga_Mo_places hx hb hK hw rfl g139 d_Mo_checks_218 ?_
                refine gy_V B hl.1 hw (t_Mo_fail G _ _ ow fu 6 (M137 119 x3.toNatClampNeg) (nn hno hF)) (kd_Mo_fail T) (ki_Mo T) (km_Mo_88 T) (ka_Mo_fail T) (ks_Mo_fail T) ⟨by decide, by decide, by rfl⟩ (rv_Mo hK hw rfl) rfl (Nat.le_of_ble_eq_true rfl) ⟨by decide, by decide⟩ ⟨by decide, by decide⟩ d_Mo_checks_219 (fun v M140 r140 H locs hw hp => ?_) (fun x ek M140 r140 H locs hw hE hp => gr_t B hexc hw hE (by decide) (by decide) (hF.trans (bnd_ex hp)))
                obtain ⟨v140, rfl, hp⟩ := hp
                have hF := hF.trans (bnd_ok hp)
                have g141 := ng hno hF
                have hF := hF.trans (gd_yes g141)
                exact gr_z B hw g141 d_Mo_checks_222 ⟨_, rfl, hF⟩
              · skip
                have hF := hF.trans (if_pos h138)
                refine lv_aload_n hx hb d_Mo_checks_201 rfl (lv_at hl 5 rfl) ?_
                refine gf_Mo_valueSize hx hb T hown hK hw rfl (kf_Mo_53 T) d_Mo_checks_202 ?_
                refine lv_iload_n hx hb d_Mo_checks_205 rfl (lv_at hl 4 rfl) ?_
                have g142 := ng hno hF
                have hF := hF.trans (gd_yes g142)
                refine ga_Mo_valueSize hx hb hK hw rfl g142 d_Mo_checks_206 ?_
                refine lv_if_ne hx hb d_Mo_checks_207 rfl (fun h143 => ?_) (fun h143 => ?_)
                · skip
                  have hF := hF.trans (if_neg h143)
                  refine lv_iinc (k := 4) hx hb d_Mo_checks_223 hl rfl (show _ + Int32.ofInt 1 = _ + 1 from rfl) (by decide) rfl (fun ls hl => ?_)
                  refine lv_goto hx hb d_Mo_checks_226 rfl ?_
                  exact ih x2 (x3 + 1) _ _ _ _ _ (gv_loc hl [4, 0, 5, 6] rfl) hw hF
                · skip
                  have hF := hF.trans (if_pos h143)
                  refine lv_aload_n hx hb d_Mo_checks_210 rfl (lv_at hl 5 rfl) ?_
                  refine lv_bipush (v := 6) hx hb d_Mo_checks_211 (by decide) ?_
                  refine lv_aload_n hx hb d_Mo_checks_213 rfl (lv_at hl 5 rfl) ?_
                  refine gf_Mo_places hx hb T hown hK hw rfl (kf_Mo_47 T) d_Mo_checks_214 ?_
                  refine lv_iload_n hx hb d_Mo_checks_217 rfl (lv_at hl 4 rfl) ?_
                  have g144 := ng hno hF
                  have hF := hF.trans (gd_yes g144)
                  refine ga_Mo_places hx hb hK hw rfl g144 d_Mo_checks_218 ?_
                  refine gy_V B hl.1 hw (t_Mo_fail G _ _ ow fu 6 (M137 119 x3.toNatClampNeg) (nn hno hF)) (kd_Mo_fail T) (ki_Mo T) (km_Mo_88 T) (ka_Mo_fail T) (ks_Mo_fail T) ⟨by decide, by decide, by rfl⟩ (rv_Mo hK hw rfl) rfl (Nat.le_of_ble_eq_true rfl) ⟨by decide, by decide⟩ ⟨by decide, by decide⟩ d_Mo_checks_219 (fun v M145 r145 H locs hw hp => ?_) (fun x ek M145 r145 H locs hw hE hp => gr_t B hexc hw hE (by decide) (by decide) (hF.trans (bnd_ex hp)))
                  obtain ⟨v145, rfl, hp⟩ := hp
                  have hF := hF.trans (bnd_ok hp)
                  have g146 := ng hno hF
                  have hF := hF.trans (gd_yes g146)
                  exact gr_z B hw g146 d_Mo_checks_222 ⟨_, rfl, hF⟩
        · skip
          have hF := hF.trans (if_pos h132)
          refine lv_aload_n hx hb d_Mo_checks_121 rfl (lv_at hl 4 rfl) ?_
          refine gf_Mo_pool hx hb T hown hK hw rfl (kf_Mo_17 T) d_Mo_checks_122 ?_
          refine lv_iload hx hb d_Mo_checks_125 (lv_at hl 0 rfl) ?_
          have g147 := ng hno hF
          have hF := hF.trans (gd_yes g147)
          refine ga_Mo_pool hx hb hK hw rfl g147 d_Mo_checks_127 ?_
          refine lv_bipush (v := 120) hx hb d_Mo_checks_128 (by decide) ?_
          refine lv_icmp_ne hx hb d_Mo_checks_130 rfl (fun h148 => ?_) (fun h148 => ?_)
          · skip
            have hF := hF.trans (if_neg h148)
            refine lv_iconst (v := 0) hx hb d_Mo_checks_165 (by decide) ?_
            refine lv_istore hx hb d_Mo_checks_166 hl (by decide) rfl (fun ls hl => ?_)
            refine lv_aload_n hx hb d_Mo_checks_168 rfl (lv_at hl 5 rfl) ?_
            refine lv_iload_n hx hb d_Mo_checks_169 rfl (lv_at hl 4 rfl) ?_
            refine gy_V B hl.1 hw (t_Mo_declares G _ _ ow fu x3 (nn hno hF)) (kd_Mo_declares T) (ki_Mo T) (km_Mo_205 T) (ka_Mo_declares T) (ks_Mo_declares T) ⟨by decide, by decide, by rfl⟩ (rv_Mo hK hw rfl) rfl (Nat.le_of_ble_eq_true rfl) ⟨by decide, by decide⟩ ⟨by decide, by decide⟩ d_Mo_checks_170 (fun v M149 r149 H locs hw hp => ?_) (fun x ek M149 r149 H locs hw hE hp => gr_t B hexc hw hE (by decide) (by decide) (hF.trans (bnd_ex hp)))
            obtain ⟨v149, rfl, hp⟩ := hp
            have hF := hF.trans (bnd_ok hp)
            refine lv_if_eq hx hb d_Mo_checks_173 rfl (fun h150 => ?_) (fun h150 => ?_)
            · skip
              have hF := hF.trans (if_pos h150)
              refine lv_iinc (k := 4) hx hb d_Mo_checks_223 hl rfl (show _ + Int32.ofInt 1 = _ + 1 from rfl) (by decide) rfl (fun ls hl => ?_)
              refine lv_goto hx hb d_Mo_checks_226 rfl ?_
              exact ih x2 (x3 + 1) _ _ _ _ _ (gv_loc hl [4, 0, 5, 6] rfl) hw hF
            · skip
              have hF := hF.trans (if_neg h150)
              refine lv_aload_n hx hb d_Mo_checks_176 rfl (lv_at hl 5 rfl) ?_
              refine gf_Mo_colon hx hb T hown hK hw rfl (kf_Mo_44 T) d_Mo_checks_177 ?_
              refine lv_iload_n hx hb d_Mo_checks_180 rfl (lv_at hl 4 rfl) ?_
              have g151 := ng hno hF
              have hF := hF.trans (gd_yes g151)
              refine ga_Mo_colon hx hb hK hw rfl g151 d_Mo_checks_181 ?_
              refine lv_if_lt hx hb d_Mo_checks_182 rfl (fun h152 => ?_) (fun h152 => ?_)
              · skip
                have hF := hF.trans (if_pos h152)
                refine lv_iinc (k := 4) hx hb d_Mo_checks_223 hl rfl (show _ + Int32.ofInt 1 = _ + 1 from rfl) (by decide) rfl (fun ls hl => ?_)
                refine lv_goto hx hb d_Mo_checks_226 rfl ?_
                exact ih x2 (x3 + 1) _ _ _ _ _ (gv_loc hl [4, 0, 5, 6] rfl) hw hF
              · skip
                have hF := hF.trans (if_neg h152)
                refine lv_iload hx hb d_Mo_checks_185 (lv_at hl 0 rfl) ?_
                refine lv_if_ne hx hb d_Mo_checks_187 rfl (fun h => absurd h (by decide)) (fun _ => ?_)
                refine lv_aload_n hx hb d_Mo_checks_190 rfl (lv_at hl 5 rfl) ?_
                refine lv_iload hx hb d_Mo_checks_191 (lv_at hl 1 rfl) ?_
                refine lv_iload hx hb d_Mo_checks_193 (lv_at hl 2 rfl) ?_
                refine gy_V B hl.1 hw (t_Mo_isXmlns G _ _ ow fu v131 v130 (nn hno hF)) (kd_Mo_isXmlns T) (ki_Mo T) (km_Mo_196 T) (ka_Mo_isXmlns T) (ks_Mo_isXmlns T) ⟨by decide, by decide, by rfl⟩ (rv_Mo hK hw rfl) rfl (Nat.le_of_ble_eq_true rfl) ⟨by decide, by decide⟩ ⟨by decide, by decide⟩ d_Mo_checks_195 (fun v M153 r153 H locs hw hp => ?_) (fun x ek M153 r153 H locs hw hE hp => gr_t B hexc hw hE (by decide) (by decide) (hF.trans (bnd_ex hp)))
                obtain ⟨v153, rfl, hp⟩ := hp
                have hF := hF.trans (bnd_ok hp)
                refine lv_if_ne hx hb d_Mo_checks_198 rfl (fun h154 => ?_) (fun h154 => ?_)
                · skip
                  have hF := hF.trans (if_neg h154)
                  refine lv_aload_n hx hb d_Mo_checks_210 rfl (lv_at hl 5 rfl) ?_
                  refine lv_bipush (v := 6) hx hb d_Mo_checks_211 (by decide) ?_
                  refine lv_aload_n hx hb d_Mo_checks_213 rfl (lv_at hl 5 rfl) ?_
                  refine gf_Mo_places hx hb T hown hK hw rfl (kf_Mo_47 T) d_Mo_checks_214 ?_
                  refine lv_iload_n hx hb d_Mo_checks_217 rfl (lv_at hl 4 rfl) ?_
                  have g155 := ng hno hF
                  have hF := hF.trans (gd_yes g155)
                  refine ga_Mo_places hx hb hK hw rfl g155 d_Mo_checks_218 ?_
                  refine gy_V B hl.1 hw (t_Mo_fail G _ _ ow fu 6 (M153 119 x3.toNatClampNeg) (nn hno hF)) (kd_Mo_fail T) (ki_Mo T) (km_Mo_88 T) (ka_Mo_fail T) (ks_Mo_fail T) ⟨by decide, by decide, by rfl⟩ (rv_Mo hK hw rfl) rfl (Nat.le_of_ble_eq_true rfl) ⟨by decide, by decide⟩ ⟨by decide, by decide⟩ d_Mo_checks_219 (fun v M156 r156 H locs hw hp => ?_) (fun x ek M156 r156 H locs hw hE hp => gr_t B hexc hw hE (by decide) (by decide) (hF.trans (bnd_ex hp)))
                  obtain ⟨v156, rfl, hp⟩ := hp
                  have hF := hF.trans (bnd_ok hp)
                  have g157 := ng hno hF
                  have hF := hF.trans (gd_yes g157)
                  exact gr_z B hw g157 d_Mo_checks_222 ⟨_, rfl, hF⟩
                · skip
                  have hF := hF.trans (if_pos h154)
                  refine lv_aload_n hx hb d_Mo_checks_201 rfl (lv_at hl 5 rfl) ?_
                  refine gf_Mo_valueSize hx hb T hown hK hw rfl (kf_Mo_53 T) d_Mo_checks_202 ?_
                  refine lv_iload_n hx hb d_Mo_checks_205 rfl (lv_at hl 4 rfl) ?_
                  have g158 := ng hno hF
                  have hF := hF.trans (gd_yes g158)
                  refine ga_Mo_valueSize hx hb hK hw rfl g158 d_Mo_checks_206 ?_
                  refine lv_if_ne hx hb d_Mo_checks_207 rfl (fun h159 => ?_) (fun h159 => ?_)
                  · skip
                    have hF := hF.trans (if_neg h159)
                    refine lv_iinc (k := 4) hx hb d_Mo_checks_223 hl rfl (show _ + Int32.ofInt 1 = _ + 1 from rfl) (by decide) rfl (fun ls hl => ?_)
                    refine lv_goto hx hb d_Mo_checks_226 rfl ?_
                    exact ih x2 (x3 + 1) _ _ _ _ _ (gv_loc hl [4, 0, 5, 6] rfl) hw hF
                  · skip
                    have hF := hF.trans (if_pos h159)
                    refine lv_aload_n hx hb d_Mo_checks_210 rfl (lv_at hl 5 rfl) ?_
                    refine lv_bipush (v := 6) hx hb d_Mo_checks_211 (by decide) ?_
                    refine lv_aload_n hx hb d_Mo_checks_213 rfl (lv_at hl 5 rfl) ?_
                    refine gf_Mo_places hx hb T hown hK hw rfl (kf_Mo_47 T) d_Mo_checks_214 ?_
                    refine lv_iload_n hx hb d_Mo_checks_217 rfl (lv_at hl 4 rfl) ?_
                    have g160 := ng hno hF
                    have hF := hF.trans (gd_yes g160)
                    refine ga_Mo_places hx hb hK hw rfl g160 d_Mo_checks_218 ?_
                    refine gy_V B hl.1 hw (t_Mo_fail G _ _ ow fu 6 (M153 119 x3.toNatClampNeg) (nn hno hF)) (kd_Mo_fail T) (ki_Mo T) (km_Mo_88 T) (ka_Mo_fail T) (ks_Mo_fail T) ⟨by decide, by decide, by rfl⟩ (rv_Mo hK hw rfl) rfl (Nat.le_of_ble_eq_true rfl) ⟨by decide, by decide⟩ ⟨by decide, by decide⟩ d_Mo_checks_219 (fun v M161 r161 H locs hw hp => ?_) (fun x ek M161 r161 H locs hw hE hp => gr_t B hexc hw hE (by decide) (by decide) (hF.trans (bnd_ex hp)))
                    obtain ⟨v161, rfl, hp⟩ := hp
                    have hF := hF.trans (bnd_ok hp)
                    have g162 := ng hno hF
                    have hF := hF.trans (gd_yes g162)
                    exact gr_z B hw g162 d_Mo_checks_222 ⟨_, rfl, hF⟩
          · skip
            have hF := hF.trans (if_pos h148)
            refine lv_aload_n hx hb d_Mo_checks_133 rfl (lv_at hl 4 rfl) ?_
            refine gf_Mo_pool hx hb T hown hK hw rfl (kf_Mo_17 T) d_Mo_checks_134 ?_
            refine lv_iload hx hb d_Mo_checks_137 (lv_at hl 0 rfl) ?_
            refine lv_iconst (v := 1) hx hb d_Mo_checks_139 (by decide) ?_
            refine lv_iadd hx hb d_Mo_checks_140 ?_
            have g163 := ng hno hF
            have hF := hF.trans (gd_yes g163)
            refine ga_Mo_pool hx hb hK hw rfl g163 d_Mo_checks_141 ?_
            refine lv_bipush (v := 109) hx hb d_Mo_checks_142 (by decide) ?_
            refine lv_icmp_ne hx hb d_Mo_checks_144 rfl (fun h164 => ?_) (fun h164 => ?_)
            · skip
              have hF := hF.trans (if_neg h164)
              refine lv_iconst (v := 0) hx hb d_Mo_checks_165 (by decide) ?_
              refine lv_istore hx hb d_Mo_checks_166 hl (by decide) rfl (fun ls hl => ?_)
              refine lv_aload_n hx hb d_Mo_checks_168 rfl (lv_at hl 5 rfl) ?_
              refine lv_iload_n hx hb d_Mo_checks_169 rfl (lv_at hl 4 rfl) ?_
              refine gy_V B hl.1 hw (t_Mo_declares G _ _ ow fu x3 (nn hno hF)) (kd_Mo_declares T) (ki_Mo T) (km_Mo_205 T) (ka_Mo_declares T) (ks_Mo_declares T) ⟨by decide, by decide, by rfl⟩ (rv_Mo hK hw rfl) rfl (Nat.le_of_ble_eq_true rfl) ⟨by decide, by decide⟩ ⟨by decide, by decide⟩ d_Mo_checks_170 (fun v M165 r165 H locs hw hp => ?_) (fun x ek M165 r165 H locs hw hE hp => gr_t B hexc hw hE (by decide) (by decide) (hF.trans (bnd_ex hp)))
              obtain ⟨v165, rfl, hp⟩ := hp
              have hF := hF.trans (bnd_ok hp)
              refine lv_if_eq hx hb d_Mo_checks_173 rfl (fun h166 => ?_) (fun h166 => ?_)
              · skip
                have hF := hF.trans (if_pos h166)
                refine lv_iinc (k := 4) hx hb d_Mo_checks_223 hl rfl (show _ + Int32.ofInt 1 = _ + 1 from rfl) (by decide) rfl (fun ls hl => ?_)
                refine lv_goto hx hb d_Mo_checks_226 rfl ?_
                exact ih x2 (x3 + 1) _ _ _ _ _ (gv_loc hl [4, 0, 5, 6] rfl) hw hF
              · skip
                have hF := hF.trans (if_neg h166)
                refine lv_aload_n hx hb d_Mo_checks_176 rfl (lv_at hl 5 rfl) ?_
                refine gf_Mo_colon hx hb T hown hK hw rfl (kf_Mo_44 T) d_Mo_checks_177 ?_
                refine lv_iload_n hx hb d_Mo_checks_180 rfl (lv_at hl 4 rfl) ?_
                have g167 := ng hno hF
                have hF := hF.trans (gd_yes g167)
                refine ga_Mo_colon hx hb hK hw rfl g167 d_Mo_checks_181 ?_
                refine lv_if_lt hx hb d_Mo_checks_182 rfl (fun h168 => ?_) (fun h168 => ?_)
                · skip
                  have hF := hF.trans (if_pos h168)
                  refine lv_iinc (k := 4) hx hb d_Mo_checks_223 hl rfl (show _ + Int32.ofInt 1 = _ + 1 from rfl) (by decide) rfl (fun ls hl => ?_)
                  refine lv_goto hx hb d_Mo_checks_226 rfl ?_
                  exact ih x2 (x3 + 1) _ _ _ _ _ (gv_loc hl [4, 0, 5, 6] rfl) hw hF
                · skip
                  have hF := hF.trans (if_neg h168)
                  refine lv_iload hx hb d_Mo_checks_185 (lv_at hl 0 rfl) ?_
                  refine lv_if_ne hx hb d_Mo_checks_187 rfl (fun h => absurd h (by decide)) (fun _ => ?_)
                  refine lv_aload_n hx hb d_Mo_checks_190 rfl (lv_at hl 5 rfl) ?_
                  refine lv_iload hx hb d_Mo_checks_191 (lv_at hl 1 rfl) ?_
                  refine lv_iload hx hb d_Mo_checks_193 (lv_at hl 2 rfl) ?_
                  refine gy_V B hl.1 hw (t_Mo_isXmlns G _ _ ow fu v131 v130 (nn hno hF)) (kd_Mo_isXmlns T) (ki_Mo T) (km_Mo_196 T) (ka_Mo_isXmlns T) (ks_Mo_isXmlns T) ⟨by decide, by decide, by rfl⟩ (rv_Mo hK hw rfl) rfl (Nat.le_of_ble_eq_true rfl) ⟨by decide, by decide⟩ ⟨by decide, by decide⟩ d_Mo_checks_195 (fun v M169 r169 H locs hw hp => ?_) (fun x ek M169 r169 H locs hw hE hp => gr_t B hexc hw hE (by decide) (by decide) (hF.trans (bnd_ex hp)))
                  obtain ⟨v169, rfl, hp⟩ := hp
                  have hF := hF.trans (bnd_ok hp)
                  refine lv_if_ne hx hb d_Mo_checks_198 rfl (fun h170 => ?_) (fun h170 => ?_)
                  · skip
                    have hF := hF.trans (if_neg h170)
                    refine lv_aload_n hx hb d_Mo_checks_210 rfl (lv_at hl 5 rfl) ?_
                    refine lv_bipush (v := 6) hx hb d_Mo_checks_211 (by decide) ?_
                    refine lv_aload_n hx hb d_Mo_checks_213 rfl (lv_at hl 5 rfl) ?_
                    refine gf_Mo_places hx hb T hown hK hw rfl (kf_Mo_47 T) d_Mo_checks_214 ?_
                    refine lv_iload_n hx hb d_Mo_checks_217 rfl (lv_at hl 4 rfl) ?_
                    have g171 := ng hno hF
                    have hF := hF.trans (gd_yes g171)
                    refine ga_Mo_places hx hb hK hw rfl g171 d_Mo_checks_218 ?_
                    refine gy_V B hl.1 hw (t_Mo_fail G _ _ ow fu 6 (M169 119 x3.toNatClampNeg) (nn hno hF)) (kd_Mo_fail T) (ki_Mo T) (km_Mo_88 T) (ka_Mo_fail T) (ks_Mo_fail T) ⟨by decide, by decide, by rfl⟩ (rv_Mo hK hw rfl) rfl (Nat.le_of_ble_eq_true rfl) ⟨by decide, by decide⟩ ⟨by decide, by decide⟩ d_Mo_checks_219 (fun v M172 r172 H locs hw hp => ?_) (fun x ek M172 r172 H locs hw hE hp => gr_t B hexc hw hE (by decide) (by decide) (hF.trans (bnd_ex hp)))
                    obtain ⟨v172, rfl, hp⟩ := hp
                    have hF := hF.trans (bnd_ok hp)
                    have g173 := ng hno hF
                    have hF := hF.trans (gd_yes g173)
                    exact gr_z B hw g173 d_Mo_checks_222 ⟨_, rfl, hF⟩
                  · skip
                    have hF := hF.trans (if_pos h170)
                    refine lv_aload_n hx hb d_Mo_checks_201 rfl (lv_at hl 5 rfl) ?_
                    refine gf_Mo_valueSize hx hb T hown hK hw rfl (kf_Mo_53 T) d_Mo_checks_202 ?_
                    refine lv_iload_n hx hb d_Mo_checks_205 rfl (lv_at hl 4 rfl) ?_
                    have g174 := ng hno hF
                    have hF := hF.trans (gd_yes g174)
                    refine ga_Mo_valueSize hx hb hK hw rfl g174 d_Mo_checks_206 ?_
                    refine lv_if_ne hx hb d_Mo_checks_207 rfl (fun h175 => ?_) (fun h175 => ?_)
                    · skip
                      have hF := hF.trans (if_neg h175)
                      refine lv_iinc (k := 4) hx hb d_Mo_checks_223 hl rfl (show _ + Int32.ofInt 1 = _ + 1 from rfl) (by decide) rfl (fun ls hl => ?_)
                      refine lv_goto hx hb d_Mo_checks_226 rfl ?_
                      exact ih x2 (x3 + 1) _ _ _ _ _ (gv_loc hl [4, 0, 5, 6] rfl) hw hF
                    · skip
                      have hF := hF.trans (if_pos h175)
                      refine lv_aload_n hx hb d_Mo_checks_210 rfl (lv_at hl 5 rfl) ?_
                      refine lv_bipush (v := 6) hx hb d_Mo_checks_211 (by decide) ?_
                      refine lv_aload_n hx hb d_Mo_checks_213 rfl (lv_at hl 5 rfl) ?_
                      refine gf_Mo_places hx hb T hown hK hw rfl (kf_Mo_47 T) d_Mo_checks_214 ?_
                      refine lv_iload_n hx hb d_Mo_checks_217 rfl (lv_at hl 4 rfl) ?_
                      have g176 := ng hno hF
                      have hF := hF.trans (gd_yes g176)
                      refine ga_Mo_places hx hb hK hw rfl g176 d_Mo_checks_218 ?_
                      refine gy_V B hl.1 hw (t_Mo_fail G _ _ ow fu 6 (M169 119 x3.toNatClampNeg) (nn hno hF)) (kd_Mo_fail T) (ki_Mo T) (km_Mo_88 T) (ka_Mo_fail T) (ks_Mo_fail T) ⟨by decide, by decide, by rfl⟩ (rv_Mo hK hw rfl) rfl (Nat.le_of_ble_eq_true rfl) ⟨by decide, by decide⟩ ⟨by decide, by decide⟩ d_Mo_checks_219 (fun v M177 r177 H locs hw hp => ?_) (fun x ek M177 r177 H locs hw hE hp => gr_t B hexc hw hE (by decide) (by decide) (hF.trans (bnd_ex hp)))
                      obtain ⟨v177, rfl, hp⟩ := hp
                      have hF := hF.trans (bnd_ok hp)
                      have g178 := ng hno hF
                      have hF := hF.trans (gd_yes g178)
                      exact gr_z B hw g178 d_Mo_checks_222 ⟨_, rfl, hF⟩
            · skip
              have hF := hF.trans (if_pos h164)
              refine lv_aload_n hx hb d_Mo_checks_147 rfl (lv_at hl 4 rfl) ?_
              refine gf_Mo_pool hx hb T hown hK hw rfl (kf_Mo_17 T) d_Mo_checks_148 ?_
              refine lv_iload hx hb d_Mo_checks_151 (lv_at hl 0 rfl) ?_
              refine lv_iconst (v := 2) hx hb d_Mo_checks_153 (by decide) ?_
              refine lv_iadd hx hb d_Mo_checks_154 ?_
              have g179 := ng hno hF
              have hF := hF.trans (gd_yes g179)
              refine ga_Mo_pool hx hb hK hw rfl g179 d_Mo_checks_155 ?_
              refine lv_bipush (v := 108) hx hb d_Mo_checks_156 (by decide) ?_
              refine lv_icmp_ne hx hb d_Mo_checks_158 rfl (fun h180 => ?_) (fun h180 => ?_)
              · skip
                have hF := hF.trans (if_neg h180)
                refine lv_iconst (v := 0) hx hb d_Mo_checks_165 (by decide) ?_
                refine lv_istore hx hb d_Mo_checks_166 hl (by decide) rfl (fun ls hl => ?_)
                refine lv_aload_n hx hb d_Mo_checks_168 rfl (lv_at hl 5 rfl) ?_
                refine lv_iload_n hx hb d_Mo_checks_169 rfl (lv_at hl 4 rfl) ?_
                refine gy_V B hl.1 hw (t_Mo_declares G _ _ ow fu x3 (nn hno hF)) (kd_Mo_declares T) (ki_Mo T) (km_Mo_205 T) (ka_Mo_declares T) (ks_Mo_declares T) ⟨by decide, by decide, by rfl⟩ (rv_Mo hK hw rfl) rfl (Nat.le_of_ble_eq_true rfl) ⟨by decide, by decide⟩ ⟨by decide, by decide⟩ d_Mo_checks_170 (fun v M181 r181 H locs hw hp => ?_) (fun x ek M181 r181 H locs hw hE hp => gr_t B hexc hw hE (by decide) (by decide) (hF.trans (bnd_ex hp)))
                obtain ⟨v181, rfl, hp⟩ := hp
                have hF := hF.trans (bnd_ok hp)
                refine lv_if_eq hx hb d_Mo_checks_173 rfl (fun h182 => ?_) (fun h182 => ?_)
                · skip
                  have hF := hF.trans (if_pos h182)
                  refine lv_iinc (k := 4) hx hb d_Mo_checks_223 hl rfl (show _ + Int32.ofInt 1 = _ + 1 from rfl) (by decide) rfl (fun ls hl => ?_)
                  refine lv_goto hx hb d_Mo_checks_226 rfl ?_
                  exact ih x2 (x3 + 1) _ _ _ _ _ (gv_loc hl [4, 0, 5, 6] rfl) hw hF
                · skip
                  have hF := hF.trans (if_neg h182)
                  refine lv_aload_n hx hb d_Mo_checks_176 rfl (lv_at hl 5 rfl) ?_
                  refine gf_Mo_colon hx hb T hown hK hw rfl (kf_Mo_44 T) d_Mo_checks_177 ?_
                  refine lv_iload_n hx hb d_Mo_checks_180 rfl (lv_at hl 4 rfl) ?_
                  have g183 := ng hno hF
                  have hF := hF.trans (gd_yes g183)
                  refine ga_Mo_colon hx hb hK hw rfl g183 d_Mo_checks_181 ?_
                  refine lv_if_lt hx hb d_Mo_checks_182 rfl (fun h184 => ?_) (fun h184 => ?_)
                  · skip
                    have hF := hF.trans (if_pos h184)
                    refine lv_iinc (k := 4) hx hb d_Mo_checks_223 hl rfl (show _ + Int32.ofInt 1 = _ + 1 from rfl) (by decide) rfl (fun ls hl => ?_)
                    refine lv_goto hx hb d_Mo_checks_226 rfl ?_
                    exact ih x2 (x3 + 1) _ _ _ _ _ (gv_loc hl [4, 0, 5, 6] rfl) hw hF
                  · skip
                    have hF := hF.trans (if_neg h184)
                    refine lv_iload hx hb d_Mo_checks_185 (lv_at hl 0 rfl) ?_
                    refine lv_if_ne hx hb d_Mo_checks_187 rfl (fun h => absurd h (by decide)) (fun _ => ?_)
                    refine lv_aload_n hx hb d_Mo_checks_190 rfl (lv_at hl 5 rfl) ?_
                    refine lv_iload hx hb d_Mo_checks_191 (lv_at hl 1 rfl) ?_
                    refine lv_iload hx hb d_Mo_checks_193 (lv_at hl 2 rfl) ?_
                    refine gy_V B hl.1 hw (t_Mo_isXmlns G _ _ ow fu v131 v130 (nn hno hF)) (kd_Mo_isXmlns T) (ki_Mo T) (km_Mo_196 T) (ka_Mo_isXmlns T) (ks_Mo_isXmlns T) ⟨by decide, by decide, by rfl⟩ (rv_Mo hK hw rfl) rfl (Nat.le_of_ble_eq_true rfl) ⟨by decide, by decide⟩ ⟨by decide, by decide⟩ d_Mo_checks_195 (fun v M185 r185 H locs hw hp => ?_) (fun x ek M185 r185 H locs hw hE hp => gr_t B hexc hw hE (by decide) (by decide) (hF.trans (bnd_ex hp)))
                    obtain ⟨v185, rfl, hp⟩ := hp
                    have hF := hF.trans (bnd_ok hp)
                    refine lv_if_ne hx hb d_Mo_checks_198 rfl (fun h186 => ?_) (fun h186 => ?_)
                    · skip
                      have hF := hF.trans (if_neg h186)
                      refine lv_aload_n hx hb d_Mo_checks_210 rfl (lv_at hl 5 rfl) ?_
                      refine lv_bipush (v := 6) hx hb d_Mo_checks_211 (by decide) ?_
                      refine lv_aload_n hx hb d_Mo_checks_213 rfl (lv_at hl 5 rfl) ?_
                      refine gf_Mo_places hx hb T hown hK hw rfl (kf_Mo_47 T) d_Mo_checks_214 ?_
                      refine lv_iload_n hx hb d_Mo_checks_217 rfl (lv_at hl 4 rfl) ?_
                      have g187 := ng hno hF
                      have hF := hF.trans (gd_yes g187)
                      refine ga_Mo_places hx hb hK hw rfl g187 d_Mo_checks_218 ?_
                      refine gy_V B hl.1 hw (t_Mo_fail G _ _ ow fu 6 (M185 119 x3.toNatClampNeg) (nn hno hF)) (kd_Mo_fail T) (ki_Mo T) (km_Mo_88 T) (ka_Mo_fail T) (ks_Mo_fail T) ⟨by decide, by decide, by rfl⟩ (rv_Mo hK hw rfl) rfl (Nat.le_of_ble_eq_true rfl) ⟨by decide, by decide⟩ ⟨by decide, by decide⟩ d_Mo_checks_219 (fun v M188 r188 H locs hw hp => ?_) (fun x ek M188 r188 H locs hw hE hp => gr_t B hexc hw hE (by decide) (by decide) (hF.trans (bnd_ex hp)))
                      obtain ⟨v188, rfl, hp⟩ := hp
                      have hF := hF.trans (bnd_ok hp)
                      have g189 := ng hno hF
                      have hF := hF.trans (gd_yes g189)
                      exact gr_z B hw g189 d_Mo_checks_222 ⟨_, rfl, hF⟩
                    · skip
                      have hF := hF.trans (if_pos h186)
                      refine lv_aload_n hx hb d_Mo_checks_201 rfl (lv_at hl 5 rfl) ?_
                      refine gf_Mo_valueSize hx hb T hown hK hw rfl (kf_Mo_53 T) d_Mo_checks_202 ?_
                      refine lv_iload_n hx hb d_Mo_checks_205 rfl (lv_at hl 4 rfl) ?_
                      have g190 := ng hno hF
                      have hF := hF.trans (gd_yes g190)
                      refine ga_Mo_valueSize hx hb hK hw rfl g190 d_Mo_checks_206 ?_
                      refine lv_if_ne hx hb d_Mo_checks_207 rfl (fun h191 => ?_) (fun h191 => ?_)
                      · skip
                        have hF := hF.trans (if_neg h191)
                        refine lv_iinc (k := 4) hx hb d_Mo_checks_223 hl rfl (show _ + Int32.ofInt 1 = _ + 1 from rfl) (by decide) rfl (fun ls hl => ?_)
                        refine lv_goto hx hb d_Mo_checks_226 rfl ?_
                        exact ih x2 (x3 + 1) _ _ _ _ _ (gv_loc hl [4, 0, 5, 6] rfl) hw hF
                      · skip
                        have hF := hF.trans (if_pos h191)
                        refine lv_aload_n hx hb d_Mo_checks_210 rfl (lv_at hl 5 rfl) ?_
                        refine lv_bipush (v := 6) hx hb d_Mo_checks_211 (by decide) ?_
                        refine lv_aload_n hx hb d_Mo_checks_213 rfl (lv_at hl 5 rfl) ?_
                        refine gf_Mo_places hx hb T hown hK hw rfl (kf_Mo_47 T) d_Mo_checks_214 ?_
                        refine lv_iload_n hx hb d_Mo_checks_217 rfl (lv_at hl 4 rfl) ?_
                        have g192 := ng hno hF
                        have hF := hF.trans (gd_yes g192)
                        refine ga_Mo_places hx hb hK hw rfl g192 d_Mo_checks_218 ?_
                        refine gy_V B hl.1 hw (t_Mo_fail G _ _ ow fu 6 (M185 119 x3.toNatClampNeg) (nn hno hF)) (kd_Mo_fail T) (ki_Mo T) (km_Mo_88 T) (ka_Mo_fail T) (ks_Mo_fail T) ⟨by decide, by decide, by rfl⟩ (rv_Mo hK hw rfl) rfl (Nat.le_of_ble_eq_true rfl) ⟨by decide, by decide⟩ ⟨by decide, by decide⟩ d_Mo_checks_219 (fun v M193 r193 H locs hw hp => ?_) (fun x ek M193 r193 H locs hw hE hp => gr_t B hexc hw hE (by decide) (by decide) (hF.trans (bnd_ex hp)))
                        obtain ⟨v193, rfl, hp⟩ := hp
                        have hF := hF.trans (bnd_ok hp)
                        have g194 := ng hno hF
                        have hF := hF.trans (gd_yes g194)
                        exact gr_z B hw g194 d_Mo_checks_222 ⟨_, rfl, hF⟩
              · skip
                have hF := hF.trans (if_pos h180)
                refine lv_iconst (v := 1) hx hb d_Mo_checks_161 (by decide) ?_
                refine lv_goto hx hb d_Mo_checks_162 rfl ?_
                refine lv_istore hx hb d_Mo_checks_166 hl (by decide) rfl (fun ls hl => ?_)
                refine lv_aload_n hx hb d_Mo_checks_168 rfl (lv_at hl 5 rfl) ?_
                refine lv_iload_n hx hb d_Mo_checks_169 rfl (lv_at hl 4 rfl) ?_
                refine gy_V B hl.1 hw (t_Mo_declares G _ _ ow fu x3 (nn hno hF)) (kd_Mo_declares T) (ki_Mo T) (km_Mo_205 T) (ka_Mo_declares T) (ks_Mo_declares T) ⟨by decide, by decide, by rfl⟩ (rv_Mo hK hw rfl) rfl (Nat.le_of_ble_eq_true rfl) ⟨by decide, by decide⟩ ⟨by decide, by decide⟩ d_Mo_checks_170 (fun v M195 r195 H locs hw hp => ?_) (fun x ek M195 r195 H locs hw hE hp => gr_t B hexc hw hE (by decide) (by decide) (hF.trans (bnd_ex hp)))
                obtain ⟨v195, rfl, hp⟩ := hp
                have hF := hF.trans (bnd_ok hp)
                refine lv_if_eq hx hb d_Mo_checks_173 rfl (fun h196 => ?_) (fun h196 => ?_)
                · skip
                  have hF := hF.trans (if_pos h196)
                  refine lv_iinc (k := 4) hx hb d_Mo_checks_223 hl rfl (show _ + Int32.ofInt 1 = _ + 1 from rfl) (by decide) rfl (fun ls hl => ?_)
                  refine lv_goto hx hb d_Mo_checks_226 rfl ?_
                  exact ih x2 (x3 + 1) _ _ _ _ _ (gv_loc hl [4, 0, 5, 6] rfl) hw hF
                · skip
                  have hF := hF.trans (if_neg h196)
                  refine lv_aload_n hx hb d_Mo_checks_176 rfl (lv_at hl 5 rfl) ?_
                  refine gf_Mo_colon hx hb T hown hK hw rfl (kf_Mo_44 T) d_Mo_checks_177 ?_
                  refine lv_iload_n hx hb d_Mo_checks_180 rfl (lv_at hl 4 rfl) ?_
                  have g197 := ng hno hF
                  have hF := hF.trans (gd_yes g197)
                  refine ga_Mo_colon hx hb hK hw rfl g197 d_Mo_checks_181 ?_
                  refine lv_if_lt hx hb d_Mo_checks_182 rfl (fun h198 => ?_) (fun h198 => ?_)
                  · skip
                    have hF := hF.trans (if_pos h198)
                    refine lv_iinc (k := 4) hx hb d_Mo_checks_223 hl rfl (show _ + Int32.ofInt 1 = _ + 1 from rfl) (by decide) rfl (fun ls hl => ?_)
                    refine lv_goto hx hb d_Mo_checks_226 rfl ?_
                    exact ih x2 (x3 + 1) _ _ _ _ _ (gv_loc hl [4, 0, 5, 6] rfl) hw hF
                  · skip
                    have hF := hF.trans (if_neg h198)
                    refine lv_iload hx hb d_Mo_checks_185 (lv_at hl 0 rfl) ?_
                    refine lv_if_ne hx hb d_Mo_checks_187 rfl (fun _ => ?_) (fun h => absurd h (by decide))
                    refine lv_aload_n hx hb d_Mo_checks_210 rfl (lv_at hl 5 rfl) ?_
                    refine lv_bipush (v := 6) hx hb d_Mo_checks_211 (by decide) ?_
                    refine lv_aload_n hx hb d_Mo_checks_213 rfl (lv_at hl 5 rfl) ?_
                    refine gf_Mo_places hx hb T hown hK hw rfl (kf_Mo_47 T) d_Mo_checks_214 ?_
                    refine lv_iload_n hx hb d_Mo_checks_217 rfl (lv_at hl 4 rfl) ?_
                    have g199 := ng hno hF
                    have hF := hF.trans (gd_yes g199)
                    refine ga_Mo_places hx hb hK hw rfl g199 d_Mo_checks_218 ?_
                    refine gy_V B hl.1 hw (t_Mo_fail G _ _ ow fu 6 (M195 119 x3.toNatClampNeg) (nn hno hF)) (kd_Mo_fail T) (ki_Mo T) (km_Mo_88 T) (ka_Mo_fail T) (ks_Mo_fail T) ⟨by decide, by decide, by rfl⟩ (rv_Mo hK hw rfl) rfl (Nat.le_of_ble_eq_true rfl) ⟨by decide, by decide⟩ ⟨by decide, by decide⟩ d_Mo_checks_219 (fun v M200 r200 H locs hw hp => ?_) (fun x ek M200 r200 H locs hw hE hp => gr_t B hexc hw hE (by decide) (by decide) (hF.trans (bnd_ex hp)))
                    obtain ⟨v200, rfl, hp⟩ := hp
                    have hF := hF.trans (bnd_ok hp)
                    have g201 := ng hno hF
                    have hF := hF.trans (gd_yes g201)
                    exact gr_z B hw g201 d_Mo_checks_222 ⟨_, rfl, hF⟩
  have X91 : ∀ (x2 : Int32) (M1 : gMem) (r1 : gRef) (H : Heap) (locs : List Loc) (ls : Array Slot), lv_has ls 7 [(2, .int x2), (0, .ref (s0.heap.size + 383)), (1, .int x1)] → gWd s0 D aC M1 r1 ow H locs → F_Mo_checks fu x1 M r = F_Mo_checks_B91 fu x1 x2 M1 r1 → W p l e (gRm 5 115 0 0) s m ([.ref (s0.heap.size + 383), .int x1] : List Value).toArray below meth c H locs 0 0 (gt_Q below (gQ s0 D aC ow (qI (F_Mo_checks fu x1 M r)) (qT (F_Mo_checks fu x1 M r))) s 0 0 0 0 (fun q => s0.heap.size ≤ q)) (F0 m 91 ls []) := by
    intro x2 M1 r1 H locs ls hl hw hF
    have hF := hF.trans (F_Mo_checks_B91.eq_1 _ _ _ _ _)
    refine lv_bipush (v := 6) hx hb d_Mo_checks_91 (by decide) ?_
    refine lv_iload_n hx hb d_Mo_checks_93 rfl (lv_at hl 2 rfl) ?_
    refine lv_imul hx hb d_Mo_checks_94 ?_
    refine lv_istore_n hx hb d_Mo_checks_95 rfl hl (by decide) rfl (fun ls hl => ?_)
    exact L96 fu x2 (6 * x1) _ _ _ _ _ (gv_loc hl [1, 0, 2, 3] rfl) hw hF
  have L17 : ∀ (d : Nat) (x2 : Int32) (x3 : Int32) (M1 : gMem) (r1 : gRef) (H : Heap) (locs : List Loc) (ls : Array Slot), lv_has ls 7 [(2, .int x2), (3, .int x3), (0, .ref (s0.heap.size + 383)), (1, .int x1)] → gWd s0 D aC M1 r1 ow H locs → F_Mo_checks fu x1 M r = F_Mo_checks_L17 fu x1 d x2 x3 M1 r1 → W p l e (gRm 5 115 0 0) s m ([.ref (s0.heap.size + 383), .int x1] : List Value).toArray below meth c H locs 0 0 (gt_Q below (gQ s0 D aC ow (qI (F_Mo_checks fu x1 M r)) (qT (F_Mo_checks fu x1 M r))) s 0 0 0 0 (fun q => s0.heap.size ≤ q)) (F0 m 17 ls []) := by
    intro d
    induction d with
    | zero => intro x2 x3 M1 r1 H locs ls hl hw hF; exact absurd hF hno
    | succ d ih =>
      intro x2 x3 M1 r1 H locs ls hl hw hF
      have hF := hF.trans (F_Mo_checks_L17.eq_2 _ _ _ _ _ _ _)
      refine lv_iload_n hx hb d_Mo_checks_17 rfl (lv_at hl 1 rfl) ?_
      refine lv_iload_n hx hb d_Mo_checks_18 rfl (lv_at hl 0 rfl) ?_
      refine lv_icmp_ge hx hb d_Mo_checks_19 rfl (fun h202 => ?_) (fun h202 => ?_)
      · skip
        have hF := hF.trans (if_pos h202)
        exact X91 x2 _ _ _ _ _ (gv_loc hl [0, 2, 3] rfl) hw hF
      · skip
        have hF := hF.trans (if_neg h202)
        refine lv_bipush (v := 6) hx hb d_Mo_checks_22 (by decide) ?_
        refine lv_iload_n hx hb d_Mo_checks_24 rfl (lv_at hl 3 rfl) ?_
        refine lv_imul hx hb d_Mo_checks_25 ?_
        refine lv_istore hx hb d_Mo_checks_26 hl (by decide) rfl (fun ls hl => ?_)
        have I28 : ∀ (d2 : Nat) (x4 : Int32) (M1 : gMem) (r1 : gRef) (H : Heap) (locs : List Loc) (ls : Array Slot), lv_has ls 7 [(0, .ref (s0.heap.size + 383)), (1, .int x1), (2, .int x2), (3, .int x3), (4, .int x4)] → gWd s0 D aC M1 r1 ow H locs → F_Mo_checks fu x1 M r = gO.bnd (F_Mo_checks_I28 fu x1 d2 x2 x3 x4 M1 r1) (fun s213 M213 r213 => gsm s213 (fun v => .ok v M213 r213) (fun _ => F_Mo_checks_L17 fu x1 d x2 (x3 + 1) M213 r213)) → W p l e (gRm 5 115 0 0) s m ([.ref (s0.heap.size + 383), .int x1] : List Value).toArray below meth c H locs 0 0 (gt_Q below (gQ s0 D aC ow (qI (F_Mo_checks fu x1 M r)) (qT (F_Mo_checks fu x1 M r))) s 0 0 0 0 (fun q => s0.heap.size ≤ q)) (F0 m 28 ls []) := by
          intro d2
          induction d2 with
          | zero => intro x4 M1 r1 H locs ls hl hw hF; exact absurd hF hno
          | succ d2 ih2 =>
            intro x4 M1 r1 H locs ls hl hw hF
            have hF := hF.trans (bnc (F_Mo_checks_I28.eq_2 _ _ _ _ _ _ _ _))
            refine lv_iload hx hb d_Mo_checks_28 (lv_at hl 4 rfl) ?_
            refine lv_iload_n hx hb d_Mo_checks_30 rfl (lv_at hl 3 rfl) ?_
            refine lv_icmp_ge hx hb d_Mo_checks_31 rfl (fun h214 => ?_) (fun h214 => ?_)
            · skip
              have hF := hF.trans (bnc (if_pos h214))
              have hF := hF.trans (show _ = F_Mo_checks_L17 fu x1 d x2 (x3 + 1) M1 r1 from rfl)
              refine lv_iinc (k := 3) hx hb d_Mo_checks_85 hl rfl (show _ + Int32.ofInt 1 = _ + 1 from rfl) (by decide) rfl (fun ls hl => ?_)
              refine lv_goto hx hb d_Mo_checks_88 rfl ?_
              exact ih x2 (x3 + 1) _ _ _ _ _ (gv_loc hl [3, 0, 1, 2] rfl) hw hF
            · skip
              have hF := hF.trans (bnc (if_neg h214))
              refine lv_aload_n hx hb d_Mo_checks_34 rfl (lv_at hl 0 rfl) ?_
              refine lv_aload_n hx hb d_Mo_checks_35 rfl (lv_at hl 0 rfl) ?_
              refine gf_Mo_from hx hb T hown hK hw rfl (kf_Mo_38 T) d_Mo_checks_36 ?_
              refine lv_iload_n hx hb d_Mo_checks_39 rfl (lv_at hl 3 rfl) ?_
              have g215 := ng2 hno hF
              have hF := hF.trans (bnc (gd_yes g215))
              refine ga_Mo_from hx hb hK hw rfl g215 d_Mo_checks_40 ?_
              refine lv_aload_n hx hb d_Mo_checks_41 rfl (lv_at hl 0 rfl) ?_
              refine gf_Mo_size hx hb T hown hK hw rfl (kf_Mo_41 T) d_Mo_checks_42 ?_
              refine lv_iload_n hx hb d_Mo_checks_45 rfl (lv_at hl 3 rfl) ?_
              have g216 := ng2 hno hF
              have hF := hF.trans (bnc (gd_yes g216))
              refine ga_Mo_size hx hb hK hw rfl g216 d_Mo_checks_46 ?_
              refine lv_aload_n hx hb d_Mo_checks_47 rfl (lv_at hl 0 rfl) ?_
              refine gf_Mo_from hx hb T hown hK hw rfl (kf_Mo_38 T) d_Mo_checks_48 ?_
              refine lv_iload hx hb d_Mo_checks_51 (lv_at hl 4 rfl) ?_
              have g217 := ng2 hno hF
              have hF := hF.trans (bnc (gd_yes g217))
              refine ga_Mo_from hx hb hK hw rfl g217 d_Mo_checks_53 ?_
              refine lv_aload_n hx hb d_Mo_checks_54 rfl (lv_at hl 0 rfl) ?_
              refine gf_Mo_size hx hb T hown hK hw rfl (kf_Mo_41 T) d_Mo_checks_55 ?_
              refine lv_iload hx hb d_Mo_checks_58 (lv_at hl 4 rfl) ?_
              have g218 := ng2 hno hF
              have hF := hF.trans (bnc (gd_yes g218))
              refine ga_Mo_size hx hb hK hw rfl g218 d_Mo_checks_60 ?_
              refine gy_V B hl.1 hw (t_Mo_compare G _ _ ow fu (M1 116 x3.toNatClampNeg) (M1 117 x3.toNatClampNeg) (M1 116 x4.toNatClampNeg) (M1 117 x4.toNatClampNeg) (nn2 hno hF)) (kd_Mo_compare T) (ki_Mo T) (km_Mo_166 T) (ka_Mo_compare T) (ks_Mo_compare T) ⟨by decide, by decide, by rfl⟩ (rv_Mo hK hw rfl) rfl (Nat.le_of_ble_eq_true rfl) ⟨by decide, by decide⟩ ⟨by decide, by decide⟩ d_Mo_checks_61 (fun v M219 r219 H locs hw hp => ?_) (fun x ek M219 r219 H locs hw hE hp => gr_t B hexc hw hE (by decide) (by decide) (hF.trans (bnc (bnd_ex hp))))
              obtain ⟨v219, rfl, hp⟩ := hp
              have hF := hF.trans (bnc (bnd_ok hp))
              refine lv_if_ne hx hb d_Mo_checks_64 rfl (fun h220 => ?_) (fun h220 => ?_)
              · skip
                have hF := hF.trans (bnc (if_neg h220))
                refine lv_iinc (k := 4) hx hb d_Mo_checks_79 hl rfl (show _ + Int32.ofInt 1 = _ + 1 from rfl) (by decide) rfl (fun ls hl => ?_)
                refine lv_goto hx hb d_Mo_checks_82 rfl ?_
                exact ih2 (x4 + 1) _ _ _ _ _ (gv_loc hl [1, 2, 3, 4, 0] rfl) hw hF
              · skip
                have hF := hF.trans (bnc (if_pos h220))
                refine lv_aload_n hx hb d_Mo_checks_67 rfl (lv_at hl 0 rfl) ?_
                refine lv_iconst (v := 5) hx hb d_Mo_checks_68 (by decide) ?_
                refine lv_aload_n hx hb d_Mo_checks_69 rfl (lv_at hl 0 rfl) ?_
                refine gf_Mo_places hx hb T hown hK hw rfl (kf_Mo_47 T) d_Mo_checks_70 ?_
                refine lv_iload_n hx hb d_Mo_checks_73 rfl (lv_at hl 3 rfl) ?_
                have g221 := ng2 hno hF
                have hF := hF.trans (bnc (gd_yes g221))
                refine ga_Mo_places hx hb hK hw rfl g221 d_Mo_checks_74 ?_
                refine gy_V B hl.1 hw (t_Mo_fail G _ _ ow fu 5 (M219 119 x3.toNatClampNeg) (nn2 hno hF)) (kd_Mo_fail T) (ki_Mo T) (km_Mo_88 T) (ka_Mo_fail T) (ks_Mo_fail T) ⟨by decide, by decide, by rfl⟩ (rv_Mo hK hw rfl) rfl (Nat.le_of_ble_eq_true rfl) ⟨by decide, by decide⟩ ⟨by decide, by decide⟩ d_Mo_checks_75 (fun v M222 r222 H locs hw hp => ?_) (fun x ek M222 r222 H locs hw hE hp => gr_t B hexc hw hE (by decide) (by decide) (hF.trans (bnc (bnd_ex hp))))
                obtain ⟨v222, rfl, hp⟩ := hp
                have hF := hF.trans (bnc (bnd_ok hp))
                have g223 := ng2 hno hF
                have hF := hF.trans (bnc (gd_yes g223))
                exact gr_z B hw g223 d_Mo_checks_78 ⟨_, rfl, hF⟩
        exact I28 fu (6 * x1) _ _ _ _ _ (gv_loc hl [3, 4, 1, 2, 0] rfl) hw hF
  have hF := F_Mo_checks.eq_1 fu x1 M r
  refine lv_bipush (v := 6) hx hb d_Mo_checks_0 (by decide) ?_
  refine lv_iload_n hx hb d_Mo_checks_2 rfl (lv_at hl 1 rfl) ?_
  refine lv_imul hx hb d_Mo_checks_3 ?_
  refine lv_aload_n hx hb d_Mo_checks_4 rfl (lv_at hl 0 rfl) ?_
  refine gf_Mo_counts hx hb T hown hK hw rfl (kf_Mo_35 T) d_Mo_checks_5 ?_
  refine lv_iload_n hx hb d_Mo_checks_8 rfl (lv_at hl 1 rfl) ?_
  have g224 := ng hno hF
  have hF := hF.trans (gd_yes g224)
  refine ga_Mo_counts hx hb hK hw rfl g224 d_Mo_checks_9 ?_
  refine lv_iadd hx hb d_Mo_checks_10 ?_
  refine lv_istore_n hx hb d_Mo_checks_11 rfl hl (by decide) rfl (fun ls hl => ?_)
  refine lv_bipush (v := 6) hx hb d_Mo_checks_12 (by decide) ?_
  refine lv_iload_n hx hb d_Mo_checks_14 rfl (lv_at hl 2 rfl) ?_
  refine lv_imul hx hb d_Mo_checks_15 ?_
  refine lv_istore_n hx hb d_Mo_checks_16 rfl hl (by decide) rfl (fun ls hl => ?_)
  exact L17 fu ((6 * x1) + (M 115 x1.toNatClampNeg)) (6 * x1) _ _ _ _ _ (gv_loc hl [1, 0, 2, 3] rfl) hw hF
