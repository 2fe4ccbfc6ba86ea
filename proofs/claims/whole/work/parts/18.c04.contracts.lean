/-! The contracts of methods, as their functions say -/
theorem d_Mo_happen_0 : decode b_Mo_happen 0 = .ok (.aload_n 0, 1) := by decide +kernel
theorem d_Mo_happen_1 : decode b_Mo_happen 1 = .ok (.getfield 56, 3) := by decide +kernel
theorem d_Mo_happen_4 : decode b_Mo_happen 4 = .ok (.aload_n 0, 1) := by decide +kernel
theorem d_Mo_happen_5 : decode b_Mo_happen 5 = .ok (.getfield 163, 3) := by decide +kernel
theorem d_Mo_happen_8 : decode b_Mo_happen 8 = .ok (.iload_n 1, 1) := by decide +kernel
theorem d_Mo_happen_9 : decode b_Mo_happen 9 = .ok (.iastore, 1) := by decide +kernel
theorem d_Mo_happen_10 : decode b_Mo_happen 10 = .ok (.aload_n 0, 1) := by decide +kernel
theorem d_Mo_happen_11 : decode b_Mo_happen 11 = .ok (.dup, 1) := by decide +kernel
theorem d_Mo_happen_12 : decode b_Mo_happen 12 = .ok (.getfield 163, 3) := by decide +kernel
theorem d_Mo_happen_15 : decode b_Mo_happen 15 = .ok (.iconst 1, 1) := by decide +kernel
theorem d_Mo_happen_16 : decode b_Mo_happen 16 = .ok (.iadd, 1) := by decide +kernel
theorem d_Mo_happen_17 : decode b_Mo_happen 17 = .ok (.putfield 163, 3) := by decide +kernel
theorem d_Mo_happen_20 : decode b_Mo_happen 20 = .ok (.return_, 1) := by decide +kernel
set_option maxHeartbeats 4000000 in
set_option maxRecDepth 100000 in
theorem t_Mo_happen {l : Launch} {s0 : State} {D : va_G} {aC : Nat → ClassId} {a0 : Array Value} (G : gG l s0 D aC a0) (M : gMem) (r : gRef) (ow : Int64) (fu : Nat) (x1 : Int32)  (hno : F_Mo_happen fu x1 M r ≠ .no) : gMet l s0 D aC y_Mo_happen (Cond.code y_Mo_happen b_Mo_happen 2 none) 0 0 0 0 [.ref (s0.heap.size + 383), .int x1] M r ow (qV (F_Mo_happen fu x1 M r)) (qT (F_Mo_happen fu x1 M r)) := by
  refine gm_of G (by decide) (Nat.le_of_ble_eq_true rfl) ?_
  intro p e s m below meth c ls B hexc hl hw
  have hx := B.1
  have hb := B.2.1
  have hown := B.2.2.2.2.2.1
  have T := B.2.2.2.2.2.2.1
  have hK := B.2.2.2.2.2.2.2.1
  have hF := F_Mo_happen.eq_1 fu x1 M r
  refine lv_aload_n hx hb d_Mo_happen_0 rfl (lv_at hl 0 rfl) ?_
  refine gf_Mo_happened hx hb T hown hK hw rfl (kf_Mo_56 T) d_Mo_happen_1 ?_
  refine lv_aload_n hx hb d_Mo_happen_4 rfl (lv_at hl 0 rfl) ?_
  refine gf_Mo_events hx hb T hown hK hw rfl (kf_Mo_163 T) d_Mo_happen_5 ?_
  refine lv_iload_n hx hb d_Mo_happen_8 rfl (lv_at hl 1 rfl) ?_
  have g2 := ng hno hF
  have hF := hF.trans (gd_yes g2)
  refine gs_Mo_happened hx hb hK hw rfl g2 d_Mo_happen_9 (fun H locs hw => ?_)
  refine lv_aload_n hx hb d_Mo_happen_10 rfl (lv_at hl 0 rfl) ?_
  refine lv_dup hx hb d_Mo_happen_11 rfl ?_
  refine gf_Mo_events hx hb T hown hK hw rfl (kf_Mo_163 T) d_Mo_happen_12 ?_
  refine lv_iconst (v := 1) hx hb d_Mo_happen_15 (by decide) ?_
  refine lv_iadd hx hb d_Mo_happen_16 ?_
  refine pf_Mo_events hx hb T hown hK hw rfl (kf_Mo_163 T) d_Mo_happen_17 (fun H locs hw => ?_)
  exact gr_v B hw d_Mo_happen_20 ⟨rfl, hF⟩
theorem d_Mo_readTag_0 : decode b_Mo_readTag 0 = .ok (.aload_n 0, 1) := by decide +kernel
theorem d_Mo_readTag_1 : decode b_Mo_readTag 1 = .ok (.getfield 81, 3) := by decide +kernel
theorem d_Mo_readTag_4 : decode b_Mo_readTag 4 = .ok (.istore_n 1, 1) := by decide +kernel
theorem d_Mo_readTag_5 : decode b_Mo_readTag 5 = .ok (.aload_n 0, 1) := by decide +kernel
theorem d_Mo_readTag_6 : decode b_Mo_readTag 6 = .ok (.dup, 1) := by decide +kernel
theorem d_Mo_readTag_7 : decode b_Mo_readTag 7 = .ok (.getfield 81, 3) := by decide +kernel
theorem d_Mo_readTag_10 : decode b_Mo_readTag 10 = .ok (.iconst 1, 1) := by decide +kernel
theorem d_Mo_readTag_11 : decode b_Mo_readTag 11 = .ok (.iadd, 1) := by decide +kernel
theorem d_Mo_readTag_12 : decode b_Mo_readTag 12 = .ok (.putfield 81, 3) := by decide +kernel
theorem d_Mo_readTag_15 : decode b_Mo_readTag 15 = .ok (.aload_n 0, 1) := by decide +kernel
theorem d_Mo_readTag_16 : decode b_Mo_readTag 16 = .ok (.aload_n 0, 1) := by decide +kernel
theorem d_Mo_readTag_17 : decode b_Mo_readTag 17 = .ok (.aload_n 0, 1) := by decide +kernel
theorem d_Mo_readTag_18 : decode b_Mo_readTag 18 = .ok (.getfield 81, 3) := by decide +kernel
theorem d_Mo_readTag_21 : decode b_Mo_readTag 21 = .ok (.invokevirtual 84, 3) := by decide +kernel
theorem d_Mo_readTag_24 : decode b_Mo_readTag 24 = .ok (.invokevirtual 68, 3) := by decide +kernel
theorem d_Mo_readTag_27 : decode b_Mo_readTag 27 = .ok (.ifCond .ne 13, 3) := by decide +kernel
theorem d_Mo_readTag_30 : decode b_Mo_readTag 30 = .ok (.aload_n 0, 1) := by decide +kernel
theorem d_Mo_readTag_31 : decode b_Mo_readTag 31 = .ok (.iconst 1, 1) := by decide +kernel
theorem d_Mo_readTag_32 : decode b_Mo_readTag 32 = .ok (.aload_n 0, 1) := by decide +kernel
theorem d_Mo_readTag_33 : decode b_Mo_readTag 33 = .ok (.getfield 81, 3) := by decide +kernel
theorem d_Mo_readTag_36 : decode b_Mo_readTag 36 = .ok (.invokevirtual 88, 3) := by decide +kernel
theorem d_Mo_readTag_39 : decode b_Mo_readTag 39 = .ok (.ireturn, 1) := by decide +kernel
theorem d_Mo_readTag_40 : decode b_Mo_readTag 40 = .ok (.aload_n 0, 1) := by decide +kernel
theorem d_Mo_readTag_41 : decode b_Mo_readTag 41 = .ok (.getfield 144, 3) := by decide +kernel
theorem d_Mo_readTag_44 : decode b_Mo_readTag 44 = .ok (.bipush 12, 2) := by decide +kernel
theorem d_Mo_readTag_46 : decode b_Mo_readTag 46 = .ok (.if_icmp .eq 12, 3) := by decide +kernel
theorem d_Mo_readTag_49 : decode b_Mo_readTag 49 = .ok (.aload_n 0, 1) := by decide +kernel
theorem d_Mo_readTag_50 : decode b_Mo_readTag 50 = .ok (.getfield 147, 3) := by decide +kernel
theorem d_Mo_readTag_53 : decode b_Mo_readTag 53 = .ok (.bipush 24, 2) := by decide +kernel
theorem d_Mo_readTag_55 : decode b_Mo_readTag 55 = .ok (.if_icmp .ne 10, 3) := by decide +kernel
theorem d_Mo_readTag_58 : decode b_Mo_readTag 58 = .ok (.aload_n 0, 1) := by decide +kernel
theorem d_Mo_readTag_59 : decode b_Mo_readTag 59 = .ok (.iconst 4, 1) := by decide +kernel
theorem d_Mo_readTag_60 : decode b_Mo_readTag 60 = .ok (.iload_n 1, 1) := by decide +kernel
theorem d_Mo_readTag_61 : decode b_Mo_readTag 61 = .ok (.invokevirtual 88, 3) := by decide +kernel
theorem d_Mo_readTag_64 : decode b_Mo_readTag 64 = .ok (.ireturn, 1) := by decide +kernel
theorem d_Mo_readTag_65 : decode b_Mo_readTag 65 = .ok (.aload_n 0, 1) := by decide +kernel
theorem d_Mo_readTag_66 : decode b_Mo_readTag 66 = .ok (.getfield 147, 3) := by decide +kernel
theorem d_Mo_readTag_69 : decode b_Mo_readTag 69 = .ok (.istore_n 2, 1) := by decide +kernel
theorem d_Mo_readTag_70 : decode b_Mo_readTag 70 = .ok (.aload_n 0, 1) := by decide +kernel
theorem d_Mo_readTag_71 : decode b_Mo_readTag 71 = .ok (.getfield 32, 3) := by decide +kernel
theorem d_Mo_readTag_74 : decode b_Mo_readTag 74 = .ok (.iload_n 2, 1) := by decide +kernel
theorem d_Mo_readTag_75 : decode b_Mo_readTag 75 = .ok (.aload_n 0, 1) := by decide +kernel
theorem d_Mo_readTag_76 : decode b_Mo_readTag 76 = .ok (.getfield 81, 3) := by decide +kernel
theorem d_Mo_readTag_79 : decode b_Mo_readTag 79 = .ok (.iastore, 1) := by decide +kernel
theorem d_Mo_readTag_80 : decode b_Mo_readTag 80 = .ok (.aload_n 0, 1) := by decide +kernel
theorem d_Mo_readTag_81 : decode b_Mo_readTag 81 = .ok (.invokevirtual 135, 3) := by decide +kernel
theorem d_Mo_readTag_84 : decode b_Mo_readTag 84 = .ok (.ifCond .ne 5, 3) := by decide +kernel
theorem d_Mo_readTag_87 : decode b_Mo_readTag 87 = .ok (.iconst 0, 1) := by decide +kernel
theorem d_Mo_readTag_88 : decode b_Mo_readTag 88 = .ok (.ireturn, 1) := by decide +kernel
theorem d_Mo_readTag_89 : decode b_Mo_readTag 89 = .ok (.aload_n 0, 1) := by decide +kernel
theorem d_Mo_readTag_90 : decode b_Mo_readTag 90 = .ok (.getfield 23, 3) := by decide +kernel
theorem d_Mo_readTag_93 : decode b_Mo_readTag 93 = .ok (.iload_n 2, 1) := by decide +kernel
theorem d_Mo_readTag_94 : decode b_Mo_readTag 94 = .ok (.aload_n 0, 1) := by decide +kernel
theorem d_Mo_readTag_95 : decode b_Mo_readTag 95 = .ok (.getfield 109, 3) := by decide +kernel
theorem d_Mo_readTag_98 : decode b_Mo_readTag 98 = .ok (.iastore, 1) := by decide +kernel
theorem d_Mo_readTag_99 : decode b_Mo_readTag 99 = .ok (.aload_n 0, 1) := by decide +kernel
theorem d_Mo_readTag_100 : decode b_Mo_readTag 100 = .ok (.getfield 26, 3) := by decide +kernel
theorem d_Mo_readTag_103 : decode b_Mo_readTag 103 = .ok (.iload_n 2, 1) := by decide +kernel
theorem d_Mo_readTag_104 : decode b_Mo_readTag 104 = .ok (.aload_n 0, 1) := by decide +kernel
theorem d_Mo_readTag_105 : decode b_Mo_readTag 105 = .ok (.getfield 118, 3) := by decide +kernel
theorem d_Mo_readTag_108 : decode b_Mo_readTag 108 = .ok (.iastore, 1) := by decide +kernel
theorem d_Mo_readTag_109 : decode b_Mo_readTag 109 = .ok (.aload_n 0, 1) := by decide +kernel
theorem d_Mo_readTag_110 : decode b_Mo_readTag 110 = .ok (.getfield 29, 3) := by decide +kernel
theorem d_Mo_readTag_113 : decode b_Mo_readTag 113 = .ok (.iload_n 2, 1) := by decide +kernel
theorem d_Mo_readTag_114 : decode b_Mo_readTag 114 = .ok (.aload_n 0, 1) := by decide +kernel
theorem d_Mo_readTag_115 : decode b_Mo_readTag 115 = .ok (.getfield 112, 3) := by decide +kernel
theorem d_Mo_readTag_118 : decode b_Mo_readTag 118 = .ok (.iastore, 1) := by decide +kernel
theorem d_Mo_readTag_119 : decode b_Mo_readTag 119 = .ok (.aload_n 0, 1) := by decide +kernel
theorem d_Mo_readTag_120 : decode b_Mo_readTag 120 = .ok (.getfield 35, 3) := by decide +kernel
theorem d_Mo_readTag_123 : decode b_Mo_readTag 123 = .ok (.iload_n 2, 1) := by decide +kernel
theorem d_Mo_readTag_124 : decode b_Mo_readTag 124 = .ok (.iconst 0, 1) := by decide +kernel
theorem d_Mo_readTag_125 : decode b_Mo_readTag 125 = .ok (.iastore, 1) := by decide +kernel
theorem d_Mo_readTag_126 : decode b_Mo_readTag 126 = .ok (.aload_n 0, 1) := by decide +kernel
theorem d_Mo_readTag_127 : decode b_Mo_readTag 127 = .ok (.getfield 20, 3) := by decide +kernel
theorem d_Mo_readTag_130 : decode b_Mo_readTag 130 = .ok (.iload_n 2, 1) := by decide +kernel
theorem d_Mo_readTag_131 : decode b_Mo_readTag 131 = .ok (.aload_n 0, 1) := by decide +kernel
theorem d_Mo_readTag_132 : decode b_Mo_readTag 132 = .ok (.getfield 150, 3) := by decide +kernel
theorem d_Mo_readTag_135 : decode b_Mo_readTag 135 = .ok (.iastore, 1) := by decide +kernel
theorem d_Mo_readTag_136 : decode b_Mo_readTag 136 = .ok (.aload_n 0, 1) := by decide +kernel
theorem d_Mo_readTag_137 : decode b_Mo_readTag 137 = .ok (.iload_n 2, 1) := by decide +kernel
theorem d_Mo_readTag_138 : decode b_Mo_readTag 138 = .ok (.iload_n 1, 1) := by decide +kernel
theorem d_Mo_readTag_139 : decode b_Mo_readTag 139 = .ok (.invokevirtual 153, 3) := by decide +kernel
theorem d_Mo_readTag_142 : decode b_Mo_readTag 142 = .ok (.istore_n 3, 1) := by decide +kernel
theorem d_Mo_readTag_143 : decode b_Mo_readTag 143 = .ok (.aload_n 0, 1) := by decide +kernel
theorem d_Mo_readTag_144 : decode b_Mo_readTag 144 = .ok (.dup, 1) := by decide +kernel
theorem d_Mo_readTag_145 : decode b_Mo_readTag 145 = .ok (.getfield 147, 3) := by decide +kernel
theorem d_Mo_readTag_148 : decode b_Mo_readTag 148 = .ok (.iconst 1, 1) := by decide +kernel
theorem d_Mo_readTag_149 : decode b_Mo_readTag 149 = .ok (.iadd, 1) := by decide +kernel
theorem d_Mo_readTag_150 : decode b_Mo_readTag 150 = .ok (.putfield 147, 3) := by decide +kernel
theorem d_Mo_readTag_153 : decode b_Mo_readTag 153 = .ok (.iload_n 3, 1) := by decide +kernel
theorem d_Mo_readTag_154 : decode b_Mo_readTag 154 = .ok (.ifCond .eq 11, 3) := by decide +kernel
theorem d_Mo_readTag_157 : decode b_Mo_readTag 157 = .ok (.aload_n 0, 1) := by decide +kernel
theorem d_Mo_readTag_158 : decode b_Mo_readTag 158 = .ok (.iload_n 2, 1) := by decide +kernel
theorem d_Mo_readTag_159 : decode b_Mo_readTag 159 = .ok (.invokevirtual 156, 3) := by decide +kernel
theorem d_Mo_readTag_162 : decode b_Mo_readTag 162 = .ok (.ifCond .ne 5, 3) := by decide +kernel
theorem d_Mo_readTag_165 : decode b_Mo_readTag 165 = .ok (.iconst 0, 1) := by decide +kernel
theorem d_Mo_readTag_166 : decode b_Mo_readTag 166 = .ok (.ireturn, 1) := by decide +kernel
theorem d_Mo_readTag_167 : decode b_Mo_readTag 167 = .ok (.aload_n 0, 1) := by decide +kernel
theorem d_Mo_readTag_168 : decode b_Mo_readTag 168 = .ok (.sipush 1000, 3) := by decide +kernel
theorem d_Mo_readTag_171 : decode b_Mo_readTag 171 = .ok (.iload_n 2, 1) := by decide +kernel
theorem d_Mo_readTag_172 : decode b_Mo_readTag 172 = .ok (.iadd, 1) := by decide +kernel
theorem d_Mo_readTag_173 : decode b_Mo_readTag 173 = .ok (.invokevirtual 159, 3) := by decide +kernel
theorem d_Mo_readTag_176 : decode b_Mo_readTag 176 = .ok (.iload_n 3, 1) := by decide +kernel
theorem d_Mo_readTag_177 : decode b_Mo_readTag 177 = .ok (.iconst 2, 1) := by decide +kernel
theorem d_Mo_readTag_178 : decode b_Mo_readTag 178 = .ok (.if_icmp .ne 15, 3) := by decide +kernel
theorem d_Mo_readTag_181 : decode b_Mo_readTag 181 = .ok (.aload_n 0, 1) := by decide +kernel
theorem d_Mo_readTag_182 : decode b_Mo_readTag 182 = .ok (.sipush 2000, 3) := by decide +kernel
theorem d_Mo_readTag_185 : decode b_Mo_readTag 185 = .ok (.iload_n 2, 1) := by decide +kernel
theorem d_Mo_readTag_186 : decode b_Mo_readTag 186 = .ok (.iadd, 1) := by decide +kernel
theorem d_Mo_readTag_187 : decode b_Mo_readTag 187 = .ok (.invokevirtual 159, 3) := by decide +kernel
theorem d_Mo_readTag_190 : decode b_Mo_readTag 190 = .ok (.goto 18, 3) := by decide +kernel
theorem d_Mo_readTag_193 : decode b_Mo_readTag 193 = .ok (.aload_n 0, 1) := by decide +kernel
theorem d_Mo_readTag_194 : decode b_Mo_readTag 194 = .ok (.iload_n 2, 1) := by decide +kernel
theorem d_Mo_readTag_195 : decode b_Mo_readTag 195 = .ok (.putfield 150, 3) := by decide +kernel
theorem d_Mo_readTag_198 : decode b_Mo_readTag 198 = .ok (.aload_n 0, 1) := by decide +kernel
theorem d_Mo_readTag_199 : decode b_Mo_readTag 199 = .ok (.dup, 1) := by decide +kernel
theorem d_Mo_readTag_200 : decode b_Mo_readTag 200 = .ok (.getfield 144, 3) := by decide +kernel
theorem d_Mo_readTag_203 : decode b_Mo_readTag 203 = .ok (.iconst 1, 1) := by decide +kernel
theorem d_Mo_readTag_204 : decode b_Mo_readTag 204 = .ok (.iadd, 1) := by decide +kernel
theorem d_Mo_readTag_205 : decode b_Mo_readTag 205 = .ok (.putfield 144, 3) := by decide +kernel
theorem d_Mo_readTag_208 : decode b_Mo_readTag 208 = .ok (.iconst 1, 1) := by decide +kernel
theorem d_Mo_readTag_209 : decode b_Mo_readTag 209 = .ok (.ireturn, 1) := by decide +kernel
set_option maxHeartbeats 4000000 in
set_option maxRecDepth 100000 in
theorem t_Mo_readTag {l : Launch} {s0 : State} {D : va_G} {aC : Nat → ClassId} {a0 : Array Value} (G : gG l s0 D aC a0) (M : gMem) (r : gRef) (ow : Int64) (fu : Nat)  (hno : F_Mo_readTag fu M r ≠ .no) : gMet l s0 D aC y_Mo_readTag (Cond.code y_Mo_readTag b_Mo_readTag 4 (some .boolean)) 6 141 0 0 [.ref (s0.heap.size + 383)] M r ow (qI (F_Mo_readTag fu M r)) (qT (F_Mo_readTag fu M r)) := by
  refine gm_of G (by decide) (Nat.le_of_ble_eq_true rfl) ?_
  intro p e s m below meth c ls B hexc hl hw
  have hx := B.1
  have hb := B.2.1
  have hown := B.2.2.2.2.2.1
  have T := B.2.2.2.2.2.2.1
  have hK := B.2.2.2.2.2.2.2.1
  have hF := F_Mo_readTag.eq_1 fu M r
  refine lv_aload_n hx hb d_Mo_readTag_0 rfl (lv_at hl 0 rfl) ?_
  refine gf_Mo_at hx hb T hown hK hw rfl (kf_Mo_81 T) d_Mo_readTag_1 ?_
  refine lv_istore_n hx hb d_Mo_readTag_4 rfl hl (by decide) rfl (fun ls hl => ?_)
  refine lv_aload_n hx hb d_Mo_readTag_5 rfl (lv_at hl 1 rfl) ?_
  refine lv_dup hx hb d_Mo_readTag_6 rfl ?_
  refine gf_Mo_at hx hb T hown hK hw rfl (kf_Mo_81 T) d_Mo_readTag_7 ?_
  refine lv_iconst (v := 1) hx hb d_Mo_readTag_10 (by decide) ?_
  refine lv_iadd hx hb d_Mo_readTag_11 ?_
  refine pf_Mo_at hx hb T hown hK hw rfl (kf_Mo_81 T) d_Mo_readTag_12 (fun H locs hw => ?_)
  refine lv_aload_n hx hb d_Mo_readTag_15 rfl (lv_at hl 1 rfl) ?_
  refine lv_aload_n hx hb d_Mo_readTag_16 rfl (lv_at hl 1 rfl) ?_
  refine lv_aload_n hx hb d_Mo_readTag_17 rfl (lv_at hl 1 rfl) ?_
  refine gf_Mo_at hx hb T hown hK hw rfl (kf_Mo_81 T) d_Mo_readTag_18 ?_
  refine gy_V B hl.1 hw (t_Mo_here G _ _ ow fu ((mS M 103 0 ((M 103 0) + 1)) 103 0) (nn hno hF)) (kd_Mo_here T) (ki_Mo T) (km_Mo_84 T) (ka_Mo_here T) (ks_Mo_here T) ⟨by decide, by decide, by rfl⟩ (rv_Mo hK hw rfl) rfl (Nat.le_of_ble_eq_true rfl) ⟨by decide, by decide⟩ ⟨by decide, by decide⟩ d_Mo_readTag_21 (fun v M27 r27 H locs hw hp => ?_) (fun x ek M27 r27 H locs hw hE hp => gr_t B hexc hw hE (by decide) (by decide) (hF.trans (bnd_ex hp)))
  obtain ⟨v27, rfl, hp⟩ := hp
  have hF := hF.trans (bnd_ok hp)
  refine gy_V B hl.1 hw (t_Mo_starts G _ _ ow fu v27 (nn hno hF)) (kd_Mo_starts T) (ki_Mo T) (km_Mo_68 T) (ka_Mo_starts T) (ks_Mo_starts T) ⟨by decide, by decide, by rfl⟩ (rv_Mo hK hw rfl) rfl (Nat.le_of_ble_eq_true rfl) ⟨by decide, by decide⟩ ⟨by decide, by decide⟩ d_Mo_readTag_24 (fun v M28 r28 H locs hw hp => ?_) (fun x ek M28 r28 H locs hw hE hp => gr_t B hexc hw hE (by decide) (by decide) (hF.trans (bnd_ex hp)))
  obtain ⟨v28, rfl, hp⟩ := hp
  have hF := hF.trans (bnd_ok hp)
  refine lv_if_ne hx hb d_Mo_readTag_27 rfl (fun h29 => ?_) (fun h29 => ?_)
  · skip
    have hF := hF.trans (if_neg h29)
    refine lv_aload_n hx hb d_Mo_readTag_40 rfl (lv_at hl 1 rfl) ?_
    refine gf_Mo_depth hx hb T hown hK hw rfl (kf_Mo_144 T) d_Mo_readTag_41 ?_
    refine lv_bipush (v := 12) hx hb d_Mo_readTag_44 (by decide) ?_
    refine lv_icmp_eq hx hb d_Mo_readTag_46 rfl (fun h30 => ?_) (fun h30 => ?_)
    · skip
      have hF := hF.trans (if_pos h30)
      refine lv_aload_n hx hb d_Mo_readTag_58 rfl (lv_at hl 1 rfl) ?_
      refine lv_iconst (v := 4) hx hb d_Mo_readTag_59 (by decide) ?_
      refine lv_iload_n hx hb d_Mo_readTag_60 rfl (lv_at hl 0 rfl) ?_
      refine gy_V B hl.1 hw (t_Mo_fail G _ _ ow fu 4 (M 103 0) (nn hno hF)) (kd_Mo_fail T) (ki_Mo T) (km_Mo_88 T) (ka_Mo_fail T) (ks_Mo_fail T) ⟨by decide, by decide, by rfl⟩ (rv_Mo hK hw rfl) rfl (Nat.le_of_ble_eq_true rfl) ⟨by decide, by decide⟩ ⟨by decide, by decide⟩ d_Mo_readTag_61 (fun v M31 r31 H locs hw hp => ?_) (fun x ek M31 r31 H locs hw hE hp => gr_t B hexc hw hE (by decide) (by decide) (hF.trans (bnd_ex hp)))
      obtain ⟨v31, rfl, hp⟩ := hp
      have hF := hF.trans (bnd_ok hp)
      have g32 := ng hno hF
      have hF := hF.trans (gd_yes g32)
      exact gr_z B hw g32 d_Mo_readTag_64 ⟨_, rfl, hF⟩
    · skip
      have hF := hF.trans (if_neg h30)
      refine lv_aload_n hx hb d_Mo_readTag_49 rfl (lv_at hl 1 rfl) ?_
      refine gf_Mo_elements hx hb T hown hK hw rfl (kf_Mo_147 T) d_Mo_readTag_50 ?_
      refine lv_bipush (v := 24) hx hb d_Mo_readTag_53 (by decide) ?_
      refine lv_icmp_ne hx hb d_Mo_readTag_55 rfl (fun h33 => ?_) (fun h33 => ?_)
      · skip
        have hF := hF.trans (if_neg h33)
        refine lv_aload_n hx hb d_Mo_readTag_65 rfl (lv_at hl 1 rfl) ?_
        refine gf_Mo_elements hx hb T hown hK hw rfl (kf_Mo_147 T) d_Mo_readTag_66 ?_
        refine lv_istore_n hx hb d_Mo_readTag_69 rfl hl (by decide) rfl (fun ls hl => ?_)
        refine lv_aload_n hx hb d_Mo_readTag_70 rfl (lv_at hl 2 rfl) ?_
        refine gf_Mo_namePlace hx hb T hown hK hw rfl (kf_Mo_32 T) d_Mo_readTag_71 ?_
        refine lv_iload_n hx hb d_Mo_readTag_74 rfl (lv_at hl 0 rfl) ?_
        refine lv_aload_n hx hb d_Mo_readTag_75 rfl (lv_at hl 2 rfl) ?_
        refine gf_Mo_at hx hb T hown hK hw rfl (kf_Mo_81 T) d_Mo_readTag_76 ?_
        have g34 := ng hno hF
        have hF := hF.trans (gd_yes g34)
        refine gs_Mo_namePlace hx hb hK hw rfl g34 d_Mo_readTag_79 (fun H locs hw => ?_)
        refine lv_aload_n hx hb d_Mo_readTag_80 rfl (lv_at hl 2 rfl) ?_
        refine gy_V B hl.1 hw (t_Mo_readName G _ _ ow fu (nn hno hF)) (kd_Mo_readName T) (ki_Mo T) (km_Mo_135 T) (ka_Mo_readName T) (ks_Mo_readName T) ⟨by decide, by decide, by rfl⟩ (rv_Mo hK hw rfl) rfl (Nat.le_of_ble_eq_true rfl) ⟨by decide, by decide⟩ ⟨by decide, by decide⟩ d_Mo_readTag_81 (fun v M35 r35 H locs hw hp => ?_) (fun x ek M35 r35 H locs hw hE hp => gr_t B hexc hw hE (by decide) (by decide) (hF.trans (bnd_ex hp)))
        obtain ⟨v35, rfl, hp⟩ := hp
        have hF := hF.trans (bnd_ok hp)
        refine lv_if_ne hx hb d_Mo_readTag_84 rfl (fun h36 => ?_) (fun h36 => ?_)
        · skip
          have hF := hF.trans (if_neg h36)
          refine lv_aload_n hx hb d_Mo_readTag_89 rfl (lv_at hl 2 rfl) ?_
          refine gf_Mo_nameFrom hx hb T hown hK hw rfl (kf_Mo_23 T) d_Mo_readTag_90 ?_
          refine lv_iload_n hx hb d_Mo_readTag_93 rfl (lv_at hl 0 rfl) ?_
          refine lv_aload_n hx hb d_Mo_readTag_94 rfl (lv_at hl 2 rfl) ?_
          refine gf_Mo_begun hx hb T hown hK hw rfl (kf_Mo_109 T) d_Mo_readTag_95 ?_
          have g37 := ng hno hF
          have hF := hF.trans (gd_yes g37)
          refine gs_Mo_nameFrom hx hb hK hw rfl g37 d_Mo_readTag_98 (fun H locs hw => ?_)
          refine lv_aload_n hx hb d_Mo_readTag_99 rfl (lv_at hl 2 rfl) ?_
          refine gf_Mo_nameSize hx hb T hown hK hw rfl (kf_Mo_26 T) d_Mo_readTag_100 ?_
          refine lv_iload_n hx hb d_Mo_readTag_103 rfl (lv_at hl 0 rfl) ?_
          refine lv_aload_n hx hb d_Mo_readTag_104 rfl (lv_at hl 2 rfl) ?_
          refine gf_Mo_long0 hx hb T hown hK hw rfl (kf_Mo_118 T) d_Mo_readTag_105 ?_
          have g38 := ng hno hF
          have hF := hF.trans (gd_yes g38)
          refine gs_Mo_nameSize hx hb hK hw rfl g38 d_Mo_readTag_108 (fun H locs hw => ?_)
          refine lv_aload_n hx hb d_Mo_readTag_109 rfl (lv_at hl 2 rfl) ?_
          refine gf_Mo_nameColon hx hb T hown hK hw rfl (kf_Mo_29 T) d_Mo_readTag_110 ?_
          refine lv_iload_n hx hb d_Mo_readTag_113 rfl (lv_at hl 0 rfl) ?_
          refine lv_aload_n hx hb d_Mo_readTag_114 rfl (lv_at hl 2 rfl) ?_
          refine gf_Mo_colonAt hx hb T hown hK hw rfl (kf_Mo_112 T) d_Mo_readTag_115 ?_
          have g39 := ng hno hF
          have hF := hF.trans (gd_yes g39)
          refine gs_Mo_nameColon hx hb hK hw rfl g39 d_Mo_readTag_118 (fun H locs hw => ?_)
          refine lv_aload_n hx hb d_Mo_readTag_119 rfl (lv_at hl 2 rfl) ?_
          refine gf_Mo_counts hx hb T hown hK hw rfl (kf_Mo_35 T) d_Mo_readTag_120 ?_
          refine lv_iload_n hx hb d_Mo_readTag_123 rfl (lv_at hl 0 rfl) ?_
          refine lv_iconst (v := 0) hx hb d_Mo_readTag_124 (by decide) ?_
          have g40 := ng hno hF
          have hF := hF.trans (gd_yes g40)
          refine gs_Mo_counts hx hb hK hw rfl g40 d_Mo_readTag_125 (fun H locs hw => ?_)
          refine lv_aload_n hx hb d_Mo_readTag_126 rfl (lv_at hl 2 rfl) ?_
          refine gf_Mo_parents hx hb T hown hK hw rfl (kf_Mo_20 T) d_Mo_readTag_127 ?_
          refine lv_iload_n hx hb d_Mo_readTag_130 rfl (lv_at hl 0 rfl) ?_
          refine lv_aload_n hx hb d_Mo_readTag_131 rfl (lv_at hl 2 rfl) ?_
          refine gf_Mo_open hx hb T hown hK hw rfl (kf_Mo_150 T) d_Mo_readTag_132 ?_
          have g41 := ng hno hF
          have hF := hF.trans (gd_yes g41)
          refine gs_Mo_parents hx hb hK hw rfl g41 d_Mo_readTag_135 (fun H locs hw => ?_)
          refine lv_aload_n hx hb d_Mo_readTag_136 rfl (lv_at hl 2 rfl) ?_
          refine lv_iload_n hx hb d_Mo_readTag_137 rfl (lv_at hl 0 rfl) ?_
          refine lv_iload_n hx hb d_Mo_readTag_138 rfl (lv_at hl 1 rfl) ?_
          refine gy_V B hl.1 hw (t_Mo_readRest G _ _ ow fu (M28 109 0) (M 103 0) (nn hno hF)) (kd_Mo_readRest T) (ki_Mo T) (km_Mo_153 T) (ka_Mo_readRest T) (ks_Mo_readRest T) ⟨by decide, by decide, by rfl⟩ (rv_Mo hK hw rfl) rfl (Nat.le_of_ble_eq_true rfl) ⟨by decide, by decide⟩ ⟨by decide, by decide⟩ d_Mo_readTag_139 (fun v M42 r42 H locs hw hp => ?_) (fun x ek M42 r42 H locs hw hE hp => gr_t B hexc hw hE (by decide) (by decide) (hF.trans (bnd_ex hp)))
          obtain ⟨v42, rfl, hp⟩ := hp
          have hF := hF.trans (bnd_ok hp)
          refine lv_istore_n hx hb d_Mo_readTag_142 rfl hl (by decide) rfl (fun ls hl => ?_)
          refine lv_aload_n hx hb d_Mo_readTag_143 rfl (lv_at hl 3 rfl) ?_
          refine lv_dup hx hb d_Mo_readTag_144 rfl ?_
          refine gf_Mo_elements hx hb T hown hK hw rfl (kf_Mo_147 T) d_Mo_readTag_145 ?_
          refine lv_iconst (v := 1) hx hb d_Mo_readTag_148 (by decide) ?_
          refine lv_iadd hx hb d_Mo_readTag_149 ?_
          refine pf_Mo_elements hx hb T hown hK hw rfl (kf_Mo_147 T) d_Mo_readTag_150 (fun H locs hw => ?_)
          refine lv_iload_n hx hb d_Mo_readTag_153 rfl (lv_at hl 0 rfl) ?_
          refine lv_if_eq hx hb d_Mo_readTag_154 rfl (fun h43 => ?_) (fun h43 => ?_)
          · skip
            have hF := hF.trans (if_pos h43)
            refine lv_iconst (v := 0) hx hb d_Mo_readTag_165 (by decide) ?_
            exact gr_z B hw (by rfl) d_Mo_readTag_166 ⟨_, rfl, hF⟩
          · skip
            have hF := hF.trans (if_neg h43)
            refine lv_aload_n hx hb d_Mo_readTag_157 rfl (lv_at hl 3 rfl) ?_
            refine lv_iload_n hx hb d_Mo_readTag_158 rfl (lv_at hl 1 rfl) ?_
            refine gy_V B hl.1 hw (t_Mo_checks G _ _ ow fu (M28 109 0) (nn hno hF)) (kd_Mo_checks T) (ki_Mo T) (km_Mo_156 T) (ka_Mo_checks T) (ks_Mo_checks T) ⟨by decide, by decide, by rfl⟩ (rv_Mo hK hw rfl) rfl (Nat.le_of_ble_eq_true rfl) ⟨by decide, by decide⟩ ⟨by decide, by decide⟩ d_Mo_readTag_159 (fun v M44 r44 H locs hw hp => ?_) (fun x ek M44 r44 H locs hw hE hp => gr_t B hexc hw hE (by decide) (by decide) (hF.trans (bnd_ex hp)))
            obtain ⟨v44, rfl, hp⟩ := hp
            have hF := hF.trans (bnd_ok hp)
            refine lv_if_ne hx hb d_Mo_readTag_162 rfl (fun h45 => ?_) (fun h45 => ?_)
            · skip
              have hF := hF.trans (if_neg h45)
              refine lv_aload_n hx hb d_Mo_readTag_167 rfl (lv_at hl 3 rfl) ?_
              refine lv_sipush (v := 1000) hx hb d_Mo_readTag_168 (by decide) ?_
              refine lv_iload_n hx hb d_Mo_readTag_171 rfl (lv_at hl 1 rfl) ?_
              refine lv_iadd hx hb d_Mo_readTag_172 ?_
              refine gy_V B hl.1 hw (t_Mo_happen G _ _ ow fu (1000 + (M28 109 0)) (nn hno hF)) (kd_Mo_happen T) (ki_Mo T) (km_Mo_159 T) (ka_Mo_happen T) (ks_Mo_happen T) ⟨by decide, by decide, by rfl⟩ (rv_Mo hK hw rfl) rfl (Nat.le_of_ble_eq_true rfl) ⟨by decide, by decide⟩ ⟨by decide, by decide⟩ d_Mo_readTag_173 (fun v M46 r46 H locs hw hp => ?_) (fun x ek M46 r46 H locs hw hE hp => gr_t B hexc hw hE (by decide) (by decide) (hF.trans (bnd_ex hp)))
              obtain ⟨rfl, hp⟩ := hp
              have hF := hF.trans (bnd_ok hp)
              refine lv_iload_n hx hb d_Mo_readTag_176 rfl (lv_at hl 0 rfl) ?_
              refine lv_iconst (v := 2) hx hb d_Mo_readTag_177 (by decide) ?_
              refine lv_icmp_ne hx hb d_Mo_readTag_178 rfl (fun h47 => ?_) (fun h47 => ?_)
              · skip
                have hF := hF.trans (if_neg h47)
                refine lv_aload_n hx hb d_Mo_readTag_193 rfl (lv_at hl 3 rfl) ?_
                refine lv_iload_n hx hb d_Mo_readTag_194 rfl (lv_at hl 1 rfl) ?_
                refine pf_Mo_open hx hb T hown hK hw rfl (kf_Mo_150 T) d_Mo_readTag_195 (fun H locs hw => ?_)
                refine lv_aload_n hx hb d_Mo_readTag_198 rfl (lv_at hl 3 rfl) ?_
                refine lv_dup hx hb d_Mo_readTag_199 rfl ?_
                refine gf_Mo_depth hx hb T hown hK hw rfl (kf_Mo_144 T) d_Mo_readTag_200 ?_
                refine lv_iconst (v := 1) hx hb d_Mo_readTag_203 (by decide) ?_
                refine lv_iadd hx hb d_Mo_readTag_204 ?_
                refine pf_Mo_depth hx hb T hown hK hw rfl (kf_Mo_144 T) d_Mo_readTag_205 (fun H locs hw => ?_)
                refine lv_iconst (v := 1) hx hb d_Mo_readTag_208 (by decide) ?_
                exact gr_z B hw (by rfl) d_Mo_readTag_209 ⟨_, rfl, hF⟩
              · skip
                have hF := hF.trans (if_pos h47)
                refine lv_aload_n hx hb d_Mo_readTag_181 rfl (lv_at hl 3 rfl) ?_
                refine lv_sipush (v := 2000) hx hb d_Mo_readTag_182 (by decide) ?_
                refine lv_iload_n hx hb d_Mo_readTag_185 rfl (lv_at hl 1 rfl) ?_
                refine lv_iadd hx hb d_Mo_readTag_186 ?_
                refine gy_V B hl.1 hw (t_Mo_happen G _ _ ow fu (2000 + (M28 109 0)) (nn hno hF)) (kd_Mo_happen T) (ki_Mo T) (km_Mo_159 T) (ka_Mo_happen T) (ks_Mo_happen T) ⟨by decide, by decide, by rfl⟩ (rv_Mo hK hw rfl) rfl (Nat.le_of_ble_eq_true rfl) ⟨by decide, by decide⟩ ⟨by decide, by decide⟩ d_Mo_readTag_187 (fun v M48 r48 H locs hw hp => ?_) (fun x ek M48 r48 H locs hw hE hp => gr_t B hexc hw hE (by decide) (by decide) (hF.trans (bnd_ex hp)))
                obtain ⟨rfl, hp⟩ := hp
                have hF := hF.trans (bnd_ok hp)
                refine lv_goto hx hb d_Mo_readTag_190 rfl ?_
                refine lv_iconst (v := 1) hx hb d_Mo_readTag_208 (by decide) ?_
                exact gr_z B hw (by rfl) d_Mo_readTag_209 ⟨_, rfl, hF⟩
            · skip
              have hF := hF.trans (if_pos h45)
              refine lv_iconst (v := 0) hx hb d_Mo_readTag_165 (by decide) ?_
              exact gr_z B hw (by rfl) d_Mo_readTag_166 ⟨_, rfl, hF⟩
        · skip
          have hF := hF.trans (if_pos h36)
          refine lv_iconst (v := 0) hx hb d_Mo_readTag_87 (by decide) ?_
          exact gr_z B hw (by rfl) d_Mo_readTag_88 ⟨_, rfl, hF⟩
      · skip
        have hF := hF.trans (if_pos h33)
        refine lv_aload_n hx hb d_Mo_readTag_58 rfl (lv_at hl 1 rfl) ?_
        refine lv_iconst (v := 4) hx hb d_Mo_readTag_59 (by decide) ?_
        refine lv_iload_n hx hb d_Mo_readTag_60 rfl (lv_at hl 0 rfl) ?_
        refine gy_V B hl.1 hw (t_Mo_fail G _ _ ow fu 4 (M 103 0) (nn hno hF)) (kd_Mo_fail T) (ki_Mo T) (km_Mo_88 T) (ka_Mo_fail T) (ks_Mo_fail T) ⟨by decide, by decide, by rfl⟩ (rv_Mo hK hw rfl) rfl (Nat.le_of_ble_eq_true rfl) ⟨by decide, by decide⟩ ⟨by decide, by decide⟩ d_Mo_readTag_61 (fun v M49 r49 H locs hw hp => ?_) (fun x ek M49 r49 H locs hw hE hp => gr_t B hexc hw hE (by decide) (by decide) (hF.trans (bnd_ex hp)))
        obtain ⟨v49, rfl, hp⟩ := hp
        have hF := hF.trans (bnd_ok hp)
        have g50 := ng hno hF
        have hF := hF.trans (gd_yes g50)
        exact gr_z B hw g50 d_Mo_readTag_64 ⟨_, rfl, hF⟩
  · skip
    have hF := hF.trans (if_pos h29)
    refine lv_aload_n hx hb d_Mo_readTag_30 rfl (lv_at hl 1 rfl) ?_
    refine lv_iconst (v := 1) hx hb d_Mo_readTag_31 (by decide) ?_
    refine lv_aload_n hx hb d_Mo_readTag_32 rfl (lv_at hl 1 rfl) ?_
    refine gf_Mo_at hx hb T hown hK hw rfl (kf_Mo_81 T) d_Mo_readTag_33 ?_
    refine gy_V B hl.1 hw (t_Mo_fail G _ _ ow fu 1 (M28 103 0) (nn hno hF)) (kd_Mo_fail T) (ki_Mo T) (km_Mo_88 T) (ka_Mo_fail T) (ks_Mo_fail T) ⟨by decide, by decide, by rfl⟩ (rv_Mo hK hw rfl) rfl (Nat.le_of_ble_eq_true rfl) ⟨by decide, by decide⟩ ⟨by decide, by decide⟩ d_Mo_readTag_36 (fun v M51 r51 H locs hw hp => ?_) (fun x ek M51 r51 H locs hw hE hp => gr_t B hexc hw hE (by decide) (by decide) (hF.trans (bnd_ex hp)))
    obtain ⟨v51, rfl, hp⟩ := hp
    have hF := hF.trans (bnd_ok hp)
    have g52 := ng hno hF
    have hF := hF.trans (gd_yes g52)
    exact gr_z B hw g52 d_Mo_readTag_39 ⟨_, rfl, hF⟩
theorem d_Mo_readEnd_0 : decode b_Mo_readEnd 0 = .ok (.aload_n 0, 1) := by decide +kernel
theorem d_Mo_readEnd_1 : decode b_Mo_readEnd 1 = .ok (.dup, 1) := by decide +kernel
theorem d_Mo_readEnd_2 : decode b_Mo_readEnd 2 = .ok (.getfield 81, 3) := by decide +kernel
theorem d_Mo_readEnd_5 : decode b_Mo_readEnd 5 = .ok (.iconst 2, 1) := by decide +kernel
theorem d_Mo_readEnd_6 : decode b_Mo_readEnd 6 = .ok (.iadd, 1) := by decide +kernel
theorem d_Mo_readEnd_7 : decode b_Mo_readEnd 7 = .ok (.putfield 81, 3) := by decide +kernel
theorem d_Mo_readEnd_10 : decode b_Mo_readEnd 10 = .ok (.aload_n 0, 1) := by decide +kernel
theorem d_Mo_readEnd_11 : decode b_Mo_readEnd 11 = .ok (.getfield 81, 3) := by decide +kernel
theorem d_Mo_readEnd_14 : decode b_Mo_readEnd 14 = .ok (.istore_n 1, 1) := by decide +kernel
theorem d_Mo_readEnd_15 : decode b_Mo_readEnd 15 = .ok (.aload_n 0, 1) := by decide +kernel
theorem d_Mo_readEnd_16 : decode b_Mo_readEnd 16 = .ok (.getfield 106, 3) := by decide +kernel
theorem d_Mo_readEnd_19 : decode b_Mo_readEnd 19 = .ok (.istore_n 2, 1) := by decide +kernel
theorem d_Mo_readEnd_20 : decode b_Mo_readEnd 20 = .ok (.aload_n 0, 1) := by decide +kernel
theorem d_Mo_readEnd_21 : decode b_Mo_readEnd 21 = .ok (.invokevirtual 135, 3) := by decide +kernel
theorem d_Mo_readEnd_24 : decode b_Mo_readEnd 24 = .ok (.ifCond .ne 5, 3) := by decide +kernel
theorem d_Mo_readEnd_27 : decode b_Mo_readEnd 27 = .ok (.iconst 0, 1) := by decide +kernel
theorem d_Mo_readEnd_28 : decode b_Mo_readEnd 28 = .ok (.ireturn, 1) := by decide +kernel
theorem d_Mo_readEnd_29 : decode b_Mo_readEnd 29 = .ok (.aload_n 0, 1) := by decide +kernel
theorem d_Mo_readEnd_30 : decode b_Mo_readEnd 30 = .ok (.iload_n 2, 1) := by decide +kernel
theorem d_Mo_readEnd_31 : decode b_Mo_readEnd 31 = .ok (.putfield 106, 3) := by decide +kernel
theorem d_Mo_readEnd_34 : decode b_Mo_readEnd 34 = .ok (.aload_n 0, 1) := by decide +kernel
theorem d_Mo_readEnd_35 : decode b_Mo_readEnd 35 = .ok (.aload_n 0, 1) := by decide +kernel
theorem d_Mo_readEnd_36 : decode b_Mo_readEnd 36 = .ok (.getfield 109, 3) := by decide +kernel
theorem d_Mo_readEnd_39 : decode b_Mo_readEnd 39 = .ok (.aload_n 0, 1) := by decide +kernel
theorem d_Mo_readEnd_40 : decode b_Mo_readEnd 40 = .ok (.getfield 118, 3) := by decide +kernel
theorem d_Mo_readEnd_43 : decode b_Mo_readEnd 43 = .ok (.aload_n 0, 1) := by decide +kernel
theorem d_Mo_readEnd_44 : decode b_Mo_readEnd 44 = .ok (.getfield 23, 3) := by decide +kernel
theorem d_Mo_readEnd_47 : decode b_Mo_readEnd 47 = .ok (.aload_n 0, 1) := by decide +kernel
theorem d_Mo_readEnd_48 : decode b_Mo_readEnd 48 = .ok (.getfield 150, 3) := by decide +kernel
theorem d_Mo_readEnd_51 : decode b_Mo_readEnd 51 = .ok (.iaload, 1) := by decide +kernel
theorem d_Mo_readEnd_52 : decode b_Mo_readEnd 52 = .ok (.aload_n 0, 1) := by decide +kernel
theorem d_Mo_readEnd_53 : decode b_Mo_readEnd 53 = .ok (.getfield 26, 3) := by decide +kernel
theorem d_Mo_readEnd_56 : decode b_Mo_readEnd 56 = .ok (.aload_n 0, 1) := by decide +kernel
theorem d_Mo_readEnd_57 : decode b_Mo_readEnd 57 = .ok (.getfield 150, 3) := by decide +kernel
theorem d_Mo_readEnd_60 : decode b_Mo_readEnd 60 = .ok (.iaload, 1) := by decide +kernel
theorem d_Mo_readEnd_61 : decode b_Mo_readEnd 61 = .ok (.invokevirtual 166, 3) := by decide +kernel
theorem d_Mo_readEnd_64 : decode b_Mo_readEnd 64 = .ok (.ifCond .eq 10, 3) := by decide +kernel
theorem d_Mo_readEnd_67 : decode b_Mo_readEnd 67 = .ok (.aload_n 0, 1) := by decide +kernel
theorem d_Mo_readEnd_68 : decode b_Mo_readEnd 68 = .ok (.iconst 2, 1) := by decide +kernel
theorem d_Mo_readEnd_69 : decode b_Mo_readEnd 69 = .ok (.iload_n 1, 1) := by decide +kernel
theorem d_Mo_readEnd_70 : decode b_Mo_readEnd 70 = .ok (.invokevirtual 88, 3) := by decide +kernel
theorem d_Mo_readEnd_73 : decode b_Mo_readEnd 73 = .ok (.ireturn, 1) := by decide +kernel
theorem d_Mo_readEnd_74 : decode b_Mo_readEnd 74 = .ok (.aload_n 0, 1) := by decide +kernel
theorem d_Mo_readEnd_75 : decode b_Mo_readEnd 75 = .ok (.invokevirtual 98, 3) := by decide +kernel
theorem d_Mo_readEnd_78 : decode b_Mo_readEnd 78 = .ok (.istore_n 3, 1) := by decide +kernel
theorem d_Mo_readEnd_79 : decode b_Mo_readEnd 79 = .ok (.aload_n 0, 1) := by decide +kernel
theorem d_Mo_readEnd_80 : decode b_Mo_readEnd 80 = .ok (.bipush 62, 2) := by decide +kernel
theorem d_Mo_readEnd_82 : decode b_Mo_readEnd 82 = .ok (.invokevirtual 95, 3) := by decide +kernel
theorem d_Mo_readEnd_85 : decode b_Mo_readEnd 85 = .ok (.ifCond .ne 5, 3) := by decide +kernel
theorem d_Mo_readEnd_88 : decode b_Mo_readEnd 88 = .ok (.iconst 0, 1) := by decide +kernel
theorem d_Mo_readEnd_89 : decode b_Mo_readEnd 89 = .ok (.ireturn, 1) := by decide +kernel
theorem d_Mo_readEnd_90 : decode b_Mo_readEnd 90 = .ok (.aload_n 0, 1) := by decide +kernel
theorem d_Mo_readEnd_91 : decode b_Mo_readEnd 91 = .ok (.sipush 2000, 3) := by decide +kernel
theorem d_Mo_readEnd_94 : decode b_Mo_readEnd 94 = .ok (.aload_n 0, 1) := by decide +kernel
theorem d_Mo_readEnd_95 : decode b_Mo_readEnd 95 = .ok (.getfield 150, 3) := by decide +kernel
theorem d_Mo_readEnd_98 : decode b_Mo_readEnd 98 = .ok (.iadd, 1) := by decide +kernel
theorem d_Mo_readEnd_99 : decode b_Mo_readEnd 99 = .ok (.invokevirtual 159, 3) := by decide +kernel
theorem d_Mo_readEnd_102 : decode b_Mo_readEnd 102 = .ok (.aload_n 0, 1) := by decide +kernel
theorem d_Mo_readEnd_103 : decode b_Mo_readEnd 103 = .ok (.aload_n 0, 1) := by decide +kernel
theorem d_Mo_readEnd_104 : decode b_Mo_readEnd 104 = .ok (.getfield 20, 3) := by decide +kernel
theorem d_Mo_readEnd_107 : decode b_Mo_readEnd 107 = .ok (.aload_n 0, 1) := by decide +kernel
theorem d_Mo_readEnd_108 : decode b_Mo_readEnd 108 = .ok (.getfield 150, 3) := by decide +kernel
theorem d_Mo_readEnd_111 : decode b_Mo_readEnd 111 = .ok (.iaload, 1) := by decide +kernel
theorem d_Mo_readEnd_112 : decode b_Mo_readEnd 112 = .ok (.putfield 150, 3) := by decide +kernel
theorem d_Mo_readEnd_115 : decode b_Mo_readEnd 115 = .ok (.aload_n 0, 1) := by decide +kernel
theorem d_Mo_readEnd_116 : decode b_Mo_readEnd 116 = .ok (.dup, 1) := by decide +kernel
theorem d_Mo_readEnd_117 : decode b_Mo_readEnd 117 = .ok (.getfield 144, 3) := by decide +kernel
theorem d_Mo_readEnd_120 : decode b_Mo_readEnd 120 = .ok (.iconst 1, 1) := by decide +kernel
theorem d_Mo_readEnd_121 : decode b_Mo_readEnd 121 = .ok (.isub, 1) := by decide +kernel
theorem d_Mo_readEnd_122 : decode b_Mo_readEnd 122 = .ok (.putfield 144, 3) := by decide +kernel
theorem d_Mo_readEnd_125 : decode b_Mo_readEnd 125 = .ok (.iload_n 3, 1) := by decide +kernel
theorem d_Mo_readEnd_126 : decode b_Mo_readEnd 126 = .ok (.ifCond .lt 7, 3) := by decide +kernel
theorem d_Mo_readEnd_129 : decode b_Mo_readEnd 129 = .ok (.iconst 1, 1) := by decide +kernel
theorem d_Mo_readEnd_130 : decode b_Mo_readEnd 130 = .ok (.goto 4, 3) := by decide +kernel
theorem d_Mo_readEnd_133 : decode b_Mo_readEnd 133 = .ok (.iconst 0, 1) := by decide +kernel
theorem d_Mo_readEnd_134 : decode b_Mo_readEnd 134 = .ok (.ireturn, 1) := by decide +kernel
set_option maxHeartbeats 4000000 in
set_option maxRecDepth 100000 in
theorem t_Mo_readEnd {l : Launch} {s0 : State} {D : va_G} {aC : Nat → ClassId} {a0 : Array Value} (G : gG l s0 D aC a0) (M : gMem) (r : gRef) (ow : Int64) (fu : Nat)  (hno : F_Mo_readEnd fu M r ≠ .no) : gMet l s0 D aC y_Mo_readEnd (Cond.code y_Mo_readEnd b_Mo_readEnd 4 (some .boolean)) 3 63 0 0 [.ref (s0.heap.size + 383)] M r ow (qI (F_Mo_readEnd fu M r)) (qT (F_Mo_readEnd fu M r)) := by
  refine gm_of G (by decide) (Nat.le_of_ble_eq_true rfl) ?_
  intro p e s m below meth c ls B hexc hl hw
  have hx := B.1
  have hb := B.2.1
  have hown := B.2.2.2.2.2.1
  have T := B.2.2.2.2.2.2.1
  have hK := B.2.2.2.2.2.2.2.1
  have hF := F_Mo_readEnd.eq_1 fu M r
  refine lv_aload_n hx hb d_Mo_readEnd_0 rfl (lv_at hl 0 rfl) ?_
  refine lv_dup hx hb d_Mo_readEnd_1 rfl ?_
  refine gf_Mo_at hx hb T hown hK hw rfl (kf_Mo_81 T) d_Mo_readEnd_2 ?_
  refine lv_iconst (v := 2) hx hb d_Mo_readEnd_5 (by decide) ?_
  refine lv_iadd hx hb d_Mo_readEnd_6 ?_
  refine pf_Mo_at hx hb T hown hK hw rfl (kf_Mo_81 T) d_Mo_readEnd_7 (fun H locs hw => ?_)
  refine lv_aload_n hx hb d_Mo_readEnd_10 rfl (lv_at hl 0 rfl) ?_
  refine gf_Mo_at hx hb T hown hK hw rfl (kf_Mo_81 T) d_Mo_readEnd_11 ?_
  refine lv_istore_n hx hb d_Mo_readEnd_14 rfl hl (by decide) rfl (fun ls hl => ?_)
  refine lv_aload_n hx hb d_Mo_readEnd_15 rfl (lv_at hl 1 rfl) ?_
  refine gf_Mo_used hx hb T hown hK hw rfl (kf_Mo_106 T) d_Mo_readEnd_16 ?_
  refine lv_istore_n hx hb d_Mo_readEnd_19 rfl hl (by decide) rfl (fun ls hl => ?_)
  refine lv_aload_n hx hb d_Mo_readEnd_20 rfl (lv_at hl 2 rfl) ?_
  refine gy_V B hl.1 hw (t_Mo_readName G _ _ ow fu (nn hno hF)) (kd_Mo_readName T) (ki_Mo T) (km_Mo_135 T) (ka_Mo_readName T) (ks_Mo_readName T) ⟨by decide, by decide, by rfl⟩ (rv_Mo hK hw rfl) rfl (Nat.le_of_ble_eq_true rfl) ⟨by decide, by decide⟩ ⟨by decide, by decide⟩ d_Mo_readEnd_21 (fun v M15 r15 H locs hw hp => ?_) (fun x ek M15 r15 H locs hw hE hp => gr_t B hexc hw hE (by decide) (by decide) (hF.trans (bnd_ex hp)))
  obtain ⟨v15, rfl, hp⟩ := hp
  have hF := hF.trans (bnd_ok hp)
  refine lv_if_ne hx hb d_Mo_readEnd_24 rfl (fun h16 => ?_) (fun h16 => ?_)
  · skip
    have hF := hF.trans (if_neg h16)
    refine lv_aload_n hx hb d_Mo_readEnd_29 rfl (lv_at hl 2 rfl) ?_
    refine lv_iload_n hx hb d_Mo_readEnd_30 rfl (lv_at hl 0 rfl) ?_
    refine pf_Mo_used hx hb T hown hK hw rfl (kf_Mo_106 T) d_Mo_readEnd_31 (fun H locs hw => ?_)
    refine lv_aload_n hx hb d_Mo_readEnd_34 rfl (lv_at hl 2 rfl) ?_
    refine lv_aload_n hx hb d_Mo_readEnd_35 rfl (lv_at hl 2 rfl) ?_
    refine gf_Mo_begun hx hb T hown hK hw rfl (kf_Mo_109 T) d_Mo_readEnd_36 ?_
    refine lv_aload_n hx hb d_Mo_readEnd_39 rfl (lv_at hl 2 rfl) ?_
    refine gf_Mo_long0 hx hb T hown hK hw rfl (kf_Mo_118 T) d_Mo_readEnd_40 ?_
    refine lv_aload_n hx hb d_Mo_readEnd_43 rfl (lv_at hl 2 rfl) ?_
    refine gf_Mo_nameFrom hx hb T hown hK hw rfl (kf_Mo_23 T) d_Mo_readEnd_44 ?_
    refine lv_aload_n hx hb d_Mo_readEnd_47 rfl (lv_at hl 2 rfl) ?_
    refine gf_Mo_open hx hb T hown hK hw rfl (kf_Mo_150 T) d_Mo_readEnd_48 ?_
    have g17 := ng hno hF
    have hF := hF.trans (gd_yes g17)
    refine ga_Mo_nameFrom hx hb hK hw rfl g17 d_Mo_readEnd_51 ?_
    refine lv_aload_n hx hb d_Mo_readEnd_52 rfl (lv_at hl 2 rfl) ?_
    refine gf_Mo_nameSize hx hb T hown hK hw rfl (kf_Mo_26 T) d_Mo_readEnd_53 ?_
    refine lv_aload_n hx hb d_Mo_readEnd_56 rfl (lv_at hl 2 rfl) ?_
    refine gf_Mo_open hx hb T hown hK hw rfl (kf_Mo_150 T) d_Mo_readEnd_57 ?_
    have g18 := ng hno hF
    have hF := hF.trans (gd_yes g18)
    refine ga_Mo_nameSize hx hb hK hw rfl g18 d_Mo_readEnd_60 ?_
    refine gy_V B hl.1 hw (t_Mo_compare G _ _ ow fu ((mS M15 107 0 ((mS M 103 0 ((M 103 0) + 2)) 107 0)) 131 0) ((mS M15 107 0 ((mS M 103 0 ((M 103 0) + 2)) 107 0)) 132 0) ((mS M15 107 0 ((mS M 103 0 ((M 103 0) + 2)) 107 0)) 111 ((mS M15 107 0 ((mS M 103 0 ((M 103 0) + 2)) 107 0)) 124 0).toNatClampNeg) ((mS M15 107 0 ((mS M 103 0 ((M 103 0) + 2)) 107 0)) 112 ((mS M15 107 0 ((mS M 103 0 ((M 103 0) + 2)) 107 0)) 124 0).toNatClampNeg) (nn hno hF)) (kd_Mo_compare T) (ki_Mo T) (km_Mo_166 T) (ka_Mo_compare T) (ks_Mo_compare T) ⟨by decide, by decide, by rfl⟩ (rv_Mo hK hw rfl) rfl (Nat.le_of_ble_eq_true rfl) ⟨by decide, by decide⟩ ⟨by decide, by decide⟩ d_Mo_readEnd_61 (fun v M19 r19 H locs hw hp => ?_) (fun x ek M19 r19 H locs hw hE hp => gr_t B hexc hw hE (by decide) (by decide) (hF.trans (bnd_ex hp)))
    obtain ⟨v19, rfl, hp⟩ := hp
    have hF := hF.trans (bnd_ok hp)
    refine lv_if_eq hx hb d_Mo_readEnd_64 rfl (fun h20 => ?_) (fun h20 => ?_)
    · skip
      have hF := hF.trans (if_pos h20)
      refine lv_aload_n hx hb d_Mo_readEnd_74 rfl (lv_at hl 2 rfl) ?_
      refine gy_V B hl.1 hw (t_Mo_skip G _ _ ow fu (nn hno hF)) (kd_Mo_skip T) (ki_Mo T) (km_Mo_98 T) (ka_Mo_skip T) (ks_Mo_skip T) ⟨by decide, by decide, by rfl⟩ (rv_Mo hK hw rfl) rfl (Nat.le_of_ble_eq_true rfl) ⟨by decide, by decide⟩ ⟨by decide, by decide⟩ d_Mo_readEnd_75 (fun v M21 r21 H locs hw hp => ?_) (fun x ek M21 r21 H locs hw hE hp => gr_t B hexc hw hE (by decide) (by decide) (hF.trans (bnd_ex hp)))
      obtain ⟨v21, rfl, hp⟩ := hp
      have hF := hF.trans (bnd_ok hp)
      refine lv_istore_n hx hb d_Mo_readEnd_78 rfl hl (by decide) rfl (fun ls hl => ?_)
      refine lv_aload_n hx hb d_Mo_readEnd_79 rfl (lv_at hl 3 rfl) ?_
      refine lv_bipush (v := 62) hx hb d_Mo_readEnd_80 (by decide) ?_
      refine gy_V B hl.1 hw (t_Mo_over G _ _ ow fu 62 (nn hno hF)) (kd_Mo_over T) (ki_Mo T) (km_Mo_95 T) (ka_Mo_over T) (ks_Mo_over T) ⟨by decide, by decide, by rfl⟩ (rv_Mo hK hw rfl) rfl (Nat.le_of_ble_eq_true rfl) ⟨by decide, by decide⟩ ⟨by decide, by decide⟩ d_Mo_readEnd_82 (fun v M22 r22 H locs hw hp => ?_) (fun x ek M22 r22 H locs hw hE hp => gr_t B hexc hw hE (by decide) (by decide) (hF.trans (bnd_ex hp)))
      obtain ⟨v22, rfl, hp⟩ := hp
      have hF := hF.trans (bnd_ok hp)
      refine lv_if_ne hx hb d_Mo_readEnd_85 rfl (fun h23 => ?_) (fun h23 => ?_)
      · skip
        have hF := hF.trans (if_neg h23)
        refine lv_aload_n hx hb d_Mo_readEnd_90 rfl (lv_at hl 3 rfl) ?_
        refine lv_sipush (v := 2000) hx hb d_Mo_readEnd_91 (by decide) ?_
        refine lv_aload_n hx hb d_Mo_readEnd_94 rfl (lv_at hl 3 rfl) ?_
        refine gf_Mo_open hx hb T hown hK hw rfl (kf_Mo_150 T) d_Mo_readEnd_95 ?_
        refine lv_iadd hx hb d_Mo_readEnd_98 ?_
        refine gy_V B hl.1 hw (t_Mo_happen G _ _ ow fu (2000 + (M22 124 0)) (nn hno hF)) (kd_Mo_happen T) (ki_Mo T) (km_Mo_159 T) (ka_Mo_happen T) (ks_Mo_happen T) ⟨by decide, by decide, by rfl⟩ (rv_Mo hK hw rfl) rfl (Nat.le_of_ble_eq_true rfl) ⟨by decide, by decide⟩ ⟨by decide, by decide⟩ d_Mo_readEnd_99 (fun v M24 r24 H locs hw hp => ?_) (fun x ek M24 r24 H locs hw hE hp => gr_t B hexc hw hE (by decide) (by decide) (hF.trans (bnd_ex hp)))
        obtain ⟨rfl, hp⟩ := hp
        have hF := hF.trans (bnd_ok hp)
        refine lv_aload_n hx hb d_Mo_readEnd_102 rfl (lv_at hl 3 rfl) ?_
        refine lv_aload_n hx hb d_Mo_readEnd_103 rfl (lv_at hl 3 rfl) ?_
        refine gf_Mo_parents hx hb T hown hK hw rfl (kf_Mo_20 T) d_Mo_readEnd_104 ?_
        refine lv_aload_n hx hb d_Mo_readEnd_107 rfl (lv_at hl 3 rfl) ?_
        refine gf_Mo_open hx hb T hown hK hw rfl (kf_Mo_150 T) d_Mo_readEnd_108 ?_
        have g25 := ng hno hF
        have hF := hF.trans (gd_yes g25)
        refine ga_Mo_parents hx hb hK hw rfl g25 d_Mo_readEnd_111 ?_
        refine pf_Mo_open hx hb T hown hK hw rfl (kf_Mo_150 T) d_Mo_readEnd_112 (fun H locs hw => ?_)
        refine lv_aload_n hx hb d_Mo_readEnd_115 rfl (lv_at hl 3 rfl) ?_
        refine lv_dup hx hb d_Mo_readEnd_116 rfl ?_
        refine gf_Mo_depth hx hb T hown hK hw rfl (kf_Mo_144 T) d_Mo_readEnd_117 ?_
        refine lv_iconst (v := 1) hx hb d_Mo_readEnd_120 (by decide) ?_
        refine lv_isub hx hb d_Mo_readEnd_121 ?_
        refine pf_Mo_depth hx hb T hown hK hw rfl (kf_Mo_144 T) d_Mo_readEnd_122 (fun H locs hw => ?_)
        refine lv_iload_n hx hb d_Mo_readEnd_125 rfl (lv_at hl 0 rfl) ?_
        refine lv_if_lt hx hb d_Mo_readEnd_126 rfl (fun h26 => ?_) (fun h26 => ?_)
        · skip
          have hF := hF.trans (if_pos h26)
          refine lv_iconst (v := 0) hx hb d_Mo_readEnd_133 (by decide) ?_
          exact gr_z B hw (by rfl) d_Mo_readEnd_134 ⟨_, rfl, hF⟩
        · skip
          have hF := hF.trans (if_neg h26)
          refine lv_iconst (v := 1) hx hb d_Mo_readEnd_129 (by decide) ?_
          refine lv_goto hx hb d_Mo_readEnd_130 rfl ?_
          exact gr_z B hw (by rfl) d_Mo_readEnd_134 ⟨_, rfl, hF⟩
      · skip
        have hF := hF.trans (if_pos h23)
        refine lv_iconst (v := 0) hx hb d_Mo_readEnd_88 (by decide) ?_
        exact gr_z B hw (by rfl) d_Mo_readEnd_89 ⟨_, rfl, hF⟩
    · skip
      have hF := hF.trans (if_neg h20)
      refine lv_aload_n hx hb d_Mo_readEnd_67 rfl (lv_at hl 2 rfl) ?_
      refine lv_iconst (v := 2) hx hb d_Mo_readEnd_68 (by decide) ?_
      refine lv_iload_n hx hb d_Mo_readEnd_69 rfl (lv_at hl 1 rfl) ?_
      refine gy_V B hl.1 hw (t_Mo_fail G _ _ ow fu 2 ((mS M 103 0 ((M 103 0) + 2)) 103 0) (nn hno hF)) (kd_Mo_fail T) (ki_Mo T) (km_Mo_88 T) (ka_Mo_fail T) (ks_Mo_fail T) ⟨by decide, by decide, by rfl⟩ (rv_Mo hK hw rfl) rfl (Nat.le_of_ble_eq_true rfl) ⟨by decide, by decide⟩ ⟨by decide, by decide⟩ d_Mo_readEnd_70 (fun v M27 r27 H locs hw hp => ?_) (fun x ek M27 r27 H locs hw hE hp => gr_t B hexc hw hE (by decide) (by decide) (hF.trans (bnd_ex hp)))
      obtain ⟨v27, rfl, hp⟩ := hp
      have hF := hF.trans (bnd_ok hp)
      have g28 := ng hno hF
      have hF := hF.trans (gd_yes g28)
      exact gr_z B hw g28 d_Mo_readEnd_73 ⟨_, rfl, hF⟩
  · skip
    have hF := hF.trans (if_pos h16)
    refine lv_iconst (v := 0) hx hb d_Mo_readEnd_27 (by decide) ?_
    exact gr_z B hw (by rfl) d_Mo_readEnd_28 ⟨_, rfl, hF⟩
theorem d_Mo_readSection_0 : decode b_Mo_readSection 0 = .ok (.aload_n 0, 1) := by decide +kernel
theorem d_Mo_readSection_1 : decode b_Mo_readSection 1 = .ok (.bipush 67, 2) := by decide +kernel
theorem d_Mo_readSection_3 : decode b_Mo_readSection 3 = .ok (.invokevirtual 95, 3) := by decide +kernel
theorem d_Mo_readSection_6 : decode b_Mo_readSection 6 = .ok (.ifCond .eq 48, 3) := by decide +kernel
theorem d_Mo_readSection_9 : decode b_Mo_readSection 9 = .ok (.aload_n 0, 1) := by decide +kernel
theorem d_Mo_readSection_10 : decode b_Mo_readSection 10 = .ok (.bipush 68, 2) := by decide +kernel
theorem d_Mo_readSection_12 : decode b_Mo_readSection 12 = .ok (.invokevirtual 95, 3) := by decide +kernel
theorem d_Mo_readSection_15 : decode b_Mo_readSection 15 = .ok (.ifCond .eq 39, 3) := by decide +kernel
theorem d_Mo_readSection_18 : decode b_Mo_readSection 18 = .ok (.aload_n 0, 1) := by decide +kernel
theorem d_Mo_readSection_19 : decode b_Mo_readSection 19 = .ok (.bipush 65, 2) := by decide +kernel
theorem d_Mo_readSection_21 : decode b_Mo_readSection 21 = .ok (.invokevirtual 95, 3) := by decide +kernel
theorem d_Mo_readSection_24 : decode b_Mo_readSection 24 = .ok (.ifCond .eq 30, 3) := by decide +kernel
theorem d_Mo_readSection_27 : decode b_Mo_readSection 27 = .ok (.aload_n 0, 1) := by decide +kernel
theorem d_Mo_readSection_28 : decode b_Mo_readSection 28 = .ok (.bipush 84, 2) := by decide +kernel
theorem d_Mo_readSection_30 : decode b_Mo_readSection 30 = .ok (.invokevirtual 95, 3) := by decide +kernel
theorem d_Mo_readSection_33 : decode b_Mo_readSection 33 = .ok (.ifCond .eq 21, 3) := by decide +kernel
theorem d_Mo_readSection_36 : decode b_Mo_readSection 36 = .ok (.aload_n 0, 1) := by decide +kernel
theorem d_Mo_readSection_37 : decode b_Mo_readSection 37 = .ok (.bipush 65, 2) := by decide +kernel
theorem d_Mo_readSection_39 : decode b_Mo_readSection 39 = .ok (.invokevirtual 95, 3) := by decide +kernel
theorem d_Mo_readSection_42 : decode b_Mo_readSection 42 = .ok (.ifCond .eq 12, 3) := by decide +kernel
theorem d_Mo_readSection_45 : decode b_Mo_readSection 45 = .ok (.aload_n 0, 1) := by decide +kernel
theorem d_Mo_readSection_46 : decode b_Mo_readSection 46 = .ok (.bipush 91, 2) := by decide +kernel
theorem d_Mo_readSection_48 : decode b_Mo_readSection 48 = .ok (.invokevirtual 95, 3) := by decide +kernel
theorem d_Mo_readSection_51 : decode b_Mo_readSection 51 = .ok (.ifCond .ne 5, 3) := by decide +kernel
theorem d_Mo_readSection_54 : decode b_Mo_readSection 54 = .ok (.iconst 0, 1) := by decide +kernel
theorem d_Mo_readSection_55 : decode b_Mo_readSection 55 = .ok (.ireturn, 1) := by decide +kernel
theorem d_Mo_readSection_56 : decode b_Mo_readSection 56 = .ok (.aload_n 0, 1) := by decide +kernel
theorem d_Mo_readSection_57 : decode b_Mo_readSection 57 = .ok (.getfield 81, 3) := by decide +kernel
theorem d_Mo_readSection_60 : decode b_Mo_readSection 60 = .ok (.aload_n 0, 1) := by decide +kernel
theorem d_Mo_readSection_61 : decode b_Mo_readSection 61 = .ok (.getfield 72, 3) := by decide +kernel
theorem d_Mo_readSection_64 : decode b_Mo_readSection 64 = .ok (.if_icmp .ge 72, 3) := by decide +kernel
theorem d_Mo_readSection_67 : decode b_Mo_readSection 67 = .ok (.aload_n 0, 1) := by decide +kernel
theorem d_Mo_readSection_68 : decode b_Mo_readSection 68 = .ok (.aload_n 0, 1) := by decide +kernel
theorem d_Mo_readSection_69 : decode b_Mo_readSection 69 = .ok (.getfield 81, 3) := by decide +kernel
theorem d_Mo_readSection_72 : decode b_Mo_readSection 72 = .ok (.invokevirtual 84, 3) := by decide +kernel
theorem d_Mo_readSection_75 : decode b_Mo_readSection 75 = .ok (.bipush 93, 2) := by decide +kernel
theorem d_Mo_readSection_77 : decode b_Mo_readSection 77 = .ok (.if_icmp .ne 33, 3) := by decide +kernel
theorem d_Mo_readSection_80 : decode b_Mo_readSection 80 = .ok (.aload_n 0, 1) := by decide +kernel
theorem d_Mo_readSection_81 : decode b_Mo_readSection 81 = .ok (.aload_n 0, 1) := by decide +kernel
theorem d_Mo_readSection_82 : decode b_Mo_readSection 82 = .ok (.getfield 81, 3) := by decide +kernel
theorem d_Mo_readSection_85 : decode b_Mo_readSection 85 = .ok (.iconst 1, 1) := by decide +kernel
theorem d_Mo_readSection_86 : decode b_Mo_readSection 86 = .ok (.iadd, 1) := by decide +kernel
theorem d_Mo_readSection_87 : decode b_Mo_readSection 87 = .ok (.invokevirtual 84, 3) := by decide +kernel
theorem d_Mo_readSection_90 : decode b_Mo_readSection 90 = .ok (.bipush 93, 2) := by decide +kernel
theorem d_Mo_readSection_92 : decode b_Mo_readSection 92 = .ok (.if_icmp .ne 18, 3) := by decide +kernel
theorem d_Mo_readSection_95 : decode b_Mo_readSection 95 = .ok (.aload_n 0, 1) := by decide +kernel
theorem d_Mo_readSection_96 : decode b_Mo_readSection 96 = .ok (.aload_n 0, 1) := by decide +kernel
theorem d_Mo_readSection_97 : decode b_Mo_readSection 97 = .ok (.getfield 81, 3) := by decide +kernel
theorem d_Mo_readSection_100 : decode b_Mo_readSection 100 = .ok (.iconst 2, 1) := by decide +kernel
theorem d_Mo_readSection_101 : decode b_Mo_readSection 101 = .ok (.iadd, 1) := by decide +kernel
theorem d_Mo_readSection_102 : decode b_Mo_readSection 102 = .ok (.invokevirtual 84, 3) := by decide +kernel
theorem d_Mo_readSection_105 : decode b_Mo_readSection 105 = .ok (.bipush 62, 2) := by decide +kernel
theorem d_Mo_readSection_107 : decode b_Mo_readSection 107 = .ok (.if_icmp .eq 29, 3) := by decide +kernel
theorem d_Mo_readSection_110 : decode b_Mo_readSection 110 = .ok (.aload_n 0, 1) := by decide +kernel
theorem d_Mo_readSection_111 : decode b_Mo_readSection 111 = .ok (.aload_n 0, 1) := by decide +kernel
theorem d_Mo_readSection_112 : decode b_Mo_readSection 112 = .ok (.getfield 7, 3) := by decide +kernel
theorem d_Mo_readSection_115 : decode b_Mo_readSection 115 = .ok (.aload_n 0, 1) := by decide +kernel
theorem d_Mo_readSection_116 : decode b_Mo_readSection 116 = .ok (.getfield 81, 3) := by decide +kernel
theorem d_Mo_readSection_119 : decode b_Mo_readSection 119 = .ok (.iaload, 1) := by decide +kernel
theorem d_Mo_readSection_120 : decode b_Mo_readSection 120 = .ok (.invokevirtual 159, 3) := by decide +kernel
theorem d_Mo_readSection_123 : decode b_Mo_readSection 123 = .ok (.aload_n 0, 1) := by decide +kernel
theorem d_Mo_readSection_124 : decode b_Mo_readSection 124 = .ok (.dup, 1) := by decide +kernel
theorem d_Mo_readSection_125 : decode b_Mo_readSection 125 = .ok (.getfield 81, 3) := by decide +kernel
theorem d_Mo_readSection_128 : decode b_Mo_readSection 128 = .ok (.iconst 1, 1) := by decide +kernel
theorem d_Mo_readSection_129 : decode b_Mo_readSection 129 = .ok (.iadd, 1) := by decide +kernel
theorem d_Mo_readSection_130 : decode b_Mo_readSection 130 = .ok (.putfield 81, 3) := by decide +kernel
theorem d_Mo_readSection_133 : decode b_Mo_readSection 133 = .ok (.goto (-77), 3) := by decide +kernel
theorem d_Mo_readSection_136 : decode b_Mo_readSection 136 = .ok (.aload_n 0, 1) := by decide +kernel
theorem d_Mo_readSection_137 : decode b_Mo_readSection 137 = .ok (.getfield 81, 3) := by decide +kernel
theorem d_Mo_readSection_140 : decode b_Mo_readSection 140 = .ok (.aload_n 0, 1) := by decide +kernel
theorem d_Mo_readSection_141 : decode b_Mo_readSection 141 = .ok (.getfield 72, 3) := by decide +kernel
theorem d_Mo_readSection_144 : decode b_Mo_readSection 144 = .ok (.if_icmp .ne 13, 3) := by decide +kernel
theorem d_Mo_readSection_147 : decode b_Mo_readSection 147 = .ok (.aload_n 0, 1) := by decide +kernel
theorem d_Mo_readSection_148 : decode b_Mo_readSection 148 = .ok (.iconst 1, 1) := by decide +kernel
theorem d_Mo_readSection_149 : decode b_Mo_readSection 149 = .ok (.aload_n 0, 1) := by decide +kernel
theorem d_Mo_readSection_150 : decode b_Mo_readSection 150 = .ok (.getfield 81, 3) := by decide +kernel
theorem d_Mo_readSection_153 : decode b_Mo_readSection 153 = .ok (.invokevirtual 88, 3) := by decide +kernel
theorem d_Mo_readSection_156 : decode b_Mo_readSection 156 = .ok (.ireturn, 1) := by decide +kernel
theorem d_Mo_readSection_157 : decode b_Mo_readSection 157 = .ok (.aload_n 0, 1) := by decide +kernel
theorem d_Mo_readSection_158 : decode b_Mo_readSection 158 = .ok (.dup, 1) := by decide +kernel
theorem d_Mo_readSection_159 : decode b_Mo_readSection 159 = .ok (.getfield 81, 3) := by decide +kernel
theorem d_Mo_readSection_162 : decode b_Mo_readSection 162 = .ok (.iconst 3, 1) := by decide +kernel
theorem d_Mo_readSection_163 : decode b_Mo_readSection 163 = .ok (.iadd, 1) := by decide +kernel
theorem d_Mo_readSection_164 : decode b_Mo_readSection 164 = .ok (.putfield 81, 3) := by decide +kernel
theorem d_Mo_readSection_167 : decode b_Mo_readSection 167 = .ok (.iconst 1, 1) := by decide +kernel
theorem d_Mo_readSection_168 : decode b_Mo_readSection 168 = .ok (.ireturn, 1) := by decide +kernel
set_option maxHeartbeats 4000000 in
set_option maxRecDepth 100000 in
theorem t_Mo_readSection {l : Launch} {s0 : State} {D : va_G} {aC : Nat → ClassId} {a0 : Array Value} (G : gG l s0 D aC a0) (M : gMem) (r : gRef) (ow : Int64) (fu : Nat)  (hno : F_Mo_readSection fu M r ≠ .no) : gMet l s0 D aC y_Mo_readSection (Cond.code y_Mo_readSection b_Mo_readSection 1 (some .boolean)) 2 43 0 0 [.ref (s0.heap.size + 383)] M r ow (qI (F_Mo_readSection fu M r)) (qT (F_Mo_readSection fu M r)) := by
  refine gm_of G (by decide) (Nat.le_of_ble_eq_true rfl) ?_
  intro p e s m below meth c ls B hexc hl hw
  have hx := B.1
  have hb := B.2.1
  have hown := B.2.2.2.2.2.1
  have T := B.2.2.2.2.2.2.1
  have hK := B.2.2.2.2.2.2.2.1
  have X136 : ∀ (M1 : gMem) (r1 : gRef) (H : Heap) (locs : List Loc) (ls : Array Slot), lv_has ls 1 [(0, .ref (s0.heap.size + 383))] → gWd s0 D aC M1 r1 ow H locs → F_Mo_readSection fu M r = F_Mo_readSection_B136 fu M1 r1 → W p l e (gRm 2 43 0 0) s m ([.ref (s0.heap.size + 383)] : List Value).toArray below meth c H locs 0 0 (gt_Q below (gQ s0 D aC ow (qI (F_Mo_readSection fu M r)) (qT (F_Mo_readSection fu M r))) s 0 0 0 0 (fun q => s0.heap.size ≤ q)) (F0 m 136 ls []) := by
    intro  M1 r1 H locs ls hl hw hF
    have hF := hF.trans (F_Mo_readSection_B136.eq_1 _ _ _)
    refine lv_aload_n hx hb d_Mo_readSection_136 rfl (lv_at hl 0 rfl) ?_
    refine gf_Mo_at hx hb T hown hK hw rfl (kf_Mo_81 T) d_Mo_readSection_137 ?_
    refine lv_aload_n hx hb d_Mo_readSection_140 rfl (lv_at hl 0 rfl) ?_
    refine gf_Mo_typed hx hb T hown hK hw rfl (kf_Mo_72 T) d_Mo_readSection_141 ?_
    refine lv_icmp_ne hx hb d_Mo_readSection_144 rfl (fun h29 => ?_) (fun h29 => ?_)
    · skip
      have hF := hF.trans (if_neg h29)
      refine lv_aload_n hx hb d_Mo_readSection_157 rfl (lv_at hl 0 rfl) ?_
      refine lv_dup hx hb d_Mo_readSection_158 rfl ?_
      refine gf_Mo_at hx hb T hown hK hw rfl (kf_Mo_81 T) d_Mo_readSection_159 ?_
      refine lv_iconst (v := 3) hx hb d_Mo_readSection_162 (by decide) ?_
      refine lv_iadd hx hb d_Mo_readSection_163 ?_
      refine pf_Mo_at hx hb T hown hK hw rfl (kf_Mo_81 T) d_Mo_readSection_164 (fun H locs hw => ?_)
      refine lv_iconst (v := 1) hx hb d_Mo_readSection_167 (by decide) ?_
      exact gr_z B hw (by rfl) d_Mo_readSection_168 ⟨_, rfl, hF⟩
    · skip
      have hF := hF.trans (if_pos h29)
      refine lv_aload_n hx hb d_Mo_readSection_147 rfl (lv_at hl 0 rfl) ?_
      refine lv_iconst (v := 1) hx hb d_Mo_readSection_148 (by decide) ?_
      refine lv_aload_n hx hb d_Mo_readSection_149 rfl (lv_at hl 0 rfl) ?_
      refine gf_Mo_at hx hb T hown hK hw rfl (kf_Mo_81 T) d_Mo_readSection_150 ?_
      refine gy_V B hl.1 hw (t_Mo_fail G _ _ ow fu 1 (M1 103 0) (nn hno hF)) (kd_Mo_fail T) (ki_Mo T) (km_Mo_88 T) (ka_Mo_fail T) (ks_Mo_fail T) ⟨by decide, by decide, by rfl⟩ (rv_Mo hK hw rfl) rfl (Nat.le_of_ble_eq_true rfl) ⟨by decide, by decide⟩ ⟨by decide, by decide⟩ d_Mo_readSection_153 (fun v M30 r30 H locs hw hp => ?_) (fun x ek M30 r30 H locs hw hE hp => gr_t B hexc hw hE (by decide) (by decide) (hF.trans (bnd_ex hp)))
      obtain ⟨v30, rfl, hp⟩ := hp
      have hF := hF.trans (bnd_ok hp)
      have g31 := ng hno hF
      have hF := hF.trans (gd_yes g31)
      exact gr_z B hw g31 d_Mo_readSection_156 ⟨_, rfl, hF⟩
  have L56 : ∀ (d : Nat) (M1 : gMem) (r1 : gRef) (H : Heap) (locs : List Loc) (ls : Array Slot), lv_has ls 1 [(0, .ref (s0.heap.size + 383))] → gWd s0 D aC M1 r1 ow H locs → F_Mo_readSection fu M r = F_Mo_readSection_L56 fu d M1 r1 → W p l e (gRm 2 43 0 0) s m ([.ref (s0.heap.size + 383)] : List Value).toArray below meth c H locs 0 0 (gt_Q below (gQ s0 D aC ow (qI (F_Mo_readSection fu M r)) (qT (F_Mo_readSection fu M r))) s 0 0 0 0 (fun q => s0.heap.size ≤ q)) (F0 m 56 ls []) := by
    intro d
    induction d with
    | zero => intro  M1 r1 H locs ls hl hw hF; exact absurd hF hno
    | succ d ih =>
      intro  M1 r1 H locs ls hl hw hF
      have hF := hF.trans (F_Mo_readSection_L56.eq_2 _ _ _ _)
      refine lv_aload_n hx hb d_Mo_readSection_56 rfl (lv_at hl 0 rfl) ?_
      refine gf_Mo_at hx hb T hown hK hw rfl (kf_Mo_81 T) d_Mo_readSection_57 ?_
      refine lv_aload_n hx hb d_Mo_readSection_60 rfl (lv_at hl 0 rfl) ?_
      refine gf_Mo_typed hx hb T hown hK hw rfl (kf_Mo_72 T) d_Mo_readSection_61 ?_
      refine lv_icmp_ge hx hb d_Mo_readSection_64 rfl (fun h32 => ?_) (fun h32 => ?_)
      · skip
        have hF := hF.trans (if_pos h32)
        exact X136  _ _ _ _ _ (gv_loc hl [0] rfl) hw hF
      · skip
        have hF := hF.trans (if_neg h32)
        refine lv_aload_n hx hb d_Mo_readSection_67 rfl (lv_at hl 0 rfl) ?_
        refine lv_aload_n hx hb d_Mo_readSection_68 rfl (lv_at hl 0 rfl) ?_
        refine gf_Mo_at hx hb T hown hK hw rfl (kf_Mo_81 T) d_Mo_readSection_69 ?_
        refine gy_V B hl.1 hw (t_Mo_here G _ _ ow fu (M1 103 0) (nn hno hF)) (kd_Mo_here T) (ki_Mo T) (km_Mo_84 T) (ka_Mo_here T) (ks_Mo_here T) ⟨by decide, by decide, by rfl⟩ (rv_Mo hK hw rfl) rfl (Nat.le_of_ble_eq_true rfl) ⟨by decide, by decide⟩ ⟨by decide, by decide⟩ d_Mo_readSection_72 (fun v M33 r33 H locs hw hp => ?_) (fun x ek M33 r33 H locs hw hE hp => gr_t B hexc hw hE (by decide) (by decide) (hF.trans (bnd_ex hp)))
        obtain ⟨v33, rfl, hp⟩ := hp
        have hF := hF.trans (bnd_ok hp)
        refine lv_bipush (v := 93) hx hb d_Mo_readSection_75 (by decide) ?_
        refine lv_icmp_ne hx hb d_Mo_readSection_77 rfl (fun h34 => ?_) (fun h34 => ?_)
        · skip
          have hF := hF.trans (if_neg h34)
          refine lv_aload_n hx hb d_Mo_readSection_110 rfl (lv_at hl 0 rfl) ?_
          refine lv_aload_n hx hb d_Mo_readSection_111 rfl (lv_at hl 0 rfl) ?_
          refine gf_Mo_text hx hb T hown hK hw rfl (kf_Mo_7 T) d_Mo_readSection_112 ?_
          refine lv_aload_n hx hb d_Mo_readSection_115 rfl (lv_at hl 0 rfl) ?_
          refine gf_Mo_at hx hb T hown hK hw rfl (kf_Mo_81 T) d_Mo_readSection_116 ?_
          have g35 := ng hno hF
          have hF := hF.trans (gd_yes g35)
          refine ga_Mo_text hx hb hK hw rfl g35 d_Mo_readSection_119 ?_
          refine gy_V B hl.1 hw (t_Mo_happen G _ _ ow fu (M33 102 (M33 103 0).toNatClampNeg) (nn hno hF)) (kd_Mo_happen T) (ki_Mo T) (km_Mo_159 T) (ka_Mo_happen T) (ks_Mo_happen T) ⟨by decide, by decide, by rfl⟩ (rv_Mo hK hw rfl) rfl (Nat.le_of_ble_eq_true rfl) ⟨by decide, by decide⟩ ⟨by decide, by decide⟩ d_Mo_readSection_120 (fun v M36 r36 H locs hw hp => ?_) (fun x ek M36 r36 H locs hw hE hp => gr_t B hexc hw hE (by decide) (by decide) (hF.trans (bnd_ex hp)))
          obtain ⟨rfl, hp⟩ := hp
          have hF := hF.trans (bnd_ok hp)
          refine lv_aload_n hx hb d_Mo_readSection_123 rfl (lv_at hl 0 rfl) ?_
          refine lv_dup hx hb d_Mo_readSection_124 rfl ?_
          refine gf_Mo_at hx hb T hown hK hw rfl (kf_Mo_81 T) d_Mo_readSection_125 ?_
          refine lv_iconst (v := 1) hx hb d_Mo_readSection_128 (by decide) ?_
          refine lv_iadd hx hb d_Mo_readSection_129 ?_
          refine pf_Mo_at hx hb T hown hK hw rfl (kf_Mo_81 T) d_Mo_readSection_130 (fun H locs hw => ?_)
          refine lv_goto hx hb d_Mo_readSection_133 rfl ?_
          exact ih  _ _ _ _ _ (gv_loc hl [0] rfl) hw hF
        · skip
          have hF := hF.trans (if_pos h34)
          refine lv_aload_n hx hb d_Mo_readSection_80 rfl (lv_at hl 0 rfl) ?_
          refine lv_aload_n hx hb d_Mo_readSection_81 rfl (lv_at hl 0 rfl) ?_
          refine gf_Mo_at hx hb T hown hK hw rfl (kf_Mo_81 T) d_Mo_readSection_82 ?_
          refine lv_iconst (v := 1) hx hb d_Mo_readSection_85 (by decide) ?_
          refine lv_iadd hx hb d_Mo_readSection_86 ?_
          refine gy_V B hl.1 hw (t_Mo_here G _ _ ow fu ((M33 103 0) + 1) (nn hno hF)) (kd_Mo_here T) (ki_Mo T) (km_Mo_84 T) (ka_Mo_here T) (ks_Mo_here T) ⟨by decide, by decide, by rfl⟩ (rv_Mo hK hw rfl) rfl (Nat.le_of_ble_eq_true rfl) ⟨by decide, by decide⟩ ⟨by decide, by decide⟩ d_Mo_readSection_87 (fun v M37 r37 H locs hw hp => ?_) (fun x ek M37 r37 H locs hw hE hp => gr_t B hexc hw hE (by decide) (by decide) (hF.trans (bnd_ex hp)))
          obtain ⟨v37, rfl, hp⟩ := hp
          have hF := hF.trans (bnd_ok hp)
          refine lv_bipush (v := 93) hx hb d_Mo_readSection_90 (by decide) ?_
          refine lv_icmp_ne hx hb d_Mo_readSection_92 rfl (fun h38 => ?_) (fun h38 => ?_)
          · skip
            have hF := hF.trans (if_neg h38)
            refine lv_aload_n hx hb d_Mo_readSection_110 rfl (lv_at hl 0 rfl) ?_
            refine lv_aload_n hx hb d_Mo_readSection_111 rfl (lv_at hl 0 rfl) ?_
            refine gf_Mo_text hx hb T hown hK hw rfl (kf_Mo_7 T) d_Mo_readSection_112 ?_
            refine lv_aload_n hx hb d_Mo_readSection_115 rfl (lv_at hl 0 rfl) ?_
            refine gf_Mo_at hx hb T hown hK hw rfl (kf_Mo_81 T) d_Mo_readSection_116 ?_
            have g39 := ng hno hF
            have hF := hF.trans (gd_yes g39)
            refine ga_Mo_text hx hb hK hw rfl g39 d_Mo_readSection_119 ?_
            refine gy_V B hl.1 hw (t_Mo_happen G _ _ ow fu (M37 102 (M37 103 0).toNatClampNeg) (nn hno hF)) (kd_Mo_happen T) (ki_Mo T) (km_Mo_159 T) (ka_Mo_happen T) (ks_Mo_happen T) ⟨by decide, by decide, by rfl⟩ (rv_Mo hK hw rfl) rfl (Nat.le_of_ble_eq_true rfl) ⟨by decide, by decide⟩ ⟨by decide, by decide⟩ d_Mo_readSection_120 (fun v M40 r40 H locs hw hp => ?_) (fun x ek M40 r40 H locs hw hE hp => gr_t B hexc hw hE (by decide) (by decide) (hF.trans (bnd_ex hp)))
            obtain ⟨rfl, hp⟩ := hp
            have hF := hF.trans (bnd_ok hp)
            refine lv_aload_n hx hb d_Mo_readSection_123 rfl (lv_at hl 0 rfl) ?_
            refine lv_dup hx hb d_Mo_readSection_124 rfl ?_
            refine gf_Mo_at hx hb T hown hK hw rfl (kf_Mo_81 T) d_Mo_readSection_125 ?_
            refine lv_iconst (v := 1) hx hb d_Mo_readSection_128 (by decide) ?_
            refine lv_iadd hx hb d_Mo_readSection_129 ?_
            refine pf_Mo_at hx hb T hown hK hw rfl (kf_Mo_81 T) d_Mo_readSection_130 (fun H locs hw => ?_)
            refine lv_goto hx hb d_Mo_readSection_133 rfl ?_
            exact ih  _ _ _ _ _ (gv_loc hl [0] rfl) hw hF
          · skip
            have hF := hF.trans (if_pos h38)
            refine lv_aload_n hx hb d_Mo_readSection_95 rfl (lv_at hl 0 rfl) ?_
            refine lv_aload_n hx hb d_Mo_readSection_96 rfl (lv_at hl 0 rfl) ?_
            refine gf_Mo_at hx hb T hown hK hw rfl (kf_Mo_81 T) d_Mo_readSection_97 ?_
            refine lv_iconst (v := 2) hx hb d_Mo_readSection_100 (by decide) ?_
            refine lv_iadd hx hb d_Mo_readSection_101 ?_
            refine gy_V B hl.1 hw (t_Mo_here G _ _ ow fu ((M37 103 0) + 2) (nn hno hF)) (kd_Mo_here T) (ki_Mo T) (km_Mo_84 T) (ka_Mo_here T) (ks_Mo_here T) ⟨by decide, by decide, by rfl⟩ (rv_Mo hK hw rfl) rfl (Nat.le_of_ble_eq_true rfl) ⟨by decide, by decide⟩ ⟨by decide, by decide⟩ d_Mo_readSection_102 (fun v M41 r41 H locs hw hp => ?_) (fun x ek M41 r41 H locs hw hE hp => gr_t B hexc hw hE (by decide) (by decide) (hF.trans (bnd_ex hp)))
            obtain ⟨v41, rfl, hp⟩ := hp
            have hF := hF.trans (bnd_ok hp)
            refine lv_bipush (v := 62) hx hb d_Mo_readSection_105 (by decide) ?_
            refine lv_icmp_eq hx hb d_Mo_readSection_107 rfl (fun h42 => ?_) (fun h42 => ?_)
            · skip
              have hF := hF.trans (if_pos h42)
              exact X136  _ _ _ _ _ (gv_loc hl [0] rfl) hw hF
            · skip
              have hF := hF.trans (if_neg h42)
              refine lv_aload_n hx hb d_Mo_readSection_110 rfl (lv_at hl 0 rfl) ?_
              refine lv_aload_n hx hb d_Mo_readSection_111 rfl (lv_at hl 0 rfl) ?_
              refine gf_Mo_text hx hb T hown hK hw rfl (kf_Mo_7 T) d_Mo_readSection_112 ?_
              refine lv_aload_n hx hb d_Mo_readSection_115 rfl (lv_at hl 0 rfl) ?_
              refine gf_Mo_at hx hb T hown hK hw rfl (kf_Mo_81 T) d_Mo_readSection_116 ?_
              have g43 := ng hno hF
              have hF := hF.trans (gd_yes g43)
              refine ga_Mo_text hx hb hK hw rfl g43 d_Mo_readSection_119 ?_
              refine gy_V B hl.1 hw (t_Mo_happen G _ _ ow fu (M41 102 (M41 103 0).toNatClampNeg) (nn hno hF)) (kd_Mo_happen T) (ki_Mo T) (km_Mo_159 T) (ka_Mo_happen T) (ks_Mo_happen T) ⟨by decide, by decide, by rfl⟩ (rv_Mo hK hw rfl) rfl (Nat.le_of_ble_eq_true rfl) ⟨by decide, by decide⟩ ⟨by decide, by decide⟩ d_Mo_readSection_120 (fun v M44 r44 H locs hw hp => ?_) (fun x ek M44 r44 H locs hw hE hp => gr_t B hexc hw hE (by decide) (by decide) (hF.trans (bnd_ex hp)))
              obtain ⟨rfl, hp⟩ := hp
              have hF := hF.trans (bnd_ok hp)
              refine lv_aload_n hx hb d_Mo_readSection_123 rfl (lv_at hl 0 rfl) ?_
              refine lv_dup hx hb d_Mo_readSection_124 rfl ?_
              refine gf_Mo_at hx hb T hown hK hw rfl (kf_Mo_81 T) d_Mo_readSection_125 ?_
              refine lv_iconst (v := 1) hx hb d_Mo_readSection_128 (by decide) ?_
              refine lv_iadd hx hb d_Mo_readSection_129 ?_
              refine pf_Mo_at hx hb T hown hK hw rfl (kf_Mo_81 T) d_Mo_readSection_130 (fun H locs hw => ?_)
              refine lv_goto hx hb d_Mo_readSection_133 rfl ?_
              exact ih  _ _ _ _ _ (gv_loc hl [0] rfl) hw hF
  have hF := F_Mo_readSection.eq_1 fu M r
  refine lv_aload_n hx hb d_Mo_readSection_0 rfl (lv_at hl 0 rfl) ?_
  refine lv_bipush (v := 67) hx hb d_Mo_readSection_1 (by decide) ?_
  refine gy_V B hl.1 hw (t_Mo_over G _ _ ow fu 67 (nn hno hF)) (kd_Mo_over T) (ki_Mo T) (km_Mo_95 T) (ka_Mo_over T) (ks_Mo_over T) ⟨by decide, by decide, by rfl⟩ (rv_Mo hK hw rfl) rfl (Nat.le_of_ble_eq_true rfl) ⟨by decide, by decide⟩ ⟨by decide, by decide⟩ d_Mo_readSection_3 (fun v M45 r45 H locs hw hp => ?_) (fun x ek M45 r45 H locs hw hE hp => gr_t B hexc hw hE (by decide) (by decide) (hF.trans (bnd_ex hp)))
  obtain ⟨v45, rfl, hp⟩ := hp
  have hF := hF.trans (bnd_ok hp)
  refine lv_if_eq hx hb d_Mo_readSection_6 rfl (fun h46 => ?_) (fun h46 => ?_)
  · skip
    have hF := hF.trans (if_pos h46)
    refine lv_iconst (v := 0) hx hb d_Mo_readSection_54 (by decide) ?_
    exact gr_z B hw (by rfl) d_Mo_readSection_55 ⟨_, rfl, hF⟩
  · skip
    have hF := hF.trans (if_neg h46)
    refine lv_aload_n hx hb d_Mo_readSection_9 rfl (lv_at hl 0 rfl) ?_
    refine lv_bipush (v := 68) hx hb d_Mo_readSection_10 (by decide) ?_
    refine gy_V B hl.1 hw (t_Mo_over G _ _ ow fu 68 (nn hno hF)) (kd_Mo_over T) (ki_Mo T) (km_Mo_95 T) (ka_Mo_over T) (ks_Mo_over T) ⟨by decide, by decide, by rfl⟩ (rv_Mo hK hw rfl) rfl (Nat.le_of_ble_eq_true rfl) ⟨by decide, by decide⟩ ⟨by decide, by decide⟩ d_Mo_readSection_12 (fun v M47 r47 H locs hw hp => ?_) (fun x ek M47 r47 H locs hw hE hp => gr_t B hexc hw hE (by decide) (by decide) (hF.trans (bnd_ex hp)))
    obtain ⟨v47, rfl, hp⟩ := hp
    have hF := hF.trans (bnd_ok hp)
    refine lv_if_eq hx hb d_Mo_readSection_15 rfl (fun h48 => ?_) (fun h48 => ?_)
    · skip
      have hF := hF.trans (if_pos h48)
      refine lv_iconst (v := 0) hx hb d_Mo_readSection_54 (by decide) ?_
      exact gr_z B hw (by rfl) d_Mo_readSection_55 ⟨_, rfl, hF⟩
    · skip
      have hF := hF.trans (if_neg h48)
      refine lv_aload_n hx hb d_Mo_readSection_18 rfl (lv_at hl 0 rfl) ?_
      refine lv_bipush (v := 65) hx hb d_Mo_readSection_19 (by decide) ?_
      refine gy_V B hl.1 hw (t_Mo_over G _ _ ow fu 65 (nn hno hF)) (kd_Mo_over T) (ki_Mo T) (km_Mo_95 T) (ka_Mo_over T) (ks_Mo_over T) ⟨by decide, by decide, by rfl⟩ (rv_Mo hK hw rfl) rfl (Nat.le_of_ble_eq_true rfl) ⟨by decide, by decide⟩ ⟨by decide, by decide⟩ d_Mo_readSection_21 (fun v M49 r49 H locs hw hp => ?_) (fun x ek M49 r49 H locs hw hE hp => gr_t B hexc hw hE (by decide) (by decide) (hF.trans (bnd_ex hp)))
      obtain ⟨v49, rfl, hp⟩ := hp
      have hF := hF.trans (bnd_ok hp)
      refine lv_if_eq hx hb d_Mo_readSection_24 rfl (fun h50 => ?_) (fun h50 => ?_)
      · skip
        have hF := hF.trans (if_pos h50)
        refine lv_iconst (v := 0) hx hb d_Mo_readSection_54 (by decide) ?_
        exact gr_z B hw (by rfl) d_Mo_readSection_55 ⟨_, rfl, hF⟩
      · skip
        have hF := hF.trans (if_neg h50)
        refine lv_aload_n hx hb d_Mo_readSection_27 rfl (lv_at hl 0 rfl) ?_
        refine lv_bipush (v := 84) hx hb d_Mo_readSection_28 (by decide) ?_
        refine gy_V B hl.1 hw (t_Mo_over G _ _ ow fu 84 (nn hno hF)) (kd_Mo_over T) (ki_Mo T) (km_Mo_95 T) (ka_Mo_over T) (ks_Mo_over T) ⟨by decide, by decide, by rfl⟩ (rv_Mo hK hw rfl) rfl (Nat.le_of_ble_eq_true rfl) ⟨by decide, by decide⟩ ⟨by decide, by decide⟩ d_Mo_readSection_30 (fun v M51 r51 H locs hw hp => ?_) (fun x ek M51 r51 H locs hw hE hp => gr_t B hexc hw hE (by decide) (by decide) (hF.trans (bnd_ex hp)))
        obtain ⟨v51, rfl, hp⟩ := hp
        have hF := hF.trans (bnd_ok hp)
        refine lv_if_eq hx hb d_Mo_readSection_33 rfl (fun h52 => ?_) (fun h52 => ?_)
        · skip
          have hF := hF.trans (if_pos h52)
          refine lv_iconst (v := 0) hx hb d_Mo_readSection_54 (by decide) ?_
          exact gr_z B hw (by rfl) d_Mo_readSection_55 ⟨_, rfl, hF⟩
        · skip
          have hF := hF.trans (if_neg h52)
          refine lv_aload_n hx hb d_Mo_readSection_36 rfl (lv_at hl 0 rfl) ?_
          refine lv_bipush (v := 65) hx hb d_Mo_readSection_37 (by decide) ?_
          refine gy_V B hl.1 hw (t_Mo_over G _ _ ow fu 65 (nn hno hF)) (kd_Mo_over T) (ki_Mo T) (km_Mo_95 T) (ka_Mo_over T) (ks_Mo_over T) ⟨by decide, by decide, by rfl⟩ (rv_Mo hK hw rfl) rfl (Nat.le_of_ble_eq_true rfl) ⟨by decide, by decide⟩ ⟨by decide, by decide⟩ d_Mo_readSection_39 (fun v M53 r53 H locs hw hp => ?_) (fun x ek M53 r53 H locs hw hE hp => gr_t B hexc hw hE (by decide) (by decide) (hF.trans (bnd_ex hp)))
          obtain ⟨v53, rfl, hp⟩ := hp
          have hF := hF.trans (bnd_ok hp)
          refine lv_if_eq hx hb d_Mo_readSection_42 rfl (fun h54 => ?_) (fun h54 => ?_)
          · skip
            have hF := hF.trans (if_pos h54)
            refine lv_iconst (v := 0) hx hb d_Mo_readSection_54 (by decide) ?_
            exact gr_z B hw (by rfl) d_Mo_readSection_55 ⟨_, rfl, hF⟩
          · skip
            have hF := hF.trans (if_neg h54)
            refine lv_aload_n hx hb d_Mo_readSection_45 rfl (lv_at hl 0 rfl) ?_
            refine lv_bipush (v := 91) hx hb d_Mo_readSection_46 (by decide) ?_
            refine gy_V B hl.1 hw (t_Mo_over G _ _ ow fu 91 (nn hno hF)) (kd_Mo_over T) (ki_Mo T) (km_Mo_95 T) (ka_Mo_over T) (ks_Mo_over T) ⟨by decide, by decide, by rfl⟩ (rv_Mo hK hw rfl) rfl (Nat.le_of_ble_eq_true rfl) ⟨by decide, by decide⟩ ⟨by decide, by decide⟩ d_Mo_readSection_48 (fun v M55 r55 H locs hw hp => ?_) (fun x ek M55 r55 H locs hw hE hp => gr_t B hexc hw hE (by decide) (by decide) (hF.trans (bnd_ex hp)))
            obtain ⟨v55, rfl, hp⟩ := hp
            have hF := hF.trans (bnd_ok hp)
            refine lv_if_ne hx hb d_Mo_readSection_51 rfl (fun h56 => ?_) (fun h56 => ?_)
            · skip
              have hF := hF.trans (if_neg h56)
              exact L56 fu  _ _ _ _ _ (gv_loc hl [0] rfl) hw hF
            · skip
              have hF := hF.trans (if_pos h56)
              refine lv_iconst (v := 0) hx hb d_Mo_readSection_54 (by decide) ?_
              exact gr_z B hw (by rfl) d_Mo_readSection_55 ⟨_, rfl, hF⟩
theorem d_Mo_readMarked_0 : decode b_Mo_readMarked 0 = .ok (.aload_n 0, 1) := by decide +kernel
theorem d_Mo_readMarked_1 : decode b_Mo_readMarked 1 = .ok (.aload_n 0, 1) := by decide +kernel
theorem d_Mo_readMarked_2 : decode b_Mo_readMarked 2 = .ok (.getfield 81, 3) := by decide +kernel
theorem d_Mo_readMarked_5 : decode b_Mo_readMarked 5 = .ok (.iconst 1, 1) := by decide +kernel
theorem d_Mo_readMarked_6 : decode b_Mo_readMarked 6 = .ok (.iadd, 1) := by decide +kernel
theorem d_Mo_readMarked_7 : decode b_Mo_readMarked 7 = .ok (.invokevirtual 84, 3) := by decide +kernel
theorem d_Mo_readMarked_10 : decode b_Mo_readMarked 10 = .ok (.istore_n 1, 1) := by decide +kernel
theorem d_Mo_readMarked_11 : decode b_Mo_readMarked 11 = .ok (.iload_n 1, 1) := by decide +kernel
theorem d_Mo_readMarked_12 : decode b_Mo_readMarked 12 = .ok (.bipush 47, 2) := by decide +kernel
theorem d_Mo_readMarked_14 : decode b_Mo_readMarked 14 = .ok (.if_icmp .ne 8, 3) := by decide +kernel
theorem d_Mo_readMarked_17 : decode b_Mo_readMarked 17 = .ok (.aload_n 0, 1) := by decide +kernel
theorem d_Mo_readMarked_18 : decode b_Mo_readMarked 18 = .ok (.invokevirtual 170, 3) := by decide +kernel
theorem d_Mo_readMarked_21 : decode b_Mo_readMarked 21 = .ok (.ireturn, 1) := by decide +kernel
theorem d_Mo_readMarked_22 : decode b_Mo_readMarked 22 = .ok (.iload_n 1, 1) := by decide +kernel
theorem d_Mo_readMarked_23 : decode b_Mo_readMarked 23 = .ok (.bipush 33, 2) := by decide +kernel
theorem d_Mo_readMarked_25 : decode b_Mo_readMarked 25 = .ok (.if_icmp .eq 8, 3) := by decide +kernel
theorem d_Mo_readMarked_28 : decode b_Mo_readMarked 28 = .ok (.aload_n 0, 1) := by decide +kernel
theorem d_Mo_readMarked_29 : decode b_Mo_readMarked 29 = .ok (.invokevirtual 173, 3) := by decide +kernel
theorem d_Mo_readMarked_32 : decode b_Mo_readMarked 32 = .ok (.ireturn, 1) := by decide +kernel
theorem d_Mo_readMarked_33 : decode b_Mo_readMarked 33 = .ok (.aload_n 0, 1) := by decide +kernel
theorem d_Mo_readMarked_34 : decode b_Mo_readMarked 34 = .ok (.dup, 1) := by decide +kernel
theorem d_Mo_readMarked_35 : decode b_Mo_readMarked 35 = .ok (.getfield 81, 3) := by decide +kernel
theorem d_Mo_readMarked_38 : decode b_Mo_readMarked 38 = .ok (.iconst 2, 1) := by decide +kernel
theorem d_Mo_readMarked_39 : decode b_Mo_readMarked 39 = .ok (.iadd, 1) := by decide +kernel
theorem d_Mo_readMarked_40 : decode b_Mo_readMarked 40 = .ok (.putfield 81, 3) := by decide +kernel
theorem d_Mo_readMarked_43 : decode b_Mo_readMarked 43 = .ok (.aload_n 0, 1) := by decide +kernel
theorem d_Mo_readMarked_44 : decode b_Mo_readMarked 44 = .ok (.aload_n 0, 1) := by decide +kernel
theorem d_Mo_readMarked_45 : decode b_Mo_readMarked 45 = .ok (.getfield 81, 3) := by decide +kernel
theorem d_Mo_readMarked_48 : decode b_Mo_readMarked 48 = .ok (.invokevirtual 84, 3) := by decide +kernel
theorem d_Mo_readMarked_51 : decode b_Mo_readMarked 51 = .ok (.bipush 91, 2) := by decide +kernel
theorem d_Mo_readMarked_53 : decode b_Mo_readMarked 53 = .ok (.if_icmp .ne 18, 3) := by decide +kernel
theorem d_Mo_readMarked_56 : decode b_Mo_readMarked 56 = .ok (.aload_n 0, 1) := by decide +kernel
theorem d_Mo_readMarked_57 : decode b_Mo_readMarked 57 = .ok (.dup, 1) := by decide +kernel
theorem d_Mo_readMarked_58 : decode b_Mo_readMarked 58 = .ok (.getfield 81, 3) := by decide +kernel
theorem d_Mo_readMarked_61 : decode b_Mo_readMarked 61 = .ok (.iconst 1, 1) := by decide +kernel
theorem d_Mo_readMarked_62 : decode b_Mo_readMarked 62 = .ok (.iadd, 1) := by decide +kernel
theorem d_Mo_readMarked_63 : decode b_Mo_readMarked 63 = .ok (.putfield 81, 3) := by decide +kernel
theorem d_Mo_readMarked_66 : decode b_Mo_readMarked 66 = .ok (.aload_n 0, 1) := by decide +kernel
theorem d_Mo_readMarked_67 : decode b_Mo_readMarked 67 = .ok (.invokevirtual 176, 3) := by decide +kernel
theorem d_Mo_readMarked_70 : decode b_Mo_readMarked 70 = .ok (.ireturn, 1) := by decide +kernel
theorem d_Mo_readMarked_71 : decode b_Mo_readMarked 71 = .ok (.aload_n 0, 1) := by decide +kernel
theorem d_Mo_readMarked_72 : decode b_Mo_readMarked 72 = .ok (.invokevirtual 102, 3) := by decide +kernel
theorem d_Mo_readMarked_75 : decode b_Mo_readMarked 75 = .ok (.ireturn, 1) := by decide +kernel
set_option maxHeartbeats 4000000 in
set_option maxRecDepth 100000 in
theorem t_Mo_readMarked {l : Launch} {s0 : State} {D : va_G} {aC : Nat → ClassId} {a0 : Array Value} (G : gG l s0 D aC a0) (M : gMem) (r : gRef) (ow : Int64) (fu : Nat)  (hno : F_Mo_readMarked fu M r ≠ .no) : gMet l s0 D aC y_Mo_readMarked (Cond.code y_Mo_readMarked b_Mo_readMarked 2 (some .boolean)) 7 164 0 0 [.ref (s0.heap.size + 383)] M r ow (qI (F_Mo_readMarked fu M r)) (qT (F_Mo_readMarked fu M r)) := by
  refine gm_of G (by decide) (Nat.le_of_ble_eq_true rfl) ?_
  intro p e s m below meth c ls B hexc hl hw
  have hx := B.1
  have hb := B.2.1
  have hown := B.2.2.2.2.2.1
  have T := B.2.2.2.2.2.2.1
  have hK := B.2.2.2.2.2.2.2.1
  have hF := F_Mo_readMarked.eq_1 fu M r
  refine lv_aload_n hx hb d_Mo_readMarked_0 rfl (lv_at hl 0 rfl) ?_
  refine lv_aload_n hx hb d_Mo_readMarked_1 rfl (lv_at hl 0 rfl) ?_
  refine gf_Mo_at hx hb T hown hK hw rfl (kf_Mo_81 T) d_Mo_readMarked_2 ?_
  refine lv_iconst (v := 1) hx hb d_Mo_readMarked_5 (by decide) ?_
  refine lv_iadd hx hb d_Mo_readMarked_6 ?_
  refine gy_V B hl.1 hw (t_Mo_here G _ _ ow fu ((M 103 0) + 1) (nn hno hF)) (kd_Mo_here T) (ki_Mo T) (km_Mo_84 T) (ka_Mo_here T) (ks_Mo_here T) ⟨by decide, by decide, by rfl⟩ (rv_Mo hK hw rfl) rfl (Nat.le_of_ble_eq_true rfl) ⟨by decide, by decide⟩ ⟨by decide, by decide⟩ d_Mo_readMarked_7 (fun v M14 r14 H locs hw hp => ?_) (fun x ek M14 r14 H locs hw hE hp => gr_t B hexc hw hE (by decide) (by decide) (hF.trans (bnd_ex hp)))
  obtain ⟨v14, rfl, hp⟩ := hp
  have hF := hF.trans (bnd_ok hp)
  refine lv_istore_n hx hb d_Mo_readMarked_10 rfl hl (by decide) rfl (fun ls hl => ?_)
  refine lv_iload_n hx hb d_Mo_readMarked_11 rfl (lv_at hl 0 rfl) ?_
  refine lv_bipush (v := 47) hx hb d_Mo_readMarked_12 (by decide) ?_
  refine lv_icmp_ne hx hb d_Mo_readMarked_14 rfl (fun h15 => ?_) (fun h15 => ?_)
  · skip
    have hF := hF.trans (if_neg h15)
    refine lv_iload_n hx hb d_Mo_readMarked_22 rfl (lv_at hl 0 rfl) ?_
    refine lv_bipush (v := 33) hx hb d_Mo_readMarked_23 (by decide) ?_
    refine lv_icmp_eq hx hb d_Mo_readMarked_25 rfl (fun h16 => ?_) (fun h16 => ?_)
    · skip
      have hF := hF.trans (if_pos h16)
      refine lv_aload_n hx hb d_Mo_readMarked_33 rfl (lv_at hl 1 rfl) ?_
      refine lv_dup hx hb d_Mo_readMarked_34 rfl ?_
      refine gf_Mo_at hx hb T hown hK hw rfl (kf_Mo_81 T) d_Mo_readMarked_35 ?_
      refine lv_iconst (v := 2) hx hb d_Mo_readMarked_38 (by decide) ?_
      refine lv_iadd hx hb d_Mo_readMarked_39 ?_
      refine pf_Mo_at hx hb T hown hK hw rfl (kf_Mo_81 T) d_Mo_readMarked_40 (fun H locs hw => ?_)
      refine lv_aload_n hx hb d_Mo_readMarked_43 rfl (lv_at hl 1 rfl) ?_
      refine lv_aload_n hx hb d_Mo_readMarked_44 rfl (lv_at hl 1 rfl) ?_
      refine gf_Mo_at hx hb T hown hK hw rfl (kf_Mo_81 T) d_Mo_readMarked_45 ?_
      refine gy_V B hl.1 hw (t_Mo_here G _ _ ow fu ((mS M14 103 0 ((M14 103 0) + 2)) 103 0) (nn hno hF)) (kd_Mo_here T) (ki_Mo T) (km_Mo_84 T) (ka_Mo_here T) (ks_Mo_here T) ⟨by decide, by decide, by rfl⟩ (rv_Mo hK hw rfl) rfl (Nat.le_of_ble_eq_true rfl) ⟨by decide, by decide⟩ ⟨by decide, by decide⟩ d_Mo_readMarked_48 (fun v M17 r17 H locs hw hp => ?_) (fun x ek M17 r17 H locs hw hE hp => gr_t B hexc hw hE (by decide) (by decide) (hF.trans (bnd_ex hp)))
      obtain ⟨v17, rfl, hp⟩ := hp
      have hF := hF.trans (bnd_ok hp)
      refine lv_bipush (v := 91) hx hb d_Mo_readMarked_51 (by decide) ?_
      refine lv_icmp_ne hx hb d_Mo_readMarked_53 rfl (fun h18 => ?_) (fun h18 => ?_)
      · skip
        have hF := hF.trans (if_neg h18)
        refine lv_aload_n hx hb d_Mo_readMarked_71 rfl (lv_at hl 1 rfl) ?_
        refine gy_V B hl.1 hw (t_Mo_comment G _ _ ow fu (nn hno hF)) (kd_Mo_comment T) (ki_Mo T) (km_Mo_102 T) (ka_Mo_comment T) (ks_Mo_comment T) ⟨by decide, by decide, by rfl⟩ (rv_Mo hK hw rfl) rfl (Nat.le_of_ble_eq_true rfl) ⟨by decide, by decide⟩ ⟨by decide, by decide⟩ d_Mo_readMarked_72 (fun v M19 r19 H locs hw hp => ?_) (fun x ek M19 r19 H locs hw hE hp => gr_t B hexc hw hE (by decide) (by decide) (hF.trans (bnd_ex hp)))
        obtain ⟨v19, rfl, hp⟩ := hp
        have hF := hF.trans (bnd_ok hp)
        have g20 := ng hno hF
        have hF := hF.trans (gd_yes g20)
        exact gr_z B hw g20 d_Mo_readMarked_75 ⟨_, rfl, hF⟩
      · skip
        have hF := hF.trans (if_pos h18)
        refine lv_aload_n hx hb d_Mo_readMarked_56 rfl (lv_at hl 1 rfl) ?_
        refine lv_dup hx hb d_Mo_readMarked_57 rfl ?_
        refine gf_Mo_at hx hb T hown hK hw rfl (kf_Mo_81 T) d_Mo_readMarked_58 ?_
        refine lv_iconst (v := 1) hx hb d_Mo_readMarked_61 (by decide) ?_
        refine lv_iadd hx hb d_Mo_readMarked_62 ?_
        refine pf_Mo_at hx hb T hown hK hw rfl (kf_Mo_81 T) d_Mo_readMarked_63 (fun H locs hw => ?_)
        refine lv_aload_n hx hb d_Mo_readMarked_66 rfl (lv_at hl 1 rfl) ?_
        refine gy_V B hl.1 hw (t_Mo_readSection G _ _ ow fu (nn hno hF)) (kd_Mo_readSection T) (ki_Mo T) (km_Mo_176 T) (ka_Mo_readSection T) (ks_Mo_readSection T) ⟨by decide, by decide, by rfl⟩ (rv_Mo hK hw rfl) rfl (Nat.le_of_ble_eq_true rfl) ⟨by decide, by decide⟩ ⟨by decide, by decide⟩ d_Mo_readMarked_67 (fun v M21 r21 H locs hw hp => ?_) (fun x ek M21 r21 H locs hw hE hp => gr_t B hexc hw hE (by decide) (by decide) (hF.trans (bnd_ex hp)))
        obtain ⟨v21, rfl, hp⟩ := hp
        have hF := hF.trans (bnd_ok hp)
        have g22 := ng hno hF
        have hF := hF.trans (gd_yes g22)
        exact gr_z B hw g22 d_Mo_readMarked_70 ⟨_, rfl, hF⟩
    · skip
      have hF := hF.trans (if_neg h16)
      refine lv_aload_n hx hb d_Mo_readMarked_28 rfl (lv_at hl 1 rfl) ?_
      refine gy_V B hl.1 hw (t_Mo_readTag G _ _ ow fu (nn hno hF)) (kd_Mo_readTag T) (ki_Mo T) (km_Mo_173 T) (ka_Mo_readTag T) (ks_Mo_readTag T) ⟨by decide, by decide, by rfl⟩ (rv_Mo hK hw rfl) rfl (Nat.le_of_ble_eq_true rfl) ⟨by decide, by decide⟩ ⟨by decide, by decide⟩ d_Mo_readMarked_29 (fun v M23 r23 H locs hw hp => ?_) (fun x ek M23 r23 H locs hw hE hp => gr_t B hexc hw hE (by decide) (by decide) (hF.trans (bnd_ex hp)))
      obtain ⟨v23, rfl, hp⟩ := hp
      have hF := hF.trans (bnd_ok hp)
      have g24 := ng hno hF
      have hF := hF.trans (gd_yes g24)
      exact gr_z B hw g24 d_Mo_readMarked_32 ⟨_, rfl, hF⟩
  · skip
    have hF := hF.trans (if_pos h15)
    refine lv_aload_n hx hb d_Mo_readMarked_17 rfl (lv_at hl 1 rfl) ?_
    refine gy_V B hl.1 hw (t_Mo_readEnd G _ _ ow fu (nn hno hF)) (kd_Mo_readEnd T) (ki_Mo T) (km_Mo_170 T) (ka_Mo_readEnd T) (ks_Mo_readEnd T) ⟨by decide, by decide, by rfl⟩ (rv_Mo hK hw rfl) rfl (Nat.le_of_ble_eq_true rfl) ⟨by decide, by decide⟩ ⟨by decide, by decide⟩ d_Mo_readMarked_18 (fun v M25 r25 H locs hw hp => ?_) (fun x ek M25 r25 H locs hw hE hp => gr_t B hexc hw hE (by decide) (by decide) (hF.trans (bnd_ex hp)))
    obtain ⟨v25, rfl, hp⟩ := hp
    have hF := hF.trans (bnd_ok hp)
    have g26 := ng hno hF
    have hF := hF.trans (gd_yes g26)
    exact gr_z B hw g26 d_Mo_readMarked_21 ⟨_, rfl, hF⟩
theorem d_Mo_readContent_0 : decode b_Mo_readContent 0 = .ok (.iconst 0, 1) := by decide +kernel
theorem d_Mo_readContent_1 : decode b_Mo_readContent 1 = .ok (.istore_n 1, 1) := by decide +kernel
theorem d_Mo_readContent_2 : decode b_Mo_readContent 2 = .ok (.aload_n 0, 1) := by decide +kernel
theorem d_Mo_readContent_3 : decode b_Mo_readContent 3 = .ok (.getfield 150, 3) := by decide +kernel
theorem d_Mo_readContent_6 : decode b_Mo_readContent 6 = .ok (.ifCond .lt 126, 3) := by decide +kernel
theorem d_Mo_readContent_9 : decode b_Mo_readContent 9 = .ok (.aload_n 0, 1) := by decide +kernel
theorem d_Mo_readContent_10 : decode b_Mo_readContent 10 = .ok (.aload_n 0, 1) := by decide +kernel
theorem d_Mo_readContent_11 : decode b_Mo_readContent 11 = .ok (.getfield 81, 3) := by decide +kernel
theorem d_Mo_readContent_14 : decode b_Mo_readContent 14 = .ok (.invokevirtual 84, 3) := by decide +kernel
theorem d_Mo_readContent_17 : decode b_Mo_readContent 17 = .ok (.istore_n 2, 1) := by decide +kernel
theorem d_Mo_readContent_18 : decode b_Mo_readContent 18 = .ok (.aload_n 0, 1) := by decide +kernel
theorem d_Mo_readContent_19 : decode b_Mo_readContent 19 = .ok (.getfield 81, 3) := by decide +kernel
theorem d_Mo_readContent_22 : decode b_Mo_readContent 22 = .ok (.istore_n 3, 1) := by decide +kernel
theorem d_Mo_readContent_23 : decode b_Mo_readContent 23 = .ok (.aload_n 0, 1) := by decide +kernel
theorem d_Mo_readContent_24 : decode b_Mo_readContent 24 = .ok (.getfield 81, 3) := by decide +kernel
theorem d_Mo_readContent_27 : decode b_Mo_readContent 27 = .ok (.aload_n 0, 1) := by decide +kernel
theorem d_Mo_readContent_28 : decode b_Mo_readContent 28 = .ok (.getfield 72, 3) := by decide +kernel
theorem d_Mo_readContent_31 : decode b_Mo_readContent 31 = .ok (.if_icmp .eq 14, 3) := by decide +kernel
theorem d_Mo_readContent_34 : decode b_Mo_readContent 34 = .ok (.iload_n 2, 1) := by decide +kernel
theorem d_Mo_readContent_35 : decode b_Mo_readContent 35 = .ok (.bipush 62, 2) := by decide +kernel
theorem d_Mo_readContent_37 : decode b_Mo_readContent 37 = .ok (.if_icmp .ne 18, 3) := by decide +kernel
theorem d_Mo_readContent_40 : decode b_Mo_readContent 40 = .ok (.iload_n 1, 1) := by decide +kernel
theorem d_Mo_readContent_41 : decode b_Mo_readContent 41 = .ok (.iconst 1, 1) := by decide +kernel
theorem d_Mo_readContent_42 : decode b_Mo_readContent 42 = .ok (.if_icmp .le 13, 3) := by decide +kernel
theorem d_Mo_readContent_45 : decode b_Mo_readContent 45 = .ok (.aload_n 0, 1) := by decide +kernel
theorem d_Mo_readContent_46 : decode b_Mo_readContent 46 = .ok (.iconst 1, 1) := by decide +kernel
theorem d_Mo_readContent_47 : decode b_Mo_readContent 47 = .ok (.aload_n 0, 1) := by decide +kernel
theorem d_Mo_readContent_48 : decode b_Mo_readContent 48 = .ok (.getfield 81, 3) := by decide +kernel
theorem d_Mo_readContent_51 : decode b_Mo_readContent 51 = .ok (.invokevirtual 88, 3) := by decide +kernel
theorem d_Mo_readContent_54 : decode b_Mo_readContent 54 = .ok (.ireturn, 1) := by decide +kernel
theorem d_Mo_readContent_55 : decode b_Mo_readContent 55 = .ok (.iload_n 2, 1) := by decide +kernel
theorem d_Mo_readContent_56 : decode b_Mo_readContent 56 = .ok (.bipush 93, 2) := by decide +kernel
theorem d_Mo_readContent_58 : decode b_Mo_readContent 58 = .ok (.if_icmp .ne 9, 3) := by decide +kernel
theorem d_Mo_readContent_61 : decode b_Mo_readContent 61 = .ok (.iload_n 1, 1) := by decide +kernel
theorem d_Mo_readContent_62 : decode b_Mo_readContent 62 = .ok (.iconst 1, 1) := by decide +kernel
theorem d_Mo_readContent_63 : decode b_Mo_readContent 63 = .ok (.iadd, 1) := by decide +kernel
theorem d_Mo_readContent_64 : decode b_Mo_readContent 64 = .ok (.goto 4, 3) := by decide +kernel
theorem d_Mo_readContent_67 : decode b_Mo_readContent 67 = .ok (.iconst 0, 1) := by decide +kernel
theorem d_Mo_readContent_68 : decode b_Mo_readContent 68 = .ok (.istore_n 1, 1) := by decide +kernel
theorem d_Mo_readContent_69 : decode b_Mo_readContent 69 = .ok (.iload_n 2, 1) := by decide +kernel
theorem d_Mo_readContent_70 : decode b_Mo_readContent 70 = .ok (.bipush 60, 2) := by decide +kernel
theorem d_Mo_readContent_72 : decode b_Mo_readContent 72 = .ok (.if_icmp .ne 12, 3) := by decide +kernel
theorem d_Mo_readContent_75 : decode b_Mo_readContent 75 = .ok (.aload_n 0, 1) := by decide +kernel
theorem d_Mo_readContent_76 : decode b_Mo_readContent 76 = .ok (.invokevirtual 179, 3) := by decide +kernel
theorem d_Mo_readContent_79 : decode b_Mo_readContent 79 = .ok (.ifCond .ne 50, 3) := by decide +kernel
theorem d_Mo_readContent_82 : decode b_Mo_readContent 82 = .ok (.iconst 0, 1) := by decide +kernel
theorem d_Mo_readContent_83 : decode b_Mo_readContent 83 = .ok (.ireturn, 1) := by decide +kernel
theorem d_Mo_readContent_84 : decode b_Mo_readContent 84 = .ok (.iload_n 2, 1) := by decide +kernel
theorem d_Mo_readContent_85 : decode b_Mo_readContent 85 = .ok (.bipush 38, 2) := by decide +kernel
theorem d_Mo_readContent_87 : decode b_Mo_readContent 87 = .ok (.if_icmp .ne 27, 3) := by decide +kernel
theorem d_Mo_readContent_90 : decode b_Mo_readContent 90 = .ok (.aload_n 0, 1) := by decide +kernel
theorem d_Mo_readContent_91 : decode b_Mo_readContent 91 = .ok (.invokevirtual 132, 3) := by decide +kernel
theorem d_Mo_readContent_94 : decode b_Mo_readContent 94 = .ok (.istore_n 2, 1) := by decide +kernel
theorem d_Mo_readContent_95 : decode b_Mo_readContent 95 = .ok (.iload_n 2, 1) := by decide +kernel
theorem d_Mo_readContent_96 : decode b_Mo_readContent 96 = .ok (.ifCond .ge 10, 3) := by decide +kernel
theorem d_Mo_readContent_99 : decode b_Mo_readContent 99 = .ok (.aload_n 0, 1) := by decide +kernel
theorem d_Mo_readContent_100 : decode b_Mo_readContent 100 = .ok (.iconst 3, 1) := by decide +kernel
theorem d_Mo_readContent_101 : decode b_Mo_readContent 101 = .ok (.iload_n 3, 1) := by decide +kernel
theorem d_Mo_readContent_102 : decode b_Mo_readContent 102 = .ok (.invokevirtual 88, 3) := by decide +kernel
theorem d_Mo_readContent_105 : decode b_Mo_readContent 105 = .ok (.ireturn, 1) := by decide +kernel
theorem d_Mo_readContent_106 : decode b_Mo_readContent 106 = .ok (.aload_n 0, 1) := by decide +kernel
theorem d_Mo_readContent_107 : decode b_Mo_readContent 107 = .ok (.iload_n 2, 1) := by decide +kernel
theorem d_Mo_readContent_108 : decode b_Mo_readContent 108 = .ok (.invokevirtual 159, 3) := by decide +kernel
theorem d_Mo_readContent_111 : decode b_Mo_readContent 111 = .ok (.goto 18, 3) := by decide +kernel
theorem d_Mo_readContent_114 : decode b_Mo_readContent 114 = .ok (.aload_n 0, 1) := by decide +kernel
theorem d_Mo_readContent_115 : decode b_Mo_readContent 115 = .ok (.iload_n 2, 1) := by decide +kernel
theorem d_Mo_readContent_116 : decode b_Mo_readContent 116 = .ok (.invokevirtual 159, 3) := by decide +kernel
theorem d_Mo_readContent_119 : decode b_Mo_readContent 119 = .ok (.aload_n 0, 1) := by decide +kernel
theorem d_Mo_readContent_120 : decode b_Mo_readContent 120 = .ok (.dup, 1) := by decide +kernel
theorem d_Mo_readContent_121 : decode b_Mo_readContent 121 = .ok (.getfield 81, 3) := by decide +kernel
theorem d_Mo_readContent_124 : decode b_Mo_readContent 124 = .ok (.iconst 1, 1) := by decide +kernel
theorem d_Mo_readContent_125 : decode b_Mo_readContent 125 = .ok (.iadd, 1) := by decide +kernel
theorem d_Mo_readContent_126 : decode b_Mo_readContent 126 = .ok (.putfield 81, 3) := by decide +kernel
theorem d_Mo_readContent_129 : decode b_Mo_readContent 129 = .ok (.goto (-127), 3) := by decide +kernel
theorem d_Mo_readContent_132 : decode b_Mo_readContent 132 = .ok (.iconst 1, 1) := by decide +kernel
theorem d_Mo_readContent_133 : decode b_Mo_readContent 133 = .ok (.ireturn, 1) := by decide +kernel
set_option maxHeartbeats 4000000 in
set_option maxRecDepth 100000 in
theorem t_Mo_readContent {l : Launch} {s0 : State} {D : va_G} {aC : Nat → ClassId} {a0 : Array Value} (G : gG l s0 D aC a0) (M : gMem) (r : gRef) (ow : Int64) (fu : Nat)  (hno : F_Mo_readContent fu M r ≠ .no) : gMet l s0 D aC y_Mo_readContent (Cond.code y_Mo_readContent b_Mo_readContent 4 (some .boolean)) 8 185 0 0 [.ref (s0.heap.size + 383)] M r ow (qI (F_Mo_readContent fu M r)) (qT (F_Mo_readContent fu M r)) := by
  refine gm_of G (by decide) (Nat.le_of_ble_eq_true rfl) ?_
  intro p e s m below meth c ls B hexc hl hw
  have hx := B.1
  have hb := B.2.1
  have hown := B.2.2.2.2.2.1
  have T := B.2.2.2.2.2.2.1
  have hK := B.2.2.2.2.2.2.2.1
  have X132 : ∀ (M1 : gMem) (r1 : gRef) (H : Heap) (locs : List Loc) (ls : Array Slot), lv_has ls 4 [] → gWd s0 D aC M1 r1 ow H locs → F_Mo_readContent fu M r = F_Mo_readContent_B132 fu M1 r1 → W p l e (gRm 8 185 0 0) s m ([.ref (s0.heap.size + 383)] : List Value).toArray below meth c H locs 0 0 (gt_Q below (gQ s0 D aC ow (qI (F_Mo_readContent fu M r)) (qT (F_Mo_readContent fu M r))) s 0 0 0 0 (fun q => s0.heap.size ≤ q)) (F0 m 132 ls []) := by
    intro  M1 r1 H locs ls hl hw hF
    have hF := hF.trans (F_Mo_readContent_B132.eq_1 _ _ _)
    refine lv_iconst (v := 1) hx hb d_Mo_readContent_132 (by decide) ?_
    exact gr_z B hw (by rfl) d_Mo_readContent_133 ⟨_, rfl, hF⟩
  have L2 : ∀ (d : Nat) (x1 : Int32) (M1 : gMem) (r1 : gRef) (H : Heap) (locs : List Loc) (ls : Array Slot), lv_has ls 4 [(1, .int x1), (0, .ref (s0.heap.size + 383))] → gWd s0 D aC M1 r1 ow H locs → F_Mo_readContent fu M r = F_Mo_readContent_L2 fu d x1 M1 r1 → W p l e (gRm 8 185 0 0) s m ([.ref (s0.heap.size + 383)] : List Value).toArray below meth c H locs 0 0 (gt_Q below (gQ s0 D aC ow (qI (F_Mo_readContent fu M r)) (qT (F_Mo_readContent fu M r))) s 0 0 0 0 (fun q => s0.heap.size ≤ q)) (F0 m 2 ls []) := by
    intro d
    induction d with
    | zero => intro x1 M1 r1 H locs ls hl hw hF; exact absurd hF hno
    | succ d ih =>
      intro x1 M1 r1 H locs ls hl hw hF
      have hF := hF.trans (F_Mo_readContent_L2.eq_2 _ _ _ _ _)
      refine lv_aload_n hx hb d_Mo_readContent_2 rfl (lv_at hl 1 rfl) ?_
      refine gf_Mo_open hx hb T hown hK hw rfl (kf_Mo_150 T) d_Mo_readContent_3 ?_
      refine lv_if_lt hx hb d_Mo_readContent_6 rfl (fun h52 => ?_) (fun h52 => ?_)
      · skip
        have hF := hF.trans (if_pos h52)
        exact X132  _ _ _ _ _ (gv_loc hl [] rfl) hw hF
      · skip
        have hF := hF.trans (if_neg h52)
        refine lv_aload_n hx hb d_Mo_readContent_9 rfl (lv_at hl 1 rfl) ?_
        refine lv_aload_n hx hb d_Mo_readContent_10 rfl (lv_at hl 1 rfl) ?_
        refine gf_Mo_at hx hb T hown hK hw rfl (kf_Mo_81 T) d_Mo_readContent_11 ?_
        refine gy_V B hl.1 hw (t_Mo_here G _ _ ow fu (M1 103 0) (nn hno hF)) (kd_Mo_here T) (ki_Mo T) (km_Mo_84 T) (ka_Mo_here T) (ks_Mo_here T) ⟨by decide, by decide, by rfl⟩ (rv_Mo hK hw rfl) rfl (Nat.le_of_ble_eq_true rfl) ⟨by decide, by decide⟩ ⟨by decide, by decide⟩ d_Mo_readContent_14 (fun v M53 r53 H locs hw hp => ?_) (fun x ek M53 r53 H locs hw hE hp => gr_t B hexc hw hE (by decide) (by decide) (hF.trans (bnd_ex hp)))
        obtain ⟨v53, rfl, hp⟩ := hp
        have hF := hF.trans (bnd_ok hp)
        refine lv_istore_n hx hb d_Mo_readContent_17 rfl hl (by decide) rfl (fun ls hl => ?_)
        refine lv_aload_n hx hb d_Mo_readContent_18 rfl (lv_at hl 2 rfl) ?_
        refine gf_Mo_at hx hb T hown hK hw rfl (kf_Mo_81 T) d_Mo_readContent_19 ?_
        refine lv_istore_n hx hb d_Mo_readContent_22 rfl hl (by decide) rfl (fun ls hl => ?_)
        refine lv_aload_n hx hb d_Mo_readContent_23 rfl (lv_at hl 3 rfl) ?_
        refine gf_Mo_at hx hb T hown hK hw rfl (kf_Mo_81 T) d_Mo_readContent_24 ?_
        refine lv_aload_n hx hb d_Mo_readContent_27 rfl (lv_at hl 3 rfl) ?_
        refine gf_Mo_typed hx hb T hown hK hw rfl (kf_Mo_72 T) d_Mo_readContent_28 ?_
        refine lv_icmp_eq hx hb d_Mo_readContent_31 rfl (fun h54 => ?_) (fun h54 => ?_)
        · skip
          have hF := hF.trans (if_pos h54)
          refine lv_aload_n hx hb d_Mo_readContent_45 rfl (lv_at hl 3 rfl) ?_
          refine lv_iconst (v := 1) hx hb d_Mo_readContent_46 (by decide) ?_
          refine lv_aload_n hx hb d_Mo_readContent_47 rfl (lv_at hl 3 rfl) ?_
          refine gf_Mo_at hx hb T hown hK hw rfl (kf_Mo_81 T) d_Mo_readContent_48 ?_
          refine gy_V B hl.1 hw (t_Mo_fail G _ _ ow fu 1 (M53 103 0) (nn hno hF)) (kd_Mo_fail T) (ki_Mo T) (km_Mo_88 T) (ka_Mo_fail T) (ks_Mo_fail T) ⟨by decide, by decide, by rfl⟩ (rv_Mo hK hw rfl) rfl (Nat.le_of_ble_eq_true rfl) ⟨by decide, by decide⟩ ⟨by decide, by decide⟩ d_Mo_readContent_51 (fun v M55 r55 H locs hw hp => ?_) (fun x ek M55 r55 H locs hw hE hp => gr_t B hexc hw hE (by decide) (by decide) (hF.trans (bnd_ex hp)))
          obtain ⟨v55, rfl, hp⟩ := hp
          have hF := hF.trans (bnd_ok hp)
          have g56 := ng hno hF
          have hF := hF.trans (gd_yes g56)
          exact gr_z B hw g56 d_Mo_readContent_54 ⟨_, rfl, hF⟩
        · skip
          have hF := hF.trans (if_neg h54)
          refine lv_iload_n hx hb d_Mo_readContent_34 rfl (lv_at hl 1 rfl) ?_
          refine lv_bipush (v := 62) hx hb d_Mo_readContent_35 (by decide) ?_
          refine lv_icmp_ne hx hb d_Mo_readContent_37 rfl (fun h57 => ?_) (fun h57 => ?_)
          · skip
            have hF := hF.trans (if_neg h57)
            refine lv_iload_n hx hb d_Mo_readContent_55 rfl (lv_at hl 1 rfl) ?_
            refine lv_bipush (v := 93) hx hb d_Mo_readContent_56 (by decide) ?_
            refine lv_icmp_ne hx hb d_Mo_readContent_58 rfl (fun h58 => ?_) (fun h58 => ?_)
            · skip
              have hF := hF.trans (if_neg h58)
              refine lv_iconst (v := 0) hx hb d_Mo_readContent_67 (by decide) ?_
              refine lv_istore_n hx hb d_Mo_readContent_68 rfl hl (by decide) rfl (fun ls hl => ?_)
              refine lv_iload_n hx hb d_Mo_readContent_69 rfl (lv_at hl 2 rfl) ?_
              refine lv_bipush (v := 60) hx hb d_Mo_readContent_70 (by decide) ?_
              refine lv_icmp_ne hx hb d_Mo_readContent_72 rfl (fun h59 => ?_) (fun h59 => ?_)
              · skip
                have hF := hF.trans (if_neg h59)
                refine lv_iload_n hx hb d_Mo_readContent_84 rfl (lv_at hl 2 rfl) ?_
                refine lv_bipush (v := 38) hx hb d_Mo_readContent_85 (by decide) ?_
                refine lv_icmp_ne hx hb d_Mo_readContent_87 rfl (fun h60 => ?_) (fun h60 => ?_)
                · skip
                  have hF := hF.trans (if_neg h60)
                  refine lv_aload_n hx hb d_Mo_readContent_114 rfl (lv_at hl 3 rfl) ?_
                  refine lv_iload_n hx hb d_Mo_readContent_115 rfl (lv_at hl 2 rfl) ?_
                  refine gy_V B hl.1 hw (t_Mo_happen G _ _ ow fu v53 (nn hno hF)) (kd_Mo_happen T) (ki_Mo T) (km_Mo_159 T) (ka_Mo_happen T) (ks_Mo_happen T) ⟨by decide, by decide, by rfl⟩ (rv_Mo hK hw rfl) rfl (Nat.le_of_ble_eq_true rfl) ⟨by decide, by decide⟩ ⟨by decide, by decide⟩ d_Mo_readContent_116 (fun v M61 r61 H locs hw hp => ?_) (fun x ek M61 r61 H locs hw hE hp => gr_t B hexc hw hE (by decide) (by decide) (hF.trans (bnd_ex hp)))
                  obtain ⟨rfl, hp⟩ := hp
                  have hF := hF.trans (bnd_ok hp)
                  refine lv_aload_n hx hb d_Mo_readContent_119 rfl (lv_at hl 3 rfl) ?_
                  refine lv_dup hx hb d_Mo_readContent_120 rfl ?_
                  refine gf_Mo_at hx hb T hown hK hw rfl (kf_Mo_81 T) d_Mo_readContent_121 ?_
                  refine lv_iconst (v := 1) hx hb d_Mo_readContent_124 (by decide) ?_
                  refine lv_iadd hx hb d_Mo_readContent_125 ?_
                  refine pf_Mo_at hx hb T hown hK hw rfl (kf_Mo_81 T) d_Mo_readContent_126 (fun H locs hw => ?_)
                  refine lv_goto hx hb d_Mo_readContent_129 rfl ?_
                  exact ih 0 _ _ _ _ _ (gv_loc hl [0, 3] rfl) hw hF
                · skip
                  have hF := hF.trans (if_pos h60)
                  refine lv_aload_n hx hb d_Mo_readContent_90 rfl (lv_at hl 3 rfl) ?_
                  refine gy_V B hl.1 hw (t_Mo_reference G _ _ ow fu (nn hno hF)) (kd_Mo_reference T) (ki_Mo T) (km_Mo_132 T) (ka_Mo_reference T) (ks_Mo_reference T) ⟨by decide, by decide, by rfl⟩ (rv_Mo hK hw rfl) rfl (Nat.le_of_ble_eq_true rfl) ⟨by decide, by decide⟩ ⟨by decide, by decide⟩ d_Mo_readContent_91 (fun v M62 r62 H locs hw hp => ?_) (fun x ek M62 r62 H locs hw hE hp => gr_t B hexc hw hE (by decide) (by decide) (hF.trans (bnd_ex hp)))
                  obtain ⟨v62, rfl, hp⟩ := hp
                  have hF := hF.trans (bnd_ok hp)
                  refine lv_istore_n hx hb d_Mo_readContent_94 rfl hl (by decide) rfl (fun ls hl => ?_)
                  refine lv_iload_n hx hb d_Mo_readContent_95 rfl (lv_at hl 0 rfl) ?_
                  refine lv_if_ge hx hb d_Mo_readContent_96 rfl (fun h63 => ?_) (fun h63 => ?_)
                  · skip
                    have hF := hF.trans (if_pos h63)
                    refine lv_aload_n hx hb d_Mo_readContent_106 rfl (lv_at hl 3 rfl) ?_
                    refine lv_iload_n hx hb d_Mo_readContent_107 rfl (lv_at hl 0 rfl) ?_
                    refine gy_V B hl.1 hw (t_Mo_happen G _ _ ow fu v62 (nn hno hF)) (kd_Mo_happen T) (ki_Mo T) (km_Mo_159 T) (ka_Mo_happen T) (ks_Mo_happen T) ⟨by decide, by decide, by rfl⟩ (rv_Mo hK hw rfl) rfl (Nat.le_of_ble_eq_true rfl) ⟨by decide, by decide⟩ ⟨by decide, by decide⟩ d_Mo_readContent_108 (fun v M64 r64 H locs hw hp => ?_) (fun x ek M64 r64 H locs hw hE hp => gr_t B hexc hw hE (by decide) (by decide) (hF.trans (bnd_ex hp)))
                    obtain ⟨rfl, hp⟩ := hp
                    have hF := hF.trans (bnd_ok hp)
                    refine lv_goto hx hb d_Mo_readContent_111 rfl ?_
                    refine lv_goto hx hb d_Mo_readContent_129 rfl ?_
                    exact ih 0 _ _ _ _ _ (gv_loc hl [1, 3] rfl) hw hF
                  · skip
                    have hF := hF.trans (if_neg h63)
                    refine lv_aload_n hx hb d_Mo_readContent_99 rfl (lv_at hl 3 rfl) ?_
                    refine lv_iconst (v := 3) hx hb d_Mo_readContent_100 (by decide) ?_
                    refine lv_iload_n hx hb d_Mo_readContent_101 rfl (lv_at hl 2 rfl) ?_
                    refine gy_V B hl.1 hw (t_Mo_fail G _ _ ow fu 3 (M53 103 0) (nn hno hF)) (kd_Mo_fail T) (ki_Mo T) (km_Mo_88 T) (ka_Mo_fail T) (ks_Mo_fail T) ⟨by decide, by decide, by rfl⟩ (rv_Mo hK hw rfl) rfl (Nat.le_of_ble_eq_true rfl) ⟨by decide, by decide⟩ ⟨by decide, by decide⟩ d_Mo_readContent_102 (fun v M65 r65 H locs hw hp => ?_) (fun x ek M65 r65 H locs hw hE hp => gr_t B hexc hw hE (by decide) (by decide) (hF.trans (bnd_ex hp)))
                    obtain ⟨v65, rfl, hp⟩ := hp
                    have hF := hF.trans (bnd_ok hp)
                    have g66 := ng hno hF
                    have hF := hF.trans (gd_yes g66)
                    exact gr_z B hw g66 d_Mo_readContent_105 ⟨_, rfl, hF⟩
              · skip
                have hF := hF.trans (if_pos h59)
                refine lv_aload_n hx hb d_Mo_readContent_75 rfl (lv_at hl 3 rfl) ?_
                refine gy_V B hl.1 hw (t_Mo_readMarked G _ _ ow fu (nn hno hF)) (kd_Mo_readMarked T) (ki_Mo T) (km_Mo_179 T) (ka_Mo_readMarked T) (ks_Mo_readMarked T) ⟨by decide, by decide, by rfl⟩ (rv_Mo hK hw rfl) rfl (Nat.le_of_ble_eq_true rfl) ⟨by decide, by decide⟩ ⟨by decide, by decide⟩ d_Mo_readContent_76 (fun v M67 r67 H locs hw hp => ?_) (fun x ek M67 r67 H locs hw hE hp => gr_t B hexc hw hE (by decide) (by decide) (hF.trans (bnd_ex hp)))
                obtain ⟨v67, rfl, hp⟩ := hp
                have hF := hF.trans (bnd_ok hp)
                refine lv_if_ne hx hb d_Mo_readContent_79 rfl (fun h68 => ?_) (fun h68 => ?_)
                · skip
                  have hF := hF.trans (if_neg h68)
                  refine lv_goto hx hb d_Mo_readContent_129 rfl ?_
                  exact ih 0 _ _ _ _ _ (gv_loc hl [0, 3] rfl) hw hF
                · skip
                  have hF := hF.trans (if_pos h68)
                  refine lv_iconst (v := 0) hx hb d_Mo_readContent_82 (by decide) ?_
                  exact gr_z B hw (by rfl) d_Mo_readContent_83 ⟨_, rfl, hF⟩
            · skip
              have hF := hF.trans (if_pos h58)
              refine lv_iload_n hx hb d_Mo_readContent_61 rfl (lv_at hl 2 rfl) ?_
              refine lv_iconst (v := 1) hx hb d_Mo_readContent_62 (by decide) ?_
              refine lv_iadd hx hb d_Mo_readContent_63 ?_
              refine lv_goto hx hb d_Mo_readContent_64 rfl ?_
              refine lv_istore_n hx hb d_Mo_readContent_68 rfl hl (by decide) rfl (fun ls hl => ?_)
              refine lv_iload_n hx hb d_Mo_readContent_69 rfl (lv_at hl 2 rfl) ?_
              refine lv_bipush (v := 60) hx hb d_Mo_readContent_70 (by decide) ?_
              refine lv_icmp_ne hx hb d_Mo_readContent_72 rfl (fun h69 => ?_) (fun h69 => ?_)
              · skip
                have hF := hF.trans (if_neg h69)
                refine lv_iload_n hx hb d_Mo_readContent_84 rfl (lv_at hl 2 rfl) ?_
                refine lv_bipush (v := 38) hx hb d_Mo_readContent_85 (by decide) ?_
                refine lv_icmp_ne hx hb d_Mo_readContent_87 rfl (fun h70 => ?_) (fun h70 => ?_)
                · skip
                  have hF := hF.trans (if_neg h70)
                  refine lv_aload_n hx hb d_Mo_readContent_114 rfl (lv_at hl 3 rfl) ?_
                  refine lv_iload_n hx hb d_Mo_readContent_115 rfl (lv_at hl 2 rfl) ?_
                  refine gy_V B hl.1 hw (t_Mo_happen G _ _ ow fu v53 (nn hno hF)) (kd_Mo_happen T) (ki_Mo T) (km_Mo_159 T) (ka_Mo_happen T) (ks_Mo_happen T) ⟨by decide, by decide, by rfl⟩ (rv_Mo hK hw rfl) rfl (Nat.le_of_ble_eq_true rfl) ⟨by decide, by decide⟩ ⟨by decide, by decide⟩ d_Mo_readContent_116 (fun v M71 r71 H locs hw hp => ?_) (fun x ek M71 r71 H locs hw hE hp => gr_t B hexc hw hE (by decide) (by decide) (hF.trans (bnd_ex hp)))
                  obtain ⟨rfl, hp⟩ := hp
                  have hF := hF.trans (bnd_ok hp)
                  refine lv_aload_n hx hb d_Mo_readContent_119 rfl (lv_at hl 3 rfl) ?_
                  refine lv_dup hx hb d_Mo_readContent_120 rfl ?_
                  refine gf_Mo_at hx hb T hown hK hw rfl (kf_Mo_81 T) d_Mo_readContent_121 ?_
                  refine lv_iconst (v := 1) hx hb d_Mo_readContent_124 (by decide) ?_
                  refine lv_iadd hx hb d_Mo_readContent_125 ?_
                  refine pf_Mo_at hx hb T hown hK hw rfl (kf_Mo_81 T) d_Mo_readContent_126 (fun H locs hw => ?_)
                  refine lv_goto hx hb d_Mo_readContent_129 rfl ?_
                  exact ih (x1 + 1) _ _ _ _ _ (gv_loc hl [0, 3] rfl) hw hF
                · skip
                  have hF := hF.trans (if_pos h70)
                  refine lv_aload_n hx hb d_Mo_readContent_90 rfl (lv_at hl 3 rfl) ?_
                  refine gy_V B hl.1 hw (t_Mo_reference G _ _ ow fu (nn hno hF)) (kd_Mo_reference T) (ki_Mo T) (km_Mo_132 T) (ka_Mo_reference T) (ks_Mo_reference T) ⟨by decide, by decide, by rfl⟩ (rv_Mo hK hw rfl) rfl (Nat.le_of_ble_eq_true rfl) ⟨by decide, by decide⟩ ⟨by decide, by decide⟩ d_Mo_readContent_91 (fun v M72 r72 H locs hw hp => ?_) (fun x ek M72 r72 H locs hw hE hp => gr_t B hexc hw hE (by decide) (by decide) (hF.trans (bnd_ex hp)))
                  obtain ⟨v72, rfl, hp⟩ := hp
                  have hF := hF.trans (bnd_ok hp)
                  refine lv_istore_n hx hb d_Mo_readContent_94 rfl hl (by decide) rfl (fun ls hl => ?_)
                  refine lv_iload_n hx hb d_Mo_readContent_95 rfl (lv_at hl 0 rfl) ?_
                  refine lv_if_ge hx hb d_Mo_readContent_96 rfl (fun h73 => ?_) (fun h73 => ?_)
                  · skip
                    have hF := hF.trans (if_pos h73)
                    refine lv_aload_n hx hb d_Mo_readContent_106 rfl (lv_at hl 3 rfl) ?_
                    refine lv_iload_n hx hb d_Mo_readContent_107 rfl (lv_at hl 0 rfl) ?_
                    refine gy_V B hl.1 hw (t_Mo_happen G _ _ ow fu v72 (nn hno hF)) (kd_Mo_happen T) (ki_Mo T) (km_Mo_159 T) (ka_Mo_happen T) (ks_Mo_happen T) ⟨by decide, by decide, by rfl⟩ (rv_Mo hK hw rfl) rfl (Nat.le_of_ble_eq_true rfl) ⟨by decide, by decide⟩ ⟨by decide, by decide⟩ d_Mo_readContent_108 (fun v M74 r74 H locs hw hp => ?_) (fun x ek M74 r74 H locs hw hE hp => gr_t B hexc hw hE (by decide) (by decide) (hF.trans (bnd_ex hp)))
                    obtain ⟨rfl, hp⟩ := hp
                    have hF := hF.trans (bnd_ok hp)
                    refine lv_goto hx hb d_Mo_readContent_111 rfl ?_
                    refine lv_goto hx hb d_Mo_readContent_129 rfl ?_
                    exact ih (x1 + 1) _ _ _ _ _ (gv_loc hl [1, 3] rfl) hw hF
                  · skip
                    have hF := hF.trans (if_neg h73)
                    refine lv_aload_n hx hb d_Mo_readContent_99 rfl (lv_at hl 3 rfl) ?_
                    refine lv_iconst (v := 3) hx hb d_Mo_readContent_100 (by decide) ?_
                    refine lv_iload_n hx hb d_Mo_readContent_101 rfl (lv_at hl 2 rfl) ?_
                    refine gy_V B hl.1 hw (t_Mo_fail G _ _ ow fu 3 (M53 103 0) (nn hno hF)) (kd_Mo_fail T) (ki_Mo T) (km_Mo_88 T) (ka_Mo_fail T) (ks_Mo_fail T) ⟨by decide, by decide, by rfl⟩ (rv_Mo hK hw rfl) rfl (Nat.le_of_ble_eq_true rfl) ⟨by decide, by decide⟩ ⟨by decide, by decide⟩ d_Mo_readContent_102 (fun v M75 r75 H locs hw hp => ?_) (fun x ek M75 r75 H locs hw hE hp => gr_t B hexc hw hE (by decide) (by decide) (hF.trans (bnd_ex hp)))
                    obtain ⟨v75, rfl, hp⟩ := hp
                    have hF := hF.trans (bnd_ok hp)
                    have g76 := ng hno hF
                    have hF := hF.trans (gd_yes g76)
                    exact gr_z B hw g76 d_Mo_readContent_105 ⟨_, rfl, hF⟩
              · skip
                have hF := hF.trans (if_pos h69)
                refine lv_aload_n hx hb d_Mo_readContent_75 rfl (lv_at hl 3 rfl) ?_
                refine gy_V B hl.1 hw (t_Mo_readMarked G _ _ ow fu (nn hno hF)) (kd_Mo_readMarked T) (ki_Mo T) (km_Mo_179 T) (ka_Mo_readMarked T) (ks_Mo_readMarked T) ⟨by decide, by decide, by rfl⟩ (rv_Mo hK hw rfl) rfl (Nat.le_of_ble_eq_true rfl) ⟨by decide, by decide⟩ ⟨by decide, by decide⟩ d_Mo_readContent_76 (fun v M77 r77 H locs hw hp => ?_) (fun x ek M77 r77 H locs hw hE hp => gr_t B hexc hw hE (by decide) (by decide) (hF.trans (bnd_ex hp)))
                obtain ⟨v77, rfl, hp⟩ := hp
                have hF := hF.trans (bnd_ok hp)
                refine lv_if_ne hx hb d_Mo_readContent_79 rfl (fun h78 => ?_) (fun h78 => ?_)
                · skip
                  have hF := hF.trans (if_neg h78)
                  refine lv_goto hx hb d_Mo_readContent_129 rfl ?_
                  exact ih (x1 + 1) _ _ _ _ _ (gv_loc hl [0, 3] rfl) hw hF
                · skip
                  have hF := hF.trans (if_pos h78)
                  refine lv_iconst (v := 0) hx hb d_Mo_readContent_82 (by decide) ?_
                  exact gr_z B hw (by rfl) d_Mo_readContent_83 ⟨_, rfl, hF⟩
          · skip
            have hF := hF.trans (if_pos h57)
            refine lv_iload_n hx hb d_Mo_readContent_40 rfl (lv_at hl 2 rfl) ?_
            refine lv_iconst (v := 1) hx hb d_Mo_readContent_41 (by decide) ?_
            refine lv_icmp_le hx hb d_Mo_readContent_42 rfl (fun h79 => ?_) (fun h79 => ?_)
            · skip
              have hF := hF.trans (if_pos h79)
              refine lv_iload_n hx hb d_Mo_readContent_55 rfl (lv_at hl 1 rfl) ?_
              refine lv_bipush (v := 93) hx hb d_Mo_readContent_56 (by decide) ?_
              refine lv_icmp_ne hx hb d_Mo_readContent_58 rfl (fun h80 => ?_) (fun h80 => ?_)
              · skip
                have hF := hF.trans (if_neg h80)
                refine lv_iconst (v := 0) hx hb d_Mo_readContent_67 (by decide) ?_
                refine lv_istore_n hx hb d_Mo_readContent_68 rfl hl (by decide) rfl (fun ls hl => ?_)
                refine lv_iload_n hx hb d_Mo_readContent_69 rfl (lv_at hl 2 rfl) ?_
                refine lv_bipush (v := 60) hx hb d_Mo_readContent_70 (by decide) ?_
                refine lv_icmp_ne hx hb d_Mo_readContent_72 rfl (fun h81 => ?_) (fun h81 => ?_)
                · skip
                  have hF := hF.trans (if_neg h81)
                  refine lv_iload_n hx hb d_Mo_readContent_84 rfl (lv_at hl 2 rfl) ?_
                  refine lv_bipush (v := 38) hx hb d_Mo_readContent_85 (by decide) ?_
                  refine lv_icmp_ne hx hb d_Mo_readContent_87 rfl (fun h82 => ?_) (fun h82 => ?_)
                  · skip
                    have hF := hF.trans (if_neg h82)
                    refine lv_aload_n hx hb d_Mo_readContent_114 rfl (lv_at hl 3 rfl) ?_
                    refine lv_iload_n hx hb d_Mo_readContent_115 rfl (lv_at hl 2 rfl) ?_
                    refine gy_V B hl.1 hw (t_Mo_happen G _ _ ow fu v53 (nn hno hF)) (kd_Mo_happen T) (ki_Mo T) (km_Mo_159 T) (ka_Mo_happen T) (ks_Mo_happen T) ⟨by decide, by decide, by rfl⟩ (rv_Mo hK hw rfl) rfl (Nat.le_of_ble_eq_true rfl) ⟨by decide, by decide⟩ ⟨by decide, by decide⟩ d_Mo_readContent_116 (fun v M83 r83 H locs hw hp => ?_) (fun x ek M83 r83 H locs hw hE hp => gr_t B hexc hw hE (by decide) (by decide) (hF.trans (bnd_ex hp)))
                    obtain ⟨rfl, hp⟩ := hp
                    have hF := hF.trans (bnd_ok hp)
                    refine lv_aload_n hx hb d_Mo_readContent_119 rfl (lv_at hl 3 rfl) ?_
                    refine lv_dup hx hb d_Mo_readContent_120 rfl ?_
                    refine gf_Mo_at hx hb T hown hK hw rfl (kf_Mo_81 T) d_Mo_readContent_121 ?_
                    refine lv_iconst (v := 1) hx hb d_Mo_readContent_124 (by decide) ?_
                    refine lv_iadd hx hb d_Mo_readContent_125 ?_
                    refine pf_Mo_at hx hb T hown hK hw rfl (kf_Mo_81 T) d_Mo_readContent_126 (fun H locs hw => ?_)
                    refine lv_goto hx hb d_Mo_readContent_129 rfl ?_
                    exact ih 0 _ _ _ _ _ (gv_loc hl [0, 3] rfl) hw hF
                  · skip
                    have hF := hF.trans (if_pos h82)
                    refine lv_aload_n hx hb d_Mo_readContent_90 rfl (lv_at hl 3 rfl) ?_
                    refine gy_V B hl.1 hw (t_Mo_reference G _ _ ow fu (nn hno hF)) (kd_Mo_reference T) (ki_Mo T) (km_Mo_132 T) (ka_Mo_reference T) (ks_Mo_reference T) ⟨by decide, by decide, by rfl⟩ (rv_Mo hK hw rfl) rfl (Nat.le_of_ble_eq_true rfl) ⟨by decide, by decide⟩ ⟨by decide, by decide⟩ d_Mo_readContent_91 (fun v M84 r84 H locs hw hp => ?_) (fun x ek M84 r84 H locs hw hE hp => gr_t B hexc hw hE (by decide) (by decide) (hF.trans (bnd_ex hp)))
                    obtain ⟨v84, rfl, hp⟩ := hp
                    have hF := hF.trans (bnd_ok hp)
                    refine lv_istore_n hx hb d_Mo_readContent_94 rfl hl (by decide) rfl (fun ls hl => ?_)
                    refine lv_iload_n hx hb d_Mo_readContent_95 rfl (lv_at hl 0 rfl) ?_
                    refine lv_if_ge hx hb d_Mo_readContent_96 rfl (fun h85 => ?_) (fun h85 => ?_)
                    · skip
                      have hF := hF.trans (if_pos h85)
                      refine lv_aload_n hx hb d_Mo_readContent_106 rfl (lv_at hl 3 rfl) ?_
                      refine lv_iload_n hx hb d_Mo_readContent_107 rfl (lv_at hl 0 rfl) ?_
                      refine gy_V B hl.1 hw (t_Mo_happen G _ _ ow fu v84 (nn hno hF)) (kd_Mo_happen T) (ki_Mo T) (km_Mo_159 T) (ka_Mo_happen T) (ks_Mo_happen T) ⟨by decide, by decide, by rfl⟩ (rv_Mo hK hw rfl) rfl (Nat.le_of_ble_eq_true rfl) ⟨by decide, by decide⟩ ⟨by decide, by decide⟩ d_Mo_readContent_108 (fun v M86 r86 H locs hw hp => ?_) (fun x ek M86 r86 H locs hw hE hp => gr_t B hexc hw hE (by decide) (by decide) (hF.trans (bnd_ex hp)))
                      obtain ⟨rfl, hp⟩ := hp
                      have hF := hF.trans (bnd_ok hp)
                      refine lv_goto hx hb d_Mo_readContent_111 rfl ?_
                      refine lv_goto hx hb d_Mo_readContent_129 rfl ?_
                      exact ih 0 _ _ _ _ _ (gv_loc hl [1, 3] rfl) hw hF
                    · skip
                      have hF := hF.trans (if_neg h85)
                      refine lv_aload_n hx hb d_Mo_readContent_99 rfl (lv_at hl 3 rfl) ?_
                      refine lv_iconst (v := 3) hx hb d_Mo_readContent_100 (by decide) ?_
                      refine lv_iload_n hx hb d_Mo_readContent_101 rfl (lv_at hl 2 rfl) ?_
                      refine gy_V B hl.1 hw (t_Mo_fail G _ _ ow fu 3 (M53 103 0) (nn hno hF)) (kd_Mo_fail T) (ki_Mo T) (km_Mo_88 T) (ka_Mo_fail T) (ks_Mo_fail T) ⟨by decide, by decide, by rfl⟩ (rv_Mo hK hw rfl) rfl (Nat.le_of_ble_eq_true rfl) ⟨by decide, by decide⟩ ⟨by decide, by decide⟩ d_Mo_readContent_102 (fun v M87 r87 H locs hw hp => ?_) (fun x ek M87 r87 H locs hw hE hp => gr_t B hexc hw hE (by decide) (by decide) (hF.trans (bnd_ex hp)))
                      obtain ⟨v87, rfl, hp⟩ := hp
                      have hF := hF.trans (bnd_ok hp)
                      have g88 := ng hno hF
                      have hF := hF.trans (gd_yes g88)
                      exact gr_z B hw g88 d_Mo_readContent_105 ⟨_, rfl, hF⟩
                · skip
                  have hF := hF.trans (if_pos h81)
                  refine lv_aload_n hx hb d_Mo_readContent_75 rfl (lv_at hl 3 rfl) ?_
                  refine gy_V B hl.1 hw (t_Mo_readMarked G _ _ ow fu (nn hno hF)) (kd_Mo_readMarked T) (ki_Mo T) (km_Mo_179 T) (ka_Mo_readMarked T) (ks_Mo_readMarked T) ⟨by decide, by decide, by rfl⟩ (rv_Mo hK hw rfl) rfl (Nat.le_of_ble_eq_true rfl) ⟨by decide, by decide⟩ ⟨by decide, by decide⟩ d_Mo_readContent_76 (fun v M89 r89 H locs hw hp => ?_) (fun x ek M89 r89 H locs hw hE hp => gr_t B hexc hw hE (by decide) (by decide) (hF.trans (bnd_ex hp)))
                  obtain ⟨v89, rfl, hp⟩ := hp
                  have hF := hF.trans (bnd_ok hp)
                  refine lv_if_ne hx hb d_Mo_readContent_79 rfl (fun h90 => ?_) (fun h90 => ?_)
                  · skip
                    have hF := hF.trans (if_neg h90)
                    refine lv_goto hx hb d_Mo_readContent_129 rfl ?_
                    exact ih 0 _ _ _ _ _ (gv_loc hl [0, 3] rfl) hw hF
                  · skip
                    have hF := hF.trans (if_pos h90)
                    refine lv_iconst (v := 0) hx hb d_Mo_readContent_82 (by decide) ?_
                    exact gr_z B hw (by rfl) d_Mo_readContent_83 ⟨_, rfl, hF⟩
              · skip
                have hF := hF.trans (if_pos h80)
                refine lv_iload_n hx hb d_Mo_readContent_61 rfl (lv_at hl 2 rfl) ?_
                refine lv_iconst (v := 1) hx hb d_Mo_readContent_62 (by decide) ?_
                refine lv_iadd hx hb d_Mo_readContent_63 ?_
                refine lv_goto hx hb d_Mo_readContent_64 rfl ?_
                refine lv_istore_n hx hb d_Mo_readContent_68 rfl hl (by decide) rfl (fun ls hl => ?_)
                refine lv_iload_n hx hb d_Mo_readContent_69 rfl (lv_at hl 2 rfl) ?_
                refine lv_bipush (v := 60) hx hb d_Mo_readContent_70 (by decide) ?_
                refine lv_icmp_ne hx hb d_Mo_readContent_72 rfl (fun h91 => ?_) (fun h91 => ?_)
                · skip
                  have hF := hF.trans (if_neg h91)
                  refine lv_iload_n hx hb d_Mo_readContent_84 rfl (lv_at hl 2 rfl) ?_
                  refine lv_bipush (v := 38) hx hb d_Mo_readContent_85 (by decide) ?_
                  refine lv_icmp_ne hx hb d_Mo_readContent_87 rfl (fun h92 => ?_) (fun h92 => ?_)
                  · skip
                    have hF := hF.trans (if_neg h92)
                    refine lv_aload_n hx hb d_Mo_readContent_114 rfl (lv_at hl 3 rfl) ?_
                    refine lv_iload_n hx hb d_Mo_readContent_115 rfl (lv_at hl 2 rfl) ?_
                    refine gy_V B hl.1 hw (t_Mo_happen G _ _ ow fu v53 (nn hno hF)) (kd_Mo_happen T) (ki_Mo T) (km_Mo_159 T) (ka_Mo_happen T) (ks_Mo_happen T) ⟨by decide, by decide, by rfl⟩ (rv_Mo hK hw rfl) rfl (Nat.le_of_ble_eq_true rfl) ⟨by decide, by decide⟩ ⟨by decide, by decide⟩ d_Mo_readContent_116 (fun v M93 r93 H locs hw hp => ?_) (fun x ek M93 r93 H locs hw hE hp => gr_t B hexc hw hE (by decide) (by decide) (hF.trans (bnd_ex hp)))
                    obtain ⟨rfl, hp⟩ := hp
                    have hF := hF.trans (bnd_ok hp)
                    refine lv_aload_n hx hb d_Mo_readContent_119 rfl (lv_at hl 3 rfl) ?_
                    refine lv_dup hx hb d_Mo_readContent_120 rfl ?_
                    refine gf_Mo_at hx hb T hown hK hw rfl (kf_Mo_81 T) d_Mo_readContent_121 ?_
                    refine lv_iconst (v := 1) hx hb d_Mo_readContent_124 (by decide) ?_
                    refine lv_iadd hx hb d_Mo_readContent_125 ?_
                    refine pf_Mo_at hx hb T hown hK hw rfl (kf_Mo_81 T) d_Mo_readContent_126 (fun H locs hw => ?_)
                    refine lv_goto hx hb d_Mo_readContent_129 rfl ?_
                    exact ih (x1 + 1) _ _ _ _ _ (gv_loc hl [0, 3] rfl) hw hF
                  · skip
                    have hF := hF.trans (if_pos h92)
                    refine lv_aload_n hx hb d_Mo_readContent_90 rfl (lv_at hl 3 rfl) ?_
                    refine gy_V B hl.1 hw (t_Mo_reference G _ _ ow fu (nn hno hF)) (kd_Mo_reference T) (ki_Mo T) (km_Mo_132 T) (ka_Mo_reference T) (ks_Mo_reference T) ⟨by decide, by decide, by rfl⟩ (rv_Mo hK hw rfl) rfl (Nat.le_of_ble_eq_true rfl) ⟨by decide, by decide⟩ ⟨by decide, by decide⟩ d_Mo_readContent_91 (fun v M94 r94 H locs hw hp => ?_) (fun x ek M94 r94 H locs hw hE hp => gr_t B hexc hw hE (by decide) (by decide) (hF.trans (bnd_ex hp)))
                    obtain ⟨v94, rfl, hp⟩ := hp
                    have hF := hF.trans (bnd_ok hp)
                    refine lv_istore_n hx hb d_Mo_readContent_94 rfl hl (by decide) rfl (fun ls hl => ?_)
                    refine lv_iload_n hx hb d_Mo_readContent_95 rfl (lv_at hl 0 rfl) ?_
                    refine lv_if_ge hx hb d_Mo_readContent_96 rfl (fun h95 => ?_) (fun h95 => ?_)
                    · skip
                      have hF := hF.trans (if_pos h95)
                      refine lv_aload_n hx hb d_Mo_readContent_106 rfl (lv_at hl 3 rfl) ?_
                      refine lv_iload_n hx hb d_Mo_readContent_107 rfl (lv_at hl 0 rfl) ?_
                      refine gy_V B hl.1 hw (t_Mo_happen G _ _ ow fu v94 (nn hno hF)) (kd_Mo_happen T) (ki_Mo T) (km_Mo_159 T) (ka_Mo_happen T) (ks_Mo_happen T) ⟨by decide, by decide, by rfl⟩ (rv_Mo hK hw rfl) rfl (Nat.le_of_ble_eq_true rfl) ⟨by decide, by decide⟩ ⟨by decide, by decide⟩ d_Mo_readContent_108 (fun v M96 r96 H locs hw hp => ?_) (fun x ek M96 r96 H locs hw hE hp => gr_t B hexc hw hE (by decide) (by decide) (hF.trans (bnd_ex hp)))
                      obtain ⟨rfl, hp⟩ := hp
                      have hF := hF.trans (bnd_ok hp)
                      refine lv_goto hx hb d_Mo_readContent_111 rfl ?_
                      refine lv_goto hx hb d_Mo_readContent_129 rfl ?_
                      exact ih (x1 + 1) _ _ _ _ _ (gv_loc hl [1, 3] rfl) hw hF
                    · skip
                      have hF := hF.trans (if_neg h95)
                      refine lv_aload_n hx hb d_Mo_readContent_99 rfl (lv_at hl 3 rfl) ?_
                      refine lv_iconst (v := 3) hx hb d_Mo_readContent_100 (by decide) ?_
                      refine lv_iload_n hx hb d_Mo_readContent_101 rfl (lv_at hl 2 rfl) ?_
                      refine gy_V B hl.1 hw (t_Mo_fail G _ _ ow fu 3 (M53 103 0) (nn hno hF)) (kd_Mo_fail T) (ki_Mo T) (km_Mo_88 T) (ka_Mo_fail T) (ks_Mo_fail T) ⟨by decide, by decide, by rfl⟩ (rv_Mo hK hw rfl) rfl (Nat.le_of_ble_eq_true rfl) ⟨by decide, by decide⟩ ⟨by decide, by decide⟩ d_Mo_readContent_102 (fun v M97 r97 H locs hw hp => ?_) (fun x ek M97 r97 H locs hw hE hp => gr_t B hexc hw hE (by decide) (by decide) (hF.trans (bnd_ex hp)))
                      obtain ⟨v97, rfl, hp⟩ := hp
                      have hF := hF.trans (bnd_ok hp)
                      have g98 := ng hno hF
                      have hF := hF.trans (gd_yes g98)
                      exact gr_z B hw g98 d_Mo_readContent_105 ⟨_, rfl, hF⟩
                · skip
                  have hF := hF.trans (if_pos h91)
                  refine lv_aload_n hx hb d_Mo_readContent_75 rfl (lv_at hl 3 rfl) ?_
                  refine gy_V B hl.1 hw (t_Mo_readMarked G _ _ ow fu (nn hno hF)) (kd_Mo_readMarked T) (ki_Mo T) (km_Mo_179 T) (ka_Mo_readMarked T) (ks_Mo_readMarked T) ⟨by decide, by decide, by rfl⟩ (rv_Mo hK hw rfl) rfl (Nat.le_of_ble_eq_true rfl) ⟨by decide, by decide⟩ ⟨by decide, by decide⟩ d_Mo_readContent_76 (fun v M99 r99 H locs hw hp => ?_) (fun x ek M99 r99 H locs hw hE hp => gr_t B hexc hw hE (by decide) (by decide) (hF.trans (bnd_ex hp)))
                  obtain ⟨v99, rfl, hp⟩ := hp
                  have hF := hF.trans (bnd_ok hp)
                  refine lv_if_ne hx hb d_Mo_readContent_79 rfl (fun h100 => ?_) (fun h100 => ?_)
                  · skip
                    have hF := hF.trans (if_neg h100)
                    refine lv_goto hx hb d_Mo_readContent_129 rfl ?_
                    exact ih (x1 + 1) _ _ _ _ _ (gv_loc hl [0, 3] rfl) hw hF
                  · skip
                    have hF := hF.trans (if_pos h100)
                    refine lv_iconst (v := 0) hx hb d_Mo_readContent_82 (by decide) ?_
                    exact gr_z B hw (by rfl) d_Mo_readContent_83 ⟨_, rfl, hF⟩
            · skip
              have hF := hF.trans (if_neg h79)
              refine lv_aload_n hx hb d_Mo_readContent_45 rfl (lv_at hl 3 rfl) ?_
              refine lv_iconst (v := 1) hx hb d_Mo_readContent_46 (by decide) ?_
              refine lv_aload_n hx hb d_Mo_readContent_47 rfl (lv_at hl 3 rfl) ?_
              refine gf_Mo_at hx hb T hown hK hw rfl (kf_Mo_81 T) d_Mo_readContent_48 ?_
              refine gy_V B hl.1 hw (t_Mo_fail G _ _ ow fu 1 (M53 103 0) (nn hno hF)) (kd_Mo_fail T) (ki_Mo T) (km_Mo_88 T) (ka_Mo_fail T) (ks_Mo_fail T) ⟨by decide, by decide, by rfl⟩ (rv_Mo hK hw rfl) rfl (Nat.le_of_ble_eq_true rfl) ⟨by decide, by decide⟩ ⟨by decide, by decide⟩ d_Mo_readContent_51 (fun v M101 r101 H locs hw hp => ?_) (fun x ek M101 r101 H locs hw hE hp => gr_t B hexc hw hE (by decide) (by decide) (hF.trans (bnd_ex hp)))
              obtain ⟨v101, rfl, hp⟩ := hp
              have hF := hF.trans (bnd_ok hp)
              have g102 := ng hno hF
              have hF := hF.trans (gd_yes g102)
              exact gr_z B hw g102 d_Mo_readContent_54 ⟨_, rfl, hF⟩
  have hF := F_Mo_readContent.eq_1 fu M r
  refine lv_iconst (v := 0) hx hb d_Mo_readContent_0 (by decide) ?_
  refine lv_istore_n hx hb d_Mo_readContent_1 rfl hl (by decide) rfl (fun ls hl => ?_)
  exact L2 fu 0 _ _ _ _ _ (gv_loc hl [0, 1] rfl) hw hF
theorem d_Mo_write_0 : decode b_Mo_write 0 = .ok (.aload_n 0, 1) := by decide +kernel
theorem d_Mo_write_1 : decode b_Mo_write 1 = .ok (.getfield 59, 3) := by decide +kernel
theorem d_Mo_write_4 : decode b_Mo_write 4 = .ok (.aload_n 0, 1) := by decide +kernel
theorem d_Mo_write_5 : decode b_Mo_write 5 = .ok (.getfield 221, 3) := by decide +kernel
theorem d_Mo_write_8 : decode b_Mo_write 8 = .ok (.iload_n 1, 1) := by decide +kernel
theorem d_Mo_write_9 : decode b_Mo_write 9 = .ok (.iastore, 1) := by decide +kernel
theorem d_Mo_write_10 : decode b_Mo_write 10 = .ok (.aload_n 0, 1) := by decide +kernel
theorem d_Mo_write_11 : decode b_Mo_write 11 = .ok (.dup, 1) := by decide +kernel
theorem d_Mo_write_12 : decode b_Mo_write 12 = .ok (.getfield 221, 3) := by decide +kernel
theorem d_Mo_write_15 : decode b_Mo_write 15 = .ok (.iconst 1, 1) := by decide +kernel
theorem d_Mo_write_16 : decode b_Mo_write 16 = .ok (.iadd, 1) := by decide +kernel
theorem d_Mo_write_17 : decode b_Mo_write 17 = .ok (.putfield 221, 3) := by decide +kernel
theorem d_Mo_write_20 : decode b_Mo_write 20 = .ok (.return_, 1) := by decide +kernel
set_option maxHeartbeats 4000000 in
set_option maxRecDepth 100000 in
theorem t_Mo_write {l : Launch} {s0 : State} {D : va_G} {aC : Nat → ClassId} {a0 : Array Value} (G : gG l s0 D aC a0) (M : gMem) (r : gRef) (ow : Int64) (fu : Nat) (x1 : Int32)  (hno : F_Mo_write fu x1 M r ≠ .no) : gMet l s0 D aC y_Mo_write (Cond.code y_Mo_write b_Mo_write 2 none) 0 0 0 0 [.ref (s0.heap.size + 383), .int x1] M r ow (qV (F_Mo_write fu x1 M r)) (qT (F_Mo_write fu x1 M r)) := by
  refine gm_of G (by decide) (Nat.le_of_ble_eq_true rfl) ?_
  intro p e s m below meth c ls B hexc hl hw
  have hx := B.1
  have hb := B.2.1
  have hown := B.2.2.2.2.2.1
  have T := B.2.2.2.2.2.2.1
  have hK := B.2.2.2.2.2.2.2.1
  have hF := F_Mo_write.eq_1 fu x1 M r
  refine lv_aload_n hx hb d_Mo_write_0 rfl (lv_at hl 0 rfl) ?_
  refine gf_Mo_written hx hb T hown hK hw rfl (kf_Mo_59 T) d_Mo_write_1 ?_
  refine lv_aload_n hx hb d_Mo_write_4 rfl (lv_at hl 0 rfl) ?_
  refine gf_Mo_formed hx hb T hown hK hw rfl (kf_Mo_221 T) d_Mo_write_5 ?_
  refine lv_iload_n hx hb d_Mo_write_8 rfl (lv_at hl 1 rfl) ?_
  have g2 := ng hno hF
  have hF := hF.trans (gd_yes g2)
  refine gs_Mo_written hx hb hK hw rfl g2 d_Mo_write_9 (fun H locs hw => ?_)
  refine lv_aload_n hx hb d_Mo_write_10 rfl (lv_at hl 0 rfl) ?_
  refine lv_dup hx hb d_Mo_write_11 rfl ?_
  refine gf_Mo_formed hx hb T hown hK hw rfl (kf_Mo_221 T) d_Mo_write_12 ?_
  refine lv_iconst (v := 1) hx hb d_Mo_write_15 (by decide) ?_
  refine lv_iadd hx hb d_Mo_write_16 ?_
  refine pf_Mo_formed hx hb T hown hK hw rfl (kf_Mo_221 T) d_Mo_write_17 (fun H locs hw => ?_)
  exact gr_v B hw d_Mo_write_20 ⟨rfl, hF⟩
theorem d_Mo_writeReference_0 : decode b_Mo_writeReference 0 = .ok (.aload_n 0, 1) := by decide +kernel
theorem d_Mo_writeReference_1 : decode b_Mo_writeReference 1 = .ok (.bipush 38, 2) := by decide +kernel
theorem d_Mo_writeReference_3 : decode b_Mo_writeReference 3 = .ok (.invokevirtual 224, 3) := by decide +kernel
theorem d_Mo_writeReference_6 : decode b_Mo_writeReference 6 = .ok (.aload_n 0, 1) := by decide +kernel
theorem d_Mo_writeReference_7 : decode b_Mo_writeReference 7 = .ok (.iload_n 1, 1) := by decide +kernel
theorem d_Mo_writeReference_8 : decode b_Mo_writeReference 8 = .ok (.invokevirtual 224, 3) := by decide +kernel
theorem d_Mo_writeReference_11 : decode b_Mo_writeReference 11 = .ok (.aload_n 0, 1) := by decide +kernel
theorem d_Mo_writeReference_12 : decode b_Mo_writeReference 12 = .ok (.iload_n 2, 1) := by decide +kernel
theorem d_Mo_writeReference_13 : decode b_Mo_writeReference 13 = .ok (.invokevirtual 224, 3) := by decide +kernel
theorem d_Mo_writeReference_16 : decode b_Mo_writeReference 16 = .ok (.iload_n 3, 1) := by decide +kernel
theorem d_Mo_writeReference_17 : decode b_Mo_writeReference 17 = .ok (.ifCond .le 8, 3) := by decide +kernel
theorem d_Mo_writeReference_20 : decode b_Mo_writeReference 20 = .ok (.aload_n 0, 1) := by decide +kernel
theorem d_Mo_writeReference_21 : decode b_Mo_writeReference 21 = .ok (.iload_n 3, 1) := by decide +kernel
theorem d_Mo_writeReference_22 : decode b_Mo_writeReference 22 = .ok (.invokevirtual 224, 3) := by decide +kernel
theorem d_Mo_writeReference_25 : decode b_Mo_writeReference 25 = .ok (.iload 4, 2) := by decide +kernel
theorem d_Mo_writeReference_27 : decode b_Mo_writeReference 27 = .ok (.ifCond .le 9, 3) := by decide +kernel
theorem d_Mo_writeReference_30 : decode b_Mo_writeReference 30 = .ok (.aload_n 0, 1) := by decide +kernel
theorem d_Mo_writeReference_31 : decode b_Mo_writeReference 31 = .ok (.iload 4, 2) := by decide +kernel
theorem d_Mo_writeReference_33 : decode b_Mo_writeReference 33 = .ok (.invokevirtual 224, 3) := by decide +kernel
theorem d_Mo_writeReference_36 : decode b_Mo_writeReference 36 = .ok (.aload_n 0, 1) := by decide +kernel
theorem d_Mo_writeReference_37 : decode b_Mo_writeReference 37 = .ok (.bipush 59, 2) := by decide +kernel
theorem d_Mo_writeReference_39 : decode b_Mo_writeReference 39 = .ok (.invokevirtual 224, 3) := by decide +kernel
theorem d_Mo_writeReference_42 : decode b_Mo_writeReference 42 = .ok (.return_, 1) := by decide +kernel
set_option maxHeartbeats 4000000 in
set_option maxRecDepth 100000 in
theorem t_Mo_writeReference {l : Launch} {s0 : State} {D : va_G} {aC : Nat → ClassId} {a0 : Array Value} (G : gG l s0 D aC a0) (M : gMem) (r : gRef) (ow : Int64) (fu : Nat) (x1 : Int32) (x2 : Int32) (x3 : Int32) (x4 : Int32)  (hno : F_Mo_writeReference fu x1 x2 x3 x4 M r ≠ .no) : gMet l s0 D aC y_Mo_writeReference (Cond.code y_Mo_writeReference b_Mo_writeReference 5 none) 1 21 0 0 [.ref (s0.heap.size + 383), .int x1, .int x2, .int x3, .int x4] M r ow (qV (F_Mo_writeReference fu x1 x2 x3 x4 M r)) (qT (F_Mo_writeReference fu x1 x2 x3 x4 M r)) := by
  refine gm_of G (by decide) (Nat.le_of_ble_eq_true rfl) ?_
  intro p e s m below meth c ls B hexc hl hw
  have hx := B.1
  have hb := B.2.1
  have hown := B.2.2.2.2.2.1
  have T := B.2.2.2.2.2.2.1
  have hK := B.2.2.2.2.2.2.2.1
  have hF := F_Mo_writeReference.eq_1 fu x1 x2 x3 x4 M r
  refine lv_aload_n hx hb d_Mo_writeReference_0 rfl (lv_at hl 0 rfl) ?_
  refine lv_bipush (v := 38) hx hb d_Mo_writeReference_1 (by decide) ?_
  refine gy_V B hl.1 hw (t_Mo_write G _ _ ow fu 38 (nn hno hF)) (kd_Mo_write T) (ki_Mo T) (km_Mo_224 T) (ka_Mo_write T) (ks_Mo_write T) ⟨by decide, by decide, by rfl⟩ (rv_Mo hK hw rfl) rfl (Nat.le_of_ble_eq_true rfl) ⟨by decide, by decide⟩ ⟨by decide, by decide⟩ d_Mo_writeReference_3 (fun v M14 r14 H locs hw hp => ?_) (fun x ek M14 r14 H locs hw hE hp => gr_t B hexc hw hE (by decide) (by decide) (hF.trans (bnd_ex hp)))
  obtain ⟨rfl, hp⟩ := hp
  have hF := hF.trans (bnd_ok hp)
  refine lv_aload_n hx hb d_Mo_writeReference_6 rfl (lv_at hl 0 rfl) ?_
  refine lv_iload_n hx hb d_Mo_writeReference_7 rfl (lv_at hl 1 rfl) ?_
  refine gy_V B hl.1 hw (t_Mo_write G _ _ ow fu x1 (nn hno hF)) (kd_Mo_write T) (ki_Mo T) (km_Mo_224 T) (ka_Mo_write T) (ks_Mo_write T) ⟨by decide, by decide, by rfl⟩ (rv_Mo hK hw rfl) rfl (Nat.le_of_ble_eq_true rfl) ⟨by decide, by decide⟩ ⟨by decide, by decide⟩ d_Mo_writeReference_8 (fun v M15 r15 H locs hw hp => ?_) (fun x ek M15 r15 H locs hw hE hp => gr_t B hexc hw hE (by decide) (by decide) (hF.trans (bnd_ex hp)))
  obtain ⟨rfl, hp⟩ := hp
  have hF := hF.trans (bnd_ok hp)
  refine lv_aload_n hx hb d_Mo_writeReference_11 rfl (lv_at hl 0 rfl) ?_
  refine lv_iload_n hx hb d_Mo_writeReference_12 rfl (lv_at hl 2 rfl) ?_
  refine gy_V B hl.1 hw (t_Mo_write G _ _ ow fu x2 (nn hno hF)) (kd_Mo_write T) (ki_Mo T) (km_Mo_224 T) (ka_Mo_write T) (ks_Mo_write T) ⟨by decide, by decide, by rfl⟩ (rv_Mo hK hw rfl) rfl (Nat.le_of_ble_eq_true rfl) ⟨by decide, by decide⟩ ⟨by decide, by decide⟩ d_Mo_writeReference_13 (fun v M16 r16 H locs hw hp => ?_) (fun x ek M16 r16 H locs hw hE hp => gr_t B hexc hw hE (by decide) (by decide) (hF.trans (bnd_ex hp)))
  obtain ⟨rfl, hp⟩ := hp
  have hF := hF.trans (bnd_ok hp)
  refine lv_iload_n hx hb d_Mo_writeReference_16 rfl (lv_at hl 3 rfl) ?_
  refine lv_if_le hx hb d_Mo_writeReference_17 rfl (fun h17 => ?_) (fun h17 => ?_)
  · skip
    have hF := hF.trans (if_pos h17)
    refine lv_iload hx hb d_Mo_writeReference_25 (lv_at hl 4 rfl) ?_
    refine lv_if_le hx hb d_Mo_writeReference_27 rfl (fun h18 => ?_) (fun h18 => ?_)
    · skip
      have hF := hF.trans (if_pos h18)
      refine lv_aload_n hx hb d_Mo_writeReference_36 rfl (lv_at hl 0 rfl) ?_
      refine lv_bipush (v := 59) hx hb d_Mo_writeReference_37 (by decide) ?_
      refine gy_V B hl.1 hw (t_Mo_write G _ _ ow fu 59 (nn hno hF)) (kd_Mo_write T) (ki_Mo T) (km_Mo_224 T) (ka_Mo_write T) (ks_Mo_write T) ⟨by decide, by decide, by rfl⟩ (rv_Mo hK hw rfl) rfl (Nat.le_of_ble_eq_true rfl) ⟨by decide, by decide⟩ ⟨by decide, by decide⟩ d_Mo_writeReference_39 (fun v M19 r19 H locs hw hp => ?_) (fun x ek M19 r19 H locs hw hE hp => gr_t B hexc hw hE (by decide) (by decide) (hF.trans (bnd_ex hp)))
      obtain ⟨rfl, hp⟩ := hp
      have hF := hF.trans (bnd_ok hp)
      exact gr_v B hw d_Mo_writeReference_42 ⟨rfl, hF⟩
    · skip
      have hF := hF.trans (if_neg h18)
      refine lv_aload_n hx hb d_Mo_writeReference_30 rfl (lv_at hl 0 rfl) ?_
      refine lv_iload hx hb d_Mo_writeReference_31 (lv_at hl 4 rfl) ?_
      refine gy_V B hl.1 hw (t_Mo_write G _ _ ow fu x4 (nn hno hF)) (kd_Mo_write T) (ki_Mo T) (km_Mo_224 T) (ka_Mo_write T) (ks_Mo_write T) ⟨by decide, by decide, by rfl⟩ (rv_Mo hK hw rfl) rfl (Nat.le_of_ble_eq_true rfl) ⟨by decide, by decide⟩ ⟨by decide, by decide⟩ d_Mo_writeReference_33 (fun v M20 r20 H locs hw hp => ?_) (fun x ek M20 r20 H locs hw hE hp => gr_t B hexc hw hE (by decide) (by decide) (hF.trans (bnd_ex hp)))
      obtain ⟨rfl, hp⟩ := hp
      have hF := hF.trans (bnd_ok hp)
      refine lv_aload_n hx hb d_Mo_writeReference_36 rfl (lv_at hl 0 rfl) ?_
      refine lv_bipush (v := 59) hx hb d_Mo_writeReference_37 (by decide) ?_
      refine gy_V B hl.1 hw (t_Mo_write G _ _ ow fu 59 (nn hno hF)) (kd_Mo_write T) (ki_Mo T) (km_Mo_224 T) (ka_Mo_write T) (ks_Mo_write T) ⟨by decide, by decide, by rfl⟩ (rv_Mo hK hw rfl) rfl (Nat.le_of_ble_eq_true rfl) ⟨by decide, by decide⟩ ⟨by decide, by decide⟩ d_Mo_writeReference_39 (fun v M21 r21 H locs hw hp => ?_) (fun x ek M21 r21 H locs hw hE hp => gr_t B hexc hw hE (by decide) (by decide) (hF.trans (bnd_ex hp)))
      obtain ⟨rfl, hp⟩ := hp
      have hF := hF.trans (bnd_ok hp)
      exact gr_v B hw d_Mo_writeReference_42 ⟨rfl, hF⟩
  · skip
    have hF := hF.trans (if_neg h17)
    refine lv_aload_n hx hb d_Mo_writeReference_20 rfl (lv_at hl 0 rfl) ?_
    refine lv_iload_n hx hb d_Mo_writeReference_21 rfl (lv_at hl 3 rfl) ?_
    refine gy_V B hl.1 hw (t_Mo_write G _ _ ow fu x3 (nn hno hF)) (kd_Mo_write T) (ki_Mo T) (km_Mo_224 T) (ka_Mo_write T) (ks_Mo_write T) ⟨by decide, by decide, by rfl⟩ (rv_Mo hK hw rfl) rfl (Nat.le_of_ble_eq_true rfl) ⟨by decide, by decide⟩ ⟨by decide, by decide⟩ d_Mo_writeReference_22 (fun v M22 r22 H locs hw hp => ?_) (fun x ek M22 r22 H locs hw hE hp => gr_t B hexc hw hE (by decide) (by decide) (hF.trans (bnd_ex hp)))
    obtain ⟨rfl, hp⟩ := hp
    have hF := hF.trans (bnd_ok hp)
    refine lv_iload hx hb d_Mo_writeReference_25 (lv_at hl 4 rfl) ?_
    refine lv_if_le hx hb d_Mo_writeReference_27 rfl (fun h23 => ?_) (fun h23 => ?_)
    · skip
      have hF := hF.trans (if_pos h23)
      refine lv_aload_n hx hb d_Mo_writeReference_36 rfl (lv_at hl 0 rfl) ?_
      refine lv_bipush (v := 59) hx hb d_Mo_writeReference_37 (by decide) ?_
      refine gy_V B hl.1 hw (t_Mo_write G _ _ ow fu 59 (nn hno hF)) (kd_Mo_write T) (ki_Mo T) (km_Mo_224 T) (ka_Mo_write T) (ks_Mo_write T) ⟨by decide, by decide, by rfl⟩ (rv_Mo hK hw rfl) rfl (Nat.le_of_ble_eq_true rfl) ⟨by decide, by decide⟩ ⟨by decide, by decide⟩ d_Mo_writeReference_39 (fun v M24 r24 H locs hw hp => ?_) (fun x ek M24 r24 H locs hw hE hp => gr_t B hexc hw hE (by decide) (by decide) (hF.trans (bnd_ex hp)))
      obtain ⟨rfl, hp⟩ := hp
      have hF := hF.trans (bnd_ok hp)
      exact gr_v B hw d_Mo_writeReference_42 ⟨rfl, hF⟩
    · skip
      have hF := hF.trans (if_neg h23)
      refine lv_aload_n hx hb d_Mo_writeReference_30 rfl (lv_at hl 0 rfl) ?_
      refine lv_iload hx hb d_Mo_writeReference_31 (lv_at hl 4 rfl) ?_
      refine gy_V B hl.1 hw (t_Mo_write G _ _ ow fu x4 (nn hno hF)) (kd_Mo_write T) (ki_Mo T) (km_Mo_224 T) (ka_Mo_write T) (ks_Mo_write T) ⟨by decide, by decide, by rfl⟩ (rv_Mo hK hw rfl) rfl (Nat.le_of_ble_eq_true rfl) ⟨by decide, by decide⟩ ⟨by decide, by decide⟩ d_Mo_writeReference_33 (fun v M25 r25 H locs hw hp => ?_) (fun x ek M25 r25 H locs hw hE hp => gr_t B hexc hw hE (by decide) (by decide) (hF.trans (bnd_ex hp)))
      obtain ⟨rfl, hp⟩ := hp
      have hF := hF.trans (bnd_ok hp)
      refine lv_aload_n hx hb d_Mo_writeReference_36 rfl (lv_at hl 0 rfl) ?_
      refine lv_bipush (v := 59) hx hb d_Mo_writeReference_37 (by decide) ?_
      refine gy_V B hl.1 hw (t_Mo_write G _ _ ow fu 59 (nn hno hF)) (kd_Mo_write T) (ki_Mo T) (km_Mo_224 T) (ka_Mo_write T) (ks_Mo_write T) ⟨by decide, by decide, by rfl⟩ (rv_Mo hK hw rfl) rfl (Nat.le_of_ble_eq_true rfl) ⟨by decide, by decide⟩ ⟨by decide, by decide⟩ d_Mo_writeReference_39 (fun v M26 r26 H locs hw hp => ?_) (fun x ek M26 r26 H locs hw hE hp => gr_t B hexc hw hE (by decide) (by decide) (hF.trans (bnd_ex hp)))
      obtain ⟨rfl, hp⟩ := hp
      have hF := hF.trans (bnd_ok hp)
      exact gr_v B hw d_Mo_writeReference_42 ⟨rfl, hF⟩
theorem d_Mo_writeSafe_0 : decode b_Mo_writeSafe 0 = .ok (.iload_n 1, 1) := by decide +kernel
theorem d_Mo_writeSafe_1 : decode b_Mo_writeSafe 1 = .ok (.bipush 38, 2) := by decide +kernel
theorem d_Mo_writeSafe_3 : decode b_Mo_writeSafe 3 = .ok (.if_icmp .ne 17, 3) := by decide +kernel
theorem d_Mo_writeSafe_6 : decode b_Mo_writeSafe 6 = .ok (.aload_n 0, 1) := by decide +kernel
theorem d_Mo_writeSafe_7 : decode b_Mo_writeSafe 7 = .ok (.bipush 97, 2) := by decide +kernel
theorem d_Mo_writeSafe_9 : decode b_Mo_writeSafe 9 = .ok (.bipush 109, 2) := by decide +kernel
theorem d_Mo_writeSafe_11 : decode b_Mo_writeSafe 11 = .ok (.bipush 112, 2) := by decide +kernel
theorem d_Mo_writeSafe_13 : decode b_Mo_writeSafe 13 = .ok (.iconst 0, 1) := by decide +kernel
theorem d_Mo_writeSafe_14 : decode b_Mo_writeSafe 14 = .ok (.invokevirtual 227, 3) := by decide +kernel
theorem d_Mo_writeSafe_17 : decode b_Mo_writeSafe 17 = .ok (.goto 99, 3) := by decide +kernel
theorem d_Mo_writeSafe_20 : decode b_Mo_writeSafe 20 = .ok (.iload_n 1, 1) := by decide +kernel
theorem d_Mo_writeSafe_21 : decode b_Mo_writeSafe 21 = .ok (.bipush 60, 2) := by decide +kernel
theorem d_Mo_writeSafe_23 : decode b_Mo_writeSafe 23 = .ok (.if_icmp .ne 16, 3) := by decide +kernel
theorem d_Mo_writeSafe_26 : decode b_Mo_writeSafe 26 = .ok (.aload_n 0, 1) := by decide +kernel
theorem d_Mo_writeSafe_27 : decode b_Mo_writeSafe 27 = .ok (.bipush 108, 2) := by decide +kernel
theorem d_Mo_writeSafe_29 : decode b_Mo_writeSafe 29 = .ok (.bipush 116, 2) := by decide +kernel
theorem d_Mo_writeSafe_31 : decode b_Mo_writeSafe 31 = .ok (.iconst 0, 1) := by decide +kernel
theorem d_Mo_writeSafe_32 : decode b_Mo_writeSafe 32 = .ok (.iconst 0, 1) := by decide +kernel
theorem d_Mo_writeSafe_33 : decode b_Mo_writeSafe 33 = .ok (.invokevirtual 227, 3) := by decide +kernel
theorem d_Mo_writeSafe_36 : decode b_Mo_writeSafe 36 = .ok (.goto 80, 3) := by decide +kernel
theorem d_Mo_writeSafe_39 : decode b_Mo_writeSafe 39 = .ok (.iload_n 1, 1) := by decide +kernel
theorem d_Mo_writeSafe_40 : decode b_Mo_writeSafe 40 = .ok (.bipush 62, 2) := by decide +kernel
theorem d_Mo_writeSafe_42 : decode b_Mo_writeSafe 42 = .ok (.if_icmp .ne 20, 3) := by decide +kernel
theorem d_Mo_writeSafe_45 : decode b_Mo_writeSafe 45 = .ok (.iload_n 2, 1) := by decide +kernel
theorem d_Mo_writeSafe_46 : decode b_Mo_writeSafe 46 = .ok (.ifCond .ne 16, 3) := by decide +kernel
theorem d_Mo_writeSafe_49 : decode b_Mo_writeSafe 49 = .ok (.aload_n 0, 1) := by decide +kernel
theorem d_Mo_writeSafe_50 : decode b_Mo_writeSafe 50 = .ok (.bipush 103, 2) := by decide +kernel
theorem d_Mo_writeSafe_52 : decode b_Mo_writeSafe 52 = .ok (.bipush 116, 2) := by decide +kernel
theorem d_Mo_writeSafe_54 : decode b_Mo_writeSafe 54 = .ok (.iconst 0, 1) := by decide +kernel
theorem d_Mo_writeSafe_55 : decode b_Mo_writeSafe 55 = .ok (.iconst 0, 1) := by decide +kernel
theorem d_Mo_writeSafe_56 : decode b_Mo_writeSafe 56 = .ok (.invokevirtual 227, 3) := by decide +kernel
theorem d_Mo_writeSafe_59 : decode b_Mo_writeSafe 59 = .ok (.goto 57, 3) := by decide +kernel
theorem d_Mo_writeSafe_62 : decode b_Mo_writeSafe 62 = .ok (.iload_n 1, 1) := by decide +kernel
theorem d_Mo_writeSafe_63 : decode b_Mo_writeSafe 63 = .ok (.bipush 34, 2) := by decide +kernel
theorem d_Mo_writeSafe_65 : decode b_Mo_writeSafe 65 = .ok (.if_icmp .ne 22, 3) := by decide +kernel
theorem d_Mo_writeSafe_68 : decode b_Mo_writeSafe 68 = .ok (.iload_n 2, 1) := by decide +kernel
theorem d_Mo_writeSafe_69 : decode b_Mo_writeSafe 69 = .ok (.ifCond .eq 18, 3) := by decide +kernel
theorem d_Mo_writeSafe_72 : decode b_Mo_writeSafe 72 = .ok (.aload_n 0, 1) := by decide +kernel
theorem d_Mo_writeSafe_73 : decode b_Mo_writeSafe 73 = .ok (.bipush 113, 2) := by decide +kernel
theorem d_Mo_writeSafe_75 : decode b_Mo_writeSafe 75 = .ok (.bipush 117, 2) := by decide +kernel
theorem d_Mo_writeSafe_77 : decode b_Mo_writeSafe 77 = .ok (.bipush 111, 2) := by decide +kernel
theorem d_Mo_writeSafe_79 : decode b_Mo_writeSafe 79 = .ok (.bipush 116, 2) := by decide +kernel
theorem d_Mo_writeSafe_81 : decode b_Mo_writeSafe 81 = .ok (.invokevirtual 227, 3) := by decide +kernel
theorem d_Mo_writeSafe_84 : decode b_Mo_writeSafe 84 = .ok (.goto 32, 3) := by decide +kernel
theorem d_Mo_writeSafe_87 : decode b_Mo_writeSafe 87 = .ok (.iload_n 1, 1) := by decide +kernel
theorem d_Mo_writeSafe_88 : decode b_Mo_writeSafe 88 = .ok (.bipush 10, 2) := by decide +kernel
theorem d_Mo_writeSafe_90 : decode b_Mo_writeSafe 90 = .ok (.if_icmp .ne 21, 3) := by decide +kernel
theorem d_Mo_writeSafe_93 : decode b_Mo_writeSafe 93 = .ok (.iload_n 2, 1) := by decide +kernel
theorem d_Mo_writeSafe_94 : decode b_Mo_writeSafe 94 = .ok (.ifCond .eq 17, 3) := by decide +kernel
theorem d_Mo_writeSafe_97 : decode b_Mo_writeSafe 97 = .ok (.aload_n 0, 1) := by decide +kernel
theorem d_Mo_writeSafe_98 : decode b_Mo_writeSafe 98 = .ok (.bipush 35, 2) := by decide +kernel
theorem d_Mo_writeSafe_100 : decode b_Mo_writeSafe 100 = .ok (.bipush 120, 2) := by decide +kernel
theorem d_Mo_writeSafe_102 : decode b_Mo_writeSafe 102 = .ok (.bipush 65, 2) := by decide +kernel
theorem d_Mo_writeSafe_104 : decode b_Mo_writeSafe 104 = .ok (.iconst 0, 1) := by decide +kernel
theorem d_Mo_writeSafe_105 : decode b_Mo_writeSafe 105 = .ok (.invokevirtual 227, 3) := by decide +kernel
theorem d_Mo_writeSafe_108 : decode b_Mo_writeSafe 108 = .ok (.goto 8, 3) := by decide +kernel
theorem d_Mo_writeSafe_111 : decode b_Mo_writeSafe 111 = .ok (.aload_n 0, 1) := by decide +kernel
theorem d_Mo_writeSafe_112 : decode b_Mo_writeSafe 112 = .ok (.iload_n 1, 1) := by decide +kernel
theorem d_Mo_writeSafe_113 : decode b_Mo_writeSafe 113 = .ok (.invokevirtual 224, 3) := by decide +kernel
theorem d_Mo_writeSafe_116 : decode b_Mo_writeSafe 116 = .ok (.return_, 1) := by decide +kernel
set_option maxHeartbeats 4000000 in
set_option maxRecDepth 100000 in
theorem t_Mo_writeSafe {l : Launch} {s0 : State} {D : va_G} {aC : Nat → ClassId} {a0 : Array Value} (G : gG l s0 D aC a0) (M : gMem) (r : gRef) (ow : Int64) (fu : Nat) (x1 : Int32) (x2 : Int32)  (hno : F_Mo_writeSafe fu x1 x2 M r ≠ .no) : gMet l s0 D aC y_Mo_writeSafe (Cond.code y_Mo_writeSafe b_Mo_writeSafe 3 none) 2 45 0 0 [.ref (s0.heap.size + 383), .int x1, .int x2] M r ow (qV (F_Mo_writeSafe fu x1 x2 M r)) (qT (F_Mo_writeSafe fu x1 x2 M r)) := by
  refine gm_of G (by decide) (Nat.le_of_ble_eq_true rfl) ?_
  intro p e s m below meth c ls B hexc hl hw
  have hx := B.1
  have hb := B.2.1
  have hown := B.2.2.2.2.2.1
  have T := B.2.2.2.2.2.2.1
  have hK := B.2.2.2.2.2.2.2.1
  have hF := F_Mo_writeSafe.eq_1 fu x1 x2 M r
  refine lv_iload_n hx hb d_Mo_writeSafe_0 rfl (lv_at hl 1 rfl) ?_
  refine lv_bipush (v := 38) hx hb d_Mo_writeSafe_1 (by decide) ?_
  refine lv_icmp_ne hx hb d_Mo_writeSafe_3 rfl (fun h34 => ?_) (fun h34 => ?_)
  · skip
    have hF := hF.trans (if_neg h34)
    refine lv_iload_n hx hb d_Mo_writeSafe_20 rfl (lv_at hl 1 rfl) ?_
    refine lv_bipush (v := 60) hx hb d_Mo_writeSafe_21 (by decide) ?_
    refine lv_icmp_ne hx hb d_Mo_writeSafe_23 rfl (fun h35 => ?_) (fun h35 => ?_)
    · skip
      have hF := hF.trans (if_neg h35)
      refine lv_iload_n hx hb d_Mo_writeSafe_39 rfl (lv_at hl 1 rfl) ?_
      refine lv_bipush (v := 62) hx hb d_Mo_writeSafe_40 (by decide) ?_
      refine lv_icmp_ne hx hb d_Mo_writeSafe_42 rfl (fun h36 => ?_) (fun h36 => ?_)
      · skip
        have hF := hF.trans (if_neg h36)
        refine lv_iload_n hx hb d_Mo_writeSafe_62 rfl (lv_at hl 1 rfl) ?_
        refine lv_bipush (v := 34) hx hb d_Mo_writeSafe_63 (by decide) ?_
        refine lv_icmp_ne hx hb d_Mo_writeSafe_65 rfl (fun h37 => ?_) (fun h37 => ?_)
        · skip
          have hF := hF.trans (if_neg h37)
          refine lv_iload_n hx hb d_Mo_writeSafe_87 rfl (lv_at hl 1 rfl) ?_
          refine lv_bipush (v := 10) hx hb d_Mo_writeSafe_88 (by decide) ?_
          refine lv_icmp_ne hx hb d_Mo_writeSafe_90 rfl (fun h38 => ?_) (fun h38 => ?_)
          · skip
            have hF := hF.trans (if_neg h38)
            refine lv_aload_n hx hb d_Mo_writeSafe_111 rfl (lv_at hl 0 rfl) ?_
            refine lv_iload_n hx hb d_Mo_writeSafe_112 rfl (lv_at hl 1 rfl) ?_
            refine gy_V B hl.1 hw (t_Mo_write G _ _ ow fu x1 (nn hno hF)) (kd_Mo_write T) (ki_Mo T) (km_Mo_224 T) (ka_Mo_write T) (ks_Mo_write T) ⟨by decide, by decide, by rfl⟩ (rv_Mo hK hw rfl) rfl (Nat.le_of_ble_eq_true rfl) ⟨by decide, by decide⟩ ⟨by decide, by decide⟩ d_Mo_writeSafe_113 (fun v M39 r39 H locs hw hp => ?_) (fun x ek M39 r39 H locs hw hE hp => gr_t B hexc hw hE (by decide) (by decide) (hF.trans (bnd_ex hp)))
            obtain ⟨rfl, hp⟩ := hp
            have hF := hF.trans (bnd_ok hp)
            exact gr_v B hw d_Mo_writeSafe_116 ⟨rfl, hF⟩
          · skip
            have hF := hF.trans (if_pos h38)
            refine lv_iload_n hx hb d_Mo_writeSafe_93 rfl (lv_at hl 2 rfl) ?_
            refine lv_if_eq hx hb d_Mo_writeSafe_94 rfl (fun h40 => ?_) (fun h40 => ?_)
            · skip
              have hF := hF.trans (if_pos h40)
              refine lv_aload_n hx hb d_Mo_writeSafe_111 rfl (lv_at hl 0 rfl) ?_
              refine lv_iload_n hx hb d_Mo_writeSafe_112 rfl (lv_at hl 1 rfl) ?_
              refine gy_V B hl.1 hw (t_Mo_write G _ _ ow fu x1 (nn hno hF)) (kd_Mo_write T) (ki_Mo T) (km_Mo_224 T) (ka_Mo_write T) (ks_Mo_write T) ⟨by decide, by decide, by rfl⟩ (rv_Mo hK hw rfl) rfl (Nat.le_of_ble_eq_true rfl) ⟨by decide, by decide⟩ ⟨by decide, by decide⟩ d_Mo_writeSafe_113 (fun v M41 r41 H locs hw hp => ?_) (fun x ek M41 r41 H locs hw hE hp => gr_t B hexc hw hE (by decide) (by decide) (hF.trans (bnd_ex hp)))
              obtain ⟨rfl, hp⟩ := hp
              have hF := hF.trans (bnd_ok hp)
              exact gr_v B hw d_Mo_writeSafe_116 ⟨rfl, hF⟩
            · skip
              have hF := hF.trans (if_neg h40)
              refine lv_aload_n hx hb d_Mo_writeSafe_97 rfl (lv_at hl 0 rfl) ?_
              refine lv_bipush (v := 35) hx hb d_Mo_writeSafe_98 (by decide) ?_
              refine lv_bipush (v := 120) hx hb d_Mo_writeSafe_100 (by decide) ?_
              refine lv_bipush (v := 65) hx hb d_Mo_writeSafe_102 (by decide) ?_
              refine lv_iconst (v := 0) hx hb d_Mo_writeSafe_104 (by decide) ?_
              refine gy_V B hl.1 hw (t_Mo_writeReference G _ _ ow fu 35 120 65 0 (nn hno hF)) (kd_Mo_writeReference T) (ki_Mo T) (km_Mo_227 T) (ka_Mo_writeReference T) (ks_Mo_writeReference T) ⟨by decide, by decide, by rfl⟩ (rv_Mo hK hw rfl) rfl (Nat.le_of_ble_eq_true rfl) ⟨by decide, by decide⟩ ⟨by decide, by decide⟩ d_Mo_writeSafe_105 (fun v M42 r42 H locs hw hp => ?_) (fun x ek M42 r42 H locs hw hE hp => gr_t B hexc hw hE (by decide) (by decide) (hF.trans (bnd_ex hp)))
              obtain ⟨rfl, hp⟩ := hp
              have hF := hF.trans (bnd_ok hp)
              refine lv_goto hx hb d_Mo_writeSafe_108 rfl ?_
              exact gr_v B hw d_Mo_writeSafe_116 ⟨rfl, hF⟩
        · skip
          have hF := hF.trans (if_pos h37)
          refine lv_iload_n hx hb d_Mo_writeSafe_68 rfl (lv_at hl 2 rfl) ?_
          refine lv_if_eq hx hb d_Mo_writeSafe_69 rfl (fun h43 => ?_) (fun h43 => ?_)
          · skip
            have hF := hF.trans (if_pos h43)
            refine lv_iload_n hx hb d_Mo_writeSafe_87 rfl (lv_at hl 1 rfl) ?_
            refine lv_bipush (v := 10) hx hb d_Mo_writeSafe_88 (by decide) ?_
            refine lv_icmp_ne hx hb d_Mo_writeSafe_90 rfl (fun h44 => ?_) (fun h44 => ?_)
            · skip
              have hF := hF.trans (if_neg h44)
              refine lv_aload_n hx hb d_Mo_writeSafe_111 rfl (lv_at hl 0 rfl) ?_
              refine lv_iload_n hx hb d_Mo_writeSafe_112 rfl (lv_at hl 1 rfl) ?_
              refine gy_V B hl.1 hw (t_Mo_write G _ _ ow fu x1 (nn hno hF)) (kd_Mo_write T) (ki_Mo T) (km_Mo_224 T) (ka_Mo_write T) (ks_Mo_write T) ⟨by decide, by decide, by rfl⟩ (rv_Mo hK hw rfl) rfl (Nat.le_of_ble_eq_true rfl) ⟨by decide, by decide⟩ ⟨by decide, by decide⟩ d_Mo_writeSafe_113 (fun v M45 r45 H locs hw hp => ?_) (fun x ek M45 r45 H locs hw hE hp => gr_t B hexc hw hE (by decide) (by decide) (hF.trans (bnd_ex hp)))
              obtain ⟨rfl, hp⟩ := hp
              have hF := hF.trans (bnd_ok hp)
              exact gr_v B hw d_Mo_writeSafe_116 ⟨rfl, hF⟩
            · skip
              have hF := hF.trans (if_pos h44)
              refine lv_iload_n hx hb d_Mo_writeSafe_93 rfl (lv_at hl 2 rfl) ?_
              refine lv_if_eq hx hb d_Mo_writeSafe_94 rfl (fun h46 => ?_) (fun h46 => ?_)
              · skip
                have hF := hF.trans (if_pos h46)
                refine lv_aload_n hx hb d_Mo_writeSafe_111 rfl (lv_at hl 0 rfl) ?_
                refine lv_iload_n hx hb d_Mo_writeSafe_112 rfl (lv_at hl 1 rfl) ?_
                refine gy_V B hl.1 hw (t_Mo_write G _ _ ow fu x1 (nn hno hF)) (kd_Mo_write T) (ki_Mo T) (km_Mo_224 T) (ka_Mo_write T) (ks_Mo_write T) ⟨by decide, by decide, by rfl⟩ (rv_Mo hK hw rfl) rfl (Nat.le_of_ble_eq_true rfl) ⟨by decide, by decide⟩ ⟨by decide, by decide⟩ d_Mo_writeSafe_113 (fun v M47 r47 H locs hw hp => ?_) (fun x ek M47 r47 H locs hw hE hp => gr_t B hexc hw hE (by decide) (by decide) (hF.trans (bnd_ex hp)))
                obtain ⟨rfl, hp⟩ := hp
                have hF := hF.trans (bnd_ok hp)
                exact gr_v B hw d_Mo_writeSafe_116 ⟨rfl, hF⟩
              · skip
                have hF := hF.trans (if_neg h46)
                refine lv_aload_n hx hb d_Mo_writeSafe_97 rfl (lv_at hl 0 rfl) ?_
                refine lv_bipush (v := 35) hx hb d_Mo_writeSafe_98 (by decide) ?_
                refine lv_bipush (v := 120) hx hb d_Mo_writeSafe_100 (by decide) ?_
                refine lv_bipush (v := 65) hx hb d_Mo_writeSafe_102 (by decide) ?_
                refine lv_iconst (v := 0) hx hb d_Mo_writeSafe_104 (by decide) ?_
                refine gy_V B hl.1 hw (t_Mo_writeReference G _ _ ow fu 35 120 65 0 (nn hno hF)) (kd_Mo_writeReference T) (ki_Mo T) (km_Mo_227 T) (ka_Mo_writeReference T) (ks_Mo_writeReference T) ⟨by decide, by decide, by rfl⟩ (rv_Mo hK hw rfl) rfl (Nat.le_of_ble_eq_true rfl) ⟨by decide, by decide⟩ ⟨by decide, by decide⟩ d_Mo_writeSafe_105 (fun v M48 r48 H locs hw hp => ?_) (fun x ek M48 r48 H locs hw hE hp => gr_t B hexc hw hE (by decide) (by decide) (hF.trans (bnd_ex hp)))
                obtain ⟨rfl, hp⟩ := hp
                have hF := hF.trans (bnd_ok hp)
                refine lv_goto hx hb d_Mo_writeSafe_108 rfl ?_
                exact gr_v B hw d_Mo_writeSafe_116 ⟨rfl, hF⟩
          · skip
            have hF := hF.trans (if_neg h43)
            refine lv_aload_n hx hb d_Mo_writeSafe_72 rfl (lv_at hl 0 rfl) ?_
            refine lv_bipush (v := 113) hx hb d_Mo_writeSafe_73 (by decide) ?_
            refine lv_bipush (v := 117) hx hb d_Mo_writeSafe_75 (by decide) ?_
            refine lv_bipush (v := 111) hx hb d_Mo_writeSafe_77 (by decide) ?_
            refine lv_bipush (v := 116) hx hb d_Mo_writeSafe_79 (by decide) ?_
            refine gy_V B hl.1 hw (t_Mo_writeReference G _ _ ow fu 113 117 111 116 (nn hno hF)) (kd_Mo_writeReference T) (ki_Mo T) (km_Mo_227 T) (ka_Mo_writeReference T) (ks_Mo_writeReference T) ⟨by decide, by decide, by rfl⟩ (rv_Mo hK hw rfl) rfl (Nat.le_of_ble_eq_true rfl) ⟨by decide, by decide⟩ ⟨by decide, by decide⟩ d_Mo_writeSafe_81 (fun v M49 r49 H locs hw hp => ?_) (fun x ek M49 r49 H locs hw hE hp => gr_t B hexc hw hE (by decide) (by decide) (hF.trans (bnd_ex hp)))
            obtain ⟨rfl, hp⟩ := hp
            have hF := hF.trans (bnd_ok hp)
            refine lv_goto hx hb d_Mo_writeSafe_84 rfl ?_
            exact gr_v B hw d_Mo_writeSafe_116 ⟨rfl, hF⟩
      · skip
        have hF := hF.trans (if_pos h36)
        refine lv_iload_n hx hb d_Mo_writeSafe_45 rfl (lv_at hl 2 rfl) ?_
        refine lv_if_ne hx hb d_Mo_writeSafe_46 rfl (fun h50 => ?_) (fun h50 => ?_)
        · skip
          have hF := hF.trans (if_neg h50)
          refine lv_iload_n hx hb d_Mo_writeSafe_62 rfl (lv_at hl 1 rfl) ?_
          refine lv_bipush (v := 34) hx hb d_Mo_writeSafe_63 (by decide) ?_
          refine lv_icmp_ne hx hb d_Mo_writeSafe_65 rfl (fun h51 => ?_) (fun h51 => ?_)
          · skip
            have hF := hF.trans (if_neg h51)
            refine lv_iload_n hx hb d_Mo_writeSafe_87 rfl (lv_at hl 1 rfl) ?_
            refine lv_bipush (v := 10) hx hb d_Mo_writeSafe_88 (by decide) ?_
            refine lv_icmp_ne hx hb d_Mo_writeSafe_90 rfl (fun h52 => ?_) (fun h52 => ?_)
            · skip
              have hF := hF.trans (if_neg h52)
              refine lv_aload_n hx hb d_Mo_writeSafe_111 rfl (lv_at hl 0 rfl) ?_
              refine lv_iload_n hx hb d_Mo_writeSafe_112 rfl (lv_at hl 1 rfl) ?_
              refine gy_V B hl.1 hw (t_Mo_write G _ _ ow fu x1 (nn hno hF)) (kd_Mo_write T) (ki_Mo T) (km_Mo_224 T) (ka_Mo_write T) (ks_Mo_write T) ⟨by decide, by decide, by rfl⟩ (rv_Mo hK hw rfl) rfl (Nat.le_of_ble_eq_true rfl) ⟨by decide, by decide⟩ ⟨by decide, by decide⟩ d_Mo_writeSafe_113 (fun v M53 r53 H locs hw hp => ?_) (fun x ek M53 r53 H locs hw hE hp => gr_t B hexc hw hE (by decide) (by decide) (hF.trans (bnd_ex hp)))
              obtain ⟨rfl, hp⟩ := hp
              have hF := hF.trans (bnd_ok hp)
              exact gr_v B hw d_Mo_writeSafe_116 ⟨rfl, hF⟩
            · skip
              have hF := hF.trans (if_pos h52)
              refine lv_iload_n hx hb d_Mo_writeSafe_93 rfl (lv_at hl 2 rfl) ?_
              refine lv_if_eq hx hb d_Mo_writeSafe_94 rfl (fun h54 => ?_) (fun h54 => ?_)
              · skip
                have hF := hF.trans (if_pos h54)
                refine lv_aload_n hx hb d_Mo_writeSafe_111 rfl (lv_at hl 0 rfl) ?_
                refine lv_iload_n hx hb d_Mo_writeSafe_112 rfl (lv_at hl 1 rfl) ?_
                refine gy_V B hl.1 hw (t_Mo_write G _ _ ow fu x1 (nn hno hF)) (kd_Mo_write T) (ki_Mo T) (km_Mo_224 T) (ka_Mo_write T) (ks_Mo_write T) ⟨by decide, by decide, by rfl⟩ (rv_Mo hK hw rfl) rfl (Nat.le_of_ble_eq_true rfl) ⟨by decide, by decide⟩ ⟨by decide, by decide⟩ d_Mo_writeSafe_113 (fun v M55 r55 H locs hw hp => ?_) (fun x ek M55 r55 H locs hw hE hp => gr_t B hexc hw hE (by decide) (by decide) (hF.trans (bnd_ex hp)))
                obtain ⟨rfl, hp⟩ := hp
                have hF := hF.trans (bnd_ok hp)
                exact gr_v B hw d_Mo_writeSafe_116 ⟨rfl, hF⟩
              · skip
                have hF := hF.trans (if_neg h54)
                refine lv_aload_n hx hb d_Mo_writeSafe_97 rfl (lv_at hl 0 rfl) ?_
                refine lv_bipush (v := 35) hx hb d_Mo_writeSafe_98 (by decide) ?_
                refine lv_bipush (v := 120) hx hb d_Mo_writeSafe_100 (by decide) ?_
                refine lv_bipush (v := 65) hx hb d_Mo_writeSafe_102 (by decide) ?_
                refine lv_iconst (v := 0) hx hb d_Mo_writeSafe_104 (by decide) ?_
                refine gy_V B hl.1 hw (t_Mo_writeReference G _ _ ow fu 35 120 65 0 (nn hno hF)) (kd_Mo_writeReference T) (ki_Mo T) (km_Mo_227 T) (ka_Mo_writeReference T) (ks_Mo_writeReference T) ⟨by decide, by decide, by rfl⟩ (rv_Mo hK hw rfl) rfl (Nat.le_of_ble_eq_true rfl) ⟨by decide, by decide⟩ ⟨by decide, by decide⟩ d_Mo_writeSafe_105 (fun v M56 r56 H locs hw hp => ?_) (fun x ek M56 r56 H locs hw hE hp => gr_t B hexc hw hE (by decide) (by decide) (hF.trans (bnd_ex hp)))
                obtain ⟨rfl, hp⟩ := hp
                have hF := hF.trans (bnd_ok hp)
                refine lv_goto hx hb d_Mo_writeSafe_108 rfl ?_
                exact gr_v B hw d_Mo_writeSafe_116 ⟨rfl, hF⟩
          · skip
            have hF := hF.trans (if_pos h51)
            refine lv_iload_n hx hb d_Mo_writeSafe_68 rfl (lv_at hl 2 rfl) ?_
            refine lv_if_eq hx hb d_Mo_writeSafe_69 rfl (fun h57 => ?_) (fun h57 => ?_)
            · skip
              have hF := hF.trans (if_pos h57)
              refine lv_iload_n hx hb d_Mo_writeSafe_87 rfl (lv_at hl 1 rfl) ?_
              refine lv_bipush (v := 10) hx hb d_Mo_writeSafe_88 (by decide) ?_
              refine lv_icmp_ne hx hb d_Mo_writeSafe_90 rfl (fun h58 => ?_) (fun h58 => ?_)
              · skip
                have hF := hF.trans (if_neg h58)
                refine lv_aload_n hx hb d_Mo_writeSafe_111 rfl (lv_at hl 0 rfl) ?_
                refine lv_iload_n hx hb d_Mo_writeSafe_112 rfl (lv_at hl 1 rfl) ?_
                refine gy_V B hl.1 hw (t_Mo_write G _ _ ow fu x1 (nn hno hF)) (kd_Mo_write T) (ki_Mo T) (km_Mo_224 T) (ka_Mo_write T) (ks_Mo_write T) ⟨by decide, by decide, by rfl⟩ (rv_Mo hK hw rfl) rfl (Nat.le_of_ble_eq_true rfl) ⟨by decide, by decide⟩ ⟨by decide, by decide⟩ d_Mo_writeSafe_113 (fun v M59 r59 H locs hw hp => ?_) (fun x ek M59 r59 H locs hw hE hp => gr_t B hexc hw hE (by decide) (by decide) (hF.trans (bnd_ex hp)))
                obtain ⟨rfl, hp⟩ := hp
                have hF := hF.trans (bnd_ok hp)
                exact gr_v B hw d_Mo_writeSafe_116 ⟨rfl, hF⟩
              · skip
                have hF := hF.trans (if_pos h58)
                refine lv_iload_n hx hb d_Mo_writeSafe_93 rfl (lv_at hl 2 rfl) ?_
                refine lv_if_eq hx hb d_Mo_writeSafe_94 rfl (fun h60 => ?_) (fun h60 => ?_)
                · skip
                  have hF := hF.trans (if_pos h60)
                  refine lv_aload_n hx hb d_Mo_writeSafe_111 rfl (lv_at hl 0 rfl) ?_
                  refine lv_iload_n hx hb d_Mo_writeSafe_112 rfl (lv_at hl 1 rfl) ?_
                  refine gy_V B hl.1 hw (t_Mo_write G _ _ ow fu x1 (nn hno hF)) (kd_Mo_write T) (ki_Mo T) (km_Mo_224 T) (ka_Mo_write T) (ks_Mo_write T) ⟨by decide, by decide, by rfl⟩ (rv_Mo hK hw rfl) rfl (Nat.le_of_ble_eq_true rfl) ⟨by decide, by decide⟩ ⟨by decide, by decide⟩ d_Mo_writeSafe_113 (fun v M61 r61 H locs hw hp => ?_) (fun x ek M61 r61 H locs hw hE hp => gr_t B hexc hw hE (by decide) (by decide) (hF.trans (bnd_ex hp)))
                  obtain ⟨rfl, hp⟩ := hp
                  have hF := hF.trans (bnd_ok hp)
                  exact gr_v B hw d_Mo_writeSafe_116 ⟨rfl, hF⟩
                · skip
                  have hF := hF.trans (if_neg h60)
                  refine lv_aload_n hx hb d_Mo_writeSafe_97 rfl (lv_at hl 0 rfl) ?_
                  refine lv_bipush (v := 35) hx hb d_Mo_writeSafe_98 (by decide) ?_
                  refine lv_bipush (v := 120) hx hb d_Mo_writeSafe_100 (by decide) ?_
                  refine lv_bipush (v := 65) hx hb d_Mo_writeSafe_102 (by decide) ?_
                  refine lv_iconst (v := 0) hx hb d_Mo_writeSafe_104 (by decide) ?_
                  refine gy_V B hl.1 hw (t_Mo_writeReference G _ _ ow fu 35 120 65 0 (nn hno hF)) (kd_Mo_writeReference T) (ki_Mo T) (km_Mo_227 T) (ka_Mo_writeReference T) (ks_Mo_writeReference T) ⟨by decide, by decide, by rfl⟩ (rv_Mo hK hw rfl) rfl (Nat.le_of_ble_eq_true rfl) ⟨by decide, by decide⟩ ⟨by decide, by decide⟩ d_Mo_writeSafe_105 (fun v M62 r62 H locs hw hp => ?_) (fun x ek M62 r62 H locs hw hE hp => gr_t B hexc hw hE (by decide) (by decide) (hF.trans (bnd_ex hp)))
                  obtain ⟨rfl, hp⟩ := hp
                  have hF := hF.trans (bnd_ok hp)
                  refine lv_goto hx hb d_Mo_writeSafe_108 rfl ?_
                  exact gr_v B hw d_Mo_writeSafe_116 ⟨rfl, hF⟩
            · skip
              have hF := hF.trans (if_neg h57)
              refine lv_aload_n hx hb d_Mo_writeSafe_72 rfl (lv_at hl 0 rfl) ?_
              refine lv_bipush (v := 113) hx hb d_Mo_writeSafe_73 (by decide) ?_
              refine lv_bipush (v := 117) hx hb d_Mo_writeSafe_75 (by decide) ?_
              refine lv_bipush (v := 111) hx hb d_Mo_writeSafe_77 (by decide) ?_
              refine lv_bipush (v := 116) hx hb d_Mo_writeSafe_79 (by decide) ?_
              refine gy_V B hl.1 hw (t_Mo_writeReference G _ _ ow fu 113 117 111 116 (nn hno hF)) (kd_Mo_writeReference T) (ki_Mo T) (km_Mo_227 T) (ka_Mo_writeReference T) (ks_Mo_writeReference T) ⟨by decide, by decide, by rfl⟩ (rv_Mo hK hw rfl) rfl (Nat.le_of_ble_eq_true rfl) ⟨by decide, by decide⟩ ⟨by decide, by decide⟩ d_Mo_writeSafe_81 (fun v M63 r63 H locs hw hp => ?_) (fun x ek M63 r63 H locs hw hE hp => gr_t B hexc hw hE (by decide) (by decide) (hF.trans (bnd_ex hp)))
              obtain ⟨rfl, hp⟩ := hp
              have hF := hF.trans (bnd_ok hp)
              refine lv_goto hx hb d_Mo_writeSafe_84 rfl ?_
              exact gr_v B hw d_Mo_writeSafe_116 ⟨rfl, hF⟩
        · skip
          have hF := hF.trans (if_pos h50)
          refine lv_aload_n hx hb d_Mo_writeSafe_49 rfl (lv_at hl 0 rfl) ?_
          refine lv_bipush (v := 103) hx hb d_Mo_writeSafe_50 (by decide) ?_
          refine lv_bipush (v := 116) hx hb d_Mo_writeSafe_52 (by decide) ?_
          refine lv_iconst (v := 0) hx hb d_Mo_writeSafe_54 (by decide) ?_
          refine lv_iconst (v := 0) hx hb d_Mo_writeSafe_55 (by decide) ?_
          refine gy_V B hl.1 hw (t_Mo_writeReference G _ _ ow fu 103 116 0 0 (nn hno hF)) (kd_Mo_writeReference T) (ki_Mo T) (km_Mo_227 T) (ka_Mo_writeReference T) (ks_Mo_writeReference T) ⟨by decide, by decide, by rfl⟩ (rv_Mo hK hw rfl) rfl (Nat.le_of_ble_eq_true rfl) ⟨by decide, by decide⟩ ⟨by decide, by decide⟩ d_Mo_writeSafe_56 (fun v M64 r64 H locs hw hp => ?_) (fun x ek M64 r64 H locs hw hE hp => gr_t B hexc hw hE (by decide) (by decide) (hF.trans (bnd_ex hp)))
          obtain ⟨rfl, hp⟩ := hp
          have hF := hF.trans (bnd_ok hp)
          refine lv_goto hx hb d_Mo_writeSafe_59 rfl ?_
          exact gr_v B hw d_Mo_writeSafe_116 ⟨rfl, hF⟩
    · skip
      have hF := hF.trans (if_pos h35)
      refine lv_aload_n hx hb d_Mo_writeSafe_26 rfl (lv_at hl 0 rfl) ?_
      refine lv_bipush (v := 108) hx hb d_Mo_writeSafe_27 (by decide) ?_
      refine lv_bipush (v := 116) hx hb d_Mo_writeSafe_29 (by decide) ?_
      refine lv_iconst (v := 0) hx hb d_Mo_writeSafe_31 (by decide) ?_
      refine lv_iconst (v := 0) hx hb d_Mo_writeSafe_32 (by decide) ?_
      refine gy_V B hl.1 hw (t_Mo_writeReference G _ _ ow fu 108 116 0 0 (nn hno hF)) (kd_Mo_writeReference T) (ki_Mo T) (km_Mo_227 T) (ka_Mo_writeReference T) (ks_Mo_writeReference T) ⟨by decide, by decide, by rfl⟩ (rv_Mo hK hw rfl) rfl (Nat.le_of_ble_eq_true rfl) ⟨by decide, by decide⟩ ⟨by decide, by decide⟩ d_Mo_writeSafe_33 (fun v M65 r65 H locs hw hp => ?_) (fun x ek M65 r65 H locs hw hE hp => gr_t B hexc hw hE (by decide) (by decide) (hF.trans (bnd_ex hp)))
      obtain ⟨rfl, hp⟩ := hp
      have hF := hF.trans (bnd_ok hp)
      refine lv_goto hx hb d_Mo_writeSafe_36 rfl ?_
      exact gr_v B hw d_Mo_writeSafe_116 ⟨rfl, hF⟩
  · skip
    have hF := hF.trans (if_pos h34)
    refine lv_aload_n hx hb d_Mo_writeSafe_6 rfl (lv_at hl 0 rfl) ?_
    refine lv_bipush (v := 97) hx hb d_Mo_writeSafe_7 (by decide) ?_
    refine lv_bipush (v := 109) hx hb d_Mo_writeSafe_9 (by decide) ?_
    refine lv_bipush (v := 112) hx hb d_Mo_writeSafe_11 (by decide) ?_
    refine lv_iconst (v := 0) hx hb d_Mo_writeSafe_13 (by decide) ?_
    refine gy_V B hl.1 hw (t_Mo_writeReference G _ _ ow fu 97 109 112 0 (nn hno hF)) (kd_Mo_writeReference T) (ki_Mo T) (km_Mo_227 T) (ka_Mo_writeReference T) (ks_Mo_writeReference T) ⟨by decide, by decide, by rfl⟩ (rv_Mo hK hw rfl) rfl (Nat.le_of_ble_eq_true rfl) ⟨by decide, by decide⟩ ⟨by decide, by decide⟩ d_Mo_writeSafe_14 (fun v M66 r66 H locs hw hp => ?_) (fun x ek M66 r66 H locs hw hE hp => gr_t B hexc hw hE (by decide) (by decide) (hF.trans (bnd_ex hp)))
    obtain ⟨rfl, hp⟩ := hp
    have hF := hF.trans (bnd_ok hp)
    refine lv_goto hx hb d_Mo_writeSafe_17 rfl ?_
    exact gr_v B hw d_Mo_writeSafe_116 ⟨rfl, hF⟩
theorem d_Mo_writeStretch_0 : decode b_Mo_writeStretch 0 = .ok (.iload_n 1, 1) := by decide +kernel
theorem d_Mo_writeStretch_1 : decode b_Mo_writeStretch 1 = .ok (.istore_n 3, 1) := by decide +kernel
theorem d_Mo_writeStretch_2 : decode b_Mo_writeStretch 2 = .ok (.iload_n 3, 1) := by decide +kernel
theorem d_Mo_writeStretch_3 : decode b_Mo_writeStretch 3 = .ok (.iload_n 1, 1) := by decide +kernel
theorem d_Mo_writeStretch_4 : decode b_Mo_writeStretch 4 = .ok (.iload_n 2, 1) := by decide +kernel
theorem d_Mo_writeStretch_5 : decode b_Mo_writeStretch 5 = .ok (.iadd, 1) := by decide +kernel
theorem d_Mo_writeStretch_6 : decode b_Mo_writeStretch 6 = .ok (.if_icmp .ge 19, 3) := by decide +kernel
theorem d_Mo_writeStretch_9 : decode b_Mo_writeStretch 9 = .ok (.aload_n 0, 1) := by decide +kernel
theorem d_Mo_writeStretch_10 : decode b_Mo_writeStretch 10 = .ok (.aload_n 0, 1) := by decide +kernel
theorem d_Mo_writeStretch_11 : decode b_Mo_writeStretch 11 = .ok (.getfield 17, 3) := by decide +kernel
theorem d_Mo_writeStretch_14 : decode b_Mo_writeStretch 14 = .ok (.iload_n 3, 1) := by decide +kernel
theorem d_Mo_writeStretch_15 : decode b_Mo_writeStretch 15 = .ok (.iaload, 1) := by decide +kernel
theorem d_Mo_writeStretch_16 : decode b_Mo_writeStretch 16 = .ok (.invokevirtual 224, 3) := by decide +kernel
theorem d_Mo_writeStretch_19 : decode b_Mo_writeStretch 19 = .ok (.iinc 3 1, 3) := by decide +kernel
theorem d_Mo_writeStretch_22 : decode b_Mo_writeStretch 22 = .ok (.goto (-20), 3) := by decide +kernel
theorem d_Mo_writeStretch_25 : decode b_Mo_writeStretch 25 = .ok (.return_, 1) := by decide +kernel
set_option maxHeartbeats 4000000 in
set_option maxRecDepth 100000 in
theorem t_Mo_writeStretch {l : Launch} {s0 : State} {D : va_G} {aC : Nat → ClassId} {a0 : Array Value} (G : gG l s0 D aC a0) (M : gMem) (r : gRef) (ow : Int64) (fu : Nat) (x1 : Int32) (x2 : Int32)  (hno : F_Mo_writeStretch fu x1 x2 M r ≠ .no) : gMet l s0 D aC y_Mo_writeStretch (Cond.code y_Mo_writeStretch b_Mo_writeStretch 4 none) 1 21 0 0 [.ref (s0.heap.size + 383), .int x1, .int x2] M r ow (qV (F_Mo_writeStretch fu x1 x2 M r)) (qT (F_Mo_writeStretch fu x1 x2 M r)) := by
  refine gm_of G (by decide) (Nat.le_of_ble_eq_true rfl) ?_
  intro p e s m below meth c ls B hexc hl hw
  have hx := B.1
  have hb := B.2.1
  have hown := B.2.2.2.2.2.1
  have T := B.2.2.2.2.2.2.1
  have hK := B.2.2.2.2.2.2.2.1
  have X25 : ∀ (M1 : gMem) (r1 : gRef) (H : Heap) (locs : List Loc) (ls : Array Slot), lv_has ls 4 [] → gWd s0 D aC M1 r1 ow H locs → F_Mo_writeStretch fu x1 x2 M r = F_Mo_writeStretch_B25 fu x1 x2 M1 r1 → W p l e (gRm 1 21 0 0) s m ([.ref (s0.heap.size + 383), .int x1, .int x2] : List Value).toArray below meth c H locs 0 0 (gt_Q below (gQ s0 D aC ow (qV (F_Mo_writeStretch fu x1 x2 M r)) (qT (F_Mo_writeStretch fu x1 x2 M r))) s 0 0 0 0 (fun q => s0.heap.size ≤ q)) (F0 m 25 ls []) := by
    intro  M1 r1 H locs ls hl hw hF
    have hF := hF.trans (F_Mo_writeStretch_B25.eq_1 _ _ _ _ _)
    exact gr_v B hw d_Mo_writeStretch_25 ⟨rfl, hF⟩
  have L2 : ∀ (d : Nat) (x3 : Int32) (M1 : gMem) (r1 : gRef) (H : Heap) (locs : List Loc) (ls : Array Slot), lv_has ls 4 [(3, .int x3), (0, .ref (s0.heap.size + 383)), (1, .int x1), (2, .int x2)] → gWd s0 D aC M1 r1 ow H locs → F_Mo_writeStretch fu x1 x2 M r = F_Mo_writeStretch_L2 fu x1 x2 d x3 M1 r1 → W p l e (gRm 1 21 0 0) s m ([.ref (s0.heap.size + 383), .int x1, .int x2] : List Value).toArray below meth c H locs 0 0 (gt_Q below (gQ s0 D aC ow (qV (F_Mo_writeStretch fu x1 x2 M r)) (qT (F_Mo_writeStretch fu x1 x2 M r))) s 0 0 0 0 (fun q => s0.heap.size ≤ q)) (F0 m 2 ls []) := by
    intro d
    induction d with
    | zero => intro x3 M1 r1 H locs ls hl hw hF; exact absurd hF hno
    | succ d ih =>
      intro x3 M1 r1 H locs ls hl hw hF
      have hF := hF.trans (F_Mo_writeStretch_L2.eq_2 _ _ _ _ _ _ _)
      refine lv_iload_n hx hb d_Mo_writeStretch_2 rfl (lv_at hl 0 rfl) ?_
      refine lv_iload_n hx hb d_Mo_writeStretch_3 rfl (lv_at hl 2 rfl) ?_
      refine lv_iload_n hx hb d_Mo_writeStretch_4 rfl (lv_at hl 3 rfl) ?_
      refine lv_iadd hx hb d_Mo_writeStretch_5 ?_
      refine lv_icmp_ge hx hb d_Mo_writeStretch_6 rfl (fun h4 => ?_) (fun h4 => ?_)
      · skip
        have hF := hF.trans (if_pos h4)
        exact X25  _ _ _ _ _ (gv_loc hl [] rfl) hw hF
      · skip
        have hF := hF.trans (if_neg h4)
        refine lv_aload_n hx hb d_Mo_writeStretch_9 rfl (lv_at hl 1 rfl) ?_
        refine lv_aload_n hx hb d_Mo_writeStretch_10 rfl (lv_at hl 1 rfl) ?_
        refine gf_Mo_pool hx hb T hown hK hw rfl (kf_Mo_17 T) d_Mo_writeStretch_11 ?_
        refine lv_iload_n hx hb d_Mo_writeStretch_14 rfl (lv_at hl 0 rfl) ?_
        have g5 := ng hno hF
        have hF := hF.trans (gd_yes g5)
        refine ga_Mo_pool hx hb hK hw rfl g5 d_Mo_writeStretch_15 ?_
        refine gy_V B hl.1 hw (t_Mo_write G _ _ ow fu (M1 108 x3.toNatClampNeg) (nn hno hF)) (kd_Mo_write T) (ki_Mo T) (km_Mo_224 T) (ka_Mo_write T) (ks_Mo_write T) ⟨by decide, by decide, by rfl⟩ (rv_Mo hK hw rfl) rfl (Nat.le_of_ble_eq_true rfl) ⟨by decide, by decide⟩ ⟨by decide, by decide⟩ d_Mo_writeStretch_16 (fun v M6 r6 H locs hw hp => ?_) (fun x ek M6 r6 H locs hw hE hp => gr_t B hexc hw hE (by decide) (by decide) (hF.trans (bnd_ex hp)))
        obtain ⟨rfl, hp⟩ := hp
        have hF := hF.trans (bnd_ok hp)
        refine lv_iinc (k := 0) hx hb d_Mo_writeStretch_19 hl rfl (show _ + Int32.ofInt 1 = _ + 1 from rfl) (by decide) rfl (fun ls hl => ?_)
        refine lv_goto hx hb d_Mo_writeStretch_22 rfl ?_
        exact ih (x3 + 1) _ _ _ _ _ (gv_loc hl [0, 1, 2, 3] rfl) hw hF
  have hF := F_Mo_writeStretch.eq_1 fu x1 x2 M r
  refine lv_iload_n hx hb d_Mo_writeStretch_0 rfl (lv_at hl 1 rfl) ?_
  refine lv_istore_n hx hb d_Mo_writeStretch_1 rfl hl (by decide) rfl (fun ls hl => ?_)
  exact L2 fu x1 _ _ _ _ _ (gv_loc hl [0, 1, 2, 3] rfl) hw hF
theorem d_Mo_order_0 : decode b_Mo_order 0 = .ok (.aload_n 0, 1) := by decide +kernel
theorem d_Mo_order_1 : decode b_Mo_order 1 = .ok (.iload_n 1, 1) := by decide +kernel
theorem d_Mo_order_2 : decode b_Mo_order 2 = .ok (.invokevirtual 205, 3) := by decide +kernel
theorem d_Mo_order_5 : decode b_Mo_order 5 = .ok (.istore_n 3, 1) := by decide +kernel
theorem d_Mo_order_6 : decode b_Mo_order 6 = .ok (.aload_n 0, 1) := by decide +kernel
theorem d_Mo_order_7 : decode b_Mo_order 7 = .ok (.iload_n 2, 1) := by decide +kernel
theorem d_Mo_order_8 : decode b_Mo_order 8 = .ok (.invokevirtual 205, 3) := by decide +kernel
theorem d_Mo_order_11 : decode b_Mo_order 11 = .ok (.istore 4, 2) := by decide +kernel
theorem d_Mo_order_13 : decode b_Mo_order 13 = .ok (.iload_n 3, 1) := by decide +kernel
theorem d_Mo_order_14 : decode b_Mo_order 14 = .ok (.iload 4, 2) := by decide +kernel
theorem d_Mo_order_16 : decode b_Mo_order 16 = .ok (.if_icmp .eq 13, 3) := by decide +kernel
theorem d_Mo_order_19 : decode b_Mo_order 19 = .ok (.iload_n 3, 1) := by decide +kernel
theorem d_Mo_order_20 : decode b_Mo_order 20 = .ok (.ifCond .eq 7, 3) := by decide +kernel
theorem d_Mo_order_23 : decode b_Mo_order 23 = .ok (.iconst (-1), 1) := by decide +kernel
theorem d_Mo_order_24 : decode b_Mo_order 24 = .ok (.goto 4, 3) := by decide +kernel
theorem d_Mo_order_27 : decode b_Mo_order 27 = .ok (.iconst 1, 1) := by decide +kernel
theorem d_Mo_order_28 : decode b_Mo_order 28 = .ok (.ireturn, 1) := by decide +kernel
theorem d_Mo_order_29 : decode b_Mo_order 29 = .ok (.iload_n 3, 1) := by decide +kernel
theorem d_Mo_order_30 : decode b_Mo_order 30 = .ok (.ifCond .eq 54, 3) := by decide +kernel
theorem d_Mo_order_33 : decode b_Mo_order 33 = .ok (.aload_n 0, 1) := by decide +kernel
theorem d_Mo_order_34 : decode b_Mo_order 34 = .ok (.getfield 44, 3) := by decide +kernel
theorem d_Mo_order_37 : decode b_Mo_order 37 = .ok (.iload_n 1, 1) := by decide +kernel
theorem d_Mo_order_38 : decode b_Mo_order 38 = .ok (.iaload, 1) := by decide +kernel
theorem d_Mo_order_39 : decode b_Mo_order 39 = .ok (.ifCond .ge 7, 3) := by decide +kernel
theorem d_Mo_order_42 : decode b_Mo_order 42 = .ok (.iconst (-1), 1) := by decide +kernel
theorem d_Mo_order_43 : decode b_Mo_order 43 = .ok (.goto 40, 3) := by decide +kernel
theorem d_Mo_order_46 : decode b_Mo_order 46 = .ok (.aload_n 0, 1) := by decide +kernel
theorem d_Mo_order_47 : decode b_Mo_order 47 = .ok (.getfield 44, 3) := by decide +kernel
theorem d_Mo_order_50 : decode b_Mo_order 50 = .ok (.iload_n 2, 1) := by decide +kernel
theorem d_Mo_order_51 : decode b_Mo_order 51 = .ok (.iaload, 1) := by decide +kernel
theorem d_Mo_order_52 : decode b_Mo_order 52 = .ok (.ifCond .ge 7, 3) := by decide +kernel
theorem d_Mo_order_55 : decode b_Mo_order 55 = .ok (.iconst 1, 1) := by decide +kernel
theorem d_Mo_order_56 : decode b_Mo_order 56 = .ok (.goto 27, 3) := by decide +kernel
theorem d_Mo_order_59 : decode b_Mo_order 59 = .ok (.aload_n 0, 1) := by decide +kernel
theorem d_Mo_order_60 : decode b_Mo_order 60 = .ok (.aload_n 0, 1) := by decide +kernel
theorem d_Mo_order_61 : decode b_Mo_order 61 = .ok (.iload_n 1, 1) := by decide +kernel
theorem d_Mo_order_62 : decode b_Mo_order 62 = .ok (.invokevirtual 199, 3) := by decide +kernel
theorem d_Mo_order_65 : decode b_Mo_order 65 = .ok (.aload_n 0, 1) := by decide +kernel
theorem d_Mo_order_66 : decode b_Mo_order 66 = .ok (.iload_n 1, 1) := by decide +kernel
theorem d_Mo_order_67 : decode b_Mo_order 67 = .ok (.invokevirtual 202, 3) := by decide +kernel
theorem d_Mo_order_70 : decode b_Mo_order 70 = .ok (.aload_n 0, 1) := by decide +kernel
theorem d_Mo_order_71 : decode b_Mo_order 71 = .ok (.iload_n 2, 1) := by decide +kernel
theorem d_Mo_order_72 : decode b_Mo_order 72 = .ok (.invokevirtual 199, 3) := by decide +kernel
theorem d_Mo_order_75 : decode b_Mo_order 75 = .ok (.aload_n 0, 1) := by decide +kernel
theorem d_Mo_order_76 : decode b_Mo_order 76 = .ok (.iload_n 2, 1) := by decide +kernel
theorem d_Mo_order_77 : decode b_Mo_order 77 = .ok (.invokevirtual 202, 3) := by decide +kernel
theorem d_Mo_order_80 : decode b_Mo_order 80 = .ok (.invokevirtual 166, 3) := by decide +kernel
theorem d_Mo_order_83 : decode b_Mo_order 83 = .ok (.ireturn, 1) := by decide +kernel
theorem d_Mo_order_84 : decode b_Mo_order 84 = .ok (.aload_n 0, 1) := by decide +kernel
theorem d_Mo_order_85 : decode b_Mo_order 85 = .ok (.iload_n 1, 1) := by decide +kernel
theorem d_Mo_order_86 : decode b_Mo_order 86 = .ok (.invokevirtual 212, 3) := by decide +kernel
theorem d_Mo_order_89 : decode b_Mo_order 89 = .ok (.istore 5, 2) := by decide +kernel
theorem d_Mo_order_91 : decode b_Mo_order 91 = .ok (.aload_n 0, 1) := by decide +kernel
theorem d_Mo_order_92 : decode b_Mo_order 92 = .ok (.iload_n 2, 1) := by decide +kernel
theorem d_Mo_order_93 : decode b_Mo_order 93 = .ok (.invokevirtual 212, 3) := by decide +kernel
theorem d_Mo_order_96 : decode b_Mo_order 96 = .ok (.istore 6, 2) := by decide +kernel
theorem d_Mo_order_98 : decode b_Mo_order 98 = .ok (.iload 5, 2) := by decide +kernel
theorem d_Mo_order_100 : decode b_Mo_order 100 = .ok (.ifCond .lt 8, 3) := by decide +kernel
theorem d_Mo_order_103 : decode b_Mo_order 103 = .ok (.iload 6, 2) := by decide +kernel
theorem d_Mo_order_105 : decode b_Mo_order 105 = .ok (.ifCond .ge 27, 3) := by decide +kernel
theorem d_Mo_order_108 : decode b_Mo_order 108 = .ok (.iload 5, 2) := by decide +kernel
theorem d_Mo_order_110 : decode b_Mo_order 110 = .ok (.ifCond .ge 7, 3) := by decide +kernel
theorem d_Mo_order_113 : decode b_Mo_order 113 = .ok (.iconst 0, 1) := by decide +kernel
theorem d_Mo_order_114 : decode b_Mo_order 114 = .ok (.goto 4, 3) := by decide +kernel
theorem d_Mo_order_117 : decode b_Mo_order 117 = .ok (.iconst 1, 1) := by decide +kernel
theorem d_Mo_order_118 : decode b_Mo_order 118 = .ok (.iload 6, 2) := by decide +kernel
theorem d_Mo_order_120 : decode b_Mo_order 120 = .ok (.ifCond .ge 7, 3) := by decide +kernel
theorem d_Mo_order_123 : decode b_Mo_order 123 = .ok (.iconst 0, 1) := by decide +kernel
theorem d_Mo_order_124 : decode b_Mo_order 124 = .ok (.goto 4, 3) := by decide +kernel
theorem d_Mo_order_127 : decode b_Mo_order 127 = .ok (.iconst 1, 1) := by decide +kernel
theorem d_Mo_order_128 : decode b_Mo_order 128 = .ok (.isub, 1) := by decide +kernel
theorem d_Mo_order_129 : decode b_Mo_order 129 = .ok (.goto 11, 3) := by decide +kernel
theorem d_Mo_order_132 : decode b_Mo_order 132 = .ok (.aload_n 0, 1) := by decide +kernel
theorem d_Mo_order_133 : decode b_Mo_order 133 = .ok (.iload 5, 2) := by decide +kernel
theorem d_Mo_order_135 : decode b_Mo_order 135 = .ok (.iload 6, 2) := by decide +kernel
theorem d_Mo_order_137 : decode b_Mo_order 137 = .ok (.invokevirtual 218, 3) := by decide +kernel
theorem d_Mo_order_140 : decode b_Mo_order 140 = .ok (.istore 7, 2) := by decide +kernel
theorem d_Mo_order_142 : decode b_Mo_order 142 = .ok (.iload 7, 2) := by decide +kernel
theorem d_Mo_order_144 : decode b_Mo_order 144 = .ok (.ifCond .eq 8, 3) := by decide +kernel
theorem d_Mo_order_147 : decode b_Mo_order 147 = .ok (.iload 7, 2) := by decide +kernel
theorem d_Mo_order_149 : decode b_Mo_order 149 = .ok (.goto 27, 3) := by decide +kernel
theorem d_Mo_order_152 : decode b_Mo_order 152 = .ok (.aload_n 0, 1) := by decide +kernel
theorem d_Mo_order_153 : decode b_Mo_order 153 = .ok (.aload_n 0, 1) := by decide +kernel
theorem d_Mo_order_154 : decode b_Mo_order 154 = .ok (.iload_n 1, 1) := by decide +kernel
theorem d_Mo_order_155 : decode b_Mo_order 155 = .ok (.invokevirtual 199, 3) := by decide +kernel
theorem d_Mo_order_158 : decode b_Mo_order 158 = .ok (.aload_n 0, 1) := by decide +kernel
theorem d_Mo_order_159 : decode b_Mo_order 159 = .ok (.iload_n 1, 1) := by decide +kernel
theorem d_Mo_order_160 : decode b_Mo_order 160 = .ok (.invokevirtual 202, 3) := by decide +kernel
theorem d_Mo_order_163 : decode b_Mo_order 163 = .ok (.aload_n 0, 1) := by decide +kernel
theorem d_Mo_order_164 : decode b_Mo_order 164 = .ok (.iload_n 2, 1) := by decide +kernel
theorem d_Mo_order_165 : decode b_Mo_order 165 = .ok (.invokevirtual 199, 3) := by decide +kernel
theorem d_Mo_order_168 : decode b_Mo_order 168 = .ok (.aload_n 0, 1) := by decide +kernel
theorem d_Mo_order_169 : decode b_Mo_order 169 = .ok (.iload_n 2, 1) := by decide +kernel
theorem d_Mo_order_170 : decode b_Mo_order 170 = .ok (.invokevirtual 202, 3) := by decide +kernel
theorem d_Mo_order_173 : decode b_Mo_order 173 = .ok (.invokevirtual 166, 3) := by decide +kernel
theorem d_Mo_order_176 : decode b_Mo_order 176 = .ok (.ireturn, 1) := by decide +kernel
set_option maxHeartbeats 4000000 in
set_option maxRecDepth 100000 in
theorem t_Mo_order {l : Launch} {s0 : State} {D : va_G} {aC : Nat → ClassId} {a0 : Array Value} (G : gG l s0 D aC a0) (M : gMem) (r : gRef) (ow : Int64) (fu : Nat) (x1 : Int32) (x2 : Int32)  (hno : F_Mo_order fu x1 x2 M r ≠ .no) : gMet l s0 D aC y_Mo_order (Cond.code y_Mo_order b_Mo_order 8 (some .int)) 4 90 0 0 [.ref (s0.heap.size + 383), .int x1, .int x2] M r ow (qI (F_Mo_order fu x1 x2 M r)) (qT (F_Mo_order fu x1 x2 M r)) := by
  refine gm_of G (by decide) (Nat.le_of_ble_eq_true rfl) ?_
  intro p e s m below meth c ls B hexc hl hw
  have hx := B.1
  have hb := B.2.1
  have hown := B.2.2.2.2.2.1
  have T := B.2.2.2.2.2.2.1
  have hK := B.2.2.2.2.2.2.2.1
  have hF := F_Mo_order.eq_1 fu x1 x2 M r
  refine lv_aload_n hx hb d_Mo_order_0 rfl (lv_at hl 0 rfl) ?_
  refine lv_iload_n hx hb d_Mo_order_1 rfl (lv_at hl 1 rfl) ?_
  refine gy_V B hl.1 hw (t_Mo_declares G _ _ ow fu x1 (nn hno hF)) (kd_Mo_declares T) (ki_Mo T) (km_Mo_205 T) (ka_Mo_declares T) (ks_Mo_declares T) ⟨by decide, by decide, by rfl⟩ (rv_Mo hK hw rfl) rfl (Nat.le_of_ble_eq_true rfl) ⟨by decide, by decide⟩ ⟨by decide, by decide⟩ d_Mo_order_2 (fun v M52 r52 H locs hw hp => ?_) (fun x ek M52 r52 H locs hw hE hp => gr_t B hexc hw hE (by decide) (by decide) (hF.trans (bnd_ex hp)))
  obtain ⟨v52, rfl, hp⟩ := hp
  have hF := hF.trans (bnd_ok hp)
  refine lv_istore_n hx hb d_Mo_order_5 rfl hl (by decide) rfl (fun ls hl => ?_)
  refine lv_aload_n hx hb d_Mo_order_6 rfl (lv_at hl 1 rfl) ?_
  refine lv_iload_n hx hb d_Mo_order_7 rfl (lv_at hl 3 rfl) ?_
  refine gy_V B hl.1 hw (t_Mo_declares G _ _ ow fu x2 (nn hno hF)) (kd_Mo_declares T) (ki_Mo T) (km_Mo_205 T) (ka_Mo_declares T) (ks_Mo_declares T) ⟨by decide, by decide, by rfl⟩ (rv_Mo hK hw rfl) rfl (Nat.le_of_ble_eq_true rfl) ⟨by decide, by decide⟩ ⟨by decide, by decide⟩ d_Mo_order_8 (fun v M53 r53 H locs hw hp => ?_) (fun x ek M53 r53 H locs hw hE hp => gr_t B hexc hw hE (by decide) (by decide) (hF.trans (bnd_ex hp)))
  obtain ⟨v53, rfl, hp⟩ := hp
  have hF := hF.trans (bnd_ok hp)
  refine lv_istore hx hb d_Mo_order_11 hl (by decide) rfl (fun ls hl => ?_)
  refine lv_iload_n hx hb d_Mo_order_13 rfl (lv_at hl 1 rfl) ?_
  refine lv_iload hx hb d_Mo_order_14 (lv_at hl 0 rfl) ?_
  refine lv_icmp_eq hx hb d_Mo_order_16 rfl (fun h54 => ?_) (fun h54 => ?_)
  · skip
    have hF := hF.trans (if_pos h54)
    refine lv_iload_n hx hb d_Mo_order_29 rfl (lv_at hl 1 rfl) ?_
    refine lv_if_eq hx hb d_Mo_order_30 rfl (fun h55 => ?_) (fun h55 => ?_)
    · skip
      have hF := hF.trans (if_pos h55)
      refine lv_aload_n hx hb d_Mo_order_84 rfl (lv_at hl 2 rfl) ?_
      refine lv_iload_n hx hb d_Mo_order_85 rfl (lv_at hl 3 rfl) ?_
      refine gy_V B hl.1 hw (t_Mo_spaceOf G _ _ ow fu x1 (nn hno hF)) (kd_Mo_spaceOf T) (ki_Mo T) (km_Mo_212 T) (ka_Mo_spaceOf T) (ks_Mo_spaceOf T) ⟨by decide, by decide, by rfl⟩ (rv_Mo hK hw rfl) rfl (Nat.le_of_ble_eq_true rfl) ⟨by decide, by decide⟩ ⟨by decide, by decide⟩ d_Mo_order_86 (fun v M56 r56 H locs hw hp => ?_) (fun x ek M56 r56 H locs hw hE hp => gr_t B hexc hw hE (by decide) (by decide) (hF.trans (bnd_ex hp)))
      obtain ⟨v56, rfl, hp⟩ := hp
      have hF := hF.trans (bnd_ok hp)
      refine lv_istore hx hb d_Mo_order_89 hl (by decide) rfl (fun ls hl => ?_)
      refine lv_aload_n hx hb d_Mo_order_91 rfl (lv_at hl 3 rfl) ?_
      refine lv_iload_n hx hb d_Mo_order_92 rfl (lv_at hl 5 rfl) ?_
      refine gy_V B hl.1 hw (t_Mo_spaceOf G _ _ ow fu x2 (nn hno hF)) (kd_Mo_spaceOf T) (ki_Mo T) (km_Mo_212 T) (ka_Mo_spaceOf T) (ks_Mo_spaceOf T) ⟨by decide, by decide, by rfl⟩ (rv_Mo hK hw rfl) rfl (Nat.le_of_ble_eq_true rfl) ⟨by decide, by decide⟩ ⟨by decide, by decide⟩ d_Mo_order_93 (fun v M57 r57 H locs hw hp => ?_) (fun x ek M57 r57 H locs hw hE hp => gr_t B hexc hw hE (by decide) (by decide) (hF.trans (bnd_ex hp)))
      obtain ⟨v57, rfl, hp⟩ := hp
      have hF := hF.trans (bnd_ok hp)
      refine lv_istore hx hb d_Mo_order_96 hl (by decide) rfl (fun ls hl => ?_)
      refine lv_iload hx hb d_Mo_order_98 (lv_at hl 1 rfl) ?_
      refine lv_if_lt hx hb d_Mo_order_100 rfl (fun h58 => ?_) (fun h58 => ?_)
      · skip
        have hF := hF.trans (if_pos h58)
        refine lv_iload hx hb d_Mo_order_108 (lv_at hl 1 rfl) ?_
        refine lv_if_ge hx hb d_Mo_order_110 rfl (fun h59 => ?_) (fun h59 => ?_)
        · skip
          have hF := hF.trans (if_pos h59)
          refine lv_iconst (v := 1) hx hb d_Mo_order_117 (by decide) ?_
          refine lv_iload hx hb d_Mo_order_118 (lv_at hl 0 rfl) ?_
          refine lv_if_ge hx hb d_Mo_order_120 rfl (fun h60 => ?_) (fun h60 => ?_)
          · skip
            have hF := hF.trans (if_pos h60)
            refine lv_iconst (v := 1) hx hb d_Mo_order_127 (by decide) ?_
            refine lv_isub hx hb d_Mo_order_128 ?_
            refine lv_goto hx hb d_Mo_order_129 rfl ?_
            refine lv_istore hx hb d_Mo_order_140 hl (by decide) rfl (fun ls hl => ?_)
            refine lv_iload hx hb d_Mo_order_142 (lv_at hl 0 rfl) ?_
            refine lv_if_eq hx hb d_Mo_order_144 rfl (fun _ => ?_) (fun h => absurd h (by decide))
            refine lv_aload_n hx hb d_Mo_order_152 rfl (lv_at hl 5 rfl) ?_
            refine lv_aload_n hx hb d_Mo_order_153 rfl (lv_at hl 5 rfl) ?_
            refine lv_iload_n hx hb d_Mo_order_154 rfl (lv_at hl 6 rfl) ?_
            refine gy_V B hl.1 hw (t_Mo_local G _ _ ow fu x1 (nn hno hF)) (kd_Mo_local T) (ki_Mo T) (km_Mo_199 T) (ka_Mo_local T) (ks_Mo_local T) ⟨by decide, by decide, by rfl⟩ (rv_Mo hK hw rfl) rfl (Nat.le_of_ble_eq_true rfl) ⟨by decide, by decide⟩ ⟨by decide, by decide⟩ d_Mo_order_155 (fun v M61 r61 H locs hw hp => ?_) (fun x ek M61 r61 H locs hw hE hp => gr_t B hexc hw hE (by decide) (by decide) (hF.trans (bnd_ex hp)))
            obtain ⟨v61, rfl, hp⟩ := hp
            have hF := hF.trans (bnd_ok hp)
            refine lv_aload_n hx hb d_Mo_order_158 rfl (lv_at hl 5 rfl) ?_
            refine lv_iload_n hx hb d_Mo_order_159 rfl (lv_at hl 6 rfl) ?_
            refine gy_V B hl.1 hw (t_Mo_localSize G _ _ ow fu x1 (nn hno hF)) (kd_Mo_localSize T) (ki_Mo T) (km_Mo_202 T) (ka_Mo_localSize T) (ks_Mo_localSize T) ⟨by decide, by decide, by rfl⟩ (rv_Mo hK hw rfl) rfl (Nat.le_of_ble_eq_true rfl) ⟨by decide, by decide⟩ ⟨by decide, by decide⟩ d_Mo_order_160 (fun v M62 r62 H locs hw hp => ?_) (fun x ek M62 r62 H locs hw hE hp => gr_t B hexc hw hE (by decide) (by decide) (hF.trans (bnd_ex hp)))
            obtain ⟨v62, rfl, hp⟩ := hp
            have hF := hF.trans (bnd_ok hp)
            refine lv_aload_n hx hb d_Mo_order_163 rfl (lv_at hl 5 rfl) ?_
            refine lv_iload_n hx hb d_Mo_order_164 rfl (lv_at hl 7 rfl) ?_
            refine gy_V B hl.1 hw (t_Mo_local G _ _ ow fu x2 (nn hno hF)) (kd_Mo_local T) (ki_Mo T) (km_Mo_199 T) (ka_Mo_local T) (ks_Mo_local T) ⟨by decide, by decide, by rfl⟩ (rv_Mo hK hw rfl) rfl (Nat.le_of_ble_eq_true rfl) ⟨by decide, by decide⟩ ⟨by decide, by decide⟩ d_Mo_order_165 (fun v M63 r63 H locs hw hp => ?_) (fun x ek M63 r63 H locs hw hE hp => gr_t B hexc hw hE (by decide) (by decide) (hF.trans (bnd_ex hp)))
            obtain ⟨v63, rfl, hp⟩ := hp
            have hF := hF.trans (bnd_ok hp)
            refine lv_aload_n hx hb d_Mo_order_168 rfl (lv_at hl 5 rfl) ?_
            refine lv_iload_n hx hb d_Mo_order_169 rfl (lv_at hl 7 rfl) ?_
            refine gy_V B hl.1 hw (t_Mo_localSize G _ _ ow fu x2 (nn hno hF)) (kd_Mo_localSize T) (ki_Mo T) (km_Mo_202 T) (ka_Mo_localSize T) (ks_Mo_localSize T) ⟨by decide, by decide, by rfl⟩ (rv_Mo hK hw rfl) rfl (Nat.le_of_ble_eq_true rfl) ⟨by decide, by decide⟩ ⟨by decide, by decide⟩ d_Mo_order_170 (fun v M64 r64 H locs hw hp => ?_) (fun x ek M64 r64 H locs hw hE hp => gr_t B hexc hw hE (by decide) (by decide) (hF.trans (bnd_ex hp)))
            obtain ⟨v64, rfl, hp⟩ := hp
            have hF := hF.trans (bnd_ok hp)
            refine gy_V B hl.1 hw (t_Mo_compare G _ _ ow fu v61 v62 v63 v64 (nn hno hF)) (kd_Mo_compare T) (ki_Mo T) (km_Mo_166 T) (ka_Mo_compare T) (ks_Mo_compare T) ⟨by decide, by decide, by rfl⟩ (rv_Mo hK hw rfl) rfl (Nat.le_of_ble_eq_true rfl) ⟨by decide, by decide⟩ ⟨by decide, by decide⟩ d_Mo_order_173 (fun v M65 r65 H locs hw hp => ?_) (fun x ek M65 r65 H locs hw hE hp => gr_t B hexc hw hE (by decide) (by decide) (hF.trans (bnd_ex hp)))
            obtain ⟨v65, rfl, hp⟩ := hp
            have hF := hF.trans (bnd_ok hp)
            exact gr_i B hw d_Mo_order_176 ⟨_, rfl, hF⟩
          · skip
            have hF := hF.trans (if_neg h60)
            refine lv_iconst (v := 0) hx hb d_Mo_order_123 (by decide) ?_
            refine lv_goto hx hb d_Mo_order_124 rfl ?_
            refine lv_isub hx hb d_Mo_order_128 ?_
            refine lv_goto hx hb d_Mo_order_129 rfl ?_
            refine lv_istore hx hb d_Mo_order_140 hl (by decide) rfl (fun ls hl => ?_)
            refine lv_iload hx hb d_Mo_order_142 (lv_at hl 0 rfl) ?_
            refine lv_if_eq hx hb d_Mo_order_144 rfl (fun h => absurd h (by decide)) (fun _ => ?_)
            refine lv_iload hx hb d_Mo_order_147 (lv_at hl 0 rfl) ?_
            refine lv_goto hx hb d_Mo_order_149 rfl ?_
            exact gr_i B hw d_Mo_order_176 ⟨_, rfl, hF⟩
        · skip
          have hF := hF.trans (if_neg h59)
          refine lv_iconst (v := 0) hx hb d_Mo_order_113 (by decide) ?_
          refine lv_goto hx hb d_Mo_order_114 rfl ?_
          refine lv_iload hx hb d_Mo_order_118 (lv_at hl 0 rfl) ?_
          refine lv_if_ge hx hb d_Mo_order_120 rfl (fun h66 => ?_) (fun h66 => ?_)
          · skip
            have hF := hF.trans (if_pos h66)
            refine lv_iconst (v := 1) hx hb d_Mo_order_127 (by decide) ?_
            refine lv_isub hx hb d_Mo_order_128 ?_
            refine lv_goto hx hb d_Mo_order_129 rfl ?_
            refine lv_istore hx hb d_Mo_order_140 hl (by decide) rfl (fun ls hl => ?_)
            refine lv_iload hx hb d_Mo_order_142 (lv_at hl 0 rfl) ?_
            refine lv_if_eq hx hb d_Mo_order_144 rfl (fun h => absurd h (by decide)) (fun _ => ?_)
            refine lv_iload hx hb d_Mo_order_147 (lv_at hl 0 rfl) ?_
            refine lv_goto hx hb d_Mo_order_149 rfl ?_
            exact gr_i B hw d_Mo_order_176 ⟨_, rfl, hF⟩
          · skip
            have hF := hF.trans (if_neg h66)
            refine lv_iconst (v := 0) hx hb d_Mo_order_123 (by decide) ?_
            refine lv_goto hx hb d_Mo_order_124 rfl ?_
            refine lv_isub hx hb d_Mo_order_128 ?_
            refine lv_goto hx hb d_Mo_order_129 rfl ?_
            refine lv_istore hx hb d_Mo_order_140 hl (by decide) rfl (fun ls hl => ?_)
            refine lv_iload hx hb d_Mo_order_142 (lv_at hl 0 rfl) ?_
            refine lv_if_eq hx hb d_Mo_order_144 rfl (fun _ => ?_) (fun h => absurd h (by decide))
            refine lv_aload_n hx hb d_Mo_order_152 rfl (lv_at hl 5 rfl) ?_
            refine lv_aload_n hx hb d_Mo_order_153 rfl (lv_at hl 5 rfl) ?_
            refine lv_iload_n hx hb d_Mo_order_154 rfl (lv_at hl 6 rfl) ?_
            refine gy_V B hl.1 hw (t_Mo_local G _ _ ow fu x1 (nn hno hF)) (kd_Mo_local T) (ki_Mo T) (km_Mo_199 T) (ka_Mo_local T) (ks_Mo_local T) ⟨by decide, by decide, by rfl⟩ (rv_Mo hK hw rfl) rfl (Nat.le_of_ble_eq_true rfl) ⟨by decide, by decide⟩ ⟨by decide, by decide⟩ d_Mo_order_155 (fun v M67 r67 H locs hw hp => ?_) (fun x ek M67 r67 H locs hw hE hp => gr_t B hexc hw hE (by decide) (by decide) (hF.trans (bnd_ex hp)))
            obtain ⟨v67, rfl, hp⟩ := hp
            have hF := hF.trans (bnd_ok hp)
            refine lv_aload_n hx hb d_Mo_order_158 rfl (lv_at hl 5 rfl) ?_
            refine lv_iload_n hx hb d_Mo_order_159 rfl (lv_at hl 6 rfl) ?_
            refine gy_V B hl.1 hw (t_Mo_localSize G _ _ ow fu x1 (nn hno hF)) (kd_Mo_localSize T) (ki_Mo T) (km_Mo_202 T) (ka_Mo_localSize T) (ks_Mo_localSize T) ⟨by decide, by decide, by rfl⟩ (rv_Mo hK hw rfl) rfl (Nat.le_of_ble_eq_true rfl) ⟨by decide, by decide⟩ ⟨by decide, by decide⟩ d_Mo_order_160 (fun v M68 r68 H locs hw hp => ?_) (fun x ek M68 r68 H locs hw hE hp => gr_t B hexc hw hE (by decide) (by decide) (hF.trans (bnd_ex hp)))
            obtain ⟨v68, rfl, hp⟩ := hp
            have hF := hF.trans (bnd_ok hp)
            refine lv_aload_n hx hb d_Mo_order_163 rfl (lv_at hl 5 rfl) ?_
            refine lv_iload_n hx hb d_Mo_order_164 rfl (lv_at hl 7 rfl) ?_
            refine gy_V B hl.1 hw (t_Mo_local G _ _ ow fu x2 (nn hno hF)) (kd_Mo_local T) (ki_Mo T) (km_Mo_199 T) (ka_Mo_local T) (ks_Mo_local T) ⟨by decide, by decide, by rfl⟩ (rv_Mo hK hw rfl) rfl (Nat.le_of_ble_eq_true rfl) ⟨by decide, by decide⟩ ⟨by decide, by decide⟩ d_Mo_order_165 (fun v M69 r69 H locs hw hp => ?_) (fun x ek M69 r69 H locs hw hE hp => gr_t B hexc hw hE (by decide) (by decide) (hF.trans (bnd_ex hp)))
            obtain ⟨v69, rfl, hp⟩ := hp
            have hF := hF.trans (bnd_ok hp)
            refine lv_aload_n hx hb d_Mo_order_168 rfl (lv_at hl 5 rfl) ?_
            refine lv_iload_n hx hb d_Mo_order_169 rfl (lv_at hl 7 rfl) ?_
            refine gy_V B hl.1 hw (t_Mo_localSize G _ _ ow fu x2 (nn hno hF)) (kd_Mo_localSize T) (ki_Mo T) (km_Mo_202 T) (ka_Mo_localSize T) (ks_Mo_localSize T) ⟨by decide, by decide, by rfl⟩ (rv_Mo hK hw rfl) rfl (Nat.le_of_ble_eq_true rfl) ⟨by decide, by decide⟩ ⟨by decide, by decide⟩ d_Mo_order_170 (fun v M70 r70 H locs hw hp => ?_) (fun x ek M70 r70 H locs hw hE hp => gr_t B hexc hw hE (by decide) (by decide) (hF.trans (bnd_ex hp)))
            obtain ⟨v70, rfl, hp⟩ := hp
            have hF := hF.trans (bnd_ok hp)
            refine gy_V B hl.1 hw (t_Mo_compare G _ _ ow fu v67 v68 v69 v70 (nn hno hF)) (kd_Mo_compare T) (ki_Mo T) (km_Mo_166 T) (ka_Mo_compare T) (ks_Mo_compare T) ⟨by decide, by decide, by rfl⟩ (rv_Mo hK hw rfl) rfl (Nat.le_of_ble_eq_true rfl) ⟨by decide, by decide⟩ ⟨by decide, by decide⟩ d_Mo_order_173 (fun v M71 r71 H locs hw hp => ?_) (fun x ek M71 r71 H locs hw hE hp => gr_t B hexc hw hE (by decide) (by decide) (hF.trans (bnd_ex hp)))
            obtain ⟨v71, rfl, hp⟩ := hp
            have hF := hF.trans (bnd_ok hp)
            exact gr_i B hw d_Mo_order_176 ⟨_, rfl, hF⟩
      · skip
        have hF := hF.trans (if_neg h58)
        refine lv_iload hx hb d_Mo_order_103 (lv_at hl 0 rfl) ?_
        refine lv_if_ge hx hb d_Mo_order_105 rfl (fun h72 => ?_) (fun h72 => ?_)
        · skip
          have hF := hF.trans (if_pos h72)
          refine lv_aload_n hx hb d_Mo_order_132 rfl (lv_at hl 4 rfl) ?_
          refine lv_iload hx hb d_Mo_order_133 (lv_at hl 1 rfl) ?_
          refine lv_iload hx hb d_Mo_order_135 (lv_at hl 0 rfl) ?_
          refine gy_V B hl.1 hw (t_Mo_compareValues G _ _ ow fu v56 v57 (nn hno hF)) (kd_Mo_compareValues T) (ki_Mo T) (km_Mo_218 T) (ka_Mo_compareValues T) (ks_Mo_compareValues T) ⟨by decide, by decide, by rfl⟩ (rv_Mo hK hw rfl) rfl (Nat.le_of_ble_eq_true rfl) ⟨by decide, by decide⟩ ⟨by decide, by decide⟩ d_Mo_order_137 (fun v M73 r73 H locs hw hp => ?_) (fun x ek M73 r73 H locs hw hE hp => gr_t B hexc hw hE (by decide) (by decide) (hF.trans (bnd_ex hp)))
          obtain ⟨v73, rfl, hp⟩ := hp
          have hF := hF.trans (bnd_ok hp)
          refine lv_istore hx hb d_Mo_order_140 hl (by decide) rfl (fun ls hl => ?_)
          refine lv_iload hx hb d_Mo_order_142 (lv_at hl 0 rfl) ?_
          refine lv_if_eq hx hb d_Mo_order_144 rfl (fun h74 => ?_) (fun h74 => ?_)
          · skip
            have hF := hF.trans (if_pos h74)
            refine lv_aload_n hx hb d_Mo_order_152 rfl (lv_at hl 5 rfl) ?_
            refine lv_aload_n hx hb d_Mo_order_153 rfl (lv_at hl 5 rfl) ?_
            refine lv_iload_n hx hb d_Mo_order_154 rfl (lv_at hl 6 rfl) ?_
            refine gy_V B hl.1 hw (t_Mo_local G _ _ ow fu x1 (nn hno hF)) (kd_Mo_local T) (ki_Mo T) (km_Mo_199 T) (ka_Mo_local T) (ks_Mo_local T) ⟨by decide, by decide, by rfl⟩ (rv_Mo hK hw rfl) rfl (Nat.le_of_ble_eq_true rfl) ⟨by decide, by decide⟩ ⟨by decide, by decide⟩ d_Mo_order_155 (fun v M75 r75 H locs hw hp => ?_) (fun x ek M75 r75 H locs hw hE hp => gr_t B hexc hw hE (by decide) (by decide) (hF.trans (bnd_ex hp)))
            obtain ⟨v75, rfl, hp⟩ := hp
            have hF := hF.trans (bnd_ok hp)
            refine lv_aload_n hx hb d_Mo_order_158 rfl (lv_at hl 5 rfl) ?_
            refine lv_iload_n hx hb d_Mo_order_159 rfl (lv_at hl 6 rfl) ?_
            refine gy_V B hl.1 hw (t_Mo_localSize G _ _ ow fu x1 (nn hno hF)) (kd_Mo_localSize T) (ki_Mo T) (km_Mo_202 T) (ka_Mo_localSize T) (ks_Mo_localSize T) ⟨by decide, by decide, by rfl⟩ (rv_Mo hK hw rfl) rfl (Nat.le_of_ble_eq_true rfl) ⟨by decide, by decide⟩ ⟨by decide, by decide⟩ d_Mo_order_160 (fun v M76 r76 H locs hw hp => ?_) (fun x ek M76 r76 H locs hw hE hp => gr_t B hexc hw hE (by decide) (by decide) (hF.trans (bnd_ex hp)))
            obtain ⟨v76, rfl, hp⟩ := hp
            have hF := hF.trans (bnd_ok hp)
            refine lv_aload_n hx hb d_Mo_order_163 rfl (lv_at hl 5 rfl) ?_
            refine lv_iload_n hx hb d_Mo_order_164 rfl (lv_at hl 7 rfl) ?_
            refine gy_V B hl.1 hw (t_Mo_local G _ _ ow fu x2 (nn hno hF)) (kd_Mo_local T) (ki_Mo T) (km_Mo_199 T) (ka_Mo_local T) (ks_Mo_local T) ⟨by decide, by decide, by rfl⟩ (rv_Mo hK hw rfl) rfl (Nat.le_of_ble_eq_true rfl) ⟨by decide, by decide⟩ ⟨by decide, by decide⟩ d_Mo_order_165 (fun v M77 r77 H locs hw hp => ?_) (fun x ek M77 r77 H locs hw hE hp => gr_t B hexc hw hE (by decide) (by decide) (hF.trans (bnd_ex hp)))
            obtain ⟨v77, rfl, hp⟩ := hp
            have hF := hF.trans (bnd_ok hp)
            refine lv_aload_n hx hb d_Mo_order_168 rfl (lv_at hl 5 rfl) ?_
            refine lv_iload_n hx hb d_Mo_order_169 rfl (lv_at hl 7 rfl) ?_
            refine gy_V B hl.1 hw (t_Mo_localSize G _ _ ow fu x2 (nn hno hF)) (kd_Mo_localSize T) (ki_Mo T) (km_Mo_202 T) (ka_Mo_localSize T) (ks_Mo_localSize T) ⟨by decide, by decide, by rfl⟩ (rv_Mo hK hw rfl) rfl (Nat.le_of_ble_eq_true rfl) ⟨by decide, by decide⟩ ⟨by decide, by decide⟩ d_Mo_order_170 (fun v M78 r78 H locs hw hp => ?_) (fun x ek M78 r78 H locs hw hE hp => gr_t B hexc hw hE (by decide) (by decide) (hF.trans (bnd_ex hp)))
            obtain ⟨v78, rfl, hp⟩ := hp
            have hF := hF.trans (bnd_ok hp)
            refine gy_V B hl.1 hw (t_Mo_compare G _ _ ow fu v75 v76 v77 v78 (nn hno hF)) (kd_Mo_compare T) (ki_Mo T) (km_Mo_166 T) (ka_Mo_compare T) (ks_Mo_compare T) ⟨by decide, by decide, by rfl⟩ (rv_Mo hK hw rfl) rfl (Nat.le_of_ble_eq_true rfl) ⟨by decide, by decide⟩ ⟨by decide, by decide⟩ d_Mo_order_173 (fun v M79 r79 H locs hw hp => ?_) (fun x ek M79 r79 H locs hw hE hp => gr_t B hexc hw hE (by decide) (by decide) (hF.trans (bnd_ex hp)))
            obtain ⟨v79, rfl, hp⟩ := hp
            have hF := hF.trans (bnd_ok hp)
            exact gr_i B hw d_Mo_order_176 ⟨_, rfl, hF⟩
          · skip
            have hF := hF.trans (if_neg h74)
            refine lv_iload hx hb d_Mo_order_147 (lv_at hl 0 rfl) ?_
            refine lv_goto hx hb d_Mo_order_149 rfl ?_
            exact gr_i B hw d_Mo_order_176 ⟨_, rfl, hF⟩
        · skip
          have hF := hF.trans (if_neg h72)
          refine lv_iload hx hb d_Mo_order_108 (lv_at hl 1 rfl) ?_
          refine lv_if_ge hx hb d_Mo_order_110 rfl (fun h80 => ?_) (fun h80 => ?_)
          · skip
            have hF := hF.trans (if_pos h80)
            refine lv_iconst (v := 1) hx hb d_Mo_order_117 (by decide) ?_
            refine lv_iload hx hb d_Mo_order_118 (lv_at hl 0 rfl) ?_
            refine lv_if_ge hx hb d_Mo_order_120 rfl (fun h81 => ?_) (fun h81 => ?_)
            · skip
              have hF := hF.trans (if_pos h81)
              refine lv_iconst (v := 1) hx hb d_Mo_order_127 (by decide) ?_
              refine lv_isub hx hb d_Mo_order_128 ?_
              refine lv_goto hx hb d_Mo_order_129 rfl ?_
              refine lv_istore hx hb d_Mo_order_140 hl (by decide) rfl (fun ls hl => ?_)
              refine lv_iload hx hb d_Mo_order_142 (lv_at hl 0 rfl) ?_
              refine lv_if_eq hx hb d_Mo_order_144 rfl (fun _ => ?_) (fun h => absurd h (by decide))
              refine lv_aload_n hx hb d_Mo_order_152 rfl (lv_at hl 5 rfl) ?_
              refine lv_aload_n hx hb d_Mo_order_153 rfl (lv_at hl 5 rfl) ?_
              refine lv_iload_n hx hb d_Mo_order_154 rfl (lv_at hl 6 rfl) ?_
              refine gy_V B hl.1 hw (t_Mo_local G _ _ ow fu x1 (nn hno hF)) (kd_Mo_local T) (ki_Mo T) (km_Mo_199 T) (ka_Mo_local T) (ks_Mo_local T) ⟨by decide, by decide, by rfl⟩ (rv_Mo hK hw rfl) rfl (Nat.le_of_ble_eq_true rfl) ⟨by decide, by decide⟩ ⟨by decide, by decide⟩ d_Mo_order_155 (fun v M82 r82 H locs hw hp => ?_) (fun x ek M82 r82 H locs hw hE hp => gr_t B hexc hw hE (by decide) (by decide) (hF.trans (bnd_ex hp)))
              obtain ⟨v82, rfl, hp⟩ := hp
              have hF := hF.trans (bnd_ok hp)
              refine lv_aload_n hx hb d_Mo_order_158 rfl (lv_at hl 5 rfl) ?_
              refine lv_iload_n hx hb d_Mo_order_159 rfl (lv_at hl 6 rfl) ?_
              refine gy_V B hl.1 hw (t_Mo_localSize G _ _ ow fu x1 (nn hno hF)) (kd_Mo_localSize T) (ki_Mo T) (km_Mo_202 T) (ka_Mo_localSize T) (ks_Mo_localSize T) ⟨by decide, by decide, by rfl⟩ (rv_Mo hK hw rfl) rfl (Nat.le_of_ble_eq_true rfl) ⟨by decide, by decide⟩ ⟨by decide, by decide⟩ d_Mo_order_160 (fun v M83 r83 H locs hw hp => ?_) (fun x ek M83 r83 H locs hw hE hp => gr_t B hexc hw hE (by decide) (by decide) (hF.trans (bnd_ex hp)))
              obtain ⟨v83, rfl, hp⟩ := hp
              have hF := hF.trans (bnd_ok hp)
              refine lv_aload_n hx hb d_Mo_order_163 rfl (lv_at hl 5 rfl) ?_
              refine lv_iload_n hx hb d_Mo_order_164 rfl (lv_at hl 7 rfl) ?_
              refine gy_V B hl.1 hw (t_Mo_local G _ _ ow fu x2 (nn hno hF)) (kd_Mo_local T) (ki_Mo T) (km_Mo_199 T) (ka_Mo_local T) (ks_Mo_local T) ⟨by decide, by decide, by rfl⟩ (rv_Mo hK hw rfl) rfl (Nat.le_of_ble_eq_true rfl) ⟨by decide, by decide⟩ ⟨by decide, by decide⟩ d_Mo_order_165 (fun v M84 r84 H locs hw hp => ?_) (fun x ek M84 r84 H locs hw hE hp => gr_t B hexc hw hE (by decide) (by decide) (hF.trans (bnd_ex hp)))
              obtain ⟨v84, rfl, hp⟩ := hp
              have hF := hF.trans (bnd_ok hp)
              refine lv_aload_n hx hb d_Mo_order_168 rfl (lv_at hl 5 rfl) ?_
              refine lv_iload_n hx hb d_Mo_order_169 rfl (lv_at hl 7 rfl) ?_
              refine gy_V B hl.1 hw (t_Mo_localSize G _ _ ow fu x2 (nn hno hF)) (kd_Mo_localSize T) (ki_Mo T) (km_Mo_202 T) (ka_Mo_localSize T) (ks_Mo_localSize T) ⟨by decide, by decide, by rfl⟩ (rv_Mo hK hw rfl) rfl (Nat.le_of_ble_eq_true rfl) ⟨by decide, by decide⟩ ⟨by decide, by decide⟩ d_Mo_order_170 (fun v M85 r85 H locs hw hp => ?_) (fun x ek M85 r85 H locs hw hE hp => gr_t B hexc hw hE (by decide) (by decide) (hF.trans (bnd_ex hp)))
              obtain ⟨v85, rfl, hp⟩ := hp
              have hF := hF.trans (bnd_ok hp)
              refine gy_V B hl.1 hw (t_Mo_compare G _ _ ow fu v82 v83 v84 v85 (nn hno hF)) (kd_Mo_compare T) (ki_Mo T) (km_Mo_166 T) (ka_Mo_compare T) (ks_Mo_compare T) ⟨by decide, by decide, by rfl⟩ (rv_Mo hK hw rfl) rfl (Nat.le_of_ble_eq_true rfl) ⟨by decide, by decide⟩ ⟨by decide, by decide⟩ d_Mo_order_173 (fun v M86 r86 H locs hw hp => ?_) (fun x ek M86 r86 H locs hw hE hp => gr_t B hexc hw hE (by decide) (by decide) (hF.trans (bnd_ex hp)))
              obtain ⟨v86, rfl, hp⟩ := hp
              have hF := hF.trans (bnd_ok hp)
              exact gr_i B hw d_Mo_order_176 ⟨_, rfl, hF⟩
            · skip
              have hF := hF.trans (if_neg h81)
              refine lv_iconst (v := 0) hx hb d_Mo_order_123 (by decide) ?_
              refine lv_goto hx hb d_Mo_order_124 rfl ?_
              refine lv_isub hx hb d_Mo_order_128 ?_
              refine lv_goto hx hb d_Mo_order_129 rfl ?_
              refine lv_istore hx hb d_Mo_order_140 hl (by decide) rfl (fun ls hl => ?_)
              refine lv_iload hx hb d_Mo_order_142 (lv_at hl 0 rfl) ?_
              refine lv_if_eq hx hb d_Mo_order_144 rfl (fun h => absurd h (by decide)) (fun _ => ?_)
              refine lv_iload hx hb d_Mo_order_147 (lv_at hl 0 rfl) ?_
              refine lv_goto hx hb d_Mo_order_149 rfl ?_
              exact gr_i B hw d_Mo_order_176 ⟨_, rfl, hF⟩
          · skip
            have hF := hF.trans (if_neg h80)
            refine lv_iconst (v := 0) hx hb d_Mo_order_113 (by decide) ?_
            refine lv_goto hx hb d_Mo_order_114 rfl ?_
            refine lv_iload hx hb d_Mo_order_118 (lv_at hl 0 rfl) ?_
            refine lv_if_ge hx hb d_Mo_order_120 rfl (fun h87 => ?_) (fun h87 => ?_)
            · skip
              have hF := hF.trans (if_pos h87)
              refine lv_iconst (v := 1) hx hb d_Mo_order_127 (by decide) ?_
              refine lv_isub hx hb d_Mo_order_128 ?_
              refine lv_goto hx hb d_Mo_order_129 rfl ?_
              refine lv_istore hx hb d_Mo_order_140 hl (by decide) rfl (fun ls hl => ?_)
              refine lv_iload hx hb d_Mo_order_142 (lv_at hl 0 rfl) ?_
              refine lv_if_eq hx hb d_Mo_order_144 rfl (fun h => absurd h (by decide)) (fun _ => ?_)
              refine lv_iload hx hb d_Mo_order_147 (lv_at hl 0 rfl) ?_
              refine lv_goto hx hb d_Mo_order_149 rfl ?_
              exact gr_i B hw d_Mo_order_176 ⟨_, rfl, hF⟩
            · skip
              have hF := hF.trans (if_neg h87)
              refine lv_iconst (v := 0) hx hb d_Mo_order_123 (by decide) ?_
              refine lv_goto hx hb d_Mo_order_124 rfl ?_
              refine lv_isub hx hb d_Mo_order_128 ?_
              refine lv_goto hx hb d_Mo_order_129 rfl ?_
              refine lv_istore hx hb d_Mo_order_140 hl (by decide) rfl (fun ls hl => ?_)
              refine lv_iload hx hb d_Mo_order_142 (lv_at hl 0 rfl) ?_
              refine lv_if_eq hx hb d_Mo_order_144 rfl (fun _ => ?_) (fun h => absurd h (by decide))
              refine lv_aload_n hx hb d_Mo_order_152 rfl (lv_at hl 5 rfl) ?_
              refine lv_aload_n hx hb d_Mo_order_153 rfl (lv_at hl 5 rfl) ?_
              refine lv_iload_n hx hb d_Mo_order_154 rfl (lv_at hl 6 rfl) ?_
              refine gy_V B hl.1 hw (t_Mo_local G _ _ ow fu x1 (nn hno hF)) (kd_Mo_local T) (ki_Mo T) (km_Mo_199 T) (ka_Mo_local T) (ks_Mo_local T) ⟨by decide, by decide, by rfl⟩ (rv_Mo hK hw rfl) rfl (Nat.le_of_ble_eq_true rfl) ⟨by decide, by decide⟩ ⟨by decide, by decide⟩ d_Mo_order_155 (fun v M88 r88 H locs hw hp => ?_) (fun x ek M88 r88 H locs hw hE hp => gr_t B hexc hw hE (by decide) (by decide) (hF.trans (bnd_ex hp)))
              obtain ⟨v88, rfl, hp⟩ := hp
              have hF := hF.trans (bnd_ok hp)
              refine lv_aload_n hx hb d_Mo_order_158 rfl (lv_at hl 5 rfl) ?_
              refine lv_iload_n hx hb d_Mo_order_159 rfl (lv_at hl 6 rfl) ?_
              refine gy_V B hl.1 hw (t_Mo_localSize G _ _ ow fu x1 (nn hno hF)) (kd_Mo_localSize T) (ki_Mo T) (km_Mo_202 T) (ka_Mo_localSize T) (ks_Mo_localSize T) ⟨by decide, by decide, by rfl⟩ (rv_Mo hK hw rfl) rfl (Nat.le_of_ble_eq_true rfl) ⟨by decide, by decide⟩ ⟨by decide, by decide⟩ d_Mo_order_160 (fun v M89 r89 H locs hw hp => ?_) (fun x ek M89 r89 H locs hw hE hp => gr_t B hexc hw hE (by decide) (by decide) (hF.trans (bnd_ex hp)))
              obtain ⟨v89, rfl, hp⟩ := hp
              have hF := hF.trans (bnd_ok hp)
              refine lv_aload_n hx hb d_Mo_order_163 rfl (lv_at hl 5 rfl) ?_
              refine lv_iload_n hx hb d_Mo_order_164 rfl (lv_at hl 7 rfl) ?_
              refine gy_V B hl.1 hw (t_Mo_local G _ _ ow fu x2 (nn hno hF)) (kd_Mo_local T) (ki_Mo T) (km_Mo_199 T) (ka_Mo_local T) (ks_Mo_local T) ⟨by decide, by decide, by rfl⟩ (rv_Mo hK hw rfl) rfl (Nat.le_of_ble_eq_true rfl) ⟨by decide, by decide⟩ ⟨by decide, by decide⟩ d_Mo_order_165 (fun v M90 r90 H locs hw hp => ?_) (fun x ek M90 r90 H locs hw hE hp => gr_t B hexc hw hE (by decide) (by decide) (hF.trans (bnd_ex hp)))
              obtain ⟨v90, rfl, hp⟩ := hp
              have hF := hF.trans (bnd_ok hp)
              refine lv_aload_n hx hb d_Mo_order_168 rfl (lv_at hl 5 rfl) ?_
              refine lv_iload_n hx hb d_Mo_order_169 rfl (lv_at hl 7 rfl) ?_
              refine gy_V B hl.1 hw (t_Mo_localSize G _ _ ow fu x2 (nn hno hF)) (kd_Mo_localSize T) (ki_Mo T) (km_Mo_202 T) (ka_Mo_localSize T) (ks_Mo_localSize T) ⟨by decide, by decide, by rfl⟩ (rv_Mo hK hw rfl) rfl (Nat.le_of_ble_eq_true rfl) ⟨by decide, by decide⟩ ⟨by decide, by decide⟩ d_Mo_order_170 (fun v M91 r91 H locs hw hp => ?_) (fun x ek M91 r91 H locs hw hE hp => gr_t B hexc hw hE (by decide) (by decide) (hF.trans (bnd_ex hp)))
              obtain ⟨v91, rfl, hp⟩ := hp
              have hF := hF.trans (bnd_ok hp)
              refine gy_V B hl.1 hw (t_Mo_compare G _ _ ow fu v88 v89 v90 v91 (nn hno hF)) (kd_Mo_compare T) (ki_Mo T) (km_Mo_166 T) (ka_Mo_compare T) (ks_Mo_compare T) ⟨by decide, by decide, by rfl⟩ (rv_Mo hK hw rfl) rfl (Nat.le_of_ble_eq_true rfl) ⟨by decide, by decide⟩ ⟨by decide, by decide⟩ d_Mo_order_173 (fun v M92 r92 H locs hw hp => ?_) (fun x ek M92 r92 H locs hw hE hp => gr_t B hexc hw hE (by decide) (by decide) (hF.trans (bnd_ex hp)))
              obtain ⟨v92, rfl, hp⟩ := hp
              have hF := hF.trans (bnd_ok hp)
              exact gr_i B hw d_Mo_order_176 ⟨_, rfl, hF⟩
    · skip
      have hF := hF.trans (if_neg h55)
      refine lv_aload_n hx hb d_Mo_order_33 rfl (lv_at hl 2 rfl) ?_
      refine gf_Mo_colon hx hb T hown hK hw rfl (kf_Mo_44 T) d_Mo_order_34 ?_
      refine lv_iload_n hx hb d_Mo_order_37 rfl (lv_at hl 3 rfl) ?_
      have g93 := ng hno hF
      have hF := hF.trans (gd_yes g93)
      refine ga_Mo_colon hx hb hK hw rfl g93 d_Mo_order_38 ?_
      refine lv_if_ge hx hb d_Mo_order_39 rfl (fun h94 => ?_) (fun h94 => ?_)
      · skip
        have hF := hF.trans (if_pos h94)
        refine lv_aload_n hx hb d_Mo_order_46 rfl (lv_at hl 2 rfl) ?_
        refine gf_Mo_colon hx hb T hown hK hw rfl (kf_Mo_44 T) d_Mo_order_47 ?_
        refine lv_iload_n hx hb d_Mo_order_50 rfl (lv_at hl 4 rfl) ?_
        have g95 := ng hno hF
        have hF := hF.trans (gd_yes g95)
        refine ga_Mo_colon hx hb hK hw rfl g95 d_Mo_order_51 ?_
        refine lv_if_ge hx hb d_Mo_order_52 rfl (fun h96 => ?_) (fun h96 => ?_)
        · skip
          have hF := hF.trans (if_pos h96)
          refine lv_aload_n hx hb d_Mo_order_59 rfl (lv_at hl 2 rfl) ?_
          refine lv_aload_n hx hb d_Mo_order_60 rfl (lv_at hl 2 rfl) ?_
          refine lv_iload_n hx hb d_Mo_order_61 rfl (lv_at hl 3 rfl) ?_
          refine gy_V B hl.1 hw (t_Mo_local G _ _ ow fu x1 (nn hno hF)) (kd_Mo_local T) (ki_Mo T) (km_Mo_199 T) (ka_Mo_local T) (ks_Mo_local T) ⟨by decide, by decide, by rfl⟩ (rv_Mo hK hw rfl) rfl (Nat.le_of_ble_eq_true rfl) ⟨by decide, by decide⟩ ⟨by decide, by decide⟩ d_Mo_order_62 (fun v M97 r97 H locs hw hp => ?_) (fun x ek M97 r97 H locs hw hE hp => gr_t B hexc hw hE (by decide) (by decide) (hF.trans (bnd_ex hp)))
          obtain ⟨v97, rfl, hp⟩ := hp
          have hF := hF.trans (bnd_ok hp)
          refine lv_aload_n hx hb d_Mo_order_65 rfl (lv_at hl 2 rfl) ?_
          refine lv_iload_n hx hb d_Mo_order_66 rfl (lv_at hl 3 rfl) ?_
          refine gy_V B hl.1 hw (t_Mo_localSize G _ _ ow fu x1 (nn hno hF)) (kd_Mo_localSize T) (ki_Mo T) (km_Mo_202 T) (ka_Mo_localSize T) (ks_Mo_localSize T) ⟨by decide, by decide, by rfl⟩ (rv_Mo hK hw rfl) rfl (Nat.le_of_ble_eq_true rfl) ⟨by decide, by decide⟩ ⟨by decide, by decide⟩ d_Mo_order_67 (fun v M98 r98 H locs hw hp => ?_) (fun x ek M98 r98 H locs hw hE hp => gr_t B hexc hw hE (by decide) (by decide) (hF.trans (bnd_ex hp)))
          obtain ⟨v98, rfl, hp⟩ := hp
          have hF := hF.trans (bnd_ok hp)
          refine lv_aload_n hx hb d_Mo_order_70 rfl (lv_at hl 2 rfl) ?_
          refine lv_iload_n hx hb d_Mo_order_71 rfl (lv_at hl 4 rfl) ?_
          refine gy_V B hl.1 hw (t_Mo_local G _ _ ow fu x2 (nn hno hF)) (kd_Mo_local T) (ki_Mo T) (km_Mo_199 T) (ka_Mo_local T) (ks_Mo_local T) ⟨by decide, by decide, by rfl⟩ (rv_Mo hK hw rfl) rfl (Nat.le_of_ble_eq_true rfl) ⟨by decide, by decide⟩ ⟨by decide, by decide⟩ d_Mo_order_72 (fun v M99 r99 H locs hw hp => ?_) (fun x ek M99 r99 H locs hw hE hp => gr_t B hexc hw hE (by decide) (by decide) (hF.trans (bnd_ex hp)))
          obtain ⟨v99, rfl, hp⟩ := hp
          have hF := hF.trans (bnd_ok hp)
          refine lv_aload_n hx hb d_Mo_order_75 rfl (lv_at hl 2 rfl) ?_
          refine lv_iload_n hx hb d_Mo_order_76 rfl (lv_at hl 4 rfl) ?_
          refine gy_V B hl.1 hw (t_Mo_localSize G _ _ ow fu x2 (nn hno hF)) (kd_Mo_localSize T) (ki_Mo T) (km_Mo_202 T) (ka_Mo_localSize T) (ks_Mo_localSize T) ⟨by decide, by decide, by rfl⟩ (rv_Mo hK hw rfl) rfl (Nat.le_of_ble_eq_true rfl) ⟨by decide, by decide⟩ ⟨by decide, by decide⟩ d_Mo_order_77 (fun v M100 r100 H locs hw hp => ?_) (fun x ek M100 r100 H locs hw hE hp => gr_t B hexc hw hE (by decide) (by decide) (hF.trans (bnd_ex hp)))
          obtain ⟨v100, rfl, hp⟩ := hp
          have hF := hF.trans (bnd_ok hp)
          refine gy_V B hl.1 hw (t_Mo_compare G _ _ ow fu v97 v98 v99 v100 (nn hno hF)) (kd_Mo_compare T) (ki_Mo T) (km_Mo_166 T) (ka_Mo_compare T) (ks_Mo_compare T) ⟨by decide, by decide, by rfl⟩ (rv_Mo hK hw rfl) rfl (Nat.le_of_ble_eq_true rfl) ⟨by decide, by decide⟩ ⟨by decide, by decide⟩ d_Mo_order_80 (fun v M101 r101 H locs hw hp => ?_) (fun x ek M101 r101 H locs hw hE hp => gr_t B hexc hw hE (by decide) (by decide) (hF.trans (bnd_ex hp)))
          obtain ⟨v101, rfl, hp⟩ := hp
          have hF := hF.trans (bnd_ok hp)
          exact gr_i B hw d_Mo_order_83 ⟨_, rfl, hF⟩
        · skip
          have hF := hF.trans (if_neg h96)
          refine lv_iconst (v := 1) hx hb d_Mo_order_55 (by decide) ?_
          refine lv_goto hx hb d_Mo_order_56 rfl ?_
          exact gr_i B hw d_Mo_order_83 ⟨_, rfl, hF⟩
      · skip
        have hF := hF.trans (if_neg h94)
        refine lv_iconst (v := -1) hx hb d_Mo_order_42 (by decide) ?_
        refine lv_goto hx hb d_Mo_order_43 rfl ?_
        exact gr_i B hw d_Mo_order_83 ⟨_, rfl, hF⟩
  · skip
    have hF := hF.trans (if_neg h54)
    refine lv_iload_n hx hb d_Mo_order_19 rfl (lv_at hl 1 rfl) ?_
    refine lv_if_eq hx hb d_Mo_order_20 rfl (fun h102 => ?_) (fun h102 => ?_)
    · skip
      have hF := hF.trans (if_pos h102)
      refine lv_iconst (v := 1) hx hb d_Mo_order_27 (by decide) ?_
      exact gr_i B hw d_Mo_order_28 ⟨_, rfl, hF⟩
    · skip
      have hF := hF.trans (if_neg h102)
      refine lv_iconst (v := -1) hx hb d_Mo_order_23 (by decide) ?_
      refine lv_goto hx hb d_Mo_order_24 rfl ?_
      exact gr_i B hw d_Mo_order_28 ⟨_, rfl, hF⟩
