theorem d_Tr_init_0 : decode b_Tr_init 0 = .ok (.aload_n 0, 1) := by decide +kernel
theorem d_Tr_init_1 : decode b_Tr_init 1 = .ok (.invokespecial 3, 3) := by decide +kernel
theorem d_Tr_init_4 : decode b_Tr_init 4 = .ok (.aload_n 0, 1) := by decide +kernel
theorem d_Tr_init_5 : decode b_Tr_init 5 = .ok (.new 9, 3) := by decide +kernel
theorem d_Tr_init_8 : decode b_Tr_init 8 = .ok (.dup, 1) := by decide +kernel
theorem d_Tr_init_9 : decode b_Tr_init 9 = .ok (.sipush 240, 3) := by decide +kernel
theorem d_Tr_init_12 : decode b_Tr_init 12 = .ok (.invokespecial 11, 3) := by decide +kernel
theorem d_Tr_init_15 : decode b_Tr_init 15 = .ok (.putfield 14, 3) := by decide +kernel
theorem d_Tr_init_18 : decode b_Tr_init 18 = .ok (.aload_n 0, 1) := by decide +kernel
theorem d_Tr_init_19 : decode b_Tr_init 19 = .ok (.new 9, 3) := by decide +kernel
theorem d_Tr_init_22 : decode b_Tr_init 22 = .ok (.dup, 1) := by decide +kernel
theorem d_Tr_init_23 : decode b_Tr_init 23 = .ok (.sipush 240, 3) := by decide +kernel
theorem d_Tr_init_26 : decode b_Tr_init 26 = .ok (.invokespecial 11, 3) := by decide +kernel
theorem d_Tr_init_29 : decode b_Tr_init 29 = .ok (.putfield 20, 3) := by decide +kernel
theorem d_Tr_init_32 : decode b_Tr_init 32 = .ok (.aload_n 0, 1) := by decide +kernel
theorem d_Tr_init_33 : decode b_Tr_init 33 = .ok (.new 9, 3) := by decide +kernel
theorem d_Tr_init_36 : decode b_Tr_init 36 = .ok (.dup, 1) := by decide +kernel
theorem d_Tr_init_37 : decode b_Tr_init 37 = .ok (.sipush 240, 3) := by decide +kernel
theorem d_Tr_init_40 : decode b_Tr_init 40 = .ok (.invokespecial 11, 3) := by decide +kernel
theorem d_Tr_init_43 : decode b_Tr_init 43 = .ok (.putfield 23, 3) := by decide +kernel
theorem d_Tr_init_46 : decode b_Tr_init 46 = .ok (.aload_n 0, 1) := by decide +kernel
theorem d_Tr_init_47 : decode b_Tr_init 47 = .ok (.sipush 240, 3) := by decide +kernel
theorem d_Tr_init_50 : decode b_Tr_init 50 = .ok (.newarray .int, 2) := by decide +kernel
theorem d_Tr_init_52 : decode b_Tr_init 52 = .ok (.putfield 26, 3) := by decide +kernel
theorem d_Tr_init_55 : decode b_Tr_init 55 = .ok (.aload_n 0, 1) := by decide +kernel
theorem d_Tr_init_56 : decode b_Tr_init 56 = .ok (.bipush 24, 2) := by decide +kernel
theorem d_Tr_init_58 : decode b_Tr_init 58 = .ok (.anewarray 30, 3) := by decide +kernel
theorem d_Tr_init_61 : decode b_Tr_init 61 = .ok (.putfield 32, 3) := by decide +kernel
theorem d_Tr_init_64 : decode b_Tr_init 64 = .ok (.aload_n 0, 1) := by decide +kernel
theorem d_Tr_init_65 : decode b_Tr_init 65 = .ok (.new 36, 3) := by decide +kernel
theorem d_Tr_init_68 : decode b_Tr_init 68 = .ok (.dup, 1) := by decide +kernel
theorem d_Tr_init_69 : decode b_Tr_init 69 = .ok (.invokespecial 38, 3) := by decide +kernel
theorem d_Tr_init_72 : decode b_Tr_init 72 = .ok (.putfield 39, 3) := by decide +kernel
theorem d_Tr_init_75 : decode b_Tr_init 75 = .ok (.aload_n 0, 1) := by decide +kernel
theorem d_Tr_init_76 : decode b_Tr_init 76 = .ok (.iconst 0, 1) := by decide +kernel
theorem d_Tr_init_77 : decode b_Tr_init 77 = .ok (.putfield 43, 3) := by decide +kernel
theorem d_Tr_init_80 : decode b_Tr_init 80 = .ok (.iconst 0, 1) := by decide +kernel
theorem d_Tr_init_81 : decode b_Tr_init 81 = .ok (.istore_n 1, 1) := by decide +kernel
theorem d_Tr_init_82 : decode b_Tr_init 82 = .ok (.iload_n 1, 1) := by decide +kernel
theorem d_Tr_init_83 : decode b_Tr_init 83 = .ok (.bipush 24, 2) := by decide +kernel
theorem d_Tr_init_85 : decode b_Tr_init 85 = .ok (.if_icmp .ge 23, 3) := by decide +kernel
theorem d_Tr_init_88 : decode b_Tr_init 88 = .ok (.aload_n 0, 1) := by decide +kernel
theorem d_Tr_init_89 : decode b_Tr_init 89 = .ok (.getfield 32, 3) := by decide +kernel
theorem d_Tr_init_92 : decode b_Tr_init 92 = .ok (.iload_n 1, 1) := by decide +kernel
theorem d_Tr_init_93 : decode b_Tr_init 93 = .ok (.new 30, 3) := by decide +kernel
theorem d_Tr_init_96 : decode b_Tr_init 96 = .ok (.dup, 1) := by decide +kernel
theorem d_Tr_init_97 : decode b_Tr_init 97 = .ok (.iload_n 1, 1) := by decide +kernel
theorem d_Tr_init_98 : decode b_Tr_init 98 = .ok (.invokespecial 47, 3) := by decide +kernel
theorem d_Tr_init_101 : decode b_Tr_init 101 = .ok (.aastore, 1) := by decide +kernel
theorem d_Tr_init_102 : decode b_Tr_init 102 = .ok (.iinc 1 1, 3) := by decide +kernel
theorem d_Tr_init_105 : decode b_Tr_init 105 = .ok (.goto (-23), 3) := by decide +kernel
theorem d_Tr_init_108 : decode b_Tr_init 108 = .ok (.return_, 1) := by decide +kernel
theorem d_Rd_init_0 : decode b_Rd_init 0 = .ok (.aload_n 0, 1) := by decide +kernel
theorem d_Rd_init_1 : decode b_Rd_init 1 = .ok (.invokespecial 3, 3) := by decide +kernel
theorem d_Rd_init_4 : decode b_Rd_init 4 = .ok (.aload_n 0, 1) := by decide +kernel
theorem d_Rd_init_5 : decode b_Rd_init 5 = .ok (.new 9, 3) := by decide +kernel
theorem d_Rd_init_8 : decode b_Rd_init 8 = .ok (.dup, 1) := by decide +kernel
theorem d_Rd_init_9 : decode b_Rd_init 9 = .ok (.invokespecial 11, 3) := by decide +kernel
theorem d_Rd_init_12 : decode b_Rd_init 12 = .ok (.putfield 12, 3) := by decide +kernel
theorem d_Rd_init_15 : decode b_Rd_init 15 = .ok (.aload_n 0, 1) := by decide +kernel
theorem d_Rd_init_16 : decode b_Rd_init 16 = .ok (.iconst 0, 1) := by decide +kernel
theorem d_Rd_init_17 : decode b_Rd_init 17 = .ok (.putfield 18, 3) := by decide +kernel
theorem d_Rd_init_20 : decode b_Rd_init 20 = .ok (.aload_n 0, 1) := by decide +kernel
theorem d_Rd_init_21 : decode b_Rd_init 21 = .ok (.aconst_null, 1) := by decide +kernel
theorem d_Rd_init_22 : decode b_Rd_init 22 = .ok (.putfield 22, 3) := by decide +kernel
theorem d_Rd_init_25 : decode b_Rd_init 25 = .ok (.aload_n 0, 1) := by decide +kernel
theorem d_Rd_init_26 : decode b_Rd_init 26 = .ok (.iconst 0, 1) := by decide +kernel
theorem d_Rd_init_27 : decode b_Rd_init 27 = .ok (.putfield 26, 3) := by decide +kernel
theorem d_Rd_init_30 : decode b_Rd_init 30 = .ok (.aload_n 0, 1) := by decide +kernel
theorem d_Rd_init_31 : decode b_Rd_init 31 = .ok (.iconst (-1), 1) := by decide +kernel
theorem d_Rd_init_32 : decode b_Rd_init 32 = .ok (.putfield 29, 3) := by decide +kernel
theorem d_Rd_init_35 : decode b_Rd_init 35 = .ok (.aload_n 0, 1) := by decide +kernel
theorem d_Rd_init_36 : decode b_Rd_init 36 = .ok (.aload_n 1, 1) := by decide +kernel
theorem d_Rd_init_37 : decode b_Rd_init 37 = .ok (.putfield 32, 3) := by decide +kernel
theorem d_Rd_init_40 : decode b_Rd_init 40 = .ok (.aload_n 0, 1) := by decide +kernel
theorem d_Rd_init_41 : decode b_Rd_init 41 = .ok (.aload_n 2, 1) := by decide +kernel
theorem d_Rd_init_42 : decode b_Rd_init 42 = .ok (.putfield 36, 3) := by decide +kernel
theorem d_Rd_init_45 : decode b_Rd_init 45 = .ok (.aload_n 0, 1) := by decide +kernel
theorem d_Rd_init_46 : decode b_Rd_init 46 = .ok (.new 40, 3) := by decide +kernel
theorem d_Rd_init_49 : decode b_Rd_init 49 = .ok (.dup, 1) := by decide +kernel
theorem d_Rd_init_50 : decode b_Rd_init 50 = .ok (.aload_n 1, 1) := by decide +kernel
theorem d_Rd_init_51 : decode b_Rd_init 51 = .ok (.invokespecial 42, 3) := by decide +kernel
theorem d_Rd_init_54 : decode b_Rd_init 54 = .ok (.putfield 45, 3) := by decide +kernel
theorem d_Rd_init_57 : decode b_Rd_init 57 = .ok (.aload_n 0, 1) := by decide +kernel
theorem d_Rd_init_58 : decode b_Rd_init 58 = .ok (.aload_n 1, 1) := by decide +kernel
theorem d_Rd_init_59 : decode b_Rd_init 59 = .ok (.getfield 49, 3) := by decide +kernel
theorem d_Rd_init_62 : decode b_Rd_init 62 = .ok (.putfield 55, 3) := by decide +kernel
theorem d_Rd_init_65 : decode b_Rd_init 65 = .ok (.return_, 1) := by decide +kernel
theorem d_MR_init_0 : decode b_MR_init 0 = .ok (.aload_n 0, 1) := by decide +kernel
theorem d_MR_init_1 : decode b_MR_init 1 = .ok (.invokespecial 3, 3) := by decide +kernel
theorem d_MR_init_4 : decode b_MR_init 4 = .ok (.aload_n 0, 1) := by decide +kernel
theorem d_MR_init_5 : decode b_MR_init 5 = .ok (.new 9, 3) := by decide +kernel
theorem d_MR_init_8 : decode b_MR_init 8 = .ok (.dup, 1) := by decide +kernel
theorem d_MR_init_9 : decode b_MR_init 9 = .ok (.sipush 240, 3) := by decide +kernel
theorem d_MR_init_12 : decode b_MR_init 12 = .ok (.invokespecial 11, 3) := by decide +kernel
theorem d_MR_init_15 : decode b_MR_init 15 = .ok (.putfield 14, 3) := by decide +kernel
theorem d_MR_init_18 : decode b_MR_init 18 = .ok (.aload_n 0, 1) := by decide +kernel
theorem d_MR_init_19 : decode b_MR_init 19 = .ok (.new 9, 3) := by decide +kernel
theorem d_MR_init_22 : decode b_MR_init 22 = .ok (.dup, 1) := by decide +kernel
theorem d_MR_init_23 : decode b_MR_init 23 = .ok (.sipush 1440, 3) := by decide +kernel
theorem d_MR_init_26 : decode b_MR_init 26 = .ok (.invokespecial 11, 3) := by decide +kernel
theorem d_MR_init_29 : decode b_MR_init 29 = .ok (.putfield 18, 3) := by decide +kernel
theorem d_MR_init_32 : decode b_MR_init 32 = .ok (.aload_n 0, 1) := by decide +kernel
theorem d_MR_init_33 : decode b_MR_init 33 = .ok (.new 21, 3) := by decide +kernel
theorem d_MR_init_36 : decode b_MR_init 36 = .ok (.dup, 1) := by decide +kernel
theorem d_MR_init_37 : decode b_MR_init 37 = .ok (.invokespecial 23, 3) := by decide +kernel
theorem d_MR_init_40 : decode b_MR_init 40 = .ok (.putfield 24, 3) := by decide +kernel
theorem d_MR_init_43 : decode b_MR_init 43 = .ok (.aload_n 0, 1) := by decide +kernel
theorem d_MR_init_44 : decode b_MR_init 44 = .ok (.new 28, 3) := by decide +kernel
theorem d_MR_init_47 : decode b_MR_init 47 = .ok (.dup, 1) := by decide +kernel
theorem d_MR_init_48 : decode b_MR_init 48 = .ok (.aload_n 0, 1) := by decide +kernel
theorem d_MR_init_49 : decode b_MR_init 49 = .ok (.getfield 24, 3) := by decide +kernel
theorem d_MR_init_52 : decode b_MR_init 52 = .ok (.invokespecial 30, 3) := by decide +kernel
theorem d_MR_init_55 : decode b_MR_init 55 = .ok (.putfield 33, 3) := by decide +kernel
theorem d_MR_init_58 : decode b_MR_init 58 = .ok (.aload_n 0, 1) := by decide +kernel
theorem d_MR_init_59 : decode b_MR_init 59 = .ok (.new 37, 3) := by decide +kernel
theorem d_MR_init_62 : decode b_MR_init 62 = .ok (.dup, 1) := by decide +kernel
theorem d_MR_init_63 : decode b_MR_init 63 = .ok (.aload_n 0, 1) := by decide +kernel
theorem d_MR_init_64 : decode b_MR_init 64 = .ok (.getfield 24, 3) := by decide +kernel
theorem d_MR_init_67 : decode b_MR_init 67 = .ok (.aload_n 0, 1) := by decide +kernel
theorem d_MR_init_68 : decode b_MR_init 68 = .ok (.getfield 33, 3) := by decide +kernel
theorem d_MR_init_71 : decode b_MR_init 71 = .ok (.invokespecial 39, 3) := by decide +kernel
theorem d_MR_init_74 : decode b_MR_init 74 = .ok (.putfield 42, 3) := by decide +kernel
theorem d_MR_init_77 : decode b_MR_init 77 = .ok (.return_, 1) := by decide +kernel
theorem d_Mo_init_0 : decode b_Mo_init 0 = .ok (.aload_n 0, 1) := by decide +kernel
theorem d_Mo_init_1 : decode b_Mo_init 1 = .ok (.invokespecial 1, 3) := by decide +kernel
theorem d_Mo_init_4 : decode b_Mo_init 4 = .ok (.aload_n 0, 1) := by decide +kernel
theorem d_Mo_init_5 : decode b_Mo_init 5 = .ok (.sipush 240, 3) := by decide +kernel
theorem d_Mo_init_8 : decode b_Mo_init 8 = .ok (.newarray .int, 2) := by decide +kernel
theorem d_Mo_init_10 : decode b_Mo_init 10 = .ok (.putfield 7, 3) := by decide +kernel
theorem d_Mo_init_13 : decode b_Mo_init 13 = .ok (.aload_n 0, 1) := by decide +kernel
theorem d_Mo_init_14 : decode b_Mo_init 14 = .ok (.iconst (-1), 1) := by decide +kernel
theorem d_Mo_init_15 : decode b_Mo_init 15 = .ok (.putfield 13, 3) := by decide +kernel
theorem d_Mo_init_18 : decode b_Mo_init 18 = .ok (.aload_n 0, 1) := by decide +kernel
theorem d_Mo_init_19 : decode b_Mo_init 19 = .ok (.sipush 260, 3) := by decide +kernel
theorem d_Mo_init_22 : decode b_Mo_init 22 = .ok (.newarray .int, 2) := by decide +kernel
theorem d_Mo_init_24 : decode b_Mo_init 24 = .ok (.putfield 17, 3) := by decide +kernel
theorem d_Mo_init_27 : decode b_Mo_init 27 = .ok (.aload_n 0, 1) := by decide +kernel
theorem d_Mo_init_28 : decode b_Mo_init 28 = .ok (.bipush 24, 2) := by decide +kernel
theorem d_Mo_init_30 : decode b_Mo_init 30 = .ok (.newarray .int, 2) := by decide +kernel
theorem d_Mo_init_32 : decode b_Mo_init 32 = .ok (.putfield 20, 3) := by decide +kernel
theorem d_Mo_init_35 : decode b_Mo_init 35 = .ok (.aload_n 0, 1) := by decide +kernel
theorem d_Mo_init_36 : decode b_Mo_init 36 = .ok (.bipush 24, 2) := by decide +kernel
theorem d_Mo_init_38 : decode b_Mo_init 38 = .ok (.newarray .int, 2) := by decide +kernel
theorem d_Mo_init_40 : decode b_Mo_init 40 = .ok (.putfield 23, 3) := by decide +kernel
theorem d_Mo_init_43 : decode b_Mo_init 43 = .ok (.aload_n 0, 1) := by decide +kernel
theorem d_Mo_init_44 : decode b_Mo_init 44 = .ok (.bipush 24, 2) := by decide +kernel
theorem d_Mo_init_46 : decode b_Mo_init 46 = .ok (.newarray .int, 2) := by decide +kernel
theorem d_Mo_init_48 : decode b_Mo_init 48 = .ok (.putfield 26, 3) := by decide +kernel
theorem d_Mo_init_51 : decode b_Mo_init 51 = .ok (.aload_n 0, 1) := by decide +kernel
theorem d_Mo_init_52 : decode b_Mo_init 52 = .ok (.bipush 24, 2) := by decide +kernel
theorem d_Mo_init_54 : decode b_Mo_init 54 = .ok (.newarray .int, 2) := by decide +kernel
theorem d_Mo_init_56 : decode b_Mo_init 56 = .ok (.putfield 29, 3) := by decide +kernel
theorem d_Mo_init_59 : decode b_Mo_init 59 = .ok (.aload_n 0, 1) := by decide +kernel
theorem d_Mo_init_60 : decode b_Mo_init 60 = .ok (.bipush 24, 2) := by decide +kernel
theorem d_Mo_init_62 : decode b_Mo_init 62 = .ok (.newarray .int, 2) := by decide +kernel
theorem d_Mo_init_64 : decode b_Mo_init 64 = .ok (.putfield 32, 3) := by decide +kernel
theorem d_Mo_init_67 : decode b_Mo_init 67 = .ok (.aload_n 0, 1) := by decide +kernel
theorem d_Mo_init_68 : decode b_Mo_init 68 = .ok (.bipush 24, 2) := by decide +kernel
theorem d_Mo_init_70 : decode b_Mo_init 70 = .ok (.newarray .int, 2) := by decide +kernel
theorem d_Mo_init_72 : decode b_Mo_init 72 = .ok (.putfield 35, 3) := by decide +kernel
theorem d_Mo_init_75 : decode b_Mo_init 75 = .ok (.aload_n 0, 1) := by decide +kernel
theorem d_Mo_init_76 : decode b_Mo_init 76 = .ok (.sipush 144, 3) := by decide +kernel
theorem d_Mo_init_79 : decode b_Mo_init 79 = .ok (.newarray .int, 2) := by decide +kernel
theorem d_Mo_init_81 : decode b_Mo_init 81 = .ok (.putfield 38, 3) := by decide +kernel
theorem d_Mo_init_84 : decode b_Mo_init 84 = .ok (.aload_n 0, 1) := by decide +kernel
theorem d_Mo_init_85 : decode b_Mo_init 85 = .ok (.sipush 144, 3) := by decide +kernel
theorem d_Mo_init_88 : decode b_Mo_init 88 = .ok (.newarray .int, 2) := by decide +kernel
theorem d_Mo_init_90 : decode b_Mo_init 90 = .ok (.putfield 41, 3) := by decide +kernel
theorem d_Mo_init_93 : decode b_Mo_init 93 = .ok (.aload_n 0, 1) := by decide +kernel
theorem d_Mo_init_94 : decode b_Mo_init 94 = .ok (.sipush 144, 3) := by decide +kernel
theorem d_Mo_init_97 : decode b_Mo_init 97 = .ok (.newarray .int, 2) := by decide +kernel
theorem d_Mo_init_99 : decode b_Mo_init 99 = .ok (.putfield 44, 3) := by decide +kernel
theorem d_Mo_init_102 : decode b_Mo_init 102 = .ok (.aload_n 0, 1) := by decide +kernel
theorem d_Mo_init_103 : decode b_Mo_init 103 = .ok (.sipush 144, 3) := by decide +kernel
theorem d_Mo_init_106 : decode b_Mo_init 106 = .ok (.newarray .int, 2) := by decide +kernel
theorem d_Mo_init_108 : decode b_Mo_init 108 = .ok (.putfield 47, 3) := by decide +kernel
theorem d_Mo_init_111 : decode b_Mo_init 111 = .ok (.aload_n 0, 1) := by decide +kernel
theorem d_Mo_init_112 : decode b_Mo_init 112 = .ok (.sipush 144, 3) := by decide +kernel
theorem d_Mo_init_115 : decode b_Mo_init 115 = .ok (.newarray .int, 2) := by decide +kernel
theorem d_Mo_init_117 : decode b_Mo_init 117 = .ok (.putfield 50, 3) := by decide +kernel
theorem d_Mo_init_120 : decode b_Mo_init 120 = .ok (.aload_n 0, 1) := by decide +kernel
theorem d_Mo_init_121 : decode b_Mo_init 121 = .ok (.sipush 144, 3) := by decide +kernel
theorem d_Mo_init_124 : decode b_Mo_init 124 = .ok (.newarray .int, 2) := by decide +kernel
theorem d_Mo_init_126 : decode b_Mo_init 126 = .ok (.putfield 53, 3) := by decide +kernel
theorem d_Mo_init_129 : decode b_Mo_init 129 = .ok (.aload_n 0, 1) := by decide +kernel
theorem d_Mo_init_130 : decode b_Mo_init 130 = .ok (.sipush 300, 3) := by decide +kernel
theorem d_Mo_init_133 : decode b_Mo_init 133 = .ok (.newarray .int, 2) := by decide +kernel
theorem d_Mo_init_135 : decode b_Mo_init 135 = .ok (.putfield 56, 3) := by decide +kernel
theorem d_Mo_init_138 : decode b_Mo_init 138 = .ok (.aload_n 0, 1) := by decide +kernel
theorem d_Mo_init_139 : decode b_Mo_init 139 = .ok (.sipush 2200, 3) := by decide +kernel
theorem d_Mo_init_142 : decode b_Mo_init 142 = .ok (.newarray .int, 2) := by decide +kernel
theorem d_Mo_init_144 : decode b_Mo_init 144 = .ok (.putfield 59, 3) := by decide +kernel
theorem d_Mo_init_147 : decode b_Mo_init 147 = .ok (.aload_n 0, 1) := by decide +kernel
theorem d_Mo_init_148 : decode b_Mo_init 148 = .ok (.sipush 2200, 3) := by decide +kernel
theorem d_Mo_init_151 : decode b_Mo_init 151 = .ok (.newarray .int, 2) := by decide +kernel
theorem d_Mo_init_153 : decode b_Mo_init 153 = .ok (.putfield 62, 3) := by decide +kernel
theorem d_Mo_init_156 : decode b_Mo_init 156 = .ok (.return_, 1) := by decide +kernel
set_option maxHeartbeats 4000000 in
set_option maxRecDepth 100000 in
theorem c_Tr_init {l : Launch} {s0 : State} {D : va_G} {aC : Nat → ClassId} {a0 : Array Value} (G : gG l s0 D aC a0) (w : Nat → va_E) (hwk : w 5 = .inr (5, [.null, .null, .null, .null, .null, .null, .int 0])) : gKt l s0 D y_Tr_init (Cond.code y_Tr_init b_Tr_init 2 none) 4 140 370 2630 [.ref (s0.heap.size + 5)] 6 w 376 (gNew s0.heap.size aC 5 6 376 w) := by
  refine gk_of G (by decide) rfl (Nat.le_of_ble_eq_true rfl) ?_
  intro p e s m below meth c ls B hin hl hw hs0
  have hx := B.1
  have hb := B.2.1
  have hown := B.2.2.2.2.2.1
  have T := B.2.2.2.2.2.2.1
  have hK := B.2.2.2.2.2.2.2.1
  have hr0 : nRow 0 = 240 := rfl
  have hw0 : oRow 0 = 1 := rfl
  have hr1 : nRow 1 = 1440 := rfl
  have hw1 : oRow 1 = 3 := rfl
  have hr2 : nRow 2 = 240 := rfl
  have hw2 : oRow 2 = 6 := rfl
  have hr3 : nRow 3 = 240 := rfl
  have hw3 : oRow 3 = 8 := rfl
  have hr4 : nRow 4 = 240 := rfl
  have hw4 : oRow 4 = 10 := rfl
  have hr5 : nRow 5 = 1440 := rfl
  have hw5 : oRow 5 = 377 := rfl
  have hO : ∀ q, q < 6 → q ≠ 5 → w q = w q := fun _ _ _ => rfl
  have hN : ∀ q, 6 ≤ q → q < 6 → w q = wI s0.heap.size aC q := fun q h1 h2 => absurd h1 (by omega)
  have c_this := hwk
  have hA4 : oAt 144 = 14 := rfl
  have key : ∀ (d i : Nat), i + d = 24 → ∀ (H : Heap) (locs : List Loc) (ls : Array Slot) (w9 : Nat → va_E) (f : Nat → Option Nat), lv_has ls 2 [(1, .int (nI i)), (0, .ref (s0.heap.size + 5))] → gw D gC s0.heap (16 + 15 * i) w9 H locs → (∀ q, q < 6 → q ≠ 5 → w9 q = w q) → (∀ q, 6 ≤ q → q < 16 + 15 * i → q ≠ 13 → w9 q = wI s0.heap.size aC q) → w9 5 = .inr (5, [.ref (s0.heap.size + 6), .ref (s0.heap.size + 8), .ref (s0.heap.size + 10), .ref (s0.heap.size + 12), .ref (s0.heap.size + 13), .ref (s0.heap.size + 14), .int 0]) → w9 13 = .inl (aC 3, 24, .inr (.inr (.inr (.inr f)))) → (∀ j, j < i → f j = some (s0.heap.size + oEl j)) → W p l e (gRm 4 140 370 2630) s m ([.ref (s0.heap.size + 5)] : List Value).toArray below meth c H locs (10 + 15 * i) (998 + 68 * i) (gt_Q below (fun _ o t => o = .returned none ∧ ∃ w1, gw D gC s0.heap 376 w1 t.heap [] ∧ gNew s0.heap.size aC 5 6 376 w w1) s 370 2630 370 2630 (fun q => s0.heap.size ≤ q)) (F0 m 82 ls []) := by
    intro d
    induction d with
    | zero =>
      intro i hd H locs ls w9 f hl hw hO hN c_this c_es hf
      have hi6 : i = 24 := by omega
      subst hi6
      refine lv_iload_n hx hb d_Tr_init_82 rfl (lv_at hl 0 rfl) ?_
      refine lv_bipush (v := 24) hx hb d_Tr_init_83 (by decide) ?_
      refine lv_icmp_ge hx hb d_Tr_init_85 rfl (fun h85 => ?_) (fun h85 => absurd (by decide) h85)
      have hw := gw_refs (g := fun j => some (s0.heap.size + oEl j)) hw (by omega) c_es hf
      refine gk_ret B hw (by decide) (by decide) d_Tr_init_108 ⟨fun q h1 h2 => ?_, ?_, fun q h1 h2 => ?_⟩
      · rw [va_up_ne _ _ (by omega)]; exact hO q h1 h2
      · rw [va_up_ne _ _ (by omega), c_this]; rfl
      · by_cases hq : q = 13
        · rw [hq, va_up_self]; rfl
        · rw [va_up_ne _ _ hq]; exact hN q h1 (by omega) hq
    | succ d ih =>
      intro i hd H locs ls w9 f hl hw hO hN c_this c_es hf
      have hi6 : i < 24 := by omega
      have hEi : oEl i = 16 + 15 * i := rfl
      refine lv_iload_n hx hb d_Tr_init_82 rfl (lv_at hl 0 rfl) ?_
      refine lv_bipush (v := 24) hx hb d_Tr_init_83 (by decide) ?_
      refine lv_icmp_ge hx hb d_Tr_init_85 rfl (fun h85 => absurd h85 (nI_ge (b := 24) hi6 (by decide))) (fun h85 => ?_)
      refine lv_aload_n hx hb d_Tr_init_88 rfl (lv_at hl 1 rfl) ?_
      rw [← hEi] at hw hN
      refine gw_get (C := R_Tr) (T := F_Tr) (N := 7) (ci := 5) (fs := [.ref (s0.heap.size + 6), .ref (s0.heap.size + 8), .ref (s0.heap.size + 10), .ref (s0.heap.size + 12), .ref (s0.heap.size + 13), .ref (s0.heap.size + 14), .int 0]) hx hb (fw_Tr T) hown hK hw (fun _ h => h) (by omega) c_this rfl 4 (by decide) (kf_Tr_32 T) rfl rfl d_Tr_init_89 ?_
      refine lv_iload_n hx hb d_Tr_init_92 rfl (lv_at hl 0 rfl) ?_
      refine gw_sz hw (by omega) hs0 (by omega) (fun hz => ?_)
      refine gw_new (C := R_El) (T := F_El) (N := 10) (ci := 4) (fs := [.int 0, .null, .null, .null, .int 0, .int 0, .int 0, .int 0, .int 0, .int 0]) hx hb (fw_El T) hown hK hw hz (fun _ h => h) t_El t_El_ok rfl (kc_Tr_30 T) (kn_El T) (ki_El T) (fun j hj => by match j, hj with | 0, _ => rfl | 1, _ => rfl | 2, _ => rfl | 3, _ => rfl | 4, _ => rfl | 5, _ => rfl | 6, _ => rfl | 7, _ => rfl | 8, _ => rfl | 9, _ => rfl | j + 10, hj => exact absurd hj (by omega)) (by first | omega | (simp only [gRm]; omega) | decide) (by first | omega | (simp only [gRm]; omega) | decide) d_Tr_init_93 (fun H hw _ => ?_)
      have hw : gw D gC s0.heap ((oEl i) + 1) (va_up w9 (oEl i) (.inr (4, [.int 0, .null, .null, .null, .int 0, .int 0, .int 0, .int 0, .int 0, .int 0]))) _ _ := hw
      generalize hwe : va_up w9 (oEl i) (.inr (4, [.int 0, .null, .null, .null, .int 0, .int 0, .int 0, .int 0, .int 0, .int 0])) = w41 at hw
      have hO : ∀ q, q < 6 → q ≠ 5 → w41 q = w q := fun q h1 h2 => (congrFun hwe q).symm.trans ((va_up_ne _ _ (by omega)).trans (hO q h1 h2))
      have hN : ∀ q, 6 ≤ q → q < ((oEl i) + 1) → q ≠ 13 → q ≠ (oEl i) → w41 q = wI s0.heap.size aC q := fun q h1 h2 h_es h_el => (congrFun hwe q).symm.trans ((va_up_ne _ _ (by omega)).trans (hN q h1 (by omega) (by omega)))
      have c_this : w41 5 = .inr (5, [.ref (s0.heap.size + 6), .ref (s0.heap.size + 8), .ref (s0.heap.size + 10), .ref (s0.heap.size + 12), .ref (s0.heap.size + 13), .ref (s0.heap.size + 14), .int 0]) := by rw [← hwe, va_up_ne _ _ (by omega)]; exact c_this
      have c_es : w41 13 = .inl (aC 3, 24, .inr (.inr (.inr (.inr f)))) := by rw [← hwe, va_up_ne _ _ (by omega)]; exact c_es
      have c_el : w41 (oEl i) = .inr (4, [.int 0, .null, .null, .null, .int 0, .int 0, .int 0, .int 0, .int 0, .int 0]) := by rw [← hwe, va_up_self]
      clear hwe
      refine lv_dup hx hb d_Tr_init_96 rfl ?_
      refine lv_iload_n hx hb d_Tr_init_97 rfl (lv_at hl 0 rfl) ?_
      refine gk_call (As := [.int (nI i)]) B hl.1 hw (by omega) hs0 (by omega) (c_El_init G w41 i hi6 c_el) (kd_El_init T) (ki_El T) (km_Tr_47 T) (ka_El_init T) rfl ⟨by decide, by decide, by rfl⟩ rfl (Nat.le_of_ble_eq_true rfl) ⟨by decide, by decide⟩ ⟨by first | omega | (simp only [gRm]; omega) | decide, by first | omega | (simp only [gRm]; omega) | decide⟩ d_Tr_init_98 (fun w42 H locs hw hp => ?_)
      have hO : ∀ q, q < 6 → q ≠ 5 → w42 q = w q := fun q h1 h2 => (hp.1 q (by omega) (by omega)).trans (hO q h1 h2)
      have hN : ∀ q, 6 ≤ q → q < (oEl i + 15) → q ≠ 13 → w42 q = wI s0.heap.size aC q := fun q h1 h2 h_es => by
        by_cases hq : q = (oEl i)
        · rw [hq]; exact hp.2.1
        · by_cases hq2 : q < ((oEl i) + 1)
          · exact (hp.1 q hq2 hq).trans (hN q h1 hq2 h_es hq)
          · exact hp.2.2 q (by omega) h2
      have c_this : w42 5 = .inr (5, [.ref (s0.heap.size + 6), .ref (s0.heap.size + 8), .ref (s0.heap.size + 10), .ref (s0.heap.size + 12), .ref (s0.heap.size + 13), .ref (s0.heap.size + 14), .int 0]) := (hp.1 _ (by omega) (by omega)).trans c_this
      have c_es : w42 13 = .inl (aC 3, 24, .inr (.inr (.inr (.inr f)))) := (hp.1 _ (by omega) (by omega)).trans c_es
      have hel : w42 (oEl i) = .inr (4, [.int (nI i), .ref (s0.heap.size + oNm (145 + i)), .ref (s0.heap.size + oAs i), .null, .int 0, .int 0, .int 0, .int 0, .int 0, .int 0]) := by rw [hp.2.1]; unfold wI gW; rw [(gk_El i hi6).1]; rfl
      refine gw_aast (r := (R_El, F_El, 10)) hx hb hK hw (by omega) c_es 3 rfl (by omega) hel rfl (gi_in0 hi6 (by decide)) d_Tr_init_101 (fun H locs hw => ?_)
      rw [nI_clamp (by omega)] at hw
      have hw : gw D gC s0.heap (oEl i + 15) (va_up w42 13 (.inl (aC 3, 24, .inr (.inr (.inr (.inr (va_up f i (some (s0.heap.size + oEl i))))))))) _ _ := hw
      generalize hwe : va_up w42 13 (.inl (aC 3, 24, .inr (.inr (.inr (.inr (va_up f i (some (s0.heap.size + oEl i)))))))) = w43 at hw
      have hO : ∀ q, q < 6 → q ≠ 5 → w43 q = w q := fun q h1 h2 => (congrFun hwe q).symm.trans ((va_up_ne _ _ (by omega)).trans (hO q h1 h2))
      have hN : ∀ q, 6 ≤ q → q < (oEl i + 15) → q ≠ 13 → w43 q = wI s0.heap.size aC q := fun q h1 h2 h_es => (congrFun hwe q).symm.trans ((va_up_ne _ _ (by omega)).trans (hN q h1 (by omega) (by omega)))
      have c_this : w43 5 = .inr (5, [.ref (s0.heap.size + 6), .ref (s0.heap.size + 8), .ref (s0.heap.size + 10), .ref (s0.heap.size + 12), .ref (s0.heap.size + 13), .ref (s0.heap.size + 14), .int 0]) := by rw [← hwe, va_up_ne _ _ (by omega)]; exact c_this
      have c_es : w43 13 = .inl (aC 3, 24, .inr (.inr (.inr (.inr (va_up f i (some (s0.heap.size + oEl i))))))) := by rw [← hwe, va_up_self]
      clear hwe
      refine lv_iinc (k := 0) hx hb d_Tr_init_102 hl rfl (show _ + Int32.ofInt 1 = _ + 1 from rfl) (by decide) rfl (fun ls hl => ?_)
      rw [nI_1] at hl
      refine lv_goto hx hb d_Tr_init_105 rfl ?_
      refine W.cs (cells' := 10 + 15 * (i + 1)) (slots' := 998 + 68 * (i + 1)) (by omega) (by omega) ?_
      rw [show oEl i + 15 = 16 + 15 * (i + 1) by omega] at hw hN
      refine ih (i + 1) (by omega) _ _ _ _ _ hl hw hO hN c_this c_es (fun j hj => ?_)
      by_cases hji : j = i
      · rw [hji, va_up_self]
      · rw [va_up_ne _ _ hji]; exact hf j (by omega)
  refine lv_aload_n hx hb d_Tr_init_0 rfl (lv_at hl 0 rfl) ?_
  refine gk_obj B hl.1 (km_Tr_3 T) (Nat.le_of_ble_eq_true rfl) (Nat.le_of_ble_eq_true rfl) (Nat.le_of_ble_eq_true rfl) d_Tr_init_1 ?_
  refine lv_aload_n hx hb d_Tr_init_4 rfl (lv_at hl 0 rfl) ?_
  refine gw_sz hw (by omega) hs0 (by omega) (fun hz => ?_)
  refine gw_new (C := R_Row) (T := F_Row) (N := 2) (ci := 1) (fs := [.null, .int 0]) hx hb (fw_Row T) hown hK hw hz (fun _ h => h) t_Row t_Row_ok rfl (kc_Tr_9 T) (kn_Row T) (ki_Row T) (fun j hj => by match j, hj with | 0, _ => rfl | 1, _ => rfl | j + 2, hj => exact absurd hj (by omega)) (by first | omega | (simp only [gRm]; omega) | decide) (by first | omega | (simp only [gRm]; omega) | decide) d_Tr_init_5 (fun H hw _ => ?_)
  have hw : gw D gC s0.heap 7 (va_up w 6 (.inr (1, [.null, .int 0]))) _ _ := hw
  generalize hwe : va_up w 6 (.inr (1, [.null, .int 0])) = w1 at hw
  have hO : ∀ q, q < 6 → q ≠ 5 → w1 q = w q := fun q h1 h2 => (congrFun hwe q).symm.trans ((va_up_ne _ _ (by omega)).trans (hO q h1 h2))
  have hN : ∀ q, 6 ≤ q → q < 7 → q ≠ 6 → w1 q = wI s0.heap.size aC q := fun q h1 h2 h_row => (congrFun hwe q).symm.trans ((va_up_ne _ _ (by omega)).trans (hN q h1 (by omega) ))
  have c_this : w1 5 = .inr (5, [.null, .null, .null, .null, .null, .null, .int 0]) := by rw [← hwe, va_up_ne _ _ (by omega)]; exact c_this
  have c_row : w1 6 = .inr (1, [.null, .int 0]) := by rw [← hwe, va_up_self]
  clear hwe
  refine lv_dup hx hb d_Tr_init_8 rfl ?_
  refine lv_sipush (v := 240) hx hb d_Tr_init_9 (by decide) ?_
  refine gk_call (As := [.int (nI (nRow 2))]) B hl.1 hw (by omega) hs0 (by omega) (c_Row_init G w1 2 7 (by decide) rfl c_row) (kd_Row_init T) (ki_Row T) (km_Tr_11 T) (ka_Row_init T) rfl ⟨by decide, by decide, by rfl⟩ rfl (Nat.le_of_ble_eq_true rfl) ⟨by decide, by decide⟩ ⟨by first | omega | (simp only [gRm]; omega) | decide, by first | omega | (simp only [gRm]; omega) | decide⟩ d_Tr_init_12 (fun w2 H locs hw hp => ?_)
  have hO : ∀ q, q < 6 → q ≠ 5 → w2 q = w q := fun q h1 h2 => (hp.1 q (by omega) (by omega)).trans (hO q h1 h2)
  have hN : ∀ q, 6 ≤ q → q < 8 → w2 q = wI s0.heap.size aC q := fun q h1 h2  => by
    by_cases hq : q = 6
    · rw [hq]; exact hp.2.1
    · by_cases hq2 : q < 7
      · exact (hp.1 q hq2 hq).trans (hN q h1 hq2 hq)
      · exact hp.2.2 q (by omega) h2
  have c_this : w2 5 = .inr (5, [.null, .null, .null, .null, .null, .null, .int 0]) := (hp.1 _ (by omega) (by omega)).trans c_this
  refine gw_putF (v := .ref (s0.heap.size + 6)) (C := R_Tr) (T := F_Tr) (N := 7) (ci := 5) (fs := [.null, .null, .null, .null, .null, .null, .int 0]) hx hb (fw_Tr T) hown hK hw (fun _ h => h) t_Tr t_Tr_ok n_Tr (by omega) c_this rfl 0 (by decide) (kf_Tr_14 T) rfl rfl hin (rfl) (rfl) (Nat.le_of_ble_eq_true rfl) d_Tr_init_15 (fun H locs hw => ?_)
  have hw : gw D gC s0.heap 8 (va_up w2 5 (.inr (5, [.ref (s0.heap.size + 6), .null, .null, .null, .null, .null, .int 0]))) _ _ := hw
  generalize hwe : va_up w2 5 (.inr (5, [.ref (s0.heap.size + 6), .null, .null, .null, .null, .null, .int 0])) = w3 at hw
  have hO : ∀ q, q < 6 → q ≠ 5 → w3 q = w q := fun q h1 h2 => (congrFun hwe q).symm.trans ((va_up_ne _ _ (by omega)).trans (hO q h1 h2))
  have hN : ∀ q, 6 ≤ q → q < 8 → w3 q = wI s0.heap.size aC q := fun q h1 h2  => (congrFun hwe q).symm.trans ((va_up_ne _ _ (by omega)).trans (hN q h1 (by omega) ))
  have c_this : w3 5 = .inr (5, [.ref (s0.heap.size + 6), .null, .null, .null, .null, .null, .int 0]) := by rw [← hwe, va_up_self]
  clear hwe
  refine lv_aload_n hx hb d_Tr_init_18 rfl (lv_at hl 0 rfl) ?_
  refine gw_sz hw (by omega) hs0 (by omega) (fun hz => ?_)
  refine gw_new (C := R_Row) (T := F_Row) (N := 2) (ci := 1) (fs := [.null, .int 0]) hx hb (fw_Row T) hown hK hw hz (fun _ h => h) t_Row t_Row_ok rfl (kc_Tr_9 T) (kn_Row T) (ki_Row T) (fun j hj => by match j, hj with | 0, _ => rfl | 1, _ => rfl | j + 2, hj => exact absurd hj (by omega)) (by first | omega | (simp only [gRm]; omega) | decide) (by first | omega | (simp only [gRm]; omega) | decide) d_Tr_init_19 (fun H hw _ => ?_)
  have hw : gw D gC s0.heap 9 (va_up w3 8 (.inr (1, [.null, .int 0]))) _ _ := hw
  generalize hwe : va_up w3 8 (.inr (1, [.null, .int 0])) = w4 at hw
  have hO : ∀ q, q < 6 → q ≠ 5 → w4 q = w q := fun q h1 h2 => (congrFun hwe q).symm.trans ((va_up_ne _ _ (by omega)).trans (hO q h1 h2))
  have hN : ∀ q, 6 ≤ q → q < 9 → q ≠ 8 → w4 q = wI s0.heap.size aC q := fun q h1 h2 h_row => (congrFun hwe q).symm.trans ((va_up_ne _ _ (by omega)).trans (hN q h1 (by omega) ))
  have c_this : w4 5 = .inr (5, [.ref (s0.heap.size + 6), .null, .null, .null, .null, .null, .int 0]) := by rw [← hwe, va_up_ne _ _ (by omega)]; exact c_this
  have c_row : w4 8 = .inr (1, [.null, .int 0]) := by rw [← hwe, va_up_self]
  clear hwe
  refine lv_dup hx hb d_Tr_init_22 rfl ?_
  refine lv_sipush (v := 240) hx hb d_Tr_init_23 (by decide) ?_
  refine gk_call (As := [.int (nI (nRow 3))]) B hl.1 hw (by omega) hs0 (by omega) (c_Row_init G w4 3 9 (by decide) rfl c_row) (kd_Row_init T) (ki_Row T) (km_Tr_11 T) (ka_Row_init T) rfl ⟨by decide, by decide, by rfl⟩ rfl (Nat.le_of_ble_eq_true rfl) ⟨by decide, by decide⟩ ⟨by first | omega | (simp only [gRm]; omega) | decide, by first | omega | (simp only [gRm]; omega) | decide⟩ d_Tr_init_26 (fun w5 H locs hw hp => ?_)
  have hO : ∀ q, q < 6 → q ≠ 5 → w5 q = w q := fun q h1 h2 => (hp.1 q (by omega) (by omega)).trans (hO q h1 h2)
  have hN : ∀ q, 6 ≤ q → q < 10 → w5 q = wI s0.heap.size aC q := fun q h1 h2  => by
    by_cases hq : q = 8
    · rw [hq]; exact hp.2.1
    · by_cases hq2 : q < 9
      · exact (hp.1 q hq2 hq).trans (hN q h1 hq2 hq)
      · exact hp.2.2 q (by omega) h2
  have c_this : w5 5 = .inr (5, [.ref (s0.heap.size + 6), .null, .null, .null, .null, .null, .int 0]) := (hp.1 _ (by omega) (by omega)).trans c_this
  refine gw_putF (v := .ref (s0.heap.size + 8)) (C := R_Tr) (T := F_Tr) (N := 7) (ci := 5) (fs := [.ref (s0.heap.size + 6), .null, .null, .null, .null, .null, .int 0]) hx hb (fw_Tr T) hown hK hw (fun _ h => h) t_Tr t_Tr_ok n_Tr (by omega) c_this rfl 1 (by decide) (kf_Tr_20 T) rfl rfl hin (rfl) (rfl) (Nat.le_of_ble_eq_true rfl) d_Tr_init_29 (fun H locs hw => ?_)
  have hw : gw D gC s0.heap 10 (va_up w5 5 (.inr (5, [.ref (s0.heap.size + 6), .ref (s0.heap.size + 8), .null, .null, .null, .null, .int 0]))) _ _ := hw
  generalize hwe : va_up w5 5 (.inr (5, [.ref (s0.heap.size + 6), .ref (s0.heap.size + 8), .null, .null, .null, .null, .int 0])) = w6 at hw
  have hO : ∀ q, q < 6 → q ≠ 5 → w6 q = w q := fun q h1 h2 => (congrFun hwe q).symm.trans ((va_up_ne _ _ (by omega)).trans (hO q h1 h2))
  have hN : ∀ q, 6 ≤ q → q < 10 → w6 q = wI s0.heap.size aC q := fun q h1 h2  => (congrFun hwe q).symm.trans ((va_up_ne _ _ (by omega)).trans (hN q h1 (by omega) ))
  have c_this : w6 5 = .inr (5, [.ref (s0.heap.size + 6), .ref (s0.heap.size + 8), .null, .null, .null, .null, .int 0]) := by rw [← hwe, va_up_self]
  clear hwe
  refine lv_aload_n hx hb d_Tr_init_32 rfl (lv_at hl 0 rfl) ?_
  refine gw_sz hw (by omega) hs0 (by omega) (fun hz => ?_)
  refine gw_new (C := R_Row) (T := F_Row) (N := 2) (ci := 1) (fs := [.null, .int 0]) hx hb (fw_Row T) hown hK hw hz (fun _ h => h) t_Row t_Row_ok rfl (kc_Tr_9 T) (kn_Row T) (ki_Row T) (fun j hj => by match j, hj with | 0, _ => rfl | 1, _ => rfl | j + 2, hj => exact absurd hj (by omega)) (by first | omega | (simp only [gRm]; omega) | decide) (by first | omega | (simp only [gRm]; omega) | decide) d_Tr_init_33 (fun H hw _ => ?_)
  have hw : gw D gC s0.heap 11 (va_up w6 10 (.inr (1, [.null, .int 0]))) _ _ := hw
  generalize hwe : va_up w6 10 (.inr (1, [.null, .int 0])) = w7 at hw
  have hO : ∀ q, q < 6 → q ≠ 5 → w7 q = w q := fun q h1 h2 => (congrFun hwe q).symm.trans ((va_up_ne _ _ (by omega)).trans (hO q h1 h2))
  have hN : ∀ q, 6 ≤ q → q < 11 → q ≠ 10 → w7 q = wI s0.heap.size aC q := fun q h1 h2 h_row => (congrFun hwe q).symm.trans ((va_up_ne _ _ (by omega)).trans (hN q h1 (by omega) ))
  have c_this : w7 5 = .inr (5, [.ref (s0.heap.size + 6), .ref (s0.heap.size + 8), .null, .null, .null, .null, .int 0]) := by rw [← hwe, va_up_ne _ _ (by omega)]; exact c_this
  have c_row : w7 10 = .inr (1, [.null, .int 0]) := by rw [← hwe, va_up_self]
  clear hwe
  refine lv_dup hx hb d_Tr_init_36 rfl ?_
  refine lv_sipush (v := 240) hx hb d_Tr_init_37 (by decide) ?_
  refine gk_call (As := [.int (nI (nRow 4))]) B hl.1 hw (by omega) hs0 (by omega) (c_Row_init G w7 4 11 (by decide) rfl c_row) (kd_Row_init T) (ki_Row T) (km_Tr_11 T) (ka_Row_init T) rfl ⟨by decide, by decide, by rfl⟩ rfl (Nat.le_of_ble_eq_true rfl) ⟨by decide, by decide⟩ ⟨by first | omega | (simp only [gRm]; omega) | decide, by first | omega | (simp only [gRm]; omega) | decide⟩ d_Tr_init_40 (fun w8 H locs hw hp => ?_)
  have hO : ∀ q, q < 6 → q ≠ 5 → w8 q = w q := fun q h1 h2 => (hp.1 q (by omega) (by omega)).trans (hO q h1 h2)
  have hN : ∀ q, 6 ≤ q → q < 12 → w8 q = wI s0.heap.size aC q := fun q h1 h2  => by
    by_cases hq : q = 10
    · rw [hq]; exact hp.2.1
    · by_cases hq2 : q < 11
      · exact (hp.1 q hq2 hq).trans (hN q h1 hq2 hq)
      · exact hp.2.2 q (by omega) h2
  have c_this : w8 5 = .inr (5, [.ref (s0.heap.size + 6), .ref (s0.heap.size + 8), .null, .null, .null, .null, .int 0]) := (hp.1 _ (by omega) (by omega)).trans c_this
  refine gw_putF (v := .ref (s0.heap.size + 10)) (C := R_Tr) (T := F_Tr) (N := 7) (ci := 5) (fs := [.ref (s0.heap.size + 6), .ref (s0.heap.size + 8), .null, .null, .null, .null, .int 0]) hx hb (fw_Tr T) hown hK hw (fun _ h => h) t_Tr t_Tr_ok n_Tr (by omega) c_this rfl 2 (by decide) (kf_Tr_23 T) rfl rfl hin (rfl) (rfl) (Nat.le_of_ble_eq_true rfl) d_Tr_init_43 (fun H locs hw => ?_)
  have hw : gw D gC s0.heap 12 (va_up w8 5 (.inr (5, [.ref (s0.heap.size + 6), .ref (s0.heap.size + 8), .ref (s0.heap.size + 10), .null, .null, .null, .int 0]))) _ _ := hw
  generalize hwe : va_up w8 5 (.inr (5, [.ref (s0.heap.size + 6), .ref (s0.heap.size + 8), .ref (s0.heap.size + 10), .null, .null, .null, .int 0])) = w9 at hw
  have hO : ∀ q, q < 6 → q ≠ 5 → w9 q = w q := fun q h1 h2 => (congrFun hwe q).symm.trans ((va_up_ne _ _ (by omega)).trans (hO q h1 h2))
  have hN : ∀ q, 6 ≤ q → q < 12 → w9 q = wI s0.heap.size aC q := fun q h1 h2  => (congrFun hwe q).symm.trans ((va_up_ne _ _ (by omega)).trans (hN q h1 (by omega) ))
  have c_this : w9 5 = .inr (5, [.ref (s0.heap.size + 6), .ref (s0.heap.size + 8), .ref (s0.heap.size + 10), .null, .null, .null, .int 0]) := by rw [← hwe, va_up_self]
  clear hwe
  refine lv_aload_n hx hb d_Tr_init_46 rfl (lv_at hl 0 rfl) ?_
  refine lv_sipush (v := 240) hx hb d_Tr_init_47 (by decide) ?_
  refine gw_sz hw (by omega) hs0 (by omega) (fun hz => ?_)
  refine gw_newa (ty := .int) (cA := aC 1) (a0 := (240, .inl (fun _ => 0))) (N' := 240) hx hb hK hw hz rfl (ky_int T) 1 rfl (fun h => h) rfl (by decide) (by decide) (by decide) (by first | omega | (simp only [gRm]; omega) | decide) (by first | omega | (simp only [gRm]; omega) | decide) d_Tr_init_50 (fun H hw _ => ?_)
  have hw : gw D gC s0.heap 13 (va_up w9 12 (.inl (aC 1, 240, .inl (fun _ => 0)))) _ _ := hw
  generalize hwe : va_up w9 12 (.inl (aC 1, 240, .inl (fun _ => 0))) = w10 at hw
  have hO : ∀ q, q < 6 → q ≠ 5 → w10 q = w q := fun q h1 h2 => (congrFun hwe q).symm.trans ((va_up_ne _ _ (by omega)).trans (hO q h1 h2))
  have hN : ∀ q, 6 ≤ q → q < 13 → q ≠ 12 → w10 q = wI s0.heap.size aC q := fun q h1 h2 h_ow => (congrFun hwe q).symm.trans ((va_up_ne _ _ (by omega)).trans (hN q h1 (by omega) ))
  have c_this : w10 5 = .inr (5, [.ref (s0.heap.size + 6), .ref (s0.heap.size + 8), .ref (s0.heap.size + 10), .null, .null, .null, .int 0]) := by rw [← hwe, va_up_ne _ _ (by omega)]; exact c_this
  have c_ow : w10 12 = .inl (aC 1, 240, .inl (fun _ => 0)) := by rw [← hwe, va_up_self]
  clear hwe
  refine gw_putF (v := .ref (s0.heap.size + 12)) (C := R_Tr) (T := F_Tr) (N := 7) (ci := 5) (fs := [.ref (s0.heap.size + 6), .ref (s0.heap.size + 8), .ref (s0.heap.size + 10), .null, .null, .null, .int 0]) hx hb (fw_Tr T) hown hK hw (fun _ h => h) t_Tr t_Tr_ok n_Tr (by omega) c_this rfl 3 (by decide) (kf_Tr_26 T) rfl rfl hin (rfl) (rfl) (Nat.le_of_ble_eq_true rfl) d_Tr_init_52 (fun H locs hw => ?_)
  have hw : gw D gC s0.heap 13 (va_up w10 5 (.inr (5, [.ref (s0.heap.size + 6), .ref (s0.heap.size + 8), .ref (s0.heap.size + 10), .ref (s0.heap.size + 12), .null, .null, .int 0]))) _ _ := hw
  generalize hwe : va_up w10 5 (.inr (5, [.ref (s0.heap.size + 6), .ref (s0.heap.size + 8), .ref (s0.heap.size + 10), .ref (s0.heap.size + 12), .null, .null, .int 0])) = w11 at hw
  have hO : ∀ q, q < 6 → q ≠ 5 → w11 q = w q := fun q h1 h2 => (congrFun hwe q).symm.trans ((va_up_ne _ _ (by omega)).trans (hO q h1 h2))
  have hN : ∀ q, 6 ≤ q → q < 13 → q ≠ 12 → w11 q = wI s0.heap.size aC q := fun q h1 h2 h_ow => (congrFun hwe q).symm.trans ((va_up_ne _ _ (by omega)).trans (hN q h1 (by omega) (by omega)))
  have c_ow : w11 12 = .inl (aC 1, 240, .inl (fun _ => 0)) := by rw [← hwe, va_up_ne _ _ (by omega)]; exact c_ow
  have c_this : w11 5 = .inr (5, [.ref (s0.heap.size + 6), .ref (s0.heap.size + 8), .ref (s0.heap.size + 10), .ref (s0.heap.size + 12), .null, .null, .int 0]) := by rw [← hwe, va_up_self]
  clear hwe
  have hN : ∀ q, 6 ≤ q → q < 13 → w11 q = wI s0.heap.size aC q := fun q h1 h2  => by
    by_cases hq : q = 12
    · rw [hq, c_ow]; exact rfl
    · exact hN q h1 h2 hq
  refine lv_aload_n hx hb d_Tr_init_55 rfl (lv_at hl 0 rfl) ?_
  refine lv_bipush (v := 24) hx hb d_Tr_init_56 (by decide) ?_
  refine gw_sz hw (by omega) hs0 (by omega) (fun hz => ?_)
  refine gw_newq (C := R_El) (cA := aC 3) (N' := 24) hx hb hown hK hw hz (kc_Tr_30 T) (ko_El T) 3 rfl (by decide) (by decide) (by decide) (by first | omega | (simp only [gRm]; omega) | decide) (by first | omega | (simp only [gRm]; omega) | decide) d_Tr_init_58 (fun H hw _ => ?_)
  have hw : gw D gC s0.heap 14 (va_up w11 13 (.inl (aC 3, 24, .inr (.inr (.inr (.inr (fun _ => none))))))) _ _ := hw
  generalize hwe : va_up w11 13 (.inl (aC 3, 24, .inr (.inr (.inr (.inr (fun _ => none)))))) = w12 at hw
  have hO : ∀ q, q < 6 → q ≠ 5 → w12 q = w q := fun q h1 h2 => (congrFun hwe q).symm.trans ((va_up_ne _ _ (by omega)).trans (hO q h1 h2))
  have hN : ∀ q, 6 ≤ q → q < 14 → q ≠ 13 → w12 q = wI s0.heap.size aC q := fun q h1 h2 h_es => (congrFun hwe q).symm.trans ((va_up_ne _ _ (by omega)).trans (hN q h1 (by omega) ))
  have c_this : w12 5 = .inr (5, [.ref (s0.heap.size + 6), .ref (s0.heap.size + 8), .ref (s0.heap.size + 10), .ref (s0.heap.size + 12), .null, .null, .int 0]) := by rw [← hwe, va_up_ne _ _ (by omega)]; exact c_this
  have c_es : w12 13 = .inl (aC 3, 24, .inr (.inr (.inr (.inr (fun _ => none))))) := by rw [← hwe, va_up_self]
  clear hwe
  refine gw_putF (v := .ref (s0.heap.size + 13)) (C := R_Tr) (T := F_Tr) (N := 7) (ci := 5) (fs := [.ref (s0.heap.size + 6), .ref (s0.heap.size + 8), .ref (s0.heap.size + 10), .ref (s0.heap.size + 12), .null, .null, .int 0]) hx hb (fw_Tr T) hown hK hw (fun _ h => h) t_Tr t_Tr_ok n_Tr (by omega) c_this rfl 4 (by decide) (kf_Tr_32 T) rfl rfl hin (rfl) (rfl) (Nat.le_of_ble_eq_true rfl) d_Tr_init_61 (fun H locs hw => ?_)
  have hw : gw D gC s0.heap 14 (va_up w12 5 (.inr (5, [.ref (s0.heap.size + 6), .ref (s0.heap.size + 8), .ref (s0.heap.size + 10), .ref (s0.heap.size + 12), .ref (s0.heap.size + 13), .null, .int 0]))) _ _ := hw
  generalize hwe : va_up w12 5 (.inr (5, [.ref (s0.heap.size + 6), .ref (s0.heap.size + 8), .ref (s0.heap.size + 10), .ref (s0.heap.size + 12), .ref (s0.heap.size + 13), .null, .int 0])) = w13 at hw
  have hO : ∀ q, q < 6 → q ≠ 5 → w13 q = w q := fun q h1 h2 => (congrFun hwe q).symm.trans ((va_up_ne _ _ (by omega)).trans (hO q h1 h2))
  have hN : ∀ q, 6 ≤ q → q < 14 → q ≠ 13 → w13 q = wI s0.heap.size aC q := fun q h1 h2 h_es => (congrFun hwe q).symm.trans ((va_up_ne _ _ (by omega)).trans (hN q h1 (by omega) (by omega)))
  have c_es : w13 13 = .inl (aC 3, 24, .inr (.inr (.inr (.inr (fun _ => none))))) := by rw [← hwe, va_up_ne _ _ (by omega)]; exact c_es
  have c_this : w13 5 = .inr (5, [.ref (s0.heap.size + 6), .ref (s0.heap.size + 8), .ref (s0.heap.size + 10), .ref (s0.heap.size + 12), .ref (s0.heap.size + 13), .null, .int 0]) := by rw [← hwe, va_up_self]
  clear hwe
  refine lv_aload_n hx hb d_Tr_init_64 rfl (lv_at hl 0 rfl) ?_
  refine gw_sz hw (by omega) hs0 (by omega) (fun hz => ?_)
  refine gw_new (C := R_At) (T := F_At) (N := 4) (ci := 2) (fs := [.null, .int 0, .int 0, .int 0]) hx hb (fw_At T) hown hK hw hz (fun _ h => h) t_At t_At_ok rfl (kc_Tr_36 T) (kn_At T) (ki_At T) (fun j hj => by match j, hj with | 0, _ => rfl | 1, _ => rfl | 2, _ => rfl | 3, _ => rfl | j + 4, hj => exact absurd hj (by omega)) (by first | omega | (simp only [gRm]; omega) | decide) (by first | omega | (simp only [gRm]; omega) | decide) d_Tr_init_65 (fun H hw _ => ?_)
  have hw : gw D gC s0.heap 15 (va_up w13 14 (.inr (2, [.null, .int 0, .int 0, .int 0]))) _ _ := hw
  generalize hwe : va_up w13 14 (.inr (2, [.null, .int 0, .int 0, .int 0])) = w14 at hw
  have hO : ∀ q, q < 6 → q ≠ 5 → w14 q = w q := fun q h1 h2 => (congrFun hwe q).symm.trans ((va_up_ne _ _ (by omega)).trans (hO q h1 h2))
  have hN : ∀ q, 6 ≤ q → q < 15 → q ≠ 13 → q ≠ 14 → w14 q = wI s0.heap.size aC q := fun q h1 h2 h_es h_at => (congrFun hwe q).symm.trans ((va_up_ne _ _ (by omega)).trans (hN q h1 (by omega) (by omega)))
  have c_this : w14 5 = .inr (5, [.ref (s0.heap.size + 6), .ref (s0.heap.size + 8), .ref (s0.heap.size + 10), .ref (s0.heap.size + 12), .ref (s0.heap.size + 13), .null, .int 0]) := by rw [← hwe, va_up_ne _ _ (by omega)]; exact c_this
  have c_es : w14 13 = .inl (aC 3, 24, .inr (.inr (.inr (.inr (fun _ => none))))) := by rw [← hwe, va_up_ne _ _ (by omega)]; exact c_es
  have c_at : w14 14 = .inr (2, [.null, .int 0, .int 0, .int 0]) := by rw [← hwe, va_up_self]
  clear hwe
  refine lv_dup hx hb d_Tr_init_68 rfl ?_
  refine gk_callN (As := []) B hl.1 hw (by omega) hs0 (by omega) (c_At_init G w14 144 15 (by decide) rfl (by decide) c_at) (kd_At_init T) (ki_At T) (km_Tr_38 T) (ka_At_init T) rfl ⟨by decide, by decide, by rfl⟩ rfl (Nat.le_of_ble_eq_true rfl) ⟨by decide, by decide⟩ ⟨by first | omega | (simp only [gRm]; omega) | decide, by first | omega | (simp only [gRm]; omega) | decide⟩ d_Tr_init_69 (fun w15 H locs hw hp => ?_)
  have hO : ∀ q, q < 6 → q ≠ 5 → w15 q = w q := fun q h1 h2 => (hp.1 q (by omega) (by omega)).trans (hO q h1 h2)
  have hN : ∀ q, 6 ≤ q → q < 16 → q ≠ 13 → w15 q = wI s0.heap.size aC q := fun q h1 h2 h_es => by
    by_cases hq : q = 14
    · rw [hq]; exact hp.2.1
    · by_cases hq2 : q < 15
      · exact (hp.1 q hq2 hq).trans (hN q h1 hq2 h_es hq)
      · exact hp.2.2 q (by omega) h2
  have c_this : w15 5 = .inr (5, [.ref (s0.heap.size + 6), .ref (s0.heap.size + 8), .ref (s0.heap.size + 10), .ref (s0.heap.size + 12), .ref (s0.heap.size + 13), .null, .int 0]) := (hp.1 _ (by omega) (by omega)).trans c_this
  have c_es : w15 13 = .inl (aC 3, 24, .inr (.inr (.inr (.inr (fun _ => none))))) := (hp.1 _ (by omega) (by omega)).trans c_es
  refine gw_putF (v := .ref (s0.heap.size + 14)) (C := R_Tr) (T := F_Tr) (N := 7) (ci := 5) (fs := [.ref (s0.heap.size + 6), .ref (s0.heap.size + 8), .ref (s0.heap.size + 10), .ref (s0.heap.size + 12), .ref (s0.heap.size + 13), .null, .int 0]) hx hb (fw_Tr T) hown hK hw (fun _ h => h) t_Tr t_Tr_ok n_Tr (by omega) c_this rfl 5 (by decide) (kf_Tr_39 T) rfl rfl hin (rfl) (rfl) (Nat.le_of_ble_eq_true rfl) d_Tr_init_72 (fun H locs hw => ?_)
  have hw : gw D gC s0.heap 16 (va_up w15 5 (.inr (5, [.ref (s0.heap.size + 6), .ref (s0.heap.size + 8), .ref (s0.heap.size + 10), .ref (s0.heap.size + 12), .ref (s0.heap.size + 13), .ref (s0.heap.size + 14), .int 0]))) _ _ := hw
  generalize hwe : va_up w15 5 (.inr (5, [.ref (s0.heap.size + 6), .ref (s0.heap.size + 8), .ref (s0.heap.size + 10), .ref (s0.heap.size + 12), .ref (s0.heap.size + 13), .ref (s0.heap.size + 14), .int 0])) = w16 at hw
  have hO : ∀ q, q < 6 → q ≠ 5 → w16 q = w q := fun q h1 h2 => (congrFun hwe q).symm.trans ((va_up_ne _ _ (by omega)).trans (hO q h1 h2))
  have hN : ∀ q, 6 ≤ q → q < 16 → q ≠ 13 → w16 q = wI s0.heap.size aC q := fun q h1 h2 h_es => (congrFun hwe q).symm.trans ((va_up_ne _ _ (by omega)).trans (hN q h1 (by omega) (by omega)))
  have c_es : w16 13 = .inl (aC 3, 24, .inr (.inr (.inr (.inr (fun _ => none))))) := by rw [← hwe, va_up_ne _ _ (by omega)]; exact c_es
  have c_this : w16 5 = .inr (5, [.ref (s0.heap.size + 6), .ref (s0.heap.size + 8), .ref (s0.heap.size + 10), .ref (s0.heap.size + 12), .ref (s0.heap.size + 13), .ref (s0.heap.size + 14), .int 0]) := by rw [← hwe, va_up_self]
  clear hwe
  refine lv_aload_n hx hb d_Tr_init_75 rfl (lv_at hl 0 rfl) ?_
  refine lv_iconst (v := 0) hx hb d_Tr_init_76 (by decide) ?_
  refine gw_put (v := .int 0) (C := R_Tr) (T := F_Tr) (N := 7) (ci := 5) (fs := [.ref (s0.heap.size + 6), .ref (s0.heap.size + 8), .ref (s0.heap.size + 10), .ref (s0.heap.size + 12), .ref (s0.heap.size + 13), .ref (s0.heap.size + 14), .int 0]) hx hb (fw_Tr T) hown hK hw (fun _ h => h) t_Tr t_Tr_ok n_Tr (by omega) c_this rfl 6 (by decide) (kf_Tr_43 T) rfl rfl (rfl) (rfl) (Nat.le_of_ble_eq_true rfl) d_Tr_init_77 (fun H locs hw => ?_)
  have hw : gw D gC s0.heap 16 (va_up w16 5 (.inr (5, [.ref (s0.heap.size + 6), .ref (s0.heap.size + 8), .ref (s0.heap.size + 10), .ref (s0.heap.size + 12), .ref (s0.heap.size + 13), .ref (s0.heap.size + 14), .int 0]))) _ _ := hw
  generalize hwe : va_up w16 5 (.inr (5, [.ref (s0.heap.size + 6), .ref (s0.heap.size + 8), .ref (s0.heap.size + 10), .ref (s0.heap.size + 12), .ref (s0.heap.size + 13), .ref (s0.heap.size + 14), .int 0])) = w17 at hw
  have hO : ∀ q, q < 6 → q ≠ 5 → w17 q = w q := fun q h1 h2 => (congrFun hwe q).symm.trans ((va_up_ne _ _ (by omega)).trans (hO q h1 h2))
  have hN : ∀ q, 6 ≤ q → q < 16 → q ≠ 13 → w17 q = wI s0.heap.size aC q := fun q h1 h2 h_es => (congrFun hwe q).symm.trans ((va_up_ne _ _ (by omega)).trans (hN q h1 (by omega) (by omega)))
  have c_es : w17 13 = .inl (aC 3, 24, .inr (.inr (.inr (.inr (fun _ => none))))) := by rw [← hwe, va_up_ne _ _ (by omega)]; exact c_es
  have c_this : w17 5 = .inr (5, [.ref (s0.heap.size + 6), .ref (s0.heap.size + 8), .ref (s0.heap.size + 10), .ref (s0.heap.size + 12), .ref (s0.heap.size + 13), .ref (s0.heap.size + 14), .int 0]) := by rw [← hwe, va_up_self]
  clear hwe
  refine lv_iconst (v := 0) hx hb d_Tr_init_80 (by decide) ?_
  refine lv_istore_n hx hb d_Tr_init_81 rfl hl (by decide) rfl (fun ls hl => ?_)
  exact key 24 0 (by omega) _ _ _ _ (fun _ => none) hl hw hO hN c_this c_es (fun j hj => absurd hj (by omega))
set_option maxHeartbeats 4000000 in
set_option maxRecDepth 100000 in
theorem c_Rd_init {l : Launch} {s0 : State} {D : va_G} {aC : Nat → ClassId} {a0 : Array Value} (G : gG l s0 D aC a0) (w : Nat → va_E) (hwk : w 380 = .inr (8, [.null, .null, .null, .null, .null, .int 0, .null, .int 0, .int 0])) (h5 : w 5 = wI s0.heap.size aC 5) : gKt l s0 D y_Rd_init (Cond.code y_Rd_init b_Rd_init 3 none) 2 60 2 5 [.ref (s0.heap.size + 380), .ref (s0.heap.size + 5), .ref (s0.heap.size + 376)] 381 w 383 (gNew s0.heap.size aC 380 381 383 w) := by
  refine gk_of G (by decide) rfl (Nat.le_of_ble_eq_true rfl) ?_
  intro p e s m below meth c ls B hin hl hw hs0
  have hx := B.1
  have hb := B.2.1
  have hown := B.2.2.2.2.2.1
  have T := B.2.2.2.2.2.2.1
  have hK := B.2.2.2.2.2.2.2.1
  have hr0 : nRow 0 = 240 := rfl
  have hw0 : oRow 0 = 1 := rfl
  have hr1 : nRow 1 = 1440 := rfl
  have hw1 : oRow 1 = 3 := rfl
  have hr2 : nRow 2 = 240 := rfl
  have hw2 : oRow 2 = 6 := rfl
  have hr3 : nRow 3 = 240 := rfl
  have hw3 : oRow 3 = 8 := rfl
  have hr4 : nRow 4 = 240 := rfl
  have hw4 : oRow 4 = 10 := rfl
  have hr5 : nRow 5 = 1440 := rfl
  have hw5 : oRow 5 = 377 := rfl
  have hO : ∀ q, q < 381 → q ≠ 380 → w q = w q := fun _ _ _ => rfl
  have hN : ∀ q, 381 ≤ q → q < 381 → w q = wI s0.heap.size aC q := fun q h1 h2 => absurd h1 (by omega)
  have c_this := hwk
  refine lv_aload_n hx hb d_Rd_init_0 rfl (lv_at hl 0 rfl) ?_
  refine gk_obj B hl.1 (km_Rd_3 T) (Nat.le_of_ble_eq_true rfl) (Nat.le_of_ble_eq_true rfl) (Nat.le_of_ble_eq_true rfl) d_Rd_init_1 ?_
  refine lv_aload_n hx hb d_Rd_init_4 rfl (lv_at hl 0 rfl) ?_
  refine gw_sz hw (by omega) hs0 (by omega) (fun hz => ?_)
  refine gw_new (C := R_Nm) (T := F_Nm) (N := 4) (ci := 3) (fs := [.int 0, .int 0, .int 0, .null]) hx hb (fw_Nm T) hown hK hw hz (fun _ h => h) t_Nm t_Nm_ok rfl (kc_Rd_9 T) (kn_Nm T) (ki_Nm T) (fun j hj => by match j, hj with | 0, _ => rfl | 1, _ => rfl | 2, _ => rfl | 3, _ => rfl | j + 4, hj => exact absurd hj (by omega)) (by first | omega | (simp only [gRm]; omega) | decide) (by first | omega | (simp only [gRm]; omega) | decide) d_Rd_init_5 (fun H hw _ => ?_)
  have hw : gw D gC s0.heap 382 (va_up w 381 (.inr (3, [.int 0, .int 0, .int 0, .null]))) _ _ := hw
  generalize hwe : va_up w 381 (.inr (3, [.int 0, .int 0, .int 0, .null])) = w1 at hw
  have hO : ∀ q, q < 381 → q ≠ 380 → w1 q = w q := fun q h1 h2 => (congrFun hwe q).symm.trans ((va_up_ne _ _ (by omega)).trans (hO q h1 h2))
  have hN : ∀ q, 381 ≤ q → q < 382 → q ≠ 381 → w1 q = wI s0.heap.size aC q := fun q h1 h2 h_nm => (congrFun hwe q).symm.trans ((va_up_ne _ _ (by omega)).trans (hN q h1 (by omega) ))
  have c_this : w1 380 = .inr (8, [.null, .null, .null, .null, .null, .int 0, .null, .int 0, .int 0]) := by rw [← hwe, va_up_ne _ _ (by omega)]; exact c_this
  have c_nm : w1 381 = .inr (3, [.int 0, .int 0, .int 0, .null]) := by rw [← hwe, va_up_self]
  clear hwe
  refine lv_dup hx hb d_Rd_init_8 rfl ?_
  refine gk_callN (As := []) B hl.1 hw (by omega) hs0 (by omega) (c_Nm_init G w1 381 382) (kd_Nm_init T) (ki_Nm T) (km_Rd_11 T) (ka_Nm_init T) rfl ⟨by decide, by decide, by rfl⟩ rfl (Nat.le_of_ble_eq_true rfl) ⟨by decide, by decide⟩ ⟨by first | omega | (simp only [gRm]; omega) | decide, by first | omega | (simp only [gRm]; omega) | decide⟩ d_Rd_init_9 (fun w2 H locs hw hp => ?_)
  rw [show w2 = w1 from hp] at hw
  clear hp
  refine gw_putF (v := .ref (s0.heap.size + 381)) (C := R_Rd) (T := F_Rd) (N := 9) (ci := 8) (fs := [.null, .null, .null, .null, .null, .int 0, .null, .int 0, .int 0]) hx hb (fw_Rd T) hown hK hw (fun _ h => h) t_Rd t_Rd_ok n_Rd (by omega) c_this rfl 4 (by decide) (kf_Rd_12 T) rfl rfl hin (rfl) (rfl) (Nat.le_of_ble_eq_true rfl) d_Rd_init_12 (fun H locs hw => ?_)
  have hw : gw D gC s0.heap 382 (va_up w1 380 (.inr (8, [.null, .null, .null, .null, .ref (s0.heap.size + 381), .int 0, .null, .int 0, .int 0]))) _ _ := hw
  generalize hwe : va_up w1 380 (.inr (8, [.null, .null, .null, .null, .ref (s0.heap.size + 381), .int 0, .null, .int 0, .int 0])) = w3 at hw
  have hO : ∀ q, q < 381 → q ≠ 380 → w3 q = w q := fun q h1 h2 => (congrFun hwe q).symm.trans ((va_up_ne _ _ (by omega)).trans (hO q h1 h2))
  have hN : ∀ q, 381 ≤ q → q < 382 → q ≠ 381 → w3 q = wI s0.heap.size aC q := fun q h1 h2 h_nm => (congrFun hwe q).symm.trans ((va_up_ne _ _ (by omega)).trans (hN q h1 (by omega) (by omega)))
  have c_nm : w3 381 = .inr (3, [.int 0, .int 0, .int 0, .null]) := by rw [← hwe, va_up_ne _ _ (by omega)]; exact c_nm
  have c_this : w3 380 = .inr (8, [.null, .null, .null, .null, .ref (s0.heap.size + 381), .int 0, .null, .int 0, .int 0]) := by rw [← hwe, va_up_self]
  clear hwe
  have hN : ∀ q, 381 ≤ q → q < 382 → w3 q = wI s0.heap.size aC q := fun q h1 h2  => by
    by_cases hq : q = 381
    · rw [hq, c_nm]; exact rfl
    · exact hN q h1 h2 hq
  refine lv_aload_n hx hb d_Rd_init_15 rfl (lv_at hl 0 rfl) ?_
  refine lv_iconst (v := 0) hx hb d_Rd_init_16 (by decide) ?_
  refine gw_put (v := .int 0) (C := R_Rd) (T := F_Rd) (N := 9) (ci := 8) (fs := [.null, .null, .null, .null, .ref (s0.heap.size + 381), .int 0, .null, .int 0, .int 0]) hx hb (fw_Rd T) hown hK hw (fun _ h => h) t_Rd t_Rd_ok n_Rd (by omega) c_this rfl 5 (by decide) (kf_Rd_18 T) rfl rfl (rfl) (rfl) (Nat.le_of_ble_eq_true rfl) d_Rd_init_17 (fun H locs hw => ?_)
  have hw : gw D gC s0.heap 382 (va_up w3 380 (.inr (8, [.null, .null, .null, .null, .ref (s0.heap.size + 381), .int 0, .null, .int 0, .int 0]))) _ _ := hw
  generalize hwe : va_up w3 380 (.inr (8, [.null, .null, .null, .null, .ref (s0.heap.size + 381), .int 0, .null, .int 0, .int 0])) = w4 at hw
  have hO : ∀ q, q < 381 → q ≠ 380 → w4 q = w q := fun q h1 h2 => (congrFun hwe q).symm.trans ((va_up_ne _ _ (by omega)).trans (hO q h1 h2))
  have hN : ∀ q, 381 ≤ q → q < 382 → w4 q = wI s0.heap.size aC q := fun q h1 h2  => (congrFun hwe q).symm.trans ((va_up_ne _ _ (by omega)).trans (hN q h1 (by omega) ))
  have c_this : w4 380 = .inr (8, [.null, .null, .null, .null, .ref (s0.heap.size + 381), .int 0, .null, .int 0, .int 0]) := by rw [← hwe, va_up_self]
  clear hwe
  refine lv_aload_n hx hb d_Rd_init_20 rfl (lv_at hl 0 rfl) ?_
  refine lv_null hx hb d_Rd_init_21 ?_
  refine gw_put (v := .null) (C := R_Rd) (T := F_Rd) (N := 9) (ci := 8) (fs := [.null, .null, .null, .null, .ref (s0.heap.size + 381), .int 0, .null, .int 0, .int 0]) hx hb (fw_Rd T) hown hK hw (fun _ h => h) t_Rd t_Rd_ok n_Rd (by omega) c_this rfl 6 (by decide) (kf_Rd_22 T) rfl rfl (rfl) (rfl) (Nat.le_of_ble_eq_true rfl) d_Rd_init_22 (fun H locs hw => ?_)
  have hw : gw D gC s0.heap 382 (va_up w4 380 (.inr (8, [.null, .null, .null, .null, .ref (s0.heap.size + 381), .int 0, .null, .int 0, .int 0]))) _ _ := hw
  generalize hwe : va_up w4 380 (.inr (8, [.null, .null, .null, .null, .ref (s0.heap.size + 381), .int 0, .null, .int 0, .int 0])) = w5 at hw
  have hO : ∀ q, q < 381 → q ≠ 380 → w5 q = w q := fun q h1 h2 => (congrFun hwe q).symm.trans ((va_up_ne _ _ (by omega)).trans (hO q h1 h2))
  have hN : ∀ q, 381 ≤ q → q < 382 → w5 q = wI s0.heap.size aC q := fun q h1 h2  => (congrFun hwe q).symm.trans ((va_up_ne _ _ (by omega)).trans (hN q h1 (by omega) ))
  have c_this : w5 380 = .inr (8, [.null, .null, .null, .null, .ref (s0.heap.size + 381), .int 0, .null, .int 0, .int 0]) := by rw [← hwe, va_up_self]
  clear hwe
  refine lv_aload_n hx hb d_Rd_init_25 rfl (lv_at hl 0 rfl) ?_
  refine lv_iconst (v := 0) hx hb d_Rd_init_26 (by decide) ?_
  refine gw_put (v := .int 0) (C := R_Rd) (T := F_Rd) (N := 9) (ci := 8) (fs := [.null, .null, .null, .null, .ref (s0.heap.size + 381), .int 0, .null, .int 0, .int 0]) hx hb (fw_Rd T) hown hK hw (fun _ h => h) t_Rd t_Rd_ok n_Rd (by omega) c_this rfl 7 (by decide) (kf_Rd_26 T) rfl rfl (rfl) (rfl) (Nat.le_of_ble_eq_true rfl) d_Rd_init_27 (fun H locs hw => ?_)
  have hw : gw D gC s0.heap 382 (va_up w5 380 (.inr (8, [.null, .null, .null, .null, .ref (s0.heap.size + 381), .int 0, .null, .int 0, .int 0]))) _ _ := hw
  generalize hwe : va_up w5 380 (.inr (8, [.null, .null, .null, .null, .ref (s0.heap.size + 381), .int 0, .null, .int 0, .int 0])) = w6 at hw
  have hO : ∀ q, q < 381 → q ≠ 380 → w6 q = w q := fun q h1 h2 => (congrFun hwe q).symm.trans ((va_up_ne _ _ (by omega)).trans (hO q h1 h2))
  have hN : ∀ q, 381 ≤ q → q < 382 → w6 q = wI s0.heap.size aC q := fun q h1 h2  => (congrFun hwe q).symm.trans ((va_up_ne _ _ (by omega)).trans (hN q h1 (by omega) ))
  have c_this : w6 380 = .inr (8, [.null, .null, .null, .null, .ref (s0.heap.size + 381), .int 0, .null, .int 0, .int 0]) := by rw [← hwe, va_up_self]
  clear hwe
  refine lv_aload_n hx hb d_Rd_init_30 rfl (lv_at hl 0 rfl) ?_
  refine lv_iconst (v := -1) hx hb d_Rd_init_31 (by decide) ?_
  refine gw_put (v := .int (-1)) (C := R_Rd) (T := F_Rd) (N := 9) (ci := 8) (fs := [.null, .null, .null, .null, .ref (s0.heap.size + 381), .int 0, .null, .int 0, .int 0]) hx hb (fw_Rd T) hown hK hw (fun _ h => h) t_Rd t_Rd_ok n_Rd (by omega) c_this rfl 8 (by decide) (kf_Rd_29 T) rfl rfl (rfl) (rfl) (Nat.le_of_ble_eq_true rfl) d_Rd_init_32 (fun H locs hw => ?_)
  have hw : gw D gC s0.heap 382 (va_up w6 380 (.inr (8, [.null, .null, .null, .null, .ref (s0.heap.size + 381), .int 0, .null, .int 0, .int (-1)]))) _ _ := hw
  generalize hwe : va_up w6 380 (.inr (8, [.null, .null, .null, .null, .ref (s0.heap.size + 381), .int 0, .null, .int 0, .int (-1)])) = w7 at hw
  have hO : ∀ q, q < 381 → q ≠ 380 → w7 q = w q := fun q h1 h2 => (congrFun hwe q).symm.trans ((va_up_ne _ _ (by omega)).trans (hO q h1 h2))
  have hN : ∀ q, 381 ≤ q → q < 382 → w7 q = wI s0.heap.size aC q := fun q h1 h2  => (congrFun hwe q).symm.trans ((va_up_ne _ _ (by omega)).trans (hN q h1 (by omega) ))
  have c_this : w7 380 = .inr (8, [.null, .null, .null, .null, .ref (s0.heap.size + 381), .int 0, .null, .int 0, .int (-1)]) := by rw [← hwe, va_up_self]
  clear hwe
  refine lv_aload_n hx hb d_Rd_init_35 rfl (lv_at hl 0 rfl) ?_
  refine lv_aload_n hx hb d_Rd_init_36 rfl (lv_at hl 1 rfl) ?_
  refine gw_putF (v := .ref (s0.heap.size + 5)) (C := R_Rd) (T := F_Rd) (N := 9) (ci := 8) (fs := [.null, .null, .null, .null, .ref (s0.heap.size + 381), .int 0, .null, .int 0, .int (-1)]) hx hb (fw_Rd T) hown hK hw (fun _ h => h) t_Rd t_Rd_ok n_Rd (by omega) c_this rfl 0 (by decide) (kf_Rd_32 T) rfl rfl hin (rfl) (rfl) (Nat.le_of_ble_eq_true rfl) d_Rd_init_37 (fun H locs hw => ?_)
  have hw : gw D gC s0.heap 382 (va_up w7 380 (.inr (8, [.ref (s0.heap.size + 5), .null, .null, .null, .ref (s0.heap.size + 381), .int 0, .null, .int 0, .int (-1)]))) _ _ := hw
  generalize hwe : va_up w7 380 (.inr (8, [.ref (s0.heap.size + 5), .null, .null, .null, .ref (s0.heap.size + 381), .int 0, .null, .int 0, .int (-1)])) = w8 at hw
  have hO : ∀ q, q < 381 → q ≠ 380 → w8 q = w q := fun q h1 h2 => (congrFun hwe q).symm.trans ((va_up_ne _ _ (by omega)).trans (hO q h1 h2))
  have hN : ∀ q, 381 ≤ q → q < 382 → w8 q = wI s0.heap.size aC q := fun q h1 h2  => (congrFun hwe q).symm.trans ((va_up_ne _ _ (by omega)).trans (hN q h1 (by omega) ))
  have c_this : w8 380 = .inr (8, [.ref (s0.heap.size + 5), .null, .null, .null, .ref (s0.heap.size + 381), .int 0, .null, .int 0, .int (-1)]) := by rw [← hwe, va_up_self]
  clear hwe
  refine lv_aload_n hx hb d_Rd_init_40 rfl (lv_at hl 0 rfl) ?_
  refine lv_aload_n hx hb d_Rd_init_41 rfl (lv_at hl 2 rfl) ?_
  refine gw_putF (v := .ref (s0.heap.size + 376)) (C := R_Rd) (T := F_Rd) (N := 9) (ci := 8) (fs := [.ref (s0.heap.size + 5), .null, .null, .null, .ref (s0.heap.size + 381), .int 0, .null, .int 0, .int (-1)]) hx hb (fw_Rd T) hown hK hw (fun _ h => h) t_Rd t_Rd_ok n_Rd (by omega) c_this rfl 1 (by decide) (kf_Rd_36 T) rfl rfl hin (rfl) (rfl) (Nat.le_of_ble_eq_true rfl) d_Rd_init_42 (fun H locs hw => ?_)
  have hw : gw D gC s0.heap 382 (va_up w8 380 (.inr (8, [.ref (s0.heap.size + 5), .ref (s0.heap.size + 376), .null, .null, .ref (s0.heap.size + 381), .int 0, .null, .int 0, .int (-1)]))) _ _ := hw
  generalize hwe : va_up w8 380 (.inr (8, [.ref (s0.heap.size + 5), .ref (s0.heap.size + 376), .null, .null, .ref (s0.heap.size + 381), .int 0, .null, .int 0, .int (-1)])) = w9 at hw
  have hO : ∀ q, q < 381 → q ≠ 380 → w9 q = w q := fun q h1 h2 => (congrFun hwe q).symm.trans ((va_up_ne _ _ (by omega)).trans (hO q h1 h2))
  have hN : ∀ q, 381 ≤ q → q < 382 → w9 q = wI s0.heap.size aC q := fun q h1 h2  => (congrFun hwe q).symm.trans ((va_up_ne _ _ (by omega)).trans (hN q h1 (by omega) ))
  have c_this : w9 380 = .inr (8, [.ref (s0.heap.size + 5), .ref (s0.heap.size + 376), .null, .null, .ref (s0.heap.size + 381), .int 0, .null, .int 0, .int (-1)]) := by rw [← hwe, va_up_self]
  clear hwe
  refine lv_aload_n hx hb d_Rd_init_45 rfl (lv_at hl 0 rfl) ?_
  refine gw_sz hw (by omega) hs0 (by omega) (fun hz => ?_)
  refine gw_new (C := R_SF) (T := F_SF) (N := 1) (ci := 7) (fs := [.null]) hx hb (fw_SF T) hown hK hw hz (fun _ h => h) t_SF t_SF_ok rfl (kc_Rd_40 T) (kn_SF T) (ki_SF T) (fun j hj => by match j, hj with | 0, _ => rfl | j + 1, hj => exact absurd hj (by omega)) (by first | omega | (simp only [gRm]; omega) | decide) (by first | omega | (simp only [gRm]; omega) | decide) d_Rd_init_46 (fun H hw _ => ?_)
  have hw : gw D gC s0.heap 383 (va_up w9 382 (.inr (7, [.null]))) _ _ := hw
  generalize hwe : va_up w9 382 (.inr (7, [.null])) = w10 at hw
  have hO : ∀ q, q < 381 → q ≠ 380 → w10 q = w q := fun q h1 h2 => (congrFun hwe q).symm.trans ((va_up_ne _ _ (by omega)).trans (hO q h1 h2))
  have hN : ∀ q, 381 ≤ q → q < 383 → q ≠ 382 → w10 q = wI s0.heap.size aC q := fun q h1 h2 h_sf => (congrFun hwe q).symm.trans ((va_up_ne _ _ (by omega)).trans (hN q h1 (by omega) ))
  have c_this : w10 380 = .inr (8, [.ref (s0.heap.size + 5), .ref (s0.heap.size + 376), .null, .null, .ref (s0.heap.size + 381), .int 0, .null, .int 0, .int (-1)]) := by rw [← hwe, va_up_ne _ _ (by omega)]; exact c_this
  have c_sf : w10 382 = .inr (7, [.null]) := by rw [← hwe, va_up_self]
  clear hwe
  refine lv_dup hx hb d_Rd_init_49 rfl ?_
  refine lv_aload_n hx hb d_Rd_init_50 rfl (lv_at hl 1 rfl) ?_
  refine gk_call (As := [.ref (s0.heap.size + 5)]) B hl.1 hw (by omega) hs0 (by omega) (c_SF_init G w10 c_sf) (kd_SF_init T) (ki_SF T) (km_Rd_42 T) (ka_SF_init T) rfl ⟨by decide, by decide, by rfl⟩ rfl (Nat.le_of_ble_eq_true rfl) ⟨by decide, by decide⟩ ⟨by first | omega | (simp only [gRm]; omega) | decide, by first | omega | (simp only [gRm]; omega) | decide⟩ d_Rd_init_51 (fun w11 H locs hw hp => ?_)
  have hO : ∀ q, q < 381 → q ≠ 380 → w11 q = w q := fun q h1 h2 => (hp.1 q (by omega) (by omega)).trans (hO q h1 h2)
  have hN : ∀ q, 381 ≤ q → q < 383 → w11 q = wI s0.heap.size aC q := fun q h1 h2  => by
    by_cases hq : q = 382
    · rw [hq]; exact hp.2.1
    · by_cases hq2 : q < 383
      · exact (hp.1 q hq2 hq).trans (hN q h1 hq2 hq)
      · exact hp.2.2 q (by omega) h2
  have c_this : w11 380 = .inr (8, [.ref (s0.heap.size + 5), .ref (s0.heap.size + 376), .null, .null, .ref (s0.heap.size + 381), .int 0, .null, .int 0, .int (-1)]) := (hp.1 _ (by omega) (by omega)).trans c_this
  refine gw_putF (v := .ref (s0.heap.size + 382)) (C := R_Rd) (T := F_Rd) (N := 9) (ci := 8) (fs := [.ref (s0.heap.size + 5), .ref (s0.heap.size + 376), .null, .null, .ref (s0.heap.size + 381), .int 0, .null, .int 0, .int (-1)]) hx hb (fw_Rd T) hown hK hw (fun _ h => h) t_Rd t_Rd_ok n_Rd (by omega) c_this rfl 2 (by decide) (kf_Rd_45 T) rfl rfl hin (rfl) (rfl) (Nat.le_of_ble_eq_true rfl) d_Rd_init_54 (fun H locs hw => ?_)
  have hw : gw D gC s0.heap 383 (va_up w11 380 (.inr (8, [.ref (s0.heap.size + 5), .ref (s0.heap.size + 376), .ref (s0.heap.size + 382), .null, .ref (s0.heap.size + 381), .int 0, .null, .int 0, .int (-1)]))) _ _ := hw
  generalize hwe : va_up w11 380 (.inr (8, [.ref (s0.heap.size + 5), .ref (s0.heap.size + 376), .ref (s0.heap.size + 382), .null, .ref (s0.heap.size + 381), .int 0, .null, .int 0, .int (-1)])) = w12 at hw
  have hO : ∀ q, q < 381 → q ≠ 380 → w12 q = w q := fun q h1 h2 => (congrFun hwe q).symm.trans ((va_up_ne _ _ (by omega)).trans (hO q h1 h2))
  have hN : ∀ q, 381 ≤ q → q < 383 → w12 q = wI s0.heap.size aC q := fun q h1 h2  => (congrFun hwe q).symm.trans ((va_up_ne _ _ (by omega)).trans (hN q h1 (by omega) ))
  have c_this : w12 380 = .inr (8, [.ref (s0.heap.size + 5), .ref (s0.heap.size + 376), .ref (s0.heap.size + 382), .null, .ref (s0.heap.size + 381), .int 0, .null, .int 0, .int (-1)]) := by rw [← hwe, va_up_self]
  clear hwe
  refine lv_aload_n hx hb d_Rd_init_57 rfl (lv_at hl 0 rfl) ?_
  refine lv_aload_n hx hb d_Rd_init_58 rfl (lv_at hl 1 rfl) ?_
  have c_tr : w12 5 = .inr (5, [.ref (s0.heap.size + 6), .ref (s0.heap.size + 8), .ref (s0.heap.size + 10), .ref (s0.heap.size + 12), .ref (s0.heap.size + 13), .ref (s0.heap.size + 14), .int 0]) := (hO 5 (by omega) (by omega)).trans (h5.trans rfl)
  refine gw_get (C := R_Tr) (T := F_Tr) (N := 7) (ci := 5) (fs := [.ref (s0.heap.size + 6), .ref (s0.heap.size + 8), .ref (s0.heap.size + 10), .ref (s0.heap.size + 12), .ref (s0.heap.size + 13), .ref (s0.heap.size + 14), .int 0]) hx hb (fw_Tr T) hown hK hw (fun _ h => h) (by omega) c_tr rfl 0 (by decide) (kf_Rd_49 T) rfl rfl d_Rd_init_59 ?_
  refine gw_putF (v := .ref (s0.heap.size + 6)) (C := R_Rd) (T := F_Rd) (N := 9) (ci := 8) (fs := [.ref (s0.heap.size + 5), .ref (s0.heap.size + 376), .ref (s0.heap.size + 382), .null, .ref (s0.heap.size + 381), .int 0, .null, .int 0, .int (-1)]) hx hb (fw_Rd T) hown hK hw (fun _ h => h) t_Rd t_Rd_ok n_Rd (by omega) c_this rfl 3 (by decide) (kf_Rd_55 T) rfl rfl hin (rfl) (rfl) (Nat.le_of_ble_eq_true rfl) d_Rd_init_62 (fun H locs hw => ?_)
  have hw : gw D gC s0.heap 383 (va_up w12 380 (.inr (8, [.ref (s0.heap.size + 5), .ref (s0.heap.size + 376), .ref (s0.heap.size + 382), .ref (s0.heap.size + 6), .ref (s0.heap.size + 381), .int 0, .null, .int 0, .int (-1)]))) _ _ := hw
  generalize hwe : va_up w12 380 (.inr (8, [.ref (s0.heap.size + 5), .ref (s0.heap.size + 376), .ref (s0.heap.size + 382), .ref (s0.heap.size + 6), .ref (s0.heap.size + 381), .int 0, .null, .int 0, .int (-1)])) = w13 at hw
  have hO : ∀ q, q < 381 → q ≠ 380 → w13 q = w q := fun q h1 h2 => (congrFun hwe q).symm.trans ((va_up_ne _ _ (by omega)).trans (hO q h1 h2))
  have hN : ∀ q, 381 ≤ q → q < 383 → w13 q = wI s0.heap.size aC q := fun q h1 h2  => (congrFun hwe q).symm.trans ((va_up_ne _ _ (by omega)).trans (hN q h1 (by omega) ))
  have c_this : w13 380 = .inr (8, [.ref (s0.heap.size + 5), .ref (s0.heap.size + 376), .ref (s0.heap.size + 382), .ref (s0.heap.size + 6), .ref (s0.heap.size + 381), .int 0, .null, .int 0, .int (-1)]) := by rw [← hwe, va_up_self]
  clear hwe
  exact gk_ret B hw (by decide) (by decide) d_Rd_init_65 ⟨hO, by rw [c_this]; rfl, hN⟩
set_option maxHeartbeats 4000000 in
set_option maxRecDepth 100000 in
theorem c_MR_init {l : Launch} {s0 : State} {D : va_G} {aC : Nat → ClassId} {a0 : Array Value} (G : gG l s0 D aC a0) (w : Nat → va_E) (hwk : w 0 = .inr (0, [.null, .null, .null, .null, .null])) : gKt l s0 D y_MR_init (Cond.code y_MR_init b_MR_init 1 none) 5 180 382 5800 [.ref (s0.heap.size + 0)] 1 w 383 (gNew s0.heap.size aC 0 1 383 w) := by
  refine gk_of G (by decide) rfl (Nat.le_of_ble_eq_true rfl) ?_
  intro p e s m below meth c ls B hin hl hw hs0
  have hx := B.1
  have hb := B.2.1
  have hown := B.2.2.2.2.2.1
  have T := B.2.2.2.2.2.2.1
  have hK := B.2.2.2.2.2.2.2.1
  have hr0 : nRow 0 = 240 := rfl
  have hw0 : oRow 0 = 1 := rfl
  have hr1 : nRow 1 = 1440 := rfl
  have hw1 : oRow 1 = 3 := rfl
  have hr2 : nRow 2 = 240 := rfl
  have hw2 : oRow 2 = 6 := rfl
  have hr3 : nRow 3 = 240 := rfl
  have hw3 : oRow 3 = 8 := rfl
  have hr4 : nRow 4 = 240 := rfl
  have hw4 : oRow 4 = 10 := rfl
  have hr5 : nRow 5 = 1440 := rfl
  have hw5 : oRow 5 = 377 := rfl
  have hO : ∀ q, q < 1 → q ≠ 0 → w q = w q := fun _ _ _ => rfl
  have hN : ∀ q, 1 ≤ q → q < 1 → w q = wI s0.heap.size aC q := fun q h1 h2 => absurd h1 (by omega)
  have c_this := hwk
  refine lv_aload_n hx hb d_MR_init_0 rfl (lv_at hl 0 rfl) ?_
  refine gk_obj B hl.1 (km_MR_3 T) (Nat.le_of_ble_eq_true rfl) (Nat.le_of_ble_eq_true rfl) (Nat.le_of_ble_eq_true rfl) d_MR_init_1 ?_
  refine lv_aload_n hx hb d_MR_init_4 rfl (lv_at hl 0 rfl) ?_
  refine gw_sz hw (by omega) hs0 (by omega) (fun hz => ?_)
  refine gw_new (C := R_Row) (T := F_Row) (N := 2) (ci := 1) (fs := [.null, .int 0]) hx hb (fw_Row T) hown hK hw hz (fun _ h => h) t_Row t_Row_ok rfl (kc_MR_9 T) (kn_Row T) (ki_Row T) (fun j hj => by match j, hj with | 0, _ => rfl | 1, _ => rfl | j + 2, hj => exact absurd hj (by omega)) (by first | omega | (simp only [gRm]; omega) | decide) (by first | omega | (simp only [gRm]; omega) | decide) d_MR_init_5 (fun H hw _ => ?_)
  have hw : gw D gC s0.heap 2 (va_up w 1 (.inr (1, [.null, .int 0]))) _ _ := hw
  generalize hwe : va_up w 1 (.inr (1, [.null, .int 0])) = w1 at hw
  have hO : ∀ q, q < 1 → q ≠ 0 → w1 q = w q := fun q h1 h2 => (congrFun hwe q).symm.trans ((va_up_ne _ _ (by omega)).trans (hO q h1 h2))
  have hN : ∀ q, 1 ≤ q → q < 2 → q ≠ 1 → w1 q = wI s0.heap.size aC q := fun q h1 h2 h_row => (congrFun hwe q).symm.trans ((va_up_ne _ _ (by omega)).trans (hN q h1 (by omega) ))
  have c_this : w1 0 = .inr (0, [.null, .null, .null, .null, .null]) := by rw [← hwe, va_up_ne _ _ (by omega)]; exact c_this
  have c_row : w1 1 = .inr (1, [.null, .int 0]) := by rw [← hwe, va_up_self]
  clear hwe
  refine lv_dup hx hb d_MR_init_8 rfl ?_
  refine lv_sipush (v := 240) hx hb d_MR_init_9 (by decide) ?_
  refine gk_call (As := [.int (nI (nRow 0))]) B hl.1 hw (by omega) hs0 (by omega) (c_Row_init G w1 0 2 (by decide) rfl c_row) (kd_Row_init T) (ki_Row T) (km_MR_11 T) (ka_Row_init T) rfl ⟨by decide, by decide, by rfl⟩ rfl (Nat.le_of_ble_eq_true rfl) ⟨by decide, by decide⟩ ⟨by first | omega | (simp only [gRm]; omega) | decide, by first | omega | (simp only [gRm]; omega) | decide⟩ d_MR_init_12 (fun w2 H locs hw hp => ?_)
  have hO : ∀ q, q < 1 → q ≠ 0 → w2 q = w q := fun q h1 h2 => (hp.1 q (by omega) (by omega)).trans (hO q h1 h2)
  have hN : ∀ q, 1 ≤ q → q < 3 → w2 q = wI s0.heap.size aC q := fun q h1 h2  => by
    by_cases hq : q = 1
    · rw [hq]; exact hp.2.1
    · by_cases hq2 : q < 2
      · exact (hp.1 q hq2 hq).trans (hN q h1 hq2 hq)
      · exact hp.2.2 q (by omega) h2
  have c_this : w2 0 = .inr (0, [.null, .null, .null, .null, .null]) := (hp.1 _ (by omega) (by omega)).trans c_this
  refine gw_putF (v := .ref (s0.heap.size + 1)) (C := R_MR) (T := F_MR) (N := 5) (ci := 0) (fs := [.null, .null, .null, .null, .null]) hx hb (fw_MR T) hown hK hw (fun _ h => h) t_MR t_MR_ok n_MR (by omega) c_this rfl 0 (by decide) (kf_MR_14 T) rfl rfl hin (rfl) (rfl) (Nat.le_of_ble_eq_true rfl) d_MR_init_15 (fun H locs hw => ?_)
  have hw : gw D gC s0.heap 3 (va_up w2 0 (.inr (0, [.ref (s0.heap.size + 1), .null, .null, .null, .null]))) _ _ := hw
  generalize hwe : va_up w2 0 (.inr (0, [.ref (s0.heap.size + 1), .null, .null, .null, .null])) = w3 at hw
  have hO : ∀ q, q < 1 → q ≠ 0 → w3 q = w q := fun q h1 h2 => (congrFun hwe q).symm.trans ((va_up_ne _ _ (by omega)).trans (hO q h1 h2))
  have hN : ∀ q, 1 ≤ q → q < 3 → w3 q = wI s0.heap.size aC q := fun q h1 h2  => (congrFun hwe q).symm.trans ((va_up_ne _ _ (by omega)).trans (hN q h1 (by omega) ))
  have c_this : w3 0 = .inr (0, [.ref (s0.heap.size + 1), .null, .null, .null, .null]) := by rw [← hwe, va_up_self]
  clear hwe
  refine lv_aload_n hx hb d_MR_init_18 rfl (lv_at hl 0 rfl) ?_
  refine gw_sz hw (by omega) hs0 (by omega) (fun hz => ?_)
  refine gw_new (C := R_Row) (T := F_Row) (N := 2) (ci := 1) (fs := [.null, .int 0]) hx hb (fw_Row T) hown hK hw hz (fun _ h => h) t_Row t_Row_ok rfl (kc_MR_9 T) (kn_Row T) (ki_Row T) (fun j hj => by match j, hj with | 0, _ => rfl | 1, _ => rfl | j + 2, hj => exact absurd hj (by omega)) (by first | omega | (simp only [gRm]; omega) | decide) (by first | omega | (simp only [gRm]; omega) | decide) d_MR_init_19 (fun H hw _ => ?_)
  have hw : gw D gC s0.heap 4 (va_up w3 3 (.inr (1, [.null, .int 0]))) _ _ := hw
  generalize hwe : va_up w3 3 (.inr (1, [.null, .int 0])) = w4 at hw
  have hO : ∀ q, q < 1 → q ≠ 0 → w4 q = w q := fun q h1 h2 => (congrFun hwe q).symm.trans ((va_up_ne _ _ (by omega)).trans (hO q h1 h2))
  have hN : ∀ q, 1 ≤ q → q < 4 → q ≠ 3 → w4 q = wI s0.heap.size aC q := fun q h1 h2 h_row => (congrFun hwe q).symm.trans ((va_up_ne _ _ (by omega)).trans (hN q h1 (by omega) ))
  have c_this : w4 0 = .inr (0, [.ref (s0.heap.size + 1), .null, .null, .null, .null]) := by rw [← hwe, va_up_ne _ _ (by omega)]; exact c_this
  have c_row : w4 3 = .inr (1, [.null, .int 0]) := by rw [← hwe, va_up_self]
  clear hwe
  refine lv_dup hx hb d_MR_init_22 rfl ?_
  refine lv_sipush (v := 1440) hx hb d_MR_init_23 (by decide) ?_
  refine gk_call (As := [.int (nI (nRow 1))]) B hl.1 hw (by omega) hs0 (by omega) (c_Row_init G w4 1 4 (by decide) rfl c_row) (kd_Row_init T) (ki_Row T) (km_MR_11 T) (ka_Row_init T) rfl ⟨by decide, by decide, by rfl⟩ rfl (Nat.le_of_ble_eq_true rfl) ⟨by decide, by decide⟩ ⟨by first | omega | (simp only [gRm]; omega) | decide, by first | omega | (simp only [gRm]; omega) | decide⟩ d_MR_init_26 (fun w5 H locs hw hp => ?_)
  have hO : ∀ q, q < 1 → q ≠ 0 → w5 q = w q := fun q h1 h2 => (hp.1 q (by omega) (by omega)).trans (hO q h1 h2)
  have hN : ∀ q, 1 ≤ q → q < 5 → w5 q = wI s0.heap.size aC q := fun q h1 h2  => by
    by_cases hq : q = 3
    · rw [hq]; exact hp.2.1
    · by_cases hq2 : q < 4
      · exact (hp.1 q hq2 hq).trans (hN q h1 hq2 hq)
      · exact hp.2.2 q (by omega) h2
  have c_this : w5 0 = .inr (0, [.ref (s0.heap.size + 1), .null, .null, .null, .null]) := (hp.1 _ (by omega) (by omega)).trans c_this
  refine gw_putF (v := .ref (s0.heap.size + 3)) (C := R_MR) (T := F_MR) (N := 5) (ci := 0) (fs := [.ref (s0.heap.size + 1), .null, .null, .null, .null]) hx hb (fw_MR T) hown hK hw (fun _ h => h) t_MR t_MR_ok n_MR (by omega) c_this rfl 1 (by decide) (kf_MR_18 T) rfl rfl hin (rfl) (rfl) (Nat.le_of_ble_eq_true rfl) d_MR_init_29 (fun H locs hw => ?_)
  have hw : gw D gC s0.heap 5 (va_up w5 0 (.inr (0, [.ref (s0.heap.size + 1), .ref (s0.heap.size + 3), .null, .null, .null]))) _ _ := hw
  generalize hwe : va_up w5 0 (.inr (0, [.ref (s0.heap.size + 1), .ref (s0.heap.size + 3), .null, .null, .null])) = w6 at hw
  have hO : ∀ q, q < 1 → q ≠ 0 → w6 q = w q := fun q h1 h2 => (congrFun hwe q).symm.trans ((va_up_ne _ _ (by omega)).trans (hO q h1 h2))
  have hN : ∀ q, 1 ≤ q → q < 5 → w6 q = wI s0.heap.size aC q := fun q h1 h2  => (congrFun hwe q).symm.trans ((va_up_ne _ _ (by omega)).trans (hN q h1 (by omega) ))
  have c_this : w6 0 = .inr (0, [.ref (s0.heap.size + 1), .ref (s0.heap.size + 3), .null, .null, .null]) := by rw [← hwe, va_up_self]
  clear hwe
  refine lv_aload_n hx hb d_MR_init_32 rfl (lv_at hl 0 rfl) ?_
  refine gw_sz hw (by omega) hs0 (by omega) (fun hz => ?_)
  refine gw_new (C := R_Tr) (T := F_Tr) (N := 7) (ci := 5) (fs := [.null, .null, .null, .null, .null, .null, .int 0]) hx hb (fw_Tr T) hown hK hw hz (fun _ h => h) t_Tr t_Tr_ok rfl (kc_MR_21 T) (kn_Tr T) (ki_Tr T) (fun j hj => by match j, hj with | 0, _ => rfl | 1, _ => rfl | 2, _ => rfl | 3, _ => rfl | 4, _ => rfl | 5, _ => rfl | 6, _ => rfl | j + 7, hj => exact absurd hj (by omega)) (by first | omega | (simp only [gRm]; omega) | decide) (by first | omega | (simp only [gRm]; omega) | decide) d_MR_init_33 (fun H hw _ => ?_)
  have hw : gw D gC s0.heap 6 (va_up w6 5 (.inr (5, [.null, .null, .null, .null, .null, .null, .int 0]))) _ _ := hw
  generalize hwe : va_up w6 5 (.inr (5, [.null, .null, .null, .null, .null, .null, .int 0])) = w7 at hw
  have hO : ∀ q, q < 1 → q ≠ 0 → w7 q = w q := fun q h1 h2 => (congrFun hwe q).symm.trans ((va_up_ne _ _ (by omega)).trans (hO q h1 h2))
  have hN : ∀ q, 1 ≤ q → q < 6 → q ≠ 5 → w7 q = wI s0.heap.size aC q := fun q h1 h2 h_tr => (congrFun hwe q).symm.trans ((va_up_ne _ _ (by omega)).trans (hN q h1 (by omega) ))
  have c_this : w7 0 = .inr (0, [.ref (s0.heap.size + 1), .ref (s0.heap.size + 3), .null, .null, .null]) := by rw [← hwe, va_up_ne _ _ (by omega)]; exact c_this
  have c_tr : w7 5 = .inr (5, [.null, .null, .null, .null, .null, .null, .int 0]) := by rw [← hwe, va_up_self]
  clear hwe
  refine lv_dup hx hb d_MR_init_36 rfl ?_
  refine gk_call (As := []) B hl.1 hw (by omega) hs0 (by omega) (c_Tr_init G w7 c_tr) (kd_Tr_init T) (ki_Tr T) (km_MR_23 T) (ka_Tr_init T) rfl ⟨by decide, by decide, by rfl⟩ rfl (Nat.le_of_ble_eq_true rfl) ⟨by decide, by decide⟩ ⟨by first | omega | (simp only [gRm]; omega) | decide, by first | omega | (simp only [gRm]; omega) | decide⟩ d_MR_init_37 (fun w8 H locs hw hp => ?_)
  have hO : ∀ q, q < 1 → q ≠ 0 → w8 q = w q := fun q h1 h2 => (hp.1 q (by omega) (by omega)).trans (hO q h1 h2)
  have hN : ∀ q, 1 ≤ q → q < 376 → w8 q = wI s0.heap.size aC q := fun q h1 h2  => by
    by_cases hq : q = 5
    · rw [hq]; exact hp.2.1
    · by_cases hq2 : q < 6
      · exact (hp.1 q hq2 hq).trans (hN q h1 hq2 hq)
      · exact hp.2.2 q (by omega) h2
  have c_this : w8 0 = .inr (0, [.ref (s0.heap.size + 1), .ref (s0.heap.size + 3), .null, .null, .null]) := (hp.1 _ (by omega) (by omega)).trans c_this
  refine gw_putF (v := .ref (s0.heap.size + 5)) (C := R_MR) (T := F_MR) (N := 5) (ci := 0) (fs := [.ref (s0.heap.size + 1), .ref (s0.heap.size + 3), .null, .null, .null]) hx hb (fw_MR T) hown hK hw (fun _ h => h) t_MR t_MR_ok n_MR (by omega) c_this rfl 2 (by decide) (kf_MR_24 T) rfl rfl hin (rfl) (rfl) (Nat.le_of_ble_eq_true rfl) d_MR_init_40 (fun H locs hw => ?_)
  have hw : gw D gC s0.heap 376 (va_up w8 0 (.inr (0, [.ref (s0.heap.size + 1), .ref (s0.heap.size + 3), .ref (s0.heap.size + 5), .null, .null]))) _ _ := hw
  generalize hwe : va_up w8 0 (.inr (0, [.ref (s0.heap.size + 1), .ref (s0.heap.size + 3), .ref (s0.heap.size + 5), .null, .null])) = w9 at hw
  have hO : ∀ q, q < 1 → q ≠ 0 → w9 q = w q := fun q h1 h2 => (congrFun hwe q).symm.trans ((va_up_ne _ _ (by omega)).trans (hO q h1 h2))
  have hN : ∀ q, 1 ≤ q → q < 376 → w9 q = wI s0.heap.size aC q := fun q h1 h2  => (congrFun hwe q).symm.trans ((va_up_ne _ _ (by omega)).trans (hN q h1 (by omega) ))
  have c_this : w9 0 = .inr (0, [.ref (s0.heap.size + 1), .ref (s0.heap.size + 3), .ref (s0.heap.size + 5), .null, .null]) := by rw [← hwe, va_up_self]
  clear hwe
  refine lv_aload_n hx hb d_MR_init_43 rfl (lv_at hl 0 rfl) ?_
  refine gw_sz hw (by omega) hs0 (by omega) (fun hz => ?_)
  refine gw_new (C := R_FW) (T := F_FW) (N := 4) (ci := 6) (fs := [.null, .null, .null, .int 0]) hx hb (fw_FW T) hown hK hw hz (fun _ h => h) t_FW t_FW_ok rfl (kc_MR_28 T) (kn_FW T) (ki_FW T) (fun j hj => by match j, hj with | 0, _ => rfl | 1, _ => rfl | 2, _ => rfl | 3, _ => rfl | j + 4, hj => exact absurd hj (by omega)) (by first | omega | (simp only [gRm]; omega) | decide) (by first | omega | (simp only [gRm]; omega) | decide) d_MR_init_44 (fun H hw _ => ?_)
  have hw : gw D gC s0.heap 377 (va_up w9 376 (.inr (6, [.null, .null, .null, .int 0]))) _ _ := hw
  generalize hwe : va_up w9 376 (.inr (6, [.null, .null, .null, .int 0])) = w10 at hw
  have hO : ∀ q, q < 1 → q ≠ 0 → w10 q = w q := fun q h1 h2 => (congrFun hwe q).symm.trans ((va_up_ne _ _ (by omega)).trans (hO q h1 h2))
  have hN : ∀ q, 1 ≤ q → q < 377 → q ≠ 376 → w10 q = wI s0.heap.size aC q := fun q h1 h2 h_fw => (congrFun hwe q).symm.trans ((va_up_ne _ _ (by omega)).trans (hN q h1 (by omega) ))
  have c_this : w10 0 = .inr (0, [.ref (s0.heap.size + 1), .ref (s0.heap.size + 3), .ref (s0.heap.size + 5), .null, .null]) := by rw [← hwe, va_up_ne _ _ (by omega)]; exact c_this
  have c_fw : w10 376 = .inr (6, [.null, .null, .null, .int 0]) := by rw [← hwe, va_up_self]
  clear hwe
  refine lv_dup hx hb d_MR_init_47 rfl ?_
  refine lv_aload_n hx hb d_MR_init_48 rfl (lv_at hl 0 rfl) ?_
  refine gw_get (C := R_MR) (T := F_MR) (N := 5) (ci := 0) (fs := [.ref (s0.heap.size + 1), .ref (s0.heap.size + 3), .ref (s0.heap.size + 5), .null, .null]) hx hb (fw_MR T) hown hK hw (fun _ h => h) (by omega) c_this rfl 2 (by decide) (kf_MR_24 T) rfl rfl d_MR_init_49 ?_
  refine gk_call (As := [.ref (s0.heap.size + 5)]) B hl.1 hw (by omega) hs0 (by omega) (c_FW_init G w10 c_fw) (kd_FW_init T) (ki_FW T) (km_MR_30 T) (ka_FW_init T) rfl ⟨by decide, by decide, by rfl⟩ rfl (Nat.le_of_ble_eq_true rfl) ⟨by decide, by decide⟩ ⟨by first | omega | (simp only [gRm]; omega) | decide, by first | omega | (simp only [gRm]; omega) | decide⟩ d_MR_init_52 (fun w11 H locs hw hp => ?_)
  have hO : ∀ q, q < 1 → q ≠ 0 → w11 q = w q := fun q h1 h2 => (hp.1 q (by omega) (by omega)).trans (hO q h1 h2)
  have hN : ∀ q, 1 ≤ q → q < 380 → w11 q = wI s0.heap.size aC q := fun q h1 h2  => by
    by_cases hq : q = 376
    · rw [hq]; exact hp.2.1
    · by_cases hq2 : q < 377
      · exact (hp.1 q hq2 hq).trans (hN q h1 hq2 hq)
      · exact hp.2.2 q (by omega) h2
  have c_this : w11 0 = .inr (0, [.ref (s0.heap.size + 1), .ref (s0.heap.size + 3), .ref (s0.heap.size + 5), .null, .null]) := (hp.1 _ (by omega) (by omega)).trans c_this
  refine gw_putF (v := .ref (s0.heap.size + 376)) (C := R_MR) (T := F_MR) (N := 5) (ci := 0) (fs := [.ref (s0.heap.size + 1), .ref (s0.heap.size + 3), .ref (s0.heap.size + 5), .null, .null]) hx hb (fw_MR T) hown hK hw (fun _ h => h) t_MR t_MR_ok n_MR (by omega) c_this rfl 3 (by decide) (kf_MR_33 T) rfl rfl hin (rfl) (rfl) (Nat.le_of_ble_eq_true rfl) d_MR_init_55 (fun H locs hw => ?_)
  have hw : gw D gC s0.heap 380 (va_up w11 0 (.inr (0, [.ref (s0.heap.size + 1), .ref (s0.heap.size + 3), .ref (s0.heap.size + 5), .ref (s0.heap.size + 376), .null]))) _ _ := hw
  generalize hwe : va_up w11 0 (.inr (0, [.ref (s0.heap.size + 1), .ref (s0.heap.size + 3), .ref (s0.heap.size + 5), .ref (s0.heap.size + 376), .null])) = w12 at hw
  have hO : ∀ q, q < 1 → q ≠ 0 → w12 q = w q := fun q h1 h2 => (congrFun hwe q).symm.trans ((va_up_ne _ _ (by omega)).trans (hO q h1 h2))
  have hN : ∀ q, 1 ≤ q → q < 380 → w12 q = wI s0.heap.size aC q := fun q h1 h2  => (congrFun hwe q).symm.trans ((va_up_ne _ _ (by omega)).trans (hN q h1 (by omega) ))
  have c_this : w12 0 = .inr (0, [.ref (s0.heap.size + 1), .ref (s0.heap.size + 3), .ref (s0.heap.size + 5), .ref (s0.heap.size + 376), .null]) := by rw [← hwe, va_up_self]
  clear hwe
  refine lv_aload_n hx hb d_MR_init_58 rfl (lv_at hl 0 rfl) ?_
  refine gw_sz hw (by omega) hs0 (by omega) (fun hz => ?_)
  refine gw_new (C := R_Rd) (T := F_Rd) (N := 9) (ci := 8) (fs := [.null, .null, .null, .null, .null, .int 0, .null, .int 0, .int 0]) hx hb (fw_Rd T) hown hK hw hz (fun _ h => h) t_Rd t_Rd_ok rfl (kc_MR_37 T) (kn_Rd T) (ki_Rd T) (fun j hj => by match j, hj with | 0, _ => rfl | 1, _ => rfl | 2, _ => rfl | 3, _ => rfl | 4, _ => rfl | 5, _ => rfl | 6, _ => rfl | 7, _ => rfl | 8, _ => rfl | j + 9, hj => exact absurd hj (by omega)) (by first | omega | (simp only [gRm]; omega) | decide) (by first | omega | (simp only [gRm]; omega) | decide) d_MR_init_59 (fun H hw _ => ?_)
  have hw : gw D gC s0.heap 381 (va_up w12 380 (.inr (8, [.null, .null, .null, .null, .null, .int 0, .null, .int 0, .int 0]))) _ _ := hw
  generalize hwe : va_up w12 380 (.inr (8, [.null, .null, .null, .null, .null, .int 0, .null, .int 0, .int 0])) = w13 at hw
  have hO : ∀ q, q < 1 → q ≠ 0 → w13 q = w q := fun q h1 h2 => (congrFun hwe q).symm.trans ((va_up_ne _ _ (by omega)).trans (hO q h1 h2))
  have hN : ∀ q, 1 ≤ q → q < 381 → q ≠ 380 → w13 q = wI s0.heap.size aC q := fun q h1 h2 h_rd => (congrFun hwe q).symm.trans ((va_up_ne _ _ (by omega)).trans (hN q h1 (by omega) ))
  have c_this : w13 0 = .inr (0, [.ref (s0.heap.size + 1), .ref (s0.heap.size + 3), .ref (s0.heap.size + 5), .ref (s0.heap.size + 376), .null]) := by rw [← hwe, va_up_ne _ _ (by omega)]; exact c_this
  have c_rd : w13 380 = .inr (8, [.null, .null, .null, .null, .null, .int 0, .null, .int 0, .int 0]) := by rw [← hwe, va_up_self]
  clear hwe
  refine lv_dup hx hb d_MR_init_62 rfl ?_
  refine lv_aload_n hx hb d_MR_init_63 rfl (lv_at hl 0 rfl) ?_
  refine gw_get (C := R_MR) (T := F_MR) (N := 5) (ci := 0) (fs := [.ref (s0.heap.size + 1), .ref (s0.heap.size + 3), .ref (s0.heap.size + 5), .ref (s0.heap.size + 376), .null]) hx hb (fw_MR T) hown hK hw (fun _ h => h) (by omega) c_this rfl 2 (by decide) (kf_MR_24 T) rfl rfl d_MR_init_64 ?_
  refine lv_aload_n hx hb d_MR_init_67 rfl (lv_at hl 0 rfl) ?_
  refine gw_get (C := R_MR) (T := F_MR) (N := 5) (ci := 0) (fs := [.ref (s0.heap.size + 1), .ref (s0.heap.size + 3), .ref (s0.heap.size + 5), .ref (s0.heap.size + 376), .null]) hx hb (fw_MR T) hown hK hw (fun _ h => h) (by omega) c_this rfl 3 (by decide) (kf_MR_33 T) rfl rfl d_MR_init_68 ?_
  refine gk_call (As := [.ref (s0.heap.size + 5), .ref (s0.heap.size + 376)]) B hl.1 hw (by omega) hs0 (by omega) (c_Rd_init G w13 c_rd (hN 5 (by omega) (by omega) (by omega))) (kd_Rd_init T) (ki_Rd T) (km_MR_39 T) (ka_Rd_init T) rfl ⟨by decide, by decide, by rfl⟩ rfl (Nat.le_of_ble_eq_true rfl) ⟨by decide, by decide⟩ ⟨by first | omega | (simp only [gRm]; omega) | decide, by first | omega | (simp only [gRm]; omega) | decide⟩ d_MR_init_71 (fun w14 H locs hw hp => ?_)
  have hO : ∀ q, q < 1 → q ≠ 0 → w14 q = w q := fun q h1 h2 => (hp.1 q (by omega) (by omega)).trans (hO q h1 h2)
  have hN : ∀ q, 1 ≤ q → q < 383 → w14 q = wI s0.heap.size aC q := fun q h1 h2  => by
    by_cases hq : q = 380
    · rw [hq]; exact hp.2.1
    · by_cases hq2 : q < 381
      · exact (hp.1 q hq2 hq).trans (hN q h1 hq2 hq)
      · exact hp.2.2 q (by omega) h2
  have c_this : w14 0 = .inr (0, [.ref (s0.heap.size + 1), .ref (s0.heap.size + 3), .ref (s0.heap.size + 5), .ref (s0.heap.size + 376), .null]) := (hp.1 _ (by omega) (by omega)).trans c_this
  refine gw_putF (v := .ref (s0.heap.size + 380)) (C := R_MR) (T := F_MR) (N := 5) (ci := 0) (fs := [.ref (s0.heap.size + 1), .ref (s0.heap.size + 3), .ref (s0.heap.size + 5), .ref (s0.heap.size + 376), .null]) hx hb (fw_MR T) hown hK hw (fun _ h => h) t_MR t_MR_ok n_MR (by omega) c_this rfl 4 (by decide) (kf_MR_42 T) rfl rfl hin (rfl) (rfl) (Nat.le_of_ble_eq_true rfl) d_MR_init_74 (fun H locs hw => ?_)
  have hw : gw D gC s0.heap 383 (va_up w14 0 (.inr (0, [.ref (s0.heap.size + 1), .ref (s0.heap.size + 3), .ref (s0.heap.size + 5), .ref (s0.heap.size + 376), .ref (s0.heap.size + 380)]))) _ _ := hw
  generalize hwe : va_up w14 0 (.inr (0, [.ref (s0.heap.size + 1), .ref (s0.heap.size + 3), .ref (s0.heap.size + 5), .ref (s0.heap.size + 376), .ref (s0.heap.size + 380)])) = w15 at hw
  have hO : ∀ q, q < 1 → q ≠ 0 → w15 q = w q := fun q h1 h2 => (congrFun hwe q).symm.trans ((va_up_ne _ _ (by omega)).trans (hO q h1 h2))
  have hN : ∀ q, 1 ≤ q → q < 383 → w15 q = wI s0.heap.size aC q := fun q h1 h2  => (congrFun hwe q).symm.trans ((va_up_ne _ _ (by omega)).trans (hN q h1 (by omega) ))
  have c_this : w15 0 = .inr (0, [.ref (s0.heap.size + 1), .ref (s0.heap.size + 3), .ref (s0.heap.size + 5), .ref (s0.heap.size + 376), .ref (s0.heap.size + 380)]) := by rw [← hwe, va_up_self]
  clear hwe
  exact gk_ret B hw (by decide) (by decide) d_MR_init_77 ⟨hO, by rw [c_this]; rfl, hN⟩
set_option maxHeartbeats 4000000 in
set_option maxRecDepth 100000 in
theorem c_Mo_init {l : Launch} {s0 : State} {D : va_G} {aC : Nat → ClassId} {a0 : Array Value} (G : gG l s0 D aC a0) (w : Nat → va_E) (hwk : w 383 = .inr (9, [.int 0, .int 0, .null, .int 0, .int 0, .int 0, .int 0, .int 0, .null, .int 0, .null, .null, .null, .null, .null, .null, .null, .null, .null, .null, .null, .null, .int 0, .null, .int 0, .int 0, .int 0, .null, .int 0, .int 0, .null, .int 0, .int 0, .int 0])) : gKt l s0 D y_Mo_init (Cond.code y_Mo_init b_Mo_init 1 none) 1 20 17 7000 [.ref (s0.heap.size + 383)] 384 w 401 (gNew s0.heap.size aC 383 384 401 w) := by
  refine gk_of G (by decide) rfl (Nat.le_of_ble_eq_true rfl) ?_
  intro p e s m below meth c ls B hin hl hw hs0
  have hx := B.1
  have hb := B.2.1
  have hown := B.2.2.2.2.2.1
  have T := B.2.2.2.2.2.2.1
  have hK := B.2.2.2.2.2.2.2.1
  have hr0 : nRow 0 = 240 := rfl
  have hw0 : oRow 0 = 1 := rfl
  have hr1 : nRow 1 = 1440 := rfl
  have hw1 : oRow 1 = 3 := rfl
  have hr2 : nRow 2 = 240 := rfl
  have hw2 : oRow 2 = 6 := rfl
  have hr3 : nRow 3 = 240 := rfl
  have hw3 : oRow 3 = 8 := rfl
  have hr4 : nRow 4 = 240 := rfl
  have hw4 : oRow 4 = 10 := rfl
  have hr5 : nRow 5 = 1440 := rfl
  have hw5 : oRow 5 = 377 := rfl
  have hO : ∀ q, q < 384 → q ≠ 383 → w q = w q := fun _ _ _ => rfl
  have hN : ∀ q, 384 ≤ q → q < 384 → w q = wI s0.heap.size aC q := fun q h1 h2 => absurd h1 (by omega)
  have c_this := hwk
  refine lv_aload_n hx hb d_Mo_init_0 rfl (lv_at hl 0 rfl) ?_
  refine gk_obj B hl.1 (km_Mo_1 T) (Nat.le_of_ble_eq_true rfl) (Nat.le_of_ble_eq_true rfl) (Nat.le_of_ble_eq_true rfl) d_Mo_init_1 ?_
  refine lv_aload_n hx hb d_Mo_init_4 rfl (lv_at hl 0 rfl) ?_
  refine lv_sipush (v := 240) hx hb d_Mo_init_5 (by decide) ?_
  refine gw_sz hw (by omega) hs0 (by omega) (fun hz => ?_)
  refine gw_newa (ty := .int) (cA := aC 1) (a0 := (240, .inl (fun _ => 0))) (N' := 240) hx hb hK hw hz rfl (ky_int T) 1 rfl (fun h => h) rfl (by decide) (by decide) (by decide) (by first | omega | (simp only [gRm]; omega) | decide) (by first | omega | (simp only [gRm]; omega) | decide) d_Mo_init_8 (fun H hw _ => ?_)
  have hw : gw D gC s0.heap 385 (va_up w 384 (.inl (aC 1, 240, .inl (fun _ => 0)))) _ _ := hw
  generalize hwe : va_up w 384 (.inl (aC 1, 240, .inl (fun _ => 0))) = w1 at hw
  have hO : ∀ q, q < 384 → q ≠ 383 → w1 q = w q := fun q h1 h2 => (congrFun hwe q).symm.trans ((va_up_ne _ _ (by omega)).trans (hO q h1 h2))
  have hN : ∀ q, 384 ≤ q → q < 385 → q ≠ 384 → w1 q = wI s0.heap.size aC q := fun q h1 h2 h_ar => (congrFun hwe q).symm.trans ((va_up_ne _ _ (by omega)).trans (hN q h1 (by omega) ))
  have c_this : w1 383 = .inr (9, [.int 0, .int 0, .null, .int 0, .int 0, .int 0, .int 0, .int 0, .null, .int 0, .null, .null, .null, .null, .null, .null, .null, .null, .null, .null, .null, .null, .int 0, .null, .int 0, .int 0, .int 0, .null, .int 0, .int 0, .null, .int 0, .int 0, .int 0]) := by rw [← hwe, va_up_ne _ _ (by omega)]; exact c_this
  have c_ar : w1 384 = .inl (aC 1, 240, .inl (fun _ => 0)) := by rw [← hwe, va_up_self]
  clear hwe
  refine gw_put (v := .ref (s0.heap.size + 384)) (C := R_Mo) (T := F_Mo) (N := 34) (ci := 9) (fs := [.int 0, .int 0, .null, .int 0, .int 0, .int 0, .int 0, .int 0, .null, .int 0, .null, .null, .null, .null, .null, .null, .null, .null, .null, .null, .null, .null, .int 0, .null, .int 0, .int 0, .int 0, .null, .int 0, .int 0, .null, .int 0, .int 0, .int 0]) hx hb (fw_Mo T) hown hK hw (fun _ h => h) t_Mo t_Mo_ok n_Mo (by omega) c_this rfl 2 (by decide) (kf_Mo_7 T) rfl rfl (rfl) (rfl) (Nat.le_of_ble_eq_true rfl) d_Mo_init_10 (fun H locs hw => ?_)
  have hw : gw D gC s0.heap 385 (va_up w1 383 (.inr (9, [.int 0, .int 0, .ref (s0.heap.size + 384), .int 0, .int 0, .int 0, .int 0, .int 0, .null, .int 0, .null, .null, .null, .null, .null, .null, .null, .null, .null, .null, .null, .null, .int 0, .null, .int 0, .int 0, .int 0, .null, .int 0, .int 0, .null, .int 0, .int 0, .int 0]))) _ _ := hw
  generalize hwe : va_up w1 383 (.inr (9, [.int 0, .int 0, .ref (s0.heap.size + 384), .int 0, .int 0, .int 0, .int 0, .int 0, .null, .int 0, .null, .null, .null, .null, .null, .null, .null, .null, .null, .null, .null, .null, .int 0, .null, .int 0, .int 0, .int 0, .null, .int 0, .int 0, .null, .int 0, .int 0, .int 0])) = w2 at hw
  have hO : ∀ q, q < 384 → q ≠ 383 → w2 q = w q := fun q h1 h2 => (congrFun hwe q).symm.trans ((va_up_ne _ _ (by omega)).trans (hO q h1 h2))
  have hN : ∀ q, 384 ≤ q → q < 385 → q ≠ 384 → w2 q = wI s0.heap.size aC q := fun q h1 h2 h_ar => (congrFun hwe q).symm.trans ((va_up_ne _ _ (by omega)).trans (hN q h1 (by omega) (by omega)))
  have c_ar : w2 384 = .inl (aC 1, 240, .inl (fun _ => 0)) := by rw [← hwe, va_up_ne _ _ (by omega)]; exact c_ar
  have c_this : w2 383 = .inr (9, [.int 0, .int 0, .ref (s0.heap.size + 384), .int 0, .int 0, .int 0, .int 0, .int 0, .null, .int 0, .null, .null, .null, .null, .null, .null, .null, .null, .null, .null, .null, .null, .int 0, .null, .int 0, .int 0, .int 0, .null, .int 0, .int 0, .null, .int 0, .int 0, .int 0]) := by rw [← hwe, va_up_self]
  clear hwe
  have hN : ∀ q, 384 ≤ q → q < 385 → w2 q = wI s0.heap.size aC q := fun q h1 h2  => by
    by_cases hq : q = 384
    · rw [hq, c_ar]; exact rfl
    · exact hN q h1 h2 hq
  refine lv_aload_n hx hb d_Mo_init_13 rfl (lv_at hl 0 rfl) ?_
  refine lv_iconst (v := -1) hx hb d_Mo_init_14 (by decide) ?_
  refine gw_put (v := .int (-1)) (C := R_Mo) (T := F_Mo) (N := 34) (ci := 9) (fs := [.int 0, .int 0, .ref (s0.heap.size + 384), .int 0, .int 0, .int 0, .int 0, .int 0, .null, .int 0, .null, .null, .null, .null, .null, .null, .null, .null, .null, .null, .null, .null, .int 0, .null, .int 0, .int 0, .int 0, .null, .int 0, .int 0, .null, .int 0, .int 0, .int 0]) hx hb (fw_Mo T) hown hK hw (fun _ h => h) t_Mo t_Mo_ok n_Mo (by omega) c_this rfl 5 (by decide) (kf_Mo_13 T) rfl rfl (rfl) (rfl) (Nat.le_of_ble_eq_true rfl) d_Mo_init_15 (fun H locs hw => ?_)
  have hw : gw D gC s0.heap 385 (va_up w2 383 (.inr (9, [.int 0, .int 0, .ref (s0.heap.size + 384), .int 0, .int 0, .int (-1), .int 0, .int 0, .null, .int 0, .null, .null, .null, .null, .null, .null, .null, .null, .null, .null, .null, .null, .int 0, .null, .int 0, .int 0, .int 0, .null, .int 0, .int 0, .null, .int 0, .int 0, .int 0]))) _ _ := hw
  generalize hwe : va_up w2 383 (.inr (9, [.int 0, .int 0, .ref (s0.heap.size + 384), .int 0, .int 0, .int (-1), .int 0, .int 0, .null, .int 0, .null, .null, .null, .null, .null, .null, .null, .null, .null, .null, .null, .null, .int 0, .null, .int 0, .int 0, .int 0, .null, .int 0, .int 0, .null, .int 0, .int 0, .int 0])) = w3 at hw
  have hO : ∀ q, q < 384 → q ≠ 383 → w3 q = w q := fun q h1 h2 => (congrFun hwe q).symm.trans ((va_up_ne _ _ (by omega)).trans (hO q h1 h2))
  have hN : ∀ q, 384 ≤ q → q < 385 → w3 q = wI s0.heap.size aC q := fun q h1 h2  => (congrFun hwe q).symm.trans ((va_up_ne _ _ (by omega)).trans (hN q h1 (by omega) ))
  have c_this : w3 383 = .inr (9, [.int 0, .int 0, .ref (s0.heap.size + 384), .int 0, .int 0, .int (-1), .int 0, .int 0, .null, .int 0, .null, .null, .null, .null, .null, .null, .null, .null, .null, .null, .null, .null, .int 0, .null, .int 0, .int 0, .int 0, .null, .int 0, .int 0, .null, .int 0, .int 0, .int 0]) := by rw [← hwe, va_up_self]
  clear hwe
  refine lv_aload_n hx hb d_Mo_init_18 rfl (lv_at hl 0 rfl) ?_
  refine lv_sipush (v := 260) hx hb d_Mo_init_19 (by decide) ?_
  refine gw_sz hw (by omega) hs0 (by omega) (fun hz => ?_)
  refine gw_newa (ty := .int) (cA := aC 1) (a0 := (260, .inl (fun _ => 0))) (N' := 260) hx hb hK hw hz rfl (ky_int T) 1 rfl (fun h => h) rfl (by decide) (by decide) (by decide) (by first | omega | (simp only [gRm]; omega) | decide) (by first | omega | (simp only [gRm]; omega) | decide) d_Mo_init_22 (fun H hw _ => ?_)
  have hw : gw D gC s0.heap 386 (va_up w3 385 (.inl (aC 1, 260, .inl (fun _ => 0)))) _ _ := hw
  generalize hwe : va_up w3 385 (.inl (aC 1, 260, .inl (fun _ => 0))) = w4 at hw
  have hO : ∀ q, q < 384 → q ≠ 383 → w4 q = w q := fun q h1 h2 => (congrFun hwe q).symm.trans ((va_up_ne _ _ (by omega)).trans (hO q h1 h2))
  have hN : ∀ q, 384 ≤ q → q < 386 → q ≠ 385 → w4 q = wI s0.heap.size aC q := fun q h1 h2 h_ar => (congrFun hwe q).symm.trans ((va_up_ne _ _ (by omega)).trans (hN q h1 (by omega) ))
  have c_this : w4 383 = .inr (9, [.int 0, .int 0, .ref (s0.heap.size + 384), .int 0, .int 0, .int (-1), .int 0, .int 0, .null, .int 0, .null, .null, .null, .null, .null, .null, .null, .null, .null, .null, .null, .null, .int 0, .null, .int 0, .int 0, .int 0, .null, .int 0, .int 0, .null, .int 0, .int 0, .int 0]) := by rw [← hwe, va_up_ne _ _ (by omega)]; exact c_this
  have c_ar : w4 385 = .inl (aC 1, 260, .inl (fun _ => 0)) := by rw [← hwe, va_up_self]
  clear hwe
  refine gw_put (v := .ref (s0.heap.size + 385)) (C := R_Mo) (T := F_Mo) (N := 34) (ci := 9) (fs := [.int 0, .int 0, .ref (s0.heap.size + 384), .int 0, .int 0, .int (-1), .int 0, .int 0, .null, .int 0, .null, .null, .null, .null, .null, .null, .null, .null, .null, .null, .null, .null, .int 0, .null, .int 0, .int 0, .int 0, .null, .int 0, .int 0, .null, .int 0, .int 0, .int 0]) hx hb (fw_Mo T) hown hK hw (fun _ h => h) t_Mo t_Mo_ok n_Mo (by omega) c_this rfl 8 (by decide) (kf_Mo_17 T) rfl rfl (rfl) (rfl) (Nat.le_of_ble_eq_true rfl) d_Mo_init_24 (fun H locs hw => ?_)
  have hw : gw D gC s0.heap 386 (va_up w4 383 (.inr (9, [.int 0, .int 0, .ref (s0.heap.size + 384), .int 0, .int 0, .int (-1), .int 0, .int 0, .ref (s0.heap.size + 385), .int 0, .null, .null, .null, .null, .null, .null, .null, .null, .null, .null, .null, .null, .int 0, .null, .int 0, .int 0, .int 0, .null, .int 0, .int 0, .null, .int 0, .int 0, .int 0]))) _ _ := hw
  generalize hwe : va_up w4 383 (.inr (9, [.int 0, .int 0, .ref (s0.heap.size + 384), .int 0, .int 0, .int (-1), .int 0, .int 0, .ref (s0.heap.size + 385), .int 0, .null, .null, .null, .null, .null, .null, .null, .null, .null, .null, .null, .null, .int 0, .null, .int 0, .int 0, .int 0, .null, .int 0, .int 0, .null, .int 0, .int 0, .int 0])) = w5 at hw
  have hO : ∀ q, q < 384 → q ≠ 383 → w5 q = w q := fun q h1 h2 => (congrFun hwe q).symm.trans ((va_up_ne _ _ (by omega)).trans (hO q h1 h2))
  have hN : ∀ q, 384 ≤ q → q < 386 → q ≠ 385 → w5 q = wI s0.heap.size aC q := fun q h1 h2 h_ar => (congrFun hwe q).symm.trans ((va_up_ne _ _ (by omega)).trans (hN q h1 (by omega) (by omega)))
  have c_ar : w5 385 = .inl (aC 1, 260, .inl (fun _ => 0)) := by rw [← hwe, va_up_ne _ _ (by omega)]; exact c_ar
  have c_this : w5 383 = .inr (9, [.int 0, .int 0, .ref (s0.heap.size + 384), .int 0, .int 0, .int (-1), .int 0, .int 0, .ref (s0.heap.size + 385), .int 0, .null, .null, .null, .null, .null, .null, .null, .null, .null, .null, .null, .null, .int 0, .null, .int 0, .int 0, .int 0, .null, .int 0, .int 0, .null, .int 0, .int 0, .int 0]) := by rw [← hwe, va_up_self]
  clear hwe
  have hN : ∀ q, 384 ≤ q → q < 386 → w5 q = wI s0.heap.size aC q := fun q h1 h2  => by
    by_cases hq : q = 385
    · rw [hq, c_ar]; exact rfl
    · exact hN q h1 h2 hq
  refine lv_aload_n hx hb d_Mo_init_27 rfl (lv_at hl 0 rfl) ?_
  refine lv_bipush (v := 24) hx hb d_Mo_init_28 (by decide) ?_
  refine gw_sz hw (by omega) hs0 (by omega) (fun hz => ?_)
  refine gw_newa (ty := .int) (cA := aC 1) (a0 := (24, .inl (fun _ => 0))) (N' := 24) hx hb hK hw hz rfl (ky_int T) 1 rfl (fun h => h) rfl (by decide) (by decide) (by decide) (by first | omega | (simp only [gRm]; omega) | decide) (by first | omega | (simp only [gRm]; omega) | decide) d_Mo_init_30 (fun H hw _ => ?_)
  have hw : gw D gC s0.heap 387 (va_up w5 386 (.inl (aC 1, 24, .inl (fun _ => 0)))) _ _ := hw
  generalize hwe : va_up w5 386 (.inl (aC 1, 24, .inl (fun _ => 0))) = w6 at hw
  have hO : ∀ q, q < 384 → q ≠ 383 → w6 q = w q := fun q h1 h2 => (congrFun hwe q).symm.trans ((va_up_ne _ _ (by omega)).trans (hO q h1 h2))
  have hN : ∀ q, 384 ≤ q → q < 387 → q ≠ 386 → w6 q = wI s0.heap.size aC q := fun q h1 h2 h_ar => (congrFun hwe q).symm.trans ((va_up_ne _ _ (by omega)).trans (hN q h1 (by omega) ))
  have c_this : w6 383 = .inr (9, [.int 0, .int 0, .ref (s0.heap.size + 384), .int 0, .int 0, .int (-1), .int 0, .int 0, .ref (s0.heap.size + 385), .int 0, .null, .null, .null, .null, .null, .null, .null, .null, .null, .null, .null, .null, .int 0, .null, .int 0, .int 0, .int 0, .null, .int 0, .int 0, .null, .int 0, .int 0, .int 0]) := by rw [← hwe, va_up_ne _ _ (by omega)]; exact c_this
  have c_ar : w6 386 = .inl (aC 1, 24, .inl (fun _ => 0)) := by rw [← hwe, va_up_self]
  clear hwe
  refine gw_put (v := .ref (s0.heap.size + 386)) (C := R_Mo) (T := F_Mo) (N := 34) (ci := 9) (fs := [.int 0, .int 0, .ref (s0.heap.size + 384), .int 0, .int 0, .int (-1), .int 0, .int 0, .ref (s0.heap.size + 385), .int 0, .null, .null, .null, .null, .null, .null, .null, .null, .null, .null, .null, .null, .int 0, .null, .int 0, .int 0, .int 0, .null, .int 0, .int 0, .null, .int 0, .int 0, .int 0]) hx hb (fw_Mo T) hown hK hw (fun _ h => h) t_Mo t_Mo_ok n_Mo (by omega) c_this rfl 10 (by decide) (kf_Mo_20 T) rfl rfl (rfl) (rfl) (Nat.le_of_ble_eq_true rfl) d_Mo_init_32 (fun H locs hw => ?_)
  have hw : gw D gC s0.heap 387 (va_up w6 383 (.inr (9, [.int 0, .int 0, .ref (s0.heap.size + 384), .int 0, .int 0, .int (-1), .int 0, .int 0, .ref (s0.heap.size + 385), .int 0, .ref (s0.heap.size + 386), .null, .null, .null, .null, .null, .null, .null, .null, .null, .null, .null, .int 0, .null, .int 0, .int 0, .int 0, .null, .int 0, .int 0, .null, .int 0, .int 0, .int 0]))) _ _ := hw
  generalize hwe : va_up w6 383 (.inr (9, [.int 0, .int 0, .ref (s0.heap.size + 384), .int 0, .int 0, .int (-1), .int 0, .int 0, .ref (s0.heap.size + 385), .int 0, .ref (s0.heap.size + 386), .null, .null, .null, .null, .null, .null, .null, .null, .null, .null, .null, .int 0, .null, .int 0, .int 0, .int 0, .null, .int 0, .int 0, .null, .int 0, .int 0, .int 0])) = w7 at hw
  have hO : ∀ q, q < 384 → q ≠ 383 → w7 q = w q := fun q h1 h2 => (congrFun hwe q).symm.trans ((va_up_ne _ _ (by omega)).trans (hO q h1 h2))
  have hN : ∀ q, 384 ≤ q → q < 387 → q ≠ 386 → w7 q = wI s0.heap.size aC q := fun q h1 h2 h_ar => (congrFun hwe q).symm.trans ((va_up_ne _ _ (by omega)).trans (hN q h1 (by omega) (by omega)))
  have c_ar : w7 386 = .inl (aC 1, 24, .inl (fun _ => 0)) := by rw [← hwe, va_up_ne _ _ (by omega)]; exact c_ar
  have c_this : w7 383 = .inr (9, [.int 0, .int 0, .ref (s0.heap.size + 384), .int 0, .int 0, .int (-1), .int 0, .int 0, .ref (s0.heap.size + 385), .int 0, .ref (s0.heap.size + 386), .null, .null, .null, .null, .null, .null, .null, .null, .null, .null, .null, .int 0, .null, .int 0, .int 0, .int 0, .null, .int 0, .int 0, .null, .int 0, .int 0, .int 0]) := by rw [← hwe, va_up_self]
  clear hwe
  have hN : ∀ q, 384 ≤ q → q < 387 → w7 q = wI s0.heap.size aC q := fun q h1 h2  => by
    by_cases hq : q = 386
    · rw [hq, c_ar]; exact rfl
    · exact hN q h1 h2 hq
  refine lv_aload_n hx hb d_Mo_init_35 rfl (lv_at hl 0 rfl) ?_
  refine lv_bipush (v := 24) hx hb d_Mo_init_36 (by decide) ?_
  refine gw_sz hw (by omega) hs0 (by omega) (fun hz => ?_)
  refine gw_newa (ty := .int) (cA := aC 1) (a0 := (24, .inl (fun _ => 0))) (N' := 24) hx hb hK hw hz rfl (ky_int T) 1 rfl (fun h => h) rfl (by decide) (by decide) (by decide) (by first | omega | (simp only [gRm]; omega) | decide) (by first | omega | (simp only [gRm]; omega) | decide) d_Mo_init_38 (fun H hw _ => ?_)
  have hw : gw D gC s0.heap 388 (va_up w7 387 (.inl (aC 1, 24, .inl (fun _ => 0)))) _ _ := hw
  generalize hwe : va_up w7 387 (.inl (aC 1, 24, .inl (fun _ => 0))) = w8 at hw
  have hO : ∀ q, q < 384 → q ≠ 383 → w8 q = w q := fun q h1 h2 => (congrFun hwe q).symm.trans ((va_up_ne _ _ (by omega)).trans (hO q h1 h2))
  have hN : ∀ q, 384 ≤ q → q < 388 → q ≠ 387 → w8 q = wI s0.heap.size aC q := fun q h1 h2 h_ar => (congrFun hwe q).symm.trans ((va_up_ne _ _ (by omega)).trans (hN q h1 (by omega) ))
  have c_this : w8 383 = .inr (9, [.int 0, .int 0, .ref (s0.heap.size + 384), .int 0, .int 0, .int (-1), .int 0, .int 0, .ref (s0.heap.size + 385), .int 0, .ref (s0.heap.size + 386), .null, .null, .null, .null, .null, .null, .null, .null, .null, .null, .null, .int 0, .null, .int 0, .int 0, .int 0, .null, .int 0, .int 0, .null, .int 0, .int 0, .int 0]) := by rw [← hwe, va_up_ne _ _ (by omega)]; exact c_this
  have c_ar : w8 387 = .inl (aC 1, 24, .inl (fun _ => 0)) := by rw [← hwe, va_up_self]
  clear hwe
  refine gw_put (v := .ref (s0.heap.size + 387)) (C := R_Mo) (T := F_Mo) (N := 34) (ci := 9) (fs := [.int 0, .int 0, .ref (s0.heap.size + 384), .int 0, .int 0, .int (-1), .int 0, .int 0, .ref (s0.heap.size + 385), .int 0, .ref (s0.heap.size + 386), .null, .null, .null, .null, .null, .null, .null, .null, .null, .null, .null, .int 0, .null, .int 0, .int 0, .int 0, .null, .int 0, .int 0, .null, .int 0, .int 0, .int 0]) hx hb (fw_Mo T) hown hK hw (fun _ h => h) t_Mo t_Mo_ok n_Mo (by omega) c_this rfl 11 (by decide) (kf_Mo_23 T) rfl rfl (rfl) (rfl) (Nat.le_of_ble_eq_true rfl) d_Mo_init_40 (fun H locs hw => ?_)
  have hw : gw D gC s0.heap 388 (va_up w8 383 (.inr (9, [.int 0, .int 0, .ref (s0.heap.size + 384), .int 0, .int 0, .int (-1), .int 0, .int 0, .ref (s0.heap.size + 385), .int 0, .ref (s0.heap.size + 386), .ref (s0.heap.size + 387), .null, .null, .null, .null, .null, .null, .null, .null, .null, .null, .int 0, .null, .int 0, .int 0, .int 0, .null, .int 0, .int 0, .null, .int 0, .int 0, .int 0]))) _ _ := hw
  generalize hwe : va_up w8 383 (.inr (9, [.int 0, .int 0, .ref (s0.heap.size + 384), .int 0, .int 0, .int (-1), .int 0, .int 0, .ref (s0.heap.size + 385), .int 0, .ref (s0.heap.size + 386), .ref (s0.heap.size + 387), .null, .null, .null, .null, .null, .null, .null, .null, .null, .null, .int 0, .null, .int 0, .int 0, .int 0, .null, .int 0, .int 0, .null, .int 0, .int 0, .int 0])) = w9 at hw
  have hO : ∀ q, q < 384 → q ≠ 383 → w9 q = w q := fun q h1 h2 => (congrFun hwe q).symm.trans ((va_up_ne _ _ (by omega)).trans (hO q h1 h2))
  have hN : ∀ q, 384 ≤ q → q < 388 → q ≠ 387 → w9 q = wI s0.heap.size aC q := fun q h1 h2 h_ar => (congrFun hwe q).symm.trans ((va_up_ne _ _ (by omega)).trans (hN q h1 (by omega) (by omega)))
  have c_ar : w9 387 = .inl (aC 1, 24, .inl (fun _ => 0)) := by rw [← hwe, va_up_ne _ _ (by omega)]; exact c_ar
  have c_this : w9 383 = .inr (9, [.int 0, .int 0, .ref (s0.heap.size + 384), .int 0, .int 0, .int (-1), .int 0, .int 0, .ref (s0.heap.size + 385), .int 0, .ref (s0.heap.size + 386), .ref (s0.heap.size + 387), .null, .null, .null, .null, .null, .null, .null, .null, .null, .null, .int 0, .null, .int 0, .int 0, .int 0, .null, .int 0, .int 0, .null, .int 0, .int 0, .int 0]) := by rw [← hwe, va_up_self]
  clear hwe
  have hN : ∀ q, 384 ≤ q → q < 388 → w9 q = wI s0.heap.size aC q := fun q h1 h2  => by
    by_cases hq : q = 387
    · rw [hq, c_ar]; exact rfl
    · exact hN q h1 h2 hq
  refine lv_aload_n hx hb d_Mo_init_43 rfl (lv_at hl 0 rfl) ?_
  refine lv_bipush (v := 24) hx hb d_Mo_init_44 (by decide) ?_
  refine gw_sz hw (by omega) hs0 (by omega) (fun hz => ?_)
  refine gw_newa (ty := .int) (cA := aC 1) (a0 := (24, .inl (fun _ => 0))) (N' := 24) hx hb hK hw hz rfl (ky_int T) 1 rfl (fun h => h) rfl (by decide) (by decide) (by decide) (by first | omega | (simp only [gRm]; omega) | decide) (by first | omega | (simp only [gRm]; omega) | decide) d_Mo_init_46 (fun H hw _ => ?_)
  have hw : gw D gC s0.heap 389 (va_up w9 388 (.inl (aC 1, 24, .inl (fun _ => 0)))) _ _ := hw
  generalize hwe : va_up w9 388 (.inl (aC 1, 24, .inl (fun _ => 0))) = w10 at hw
  have hO : ∀ q, q < 384 → q ≠ 383 → w10 q = w q := fun q h1 h2 => (congrFun hwe q).symm.trans ((va_up_ne _ _ (by omega)).trans (hO q h1 h2))
  have hN : ∀ q, 384 ≤ q → q < 389 → q ≠ 388 → w10 q = wI s0.heap.size aC q := fun q h1 h2 h_ar => (congrFun hwe q).symm.trans ((va_up_ne _ _ (by omega)).trans (hN q h1 (by omega) ))
  have c_this : w10 383 = .inr (9, [.int 0, .int 0, .ref (s0.heap.size + 384), .int 0, .int 0, .int (-1), .int 0, .int 0, .ref (s0.heap.size + 385), .int 0, .ref (s0.heap.size + 386), .ref (s0.heap.size + 387), .null, .null, .null, .null, .null, .null, .null, .null, .null, .null, .int 0, .null, .int 0, .int 0, .int 0, .null, .int 0, .int 0, .null, .int 0, .int 0, .int 0]) := by rw [← hwe, va_up_ne _ _ (by omega)]; exact c_this
  have c_ar : w10 388 = .inl (aC 1, 24, .inl (fun _ => 0)) := by rw [← hwe, va_up_self]
  clear hwe
  refine gw_put (v := .ref (s0.heap.size + 388)) (C := R_Mo) (T := F_Mo) (N := 34) (ci := 9) (fs := [.int 0, .int 0, .ref (s0.heap.size + 384), .int 0, .int 0, .int (-1), .int 0, .int 0, .ref (s0.heap.size + 385), .int 0, .ref (s0.heap.size + 386), .ref (s0.heap.size + 387), .null, .null, .null, .null, .null, .null, .null, .null, .null, .null, .int 0, .null, .int 0, .int 0, .int 0, .null, .int 0, .int 0, .null, .int 0, .int 0, .int 0]) hx hb (fw_Mo T) hown hK hw (fun _ h => h) t_Mo t_Mo_ok n_Mo (by omega) c_this rfl 12 (by decide) (kf_Mo_26 T) rfl rfl (rfl) (rfl) (Nat.le_of_ble_eq_true rfl) d_Mo_init_48 (fun H locs hw => ?_)
  have hw : gw D gC s0.heap 389 (va_up w10 383 (.inr (9, [.int 0, .int 0, .ref (s0.heap.size + 384), .int 0, .int 0, .int (-1), .int 0, .int 0, .ref (s0.heap.size + 385), .int 0, .ref (s0.heap.size + 386), .ref (s0.heap.size + 387), .ref (s0.heap.size + 388), .null, .null, .null, .null, .null, .null, .null, .null, .null, .int 0, .null, .int 0, .int 0, .int 0, .null, .int 0, .int 0, .null, .int 0, .int 0, .int 0]))) _ _ := hw
  generalize hwe : va_up w10 383 (.inr (9, [.int 0, .int 0, .ref (s0.heap.size + 384), .int 0, .int 0, .int (-1), .int 0, .int 0, .ref (s0.heap.size + 385), .int 0, .ref (s0.heap.size + 386), .ref (s0.heap.size + 387), .ref (s0.heap.size + 388), .null, .null, .null, .null, .null, .null, .null, .null, .null, .int 0, .null, .int 0, .int 0, .int 0, .null, .int 0, .int 0, .null, .int 0, .int 0, .int 0])) = w11 at hw
  have hO : ∀ q, q < 384 → q ≠ 383 → w11 q = w q := fun q h1 h2 => (congrFun hwe q).symm.trans ((va_up_ne _ _ (by omega)).trans (hO q h1 h2))
  have hN : ∀ q, 384 ≤ q → q < 389 → q ≠ 388 → w11 q = wI s0.heap.size aC q := fun q h1 h2 h_ar => (congrFun hwe q).symm.trans ((va_up_ne _ _ (by omega)).trans (hN q h1 (by omega) (by omega)))
  have c_ar : w11 388 = .inl (aC 1, 24, .inl (fun _ => 0)) := by rw [← hwe, va_up_ne _ _ (by omega)]; exact c_ar
  have c_this : w11 383 = .inr (9, [.int 0, .int 0, .ref (s0.heap.size + 384), .int 0, .int 0, .int (-1), .int 0, .int 0, .ref (s0.heap.size + 385), .int 0, .ref (s0.heap.size + 386), .ref (s0.heap.size + 387), .ref (s0.heap.size + 388), .null, .null, .null, .null, .null, .null, .null, .null, .null, .int 0, .null, .int 0, .int 0, .int 0, .null, .int 0, .int 0, .null, .int 0, .int 0, .int 0]) := by rw [← hwe, va_up_self]
  clear hwe
  have hN : ∀ q, 384 ≤ q → q < 389 → w11 q = wI s0.heap.size aC q := fun q h1 h2  => by
    by_cases hq : q = 388
    · rw [hq, c_ar]; exact rfl
    · exact hN q h1 h2 hq
  refine lv_aload_n hx hb d_Mo_init_51 rfl (lv_at hl 0 rfl) ?_
  refine lv_bipush (v := 24) hx hb d_Mo_init_52 (by decide) ?_
  refine gw_sz hw (by omega) hs0 (by omega) (fun hz => ?_)
  refine gw_newa (ty := .int) (cA := aC 1) (a0 := (24, .inl (fun _ => 0))) (N' := 24) hx hb hK hw hz rfl (ky_int T) 1 rfl (fun h => h) rfl (by decide) (by decide) (by decide) (by first | omega | (simp only [gRm]; omega) | decide) (by first | omega | (simp only [gRm]; omega) | decide) d_Mo_init_54 (fun H hw _ => ?_)
  have hw : gw D gC s0.heap 390 (va_up w11 389 (.inl (aC 1, 24, .inl (fun _ => 0)))) _ _ := hw
  generalize hwe : va_up w11 389 (.inl (aC 1, 24, .inl (fun _ => 0))) = w12 at hw
  have hO : ∀ q, q < 384 → q ≠ 383 → w12 q = w q := fun q h1 h2 => (congrFun hwe q).symm.trans ((va_up_ne _ _ (by omega)).trans (hO q h1 h2))
  have hN : ∀ q, 384 ≤ q → q < 390 → q ≠ 389 → w12 q = wI s0.heap.size aC q := fun q h1 h2 h_ar => (congrFun hwe q).symm.trans ((va_up_ne _ _ (by omega)).trans (hN q h1 (by omega) ))
  have c_this : w12 383 = .inr (9, [.int 0, .int 0, .ref (s0.heap.size + 384), .int 0, .int 0, .int (-1), .int 0, .int 0, .ref (s0.heap.size + 385), .int 0, .ref (s0.heap.size + 386), .ref (s0.heap.size + 387), .ref (s0.heap.size + 388), .null, .null, .null, .null, .null, .null, .null, .null, .null, .int 0, .null, .int 0, .int 0, .int 0, .null, .int 0, .int 0, .null, .int 0, .int 0, .int 0]) := by rw [← hwe, va_up_ne _ _ (by omega)]; exact c_this
  have c_ar : w12 389 = .inl (aC 1, 24, .inl (fun _ => 0)) := by rw [← hwe, va_up_self]
  clear hwe
  refine gw_put (v := .ref (s0.heap.size + 389)) (C := R_Mo) (T := F_Mo) (N := 34) (ci := 9) (fs := [.int 0, .int 0, .ref (s0.heap.size + 384), .int 0, .int 0, .int (-1), .int 0, .int 0, .ref (s0.heap.size + 385), .int 0, .ref (s0.heap.size + 386), .ref (s0.heap.size + 387), .ref (s0.heap.size + 388), .null, .null, .null, .null, .null, .null, .null, .null, .null, .int 0, .null, .int 0, .int 0, .int 0, .null, .int 0, .int 0, .null, .int 0, .int 0, .int 0]) hx hb (fw_Mo T) hown hK hw (fun _ h => h) t_Mo t_Mo_ok n_Mo (by omega) c_this rfl 13 (by decide) (kf_Mo_29 T) rfl rfl (rfl) (rfl) (Nat.le_of_ble_eq_true rfl) d_Mo_init_56 (fun H locs hw => ?_)
  have hw : gw D gC s0.heap 390 (va_up w12 383 (.inr (9, [.int 0, .int 0, .ref (s0.heap.size + 384), .int 0, .int 0, .int (-1), .int 0, .int 0, .ref (s0.heap.size + 385), .int 0, .ref (s0.heap.size + 386), .ref (s0.heap.size + 387), .ref (s0.heap.size + 388), .ref (s0.heap.size + 389), .null, .null, .null, .null, .null, .null, .null, .null, .int 0, .null, .int 0, .int 0, .int 0, .null, .int 0, .int 0, .null, .int 0, .int 0, .int 0]))) _ _ := hw
  generalize hwe : va_up w12 383 (.inr (9, [.int 0, .int 0, .ref (s0.heap.size + 384), .int 0, .int 0, .int (-1), .int 0, .int 0, .ref (s0.heap.size + 385), .int 0, .ref (s0.heap.size + 386), .ref (s0.heap.size + 387), .ref (s0.heap.size + 388), .ref (s0.heap.size + 389), .null, .null, .null, .null, .null, .null, .null, .null, .int 0, .null, .int 0, .int 0, .int 0, .null, .int 0, .int 0, .null, .int 0, .int 0, .int 0])) = w13 at hw
  have hO : ∀ q, q < 384 → q ≠ 383 → w13 q = w q := fun q h1 h2 => (congrFun hwe q).symm.trans ((va_up_ne _ _ (by omega)).trans (hO q h1 h2))
  have hN : ∀ q, 384 ≤ q → q < 390 → q ≠ 389 → w13 q = wI s0.heap.size aC q := fun q h1 h2 h_ar => (congrFun hwe q).symm.trans ((va_up_ne _ _ (by omega)).trans (hN q h1 (by omega) (by omega)))
  have c_ar : w13 389 = .inl (aC 1, 24, .inl (fun _ => 0)) := by rw [← hwe, va_up_ne _ _ (by omega)]; exact c_ar
  have c_this : w13 383 = .inr (9, [.int 0, .int 0, .ref (s0.heap.size + 384), .int 0, .int 0, .int (-1), .int 0, .int 0, .ref (s0.heap.size + 385), .int 0, .ref (s0.heap.size + 386), .ref (s0.heap.size + 387), .ref (s0.heap.size + 388), .ref (s0.heap.size + 389), .null, .null, .null, .null, .null, .null, .null, .null, .int 0, .null, .int 0, .int 0, .int 0, .null, .int 0, .int 0, .null, .int 0, .int 0, .int 0]) := by rw [← hwe, va_up_self]
  clear hwe
  have hN : ∀ q, 384 ≤ q → q < 390 → w13 q = wI s0.heap.size aC q := fun q h1 h2  => by
    by_cases hq : q = 389
    · rw [hq, c_ar]; exact rfl
    · exact hN q h1 h2 hq
  refine lv_aload_n hx hb d_Mo_init_59 rfl (lv_at hl 0 rfl) ?_
  refine lv_bipush (v := 24) hx hb d_Mo_init_60 (by decide) ?_
  refine gw_sz hw (by omega) hs0 (by omega) (fun hz => ?_)
  refine gw_newa (ty := .int) (cA := aC 1) (a0 := (24, .inl (fun _ => 0))) (N' := 24) hx hb hK hw hz rfl (ky_int T) 1 rfl (fun h => h) rfl (by decide) (by decide) (by decide) (by first | omega | (simp only [gRm]; omega) | decide) (by first | omega | (simp only [gRm]; omega) | decide) d_Mo_init_62 (fun H hw _ => ?_)
  have hw : gw D gC s0.heap 391 (va_up w13 390 (.inl (aC 1, 24, .inl (fun _ => 0)))) _ _ := hw
  generalize hwe : va_up w13 390 (.inl (aC 1, 24, .inl (fun _ => 0))) = w14 at hw
  have hO : ∀ q, q < 384 → q ≠ 383 → w14 q = w q := fun q h1 h2 => (congrFun hwe q).symm.trans ((va_up_ne _ _ (by omega)).trans (hO q h1 h2))
  have hN : ∀ q, 384 ≤ q → q < 391 → q ≠ 390 → w14 q = wI s0.heap.size aC q := fun q h1 h2 h_ar => (congrFun hwe q).symm.trans ((va_up_ne _ _ (by omega)).trans (hN q h1 (by omega) ))
  have c_this : w14 383 = .inr (9, [.int 0, .int 0, .ref (s0.heap.size + 384), .int 0, .int 0, .int (-1), .int 0, .int 0, .ref (s0.heap.size + 385), .int 0, .ref (s0.heap.size + 386), .ref (s0.heap.size + 387), .ref (s0.heap.size + 388), .ref (s0.heap.size + 389), .null, .null, .null, .null, .null, .null, .null, .null, .int 0, .null, .int 0, .int 0, .int 0, .null, .int 0, .int 0, .null, .int 0, .int 0, .int 0]) := by rw [← hwe, va_up_ne _ _ (by omega)]; exact c_this
  have c_ar : w14 390 = .inl (aC 1, 24, .inl (fun _ => 0)) := by rw [← hwe, va_up_self]
  clear hwe
  refine gw_put (v := .ref (s0.heap.size + 390)) (C := R_Mo) (T := F_Mo) (N := 34) (ci := 9) (fs := [.int 0, .int 0, .ref (s0.heap.size + 384), .int 0, .int 0, .int (-1), .int 0, .int 0, .ref (s0.heap.size + 385), .int 0, .ref (s0.heap.size + 386), .ref (s0.heap.size + 387), .ref (s0.heap.size + 388), .ref (s0.heap.size + 389), .null, .null, .null, .null, .null, .null, .null, .null, .int 0, .null, .int 0, .int 0, .int 0, .null, .int 0, .int 0, .null, .int 0, .int 0, .int 0]) hx hb (fw_Mo T) hown hK hw (fun _ h => h) t_Mo t_Mo_ok n_Mo (by omega) c_this rfl 14 (by decide) (kf_Mo_32 T) rfl rfl (rfl) (rfl) (Nat.le_of_ble_eq_true rfl) d_Mo_init_64 (fun H locs hw => ?_)
  have hw : gw D gC s0.heap 391 (va_up w14 383 (.inr (9, [.int 0, .int 0, .ref (s0.heap.size + 384), .int 0, .int 0, .int (-1), .int 0, .int 0, .ref (s0.heap.size + 385), .int 0, .ref (s0.heap.size + 386), .ref (s0.heap.size + 387), .ref (s0.heap.size + 388), .ref (s0.heap.size + 389), .ref (s0.heap.size + 390), .null, .null, .null, .null, .null, .null, .null, .int 0, .null, .int 0, .int 0, .int 0, .null, .int 0, .int 0, .null, .int 0, .int 0, .int 0]))) _ _ := hw
  generalize hwe : va_up w14 383 (.inr (9, [.int 0, .int 0, .ref (s0.heap.size + 384), .int 0, .int 0, .int (-1), .int 0, .int 0, .ref (s0.heap.size + 385), .int 0, .ref (s0.heap.size + 386), .ref (s0.heap.size + 387), .ref (s0.heap.size + 388), .ref (s0.heap.size + 389), .ref (s0.heap.size + 390), .null, .null, .null, .null, .null, .null, .null, .int 0, .null, .int 0, .int 0, .int 0, .null, .int 0, .int 0, .null, .int 0, .int 0, .int 0])) = w15 at hw
  have hO : ∀ q, q < 384 → q ≠ 383 → w15 q = w q := fun q h1 h2 => (congrFun hwe q).symm.trans ((va_up_ne _ _ (by omega)).trans (hO q h1 h2))
  have hN : ∀ q, 384 ≤ q → q < 391 → q ≠ 390 → w15 q = wI s0.heap.size aC q := fun q h1 h2 h_ar => (congrFun hwe q).symm.trans ((va_up_ne _ _ (by omega)).trans (hN q h1 (by omega) (by omega)))
  have c_ar : w15 390 = .inl (aC 1, 24, .inl (fun _ => 0)) := by rw [← hwe, va_up_ne _ _ (by omega)]; exact c_ar
  have c_this : w15 383 = .inr (9, [.int 0, .int 0, .ref (s0.heap.size + 384), .int 0, .int 0, .int (-1), .int 0, .int 0, .ref (s0.heap.size + 385), .int 0, .ref (s0.heap.size + 386), .ref (s0.heap.size + 387), .ref (s0.heap.size + 388), .ref (s0.heap.size + 389), .ref (s0.heap.size + 390), .null, .null, .null, .null, .null, .null, .null, .int 0, .null, .int 0, .int 0, .int 0, .null, .int 0, .int 0, .null, .int 0, .int 0, .int 0]) := by rw [← hwe, va_up_self]
  clear hwe
  have hN : ∀ q, 384 ≤ q → q < 391 → w15 q = wI s0.heap.size aC q := fun q h1 h2  => by
    by_cases hq : q = 390
    · rw [hq, c_ar]; exact rfl
    · exact hN q h1 h2 hq
  refine lv_aload_n hx hb d_Mo_init_67 rfl (lv_at hl 0 rfl) ?_
  refine lv_bipush (v := 24) hx hb d_Mo_init_68 (by decide) ?_
  refine gw_sz hw (by omega) hs0 (by omega) (fun hz => ?_)
  refine gw_newa (ty := .int) (cA := aC 1) (a0 := (24, .inl (fun _ => 0))) (N' := 24) hx hb hK hw hz rfl (ky_int T) 1 rfl (fun h => h) rfl (by decide) (by decide) (by decide) (by first | omega | (simp only [gRm]; omega) | decide) (by first | omega | (simp only [gRm]; omega) | decide) d_Mo_init_70 (fun H hw _ => ?_)
  have hw : gw D gC s0.heap 392 (va_up w15 391 (.inl (aC 1, 24, .inl (fun _ => 0)))) _ _ := hw
  generalize hwe : va_up w15 391 (.inl (aC 1, 24, .inl (fun _ => 0))) = w16 at hw
  have hO : ∀ q, q < 384 → q ≠ 383 → w16 q = w q := fun q h1 h2 => (congrFun hwe q).symm.trans ((va_up_ne _ _ (by omega)).trans (hO q h1 h2))
  have hN : ∀ q, 384 ≤ q → q < 392 → q ≠ 391 → w16 q = wI s0.heap.size aC q := fun q h1 h2 h_ar => (congrFun hwe q).symm.trans ((va_up_ne _ _ (by omega)).trans (hN q h1 (by omega) ))
  have c_this : w16 383 = .inr (9, [.int 0, .int 0, .ref (s0.heap.size + 384), .int 0, .int 0, .int (-1), .int 0, .int 0, .ref (s0.heap.size + 385), .int 0, .ref (s0.heap.size + 386), .ref (s0.heap.size + 387), .ref (s0.heap.size + 388), .ref (s0.heap.size + 389), .ref (s0.heap.size + 390), .null, .null, .null, .null, .null, .null, .null, .int 0, .null, .int 0, .int 0, .int 0, .null, .int 0, .int 0, .null, .int 0, .int 0, .int 0]) := by rw [← hwe, va_up_ne _ _ (by omega)]; exact c_this
  have c_ar : w16 391 = .inl (aC 1, 24, .inl (fun _ => 0)) := by rw [← hwe, va_up_self]
  clear hwe
  refine gw_put (v := .ref (s0.heap.size + 391)) (C := R_Mo) (T := F_Mo) (N := 34) (ci := 9) (fs := [.int 0, .int 0, .ref (s0.heap.size + 384), .int 0, .int 0, .int (-1), .int 0, .int 0, .ref (s0.heap.size + 385), .int 0, .ref (s0.heap.size + 386), .ref (s0.heap.size + 387), .ref (s0.heap.size + 388), .ref (s0.heap.size + 389), .ref (s0.heap.size + 390), .null, .null, .null, .null, .null, .null, .null, .int 0, .null, .int 0, .int 0, .int 0, .null, .int 0, .int 0, .null, .int 0, .int 0, .int 0]) hx hb (fw_Mo T) hown hK hw (fun _ h => h) t_Mo t_Mo_ok n_Mo (by omega) c_this rfl 15 (by decide) (kf_Mo_35 T) rfl rfl (rfl) (rfl) (Nat.le_of_ble_eq_true rfl) d_Mo_init_72 (fun H locs hw => ?_)
  have hw : gw D gC s0.heap 392 (va_up w16 383 (.inr (9, [.int 0, .int 0, .ref (s0.heap.size + 384), .int 0, .int 0, .int (-1), .int 0, .int 0, .ref (s0.heap.size + 385), .int 0, .ref (s0.heap.size + 386), .ref (s0.heap.size + 387), .ref (s0.heap.size + 388), .ref (s0.heap.size + 389), .ref (s0.heap.size + 390), .ref (s0.heap.size + 391), .null, .null, .null, .null, .null, .null, .int 0, .null, .int 0, .int 0, .int 0, .null, .int 0, .int 0, .null, .int 0, .int 0, .int 0]))) _ _ := hw
  generalize hwe : va_up w16 383 (.inr (9, [.int 0, .int 0, .ref (s0.heap.size + 384), .int 0, .int 0, .int (-1), .int 0, .int 0, .ref (s0.heap.size + 385), .int 0, .ref (s0.heap.size + 386), .ref (s0.heap.size + 387), .ref (s0.heap.size + 388), .ref (s0.heap.size + 389), .ref (s0.heap.size + 390), .ref (s0.heap.size + 391), .null, .null, .null, .null, .null, .null, .int 0, .null, .int 0, .int 0, .int 0, .null, .int 0, .int 0, .null, .int 0, .int 0, .int 0])) = w17 at hw
  have hO : ∀ q, q < 384 → q ≠ 383 → w17 q = w q := fun q h1 h2 => (congrFun hwe q).symm.trans ((va_up_ne _ _ (by omega)).trans (hO q h1 h2))
  have hN : ∀ q, 384 ≤ q → q < 392 → q ≠ 391 → w17 q = wI s0.heap.size aC q := fun q h1 h2 h_ar => (congrFun hwe q).symm.trans ((va_up_ne _ _ (by omega)).trans (hN q h1 (by omega) (by omega)))
  have c_ar : w17 391 = .inl (aC 1, 24, .inl (fun _ => 0)) := by rw [← hwe, va_up_ne _ _ (by omega)]; exact c_ar
  have c_this : w17 383 = .inr (9, [.int 0, .int 0, .ref (s0.heap.size + 384), .int 0, .int 0, .int (-1), .int 0, .int 0, .ref (s0.heap.size + 385), .int 0, .ref (s0.heap.size + 386), .ref (s0.heap.size + 387), .ref (s0.heap.size + 388), .ref (s0.heap.size + 389), .ref (s0.heap.size + 390), .ref (s0.heap.size + 391), .null, .null, .null, .null, .null, .null, .int 0, .null, .int 0, .int 0, .int 0, .null, .int 0, .int 0, .null, .int 0, .int 0, .int 0]) := by rw [← hwe, va_up_self]
  clear hwe
  have hN : ∀ q, 384 ≤ q → q < 392 → w17 q = wI s0.heap.size aC q := fun q h1 h2  => by
    by_cases hq : q = 391
    · rw [hq, c_ar]; exact rfl
    · exact hN q h1 h2 hq
  refine lv_aload_n hx hb d_Mo_init_75 rfl (lv_at hl 0 rfl) ?_
  refine lv_sipush (v := 144) hx hb d_Mo_init_76 (by decide) ?_
  refine gw_sz hw (by omega) hs0 (by omega) (fun hz => ?_)
  refine gw_newa (ty := .int) (cA := aC 1) (a0 := (144, .inl (fun _ => 0))) (N' := 144) hx hb hK hw hz rfl (ky_int T) 1 rfl (fun h => h) rfl (by decide) (by decide) (by decide) (by first | omega | (simp only [gRm]; omega) | decide) (by first | omega | (simp only [gRm]; omega) | decide) d_Mo_init_79 (fun H hw _ => ?_)
  have hw : gw D gC s0.heap 393 (va_up w17 392 (.inl (aC 1, 144, .inl (fun _ => 0)))) _ _ := hw
  generalize hwe : va_up w17 392 (.inl (aC 1, 144, .inl (fun _ => 0))) = w18 at hw
  have hO : ∀ q, q < 384 → q ≠ 383 → w18 q = w q := fun q h1 h2 => (congrFun hwe q).symm.trans ((va_up_ne _ _ (by omega)).trans (hO q h1 h2))
  have hN : ∀ q, 384 ≤ q → q < 393 → q ≠ 392 → w18 q = wI s0.heap.size aC q := fun q h1 h2 h_ar => (congrFun hwe q).symm.trans ((va_up_ne _ _ (by omega)).trans (hN q h1 (by omega) ))
  have c_this : w18 383 = .inr (9, [.int 0, .int 0, .ref (s0.heap.size + 384), .int 0, .int 0, .int (-1), .int 0, .int 0, .ref (s0.heap.size + 385), .int 0, .ref (s0.heap.size + 386), .ref (s0.heap.size + 387), .ref (s0.heap.size + 388), .ref (s0.heap.size + 389), .ref (s0.heap.size + 390), .ref (s0.heap.size + 391), .null, .null, .null, .null, .null, .null, .int 0, .null, .int 0, .int 0, .int 0, .null, .int 0, .int 0, .null, .int 0, .int 0, .int 0]) := by rw [← hwe, va_up_ne _ _ (by omega)]; exact c_this
  have c_ar : w18 392 = .inl (aC 1, 144, .inl (fun _ => 0)) := by rw [← hwe, va_up_self]
  clear hwe
  refine gw_put (v := .ref (s0.heap.size + 392)) (C := R_Mo) (T := F_Mo) (N := 34) (ci := 9) (fs := [.int 0, .int 0, .ref (s0.heap.size + 384), .int 0, .int 0, .int (-1), .int 0, .int 0, .ref (s0.heap.size + 385), .int 0, .ref (s0.heap.size + 386), .ref (s0.heap.size + 387), .ref (s0.heap.size + 388), .ref (s0.heap.size + 389), .ref (s0.heap.size + 390), .ref (s0.heap.size + 391), .null, .null, .null, .null, .null, .null, .int 0, .null, .int 0, .int 0, .int 0, .null, .int 0, .int 0, .null, .int 0, .int 0, .int 0]) hx hb (fw_Mo T) hown hK hw (fun _ h => h) t_Mo t_Mo_ok n_Mo (by omega) c_this rfl 16 (by decide) (kf_Mo_38 T) rfl rfl (rfl) (rfl) (Nat.le_of_ble_eq_true rfl) d_Mo_init_81 (fun H locs hw => ?_)
  have hw : gw D gC s0.heap 393 (va_up w18 383 (.inr (9, [.int 0, .int 0, .ref (s0.heap.size + 384), .int 0, .int 0, .int (-1), .int 0, .int 0, .ref (s0.heap.size + 385), .int 0, .ref (s0.heap.size + 386), .ref (s0.heap.size + 387), .ref (s0.heap.size + 388), .ref (s0.heap.size + 389), .ref (s0.heap.size + 390), .ref (s0.heap.size + 391), .ref (s0.heap.size + 392), .null, .null, .null, .null, .null, .int 0, .null, .int 0, .int 0, .int 0, .null, .int 0, .int 0, .null, .int 0, .int 0, .int 0]))) _ _ := hw
  generalize hwe : va_up w18 383 (.inr (9, [.int 0, .int 0, .ref (s0.heap.size + 384), .int 0, .int 0, .int (-1), .int 0, .int 0, .ref (s0.heap.size + 385), .int 0, .ref (s0.heap.size + 386), .ref (s0.heap.size + 387), .ref (s0.heap.size + 388), .ref (s0.heap.size + 389), .ref (s0.heap.size + 390), .ref (s0.heap.size + 391), .ref (s0.heap.size + 392), .null, .null, .null, .null, .null, .int 0, .null, .int 0, .int 0, .int 0, .null, .int 0, .int 0, .null, .int 0, .int 0, .int 0])) = w19 at hw
  have hO : ∀ q, q < 384 → q ≠ 383 → w19 q = w q := fun q h1 h2 => (congrFun hwe q).symm.trans ((va_up_ne _ _ (by omega)).trans (hO q h1 h2))
  have hN : ∀ q, 384 ≤ q → q < 393 → q ≠ 392 → w19 q = wI s0.heap.size aC q := fun q h1 h2 h_ar => (congrFun hwe q).symm.trans ((va_up_ne _ _ (by omega)).trans (hN q h1 (by omega) (by omega)))
  have c_ar : w19 392 = .inl (aC 1, 144, .inl (fun _ => 0)) := by rw [← hwe, va_up_ne _ _ (by omega)]; exact c_ar
  have c_this : w19 383 = .inr (9, [.int 0, .int 0, .ref (s0.heap.size + 384), .int 0, .int 0, .int (-1), .int 0, .int 0, .ref (s0.heap.size + 385), .int 0, .ref (s0.heap.size + 386), .ref (s0.heap.size + 387), .ref (s0.heap.size + 388), .ref (s0.heap.size + 389), .ref (s0.heap.size + 390), .ref (s0.heap.size + 391), .ref (s0.heap.size + 392), .null, .null, .null, .null, .null, .int 0, .null, .int 0, .int 0, .int 0, .null, .int 0, .int 0, .null, .int 0, .int 0, .int 0]) := by rw [← hwe, va_up_self]
  clear hwe
  have hN : ∀ q, 384 ≤ q → q < 393 → w19 q = wI s0.heap.size aC q := fun q h1 h2  => by
    by_cases hq : q = 392
    · rw [hq, c_ar]; exact rfl
    · exact hN q h1 h2 hq
  refine lv_aload_n hx hb d_Mo_init_84 rfl (lv_at hl 0 rfl) ?_
  refine lv_sipush (v := 144) hx hb d_Mo_init_85 (by decide) ?_
  refine gw_sz hw (by omega) hs0 (by omega) (fun hz => ?_)
  refine gw_newa (ty := .int) (cA := aC 1) (a0 := (144, .inl (fun _ => 0))) (N' := 144) hx hb hK hw hz rfl (ky_int T) 1 rfl (fun h => h) rfl (by decide) (by decide) (by decide) (by first | omega | (simp only [gRm]; omega) | decide) (by first | omega | (simp only [gRm]; omega) | decide) d_Mo_init_88 (fun H hw _ => ?_)
  have hw : gw D gC s0.heap 394 (va_up w19 393 (.inl (aC 1, 144, .inl (fun _ => 0)))) _ _ := hw
  generalize hwe : va_up w19 393 (.inl (aC 1, 144, .inl (fun _ => 0))) = w20 at hw
  have hO : ∀ q, q < 384 → q ≠ 383 → w20 q = w q := fun q h1 h2 => (congrFun hwe q).symm.trans ((va_up_ne _ _ (by omega)).trans (hO q h1 h2))
  have hN : ∀ q, 384 ≤ q → q < 394 → q ≠ 393 → w20 q = wI s0.heap.size aC q := fun q h1 h2 h_ar => (congrFun hwe q).symm.trans ((va_up_ne _ _ (by omega)).trans (hN q h1 (by omega) ))
  have c_this : w20 383 = .inr (9, [.int 0, .int 0, .ref (s0.heap.size + 384), .int 0, .int 0, .int (-1), .int 0, .int 0, .ref (s0.heap.size + 385), .int 0, .ref (s0.heap.size + 386), .ref (s0.heap.size + 387), .ref (s0.heap.size + 388), .ref (s0.heap.size + 389), .ref (s0.heap.size + 390), .ref (s0.heap.size + 391), .ref (s0.heap.size + 392), .null, .null, .null, .null, .null, .int 0, .null, .int 0, .int 0, .int 0, .null, .int 0, .int 0, .null, .int 0, .int 0, .int 0]) := by rw [← hwe, va_up_ne _ _ (by omega)]; exact c_this
  have c_ar : w20 393 = .inl (aC 1, 144, .inl (fun _ => 0)) := by rw [← hwe, va_up_self]
  clear hwe
  refine gw_put (v := .ref (s0.heap.size + 393)) (C := R_Mo) (T := F_Mo) (N := 34) (ci := 9) (fs := [.int 0, .int 0, .ref (s0.heap.size + 384), .int 0, .int 0, .int (-1), .int 0, .int 0, .ref (s0.heap.size + 385), .int 0, .ref (s0.heap.size + 386), .ref (s0.heap.size + 387), .ref (s0.heap.size + 388), .ref (s0.heap.size + 389), .ref (s0.heap.size + 390), .ref (s0.heap.size + 391), .ref (s0.heap.size + 392), .null, .null, .null, .null, .null, .int 0, .null, .int 0, .int 0, .int 0, .null, .int 0, .int 0, .null, .int 0, .int 0, .int 0]) hx hb (fw_Mo T) hown hK hw (fun _ h => h) t_Mo t_Mo_ok n_Mo (by omega) c_this rfl 17 (by decide) (kf_Mo_41 T) rfl rfl (rfl) (rfl) (Nat.le_of_ble_eq_true rfl) d_Mo_init_90 (fun H locs hw => ?_)
  have hw : gw D gC s0.heap 394 (va_up w20 383 (.inr (9, [.int 0, .int 0, .ref (s0.heap.size + 384), .int 0, .int 0, .int (-1), .int 0, .int 0, .ref (s0.heap.size + 385), .int 0, .ref (s0.heap.size + 386), .ref (s0.heap.size + 387), .ref (s0.heap.size + 388), .ref (s0.heap.size + 389), .ref (s0.heap.size + 390), .ref (s0.heap.size + 391), .ref (s0.heap.size + 392), .ref (s0.heap.size + 393), .null, .null, .null, .null, .int 0, .null, .int 0, .int 0, .int 0, .null, .int 0, .int 0, .null, .int 0, .int 0, .int 0]))) _ _ := hw
  generalize hwe : va_up w20 383 (.inr (9, [.int 0, .int 0, .ref (s0.heap.size + 384), .int 0, .int 0, .int (-1), .int 0, .int 0, .ref (s0.heap.size + 385), .int 0, .ref (s0.heap.size + 386), .ref (s0.heap.size + 387), .ref (s0.heap.size + 388), .ref (s0.heap.size + 389), .ref (s0.heap.size + 390), .ref (s0.heap.size + 391), .ref (s0.heap.size + 392), .ref (s0.heap.size + 393), .null, .null, .null, .null, .int 0, .null, .int 0, .int 0, .int 0, .null, .int 0, .int 0, .null, .int 0, .int 0, .int 0])) = w21 at hw
  have hO : ∀ q, q < 384 → q ≠ 383 → w21 q = w q := fun q h1 h2 => (congrFun hwe q).symm.trans ((va_up_ne _ _ (by omega)).trans (hO q h1 h2))
  have hN : ∀ q, 384 ≤ q → q < 394 → q ≠ 393 → w21 q = wI s0.heap.size aC q := fun q h1 h2 h_ar => (congrFun hwe q).symm.trans ((va_up_ne _ _ (by omega)).trans (hN q h1 (by omega) (by omega)))
  have c_ar : w21 393 = .inl (aC 1, 144, .inl (fun _ => 0)) := by rw [← hwe, va_up_ne _ _ (by omega)]; exact c_ar
  have c_this : w21 383 = .inr (9, [.int 0, .int 0, .ref (s0.heap.size + 384), .int 0, .int 0, .int (-1), .int 0, .int 0, .ref (s0.heap.size + 385), .int 0, .ref (s0.heap.size + 386), .ref (s0.heap.size + 387), .ref (s0.heap.size + 388), .ref (s0.heap.size + 389), .ref (s0.heap.size + 390), .ref (s0.heap.size + 391), .ref (s0.heap.size + 392), .ref (s0.heap.size + 393), .null, .null, .null, .null, .int 0, .null, .int 0, .int 0, .int 0, .null, .int 0, .int 0, .null, .int 0, .int 0, .int 0]) := by rw [← hwe, va_up_self]
  clear hwe
  have hN : ∀ q, 384 ≤ q → q < 394 → w21 q = wI s0.heap.size aC q := fun q h1 h2  => by
    by_cases hq : q = 393
    · rw [hq, c_ar]; exact rfl
    · exact hN q h1 h2 hq
  refine lv_aload_n hx hb d_Mo_init_93 rfl (lv_at hl 0 rfl) ?_
  refine lv_sipush (v := 144) hx hb d_Mo_init_94 (by decide) ?_
  refine gw_sz hw (by omega) hs0 (by omega) (fun hz => ?_)
  refine gw_newa (ty := .int) (cA := aC 1) (a0 := (144, .inl (fun _ => 0))) (N' := 144) hx hb hK hw hz rfl (ky_int T) 1 rfl (fun h => h) rfl (by decide) (by decide) (by decide) (by first | omega | (simp only [gRm]; omega) | decide) (by first | omega | (simp only [gRm]; omega) | decide) d_Mo_init_97 (fun H hw _ => ?_)
  have hw : gw D gC s0.heap 395 (va_up w21 394 (.inl (aC 1, 144, .inl (fun _ => 0)))) _ _ := hw
  generalize hwe : va_up w21 394 (.inl (aC 1, 144, .inl (fun _ => 0))) = w22 at hw
  have hO : ∀ q, q < 384 → q ≠ 383 → w22 q = w q := fun q h1 h2 => (congrFun hwe q).symm.trans ((va_up_ne _ _ (by omega)).trans (hO q h1 h2))
  have hN : ∀ q, 384 ≤ q → q < 395 → q ≠ 394 → w22 q = wI s0.heap.size aC q := fun q h1 h2 h_ar => (congrFun hwe q).symm.trans ((va_up_ne _ _ (by omega)).trans (hN q h1 (by omega) ))
  have c_this : w22 383 = .inr (9, [.int 0, .int 0, .ref (s0.heap.size + 384), .int 0, .int 0, .int (-1), .int 0, .int 0, .ref (s0.heap.size + 385), .int 0, .ref (s0.heap.size + 386), .ref (s0.heap.size + 387), .ref (s0.heap.size + 388), .ref (s0.heap.size + 389), .ref (s0.heap.size + 390), .ref (s0.heap.size + 391), .ref (s0.heap.size + 392), .ref (s0.heap.size + 393), .null, .null, .null, .null, .int 0, .null, .int 0, .int 0, .int 0, .null, .int 0, .int 0, .null, .int 0, .int 0, .int 0]) := by rw [← hwe, va_up_ne _ _ (by omega)]; exact c_this
  have c_ar : w22 394 = .inl (aC 1, 144, .inl (fun _ => 0)) := by rw [← hwe, va_up_self]
  clear hwe
  refine gw_put (v := .ref (s0.heap.size + 394)) (C := R_Mo) (T := F_Mo) (N := 34) (ci := 9) (fs := [.int 0, .int 0, .ref (s0.heap.size + 384), .int 0, .int 0, .int (-1), .int 0, .int 0, .ref (s0.heap.size + 385), .int 0, .ref (s0.heap.size + 386), .ref (s0.heap.size + 387), .ref (s0.heap.size + 388), .ref (s0.heap.size + 389), .ref (s0.heap.size + 390), .ref (s0.heap.size + 391), .ref (s0.heap.size + 392), .ref (s0.heap.size + 393), .null, .null, .null, .null, .int 0, .null, .int 0, .int 0, .int 0, .null, .int 0, .int 0, .null, .int 0, .int 0, .int 0]) hx hb (fw_Mo T) hown hK hw (fun _ h => h) t_Mo t_Mo_ok n_Mo (by omega) c_this rfl 18 (by decide) (kf_Mo_44 T) rfl rfl (rfl) (rfl) (Nat.le_of_ble_eq_true rfl) d_Mo_init_99 (fun H locs hw => ?_)
  have hw : gw D gC s0.heap 395 (va_up w22 383 (.inr (9, [.int 0, .int 0, .ref (s0.heap.size + 384), .int 0, .int 0, .int (-1), .int 0, .int 0, .ref (s0.heap.size + 385), .int 0, .ref (s0.heap.size + 386), .ref (s0.heap.size + 387), .ref (s0.heap.size + 388), .ref (s0.heap.size + 389), .ref (s0.heap.size + 390), .ref (s0.heap.size + 391), .ref (s0.heap.size + 392), .ref (s0.heap.size + 393), .ref (s0.heap.size + 394), .null, .null, .null, .int 0, .null, .int 0, .int 0, .int 0, .null, .int 0, .int 0, .null, .int 0, .int 0, .int 0]))) _ _ := hw
  generalize hwe : va_up w22 383 (.inr (9, [.int 0, .int 0, .ref (s0.heap.size + 384), .int 0, .int 0, .int (-1), .int 0, .int 0, .ref (s0.heap.size + 385), .int 0, .ref (s0.heap.size + 386), .ref (s0.heap.size + 387), .ref (s0.heap.size + 388), .ref (s0.heap.size + 389), .ref (s0.heap.size + 390), .ref (s0.heap.size + 391), .ref (s0.heap.size + 392), .ref (s0.heap.size + 393), .ref (s0.heap.size + 394), .null, .null, .null, .int 0, .null, .int 0, .int 0, .int 0, .null, .int 0, .int 0, .null, .int 0, .int 0, .int 0])) = w23 at hw
  have hO : ∀ q, q < 384 → q ≠ 383 → w23 q = w q := fun q h1 h2 => (congrFun hwe q).symm.trans ((va_up_ne _ _ (by omega)).trans (hO q h1 h2))
  have hN : ∀ q, 384 ≤ q → q < 395 → q ≠ 394 → w23 q = wI s0.heap.size aC q := fun q h1 h2 h_ar => (congrFun hwe q).symm.trans ((va_up_ne _ _ (by omega)).trans (hN q h1 (by omega) (by omega)))
  have c_ar : w23 394 = .inl (aC 1, 144, .inl (fun _ => 0)) := by rw [← hwe, va_up_ne _ _ (by omega)]; exact c_ar
  have c_this : w23 383 = .inr (9, [.int 0, .int 0, .ref (s0.heap.size + 384), .int 0, .int 0, .int (-1), .int 0, .int 0, .ref (s0.heap.size + 385), .int 0, .ref (s0.heap.size + 386), .ref (s0.heap.size + 387), .ref (s0.heap.size + 388), .ref (s0.heap.size + 389), .ref (s0.heap.size + 390), .ref (s0.heap.size + 391), .ref (s0.heap.size + 392), .ref (s0.heap.size + 393), .ref (s0.heap.size + 394), .null, .null, .null, .int 0, .null, .int 0, .int 0, .int 0, .null, .int 0, .int 0, .null, .int 0, .int 0, .int 0]) := by rw [← hwe, va_up_self]
  clear hwe
  have hN : ∀ q, 384 ≤ q → q < 395 → w23 q = wI s0.heap.size aC q := fun q h1 h2  => by
    by_cases hq : q = 394
    · rw [hq, c_ar]; exact rfl
    · exact hN q h1 h2 hq
  refine lv_aload_n hx hb d_Mo_init_102 rfl (lv_at hl 0 rfl) ?_
  refine lv_sipush (v := 144) hx hb d_Mo_init_103 (by decide) ?_
  refine gw_sz hw (by omega) hs0 (by omega) (fun hz => ?_)
  refine gw_newa (ty := .int) (cA := aC 1) (a0 := (144, .inl (fun _ => 0))) (N' := 144) hx hb hK hw hz rfl (ky_int T) 1 rfl (fun h => h) rfl (by decide) (by decide) (by decide) (by first | omega | (simp only [gRm]; omega) | decide) (by first | omega | (simp only [gRm]; omega) | decide) d_Mo_init_106 (fun H hw _ => ?_)
  have hw : gw D gC s0.heap 396 (va_up w23 395 (.inl (aC 1, 144, .inl (fun _ => 0)))) _ _ := hw
  generalize hwe : va_up w23 395 (.inl (aC 1, 144, .inl (fun _ => 0))) = w24 at hw
  have hO : ∀ q, q < 384 → q ≠ 383 → w24 q = w q := fun q h1 h2 => (congrFun hwe q).symm.trans ((va_up_ne _ _ (by omega)).trans (hO q h1 h2))
  have hN : ∀ q, 384 ≤ q → q < 396 → q ≠ 395 → w24 q = wI s0.heap.size aC q := fun q h1 h2 h_ar => (congrFun hwe q).symm.trans ((va_up_ne _ _ (by omega)).trans (hN q h1 (by omega) ))
  have c_this : w24 383 = .inr (9, [.int 0, .int 0, .ref (s0.heap.size + 384), .int 0, .int 0, .int (-1), .int 0, .int 0, .ref (s0.heap.size + 385), .int 0, .ref (s0.heap.size + 386), .ref (s0.heap.size + 387), .ref (s0.heap.size + 388), .ref (s0.heap.size + 389), .ref (s0.heap.size + 390), .ref (s0.heap.size + 391), .ref (s0.heap.size + 392), .ref (s0.heap.size + 393), .ref (s0.heap.size + 394), .null, .null, .null, .int 0, .null, .int 0, .int 0, .int 0, .null, .int 0, .int 0, .null, .int 0, .int 0, .int 0]) := by rw [← hwe, va_up_ne _ _ (by omega)]; exact c_this
  have c_ar : w24 395 = .inl (aC 1, 144, .inl (fun _ => 0)) := by rw [← hwe, va_up_self]
  clear hwe
  refine gw_put (v := .ref (s0.heap.size + 395)) (C := R_Mo) (T := F_Mo) (N := 34) (ci := 9) (fs := [.int 0, .int 0, .ref (s0.heap.size + 384), .int 0, .int 0, .int (-1), .int 0, .int 0, .ref (s0.heap.size + 385), .int 0, .ref (s0.heap.size + 386), .ref (s0.heap.size + 387), .ref (s0.heap.size + 388), .ref (s0.heap.size + 389), .ref (s0.heap.size + 390), .ref (s0.heap.size + 391), .ref (s0.heap.size + 392), .ref (s0.heap.size + 393), .ref (s0.heap.size + 394), .null, .null, .null, .int 0, .null, .int 0, .int 0, .int 0, .null, .int 0, .int 0, .null, .int 0, .int 0, .int 0]) hx hb (fw_Mo T) hown hK hw (fun _ h => h) t_Mo t_Mo_ok n_Mo (by omega) c_this rfl 19 (by decide) (kf_Mo_47 T) rfl rfl (rfl) (rfl) (Nat.le_of_ble_eq_true rfl) d_Mo_init_108 (fun H locs hw => ?_)
  have hw : gw D gC s0.heap 396 (va_up w24 383 (.inr (9, [.int 0, .int 0, .ref (s0.heap.size + 384), .int 0, .int 0, .int (-1), .int 0, .int 0, .ref (s0.heap.size + 385), .int 0, .ref (s0.heap.size + 386), .ref (s0.heap.size + 387), .ref (s0.heap.size + 388), .ref (s0.heap.size + 389), .ref (s0.heap.size + 390), .ref (s0.heap.size + 391), .ref (s0.heap.size + 392), .ref (s0.heap.size + 393), .ref (s0.heap.size + 394), .ref (s0.heap.size + 395), .null, .null, .int 0, .null, .int 0, .int 0, .int 0, .null, .int 0, .int 0, .null, .int 0, .int 0, .int 0]))) _ _ := hw
  generalize hwe : va_up w24 383 (.inr (9, [.int 0, .int 0, .ref (s0.heap.size + 384), .int 0, .int 0, .int (-1), .int 0, .int 0, .ref (s0.heap.size + 385), .int 0, .ref (s0.heap.size + 386), .ref (s0.heap.size + 387), .ref (s0.heap.size + 388), .ref (s0.heap.size + 389), .ref (s0.heap.size + 390), .ref (s0.heap.size + 391), .ref (s0.heap.size + 392), .ref (s0.heap.size + 393), .ref (s0.heap.size + 394), .ref (s0.heap.size + 395), .null, .null, .int 0, .null, .int 0, .int 0, .int 0, .null, .int 0, .int 0, .null, .int 0, .int 0, .int 0])) = w25 at hw
  have hO : ∀ q, q < 384 → q ≠ 383 → w25 q = w q := fun q h1 h2 => (congrFun hwe q).symm.trans ((va_up_ne _ _ (by omega)).trans (hO q h1 h2))
  have hN : ∀ q, 384 ≤ q → q < 396 → q ≠ 395 → w25 q = wI s0.heap.size aC q := fun q h1 h2 h_ar => (congrFun hwe q).symm.trans ((va_up_ne _ _ (by omega)).trans (hN q h1 (by omega) (by omega)))
  have c_ar : w25 395 = .inl (aC 1, 144, .inl (fun _ => 0)) := by rw [← hwe, va_up_ne _ _ (by omega)]; exact c_ar
  have c_this : w25 383 = .inr (9, [.int 0, .int 0, .ref (s0.heap.size + 384), .int 0, .int 0, .int (-1), .int 0, .int 0, .ref (s0.heap.size + 385), .int 0, .ref (s0.heap.size + 386), .ref (s0.heap.size + 387), .ref (s0.heap.size + 388), .ref (s0.heap.size + 389), .ref (s0.heap.size + 390), .ref (s0.heap.size + 391), .ref (s0.heap.size + 392), .ref (s0.heap.size + 393), .ref (s0.heap.size + 394), .ref (s0.heap.size + 395), .null, .null, .int 0, .null, .int 0, .int 0, .int 0, .null, .int 0, .int 0, .null, .int 0, .int 0, .int 0]) := by rw [← hwe, va_up_self]
  clear hwe
  have hN : ∀ q, 384 ≤ q → q < 396 → w25 q = wI s0.heap.size aC q := fun q h1 h2  => by
    by_cases hq : q = 395
    · rw [hq, c_ar]; exact rfl
    · exact hN q h1 h2 hq
  refine lv_aload_n hx hb d_Mo_init_111 rfl (lv_at hl 0 rfl) ?_
  refine lv_sipush (v := 144) hx hb d_Mo_init_112 (by decide) ?_
  refine gw_sz hw (by omega) hs0 (by omega) (fun hz => ?_)
  refine gw_newa (ty := .int) (cA := aC 1) (a0 := (144, .inl (fun _ => 0))) (N' := 144) hx hb hK hw hz rfl (ky_int T) 1 rfl (fun h => h) rfl (by decide) (by decide) (by decide) (by first | omega | (simp only [gRm]; omega) | decide) (by first | omega | (simp only [gRm]; omega) | decide) d_Mo_init_115 (fun H hw _ => ?_)
  have hw : gw D gC s0.heap 397 (va_up w25 396 (.inl (aC 1, 144, .inl (fun _ => 0)))) _ _ := hw
  generalize hwe : va_up w25 396 (.inl (aC 1, 144, .inl (fun _ => 0))) = w26 at hw
  have hO : ∀ q, q < 384 → q ≠ 383 → w26 q = w q := fun q h1 h2 => (congrFun hwe q).symm.trans ((va_up_ne _ _ (by omega)).trans (hO q h1 h2))
  have hN : ∀ q, 384 ≤ q → q < 397 → q ≠ 396 → w26 q = wI s0.heap.size aC q := fun q h1 h2 h_ar => (congrFun hwe q).symm.trans ((va_up_ne _ _ (by omega)).trans (hN q h1 (by omega) ))
  have c_this : w26 383 = .inr (9, [.int 0, .int 0, .ref (s0.heap.size + 384), .int 0, .int 0, .int (-1), .int 0, .int 0, .ref (s0.heap.size + 385), .int 0, .ref (s0.heap.size + 386), .ref (s0.heap.size + 387), .ref (s0.heap.size + 388), .ref (s0.heap.size + 389), .ref (s0.heap.size + 390), .ref (s0.heap.size + 391), .ref (s0.heap.size + 392), .ref (s0.heap.size + 393), .ref (s0.heap.size + 394), .ref (s0.heap.size + 395), .null, .null, .int 0, .null, .int 0, .int 0, .int 0, .null, .int 0, .int 0, .null, .int 0, .int 0, .int 0]) := by rw [← hwe, va_up_ne _ _ (by omega)]; exact c_this
  have c_ar : w26 396 = .inl (aC 1, 144, .inl (fun _ => 0)) := by rw [← hwe, va_up_self]
  clear hwe
  refine gw_put (v := .ref (s0.heap.size + 396)) (C := R_Mo) (T := F_Mo) (N := 34) (ci := 9) (fs := [.int 0, .int 0, .ref (s0.heap.size + 384), .int 0, .int 0, .int (-1), .int 0, .int 0, .ref (s0.heap.size + 385), .int 0, .ref (s0.heap.size + 386), .ref (s0.heap.size + 387), .ref (s0.heap.size + 388), .ref (s0.heap.size + 389), .ref (s0.heap.size + 390), .ref (s0.heap.size + 391), .ref (s0.heap.size + 392), .ref (s0.heap.size + 393), .ref (s0.heap.size + 394), .ref (s0.heap.size + 395), .null, .null, .int 0, .null, .int 0, .int 0, .int 0, .null, .int 0, .int 0, .null, .int 0, .int 0, .int 0]) hx hb (fw_Mo T) hown hK hw (fun _ h => h) t_Mo t_Mo_ok n_Mo (by omega) c_this rfl 20 (by decide) (kf_Mo_50 T) rfl rfl (rfl) (rfl) (Nat.le_of_ble_eq_true rfl) d_Mo_init_117 (fun H locs hw => ?_)
  have hw : gw D gC s0.heap 397 (va_up w26 383 (.inr (9, [.int 0, .int 0, .ref (s0.heap.size + 384), .int 0, .int 0, .int (-1), .int 0, .int 0, .ref (s0.heap.size + 385), .int 0, .ref (s0.heap.size + 386), .ref (s0.heap.size + 387), .ref (s0.heap.size + 388), .ref (s0.heap.size + 389), .ref (s0.heap.size + 390), .ref (s0.heap.size + 391), .ref (s0.heap.size + 392), .ref (s0.heap.size + 393), .ref (s0.heap.size + 394), .ref (s0.heap.size + 395), .ref (s0.heap.size + 396), .null, .int 0, .null, .int 0, .int 0, .int 0, .null, .int 0, .int 0, .null, .int 0, .int 0, .int 0]))) _ _ := hw
  generalize hwe : va_up w26 383 (.inr (9, [.int 0, .int 0, .ref (s0.heap.size + 384), .int 0, .int 0, .int (-1), .int 0, .int 0, .ref (s0.heap.size + 385), .int 0, .ref (s0.heap.size + 386), .ref (s0.heap.size + 387), .ref (s0.heap.size + 388), .ref (s0.heap.size + 389), .ref (s0.heap.size + 390), .ref (s0.heap.size + 391), .ref (s0.heap.size + 392), .ref (s0.heap.size + 393), .ref (s0.heap.size + 394), .ref (s0.heap.size + 395), .ref (s0.heap.size + 396), .null, .int 0, .null, .int 0, .int 0, .int 0, .null, .int 0, .int 0, .null, .int 0, .int 0, .int 0])) = w27 at hw
  have hO : ∀ q, q < 384 → q ≠ 383 → w27 q = w q := fun q h1 h2 => (congrFun hwe q).symm.trans ((va_up_ne _ _ (by omega)).trans (hO q h1 h2))
  have hN : ∀ q, 384 ≤ q → q < 397 → q ≠ 396 → w27 q = wI s0.heap.size aC q := fun q h1 h2 h_ar => (congrFun hwe q).symm.trans ((va_up_ne _ _ (by omega)).trans (hN q h1 (by omega) (by omega)))
  have c_ar : w27 396 = .inl (aC 1, 144, .inl (fun _ => 0)) := by rw [← hwe, va_up_ne _ _ (by omega)]; exact c_ar
  have c_this : w27 383 = .inr (9, [.int 0, .int 0, .ref (s0.heap.size + 384), .int 0, .int 0, .int (-1), .int 0, .int 0, .ref (s0.heap.size + 385), .int 0, .ref (s0.heap.size + 386), .ref (s0.heap.size + 387), .ref (s0.heap.size + 388), .ref (s0.heap.size + 389), .ref (s0.heap.size + 390), .ref (s0.heap.size + 391), .ref (s0.heap.size + 392), .ref (s0.heap.size + 393), .ref (s0.heap.size + 394), .ref (s0.heap.size + 395), .ref (s0.heap.size + 396), .null, .int 0, .null, .int 0, .int 0, .int 0, .null, .int 0, .int 0, .null, .int 0, .int 0, .int 0]) := by rw [← hwe, va_up_self]
  clear hwe
  have hN : ∀ q, 384 ≤ q → q < 397 → w27 q = wI s0.heap.size aC q := fun q h1 h2  => by
    by_cases hq : q = 396
    · rw [hq, c_ar]; exact rfl
    · exact hN q h1 h2 hq
  refine lv_aload_n hx hb d_Mo_init_120 rfl (lv_at hl 0 rfl) ?_
  refine lv_sipush (v := 144) hx hb d_Mo_init_121 (by decide) ?_
  refine gw_sz hw (by omega) hs0 (by omega) (fun hz => ?_)
  refine gw_newa (ty := .int) (cA := aC 1) (a0 := (144, .inl (fun _ => 0))) (N' := 144) hx hb hK hw hz rfl (ky_int T) 1 rfl (fun h => h) rfl (by decide) (by decide) (by decide) (by first | omega | (simp only [gRm]; omega) | decide) (by first | omega | (simp only [gRm]; omega) | decide) d_Mo_init_124 (fun H hw _ => ?_)
  have hw : gw D gC s0.heap 398 (va_up w27 397 (.inl (aC 1, 144, .inl (fun _ => 0)))) _ _ := hw
  generalize hwe : va_up w27 397 (.inl (aC 1, 144, .inl (fun _ => 0))) = w28 at hw
  have hO : ∀ q, q < 384 → q ≠ 383 → w28 q = w q := fun q h1 h2 => (congrFun hwe q).symm.trans ((va_up_ne _ _ (by omega)).trans (hO q h1 h2))
  have hN : ∀ q, 384 ≤ q → q < 398 → q ≠ 397 → w28 q = wI s0.heap.size aC q := fun q h1 h2 h_ar => (congrFun hwe q).symm.trans ((va_up_ne _ _ (by omega)).trans (hN q h1 (by omega) ))
  have c_this : w28 383 = .inr (9, [.int 0, .int 0, .ref (s0.heap.size + 384), .int 0, .int 0, .int (-1), .int 0, .int 0, .ref (s0.heap.size + 385), .int 0, .ref (s0.heap.size + 386), .ref (s0.heap.size + 387), .ref (s0.heap.size + 388), .ref (s0.heap.size + 389), .ref (s0.heap.size + 390), .ref (s0.heap.size + 391), .ref (s0.heap.size + 392), .ref (s0.heap.size + 393), .ref (s0.heap.size + 394), .ref (s0.heap.size + 395), .ref (s0.heap.size + 396), .null, .int 0, .null, .int 0, .int 0, .int 0, .null, .int 0, .int 0, .null, .int 0, .int 0, .int 0]) := by rw [← hwe, va_up_ne _ _ (by omega)]; exact c_this
  have c_ar : w28 397 = .inl (aC 1, 144, .inl (fun _ => 0)) := by rw [← hwe, va_up_self]
  clear hwe
  refine gw_put (v := .ref (s0.heap.size + 397)) (C := R_Mo) (T := F_Mo) (N := 34) (ci := 9) (fs := [.int 0, .int 0, .ref (s0.heap.size + 384), .int 0, .int 0, .int (-1), .int 0, .int 0, .ref (s0.heap.size + 385), .int 0, .ref (s0.heap.size + 386), .ref (s0.heap.size + 387), .ref (s0.heap.size + 388), .ref (s0.heap.size + 389), .ref (s0.heap.size + 390), .ref (s0.heap.size + 391), .ref (s0.heap.size + 392), .ref (s0.heap.size + 393), .ref (s0.heap.size + 394), .ref (s0.heap.size + 395), .ref (s0.heap.size + 396), .null, .int 0, .null, .int 0, .int 0, .int 0, .null, .int 0, .int 0, .null, .int 0, .int 0, .int 0]) hx hb (fw_Mo T) hown hK hw (fun _ h => h) t_Mo t_Mo_ok n_Mo (by omega) c_this rfl 21 (by decide) (kf_Mo_53 T) rfl rfl (rfl) (rfl) (Nat.le_of_ble_eq_true rfl) d_Mo_init_126 (fun H locs hw => ?_)
  have hw : gw D gC s0.heap 398 (va_up w28 383 (.inr (9, [.int 0, .int 0, .ref (s0.heap.size + 384), .int 0, .int 0, .int (-1), .int 0, .int 0, .ref (s0.heap.size + 385), .int 0, .ref (s0.heap.size + 386), .ref (s0.heap.size + 387), .ref (s0.heap.size + 388), .ref (s0.heap.size + 389), .ref (s0.heap.size + 390), .ref (s0.heap.size + 391), .ref (s0.heap.size + 392), .ref (s0.heap.size + 393), .ref (s0.heap.size + 394), .ref (s0.heap.size + 395), .ref (s0.heap.size + 396), .ref (s0.heap.size + 397), .int 0, .null, .int 0, .int 0, .int 0, .null, .int 0, .int 0, .null, .int 0, .int 0, .int 0]))) _ _ := hw
  generalize hwe : va_up w28 383 (.inr (9, [.int 0, .int 0, .ref (s0.heap.size + 384), .int 0, .int 0, .int (-1), .int 0, .int 0, .ref (s0.heap.size + 385), .int 0, .ref (s0.heap.size + 386), .ref (s0.heap.size + 387), .ref (s0.heap.size + 388), .ref (s0.heap.size + 389), .ref (s0.heap.size + 390), .ref (s0.heap.size + 391), .ref (s0.heap.size + 392), .ref (s0.heap.size + 393), .ref (s0.heap.size + 394), .ref (s0.heap.size + 395), .ref (s0.heap.size + 396), .ref (s0.heap.size + 397), .int 0, .null, .int 0, .int 0, .int 0, .null, .int 0, .int 0, .null, .int 0, .int 0, .int 0])) = w29 at hw
  have hO : ∀ q, q < 384 → q ≠ 383 → w29 q = w q := fun q h1 h2 => (congrFun hwe q).symm.trans ((va_up_ne _ _ (by omega)).trans (hO q h1 h2))
  have hN : ∀ q, 384 ≤ q → q < 398 → q ≠ 397 → w29 q = wI s0.heap.size aC q := fun q h1 h2 h_ar => (congrFun hwe q).symm.trans ((va_up_ne _ _ (by omega)).trans (hN q h1 (by omega) (by omega)))
  have c_ar : w29 397 = .inl (aC 1, 144, .inl (fun _ => 0)) := by rw [← hwe, va_up_ne _ _ (by omega)]; exact c_ar
  have c_this : w29 383 = .inr (9, [.int 0, .int 0, .ref (s0.heap.size + 384), .int 0, .int 0, .int (-1), .int 0, .int 0, .ref (s0.heap.size + 385), .int 0, .ref (s0.heap.size + 386), .ref (s0.heap.size + 387), .ref (s0.heap.size + 388), .ref (s0.heap.size + 389), .ref (s0.heap.size + 390), .ref (s0.heap.size + 391), .ref (s0.heap.size + 392), .ref (s0.heap.size + 393), .ref (s0.heap.size + 394), .ref (s0.heap.size + 395), .ref (s0.heap.size + 396), .ref (s0.heap.size + 397), .int 0, .null, .int 0, .int 0, .int 0, .null, .int 0, .int 0, .null, .int 0, .int 0, .int 0]) := by rw [← hwe, va_up_self]
  clear hwe
  have hN : ∀ q, 384 ≤ q → q < 398 → w29 q = wI s0.heap.size aC q := fun q h1 h2  => by
    by_cases hq : q = 397
    · rw [hq, c_ar]; exact rfl
    · exact hN q h1 h2 hq
  refine lv_aload_n hx hb d_Mo_init_129 rfl (lv_at hl 0 rfl) ?_
  refine lv_sipush (v := 300) hx hb d_Mo_init_130 (by decide) ?_
  refine gw_sz hw (by omega) hs0 (by omega) (fun hz => ?_)
  refine gw_newa (ty := .int) (cA := aC 1) (a0 := (300, .inl (fun _ => 0))) (N' := 300) hx hb hK hw hz rfl (ky_int T) 1 rfl (fun h => h) rfl (by decide) (by decide) (by decide) (by first | omega | (simp only [gRm]; omega) | decide) (by first | omega | (simp only [gRm]; omega) | decide) d_Mo_init_133 (fun H hw _ => ?_)
  have hw : gw D gC s0.heap 399 (va_up w29 398 (.inl (aC 1, 300, .inl (fun _ => 0)))) _ _ := hw
  generalize hwe : va_up w29 398 (.inl (aC 1, 300, .inl (fun _ => 0))) = w30 at hw
  have hO : ∀ q, q < 384 → q ≠ 383 → w30 q = w q := fun q h1 h2 => (congrFun hwe q).symm.trans ((va_up_ne _ _ (by omega)).trans (hO q h1 h2))
  have hN : ∀ q, 384 ≤ q → q < 399 → q ≠ 398 → w30 q = wI s0.heap.size aC q := fun q h1 h2 h_ar => (congrFun hwe q).symm.trans ((va_up_ne _ _ (by omega)).trans (hN q h1 (by omega) ))
  have c_this : w30 383 = .inr (9, [.int 0, .int 0, .ref (s0.heap.size + 384), .int 0, .int 0, .int (-1), .int 0, .int 0, .ref (s0.heap.size + 385), .int 0, .ref (s0.heap.size + 386), .ref (s0.heap.size + 387), .ref (s0.heap.size + 388), .ref (s0.heap.size + 389), .ref (s0.heap.size + 390), .ref (s0.heap.size + 391), .ref (s0.heap.size + 392), .ref (s0.heap.size + 393), .ref (s0.heap.size + 394), .ref (s0.heap.size + 395), .ref (s0.heap.size + 396), .ref (s0.heap.size + 397), .int 0, .null, .int 0, .int 0, .int 0, .null, .int 0, .int 0, .null, .int 0, .int 0, .int 0]) := by rw [← hwe, va_up_ne _ _ (by omega)]; exact c_this
  have c_ar : w30 398 = .inl (aC 1, 300, .inl (fun _ => 0)) := by rw [← hwe, va_up_self]
  clear hwe
  refine gw_put (v := .ref (s0.heap.size + 398)) (C := R_Mo) (T := F_Mo) (N := 34) (ci := 9) (fs := [.int 0, .int 0, .ref (s0.heap.size + 384), .int 0, .int 0, .int (-1), .int 0, .int 0, .ref (s0.heap.size + 385), .int 0, .ref (s0.heap.size + 386), .ref (s0.heap.size + 387), .ref (s0.heap.size + 388), .ref (s0.heap.size + 389), .ref (s0.heap.size + 390), .ref (s0.heap.size + 391), .ref (s0.heap.size + 392), .ref (s0.heap.size + 393), .ref (s0.heap.size + 394), .ref (s0.heap.size + 395), .ref (s0.heap.size + 396), .ref (s0.heap.size + 397), .int 0, .null, .int 0, .int 0, .int 0, .null, .int 0, .int 0, .null, .int 0, .int 0, .int 0]) hx hb (fw_Mo T) hown hK hw (fun _ h => h) t_Mo t_Mo_ok n_Mo (by omega) c_this rfl 23 (by decide) (kf_Mo_56 T) rfl rfl (rfl) (rfl) (Nat.le_of_ble_eq_true rfl) d_Mo_init_135 (fun H locs hw => ?_)
  have hw : gw D gC s0.heap 399 (va_up w30 383 (.inr (9, [.int 0, .int 0, .ref (s0.heap.size + 384), .int 0, .int 0, .int (-1), .int 0, .int 0, .ref (s0.heap.size + 385), .int 0, .ref (s0.heap.size + 386), .ref (s0.heap.size + 387), .ref (s0.heap.size + 388), .ref (s0.heap.size + 389), .ref (s0.heap.size + 390), .ref (s0.heap.size + 391), .ref (s0.heap.size + 392), .ref (s0.heap.size + 393), .ref (s0.heap.size + 394), .ref (s0.heap.size + 395), .ref (s0.heap.size + 396), .ref (s0.heap.size + 397), .int 0, .ref (s0.heap.size + 398), .int 0, .int 0, .int 0, .null, .int 0, .int 0, .null, .int 0, .int 0, .int 0]))) _ _ := hw
  generalize hwe : va_up w30 383 (.inr (9, [.int 0, .int 0, .ref (s0.heap.size + 384), .int 0, .int 0, .int (-1), .int 0, .int 0, .ref (s0.heap.size + 385), .int 0, .ref (s0.heap.size + 386), .ref (s0.heap.size + 387), .ref (s0.heap.size + 388), .ref (s0.heap.size + 389), .ref (s0.heap.size + 390), .ref (s0.heap.size + 391), .ref (s0.heap.size + 392), .ref (s0.heap.size + 393), .ref (s0.heap.size + 394), .ref (s0.heap.size + 395), .ref (s0.heap.size + 396), .ref (s0.heap.size + 397), .int 0, .ref (s0.heap.size + 398), .int 0, .int 0, .int 0, .null, .int 0, .int 0, .null, .int 0, .int 0, .int 0])) = w31 at hw
  have hO : ∀ q, q < 384 → q ≠ 383 → w31 q = w q := fun q h1 h2 => (congrFun hwe q).symm.trans ((va_up_ne _ _ (by omega)).trans (hO q h1 h2))
  have hN : ∀ q, 384 ≤ q → q < 399 → q ≠ 398 → w31 q = wI s0.heap.size aC q := fun q h1 h2 h_ar => (congrFun hwe q).symm.trans ((va_up_ne _ _ (by omega)).trans (hN q h1 (by omega) (by omega)))
  have c_ar : w31 398 = .inl (aC 1, 300, .inl (fun _ => 0)) := by rw [← hwe, va_up_ne _ _ (by omega)]; exact c_ar
  have c_this : w31 383 = .inr (9, [.int 0, .int 0, .ref (s0.heap.size + 384), .int 0, .int 0, .int (-1), .int 0, .int 0, .ref (s0.heap.size + 385), .int 0, .ref (s0.heap.size + 386), .ref (s0.heap.size + 387), .ref (s0.heap.size + 388), .ref (s0.heap.size + 389), .ref (s0.heap.size + 390), .ref (s0.heap.size + 391), .ref (s0.heap.size + 392), .ref (s0.heap.size + 393), .ref (s0.heap.size + 394), .ref (s0.heap.size + 395), .ref (s0.heap.size + 396), .ref (s0.heap.size + 397), .int 0, .ref (s0.heap.size + 398), .int 0, .int 0, .int 0, .null, .int 0, .int 0, .null, .int 0, .int 0, .int 0]) := by rw [← hwe, va_up_self]
  clear hwe
  have hN : ∀ q, 384 ≤ q → q < 399 → w31 q = wI s0.heap.size aC q := fun q h1 h2  => by
    by_cases hq : q = 398
    · rw [hq, c_ar]; exact rfl
    · exact hN q h1 h2 hq
  refine lv_aload_n hx hb d_Mo_init_138 rfl (lv_at hl 0 rfl) ?_
  refine lv_sipush (v := 2200) hx hb d_Mo_init_139 (by decide) ?_
  refine gw_sz hw (by omega) hs0 (by omega) (fun hz => ?_)
  refine gw_newa (ty := .int) (cA := aC 1) (a0 := (2200, .inl (fun _ => 0))) (N' := 2200) hx hb hK hw hz rfl (ky_int T) 1 rfl (fun h => h) rfl (by decide) (by decide) (by decide) (by first | omega | (simp only [gRm]; omega) | decide) (by first | omega | (simp only [gRm]; omega) | decide) d_Mo_init_142 (fun H hw _ => ?_)
  have hw : gw D gC s0.heap 400 (va_up w31 399 (.inl (aC 1, 2200, .inl (fun _ => 0)))) _ _ := hw
  generalize hwe : va_up w31 399 (.inl (aC 1, 2200, .inl (fun _ => 0))) = w32 at hw
  have hO : ∀ q, q < 384 → q ≠ 383 → w32 q = w q := fun q h1 h2 => (congrFun hwe q).symm.trans ((va_up_ne _ _ (by omega)).trans (hO q h1 h2))
  have hN : ∀ q, 384 ≤ q → q < 400 → q ≠ 399 → w32 q = wI s0.heap.size aC q := fun q h1 h2 h_ar => (congrFun hwe q).symm.trans ((va_up_ne _ _ (by omega)).trans (hN q h1 (by omega) ))
  have c_this : w32 383 = .inr (9, [.int 0, .int 0, .ref (s0.heap.size + 384), .int 0, .int 0, .int (-1), .int 0, .int 0, .ref (s0.heap.size + 385), .int 0, .ref (s0.heap.size + 386), .ref (s0.heap.size + 387), .ref (s0.heap.size + 388), .ref (s0.heap.size + 389), .ref (s0.heap.size + 390), .ref (s0.heap.size + 391), .ref (s0.heap.size + 392), .ref (s0.heap.size + 393), .ref (s0.heap.size + 394), .ref (s0.heap.size + 395), .ref (s0.heap.size + 396), .ref (s0.heap.size + 397), .int 0, .ref (s0.heap.size + 398), .int 0, .int 0, .int 0, .null, .int 0, .int 0, .null, .int 0, .int 0, .int 0]) := by rw [← hwe, va_up_ne _ _ (by omega)]; exact c_this
  have c_ar : w32 399 = .inl (aC 1, 2200, .inl (fun _ => 0)) := by rw [← hwe, va_up_self]
  clear hwe
  refine gw_put (v := .ref (s0.heap.size + 399)) (C := R_Mo) (T := F_Mo) (N := 34) (ci := 9) (fs := [.int 0, .int 0, .ref (s0.heap.size + 384), .int 0, .int 0, .int (-1), .int 0, .int 0, .ref (s0.heap.size + 385), .int 0, .ref (s0.heap.size + 386), .ref (s0.heap.size + 387), .ref (s0.heap.size + 388), .ref (s0.heap.size + 389), .ref (s0.heap.size + 390), .ref (s0.heap.size + 391), .ref (s0.heap.size + 392), .ref (s0.heap.size + 393), .ref (s0.heap.size + 394), .ref (s0.heap.size + 395), .ref (s0.heap.size + 396), .ref (s0.heap.size + 397), .int 0, .ref (s0.heap.size + 398), .int 0, .int 0, .int 0, .null, .int 0, .int 0, .null, .int 0, .int 0, .int 0]) hx hb (fw_Mo T) hown hK hw (fun _ h => h) t_Mo t_Mo_ok n_Mo (by omega) c_this rfl 27 (by decide) (kf_Mo_59 T) rfl rfl (rfl) (rfl) (Nat.le_of_ble_eq_true rfl) d_Mo_init_144 (fun H locs hw => ?_)
  have hw : gw D gC s0.heap 400 (va_up w32 383 (.inr (9, [.int 0, .int 0, .ref (s0.heap.size + 384), .int 0, .int 0, .int (-1), .int 0, .int 0, .ref (s0.heap.size + 385), .int 0, .ref (s0.heap.size + 386), .ref (s0.heap.size + 387), .ref (s0.heap.size + 388), .ref (s0.heap.size + 389), .ref (s0.heap.size + 390), .ref (s0.heap.size + 391), .ref (s0.heap.size + 392), .ref (s0.heap.size + 393), .ref (s0.heap.size + 394), .ref (s0.heap.size + 395), .ref (s0.heap.size + 396), .ref (s0.heap.size + 397), .int 0, .ref (s0.heap.size + 398), .int 0, .int 0, .int 0, .ref (s0.heap.size + 399), .int 0, .int 0, .null, .int 0, .int 0, .int 0]))) _ _ := hw
  generalize hwe : va_up w32 383 (.inr (9, [.int 0, .int 0, .ref (s0.heap.size + 384), .int 0, .int 0, .int (-1), .int 0, .int 0, .ref (s0.heap.size + 385), .int 0, .ref (s0.heap.size + 386), .ref (s0.heap.size + 387), .ref (s0.heap.size + 388), .ref (s0.heap.size + 389), .ref (s0.heap.size + 390), .ref (s0.heap.size + 391), .ref (s0.heap.size + 392), .ref (s0.heap.size + 393), .ref (s0.heap.size + 394), .ref (s0.heap.size + 395), .ref (s0.heap.size + 396), .ref (s0.heap.size + 397), .int 0, .ref (s0.heap.size + 398), .int 0, .int 0, .int 0, .ref (s0.heap.size + 399), .int 0, .int 0, .null, .int 0, .int 0, .int 0])) = w33 at hw
  have hO : ∀ q, q < 384 → q ≠ 383 → w33 q = w q := fun q h1 h2 => (congrFun hwe q).symm.trans ((va_up_ne _ _ (by omega)).trans (hO q h1 h2))
  have hN : ∀ q, 384 ≤ q → q < 400 → q ≠ 399 → w33 q = wI s0.heap.size aC q := fun q h1 h2 h_ar => (congrFun hwe q).symm.trans ((va_up_ne _ _ (by omega)).trans (hN q h1 (by omega) (by omega)))
  have c_ar : w33 399 = .inl (aC 1, 2200, .inl (fun _ => 0)) := by rw [← hwe, va_up_ne _ _ (by omega)]; exact c_ar
  have c_this : w33 383 = .inr (9, [.int 0, .int 0, .ref (s0.heap.size + 384), .int 0, .int 0, .int (-1), .int 0, .int 0, .ref (s0.heap.size + 385), .int 0, .ref (s0.heap.size + 386), .ref (s0.heap.size + 387), .ref (s0.heap.size + 388), .ref (s0.heap.size + 389), .ref (s0.heap.size + 390), .ref (s0.heap.size + 391), .ref (s0.heap.size + 392), .ref (s0.heap.size + 393), .ref (s0.heap.size + 394), .ref (s0.heap.size + 395), .ref (s0.heap.size + 396), .ref (s0.heap.size + 397), .int 0, .ref (s0.heap.size + 398), .int 0, .int 0, .int 0, .ref (s0.heap.size + 399), .int 0, .int 0, .null, .int 0, .int 0, .int 0]) := by rw [← hwe, va_up_self]
  clear hwe
  have hN : ∀ q, 384 ≤ q → q < 400 → w33 q = wI s0.heap.size aC q := fun q h1 h2  => by
    by_cases hq : q = 399
    · rw [hq, c_ar]; exact rfl
    · exact hN q h1 h2 hq
  refine lv_aload_n hx hb d_Mo_init_147 rfl (lv_at hl 0 rfl) ?_
  refine lv_sipush (v := 2200) hx hb d_Mo_init_148 (by decide) ?_
  refine gw_sz hw (by omega) hs0 (by omega) (fun hz => ?_)
  refine gw_newa (ty := .int) (cA := aC 1) (a0 := (2200, .inl (fun _ => 0))) (N' := 2200) hx hb hK hw hz rfl (ky_int T) 1 rfl (fun h => h) rfl (by decide) (by decide) (by decide) (by first | omega | (simp only [gRm]; omega) | decide) (by first | omega | (simp only [gRm]; omega) | decide) d_Mo_init_151 (fun H hw _ => ?_)
  have hw : gw D gC s0.heap 401 (va_up w33 400 (.inl (aC 1, 2200, .inl (fun _ => 0)))) _ _ := hw
  generalize hwe : va_up w33 400 (.inl (aC 1, 2200, .inl (fun _ => 0))) = w34 at hw
  have hO : ∀ q, q < 384 → q ≠ 383 → w34 q = w q := fun q h1 h2 => (congrFun hwe q).symm.trans ((va_up_ne _ _ (by omega)).trans (hO q h1 h2))
  have hN : ∀ q, 384 ≤ q → q < 401 → q ≠ 400 → w34 q = wI s0.heap.size aC q := fun q h1 h2 h_ar => (congrFun hwe q).symm.trans ((va_up_ne _ _ (by omega)).trans (hN q h1 (by omega) ))
  have c_this : w34 383 = .inr (9, [.int 0, .int 0, .ref (s0.heap.size + 384), .int 0, .int 0, .int (-1), .int 0, .int 0, .ref (s0.heap.size + 385), .int 0, .ref (s0.heap.size + 386), .ref (s0.heap.size + 387), .ref (s0.heap.size + 388), .ref (s0.heap.size + 389), .ref (s0.heap.size + 390), .ref (s0.heap.size + 391), .ref (s0.heap.size + 392), .ref (s0.heap.size + 393), .ref (s0.heap.size + 394), .ref (s0.heap.size + 395), .ref (s0.heap.size + 396), .ref (s0.heap.size + 397), .int 0, .ref (s0.heap.size + 398), .int 0, .int 0, .int 0, .ref (s0.heap.size + 399), .int 0, .int 0, .null, .int 0, .int 0, .int 0]) := by rw [← hwe, va_up_ne _ _ (by omega)]; exact c_this
  have c_ar : w34 400 = .inl (aC 1, 2200, .inl (fun _ => 0)) := by rw [← hwe, va_up_self]
  clear hwe
  refine gw_put (v := .ref (s0.heap.size + 400)) (C := R_Mo) (T := F_Mo) (N := 34) (ci := 9) (fs := [.int 0, .int 0, .ref (s0.heap.size + 384), .int 0, .int 0, .int (-1), .int 0, .int 0, .ref (s0.heap.size + 385), .int 0, .ref (s0.heap.size + 386), .ref (s0.heap.size + 387), .ref (s0.heap.size + 388), .ref (s0.heap.size + 389), .ref (s0.heap.size + 390), .ref (s0.heap.size + 391), .ref (s0.heap.size + 392), .ref (s0.heap.size + 393), .ref (s0.heap.size + 394), .ref (s0.heap.size + 395), .ref (s0.heap.size + 396), .ref (s0.heap.size + 397), .int 0, .ref (s0.heap.size + 398), .int 0, .int 0, .int 0, .ref (s0.heap.size + 399), .int 0, .int 0, .null, .int 0, .int 0, .int 0]) hx hb (fw_Mo T) hown hK hw (fun _ h => h) t_Mo t_Mo_ok n_Mo (by omega) c_this rfl 30 (by decide) (kf_Mo_62 T) rfl rfl (rfl) (rfl) (Nat.le_of_ble_eq_true rfl) d_Mo_init_153 (fun H locs hw => ?_)
  have hw : gw D gC s0.heap 401 (va_up w34 383 (.inr (9, [.int 0, .int 0, .ref (s0.heap.size + 384), .int 0, .int 0, .int (-1), .int 0, .int 0, .ref (s0.heap.size + 385), .int 0, .ref (s0.heap.size + 386), .ref (s0.heap.size + 387), .ref (s0.heap.size + 388), .ref (s0.heap.size + 389), .ref (s0.heap.size + 390), .ref (s0.heap.size + 391), .ref (s0.heap.size + 392), .ref (s0.heap.size + 393), .ref (s0.heap.size + 394), .ref (s0.heap.size + 395), .ref (s0.heap.size + 396), .ref (s0.heap.size + 397), .int 0, .ref (s0.heap.size + 398), .int 0, .int 0, .int 0, .ref (s0.heap.size + 399), .int 0, .int 0, .ref (s0.heap.size + 400), .int 0, .int 0, .int 0]))) _ _ := hw
  generalize hwe : va_up w34 383 (.inr (9, [.int 0, .int 0, .ref (s0.heap.size + 384), .int 0, .int 0, .int (-1), .int 0, .int 0, .ref (s0.heap.size + 385), .int 0, .ref (s0.heap.size + 386), .ref (s0.heap.size + 387), .ref (s0.heap.size + 388), .ref (s0.heap.size + 389), .ref (s0.heap.size + 390), .ref (s0.heap.size + 391), .ref (s0.heap.size + 392), .ref (s0.heap.size + 393), .ref (s0.heap.size + 394), .ref (s0.heap.size + 395), .ref (s0.heap.size + 396), .ref (s0.heap.size + 397), .int 0, .ref (s0.heap.size + 398), .int 0, .int 0, .int 0, .ref (s0.heap.size + 399), .int 0, .int 0, .ref (s0.heap.size + 400), .int 0, .int 0, .int 0])) = w35 at hw
  have hO : ∀ q, q < 384 → q ≠ 383 → w35 q = w q := fun q h1 h2 => (congrFun hwe q).symm.trans ((va_up_ne _ _ (by omega)).trans (hO q h1 h2))
  have hN : ∀ q, 384 ≤ q → q < 401 → q ≠ 400 → w35 q = wI s0.heap.size aC q := fun q h1 h2 h_ar => (congrFun hwe q).symm.trans ((va_up_ne _ _ (by omega)).trans (hN q h1 (by omega) (by omega)))
  have c_ar : w35 400 = .inl (aC 1, 2200, .inl (fun _ => 0)) := by rw [← hwe, va_up_ne _ _ (by omega)]; exact c_ar
  have c_this : w35 383 = .inr (9, [.int 0, .int 0, .ref (s0.heap.size + 384), .int 0, .int 0, .int (-1), .int 0, .int 0, .ref (s0.heap.size + 385), .int 0, .ref (s0.heap.size + 386), .ref (s0.heap.size + 387), .ref (s0.heap.size + 388), .ref (s0.heap.size + 389), .ref (s0.heap.size + 390), .ref (s0.heap.size + 391), .ref (s0.heap.size + 392), .ref (s0.heap.size + 393), .ref (s0.heap.size + 394), .ref (s0.heap.size + 395), .ref (s0.heap.size + 396), .ref (s0.heap.size + 397), .int 0, .ref (s0.heap.size + 398), .int 0, .int 0, .int 0, .ref (s0.heap.size + 399), .int 0, .int 0, .ref (s0.heap.size + 400), .int 0, .int 0, .int 0]) := by rw [← hwe, va_up_self]
  clear hwe
  have hN : ∀ q, 384 ≤ q → q < 401 → w35 q = wI s0.heap.size aC q := fun q h1 h2  => by
    by_cases hq : q = 400
    · rw [hq, c_ar]; exact rfl
    · exact hN q h1 h2 hq
  exact gk_ret B hw (by decide) (by decide) d_Mo_init_156 ⟨hO, by rw [c_this]; rfl, hN⟩
