/-! the reference: its small methods, its calls where it has no tree, reading nothing -/
def hMo (M : gMem) (x : Int32) : Int32 := if M 101 0 ≤ x then 0 else M 102 x.toNatClampNeg
/-- the reference when a reading begins -/
def mMb (M : gMem) : gMem := mS (mS (mS (mS (mS (mS (mS (mS M 103 0 0) 104 0 0) 105 0 (-1)) 107 0 0) 109 0 0) 122 0 0) 124 0 (-1)) 125 0 0
/-- the reference when it has read nothing -/
def mM0 (M : gMem) : gMem := mS (mS (mS (mS (mMb M) 104 0 1) 105 0 0) 106 0 0) 100 0 1
theorem d_Mo_thrown_0 : decode b_Mo_thrown 0 = .ok (.aload_n 0, 1) := by decide +kernel
theorem d_Mo_thrown_1 : decode b_Mo_thrown 1 = .ok (.getfield 65, 3) := by decide +kernel
theorem d_Mo_thrown_4 : decode b_Mo_thrown 4 = .ok (.ireturn, 1) := by decide +kernel
theorem d_Mo_isCharacter_0 : decode b_Mo_isCharacter 0 = .ok (.iload_n 1, 1) := by decide +kernel
theorem d_Mo_isCharacter_1 : decode b_Mo_isCharacter 1 = .ok (.bipush 10, 2) := by decide +kernel
theorem d_Mo_isCharacter_3 : decode b_Mo_isCharacter 3 = .ok (.if_icmp .eq 15, 3) := by decide +kernel
theorem d_Mo_isCharacter_6 : decode b_Mo_isCharacter 6 = .ok (.iload_n 1, 1) := by decide +kernel
theorem d_Mo_isCharacter_7 : decode b_Mo_isCharacter 7 = .ok (.bipush 32, 2) := by decide +kernel
theorem d_Mo_isCharacter_9 : decode b_Mo_isCharacter 9 = .ok (.if_icmp .lt 13, 3) := by decide +kernel
theorem d_Mo_isCharacter_12 : decode b_Mo_isCharacter 12 = .ok (.iload_n 1, 1) := by decide +kernel
theorem d_Mo_isCharacter_13 : decode b_Mo_isCharacter 13 = .ok (.bipush 126, 2) := by decide +kernel
theorem d_Mo_isCharacter_15 : decode b_Mo_isCharacter 15 = .ok (.if_icmp .gt 7, 3) := by decide +kernel
theorem d_Mo_isCharacter_18 : decode b_Mo_isCharacter 18 = .ok (.iconst 1, 1) := by decide +kernel
theorem d_Mo_isCharacter_19 : decode b_Mo_isCharacter 19 = .ok (.goto 4, 3) := by decide +kernel
theorem d_Mo_isCharacter_22 : decode b_Mo_isCharacter 22 = .ok (.iconst 0, 1) := by decide +kernel
theorem d_Mo_isCharacter_23 : decode b_Mo_isCharacter 23 = .ok (.ireturn, 1) := by decide +kernel
theorem d_Mo_blank_0 : decode b_Mo_blank 0 = .ok (.iload_n 1, 1) := by decide +kernel
theorem d_Mo_blank_1 : decode b_Mo_blank 1 = .ok (.bipush 32, 2) := by decide +kernel
theorem d_Mo_blank_3 : decode b_Mo_blank 3 = .ok (.if_icmp .eq 9, 3) := by decide +kernel
theorem d_Mo_blank_6 : decode b_Mo_blank 6 = .ok (.iload_n 1, 1) := by decide +kernel
theorem d_Mo_blank_7 : decode b_Mo_blank 7 = .ok (.bipush 10, 2) := by decide +kernel
theorem d_Mo_blank_9 : decode b_Mo_blank 9 = .ok (.if_icmp .ne 7, 3) := by decide +kernel
theorem d_Mo_blank_12 : decode b_Mo_blank 12 = .ok (.iconst 1, 1) := by decide +kernel
theorem d_Mo_blank_13 : decode b_Mo_blank 13 = .ok (.goto 4, 3) := by decide +kernel
theorem d_Mo_blank_16 : decode b_Mo_blank 16 = .ok (.iconst 0, 1) := by decide +kernel
theorem d_Mo_blank_17 : decode b_Mo_blank 17 = .ok (.ireturn, 1) := by decide +kernel
theorem d_Mo_here_0 : decode b_Mo_here 0 = .ok (.iload_n 1, 1) := by decide +kernel
theorem d_Mo_here_1 : decode b_Mo_here 1 = .ok (.aload_n 0, 1) := by decide +kernel
theorem d_Mo_here_2 : decode b_Mo_here 2 = .ok (.getfield 72, 3) := by decide +kernel
theorem d_Mo_here_5 : decode b_Mo_here 5 = .ok (.if_icmp .ge 12, 3) := by decide +kernel
theorem d_Mo_here_8 : decode b_Mo_here 8 = .ok (.aload_n 0, 1) := by decide +kernel
theorem d_Mo_here_9 : decode b_Mo_here 9 = .ok (.getfield 7, 3) := by decide +kernel
theorem d_Mo_here_12 : decode b_Mo_here 12 = .ok (.iload_n 1, 1) := by decide +kernel
theorem d_Mo_here_13 : decode b_Mo_here 13 = .ok (.iaload, 1) := by decide +kernel
theorem d_Mo_here_14 : decode b_Mo_here 14 = .ok (.goto 4, 3) := by decide +kernel
theorem d_Mo_here_17 : decode b_Mo_here 17 = .ok (.iconst 0, 1) := by decide +kernel
theorem d_Mo_here_18 : decode b_Mo_here 18 = .ok (.ireturn, 1) := by decide +kernel
theorem d_Mo_fail_0 : decode b_Mo_fail 0 = .ok (.aload_n 0, 1) := by decide +kernel
theorem d_Mo_fail_1 : decode b_Mo_fail 1 = .ok (.iload_n 1, 1) := by decide +kernel
theorem d_Mo_fail_2 : decode b_Mo_fail 2 = .ok (.putfield 78, 3) := by decide +kernel
theorem d_Mo_fail_5 : decode b_Mo_fail 5 = .ok (.aload_n 0, 1) := by decide +kernel
theorem d_Mo_fail_6 : decode b_Mo_fail 6 = .ok (.iload_n 2, 1) := by decide +kernel
theorem d_Mo_fail_7 : decode b_Mo_fail 7 = .ok (.putfield 13, 3) := by decide +kernel
theorem d_Mo_fail_10 : decode b_Mo_fail 10 = .ok (.iconst 0, 1) := by decide +kernel
theorem d_Mo_fail_11 : decode b_Mo_fail 11 = .ok (.ireturn, 1) := by decide +kernel
theorem d_Mo_type_0 : decode b_Mo_type 0 = .ok (.aload_n 0, 1) := by decide +kernel
theorem d_Mo_type_1 : decode b_Mo_type 1 = .ok (.aload_n 0, 1) := by decide +kernel
theorem d_Mo_type_2 : decode b_Mo_type 2 = .ok (.iload_n 1, 1) := by decide +kernel
theorem d_Mo_type_3 : decode b_Mo_type 3 = .ok (.invokevirtual 75, 3) := by decide +kernel
theorem d_Mo_type_6 : decode b_Mo_type 6 = .ok (.ifCond .ne 7, 3) := by decide +kernel
theorem d_Mo_type_9 : decode b_Mo_type 9 = .ok (.iconst 1, 1) := by decide +kernel
theorem d_Mo_type_10 : decode b_Mo_type 10 = .ok (.goto 18, 3) := by decide +kernel
theorem d_Mo_type_13 : decode b_Mo_type 13 = .ok (.aload_n 0, 1) := by decide +kernel
theorem d_Mo_type_14 : decode b_Mo_type 14 = .ok (.getfield 72, 3) := by decide +kernel
theorem d_Mo_type_17 : decode b_Mo_type 17 = .ok (.sipush 240, 3) := by decide +kernel
theorem d_Mo_type_20 : decode b_Mo_type 20 = .ok (.if_icmp .ne 7, 3) := by decide +kernel
theorem d_Mo_type_23 : decode b_Mo_type 23 = .ok (.iconst 2, 1) := by decide +kernel
theorem d_Mo_type_24 : decode b_Mo_type 24 = .ok (.goto 4, 3) := by decide +kernel
theorem d_Mo_type_27 : decode b_Mo_type 27 = .ok (.iconst 0, 1) := by decide +kernel
theorem d_Mo_type_28 : decode b_Mo_type 28 = .ok (.putfield 65, 3) := by decide +kernel
theorem d_Mo_type_31 : decode b_Mo_type 31 = .ok (.aload_n 0, 1) := by decide +kernel
theorem d_Mo_type_32 : decode b_Mo_type 32 = .ok (.getfield 65, 3) := by decide +kernel
theorem d_Mo_type_35 : decode b_Mo_type 35 = .ok (.ifCond .eq 5, 3) := by decide +kernel
theorem d_Mo_type_38 : decode b_Mo_type 38 = .ok (.iconst 0, 1) := by decide +kernel
theorem d_Mo_type_39 : decode b_Mo_type 39 = .ok (.ireturn, 1) := by decide +kernel
theorem d_Mo_type_40 : decode b_Mo_type 40 = .ok (.aload_n 0, 1) := by decide +kernel
theorem d_Mo_type_41 : decode b_Mo_type 41 = .ok (.getfield 7, 3) := by decide +kernel
theorem d_Mo_type_44 : decode b_Mo_type 44 = .ok (.aload_n 0, 1) := by decide +kernel
theorem d_Mo_type_45 : decode b_Mo_type 45 = .ok (.getfield 72, 3) := by decide +kernel
theorem d_Mo_type_48 : decode b_Mo_type 48 = .ok (.iload_n 1, 1) := by decide +kernel
theorem d_Mo_type_49 : decode b_Mo_type 49 = .ok (.iastore, 1) := by decide +kernel
theorem d_Mo_type_50 : decode b_Mo_type 50 = .ok (.aload_n 0, 1) := by decide +kernel
theorem d_Mo_type_51 : decode b_Mo_type 51 = .ok (.dup, 1) := by decide +kernel
theorem d_Mo_type_52 : decode b_Mo_type 52 = .ok (.getfield 72, 3) := by decide +kernel
theorem d_Mo_type_55 : decode b_Mo_type 55 = .ok (.iconst 1, 1) := by decide +kernel
theorem d_Mo_type_56 : decode b_Mo_type 56 = .ok (.iadd, 1) := by decide +kernel
theorem d_Mo_type_57 : decode b_Mo_type 57 = .ok (.putfield 72, 3) := by decide +kernel
theorem d_Mo_type_60 : decode b_Mo_type 60 = .ok (.aload_n 0, 1) := by decide +kernel
theorem d_Mo_type_61 : decode b_Mo_type 61 = .ok (.getfield 72, 3) := by decide +kernel
theorem d_Mo_type_64 : decode b_Mo_type 64 = .ok (.ireturn, 1) := by decide +kernel
theorem d_Mo_wipe_0 : decode b_Mo_wipe 0 = .ok (.aload_n 0, 1) := by decide +kernel
theorem d_Mo_wipe_1 : decode b_Mo_wipe 1 = .ok (.iconst 0, 1) := by decide +kernel
theorem d_Mo_wipe_2 : decode b_Mo_wipe 2 = .ok (.putfield 65, 3) := by decide +kernel
theorem d_Mo_wipe_5 : decode b_Mo_wipe 5 = .ok (.aload_n 0, 1) := by decide +kernel
theorem d_Mo_wipe_6 : decode b_Mo_wipe 6 = .ok (.iconst 0, 1) := by decide +kernel
theorem d_Mo_wipe_7 : decode b_Mo_wipe 7 = .ok (.putfield 72, 3) := by decide +kernel
theorem d_Mo_wipe_10 : decode b_Mo_wipe 10 = .ok (.return_, 1) := by decide +kernel
theorem d_Mo_reason_0 : decode b_Mo_reason 0 = .ok (.aload_n 0, 1) := by decide +kernel
theorem d_Mo_reason_1 : decode b_Mo_reason 1 = .ok (.iconst 0, 1) := by decide +kernel
theorem d_Mo_reason_2 : decode b_Mo_reason 2 = .ok (.putfield 65, 3) := by decide +kernel
theorem d_Mo_reason_5 : decode b_Mo_reason 5 = .ok (.aload_n 0, 1) := by decide +kernel
theorem d_Mo_reason_6 : decode b_Mo_reason 6 = .ok (.getfield 78, 3) := by decide +kernel
theorem d_Mo_reason_9 : decode b_Mo_reason 9 = .ok (.ireturn, 1) := by decide +kernel
theorem d_Mo_place_0 : decode b_Mo_place 0 = .ok (.aload_n 0, 1) := by decide +kernel
theorem d_Mo_place_1 : decode b_Mo_place 1 = .ok (.iconst 0, 1) := by decide +kernel
theorem d_Mo_place_2 : decode b_Mo_place 2 = .ok (.putfield 65, 3) := by decide +kernel
theorem d_Mo_place_5 : decode b_Mo_place 5 = .ok (.aload_n 0, 1) := by decide +kernel
theorem d_Mo_place_6 : decode b_Mo_place 6 = .ok (.getfield 13, 3) := by decide +kernel
theorem d_Mo_place_9 : decode b_Mo_place 9 = .ok (.ireturn, 1) := by decide +kernel
theorem d_Mo_noElement_0 : decode b_Mo_noElement 0 = .ok (.aload_n 0, 1) := by decide +kernel
theorem d_Mo_noElement_1 : decode b_Mo_noElement 1 = .ok (.getfield 189, 3) := by decide +kernel
theorem d_Mo_noElement_4 : decode b_Mo_noElement 4 = .ok (.ifCond .eq 15, 3) := by decide +kernel
theorem d_Mo_noElement_7 : decode b_Mo_noElement 7 = .ok (.iload_n 1, 1) := by decide +kernel
theorem d_Mo_noElement_8 : decode b_Mo_noElement 8 = .ok (.ifCond .lt 11, 3) := by decide +kernel
theorem d_Mo_noElement_11 : decode b_Mo_noElement 11 = .ok (.iload_n 1, 1) := by decide +kernel
theorem d_Mo_noElement_12 : decode b_Mo_noElement 12 = .ok (.aload_n 0, 1) := by decide +kernel
theorem d_Mo_noElement_13 : decode b_Mo_noElement 13 = .ok (.getfield 147, 3) := by decide +kernel
theorem d_Mo_noElement_16 : decode b_Mo_noElement 16 = .ok (.if_icmp .lt 7, 3) := by decide +kernel
theorem d_Mo_noElement_19 : decode b_Mo_noElement 19 = .ok (.iconst 1, 1) := by decide +kernel
theorem d_Mo_noElement_20 : decode b_Mo_noElement 20 = .ok (.goto 4, 3) := by decide +kernel
theorem d_Mo_noElement_23 : decode b_Mo_noElement 23 = .ok (.iconst 0, 1) := by decide +kernel
theorem d_Mo_noElement_24 : decode b_Mo_noElement 24 = .ok (.ireturn, 1) := by decide +kernel
theorem d_Mo_element_0 : decode b_Mo_element 0 = .ok (.aload_n 0, 1) := by decide +kernel
theorem d_Mo_element_1 : decode b_Mo_element 1 = .ok (.aload_n 0, 1) := by decide +kernel
theorem d_Mo_element_2 : decode b_Mo_element 2 = .ok (.iload_n 1, 1) := by decide +kernel
theorem d_Mo_element_3 : decode b_Mo_element 3 = .ok (.invokevirtual 254, 3) := by decide +kernel
theorem d_Mo_element_6 : decode b_Mo_element 6 = .ok (.ifCond .eq 7, 3) := by decide +kernel
theorem d_Mo_element_9 : decode b_Mo_element 9 = .ok (.iconst 1, 1) := by decide +kernel
theorem d_Mo_element_10 : decode b_Mo_element 10 = .ok (.goto 17, 3) := by decide +kernel
theorem d_Mo_element_13 : decode b_Mo_element 13 = .ok (.iload_n 2, 1) := by decide +kernel
theorem d_Mo_element_14 : decode b_Mo_element 14 = .ok (.ifCond .lt 8, 3) := by decide +kernel
theorem d_Mo_element_17 : decode b_Mo_element 17 = .ok (.iload_n 2, 1) := by decide +kernel
theorem d_Mo_element_18 : decode b_Mo_element 18 = .ok (.iconst 4, 1) := by decide +kernel
theorem d_Mo_element_19 : decode b_Mo_element 19 = .ok (.if_icmp .le 7, 3) := by decide +kernel
theorem d_Mo_element_22 : decode b_Mo_element 22 = .ok (.iconst 2, 1) := by decide +kernel
theorem d_Mo_element_23 : decode b_Mo_element 23 = .ok (.goto 4, 3) := by decide +kernel
theorem d_Mo_element_26 : decode b_Mo_element 26 = .ok (.iconst 0, 1) := by decide +kernel
theorem d_Mo_element_27 : decode b_Mo_element 27 = .ok (.putfield 65, 3) := by decide +kernel
theorem d_Mo_element_30 : decode b_Mo_element 30 = .ok (.aload_n 0, 1) := by decide +kernel
theorem d_Mo_element_31 : decode b_Mo_element 31 = .ok (.getfield 65, 3) := by decide +kernel
theorem d_Mo_element_34 : decode b_Mo_element 34 = .ok (.ifCond .eq 5, 3) := by decide +kernel
theorem d_Mo_element_37 : decode b_Mo_element 37 = .ok (.iconst 0, 1) := by decide +kernel
theorem d_Mo_element_38 : decode b_Mo_element 38 = .ok (.ireturn, 1) := by decide +kernel
theorem d_Mo_element_39 : decode b_Mo_element 39 = .ok (.iconst 0, 1) := by decide +kernel
theorem d_Mo_element_40 : decode b_Mo_element 40 = .ok (.istore_n 3, 1) := by decide +kernel
theorem d_Mo_element_41 : decode b_Mo_element 41 = .ok (.iconst 0, 1) := by decide +kernel
theorem d_Mo_element_42 : decode b_Mo_element 42 = .ok (.istore 4, 2) := by decide +kernel
theorem d_Mo_element_44 : decode b_Mo_element 44 = .ok (.iload 4, 2) := by decide +kernel
theorem d_Mo_element_46 : decode b_Mo_element 46 = .ok (.aload_n 0, 1) := by decide +kernel
theorem d_Mo_element_47 : decode b_Mo_element 47 = .ok (.getfield 147, 3) := by decide +kernel
theorem d_Mo_element_50 : decode b_Mo_element 50 = .ok (.if_icmp .ge 33, 3) := by decide +kernel
theorem d_Mo_element_53 : decode b_Mo_element 53 = .ok (.iload_n 2, 1) := by decide +kernel
theorem d_Mo_element_54 : decode b_Mo_element 54 = .ok (.iconst 1, 1) := by decide +kernel
theorem d_Mo_element_55 : decode b_Mo_element 55 = .ok (.if_icmp .ne 28, 3) := by decide +kernel
theorem d_Mo_element_58 : decode b_Mo_element 58 = .ok (.iload_n 3, 1) := by decide +kernel
theorem d_Mo_element_59 : decode b_Mo_element 59 = .ok (.aload_n 0, 1) := by decide +kernel
theorem d_Mo_element_60 : decode b_Mo_element 60 = .ok (.getfield 20, 3) := by decide +kernel
theorem d_Mo_element_63 : decode b_Mo_element 63 = .ok (.iload 4, 2) := by decide +kernel
theorem d_Mo_element_65 : decode b_Mo_element 65 = .ok (.iaload, 1) := by decide +kernel
theorem d_Mo_element_66 : decode b_Mo_element 66 = .ok (.iload_n 1, 1) := by decide +kernel
theorem d_Mo_element_67 : decode b_Mo_element 67 = .ok (.if_icmp .ne 7, 3) := by decide +kernel
theorem d_Mo_element_70 : decode b_Mo_element 70 = .ok (.iconst 1, 1) := by decide +kernel
theorem d_Mo_element_71 : decode b_Mo_element 71 = .ok (.goto 4, 3) := by decide +kernel
theorem d_Mo_element_74 : decode b_Mo_element 74 = .ok (.iconst 0, 1) := by decide +kernel
theorem d_Mo_element_75 : decode b_Mo_element 75 = .ok (.iadd, 1) := by decide +kernel
theorem d_Mo_element_76 : decode b_Mo_element 76 = .ok (.istore_n 3, 1) := by decide +kernel
theorem d_Mo_element_77 : decode b_Mo_element 77 = .ok (.iinc 4 1, 3) := by decide +kernel
theorem d_Mo_element_80 : decode b_Mo_element 80 = .ok (.goto (-36), 3) := by decide +kernel
theorem d_Mo_element_83 : decode b_Mo_element 83 = .ok (.bipush 6, 2) := by decide +kernel
theorem d_Mo_element_85 : decode b_Mo_element 85 = .ok (.iload_n 1, 1) := by decide +kernel
theorem d_Mo_element_86 : decode b_Mo_element 86 = .ok (.imul, 1) := by decide +kernel
theorem d_Mo_element_87 : decode b_Mo_element 87 = .ok (.istore 4, 2) := by decide +kernel
theorem d_Mo_element_89 : decode b_Mo_element 89 = .ok (.iload 4, 2) := by decide +kernel
theorem d_Mo_element_91 : decode b_Mo_element 91 = .ok (.bipush 6, 2) := by decide +kernel
theorem d_Mo_element_93 : decode b_Mo_element 93 = .ok (.iload_n 1, 1) := by decide +kernel
theorem d_Mo_element_94 : decode b_Mo_element 94 = .ok (.imul, 1) := by decide +kernel
theorem d_Mo_element_95 : decode b_Mo_element 95 = .ok (.aload_n 0, 1) := by decide +kernel
theorem d_Mo_element_96 : decode b_Mo_element 96 = .ok (.getfield 35, 3) := by decide +kernel
theorem d_Mo_element_99 : decode b_Mo_element 99 = .ok (.iload_n 1, 1) := by decide +kernel
theorem d_Mo_element_100 : decode b_Mo_element 100 = .ok (.iaload, 1) := by decide +kernel
theorem d_Mo_element_101 : decode b_Mo_element 101 = .ok (.iadd, 1) := by decide +kernel
theorem d_Mo_element_102 : decode b_Mo_element 102 = .ok (.if_icmp .ge 31, 3) := by decide +kernel
theorem d_Mo_element_105 : decode b_Mo_element 105 = .ok (.iload_n 2, 1) := by decide +kernel
theorem d_Mo_element_106 : decode b_Mo_element 106 = .ok (.iconst 2, 1) := by decide +kernel
theorem d_Mo_element_107 : decode b_Mo_element 107 = .ok (.if_icmp .ne 26, 3) := by decide +kernel
theorem d_Mo_element_110 : decode b_Mo_element 110 = .ok (.iload_n 3, 1) := by decide +kernel
theorem d_Mo_element_111 : decode b_Mo_element 111 = .ok (.aload_n 0, 1) := by decide +kernel
theorem d_Mo_element_112 : decode b_Mo_element 112 = .ok (.iload 4, 2) := by decide +kernel
theorem d_Mo_element_114 : decode b_Mo_element 114 = .ok (.invokevirtual 205, 3) := by decide +kernel
theorem d_Mo_element_117 : decode b_Mo_element 117 = .ok (.ifCond .eq 7, 3) := by decide +kernel
theorem d_Mo_element_120 : decode b_Mo_element 120 = .ok (.iconst 0, 1) := by decide +kernel
theorem d_Mo_element_121 : decode b_Mo_element 121 = .ok (.goto 4, 3) := by decide +kernel
theorem d_Mo_element_124 : decode b_Mo_element 124 = .ok (.iconst 1, 1) := by decide +kernel
theorem d_Mo_element_125 : decode b_Mo_element 125 = .ok (.iadd, 1) := by decide +kernel
theorem d_Mo_element_126 : decode b_Mo_element 126 = .ok (.istore_n 3, 1) := by decide +kernel
theorem d_Mo_element_127 : decode b_Mo_element 127 = .ok (.iinc 4 1, 3) := by decide +kernel
theorem d_Mo_element_130 : decode b_Mo_element 130 = .ok (.goto (-41), 3) := by decide +kernel
theorem d_Mo_element_133 : decode b_Mo_element 133 = .ok (.aload_n 0, 1) := by decide +kernel
theorem d_Mo_element_134 : decode b_Mo_element 134 = .ok (.iload_n 1, 1) := by decide +kernel
theorem d_Mo_element_135 : decode b_Mo_element 135 = .ok (.invokevirtual 257, 3) := by decide +kernel
theorem d_Mo_element_138 : decode b_Mo_element 138 = .ok (.istore 4, 2) := by decide +kernel
theorem d_Mo_element_140 : decode b_Mo_element 140 = .ok (.iload_n 2, 1) := by decide +kernel
theorem d_Mo_element_141 : decode b_Mo_element 141 = .ok (.ifCond .ne 12, 3) := by decide +kernel
theorem d_Mo_element_144 : decode b_Mo_element 144 = .ok (.aload_n 0, 1) := by decide +kernel
theorem d_Mo_element_145 : decode b_Mo_element 145 = .ok (.getfield 20, 3) := by decide +kernel
theorem d_Mo_element_148 : decode b_Mo_element 148 = .ok (.iload_n 1, 1) := by decide +kernel
theorem d_Mo_element_149 : decode b_Mo_element 149 = .ok (.iaload, 1) := by decide +kernel
theorem d_Mo_element_150 : decode b_Mo_element 150 = .ok (.goto 42, 3) := by decide +kernel
theorem d_Mo_element_153 : decode b_Mo_element 153 = .ok (.iload_n 2, 1) := by decide +kernel
theorem d_Mo_element_154 : decode b_Mo_element 154 = .ok (.iconst 3, 1) := by decide +kernel
theorem d_Mo_element_155 : decode b_Mo_element 155 = .ok (.if_icmp .ge 7, 3) := by decide +kernel
theorem d_Mo_element_158 : decode b_Mo_element 158 = .ok (.iload_n 3, 1) := by decide +kernel
theorem d_Mo_element_159 : decode b_Mo_element 159 = .ok (.goto 33, 3) := by decide +kernel
theorem d_Mo_element_162 : decode b_Mo_element 162 = .ok (.iload_n 2, 1) := by decide +kernel
theorem d_Mo_element_163 : decode b_Mo_element 163 = .ok (.iconst 3, 1) := by decide +kernel
theorem d_Mo_element_164 : decode b_Mo_element 164 = .ok (.if_icmp .ne 12, 3) := by decide +kernel
theorem d_Mo_element_167 : decode b_Mo_element 167 = .ok (.aload_n 0, 1) := by decide +kernel
theorem d_Mo_element_168 : decode b_Mo_element 168 = .ok (.iload_n 1, 1) := by decide +kernel
theorem d_Mo_element_169 : decode b_Mo_element 169 = .ok (.iconst (-1), 1) := by decide +kernel
theorem d_Mo_element_170 : decode b_Mo_element 170 = .ok (.invokevirtual 260, 3) := by decide +kernel
theorem d_Mo_element_173 : decode b_Mo_element 173 = .ok (.goto 19, 3) := by decide +kernel
theorem d_Mo_element_176 : decode b_Mo_element 176 = .ok (.iload 4, 2) := by decide +kernel
theorem d_Mo_element_178 : decode b_Mo_element 178 = .ok (.ifCond .ge 7, 3) := by decide +kernel
theorem d_Mo_element_181 : decode b_Mo_element 181 = .ok (.iconst (-1), 1) := by decide +kernel
theorem d_Mo_element_182 : decode b_Mo_element 182 = .ok (.goto 10, 3) := by decide +kernel
theorem d_Mo_element_185 : decode b_Mo_element 185 = .ok (.aload_n 0, 1) := by decide +kernel
theorem d_Mo_element_186 : decode b_Mo_element 186 = .ok (.getfield 53, 3) := by decide +kernel
theorem d_Mo_element_189 : decode b_Mo_element 189 = .ok (.iload 4, 2) := by decide +kernel
theorem d_Mo_element_191 : decode b_Mo_element 191 = .ok (.iaload, 1) := by decide +kernel
theorem d_Mo_element_192 : decode b_Mo_element 192 = .ok (.ireturn, 1) := by decide +kernel
theorem d_Mo_name_0 : decode b_Mo_name 0 = .ok (.aload_n 0, 1) := by decide +kernel
theorem d_Mo_name_1 : decode b_Mo_name 1 = .ok (.aload_n 0, 1) := by decide +kernel
theorem d_Mo_name_2 : decode b_Mo_name 2 = .ok (.iload_n 1, 1) := by decide +kernel
theorem d_Mo_name_3 : decode b_Mo_name 3 = .ok (.invokevirtual 254, 3) := by decide +kernel
theorem d_Mo_name_6 : decode b_Mo_name 6 = .ok (.ifCond .eq 7, 3) := by decide +kernel
theorem d_Mo_name_9 : decode b_Mo_name 9 = .ok (.iconst 1, 1) := by decide +kernel
theorem d_Mo_name_10 : decode b_Mo_name 10 = .ok (.goto 22, 3) := by decide +kernel
theorem d_Mo_name_13 : decode b_Mo_name 13 = .ok (.iload_n 2, 1) := by decide +kernel
theorem d_Mo_name_14 : decode b_Mo_name 14 = .ok (.ifCond .lt 13, 3) := by decide +kernel
theorem d_Mo_name_17 : decode b_Mo_name 17 = .ok (.iload_n 2, 1) := by decide +kernel
theorem d_Mo_name_18 : decode b_Mo_name 18 = .ok (.aload_n 0, 1) := by decide +kernel
theorem d_Mo_name_19 : decode b_Mo_name 19 = .ok (.getfield 26, 3) := by decide +kernel
theorem d_Mo_name_22 : decode b_Mo_name 22 = .ok (.iload_n 1, 1) := by decide +kernel
theorem d_Mo_name_23 : decode b_Mo_name 23 = .ok (.iaload, 1) := by decide +kernel
theorem d_Mo_name_24 : decode b_Mo_name 24 = .ok (.if_icmp .lt 7, 3) := by decide +kernel
theorem d_Mo_name_27 : decode b_Mo_name 27 = .ok (.iconst 1, 1) := by decide +kernel
theorem d_Mo_name_28 : decode b_Mo_name 28 = .ok (.goto 4, 3) := by decide +kernel
theorem d_Mo_name_31 : decode b_Mo_name 31 = .ok (.iconst 0, 1) := by decide +kernel
theorem d_Mo_name_32 : decode b_Mo_name 32 = .ok (.putfield 65, 3) := by decide +kernel
theorem d_Mo_name_35 : decode b_Mo_name 35 = .ok (.aload_n 0, 1) := by decide +kernel
theorem d_Mo_name_36 : decode b_Mo_name 36 = .ok (.getfield 65, 3) := by decide +kernel
theorem d_Mo_name_39 : decode b_Mo_name 39 = .ok (.ifCond .eq 7, 3) := by decide +kernel
theorem d_Mo_name_42 : decode b_Mo_name 42 = .ok (.iconst 0, 1) := by decide +kernel
theorem d_Mo_name_43 : decode b_Mo_name 43 = .ok (.goto 17, 3) := by decide +kernel
theorem d_Mo_name_46 : decode b_Mo_name 46 = .ok (.aload_n 0, 1) := by decide +kernel
theorem d_Mo_name_47 : decode b_Mo_name 47 = .ok (.getfield 17, 3) := by decide +kernel
theorem d_Mo_name_50 : decode b_Mo_name 50 = .ok (.aload_n 0, 1) := by decide +kernel
theorem d_Mo_name_51 : decode b_Mo_name 51 = .ok (.getfield 23, 3) := by decide +kernel
theorem d_Mo_name_54 : decode b_Mo_name 54 = .ok (.iload_n 1, 1) := by decide +kernel
theorem d_Mo_name_55 : decode b_Mo_name 55 = .ok (.iaload, 1) := by decide +kernel
theorem d_Mo_name_56 : decode b_Mo_name 56 = .ok (.iload_n 2, 1) := by decide +kernel
theorem d_Mo_name_57 : decode b_Mo_name 57 = .ok (.iadd, 1) := by decide +kernel
theorem d_Mo_name_58 : decode b_Mo_name 58 = .ok (.iaload, 1) := by decide +kernel
theorem d_Mo_name_59 : decode b_Mo_name 59 = .ok (.i2c, 1) := by decide +kernel
theorem d_Mo_name_60 : decode b_Mo_name 60 = .ok (.ireturn, 1) := by decide +kernel
theorem d_Mo_content_0 : decode b_Mo_content 0 = .ok (.aload_n 0, 1) := by decide +kernel
theorem d_Mo_content_1 : decode b_Mo_content 1 = .ok (.aload_n 0, 1) := by decide +kernel
theorem d_Mo_content_2 : decode b_Mo_content 2 = .ok (.iload_n 1, 1) := by decide +kernel
theorem d_Mo_content_3 : decode b_Mo_content 3 = .ok (.invokevirtual 254, 3) := by decide +kernel
theorem d_Mo_content_6 : decode b_Mo_content 6 = .ok (.ifCond .ne 7, 3) := by decide +kernel
theorem d_Mo_content_9 : decode b_Mo_content 9 = .ok (.iload_n 2, 1) := by decide +kernel
theorem d_Mo_content_10 : decode b_Mo_content 10 = .ok (.ifCond .ge 7, 3) := by decide +kernel
theorem d_Mo_content_13 : decode b_Mo_content 13 = .ok (.iconst 1, 1) := by decide +kernel
theorem d_Mo_content_14 : decode b_Mo_content 14 = .ok (.goto 17, 3) := by decide +kernel
theorem d_Mo_content_17 : decode b_Mo_content 17 = .ok (.aload_n 0, 1) := by decide +kernel
theorem d_Mo_content_18 : decode b_Mo_content 18 = .ok (.iload_n 1, 1) := by decide +kernel
theorem d_Mo_content_19 : decode b_Mo_content 19 = .ok (.iload_n 2, 1) := by decide +kernel
theorem d_Mo_content_20 : decode b_Mo_content 20 = .ok (.invokevirtual 260, 3) := by decide +kernel
theorem d_Mo_content_23 : decode b_Mo_content 23 = .ok (.ifCond .ge 7, 3) := by decide +kernel
theorem d_Mo_content_26 : decode b_Mo_content 26 = .ok (.iconst 1, 1) := by decide +kernel
theorem d_Mo_content_27 : decode b_Mo_content 27 = .ok (.goto 4, 3) := by decide +kernel
theorem d_Mo_content_30 : decode b_Mo_content 30 = .ok (.iconst 0, 1) := by decide +kernel
theorem d_Mo_content_31 : decode b_Mo_content 31 = .ok (.putfield 65, 3) := by decide +kernel
theorem d_Mo_content_34 : decode b_Mo_content 34 = .ok (.aload_n 0, 1) := by decide +kernel
theorem d_Mo_content_35 : decode b_Mo_content 35 = .ok (.getfield 65, 3) := by decide +kernel
theorem d_Mo_content_38 : decode b_Mo_content 38 = .ok (.ifCond .eq 7, 3) := by decide +kernel
theorem d_Mo_content_41 : decode b_Mo_content 41 = .ok (.iconst 0, 1) := by decide +kernel
theorem d_Mo_content_42 : decode b_Mo_content 42 = .ok (.goto 10, 3) := by decide +kernel
theorem d_Mo_content_45 : decode b_Mo_content 45 = .ok (.aload_n 0, 1) := by decide +kernel
theorem d_Mo_content_46 : decode b_Mo_content 46 = .ok (.iload_n 1, 1) := by decide +kernel
theorem d_Mo_content_47 : decode b_Mo_content 47 = .ok (.iload_n 2, 1) := by decide +kernel
theorem d_Mo_content_48 : decode b_Mo_content 48 = .ok (.invokevirtual 260, 3) := by decide +kernel
theorem d_Mo_content_51 : decode b_Mo_content 51 = .ok (.i2c, 1) := by decide +kernel
theorem d_Mo_content_52 : decode b_Mo_content 52 = .ok (.ireturn, 1) := by decide +kernel
theorem d_Mo_space_0 : decode b_Mo_space 0 = .ok (.aload_n 0, 1) := by decide +kernel
theorem d_Mo_space_1 : decode b_Mo_space 1 = .ok (.aload_n 0, 1) := by decide +kernel
theorem d_Mo_space_2 : decode b_Mo_space 2 = .ok (.iload_n 1, 1) := by decide +kernel
theorem d_Mo_space_3 : decode b_Mo_space 3 = .ok (.invokevirtual 254, 3) := by decide +kernel
theorem d_Mo_space_6 : decode b_Mo_space 6 = .ok (.ifCond .eq 7, 3) := by decide +kernel
theorem d_Mo_space_9 : decode b_Mo_space 9 = .ok (.iconst 1, 1) := by decide +kernel
theorem d_Mo_space_10 : decode b_Mo_space 10 = .ok (.goto 4, 3) := by decide +kernel
theorem d_Mo_space_13 : decode b_Mo_space 13 = .ok (.iconst 0, 1) := by decide +kernel
theorem d_Mo_space_14 : decode b_Mo_space 14 = .ok (.putfield 65, 3) := by decide +kernel
theorem d_Mo_space_17 : decode b_Mo_space 17 = .ok (.aload_n 0, 1) := by decide +kernel
theorem d_Mo_space_18 : decode b_Mo_space 18 = .ok (.getfield 65, 3) := by decide +kernel
theorem d_Mo_space_21 : decode b_Mo_space 21 = .ok (.ifCond .eq 5, 3) := by decide +kernel
theorem d_Mo_space_24 : decode b_Mo_space 24 = .ok (.iconst 0, 1) := by decide +kernel
theorem d_Mo_space_25 : decode b_Mo_space 25 = .ok (.ireturn, 1) := by decide +kernel
theorem d_Mo_space_26 : decode b_Mo_space 26 = .ok (.aload_n 0, 1) := by decide +kernel
theorem d_Mo_space_27 : decode b_Mo_space 27 = .ok (.iload_n 1, 1) := by decide +kernel
theorem d_Mo_space_28 : decode b_Mo_space 28 = .ok (.invokevirtual 257, 3) := by decide +kernel
theorem d_Mo_space_31 : decode b_Mo_space 31 = .ok (.istore_n 3, 1) := by decide +kernel
theorem d_Mo_space_32 : decode b_Mo_space 32 = .ok (.aload_n 0, 1) := by decide +kernel
theorem d_Mo_space_33 : decode b_Mo_space 33 = .ok (.iload_n 3, 1) := by decide +kernel
theorem d_Mo_space_34 : decode b_Mo_space 34 = .ok (.ifCond .lt 17, 3) := by decide +kernel
theorem d_Mo_space_37 : decode b_Mo_space 37 = .ok (.iload_n 2, 1) := by decide +kernel
theorem d_Mo_space_38 : decode b_Mo_space 38 = .ok (.ifCond .lt 13, 3) := by decide +kernel
theorem d_Mo_space_41 : decode b_Mo_space 41 = .ok (.iload_n 2, 1) := by decide +kernel
theorem d_Mo_space_42 : decode b_Mo_space 42 = .ok (.aload_n 0, 1) := by decide +kernel
theorem d_Mo_space_43 : decode b_Mo_space 43 = .ok (.getfield 53, 3) := by decide +kernel
theorem d_Mo_space_46 : decode b_Mo_space 46 = .ok (.iload_n 3, 1) := by decide +kernel
theorem d_Mo_space_47 : decode b_Mo_space 47 = .ok (.iaload, 1) := by decide +kernel
theorem d_Mo_space_48 : decode b_Mo_space 48 = .ok (.if_icmp .lt 7, 3) := by decide +kernel
theorem d_Mo_space_51 : decode b_Mo_space 51 = .ok (.iconst 1, 1) := by decide +kernel
theorem d_Mo_space_52 : decode b_Mo_space 52 = .ok (.goto 4, 3) := by decide +kernel
theorem d_Mo_space_55 : decode b_Mo_space 55 = .ok (.iconst 0, 1) := by decide +kernel
theorem d_Mo_space_56 : decode b_Mo_space 56 = .ok (.putfield 65, 3) := by decide +kernel
theorem d_Mo_space_59 : decode b_Mo_space 59 = .ok (.aload_n 0, 1) := by decide +kernel
theorem d_Mo_space_60 : decode b_Mo_space 60 = .ok (.getfield 65, 3) := by decide +kernel
theorem d_Mo_space_63 : decode b_Mo_space 63 = .ok (.ifCond .eq 7, 3) := by decide +kernel
theorem d_Mo_space_66 : decode b_Mo_space 66 = .ok (.iconst 0, 1) := by decide +kernel
theorem d_Mo_space_67 : decode b_Mo_space 67 = .ok (.goto 17, 3) := by decide +kernel
theorem d_Mo_space_70 : decode b_Mo_space 70 = .ok (.aload_n 0, 1) := by decide +kernel
theorem d_Mo_space_71 : decode b_Mo_space 71 = .ok (.getfield 17, 3) := by decide +kernel
theorem d_Mo_space_74 : decode b_Mo_space 74 = .ok (.aload_n 0, 1) := by decide +kernel
theorem d_Mo_space_75 : decode b_Mo_space 75 = .ok (.getfield 50, 3) := by decide +kernel
theorem d_Mo_space_78 : decode b_Mo_space 78 = .ok (.iload_n 3, 1) := by decide +kernel
theorem d_Mo_space_79 : decode b_Mo_space 79 = .ok (.iaload, 1) := by decide +kernel
theorem d_Mo_space_80 : decode b_Mo_space 80 = .ok (.iload_n 2, 1) := by decide +kernel
theorem d_Mo_space_81 : decode b_Mo_space 81 = .ok (.iadd, 1) := by decide +kernel
theorem d_Mo_space_82 : decode b_Mo_space 82 = .ok (.iaload, 1) := by decide +kernel
theorem d_Mo_space_83 : decode b_Mo_space 83 = .ok (.i2c, 1) := by decide +kernel
theorem d_Mo_space_84 : decode b_Mo_space 84 = .ok (.ireturn, 1) := by decide +kernel
theorem d_Mo_form_0 : decode b_Mo_form 0 = .ok (.aload_n 0, 1) := by decide +kernel
theorem d_Mo_form_1 : decode b_Mo_form 1 = .ok (.iconst 0, 1) := by decide +kernel
theorem d_Mo_form_2 : decode b_Mo_form 2 = .ok (.putfield 65, 3) := by decide +kernel
theorem d_Mo_form_5 : decode b_Mo_form 5 = .ok (.aload_n 0, 1) := by decide +kernel
theorem d_Mo_form_6 : decode b_Mo_form 6 = .ok (.getfield 189, 3) := by decide +kernel
theorem d_Mo_form_9 : decode b_Mo_form 9 = .ok (.ifCond .eq 10, 3) := by decide +kernel
theorem d_Mo_form_12 : decode b_Mo_form 12 = .ok (.aload_n 0, 1) := by decide +kernel
theorem d_Mo_form_13 : decode b_Mo_form 13 = .ok (.getfield 221, 3) := by decide +kernel
theorem d_Mo_form_16 : decode b_Mo_form 16 = .ok (.goto 4, 3) := by decide +kernel
theorem d_Mo_form_19 : decode b_Mo_form 19 = .ok (.iconst 0, 1) := by decide +kernel
theorem d_Mo_form_20 : decode b_Mo_form 20 = .ok (.ireturn, 1) := by decide +kernel
theorem d_Mo_formAt_0 : decode b_Mo_formAt 0 = .ok (.aload_n 0, 1) := by decide +kernel
theorem d_Mo_formAt_1 : decode b_Mo_formAt 1 = .ok (.aload_n 0, 1) := by decide +kernel
theorem d_Mo_formAt_2 : decode b_Mo_formAt 2 = .ok (.getfield 189, 3) := by decide +kernel
theorem d_Mo_formAt_5 : decode b_Mo_formAt 5 = .ok (.ifCond .eq 15, 3) := by decide +kernel
theorem d_Mo_formAt_8 : decode b_Mo_formAt 8 = .ok (.iload_n 1, 1) := by decide +kernel
theorem d_Mo_formAt_9 : decode b_Mo_formAt 9 = .ok (.ifCond .lt 11, 3) := by decide +kernel
theorem d_Mo_formAt_12 : decode b_Mo_formAt 12 = .ok (.iload_n 1, 1) := by decide +kernel
theorem d_Mo_formAt_13 : decode b_Mo_formAt 13 = .ok (.aload_n 0, 1) := by decide +kernel
theorem d_Mo_formAt_14 : decode b_Mo_formAt 14 = .ok (.getfield 221, 3) := by decide +kernel
theorem d_Mo_formAt_17 : decode b_Mo_formAt 17 = .ok (.if_icmp .lt 7, 3) := by decide +kernel
theorem d_Mo_formAt_20 : decode b_Mo_formAt 20 = .ok (.iconst 1, 1) := by decide +kernel
theorem d_Mo_formAt_21 : decode b_Mo_formAt 21 = .ok (.goto 4, 3) := by decide +kernel
theorem d_Mo_formAt_24 : decode b_Mo_formAt 24 = .ok (.iconst 0, 1) := by decide +kernel
theorem d_Mo_formAt_25 : decode b_Mo_formAt 25 = .ok (.putfield 65, 3) := by decide +kernel
theorem d_Mo_formAt_28 : decode b_Mo_formAt 28 = .ok (.aload_n 0, 1) := by decide +kernel
theorem d_Mo_formAt_29 : decode b_Mo_formAt 29 = .ok (.getfield 65, 3) := by decide +kernel
theorem d_Mo_formAt_32 : decode b_Mo_formAt 32 = .ok (.ifCond .eq 7, 3) := by decide +kernel
theorem d_Mo_formAt_35 : decode b_Mo_formAt 35 = .ok (.iconst 0, 1) := by decide +kernel
theorem d_Mo_formAt_36 : decode b_Mo_formAt 36 = .ok (.goto 10, 3) := by decide +kernel
theorem d_Mo_formAt_39 : decode b_Mo_formAt 39 = .ok (.aload_n 0, 1) := by decide +kernel
theorem d_Mo_formAt_40 : decode b_Mo_formAt 40 = .ok (.getfield 59, 3) := by decide +kernel
theorem d_Mo_formAt_43 : decode b_Mo_formAt 43 = .ok (.iload_n 1, 1) := by decide +kernel
theorem d_Mo_formAt_44 : decode b_Mo_formAt 44 = .ok (.iaload, 1) := by decide +kernel
theorem d_Mo_formAt_45 : decode b_Mo_formAt 45 = .ok (.i2c, 1) := by decide +kernel
theorem d_Mo_formAt_46 : decode b_Mo_formAt 46 = .ok (.ireturn, 1) := by decide +kernel
theorem d_Mo_retype_0 : decode b_Mo_retype 0 = .ok (.aload_n 0, 1) := by decide +kernel
theorem d_Mo_retype_1 : decode b_Mo_retype 1 = .ok (.aload_n 0, 1) := by decide +kernel
theorem d_Mo_retype_2 : decode b_Mo_retype 2 = .ok (.getfield 189, 3) := by decide +kernel
theorem d_Mo_retype_5 : decode b_Mo_retype 5 = .ok (.ifCond .eq 13, 3) := by decide +kernel
theorem d_Mo_retype_8 : decode b_Mo_retype 8 = .ok (.aload_n 0, 1) := by decide +kernel
theorem d_Mo_retype_9 : decode b_Mo_retype 9 = .ok (.getfield 221, 3) := by decide +kernel
theorem d_Mo_retype_12 : decode b_Mo_retype 12 = .ok (.sipush 240, 3) := by decide +kernel
theorem d_Mo_retype_15 : decode b_Mo_retype 15 = .ok (.if_icmp .le 7, 3) := by decide +kernel
theorem d_Mo_retype_18 : decode b_Mo_retype 18 = .ok (.iconst 1, 1) := by decide +kernel
theorem d_Mo_retype_19 : decode b_Mo_retype 19 = .ok (.goto 4, 3) := by decide +kernel
theorem d_Mo_retype_22 : decode b_Mo_retype 22 = .ok (.iconst 0, 1) := by decide +kernel
theorem d_Mo_retype_23 : decode b_Mo_retype 23 = .ok (.putfield 65, 3) := by decide +kernel
theorem d_Mo_retype_26 : decode b_Mo_retype 26 = .ok (.aload_n 0, 1) := by decide +kernel
theorem d_Mo_retype_27 : decode b_Mo_retype 27 = .ok (.getfield 65, 3) := by decide +kernel
theorem d_Mo_retype_30 : decode b_Mo_retype 30 = .ok (.ifCond .eq 5, 3) := by decide +kernel
theorem d_Mo_retype_33 : decode b_Mo_retype 33 = .ok (.iconst 0, 1) := by decide +kernel
theorem d_Mo_retype_34 : decode b_Mo_retype 34 = .ok (.ireturn, 1) := by decide +kernel
theorem d_Mo_retype_35 : decode b_Mo_retype 35 = .ok (.aload_n 0, 1) := by decide +kernel
theorem d_Mo_retype_36 : decode b_Mo_retype 36 = .ok (.aload_n 0, 1) := by decide +kernel
theorem d_Mo_retype_37 : decode b_Mo_retype 37 = .ok (.getfield 221, 3) := by decide +kernel
theorem d_Mo_retype_40 : decode b_Mo_retype 40 = .ok (.putfield 72, 3) := by decide +kernel
theorem d_Mo_retype_43 : decode b_Mo_retype 43 = .ok (.iconst 0, 1) := by decide +kernel
theorem d_Mo_retype_44 : decode b_Mo_retype 44 = .ok (.istore_n 1, 1) := by decide +kernel
theorem d_Mo_retype_45 : decode b_Mo_retype 45 = .ok (.iload_n 1, 1) := by decide +kernel
theorem d_Mo_retype_46 : decode b_Mo_retype 46 = .ok (.aload_n 0, 1) := by decide +kernel
theorem d_Mo_retype_47 : decode b_Mo_retype 47 = .ok (.getfield 221, 3) := by decide +kernel
theorem d_Mo_retype_50 : decode b_Mo_retype 50 = .ok (.if_icmp .ge 21, 3) := by decide +kernel
theorem d_Mo_retype_53 : decode b_Mo_retype 53 = .ok (.aload_n 0, 1) := by decide +kernel
theorem d_Mo_retype_54 : decode b_Mo_retype 54 = .ok (.getfield 7, 3) := by decide +kernel
theorem d_Mo_retype_57 : decode b_Mo_retype 57 = .ok (.iload_n 1, 1) := by decide +kernel
theorem d_Mo_retype_58 : decode b_Mo_retype 58 = .ok (.aload_n 0, 1) := by decide +kernel
theorem d_Mo_retype_59 : decode b_Mo_retype 59 = .ok (.getfield 59, 3) := by decide +kernel
theorem d_Mo_retype_62 : decode b_Mo_retype 62 = .ok (.iload_n 1, 1) := by decide +kernel
theorem d_Mo_retype_63 : decode b_Mo_retype 63 = .ok (.iaload, 1) := by decide +kernel
theorem d_Mo_retype_64 : decode b_Mo_retype 64 = .ok (.iastore, 1) := by decide +kernel
theorem d_Mo_retype_65 : decode b_Mo_retype 65 = .ok (.iinc 1 1, 3) := by decide +kernel
theorem d_Mo_retype_68 : decode b_Mo_retype 68 = .ok (.goto (-23), 3) := by decide +kernel
theorem d_Mo_retype_71 : decode b_Mo_retype 71 = .ok (.aload_n 0, 1) := by decide +kernel
theorem d_Mo_retype_72 : decode b_Mo_retype 72 = .ok (.getfield 72, 3) := by decide +kernel
theorem d_Mo_retype_75 : decode b_Mo_retype 75 = .ok (.ireturn, 1) := by decide +kernel
theorem d_Mo_keep_0 : decode b_Mo_keep 0 = .ok (.aload_n 0, 1) := by decide +kernel
theorem d_Mo_keep_1 : decode b_Mo_keep 1 = .ok (.aload_n 0, 1) := by decide +kernel
theorem d_Mo_keep_2 : decode b_Mo_keep 2 = .ok (.getfield 189, 3) := by decide +kernel
theorem d_Mo_keep_5 : decode b_Mo_keep 5 = .ok (.ifCond .eq 7, 3) := by decide +kernel
theorem d_Mo_keep_8 : decode b_Mo_keep 8 = .ok (.iconst 0, 1) := by decide +kernel
theorem d_Mo_keep_9 : decode b_Mo_keep 9 = .ok (.goto 4, 3) := by decide +kernel
theorem d_Mo_keep_12 : decode b_Mo_keep 12 = .ok (.iconst 1, 1) := by decide +kernel
theorem d_Mo_keep_13 : decode b_Mo_keep 13 = .ok (.putfield 65, 3) := by decide +kernel
theorem d_Mo_keep_16 : decode b_Mo_keep 16 = .ok (.aload_n 0, 1) := by decide +kernel
theorem d_Mo_keep_17 : decode b_Mo_keep 17 = .ok (.getfield 189, 3) := by decide +kernel
theorem d_Mo_keep_20 : decode b_Mo_keep 20 = .ok (.ifCond .eq 44, 3) := by decide +kernel
theorem d_Mo_keep_23 : decode b_Mo_keep 23 = .ok (.aload_n 0, 1) := by decide +kernel
theorem d_Mo_keep_24 : decode b_Mo_keep 24 = .ok (.iconst 1, 1) := by decide +kernel
theorem d_Mo_keep_25 : decode b_Mo_keep 25 = .ok (.putfield 263, 3) := by decide +kernel
theorem d_Mo_keep_28 : decode b_Mo_keep 28 = .ok (.aload_n 0, 1) := by decide +kernel
theorem d_Mo_keep_29 : decode b_Mo_keep 29 = .ok (.aload_n 0, 1) := by decide +kernel
theorem d_Mo_keep_30 : decode b_Mo_keep 30 = .ok (.getfield 221, 3) := by decide +kernel
theorem d_Mo_keep_33 : decode b_Mo_keep 33 = .ok (.putfield 266, 3) := by decide +kernel
theorem d_Mo_keep_36 : decode b_Mo_keep 36 = .ok (.iconst 0, 1) := by decide +kernel
theorem d_Mo_keep_37 : decode b_Mo_keep 37 = .ok (.istore_n 1, 1) := by decide +kernel
theorem d_Mo_keep_38 : decode b_Mo_keep 38 = .ok (.iload_n 1, 1) := by decide +kernel
theorem d_Mo_keep_39 : decode b_Mo_keep 39 = .ok (.aload_n 0, 1) := by decide +kernel
theorem d_Mo_keep_40 : decode b_Mo_keep 40 = .ok (.getfield 221, 3) := by decide +kernel
theorem d_Mo_keep_43 : decode b_Mo_keep 43 = .ok (.if_icmp .ge 21, 3) := by decide +kernel
theorem d_Mo_keep_46 : decode b_Mo_keep 46 = .ok (.aload_n 0, 1) := by decide +kernel
theorem d_Mo_keep_47 : decode b_Mo_keep 47 = .ok (.getfield 62, 3) := by decide +kernel
theorem d_Mo_keep_50 : decode b_Mo_keep 50 = .ok (.iload_n 1, 1) := by decide +kernel
theorem d_Mo_keep_51 : decode b_Mo_keep 51 = .ok (.aload_n 0, 1) := by decide +kernel
theorem d_Mo_keep_52 : decode b_Mo_keep 52 = .ok (.getfield 59, 3) := by decide +kernel
theorem d_Mo_keep_55 : decode b_Mo_keep 55 = .ok (.iload_n 1, 1) := by decide +kernel
theorem d_Mo_keep_56 : decode b_Mo_keep 56 = .ok (.iaload, 1) := by decide +kernel
theorem d_Mo_keep_57 : decode b_Mo_keep 57 = .ok (.iastore, 1) := by decide +kernel
theorem d_Mo_keep_58 : decode b_Mo_keep 58 = .ok (.iinc 1 1, 3) := by decide +kernel
theorem d_Mo_keep_61 : decode b_Mo_keep 61 = .ok (.goto (-23), 3) := by decide +kernel
theorem d_Mo_keep_64 : decode b_Mo_keep 64 = .ok (.return_, 1) := by decide +kernel
theorem d_Mo_same_0 : decode b_Mo_same 0 = .ok (.aload_n 0, 1) := by decide +kernel
theorem d_Mo_same_1 : decode b_Mo_same 1 = .ok (.iconst 0, 1) := by decide +kernel
theorem d_Mo_same_2 : decode b_Mo_same 2 = .ok (.putfield 65, 3) := by decide +kernel
theorem d_Mo_same_5 : decode b_Mo_same 5 = .ok (.aload_n 0, 1) := by decide +kernel
theorem d_Mo_same_6 : decode b_Mo_same 6 = .ok (.getfield 189, 3) := by decide +kernel
theorem d_Mo_same_9 : decode b_Mo_same 9 = .ok (.ifCond .eq 25, 3) := by decide +kernel
theorem d_Mo_same_12 : decode b_Mo_same 12 = .ok (.aload_n 0, 1) := by decide +kernel
theorem d_Mo_same_13 : decode b_Mo_same 13 = .ok (.getfield 263, 3) := by decide +kernel
theorem d_Mo_same_16 : decode b_Mo_same 16 = .ok (.ifCond .eq 18, 3) := by decide +kernel
theorem d_Mo_same_19 : decode b_Mo_same 19 = .ok (.aload_n 0, 1) := by decide +kernel
theorem d_Mo_same_20 : decode b_Mo_same 20 = .ok (.getfield 266, 3) := by decide +kernel
theorem d_Mo_same_23 : decode b_Mo_same 23 = .ok (.aload_n 0, 1) := by decide +kernel
theorem d_Mo_same_24 : decode b_Mo_same 24 = .ok (.getfield 221, 3) := by decide +kernel
theorem d_Mo_same_27 : decode b_Mo_same 27 = .ok (.if_icmp .ne 7, 3) := by decide +kernel
theorem d_Mo_same_30 : decode b_Mo_same 30 = .ok (.iconst 1, 1) := by decide +kernel
theorem d_Mo_same_31 : decode b_Mo_same 31 = .ok (.goto 4, 3) := by decide +kernel
theorem d_Mo_same_34 : decode b_Mo_same 34 = .ok (.iconst 0, 1) := by decide +kernel
theorem d_Mo_same_35 : decode b_Mo_same 35 = .ok (.istore_n 1, 1) := by decide +kernel
theorem d_Mo_same_36 : decode b_Mo_same 36 = .ok (.iconst 0, 1) := by decide +kernel
theorem d_Mo_same_37 : decode b_Mo_same 37 = .ok (.istore_n 2, 1) := by decide +kernel
theorem d_Mo_same_38 : decode b_Mo_same 38 = .ok (.iload_n 2, 1) := by decide +kernel
theorem d_Mo_same_39 : decode b_Mo_same 39 = .ok (.aload_n 0, 1) := by decide +kernel
theorem d_Mo_same_40 : decode b_Mo_same 40 = .ok (.getfield 221, 3) := by decide +kernel
theorem d_Mo_same_43 : decode b_Mo_same 43 = .ok (.if_icmp .ge 34, 3) := by decide +kernel
theorem d_Mo_same_46 : decode b_Mo_same 46 = .ok (.iload_n 1, 1) := by decide +kernel
theorem d_Mo_same_47 : decode b_Mo_same 47 = .ok (.ifCond .eq 30, 3) := by decide +kernel
theorem d_Mo_same_50 : decode b_Mo_same 50 = .ok (.aload_n 0, 1) := by decide +kernel
theorem d_Mo_same_51 : decode b_Mo_same 51 = .ok (.getfield 62, 3) := by decide +kernel
theorem d_Mo_same_54 : decode b_Mo_same 54 = .ok (.iload_n 2, 1) := by decide +kernel
theorem d_Mo_same_55 : decode b_Mo_same 55 = .ok (.iaload, 1) := by decide +kernel
theorem d_Mo_same_56 : decode b_Mo_same 56 = .ok (.aload_n 0, 1) := by decide +kernel
theorem d_Mo_same_57 : decode b_Mo_same 57 = .ok (.getfield 59, 3) := by decide +kernel
theorem d_Mo_same_60 : decode b_Mo_same 60 = .ok (.iload_n 2, 1) := by decide +kernel
theorem d_Mo_same_61 : decode b_Mo_same 61 = .ok (.iaload, 1) := by decide +kernel
theorem d_Mo_same_62 : decode b_Mo_same 62 = .ok (.if_icmp .ne 7, 3) := by decide +kernel
theorem d_Mo_same_65 : decode b_Mo_same 65 = .ok (.iconst 1, 1) := by decide +kernel
theorem d_Mo_same_66 : decode b_Mo_same 66 = .ok (.goto 4, 3) := by decide +kernel
theorem d_Mo_same_69 : decode b_Mo_same 69 = .ok (.iconst 0, 1) := by decide +kernel
theorem d_Mo_same_70 : decode b_Mo_same 70 = .ok (.istore_n 1, 1) := by decide +kernel
theorem d_Mo_same_71 : decode b_Mo_same 71 = .ok (.iinc 2 1, 3) := by decide +kernel
theorem d_Mo_same_74 : decode b_Mo_same 74 = .ok (.goto (-36), 3) := by decide +kernel
theorem d_Mo_same_77 : decode b_Mo_same 77 = .ok (.iload_n 1, 1) := by decide +kernel
theorem d_Mo_same_78 : decode b_Mo_same 78 = .ok (.ireturn, 1) := by decide +kernel
theorem d_Mo_skip_0 : decode b_Mo_skip 0 = .ok (.iconst 0, 1) := by decide +kernel
theorem d_Mo_skip_1 : decode b_Mo_skip 1 = .ok (.istore_n 1, 1) := by decide +kernel
theorem d_Mo_skip_2 : decode b_Mo_skip 2 = .ok (.aload_n 0, 1) := by decide +kernel
theorem d_Mo_skip_3 : decode b_Mo_skip 3 = .ok (.aload_n 0, 1) := by decide +kernel
theorem d_Mo_skip_4 : decode b_Mo_skip 4 = .ok (.aload_n 0, 1) := by decide +kernel
theorem d_Mo_skip_5 : decode b_Mo_skip 5 = .ok (.getfield 81, 3) := by decide +kernel
theorem d_Mo_skip_8 : decode b_Mo_skip 8 = .ok (.invokevirtual 84, 3) := by decide +kernel
theorem d_Mo_skip_11 : decode b_Mo_skip 11 = .ok (.invokevirtual 92, 3) := by decide +kernel
theorem d_Mo_skip_14 : decode b_Mo_skip 14 = .ok (.ifCond .eq 19, 3) := by decide +kernel
theorem d_Mo_skip_17 : decode b_Mo_skip 17 = .ok (.aload_n 0, 1) := by decide +kernel
theorem d_Mo_skip_18 : decode b_Mo_skip 18 = .ok (.dup, 1) := by decide +kernel
theorem d_Mo_skip_19 : decode b_Mo_skip 19 = .ok (.getfield 81, 3) := by decide +kernel
theorem d_Mo_skip_22 : decode b_Mo_skip 22 = .ok (.iconst 1, 1) := by decide +kernel
theorem d_Mo_skip_23 : decode b_Mo_skip 23 = .ok (.iadd, 1) := by decide +kernel
theorem d_Mo_skip_24 : decode b_Mo_skip 24 = .ok (.putfield 81, 3) := by decide +kernel
theorem d_Mo_skip_27 : decode b_Mo_skip 27 = .ok (.iinc 1 1, 3) := by decide +kernel
theorem d_Mo_skip_30 : decode b_Mo_skip 30 = .ok (.goto (-28), 3) := by decide +kernel
theorem d_Mo_skip_33 : decode b_Mo_skip 33 = .ok (.iload_n 1, 1) := by decide +kernel
theorem d_Mo_skip_34 : decode b_Mo_skip 34 = .ok (.ireturn, 1) := by decide +kernel
theorem d_Mo_around_0 : decode b_Mo_around 0 = .ok (.aload_n 0, 1) := by decide +kernel
theorem d_Mo_around_1 : decode b_Mo_around 1 = .ok (.invokevirtual 98, 3) := by decide +kernel
theorem d_Mo_around_4 : decode b_Mo_around 4 = .ok (.istore_n 2, 1) := by decide +kernel
theorem d_Mo_around_5 : decode b_Mo_around 5 = .ok (.aload_n 0, 1) := by decide +kernel
theorem d_Mo_around_6 : decode b_Mo_around 6 = .ok (.getfield 81, 3) := by decide +kernel
theorem d_Mo_around_9 : decode b_Mo_around 9 = .ok (.aload_n 0, 1) := by decide +kernel
theorem d_Mo_around_10 : decode b_Mo_around 10 = .ok (.getfield 72, 3) := by decide +kernel
theorem d_Mo_around_13 : decode b_Mo_around 13 = .ok (.if_icmp .ne 29, 3) := by decide +kernel
theorem d_Mo_around_16 : decode b_Mo_around 16 = .ok (.iload_n 1, 1) := by decide +kernel
theorem d_Mo_around_17 : decode b_Mo_around 17 = .ok (.ifCond .eq 15, 3) := by decide +kernel
theorem d_Mo_around_20 : decode b_Mo_around 20 = .ok (.aload_n 0, 1) := by decide +kernel
theorem d_Mo_around_21 : decode b_Mo_around 21 = .ok (.iconst 1, 1) := by decide +kernel
theorem d_Mo_around_22 : decode b_Mo_around 22 = .ok (.aload_n 0, 1) := by decide +kernel
theorem d_Mo_around_23 : decode b_Mo_around 23 = .ok (.getfield 81, 3) := by decide +kernel
theorem d_Mo_around_26 : decode b_Mo_around 26 = .ok (.invokevirtual 88, 3) := by decide +kernel
theorem d_Mo_around_29 : decode b_Mo_around 29 = .ok (.goto 12, 3) := by decide +kernel
theorem d_Mo_around_32 : decode b_Mo_around 32 = .ok (.iload_n 2, 1) := by decide +kernel
theorem d_Mo_around_33 : decode b_Mo_around 33 = .ok (.ifCond .lt 7, 3) := by decide +kernel
theorem d_Mo_around_36 : decode b_Mo_around 36 = .ok (.iconst 1, 1) := by decide +kernel
theorem d_Mo_around_37 : decode b_Mo_around 37 = .ok (.goto 4, 3) := by decide +kernel
theorem d_Mo_around_40 : decode b_Mo_around 40 = .ok (.iconst 0, 1) := by decide +kernel
theorem d_Mo_around_41 : decode b_Mo_around 41 = .ok (.ireturn, 1) := by decide +kernel
theorem d_Mo_around_42 : decode b_Mo_around 42 = .ok (.aload_n 0, 1) := by decide +kernel
theorem d_Mo_around_43 : decode b_Mo_around 43 = .ok (.bipush 60, 2) := by decide +kernel
theorem d_Mo_around_45 : decode b_Mo_around 45 = .ok (.invokevirtual 95, 3) := by decide +kernel
theorem d_Mo_around_48 : decode b_Mo_around 48 = .ok (.ifCond .ne 5, 3) := by decide +kernel
theorem d_Mo_around_51 : decode b_Mo_around 51 = .ok (.iconst 0, 1) := by decide +kernel
theorem d_Mo_around_52 : decode b_Mo_around 52 = .ok (.ireturn, 1) := by decide +kernel
theorem d_Mo_around_53 : decode b_Mo_around 53 = .ok (.aload_n 0, 1) := by decide +kernel
theorem d_Mo_around_54 : decode b_Mo_around 54 = .ok (.aload_n 0, 1) := by decide +kernel
theorem d_Mo_around_55 : decode b_Mo_around 55 = .ok (.getfield 81, 3) := by decide +kernel
theorem d_Mo_around_58 : decode b_Mo_around 58 = .ok (.invokevirtual 84, 3) := by decide +kernel
theorem d_Mo_around_61 : decode b_Mo_around 61 = .ok (.bipush 33, 2) := by decide +kernel
theorem d_Mo_around_63 : decode b_Mo_around 63 = .ok (.if_icmp .ne 22, 3) := by decide +kernel
theorem d_Mo_around_66 : decode b_Mo_around 66 = .ok (.aload_n 0, 1) := by decide +kernel
theorem d_Mo_around_67 : decode b_Mo_around 67 = .ok (.dup, 1) := by decide +kernel
theorem d_Mo_around_68 : decode b_Mo_around 68 = .ok (.getfield 81, 3) := by decide +kernel
theorem d_Mo_around_71 : decode b_Mo_around 71 = .ok (.iconst 1, 1) := by decide +kernel
theorem d_Mo_around_72 : decode b_Mo_around 72 = .ok (.iadd, 1) := by decide +kernel
theorem d_Mo_around_73 : decode b_Mo_around 73 = .ok (.putfield 81, 3) := by decide +kernel
theorem d_Mo_around_76 : decode b_Mo_around 76 = .ok (.aload_n 0, 1) := by decide +kernel
theorem d_Mo_around_77 : decode b_Mo_around 77 = .ok (.invokevirtual 102, 3) := by decide +kernel
theorem d_Mo_around_80 : decode b_Mo_around 80 = .ok (.ifCond .ne 31, 3) := by decide +kernel
theorem d_Mo_around_83 : decode b_Mo_around 83 = .ok (.iconst 0, 1) := by decide +kernel
theorem d_Mo_around_84 : decode b_Mo_around 84 = .ok (.ireturn, 1) := by decide +kernel
theorem d_Mo_around_85 : decode b_Mo_around 85 = .ok (.iload_n 1, 1) := by decide +kernel
theorem d_Mo_around_86 : decode b_Mo_around 86 = .ok (.ifCond .eq 15, 3) := by decide +kernel
theorem d_Mo_around_89 : decode b_Mo_around 89 = .ok (.aload_n 0, 1) := by decide +kernel
theorem d_Mo_around_90 : decode b_Mo_around 90 = .ok (.dup, 1) := by decide +kernel
theorem d_Mo_around_91 : decode b_Mo_around 91 = .ok (.getfield 81, 3) := by decide +kernel
theorem d_Mo_around_94 : decode b_Mo_around 94 = .ok (.iconst 1, 1) := by decide +kernel
theorem d_Mo_around_95 : decode b_Mo_around 95 = .ok (.isub, 1) := by decide +kernel
theorem d_Mo_around_96 : decode b_Mo_around 96 = .ok (.putfield 81, 3) := by decide +kernel
theorem d_Mo_around_99 : decode b_Mo_around 99 = .ok (.iconst 1, 1) := by decide +kernel
theorem d_Mo_around_100 : decode b_Mo_around 100 = .ok (.ireturn, 1) := by decide +kernel
theorem d_Mo_around_101 : decode b_Mo_around 101 = .ok (.aload_n 0, 1) := by decide +kernel
theorem d_Mo_around_102 : decode b_Mo_around 102 = .ok (.iconst 1, 1) := by decide +kernel
theorem d_Mo_around_103 : decode b_Mo_around 103 = .ok (.aload_n 0, 1) := by decide +kernel
theorem d_Mo_around_104 : decode b_Mo_around 104 = .ok (.getfield 81, 3) := by decide +kernel
theorem d_Mo_around_107 : decode b_Mo_around 107 = .ok (.invokevirtual 88, 3) := by decide +kernel
theorem d_Mo_around_110 : decode b_Mo_around 110 = .ok (.ireturn, 1) := by decide +kernel
theorem d_Mo_around_111 : decode b_Mo_around 111 = .ok (.goto (-111), 3) := by decide +kernel
theorem d_Mo_read_0 : decode b_Mo_read 0 = .ok (.aload_n 0, 1) := by decide +kernel
theorem d_Mo_read_1 : decode b_Mo_read 1 = .ok (.iconst 0, 1) := by decide +kernel
theorem d_Mo_read_2 : decode b_Mo_read 2 = .ok (.putfield 81, 3) := by decide +kernel
theorem d_Mo_read_5 : decode b_Mo_read 5 = .ok (.aload_n 0, 1) := by decide +kernel
theorem d_Mo_read_6 : decode b_Mo_read 6 = .ok (.iconst 0, 1) := by decide +kernel
theorem d_Mo_read_7 : decode b_Mo_read 7 = .ok (.putfield 78, 3) := by decide +kernel
theorem d_Mo_read_10 : decode b_Mo_read 10 = .ok (.aload_n 0, 1) := by decide +kernel
theorem d_Mo_read_11 : decode b_Mo_read 11 = .ok (.iconst (-1), 1) := by decide +kernel
theorem d_Mo_read_12 : decode b_Mo_read 12 = .ok (.putfield 13, 3) := by decide +kernel
theorem d_Mo_read_15 : decode b_Mo_read 15 = .ok (.aload_n 0, 1) := by decide +kernel
theorem d_Mo_read_16 : decode b_Mo_read 16 = .ok (.iconst 0, 1) := by decide +kernel
theorem d_Mo_read_17 : decode b_Mo_read 17 = .ok (.putfield 106, 3) := by decide +kernel
theorem d_Mo_read_20 : decode b_Mo_read 20 = .ok (.aload_n 0, 1) := by decide +kernel
theorem d_Mo_read_21 : decode b_Mo_read 21 = .ok (.iconst 0, 1) := by decide +kernel
theorem d_Mo_read_22 : decode b_Mo_read 22 = .ok (.putfield 147, 3) := by decide +kernel
theorem d_Mo_read_25 : decode b_Mo_read 25 = .ok (.aload_n 0, 1) := by decide +kernel
theorem d_Mo_read_26 : decode b_Mo_read 26 = .ok (.iconst 0, 1) := by decide +kernel
theorem d_Mo_read_27 : decode b_Mo_read 27 = .ok (.putfield 163, 3) := by decide +kernel
theorem d_Mo_read_30 : decode b_Mo_read 30 = .ok (.aload_n 0, 1) := by decide +kernel
theorem d_Mo_read_31 : decode b_Mo_read 31 = .ok (.iconst (-1), 1) := by decide +kernel
theorem d_Mo_read_32 : decode b_Mo_read 32 = .ok (.putfield 150, 3) := by decide +kernel
theorem d_Mo_read_35 : decode b_Mo_read 35 = .ok (.aload_n 0, 1) := by decide +kernel
theorem d_Mo_read_36 : decode b_Mo_read 36 = .ok (.iconst 0, 1) := by decide +kernel
theorem d_Mo_read_37 : decode b_Mo_read 37 = .ok (.putfield 144, 3) := by decide +kernel
theorem d_Mo_read_40 : decode b_Mo_read 40 = .ok (.aload_n 0, 1) := by decide +kernel
theorem d_Mo_read_41 : decode b_Mo_read 41 = .ok (.aload_n 0, 1) := by decide +kernel
theorem d_Mo_read_42 : decode b_Mo_read 42 = .ok (.iconst 1, 1) := by decide +kernel
theorem d_Mo_read_43 : decode b_Mo_read 43 = .ok (.invokevirtual 182, 3) := by decide +kernel
theorem d_Mo_read_46 : decode b_Mo_read 46 = .ok (.ifCond .eq 29, 3) := by decide +kernel
theorem d_Mo_read_49 : decode b_Mo_read 49 = .ok (.aload_n 0, 1) := by decide +kernel
theorem d_Mo_read_50 : decode b_Mo_read 50 = .ok (.invokevirtual 173, 3) := by decide +kernel
theorem d_Mo_read_53 : decode b_Mo_read 53 = .ok (.ifCond .eq 22, 3) := by decide +kernel
theorem d_Mo_read_56 : decode b_Mo_read 56 = .ok (.aload_n 0, 1) := by decide +kernel
theorem d_Mo_read_57 : decode b_Mo_read 57 = .ok (.invokevirtual 186, 3) := by decide +kernel
theorem d_Mo_read_60 : decode b_Mo_read 60 = .ok (.ifCond .eq 15, 3) := by decide +kernel
theorem d_Mo_read_63 : decode b_Mo_read 63 = .ok (.aload_n 0, 1) := by decide +kernel
theorem d_Mo_read_64 : decode b_Mo_read 64 = .ok (.iconst 0, 1) := by decide +kernel
theorem d_Mo_read_65 : decode b_Mo_read 65 = .ok (.invokevirtual 182, 3) := by decide +kernel
theorem d_Mo_read_68 : decode b_Mo_read 68 = .ok (.ifCond .eq 7, 3) := by decide +kernel
theorem d_Mo_read_71 : decode b_Mo_read 71 = .ok (.iconst 1, 1) := by decide +kernel
theorem d_Mo_read_72 : decode b_Mo_read 72 = .ok (.goto 4, 3) := by decide +kernel
theorem d_Mo_read_75 : decode b_Mo_read 75 = .ok (.iconst 0, 1) := by decide +kernel
theorem d_Mo_read_76 : decode b_Mo_read 76 = .ok (.putfield 189, 3) := by decide +kernel
theorem d_Mo_read_79 : decode b_Mo_read 79 = .ok (.aload_n 0, 1) := by decide +kernel
theorem d_Mo_read_80 : decode b_Mo_read 80 = .ok (.aload_n 0, 1) := by decide +kernel
theorem d_Mo_read_81 : decode b_Mo_read 81 = .ok (.getfield 189, 3) := by decide +kernel
theorem d_Mo_read_84 : decode b_Mo_read 84 = .ok (.ifCond .eq 7, 3) := by decide +kernel
theorem d_Mo_read_87 : decode b_Mo_read 87 = .ok (.iconst 0, 1) := by decide +kernel
theorem d_Mo_read_88 : decode b_Mo_read 88 = .ok (.goto 4, 3) := by decide +kernel
theorem d_Mo_read_91 : decode b_Mo_read 91 = .ok (.iconst 1, 1) := by decide +kernel
theorem d_Mo_read_92 : decode b_Mo_read 92 = .ok (.putfield 65, 3) := by decide +kernel
theorem d_Mo_read_95 : decode b_Mo_read 95 = .ok (.aload_n 0, 1) := by decide +kernel
theorem d_Mo_read_96 : decode b_Mo_read 96 = .ok (.getfield 189, 3) := by decide +kernel
theorem d_Mo_read_99 : decode b_Mo_read 99 = .ok (.ifCond .eq 7, 3) := by decide +kernel
theorem d_Mo_read_102 : decode b_Mo_read 102 = .ok (.aload_n 0, 1) := by decide +kernel
theorem d_Mo_read_103 : decode b_Mo_read 103 = .ok (.invokevirtual 193, 3) := by decide +kernel
theorem d_Mo_read_106 : decode b_Mo_read 106 = .ok (.aload_n 0, 1) := by decide +kernel
theorem d_Mo_read_107 : decode b_Mo_read 107 = .ok (.getfield 189, 3) := by decide +kernel
theorem d_Mo_read_110 : decode b_Mo_read 110 = .ok (.ifCond .eq 10, 3) := by decide +kernel
theorem d_Mo_read_113 : decode b_Mo_read 113 = .ok (.aload_n 0, 1) := by decide +kernel
theorem d_Mo_read_114 : decode b_Mo_read 114 = .ok (.getfield 147, 3) := by decide +kernel
theorem d_Mo_read_117 : decode b_Mo_read 117 = .ok (.goto 4, 3) := by decide +kernel
theorem d_Mo_read_120 : decode b_Mo_read 120 = .ok (.iconst 0, 1) := by decide +kernel
theorem d_Mo_read_121 : decode b_Mo_read 121 = .ok (.ireturn, 1) := by decide +kernel
set_option maxHeartbeats 4000000 in
set_option maxRecDepth 100000 in
theorem c_Mo_thrown {l : Launch} {s0 : State} {D : va_G} {aC : Nat → ClassId} {a0 : Array Value} (G : gG l s0 D aC a0) (M : gMem) (r : gRef) (ow : Int64)  : gMet l s0 D aC y_Mo_thrown (Cond.code y_Mo_thrown b_Mo_thrown 1 (some .int)) 0 0 0 0 [.ref (s0.heap.size + 383)] M r ow (fun v M1 r1 => v = some (.int (M 100 0)) ∧ M1 = M ∧ r1 = r) (fun _ _ _ => False) := by
  refine gm_of G (by decide) (Nat.le_of_ble_eq_true rfl) ?_
  intro p e s m below meth c ls B hexc hl hw
  have hx := B.1
  have hb := B.2.1
  have hown := B.2.2.2.2.2.1
  have T := B.2.2.2.2.2.2.1
  have hK := B.2.2.2.2.2.2.2.1
  refine lv_aload_n hx hb d_Mo_thrown_0 rfl (lv_at hl 0 rfl) ?_
  refine gf_Mo_thrown hx hb T hown hK hw rfl (kf_Mo_65 T) d_Mo_thrown_1 ?_
  exact gr_i B hw d_Mo_thrown_4 ⟨rfl, rfl, rfl⟩
set_option maxHeartbeats 4000000 in
set_option maxRecDepth 100000 in
theorem c_Mo_isCharacter {l : Launch} {s0 : State} {D : va_G} {aC : Nat → ClassId} {a0 : Array Value} (G : gG l s0 D aC a0) (M : gMem) (r : gRef) (ow : Int64) (x : Int32) : gMet l s0 D aC y_Mo_isCharacter (Cond.code y_Mo_isCharacter b_Mo_isCharacter 2 (some .boolean)) 0 0 0 0 [.ref (s0.heap.size + 383), .int x] M r ow (fun v M1 r1 => v = some (.int (cIs x)) ∧ M1 = M ∧ r1 = r) (fun _ _ _ => False) := by
  refine gm_of G (by decide) (Nat.le_of_ble_eq_true rfl) ?_
  intro p e s m below meth c ls B hexc hl hw
  have hx := B.1
  have hb := B.2.1
  have hown := B.2.2.2.2.2.1
  have T := B.2.2.2.2.2.2.1
  have hK := B.2.2.2.2.2.2.2.1
  refine lv_iload_n hx hb d_Mo_isCharacter_0 rfl (lv_at hl 1 rfl) ?_
  refine lv_bipush (v := 10) hx hb d_Mo_isCharacter_1 (by decide) ?_
  refine lv_icmp_eq hx hb d_Mo_isCharacter_3 rfl (fun h3 => ?_) (fun h3 => ?_)
  · skip
    refine lv_iconst (v := 1) hx hb d_Mo_isCharacter_18 (by decide) ?_
    refine lv_goto hx hb d_Mo_isCharacter_19 rfl ?_
    exact gr_z B hw (by rfl) d_Mo_isCharacter_23 ⟨(by (try unfold cIs); (repeat' split) <;> first | rfl | contradiction | (simp_all; done)), rfl, rfl⟩
  · skip
    refine lv_iload_n hx hb d_Mo_isCharacter_6 rfl (lv_at hl 1 rfl) ?_
    refine lv_bipush (v := 32) hx hb d_Mo_isCharacter_7 (by decide) ?_
    refine lv_icmp_lt hx hb d_Mo_isCharacter_9 rfl (fun h9 => ?_) (fun h9 => ?_)
    · skip
      refine lv_iconst (v := 0) hx hb d_Mo_isCharacter_22 (by decide) ?_
      exact gr_z B hw (by rfl) d_Mo_isCharacter_23 ⟨(by (try unfold cIs); (repeat' split) <;> first | rfl | contradiction | (simp_all; done)), rfl, rfl⟩
    · skip
      refine lv_iload_n hx hb d_Mo_isCharacter_12 rfl (lv_at hl 1 rfl) ?_
      refine lv_bipush (v := 126) hx hb d_Mo_isCharacter_13 (by decide) ?_
      refine lv_icmp_gt hx hb d_Mo_isCharacter_15 rfl (fun h15 => ?_) (fun h15 => ?_)
      · skip
        refine lv_iconst (v := 0) hx hb d_Mo_isCharacter_22 (by decide) ?_
        exact gr_z B hw (by rfl) d_Mo_isCharacter_23 ⟨(by (try unfold cIs); (repeat' split) <;> first | rfl | contradiction | (simp_all; done)), rfl, rfl⟩
      · skip
        refine lv_iconst (v := 1) hx hb d_Mo_isCharacter_18 (by decide) ?_
        refine lv_goto hx hb d_Mo_isCharacter_19 rfl ?_
        exact gr_z B hw (by rfl) d_Mo_isCharacter_23 ⟨(by (try unfold cIs); (repeat' split) <;> first | rfl | contradiction | (simp_all; done)), rfl, rfl⟩
set_option maxHeartbeats 4000000 in
set_option maxRecDepth 100000 in
theorem c_Mo_blank {l : Launch} {s0 : State} {D : va_G} {aC : Nat → ClassId} {a0 : Array Value} (G : gG l s0 D aC a0) (M : gMem) (r : gRef) (ow : Int64) (x : Int32) : gMet l s0 D aC y_Mo_blank (Cond.code y_Mo_blank b_Mo_blank 2 (some .boolean)) 0 0 0 0 [.ref (s0.heap.size + 383), .int x] M r ow (fun v M1 r1 => v = some (.int (cBl x)) ∧ M1 = M ∧ r1 = r) (fun _ _ _ => False) := by
  refine gm_of G (by decide) (Nat.le_of_ble_eq_true rfl) ?_
  intro p e s m below meth c ls B hexc hl hw
  have hx := B.1
  have hb := B.2.1
  have hown := B.2.2.2.2.2.1
  have T := B.2.2.2.2.2.2.1
  have hK := B.2.2.2.2.2.2.2.1
  refine lv_iload_n hx hb d_Mo_blank_0 rfl (lv_at hl 1 rfl) ?_
  refine lv_bipush (v := 32) hx hb d_Mo_blank_1 (by decide) ?_
  refine lv_icmp_eq hx hb d_Mo_blank_3 rfl (fun h3 => ?_) (fun h3 => ?_)
  · skip
    refine lv_iconst (v := 1) hx hb d_Mo_blank_12 (by decide) ?_
    refine lv_goto hx hb d_Mo_blank_13 rfl ?_
    exact gr_z B hw (by rfl) d_Mo_blank_17 ⟨(by (try unfold cBl); (repeat' split) <;> first | rfl | contradiction | (simp_all; done)), rfl, rfl⟩
  · skip
    refine lv_iload_n hx hb d_Mo_blank_6 rfl (lv_at hl 1 rfl) ?_
    refine lv_bipush (v := 10) hx hb d_Mo_blank_7 (by decide) ?_
    refine lv_icmp_ne hx hb d_Mo_blank_9 rfl (fun h9 => ?_) (fun h9 => ?_)
    · skip
      refine lv_iconst (v := 0) hx hb d_Mo_blank_16 (by decide) ?_
      exact gr_z B hw (by rfl) d_Mo_blank_17 ⟨(by (try unfold cBl); (repeat' split) <;> first | rfl | contradiction | (simp_all; done)), rfl, rfl⟩
    · skip
      refine lv_iconst (v := 1) hx hb d_Mo_blank_12 (by decide) ?_
      refine lv_goto hx hb d_Mo_blank_13 rfl ?_
      exact gr_z B hw (by rfl) d_Mo_blank_17 ⟨(by (try unfold cBl); (repeat' split) <;> first | rfl | contradiction | (simp_all; done)), rfl, rfl⟩
set_option maxHeartbeats 4000000 in
set_option maxRecDepth 100000 in
theorem c_Mo_here {l : Launch} {s0 : State} {D : va_G} {aC : Nat → ClassId} {a0 : Array Value} (G : gG l s0 D aC a0) (M : gMem) (r : gRef) (ow : Int64) (n : Nat) (hn : n ≤ 240) (hs : M 101 0 = nI n) (x : Int32) (hx0 : ¬ x < 0) : gMet l s0 D aC y_Mo_here (Cond.code y_Mo_here b_Mo_here 2 (some .int)) 0 0 0 0 [.ref (s0.heap.size + 383), .int x] M r ow (fun v M1 r1 => v = some (.int (hMo M x)) ∧ M1 = M ∧ r1 = r) (fun _ _ _ => False) := by
  refine gm_of G (by decide) (Nat.le_of_ble_eq_true rfl) ?_
  intro p e s m below meth c ls B hexc hl hw
  have hx := B.1
  have hb := B.2.1
  have hown := B.2.2.2.2.2.1
  have T := B.2.2.2.2.2.2.1
  have hK := B.2.2.2.2.2.2.2.1
  refine lv_iload_n hx hb d_Mo_here_0 rfl (lv_at hl 1 rfl) ?_
  refine lv_aload_n hx hb d_Mo_here_1 rfl (lv_at hl 0 rfl) ?_
  refine gf_Mo_typed hx hb T hown hK hw rfl (kf_Mo_72 T) d_Mo_here_2 ?_
  refine lv_icmp_ge hx hb d_Mo_here_5 rfl (fun h5 => ?_) (fun h5 => ?_)
  · skip
    refine lv_iconst (v := 0) hx hb d_Mo_here_17 (by decide) ?_
    exact gr_i B hw d_Mo_here_18 ⟨(by (try unfold hMo); (repeat' split) <;> first | rfl | contradiction | (simp_all; done)), rfl, rfl⟩
  · skip
    refine lv_aload_n hx hb d_Mo_here_8 rfl (lv_at hl 0 rfl) ?_
    refine gf_Mo_text hx hb T hown hK hw rfl (kf_Mo_7 T) d_Mo_here_9 ?_
    refine lv_iload_n hx hb d_Mo_here_12 rfl (lv_at hl 1 rfl) ?_
    refine ga_Mo_text hx hb hK hw rfl (gi_in hx0 (by rw [← hs]; exact h5) hn (by decide)) d_Mo_here_13 ?_
    refine lv_goto hx hb d_Mo_here_14 rfl ?_
    exact gr_i B hw d_Mo_here_18 ⟨(by (try unfold hMo); (repeat' split) <;> first | rfl | contradiction | (simp_all; done)), rfl, rfl⟩
set_option maxHeartbeats 4000000 in
set_option maxRecDepth 100000 in
theorem c_Mo_fail {l : Launch} {s0 : State} {D : va_G} {aC : Nat → ClassId} {a0 : Array Value} (G : gG l s0 D aC a0) (M : gMem) (r : gRef) (ow : Int64) (w h : Int32) : gMet l s0 D aC y_Mo_fail (Cond.code y_Mo_fail b_Mo_fail 3 (some .boolean)) 0 0 0 0 [.ref (s0.heap.size + 383), .int w, .int h] M r ow (fun v M1 r1 => v = some (.int 0) ∧ M1 = mS (mS M 104 0 w) 105 0 h ∧ r1 = r) (fun _ _ _ => False) := by
  refine gm_of G (by decide) (Nat.le_of_ble_eq_true rfl) ?_
  intro p e s m below meth c ls B hexc hl hw
  have hx := B.1
  have hb := B.2.1
  have hown := B.2.2.2.2.2.1
  have T := B.2.2.2.2.2.2.1
  have hK := B.2.2.2.2.2.2.2.1
  refine lv_aload_n hx hb d_Mo_fail_0 rfl (lv_at hl 0 rfl) ?_
  refine lv_iload_n hx hb d_Mo_fail_1 rfl (lv_at hl 1 rfl) ?_
  refine pf_Mo_reason hx hb T hown hK hw rfl (kf_Mo_78 T) d_Mo_fail_2 (fun H locs hw => ?_)
  refine lv_aload_n hx hb d_Mo_fail_5 rfl (lv_at hl 0 rfl) ?_
  refine lv_iload_n hx hb d_Mo_fail_6 rfl (lv_at hl 2 rfl) ?_
  refine pf_Mo_place hx hb T hown hK hw rfl (kf_Mo_13 T) d_Mo_fail_7 (fun H locs hw => ?_)
  refine lv_iconst (v := 0) hx hb d_Mo_fail_10 (by decide) ?_
  exact gr_z B hw (by rfl) d_Mo_fail_11 ⟨rfl, rfl, rfl⟩
set_option maxHeartbeats 4000000 in
set_option maxRecDepth 100000 in
theorem c_Mo_type {l : Launch} {s0 : State} {D : va_G} {aC : Nat → ClassId} {a0 : Array Value} (G : gG l s0 D aC a0) (M : gMem) (r : gRef) (ow : Int64) (n : Nat) (hn : n ≤ 240) (hs : M 101 0 = nI n) (x : Int32) : gMet l s0 D aC y_Mo_type (Cond.code y_Mo_type b_Mo_type 2 (some .int)) 1 40 0 0 [.ref (s0.heap.size + 383), .int x] M r ow (fun v M1 r1 => ((cIs x = 0 ∧ v = some (.int 0) ∧ M1 = mS M 100 0 1) ∨ (cIs x ≠ 0 ∧ n = 240 ∧ v = some (.int 0) ∧ M1 = mS M 100 0 2) ∨ (cIs x ≠ 0 ∧ n < 240 ∧ v = some (.int (nI (n + 1))) ∧ M1 = mS (mS (mS M 100 0 0) 102 n x) 101 0 (nI (n + 1)))) ∧ r1 = r) (fun _ _ _ => False) := by
  refine gm_of G (by decide) (Nat.le_of_ble_eq_true rfl) ?_
  intro p e s m below meth c ls B hexc hl hw
  have hx := B.1
  have hb := B.2.1
  have hown := B.2.2.2.2.2.1
  have T := B.2.2.2.2.2.2.1
  have hK := B.2.2.2.2.2.2.2.1
  by_cases hcx : cIs x = 0
  · skip
    refine lv_aload_n hx hb d_Mo_type_0 rfl (lv_at hl 0 rfl) ?_
    refine lv_aload_n hx hb d_Mo_type_1 rfl (lv_at hl 0 rfl) ?_
    refine lv_iload_n hx hb d_Mo_type_2 rfl (lv_at hl 1 rfl) ?_
    refine gy_V (As := [.int x]) B hl.1 hw (c_Mo_isCharacter G M r ow x) (kd_Mo_isCharacter T) (ki_Mo T) (km_Mo_75 T) (ka_Mo_isCharacter T) (ks_Mo_isCharacter T) ⟨by decide, by decide, by rfl⟩ (rv_Mo hK hw rfl) rfl (Nat.le_of_ble_eq_true rfl) ⟨by decide, by decide⟩ ⟨by decide, by decide⟩ d_Mo_type_3 (fun v M1 r1 H locs hw hp => ?_) (fun x ek M1 r1 H locs hw hE hp => hp.elim)
    obtain ⟨rfl, hM1, hr1⟩ := hp
    rw [hM1, hr1] at hw
    clear hM1 hr1
    refine lv_if_ne hx hb d_Mo_type_6 rfl (fun h6 => absurd h6 (fun q => q hcx)) (fun h6 => ?_)
    refine lv_iconst (v := 1) hx hb d_Mo_type_9 (by decide) ?_
    refine lv_goto hx hb d_Mo_type_10 rfl ?_
    refine pf_Mo_thrown hx hb T hown hK hw rfl (kf_Mo_65 T) d_Mo_type_28 (fun H locs hw => ?_)
    refine lv_aload_n hx hb d_Mo_type_31 rfl (lv_at hl 0 rfl) ?_
    refine gf_Mo_thrown hx hb T hown hK hw rfl (kf_Mo_65 T) d_Mo_type_32 ?_
    refine lv_if_eq hx hb d_Mo_type_35 rfl (fun h35 => absurd h35 (by rw [mS_same]; decide)) (fun h35 => ?_)
    refine lv_iconst (v := 0) hx hb d_Mo_type_38 (by decide) ?_
    exact gr_i B hw d_Mo_type_39 ⟨Or.inl ⟨hcx, rfl, rfl⟩, rfl⟩
  · rcases Nat.lt_or_ge n 240 with hlt | hge
    · skip
      refine lv_aload_n hx hb d_Mo_type_0 rfl (lv_at hl 0 rfl) ?_
      refine lv_aload_n hx hb d_Mo_type_1 rfl (lv_at hl 0 rfl) ?_
      refine lv_iload_n hx hb d_Mo_type_2 rfl (lv_at hl 1 rfl) ?_
      refine gy_V (As := [.int x]) B hl.1 hw (c_Mo_isCharacter G M r ow x) (kd_Mo_isCharacter T) (ki_Mo T) (km_Mo_75 T) (ka_Mo_isCharacter T) (ks_Mo_isCharacter T) ⟨by decide, by decide, by rfl⟩ (rv_Mo hK hw rfl) rfl (Nat.le_of_ble_eq_true rfl) ⟨by decide, by decide⟩ ⟨by decide, by decide⟩ d_Mo_type_3 (fun v M1 r1 H locs hw hp => ?_) (fun x ek M1 r1 H locs hw hE hp => hp.elim)
      obtain ⟨rfl, hM1, hr1⟩ := hp
      rw [hM1, hr1] at hw
      clear hM1 hr1
      refine lv_if_ne hx hb d_Mo_type_6 rfl (fun h6 => ?_) (fun h6 => absurd h6 hcx)
      refine lv_aload_n hx hb d_Mo_type_13 rfl (lv_at hl 0 rfl) ?_
      refine gf_Mo_typed hx hb T hown hK hw rfl (kf_Mo_72 T) d_Mo_type_14 ?_
      refine lv_sipush (v := 240) hx hb d_Mo_type_17 (by decide) ?_
      refine lv_icmp_ne hx hb d_Mo_type_20 rfl (fun h20 => ?_) (fun h20 => absurd h20 (fun q => absurd ((nI_eq (a := n) (b := 240) (by omega) (by decide)).mp (hs.symm.trans q)) (by omega)))
      refine lv_iconst (v := 0) hx hb d_Mo_type_27 (by decide) ?_
      refine pf_Mo_thrown hx hb T hown hK hw rfl (kf_Mo_65 T) d_Mo_type_28 (fun H locs hw => ?_)
      refine lv_aload_n hx hb d_Mo_type_31 rfl (lv_at hl 0 rfl) ?_
      refine gf_Mo_thrown hx hb T hown hK hw rfl (kf_Mo_65 T) d_Mo_type_32 ?_
      refine lv_if_eq hx hb d_Mo_type_35 rfl (fun h35 => ?_) (fun h35 => absurd (mS_same _ _ _ _) h35)
      refine lv_aload_n hx hb d_Mo_type_40 rfl (lv_at hl 0 rfl) ?_
      refine gf_Mo_text hx hb T hown hK hw rfl (kf_Mo_7 T) d_Mo_type_41 ?_
      refine lv_aload_n hx hb d_Mo_type_44 rfl (lv_at hl 0 rfl) ?_
      refine gf_Mo_typed hx hb T hown hK hw rfl (kf_Mo_72 T) d_Mo_type_45 ?_
      refine lv_iload_n hx hb d_Mo_type_48 rfl (lv_at hl 1 rfl) ?_
      refine gs_Mo_text (x := mS M 100 0 0 101 0) hx hb hK hw rfl (by rw [mS_tag M (t := 100) (t2 := 101) _ _ _ (by decide), hs]; exact gi_in0 hlt (by decide)) d_Mo_type_49 (fun H locs hw => ?_)
      rw [mS_tag M (t := 100) (t2 := 101) _ _ _ (by decide), hs, nI_clamp (by omega)] at hw
      refine lv_aload_n hx hb d_Mo_type_50 rfl (lv_at hl 0 rfl) ?_
      refine lv_dup hx hb d_Mo_type_51 rfl ?_
      refine gf_Mo_typed hx hb T hown hK hw rfl (kf_Mo_72 T) d_Mo_type_52 ?_
      refine lv_iconst (v := 1) hx hb d_Mo_type_55 (by decide) ?_
      refine lv_iadd hx hb d_Mo_type_56 ?_
      rw [mS_tag (mS M 100 0 0) (t := 102) (t2 := 101) _ _ _ (by decide), mS_tag M (t := 100) (t2 := 101) _ _ _ (by decide), hs, nI_1]
      refine pf_Mo_typed hx hb T hown hK hw rfl (kf_Mo_72 T) d_Mo_type_57 (fun H locs hw => ?_)
      refine lv_aload_n hx hb d_Mo_type_60 rfl (lv_at hl 0 rfl) ?_
      refine gf_Mo_typed hx hb T hown hK hw rfl (kf_Mo_72 T) d_Mo_type_61 ?_
      exact gr_i B hw d_Mo_type_64 ⟨Or.inr (Or.inr ⟨hcx, hlt, by rw [mS_same], rfl⟩), rfl⟩
    · have hge : n = 240 := by omega
      refine lv_aload_n hx hb d_Mo_type_0 rfl (lv_at hl 0 rfl) ?_
      refine lv_aload_n hx hb d_Mo_type_1 rfl (lv_at hl 0 rfl) ?_
      refine lv_iload_n hx hb d_Mo_type_2 rfl (lv_at hl 1 rfl) ?_
      refine gy_V (As := [.int x]) B hl.1 hw (c_Mo_isCharacter G M r ow x) (kd_Mo_isCharacter T) (ki_Mo T) (km_Mo_75 T) (ka_Mo_isCharacter T) (ks_Mo_isCharacter T) ⟨by decide, by decide, by rfl⟩ (rv_Mo hK hw rfl) rfl (Nat.le_of_ble_eq_true rfl) ⟨by decide, by decide⟩ ⟨by decide, by decide⟩ d_Mo_type_3 (fun v M1 r1 H locs hw hp => ?_) (fun x ek M1 r1 H locs hw hE hp => hp.elim)
      obtain ⟨rfl, hM1, hr1⟩ := hp
      rw [hM1, hr1] at hw
      clear hM1 hr1
      refine lv_if_ne hx hb d_Mo_type_6 rfl (fun h6 => ?_) (fun h6 => absurd h6 hcx)
      refine lv_aload_n hx hb d_Mo_type_13 rfl (lv_at hl 0 rfl) ?_
      refine gf_Mo_typed hx hb T hown hK hw rfl (kf_Mo_72 T) d_Mo_type_14 ?_
      refine lv_sipush (v := 240) hx hb d_Mo_type_17 (by decide) ?_
      refine lv_icmp_ne hx hb d_Mo_type_20 rfl (fun h20 => absurd h20 (fun q => q (by rw [hs, hge]; rfl))) (fun h20 => ?_)
      refine lv_iconst (v := 2) hx hb d_Mo_type_23 (by decide) ?_
      refine lv_goto hx hb d_Mo_type_24 rfl ?_
      refine pf_Mo_thrown hx hb T hown hK hw rfl (kf_Mo_65 T) d_Mo_type_28 (fun H locs hw => ?_)
      refine lv_aload_n hx hb d_Mo_type_31 rfl (lv_at hl 0 rfl) ?_
      refine gf_Mo_thrown hx hb T hown hK hw rfl (kf_Mo_65 T) d_Mo_type_32 ?_
      refine lv_if_eq hx hb d_Mo_type_35 rfl (fun h35 => absurd h35 (by rw [mS_same]; decide)) (fun h35 => ?_)
      refine lv_iconst (v := 0) hx hb d_Mo_type_38 (by decide) ?_
      exact gr_i B hw d_Mo_type_39 ⟨Or.inr (Or.inl ⟨hcx, hge, rfl, rfl⟩), rfl⟩
set_option maxHeartbeats 4000000 in
set_option maxRecDepth 100000 in
theorem c_Mo_wipe {l : Launch} {s0 : State} {D : va_G} {aC : Nat → ClassId} {a0 : Array Value} (G : gG l s0 D aC a0) (M : gMem) (r : gRef) (ow : Int64)  : gMet l s0 D aC y_Mo_wipe (Cond.code y_Mo_wipe b_Mo_wipe 1 none) 0 0 0 0 [.ref (s0.heap.size + 383)] M r ow (fun v M1 r1 => v = none ∧ M1 = mS (mS M 100 0 0) 101 0 0 ∧ r1 = r) (fun _ _ _ => False) := by
  refine gm_of G (by decide) (Nat.le_of_ble_eq_true rfl) ?_
  intro p e s m below meth c ls B hexc hl hw
  have hx := B.1
  have hb := B.2.1
  have hown := B.2.2.2.2.2.1
  have T := B.2.2.2.2.2.2.1
  have hK := B.2.2.2.2.2.2.2.1
  refine lv_aload_n hx hb d_Mo_wipe_0 rfl (lv_at hl 0 rfl) ?_
  refine lv_iconst (v := 0) hx hb d_Mo_wipe_1 (by decide) ?_
  refine pf_Mo_thrown hx hb T hown hK hw rfl (kf_Mo_65 T) d_Mo_wipe_2 (fun H locs hw => ?_)
  refine lv_aload_n hx hb d_Mo_wipe_5 rfl (lv_at hl 0 rfl) ?_
  refine lv_iconst (v := 0) hx hb d_Mo_wipe_6 (by decide) ?_
  refine pf_Mo_typed hx hb T hown hK hw rfl (kf_Mo_72 T) d_Mo_wipe_7 (fun H locs hw => ?_)
  exact gr_v B hw d_Mo_wipe_10 ⟨rfl, rfl, rfl⟩
set_option maxHeartbeats 4000000 in
set_option maxRecDepth 100000 in
theorem c_Mo_reason {l : Launch} {s0 : State} {D : va_G} {aC : Nat → ClassId} {a0 : Array Value} (G : gG l s0 D aC a0) (M : gMem) (r : gRef) (ow : Int64)  : gMet l s0 D aC y_Mo_reason (Cond.code y_Mo_reason b_Mo_reason 1 (some .int)) 0 0 0 0 [.ref (s0.heap.size + 383)] M r ow (fun v M1 r1 => v = some (.int (M 104 0)) ∧ M1 = mS M 100 0 0 ∧ r1 = r) (fun _ _ _ => False) := by
  refine gm_of G (by decide) (Nat.le_of_ble_eq_true rfl) ?_
  intro p e s m below meth c ls B hexc hl hw
  have hx := B.1
  have hb := B.2.1
  have hown := B.2.2.2.2.2.1
  have T := B.2.2.2.2.2.2.1
  have hK := B.2.2.2.2.2.2.2.1
  refine lv_aload_n hx hb d_Mo_reason_0 rfl (lv_at hl 0 rfl) ?_
  refine lv_iconst (v := 0) hx hb d_Mo_reason_1 (by decide) ?_
  refine pf_Mo_thrown hx hb T hown hK hw rfl (kf_Mo_65 T) d_Mo_reason_2 (fun H locs hw => ?_)
  refine lv_aload_n hx hb d_Mo_reason_5 rfl (lv_at hl 0 rfl) ?_
  refine gf_Mo_reason hx hb T hown hK hw rfl (kf_Mo_78 T) d_Mo_reason_6 ?_
  exact gr_i B hw d_Mo_reason_9 ⟨by rw [mS_tag M (t := 100) (t2 := 104) _ _ _ (by decide)], rfl, rfl⟩
set_option maxHeartbeats 4000000 in
set_option maxRecDepth 100000 in
theorem c_Mo_place {l : Launch} {s0 : State} {D : va_G} {aC : Nat → ClassId} {a0 : Array Value} (G : gG l s0 D aC a0) (M : gMem) (r : gRef) (ow : Int64)  : gMet l s0 D aC y_Mo_place (Cond.code y_Mo_place b_Mo_place 1 (some .int)) 0 0 0 0 [.ref (s0.heap.size + 383)] M r ow (fun v M1 r1 => v = some (.int (M 105 0)) ∧ M1 = mS M 100 0 0 ∧ r1 = r) (fun _ _ _ => False) := by
  refine gm_of G (by decide) (Nat.le_of_ble_eq_true rfl) ?_
  intro p e s m below meth c ls B hexc hl hw
  have hx := B.1
  have hb := B.2.1
  have hown := B.2.2.2.2.2.1
  have T := B.2.2.2.2.2.2.1
  have hK := B.2.2.2.2.2.2.2.1
  refine lv_aload_n hx hb d_Mo_place_0 rfl (lv_at hl 0 rfl) ?_
  refine lv_iconst (v := 0) hx hb d_Mo_place_1 (by decide) ?_
  refine pf_Mo_thrown hx hb T hown hK hw rfl (kf_Mo_65 T) d_Mo_place_2 (fun H locs hw => ?_)
  refine lv_aload_n hx hb d_Mo_place_5 rfl (lv_at hl 0 rfl) ?_
  refine gf_Mo_place hx hb T hown hK hw rfl (kf_Mo_13 T) d_Mo_place_6 ?_
  exact gr_i B hw d_Mo_place_9 ⟨by rw [mS_tag M (t := 100) (t2 := 105) _ _ _ (by decide)], rfl, rfl⟩
set_option maxHeartbeats 4000000 in
set_option maxRecDepth 100000 in
theorem c_Mo_noElement_0 {l : Launch} {s0 : State} {D : va_G} {aC : Nat → ClassId} {a0 : Array Value} (G : gG l s0 D aC a0) (M : gMem) (r : gRef) (ow : Int64) (h0 : M 106 0 = 0) (x : Int32) : gMet l s0 D aC y_Mo_noElement (Cond.code y_Mo_noElement b_Mo_noElement 2 (some .boolean)) 0 0 0 0 [.ref (s0.heap.size + 383), .int x] M r ow (fun v M1 r1 => v = some (.int 1) ∧ M1 = M ∧ r1 = r) (fun _ _ _ => False) := by
  refine gm_of G (by decide) (Nat.le_of_ble_eq_true rfl) ?_
  intro p e s m below meth c ls B hexc hl hw
  have hx := B.1
  have hb := B.2.1
  have hown := B.2.2.2.2.2.1
  have T := B.2.2.2.2.2.2.1
  have hK := B.2.2.2.2.2.2.2.1
  refine lv_aload_n hx hb d_Mo_noElement_0 rfl (lv_at hl 0 rfl) ?_
  refine gf_Mo_tree hx hb T hown hK hw rfl (kf_Mo_189 T) d_Mo_noElement_1 ?_
  refine lv_if_eq hx hb d_Mo_noElement_4 rfl (fun h4 => ?_) (fun h4 => absurd h0 h4)
  refine lv_iconst (v := 1) hx hb d_Mo_noElement_19 (by decide) ?_
  refine lv_goto hx hb d_Mo_noElement_20 rfl ?_
  exact gr_z B hw (by rfl) d_Mo_noElement_24 ⟨rfl, rfl, rfl⟩
set_option maxHeartbeats 4000000 in
set_option maxRecDepth 100000 in
theorem c_Mo_element_0 {l : Launch} {s0 : State} {D : va_G} {aC : Nat → ClassId} {a0 : Array Value} (G : gG l s0 D aC a0) (M : gMem) (r : gRef) (ow : Int64) (h0 : M 106 0 = 0) (x z : Int32) : gMet l s0 D aC y_Mo_element (Cond.code y_Mo_element b_Mo_element 5 (some .int)) 1 40 0 0 [.ref (s0.heap.size + 383), .int x, .int z] M r ow (fun v M1 r1 => v = some (.int 0) ∧ M1 = mS M 100 0 1 ∧ r1 = r) (fun _ _ _ => False) := by
  refine gm_of G (by decide) (Nat.le_of_ble_eq_true rfl) ?_
  intro p e s m below meth c ls B hexc hl hw
  have hx := B.1
  have hb := B.2.1
  have hown := B.2.2.2.2.2.1
  have T := B.2.2.2.2.2.2.1
  have hK := B.2.2.2.2.2.2.2.1
  refine lv_aload_n hx hb d_Mo_element_0 rfl (lv_at hl 0 rfl) ?_
  refine lv_aload_n hx hb d_Mo_element_1 rfl (lv_at hl 0 rfl) ?_
  refine lv_iload_n hx hb d_Mo_element_2 rfl (lv_at hl 1 rfl) ?_
  refine gy_V (As := [.int x]) B hl.1 hw (c_Mo_noElement_0 G M r ow h0 x) (kd_Mo_noElement T) (ki_Mo T) (km_Mo_254 T) (ka_Mo_noElement T) (ks_Mo_noElement T) ⟨by decide, by decide, by rfl⟩ (rv_Mo hK hw rfl) rfl (Nat.le_of_ble_eq_true rfl) ⟨by decide, by decide⟩ ⟨by decide, by decide⟩ d_Mo_element_3 (fun v M1 r1 H locs hw hp => ?_) (fun x ek M1 r1 H locs hw hE hp => hp.elim)
  obtain ⟨rfl, hM1, hr1⟩ := hp
  rw [hM1, hr1] at hw
  clear hM1 hr1
  refine lv_if_eq hx hb d_Mo_element_6 rfl (fun h6 => absurd h6 (by decide)) (fun h6 => ?_)
  refine lv_iconst (v := 1) hx hb d_Mo_element_9 (by decide) ?_
  refine lv_goto hx hb d_Mo_element_10 rfl ?_
  refine pf_Mo_thrown hx hb T hown hK hw rfl (kf_Mo_65 T) d_Mo_element_27 (fun H locs hw => ?_)
  refine lv_aload_n hx hb d_Mo_element_30 rfl (lv_at hl 0 rfl) ?_
  refine gf_Mo_thrown hx hb T hown hK hw rfl (kf_Mo_65 T) d_Mo_element_31 ?_
  refine lv_if_eq hx hb d_Mo_element_34 rfl (fun h34 => absurd h34 (by rw [mS_same]; decide)) (fun h34 => ?_)
  refine lv_iconst (v := 0) hx hb d_Mo_element_37 (by decide) ?_
  exact gr_i B hw d_Mo_element_38 ⟨rfl, rfl, rfl⟩
set_option maxHeartbeats 4000000 in
set_option maxRecDepth 100000 in
theorem c_Mo_name_0 {l : Launch} {s0 : State} {D : va_G} {aC : Nat → ClassId} {a0 : Array Value} (G : gG l s0 D aC a0) (M : gMem) (r : gRef) (ow : Int64) (h0 : M 106 0 = 0) (x z : Int32) : gMet l s0 D aC y_Mo_name (Cond.code y_Mo_name b_Mo_name 3 (some .char)) 1 40 0 0 [.ref (s0.heap.size + 383), .int x, .int z] M r ow (fun v M1 r1 => v = some (.int 0) ∧ M1 = mS M 100 0 1 ∧ r1 = r) (fun _ _ _ => False) := by
  refine gm_of G (by decide) (Nat.le_of_ble_eq_true rfl) ?_
  intro p e s m below meth c ls B hexc hl hw
  have hx := B.1
  have hb := B.2.1
  have hown := B.2.2.2.2.2.1
  have T := B.2.2.2.2.2.2.1
  have hK := B.2.2.2.2.2.2.2.1
  refine lv_aload_n hx hb d_Mo_name_0 rfl (lv_at hl 0 rfl) ?_
  refine lv_aload_n hx hb d_Mo_name_1 rfl (lv_at hl 0 rfl) ?_
  refine lv_iload_n hx hb d_Mo_name_2 rfl (lv_at hl 1 rfl) ?_
  refine gy_V (As := [.int x]) B hl.1 hw (c_Mo_noElement_0 G M r ow h0 x) (kd_Mo_noElement T) (ki_Mo T) (km_Mo_254 T) (ka_Mo_noElement T) (ks_Mo_noElement T) ⟨by decide, by decide, by rfl⟩ (rv_Mo hK hw rfl) rfl (Nat.le_of_ble_eq_true rfl) ⟨by decide, by decide⟩ ⟨by decide, by decide⟩ d_Mo_name_3 (fun v M1 r1 H locs hw hp => ?_) (fun x ek M1 r1 H locs hw hE hp => hp.elim)
  obtain ⟨rfl, hM1, hr1⟩ := hp
  rw [hM1, hr1] at hw
  clear hM1 hr1
  refine lv_if_eq hx hb d_Mo_name_6 rfl (fun h6 => absurd h6 (by decide)) (fun h6 => ?_)
  refine lv_iconst (v := 1) hx hb d_Mo_name_9 (by decide) ?_
  refine lv_goto hx hb d_Mo_name_10 rfl ?_
  refine pf_Mo_thrown hx hb T hown hK hw rfl (kf_Mo_65 T) d_Mo_name_32 (fun H locs hw => ?_)
  refine lv_aload_n hx hb d_Mo_name_35 rfl (lv_at hl 0 rfl) ?_
  refine gf_Mo_thrown hx hb T hown hK hw rfl (kf_Mo_65 T) d_Mo_name_36 ?_
  refine lv_if_eq hx hb d_Mo_name_39 rfl (fun h39 => absurd h39 (by rw [mS_same]; decide)) (fun h39 => ?_)
  refine lv_iconst (v := 0) hx hb d_Mo_name_42 (by decide) ?_
  refine lv_goto hx hb d_Mo_name_43 rfl ?_
  exact gr_z B hw (by rfl) d_Mo_name_60 ⟨rfl, rfl, rfl⟩
set_option maxHeartbeats 4000000 in
set_option maxRecDepth 100000 in
theorem c_Mo_content_0 {l : Launch} {s0 : State} {D : va_G} {aC : Nat → ClassId} {a0 : Array Value} (G : gG l s0 D aC a0) (M : gMem) (r : gRef) (ow : Int64) (h0 : M 106 0 = 0) (x z : Int32) : gMet l s0 D aC y_Mo_content (Cond.code y_Mo_content b_Mo_content 3 (some .char)) 1 40 0 0 [.ref (s0.heap.size + 383), .int x, .int z] M r ow (fun v M1 r1 => v = some (.int 0) ∧ M1 = mS M 100 0 1 ∧ r1 = r) (fun _ _ _ => False) := by
  refine gm_of G (by decide) (Nat.le_of_ble_eq_true rfl) ?_
  intro p e s m below meth c ls B hexc hl hw
  have hx := B.1
  have hb := B.2.1
  have hown := B.2.2.2.2.2.1
  have T := B.2.2.2.2.2.2.1
  have hK := B.2.2.2.2.2.2.2.1
  refine lv_aload_n hx hb d_Mo_content_0 rfl (lv_at hl 0 rfl) ?_
  refine lv_aload_n hx hb d_Mo_content_1 rfl (lv_at hl 0 rfl) ?_
  refine lv_iload_n hx hb d_Mo_content_2 rfl (lv_at hl 1 rfl) ?_
  refine gy_V (As := [.int x]) B hl.1 hw (c_Mo_noElement_0 G M r ow h0 x) (kd_Mo_noElement T) (ki_Mo T) (km_Mo_254 T) (ka_Mo_noElement T) (ks_Mo_noElement T) ⟨by decide, by decide, by rfl⟩ (rv_Mo hK hw rfl) rfl (Nat.le_of_ble_eq_true rfl) ⟨by decide, by decide⟩ ⟨by decide, by decide⟩ d_Mo_content_3 (fun v M1 r1 H locs hw hp => ?_) (fun x ek M1 r1 H locs hw hE hp => hp.elim)
  obtain ⟨rfl, hM1, hr1⟩ := hp
  rw [hM1, hr1] at hw
  clear hM1 hr1
  refine lv_if_ne hx hb d_Mo_content_6 rfl (fun h6 => ?_) (fun h6 => absurd h6 (by decide))
  refine lv_iconst (v := 1) hx hb d_Mo_content_13 (by decide) ?_
  refine lv_goto hx hb d_Mo_content_14 rfl ?_
  refine pf_Mo_thrown hx hb T hown hK hw rfl (kf_Mo_65 T) d_Mo_content_31 (fun H locs hw => ?_)
  refine lv_aload_n hx hb d_Mo_content_34 rfl (lv_at hl 0 rfl) ?_
  refine gf_Mo_thrown hx hb T hown hK hw rfl (kf_Mo_65 T) d_Mo_content_35 ?_
  refine lv_if_eq hx hb d_Mo_content_38 rfl (fun h38 => absurd h38 (by rw [mS_same]; decide)) (fun h38 => ?_)
  refine lv_iconst (v := 0) hx hb d_Mo_content_41 (by decide) ?_
  refine lv_goto hx hb d_Mo_content_42 rfl ?_
  exact gr_z B hw (by rfl) d_Mo_content_52 ⟨rfl, rfl, rfl⟩
set_option maxHeartbeats 4000000 in
set_option maxRecDepth 100000 in
theorem c_Mo_space_0 {l : Launch} {s0 : State} {D : va_G} {aC : Nat → ClassId} {a0 : Array Value} (G : gG l s0 D aC a0) (M : gMem) (r : gRef) (ow : Int64) (h0 : M 106 0 = 0) (x z : Int32) : gMet l s0 D aC y_Mo_space (Cond.code y_Mo_space b_Mo_space 4 (some .char)) 1 40 0 0 [.ref (s0.heap.size + 383), .int x, .int z] M r ow (fun v M1 r1 => v = some (.int 0) ∧ M1 = mS M 100 0 1 ∧ r1 = r) (fun _ _ _ => False) := by
  refine gm_of G (by decide) (Nat.le_of_ble_eq_true rfl) ?_
  intro p e s m below meth c ls B hexc hl hw
  have hx := B.1
  have hb := B.2.1
  have hown := B.2.2.2.2.2.1
  have T := B.2.2.2.2.2.2.1
  have hK := B.2.2.2.2.2.2.2.1
  refine lv_aload_n hx hb d_Mo_space_0 rfl (lv_at hl 0 rfl) ?_
  refine lv_aload_n hx hb d_Mo_space_1 rfl (lv_at hl 0 rfl) ?_
  refine lv_iload_n hx hb d_Mo_space_2 rfl (lv_at hl 1 rfl) ?_
  refine gy_V (As := [.int x]) B hl.1 hw (c_Mo_noElement_0 G M r ow h0 x) (kd_Mo_noElement T) (ki_Mo T) (km_Mo_254 T) (ka_Mo_noElement T) (ks_Mo_noElement T) ⟨by decide, by decide, by rfl⟩ (rv_Mo hK hw rfl) rfl (Nat.le_of_ble_eq_true rfl) ⟨by decide, by decide⟩ ⟨by decide, by decide⟩ d_Mo_space_3 (fun v M1 r1 H locs hw hp => ?_) (fun x ek M1 r1 H locs hw hE hp => hp.elim)
  obtain ⟨rfl, hM1, hr1⟩ := hp
  rw [hM1, hr1] at hw
  clear hM1 hr1
  refine lv_if_eq hx hb d_Mo_space_6 rfl (fun h6 => absurd h6 (by decide)) (fun h6 => ?_)
  refine lv_iconst (v := 1) hx hb d_Mo_space_9 (by decide) ?_
  refine lv_goto hx hb d_Mo_space_10 rfl ?_
  refine pf_Mo_thrown hx hb T hown hK hw rfl (kf_Mo_65 T) d_Mo_space_14 (fun H locs hw => ?_)
  refine lv_aload_n hx hb d_Mo_space_17 rfl (lv_at hl 0 rfl) ?_
  refine gf_Mo_thrown hx hb T hown hK hw rfl (kf_Mo_65 T) d_Mo_space_18 ?_
  refine lv_if_eq hx hb d_Mo_space_21 rfl (fun h21 => absurd h21 (by rw [mS_same]; decide)) (fun h21 => ?_)
  refine lv_iconst (v := 0) hx hb d_Mo_space_24 (by decide) ?_
  exact gr_z B hw (by rfl) d_Mo_space_25 ⟨rfl, rfl, rfl⟩
set_option maxHeartbeats 4000000 in
set_option maxRecDepth 100000 in
theorem c_Mo_form_0 {l : Launch} {s0 : State} {D : va_G} {aC : Nat → ClassId} {a0 : Array Value} (G : gG l s0 D aC a0) (M : gMem) (r : gRef) (ow : Int64) (h0 : M 106 0 = 0) : gMet l s0 D aC y_Mo_form (Cond.code y_Mo_form b_Mo_form 1 (some .int)) 0 0 0 0 [.ref (s0.heap.size + 383)] M r ow (fun v M1 r1 => v = some (.int 0) ∧ M1 = mS M 100 0 0 ∧ r1 = r) (fun _ _ _ => False) := by
  refine gm_of G (by decide) (Nat.le_of_ble_eq_true rfl) ?_
  intro p e s m below meth c ls B hexc hl hw
  have hx := B.1
  have hb := B.2.1
  have hown := B.2.2.2.2.2.1
  have T := B.2.2.2.2.2.2.1
  have hK := B.2.2.2.2.2.2.2.1
  refine lv_aload_n hx hb d_Mo_form_0 rfl (lv_at hl 0 rfl) ?_
  refine lv_iconst (v := 0) hx hb d_Mo_form_1 (by decide) ?_
  refine pf_Mo_thrown hx hb T hown hK hw rfl (kf_Mo_65 T) d_Mo_form_2 (fun H locs hw => ?_)
  refine lv_aload_n hx hb d_Mo_form_5 rfl (lv_at hl 0 rfl) ?_
  refine gf_Mo_tree hx hb T hown hK hw rfl (kf_Mo_189 T) d_Mo_form_6 ?_
  refine lv_if_eq hx hb d_Mo_form_9 rfl (fun h9 => ?_) (fun h9 => absurd (by rw [mS_tag M (t := 100) (t2 := 106) _ _ _ (by decide)]; exact h0) h9)
  refine lv_iconst (v := 0) hx hb d_Mo_form_19 (by decide) ?_
  exact gr_i B hw d_Mo_form_20 ⟨rfl, rfl, rfl⟩
set_option maxHeartbeats 4000000 in
set_option maxRecDepth 100000 in
theorem c_Mo_formAt_0 {l : Launch} {s0 : State} {D : va_G} {aC : Nat → ClassId} {a0 : Array Value} (G : gG l s0 D aC a0) (M : gMem) (r : gRef) (ow : Int64) (h0 : M 106 0 = 0) (x : Int32) : gMet l s0 D aC y_Mo_formAt (Cond.code y_Mo_formAt b_Mo_formAt 2 (some .char)) 0 0 0 0 [.ref (s0.heap.size + 383), .int x] M r ow (fun v M1 r1 => v = some (.int 0) ∧ M1 = mS M 100 0 1 ∧ r1 = r) (fun _ _ _ => False) := by
  refine gm_of G (by decide) (Nat.le_of_ble_eq_true rfl) ?_
  intro p e s m below meth c ls B hexc hl hw
  have hx := B.1
  have hb := B.2.1
  have hown := B.2.2.2.2.2.1
  have T := B.2.2.2.2.2.2.1
  have hK := B.2.2.2.2.2.2.2.1
  refine lv_aload_n hx hb d_Mo_formAt_0 rfl (lv_at hl 0 rfl) ?_
  refine lv_aload_n hx hb d_Mo_formAt_1 rfl (lv_at hl 0 rfl) ?_
  refine gf_Mo_tree hx hb T hown hK hw rfl (kf_Mo_189 T) d_Mo_formAt_2 ?_
  refine lv_if_eq hx hb d_Mo_formAt_5 rfl (fun h5 => ?_) (fun h5 => absurd h0 h5)
  refine lv_iconst (v := 1) hx hb d_Mo_formAt_20 (by decide) ?_
  refine lv_goto hx hb d_Mo_formAt_21 rfl ?_
  refine pf_Mo_thrown hx hb T hown hK hw rfl (kf_Mo_65 T) d_Mo_formAt_25 (fun H locs hw => ?_)
  refine lv_aload_n hx hb d_Mo_formAt_28 rfl (lv_at hl 0 rfl) ?_
  refine gf_Mo_thrown hx hb T hown hK hw rfl (kf_Mo_65 T) d_Mo_formAt_29 ?_
  refine lv_if_eq hx hb d_Mo_formAt_32 rfl (fun h32 => absurd h32 (by rw [mS_same]; decide)) (fun h32 => ?_)
  refine lv_iconst (v := 0) hx hb d_Mo_formAt_35 (by decide) ?_
  refine lv_goto hx hb d_Mo_formAt_36 rfl ?_
  exact gr_z B hw (by rfl) d_Mo_formAt_46 ⟨rfl, rfl, rfl⟩
set_option maxHeartbeats 4000000 in
set_option maxRecDepth 100000 in
theorem c_Mo_retype_0 {l : Launch} {s0 : State} {D : va_G} {aC : Nat → ClassId} {a0 : Array Value} (G : gG l s0 D aC a0) (M : gMem) (r : gRef) (ow : Int64) (h0 : M 106 0 = 0) : gMet l s0 D aC y_Mo_retype (Cond.code y_Mo_retype b_Mo_retype 2 (some .int)) 0 0 0 0 [.ref (s0.heap.size + 383)] M r ow (fun v M1 r1 => v = some (.int 0) ∧ M1 = mS M 100 0 1 ∧ r1 = r) (fun _ _ _ => False) := by
  refine gm_of G (by decide) (Nat.le_of_ble_eq_true rfl) ?_
  intro p e s m below meth c ls B hexc hl hw
  have hx := B.1
  have hb := B.2.1
  have hown := B.2.2.2.2.2.1
  have T := B.2.2.2.2.2.2.1
  have hK := B.2.2.2.2.2.2.2.1
  refine lv_aload_n hx hb d_Mo_retype_0 rfl (lv_at hl 0 rfl) ?_
  refine lv_aload_n hx hb d_Mo_retype_1 rfl (lv_at hl 0 rfl) ?_
  refine gf_Mo_tree hx hb T hown hK hw rfl (kf_Mo_189 T) d_Mo_retype_2 ?_
  refine lv_if_eq hx hb d_Mo_retype_5 rfl (fun h5 => ?_) (fun h5 => absurd h0 h5)
  refine lv_iconst (v := 1) hx hb d_Mo_retype_18 (by decide) ?_
  refine lv_goto hx hb d_Mo_retype_19 rfl ?_
  refine pf_Mo_thrown hx hb T hown hK hw rfl (kf_Mo_65 T) d_Mo_retype_23 (fun H locs hw => ?_)
  refine lv_aload_n hx hb d_Mo_retype_26 rfl (lv_at hl 0 rfl) ?_
  refine gf_Mo_thrown hx hb T hown hK hw rfl (kf_Mo_65 T) d_Mo_retype_27 ?_
  refine lv_if_eq hx hb d_Mo_retype_30 rfl (fun h30 => absurd h30 (by rw [mS_same]; decide)) (fun h30 => ?_)
  refine lv_iconst (v := 0) hx hb d_Mo_retype_33 (by decide) ?_
  exact gr_i B hw d_Mo_retype_34 ⟨rfl, rfl, rfl⟩
set_option maxHeartbeats 4000000 in
set_option maxRecDepth 100000 in
theorem c_Mo_keep_0 {l : Launch} {s0 : State} {D : va_G} {aC : Nat → ClassId} {a0 : Array Value} (G : gG l s0 D aC a0) (M : gMem) (r : gRef) (ow : Int64) (h0 : M 106 0 = 0) : gMet l s0 D aC y_Mo_keep (Cond.code y_Mo_keep b_Mo_keep 2 none) 0 0 0 0 [.ref (s0.heap.size + 383)] M r ow (fun v M1 r1 => v = none ∧ M1 = mS M 100 0 1 ∧ r1 = r) (fun _ _ _ => False) := by
  refine gm_of G (by decide) (Nat.le_of_ble_eq_true rfl) ?_
  intro p e s m below meth c ls B hexc hl hw
  have hx := B.1
  have hb := B.2.1
  have hown := B.2.2.2.2.2.1
  have T := B.2.2.2.2.2.2.1
  have hK := B.2.2.2.2.2.2.2.1
  refine lv_aload_n hx hb d_Mo_keep_0 rfl (lv_at hl 0 rfl) ?_
  refine lv_aload_n hx hb d_Mo_keep_1 rfl (lv_at hl 0 rfl) ?_
  refine gf_Mo_tree hx hb T hown hK hw rfl (kf_Mo_189 T) d_Mo_keep_2 ?_
  refine lv_if_eq hx hb d_Mo_keep_5 rfl (fun h5 => ?_) (fun h5 => absurd h0 h5)
  refine lv_iconst (v := 1) hx hb d_Mo_keep_12 (by decide) ?_
  refine pf_Mo_thrown hx hb T hown hK hw rfl (kf_Mo_65 T) d_Mo_keep_13 (fun H locs hw => ?_)
  refine lv_aload_n hx hb d_Mo_keep_16 rfl (lv_at hl 0 rfl) ?_
  refine gf_Mo_tree hx hb T hown hK hw rfl (kf_Mo_189 T) d_Mo_keep_17 ?_
  refine lv_if_eq hx hb d_Mo_keep_20 rfl (fun h20 => ?_) (fun h20 => absurd (by rw [mS_tag M (t := 100) (t2 := 106) _ _ _ (by decide)]; exact h0) h20)
  exact gr_v B hw d_Mo_keep_64 ⟨rfl, rfl, rfl⟩
set_option maxHeartbeats 4000000 in
set_option maxRecDepth 100000 in
theorem c_Mo_same_0 {l : Launch} {s0 : State} {D : va_G} {aC : Nat → ClassId} {a0 : Array Value} (G : gG l s0 D aC a0) (M : gMem) (r : gRef) (ow : Int64) (h0 : M 106 0 = 0) : gMet l s0 D aC y_Mo_same (Cond.code y_Mo_same b_Mo_same 3 (some .boolean)) 0 0 0 0 [.ref (s0.heap.size + 383)] M r ow (fun v M1 r1 => v = some (.int 0) ∧ M1 = mS M 100 0 0 ∧ r1 = r) (fun _ _ _ => False) := by
  refine gm_of G (by decide) (Nat.le_of_ble_eq_true rfl) ?_
  intro p e s m below meth c ls B hexc hl hw
  have hx := B.1
  have hb := B.2.1
  have hown := B.2.2.2.2.2.1
  have T := B.2.2.2.2.2.2.1
  have hK := B.2.2.2.2.2.2.2.1
  refine lv_aload_n hx hb d_Mo_same_0 rfl (lv_at hl 0 rfl) ?_
  refine lv_iconst (v := 0) hx hb d_Mo_same_1 (by decide) ?_
  refine pf_Mo_thrown hx hb T hown hK hw rfl (kf_Mo_65 T) d_Mo_same_2 (fun H locs hw => ?_)
  refine lv_aload_n hx hb d_Mo_same_5 rfl (lv_at hl 0 rfl) ?_
  refine gf_Mo_tree hx hb T hown hK hw rfl (kf_Mo_189 T) d_Mo_same_6 ?_
  refine lv_if_eq hx hb d_Mo_same_9 rfl (fun h9 => ?_) (fun h9 => absurd (by rw [mS_tag M (t := 100) (t2 := 106) _ _ _ (by decide)]; exact h0) h9)
  refine lv_iconst (v := 0) hx hb d_Mo_same_34 (by decide) ?_
  refine lv_istore_n hx hb d_Mo_same_35 rfl hl (by decide) rfl (fun ls hl => ?_)
  refine lv_iconst (v := 0) hx hb d_Mo_same_36 (by decide) ?_
  refine lv_istore_n hx hb d_Mo_same_37 rfl hl (by decide) rfl (fun ls hl => ?_)
  refine lv_iload_n hx hb d_Mo_same_38 rfl (lv_at hl 0 rfl) ?_
  refine lv_aload_n hx hb d_Mo_same_39 rfl (lv_at hl 2 rfl) ?_
  refine gf_Mo_formed hx hb T hown hK hw rfl (kf_Mo_221 T) d_Mo_same_40 ?_
  refine lv_icmp_ge hx hb d_Mo_same_43 rfl (fun h43 => ?_) (fun h43 => ?_)
  · skip
    refine lv_iload_n hx hb d_Mo_same_77 rfl (lv_at hl 1 rfl) ?_
    exact gr_z B hw (by rfl) d_Mo_same_78 ⟨rfl, rfl, rfl⟩
  · skip
    refine lv_iload_n hx hb d_Mo_same_46 rfl (lv_at hl 1 rfl) ?_
    refine lv_if_eq hx hb d_Mo_same_47 rfl (fun h47 => ?_) (fun h47 => absurd rfl h47)
    refine lv_iload_n hx hb d_Mo_same_77 rfl (lv_at hl 1 rfl) ?_
    exact gr_z B hw (by rfl) d_Mo_same_78 ⟨rfl, rfl, rfl⟩
set_option maxHeartbeats 4000000 in
set_option maxRecDepth 100000 in
theorem c_Mo_skip_0 {l : Launch} {s0 : State} {D : va_G} {aC : Nat → ClassId} {a0 : Array Value} (G : gG l s0 D aC a0) (M : gMem) (r : gRef) (ow : Int64) (hs : M 101 0 = 0) (ha : M 103 0 = 0) : gMet l s0 D aC y_Mo_skip (Cond.code y_Mo_skip b_Mo_skip 2 (some .int)) 1 40 0 0 [.ref (s0.heap.size + 383)] M r ow (fun v M1 r1 => v = some (.int 0) ∧ M1 = M ∧ r1 = r) (fun _ _ _ => False) := by
  refine gm_of G (by decide) (Nat.le_of_ble_eq_true rfl) ?_
  intro p e s m below meth c ls B hexc hl hw
  have hx := B.1
  have hb := B.2.1
  have hown := B.2.2.2.2.2.1
  have T := B.2.2.2.2.2.2.1
  have hK := B.2.2.2.2.2.2.2.1
  refine lv_iconst (v := 0) hx hb d_Mo_skip_0 (by decide) ?_
  refine lv_istore_n hx hb d_Mo_skip_1 rfl hl (by decide) rfl (fun ls hl => ?_)
  refine lv_aload_n hx hb d_Mo_skip_2 rfl (lv_at hl 1 rfl) ?_
  refine lv_aload_n hx hb d_Mo_skip_3 rfl (lv_at hl 1 rfl) ?_
  refine lv_aload_n hx hb d_Mo_skip_4 rfl (lv_at hl 1 rfl) ?_
  refine gf_Mo_at hx hb T hown hK hw rfl (kf_Mo_81 T) d_Mo_skip_5 ?_
  refine gy_V (As := [.int (M 103 0)]) B hl.1 hw (c_Mo_here G M r ow 0 (by decide) hs (M 103 0) (by rw [ha]; decide)) (kd_Mo_here T) (ki_Mo T) (km_Mo_84 T) (ka_Mo_here T) (ks_Mo_here T) ⟨by decide, by decide, by rfl⟩ (rv_Mo hK hw rfl) rfl (Nat.le_of_ble_eq_true rfl) ⟨by decide, by decide⟩ ⟨by decide, by decide⟩ d_Mo_skip_8 (fun v M1 r1 H locs hw hp => ?_) (fun x ek M1 r1 H locs hw hE hp => hp.elim)
  obtain ⟨rfl, hM1, hr1⟩ := hp
  rw [hM1, hr1] at hw
  clear hM1 hr1
  rw [show hMo M (M 103 0) = 0 from if_pos (by rw [hs, ha]; decide)]
  refine gy_V (As := [.int 0]) B hl.1 hw (c_Mo_blank G M r ow 0) (kd_Mo_blank T) (ki_Mo T) (km_Mo_92 T) (ka_Mo_blank T) (ks_Mo_blank T) ⟨by decide, by decide, by rfl⟩ (rv_Mo hK hw rfl) rfl (Nat.le_of_ble_eq_true rfl) ⟨by decide, by decide⟩ ⟨by decide, by decide⟩ d_Mo_skip_11 (fun v M1 r1 H locs hw hp => ?_) (fun x ek M1 r1 H locs hw hE hp => hp.elim)
  obtain ⟨rfl, hM1, hr1⟩ := hp
  rw [hM1, hr1] at hw
  clear hM1 hr1
  refine lv_if_eq hx hb d_Mo_skip_14 rfl (fun h14 => ?_) (fun h14 => absurd rfl h14)
  refine lv_iload_n hx hb d_Mo_skip_33 rfl (lv_at hl 0 rfl) ?_
  exact gr_i B hw d_Mo_skip_34 ⟨rfl, rfl, rfl⟩
set_option maxHeartbeats 4000000 in
set_option maxRecDepth 100000 in
theorem c_Mo_around_0 {l : Launch} {s0 : State} {D : va_G} {aC : Nat → ClassId} {a0 : Array Value} (G : gG l s0 D aC a0) (M : gMem) (r : gRef) (ow : Int64) (hs : M 101 0 = 0) (ha : M 103 0 = 0) : gMet l s0 D aC y_Mo_around (Cond.code y_Mo_around b_Mo_around 3 (some .boolean)) 2 80 0 0 [.ref (s0.heap.size + 383), .int 1] M r ow (fun v M1 r1 => v = some (.int 0) ∧ M1 = mS (mS M 104 0 1) 105 0 0 ∧ r1 = r) (fun _ _ _ => False) := by
  refine gm_of G (by decide) (Nat.le_of_ble_eq_true rfl) ?_
  intro p e s m below meth c ls B hexc hl hw
  have hx := B.1
  have hb := B.2.1
  have hown := B.2.2.2.2.2.1
  have T := B.2.2.2.2.2.2.1
  have hK := B.2.2.2.2.2.2.2.1
  refine lv_aload_n hx hb d_Mo_around_0 rfl (lv_at hl 0 rfl) ?_
  refine gy_V (As := []) B hl.1 hw (c_Mo_skip_0 G M r ow hs ha) (kd_Mo_skip T) (ki_Mo T) (km_Mo_98 T) (ka_Mo_skip T) (ks_Mo_skip T) ⟨by decide, by decide, by rfl⟩ (rv_Mo hK hw rfl) rfl (Nat.le_of_ble_eq_true rfl) ⟨by decide, by decide⟩ ⟨by decide, by decide⟩ d_Mo_around_1 (fun v M1 r1 H locs hw hp => ?_) (fun x ek M1 r1 H locs hw hE hp => hp.elim)
  obtain ⟨rfl, hM1, hr1⟩ := hp
  rw [hM1, hr1] at hw
  clear hM1 hr1
  refine lv_istore_n hx hb d_Mo_around_4 rfl hl (by decide) rfl (fun ls hl => ?_)
  refine lv_aload_n hx hb d_Mo_around_5 rfl (lv_at hl 1 rfl) ?_
  refine gf_Mo_at hx hb T hown hK hw rfl (kf_Mo_81 T) d_Mo_around_6 ?_
  refine lv_aload_n hx hb d_Mo_around_9 rfl (lv_at hl 1 rfl) ?_
  refine gf_Mo_typed hx hb T hown hK hw rfl (kf_Mo_72 T) d_Mo_around_10 ?_
  refine lv_icmp_ne hx hb d_Mo_around_13 rfl (fun h13 => absurd h13 (fun q => q (by rw [hs, ha]))) (fun h13 => ?_)
  refine lv_iload_n hx hb d_Mo_around_16 rfl (lv_at hl 2 rfl) ?_
  refine lv_if_eq hx hb d_Mo_around_17 rfl (fun h17 => absurd h17 (by decide)) (fun h17 => ?_)
  refine lv_aload_n hx hb d_Mo_around_20 rfl (lv_at hl 1 rfl) ?_
  refine lv_iconst (v := 1) hx hb d_Mo_around_21 (by decide) ?_
  refine lv_aload_n hx hb d_Mo_around_22 rfl (lv_at hl 1 rfl) ?_
  refine gf_Mo_at hx hb T hown hK hw rfl (kf_Mo_81 T) d_Mo_around_23 ?_
  refine gy_V (As := [.int 1, .int (M 103 0)]) B hl.1 hw (c_Mo_fail G M r ow 1 (M 103 0)) (kd_Mo_fail T) (ki_Mo T) (km_Mo_88 T) (ka_Mo_fail T) (ks_Mo_fail T) ⟨by decide, by decide, by rfl⟩ (rv_Mo hK hw rfl) rfl (Nat.le_of_ble_eq_true rfl) ⟨by decide, by decide⟩ ⟨by decide, by decide⟩ d_Mo_around_26 (fun v M1 r1 H locs hw hp => ?_) (fun x ek M1 r1 H locs hw hE hp => hp.elim)
  obtain ⟨rfl, hM1, hr1⟩ := hp
  rw [hM1, hr1, ha] at hw
  clear hM1 hr1
  refine lv_goto hx hb d_Mo_around_29 rfl ?_
  exact gr_z B hw (by rfl) d_Mo_around_41 ⟨rfl, rfl, rfl⟩
set_option maxHeartbeats 4000000 in
set_option maxRecDepth 100000 in
theorem c_Mo_read_0 {l : Launch} {s0 : State} {D : va_G} {aC : Nat → ClassId} {a0 : Array Value} (G : gG l s0 D aC a0) (M : gMem) (r : gRef) (ow : Int64) (hs : M 101 0 = 0) : gMet l s0 D aC y_Mo_read (Cond.code y_Mo_read b_Mo_read 1 (some .int)) 3 120 0 0 [.ref (s0.heap.size + 383)] M r ow (fun v M1 r1 => v = some (.int 0) ∧ M1 = mM0 M ∧ r1 = r) (fun _ _ _ => False) := by
  refine gm_of G (by decide) (Nat.le_of_ble_eq_true rfl) ?_
  intro p e s m below meth c ls B hexc hl hw
  have hx := B.1
  have hb := B.2.1
  have hown := B.2.2.2.2.2.1
  have T := B.2.2.2.2.2.2.1
  have hK := B.2.2.2.2.2.2.2.1
  refine lv_aload_n hx hb d_Mo_read_0 rfl (lv_at hl 0 rfl) ?_
  refine lv_iconst (v := 0) hx hb d_Mo_read_1 (by decide) ?_
  refine pf_Mo_at hx hb T hown hK hw rfl (kf_Mo_81 T) d_Mo_read_2 (fun H locs hw => ?_)
  refine lv_aload_n hx hb d_Mo_read_5 rfl (lv_at hl 0 rfl) ?_
  refine lv_iconst (v := 0) hx hb d_Mo_read_6 (by decide) ?_
  refine pf_Mo_reason hx hb T hown hK hw rfl (kf_Mo_78 T) d_Mo_read_7 (fun H locs hw => ?_)
  refine lv_aload_n hx hb d_Mo_read_10 rfl (lv_at hl 0 rfl) ?_
  refine lv_iconst (v := -1) hx hb d_Mo_read_11 (by decide) ?_
  refine pf_Mo_place hx hb T hown hK hw rfl (kf_Mo_13 T) d_Mo_read_12 (fun H locs hw => ?_)
  refine lv_aload_n hx hb d_Mo_read_15 rfl (lv_at hl 0 rfl) ?_
  refine lv_iconst (v := 0) hx hb d_Mo_read_16 (by decide) ?_
  refine pf_Mo_used hx hb T hown hK hw rfl (kf_Mo_106 T) d_Mo_read_17 (fun H locs hw => ?_)
  refine lv_aload_n hx hb d_Mo_read_20 rfl (lv_at hl 0 rfl) ?_
  refine lv_iconst (v := 0) hx hb d_Mo_read_21 (by decide) ?_
  refine pf_Mo_elements hx hb T hown hK hw rfl (kf_Mo_147 T) d_Mo_read_22 (fun H locs hw => ?_)
  refine lv_aload_n hx hb d_Mo_read_25 rfl (lv_at hl 0 rfl) ?_
  refine lv_iconst (v := 0) hx hb d_Mo_read_26 (by decide) ?_
  refine pf_Mo_events hx hb T hown hK hw rfl (kf_Mo_163 T) d_Mo_read_27 (fun H locs hw => ?_)
  refine lv_aload_n hx hb d_Mo_read_30 rfl (lv_at hl 0 rfl) ?_
  refine lv_iconst (v := -1) hx hb d_Mo_read_31 (by decide) ?_
  refine pf_Mo_open hx hb T hown hK hw rfl (kf_Mo_150 T) d_Mo_read_32 (fun H locs hw => ?_)
  refine lv_aload_n hx hb d_Mo_read_35 rfl (lv_at hl 0 rfl) ?_
  refine lv_iconst (v := 0) hx hb d_Mo_read_36 (by decide) ?_
  refine pf_Mo_depth hx hb T hown hK hw rfl (kf_Mo_144 T) d_Mo_read_37 (fun H locs hw => ?_)
  refine lv_aload_n hx hb d_Mo_read_40 rfl (lv_at hl 0 rfl) ?_
  refine lv_aload_n hx hb d_Mo_read_41 rfl (lv_at hl 0 rfl) ?_
  refine lv_iconst (v := 1) hx hb d_Mo_read_42 (by decide) ?_
  refine gy_V (As := [.int 1]) B hl.1 hw (c_Mo_around_0 G (mMb M) r ow (by simp [mMb, mS]; exact hs) (by simp [mMb, mS])) (kd_Mo_around T) (ki_Mo T) (km_Mo_182 T) (ka_Mo_around T) (ks_Mo_around T) ⟨by decide, by decide, by rfl⟩ (rv_Mo hK hw rfl) rfl (Nat.le_of_ble_eq_true rfl) ⟨by decide, by decide⟩ ⟨by decide, by decide⟩ d_Mo_read_43 (fun v M1 r1 H locs hw hp => ?_) (fun x ek M1 r1 H locs hw hE hp => hp.elim)
  obtain ⟨rfl, hM1, hr1⟩ := hp
  rw [hM1, hr1] at hw
  clear hM1 hr1
  refine lv_if_eq hx hb d_Mo_read_46 rfl (fun h46 => ?_) (fun h46 => absurd rfl h46)
  refine lv_iconst (v := 0) hx hb d_Mo_read_75 (by decide) ?_
  refine pf_Mo_tree hx hb T hown hK hw rfl (Or.inl rfl) (kf_Mo_189 T) d_Mo_read_76 (fun H locs hw => ?_)
  refine lv_aload_n hx hb d_Mo_read_79 rfl (lv_at hl 0 rfl) ?_
  refine lv_aload_n hx hb d_Mo_read_80 rfl (lv_at hl 0 rfl) ?_
  refine gf_Mo_tree hx hb T hown hK hw rfl (kf_Mo_189 T) d_Mo_read_81 ?_
  refine lv_if_eq hx hb d_Mo_read_84 rfl (fun h84 => ?_) (fun h84 => absurd (mS_same _ _ _ _) h84)
  refine lv_iconst (v := 1) hx hb d_Mo_read_91 (by decide) ?_
  refine pf_Mo_thrown hx hb T hown hK hw rfl (kf_Mo_65 T) d_Mo_read_92 (fun H locs hw => ?_)
  refine lv_aload_n hx hb d_Mo_read_95 rfl (lv_at hl 0 rfl) ?_
  refine gf_Mo_tree hx hb T hown hK hw rfl (kf_Mo_189 T) d_Mo_read_96 ?_
  refine lv_if_eq hx hb d_Mo_read_99 rfl (fun h99 => ?_) (fun h99 => absurd (by rw [mS_tag _ (t := 100) (t2 := 106) _ _ _ (by decide)]; exact mS_same _ _ _ _) h99)
  refine lv_aload_n hx hb d_Mo_read_106 rfl (lv_at hl 0 rfl) ?_
  refine gf_Mo_tree hx hb T hown hK hw rfl (kf_Mo_189 T) d_Mo_read_107 ?_
  refine lv_if_eq hx hb d_Mo_read_110 rfl (fun h110 => ?_) (fun h110 => absurd (by rw [mS_tag _ (t := 100) (t2 := 106) _ _ _ (by decide)]; exact mS_same _ _ _ _) h110)
  refine lv_iconst (v := 0) hx hb d_Mo_read_120 (by decide) ?_
  exact gr_i B hw d_Mo_read_121 ⟨rfl, rfl, rfl⟩
