/-! calls where there is no tree, reading nothing -/
def fnd (M : gMem) (x : Int32) : Option Nat := if x < 0 then none else if M 2 0 ≤ x then none else some x.toNatClampNeg
theorem fnd_0 {M : gMem} (h : M 2 0 = 0) (x : Int32) : fnd M x = none := by
  unfold fnd
  split
  · rfl
  · rw [h, if_pos]
    rename_i h2
    exact Int32.not_lt.mp h2
/-- the state when a reading of n characters begins -/
def mBeg (M : gMem) (n : Nat) : gMem := mS (mS (mS (mS (mS (mS (mS (mCp M 2 0 n) 0 3 0) 0 4 0) 2 0 0) 0 5 0) 35 0 0) 36 0 0) 37 0 (-1)
theorem d_Tr_find_0 : decode b_Tr_find 0 = .ok (.iload_n 1, 1) := by decide +kernel
theorem d_Tr_find_1 : decode b_Tr_find 1 = .ok (.ifCond .lt 20, 3) := by decide +kernel
theorem d_Tr_find_4 : decode b_Tr_find 4 = .ok (.iload_n 1, 1) := by decide +kernel
theorem d_Tr_find_5 : decode b_Tr_find 5 = .ok (.aload_n 0, 1) := by decide +kernel
theorem d_Tr_find_6 : decode b_Tr_find 6 = .ok (.getfield 43, 3) := by decide +kernel
theorem d_Tr_find_9 : decode b_Tr_find 9 = .ok (.if_icmp .ge 12, 3) := by decide +kernel
theorem d_Tr_find_12 : decode b_Tr_find 12 = .ok (.aload_n 0, 1) := by decide +kernel
theorem d_Tr_find_13 : decode b_Tr_find 13 = .ok (.getfield 32, 3) := by decide +kernel
theorem d_Tr_find_16 : decode b_Tr_find 16 = .ok (.iload_n 1, 1) := by decide +kernel
theorem d_Tr_find_17 : decode b_Tr_find 17 = .ok (.aaload, 1) := by decide +kernel
theorem d_Tr_find_18 : decode b_Tr_find 18 = .ok (.goto 4, 3) := by decide +kernel
theorem d_Tr_find_21 : decode b_Tr_find 21 = .ok (.aconst_null, 1) := by decide +kernel
theorem d_Tr_find_22 : decode b_Tr_find 22 = .ok (.areturn, 1) := by decide +kernel
theorem d_MR_element_0 : decode b_MR_element 0 = .ok (.aload_n 0, 1) := by decide +kernel
theorem d_MR_element_1 : decode b_MR_element 1 = .ok (.getfield 24, 3) := by decide +kernel
theorem d_MR_element_4 : decode b_MR_element 4 = .ok (.iload_n 1, 1) := by decide +kernel
theorem d_MR_element_5 : decode b_MR_element 5 = .ok (.invokevirtual 81, 3) := by decide +kernel
theorem d_MR_element_8 : decode b_MR_element 8 = .ok (.astore_n 3, 1) := by decide +kernel
theorem d_MR_element_9 : decode b_MR_element 9 = .ok (.aload_n 3, 1) := by decide +kernel
theorem d_MR_element_10 : decode b_MR_element 10 = .ok (.ifnonnull 13, 3) := by decide +kernel
theorem d_MR_element_13 : decode b_MR_element 13 = .ok (.new 85, 3) := by decide +kernel
theorem d_MR_element_16 : decode b_MR_element 16 = .ok (.dup, 1) := by decide +kernel
theorem d_MR_element_17 : decode b_MR_element 17 = .ok (.ldc 87, 2) := by decide +kernel
theorem d_MR_element_19 : decode b_MR_element 19 = .ok (.invokespecial 89, 3) := by decide +kernel
theorem d_MR_element_22 : decode b_MR_element 22 = .ok (.athrow, 1) := by decide +kernel
theorem d_MR_element_23 : decode b_MR_element 23 = .ok (.iload_n 2, 1) := by decide +kernel
theorem d_MR_element_24 : decode b_MR_element 24 = .ok (.tableswitch 100 0 4 #[36, 55, 60, 70, 75], 36) := by decide +kernel
theorem d_MR_element_60 : decode b_MR_element 60 = .ok (.aload_n 3, 1) := by decide +kernel
theorem d_MR_element_61 : decode b_MR_element 61 = .ok (.getfield 90, 3) := by decide +kernel
theorem d_MR_element_64 : decode b_MR_element 64 = .ok (.ifnonnull 7, 3) := by decide +kernel
theorem d_MR_element_67 : decode b_MR_element 67 = .ok (.iconst (-1), 1) := by decide +kernel
theorem d_MR_element_68 : decode b_MR_element 68 = .ok (.goto 10, 3) := by decide +kernel
theorem d_MR_element_71 : decode b_MR_element 71 = .ok (.aload_n 3, 1) := by decide +kernel
theorem d_MR_element_72 : decode b_MR_element 72 = .ok (.getfield 90, 3) := by decide +kernel
theorem d_MR_element_75 : decode b_MR_element 75 = .ok (.getfield 96, 3) := by decide +kernel
theorem d_MR_element_78 : decode b_MR_element 78 = .ok (.ireturn, 1) := by decide +kernel
theorem d_MR_element_79 : decode b_MR_element 79 = .ok (.aload_n 3, 1) := by decide +kernel
theorem d_MR_element_80 : decode b_MR_element 80 = .ok (.getfield 99, 3) := by decide +kernel
theorem d_MR_element_83 : decode b_MR_element 83 = .ok (.ireturn, 1) := by decide +kernel
theorem d_MR_element_84 : decode b_MR_element 84 = .ok (.aload_n 3, 1) := by decide +kernel
theorem d_MR_element_85 : decode b_MR_element 85 = .ok (.getfield 102, 3) := by decide +kernel
theorem d_MR_element_88 : decode b_MR_element 88 = .ok (.aload_n 3, 1) := by decide +kernel
theorem d_MR_element_89 : decode b_MR_element 89 = .ok (.getfield 105, 3) := by decide +kernel
theorem d_MR_element_92 : decode b_MR_element 92 = .ok (.isub, 1) := by decide +kernel
theorem d_MR_element_93 : decode b_MR_element 93 = .ok (.ireturn, 1) := by decide +kernel
theorem d_MR_element_94 : decode b_MR_element 94 = .ok (.aload_n 3, 1) := by decide +kernel
theorem d_MR_element_95 : decode b_MR_element 95 = .ok (.getfield 108, 3) := by decide +kernel
theorem d_MR_element_98 : decode b_MR_element 98 = .ok (.ireturn, 1) := by decide +kernel
theorem d_MR_element_99 : decode b_MR_element 99 = .ok (.aload_n 3, 1) := by decide +kernel
theorem d_MR_element_100 : decode b_MR_element 100 = .ok (.getfield 111, 3) := by decide +kernel
theorem d_MR_element_103 : decode b_MR_element 103 = .ok (.invokevirtual 115, 3) := by decide +kernel
theorem d_MR_element_106 : decode b_MR_element 106 = .ok (.ifCond .eq 16, 3) := by decide +kernel
theorem d_MR_element_109 : decode b_MR_element 109 = .ok (.aload_n 3, 1) := by decide +kernel
theorem d_MR_element_110 : decode b_MR_element 110 = .ok (.getfield 111, 3) := by decide +kernel
theorem d_MR_element_113 : decode b_MR_element 113 = .ok (.getfield 121, 3) := by decide +kernel
theorem d_MR_element_116 : decode b_MR_element 116 = .ok (.invokevirtual 125, 3) := by decide +kernel
theorem d_MR_element_119 : decode b_MR_element 119 = .ok (.goto 4, 3) := by decide +kernel
theorem d_MR_element_122 : decode b_MR_element 122 = .ok (.iconst (-1), 1) := by decide +kernel
theorem d_MR_element_123 : decode b_MR_element 123 = .ok (.ireturn, 1) := by decide +kernel
theorem d_MR_element_124 : decode b_MR_element 124 = .ok (.new 50, 3) := by decide +kernel
theorem d_MR_element_127 : decode b_MR_element 127 = .ok (.dup, 1) := by decide +kernel
theorem d_MR_element_128 : decode b_MR_element 128 = .ok (.ldc 131, 2) := by decide +kernel
theorem d_MR_element_130 : decode b_MR_element 130 = .ok (.invokespecial 54, 3) := by decide +kernel
theorem d_MR_element_133 : decode b_MR_element 133 = .ok (.athrow, 1) := by decide +kernel
theorem d_MR_name_0 : decode b_MR_name 0 = .ok (.aload_n 0, 1) := by decide +kernel
theorem d_MR_name_1 : decode b_MR_name 1 = .ok (.getfield 24, 3) := by decide +kernel
theorem d_MR_name_4 : decode b_MR_name 4 = .ok (.iload_n 1, 1) := by decide +kernel
theorem d_MR_name_5 : decode b_MR_name 5 = .ok (.invokevirtual 81, 3) := by decide +kernel
theorem d_MR_name_8 : decode b_MR_name 8 = .ok (.astore_n 3, 1) := by decide +kernel
theorem d_MR_name_9 : decode b_MR_name 9 = .ok (.aload_n 3, 1) := by decide +kernel
theorem d_MR_name_10 : decode b_MR_name 10 = .ok (.ifnull 26, 3) := by decide +kernel
theorem d_MR_name_13 : decode b_MR_name 13 = .ok (.iload_n 2, 1) := by decide +kernel
theorem d_MR_name_14 : decode b_MR_name 14 = .ok (.ifCond .lt 22, 3) := by decide +kernel
theorem d_MR_name_17 : decode b_MR_name 17 = .ok (.iload_n 2, 1) := by decide +kernel
theorem d_MR_name_18 : decode b_MR_name 18 = .ok (.aload_n 3, 1) := by decide +kernel
theorem d_MR_name_19 : decode b_MR_name 19 = .ok (.getfield 111, 3) := by decide +kernel
theorem d_MR_name_22 : decode b_MR_name 22 = .ok (.getfield 133, 3) := by decide +kernel
theorem d_MR_name_25 : decode b_MR_name 25 = .ok (.aload_n 3, 1) := by decide +kernel
theorem d_MR_name_26 : decode b_MR_name 26 = .ok (.getfield 111, 3) := by decide +kernel
theorem d_MR_name_29 : decode b_MR_name 29 = .ok (.getfield 136, 3) := by decide +kernel
theorem d_MR_name_32 : decode b_MR_name 32 = .ok (.isub, 1) := by decide +kernel
theorem d_MR_name_33 : decode b_MR_name 33 = .ok (.if_icmp .lt 13, 3) := by decide +kernel
theorem d_MR_name_36 : decode b_MR_name 36 = .ok (.new 85, 3) := by decide +kernel
theorem d_MR_name_39 : decode b_MR_name 39 = .ok (.dup, 1) := by decide +kernel
theorem d_MR_name_40 : decode b_MR_name 40 = .ok (.ldc 139, 2) := by decide +kernel
theorem d_MR_name_42 : decode b_MR_name 42 = .ok (.invokespecial 89, 3) := by decide +kernel
theorem d_MR_name_45 : decode b_MR_name 45 = .ok (.athrow, 1) := by decide +kernel
theorem d_MR_name_46 : decode b_MR_name 46 = .ok (.aload_n 0, 1) := by decide +kernel
theorem d_MR_name_47 : decode b_MR_name 47 = .ok (.getfield 24, 3) := by decide +kernel
theorem d_MR_name_50 : decode b_MR_name 50 = .ok (.getfield 141, 3) := by decide +kernel
theorem d_MR_name_53 : decode b_MR_name 53 = .ok (.aload_n 3, 1) := by decide +kernel
theorem d_MR_name_54 : decode b_MR_name 54 = .ok (.getfield 111, 3) := by decide +kernel
theorem d_MR_name_57 : decode b_MR_name 57 = .ok (.getfield 136, 3) := by decide +kernel
theorem d_MR_name_60 : decode b_MR_name 60 = .ok (.iload_n 2, 1) := by decide +kernel
theorem d_MR_name_61 : decode b_MR_name 61 = .ok (.iadd, 1) := by decide +kernel
theorem d_MR_name_62 : decode b_MR_name 62 = .ok (.invokevirtual 144, 3) := by decide +kernel
theorem d_MR_name_65 : decode b_MR_name 65 = .ok (.ireturn, 1) := by decide +kernel
theorem d_MR_content_0 : decode b_MR_content 0 = .ok (.aload_n 0, 1) := by decide +kernel
theorem d_MR_content_1 : decode b_MR_content 1 = .ok (.getfield 24, 3) := by decide +kernel
theorem d_MR_content_4 : decode b_MR_content 4 = .ok (.iload_n 1, 1) := by decide +kernel
theorem d_MR_content_5 : decode b_MR_content 5 = .ok (.invokevirtual 81, 3) := by decide +kernel
theorem d_MR_content_8 : decode b_MR_content 8 = .ok (.astore_n 3, 1) := by decide +kernel
theorem d_MR_content_9 : decode b_MR_content 9 = .ok (.aload_n 3, 1) := by decide +kernel
theorem d_MR_content_10 : decode b_MR_content 10 = .ok (.ifnonnull 7, 3) := by decide +kernel
theorem d_MR_content_13 : decode b_MR_content 13 = .ok (.iconst (-1), 1) := by decide +kernel
theorem d_MR_content_14 : decode b_MR_content 14 = .ok (.goto 12, 3) := by decide +kernel
theorem d_MR_content_17 : decode b_MR_content 17 = .ok (.aload_n 0, 1) := by decide +kernel
theorem d_MR_content_18 : decode b_MR_content 18 = .ok (.getfield 24, 3) := by decide +kernel
theorem d_MR_content_21 : decode b_MR_content 21 = .ok (.aload_n 3, 1) := by decide +kernel
theorem d_MR_content_22 : decode b_MR_content 22 = .ok (.iload_n 2, 1) := by decide +kernel
theorem d_MR_content_23 : decode b_MR_content 23 = .ok (.invokevirtual 148, 3) := by decide +kernel
theorem d_MR_content_26 : decode b_MR_content 26 = .ok (.istore 4, 2) := by decide +kernel
theorem d_MR_content_28 : decode b_MR_content 28 = .ok (.iload 4, 2) := by decide +kernel
theorem d_MR_content_30 : decode b_MR_content 30 = .ok (.iconst (-1), 1) := by decide +kernel
theorem d_MR_content_31 : decode b_MR_content 31 = .ok (.if_icmp .ne 13, 3) := by decide +kernel
theorem d_MR_content_34 : decode b_MR_content 34 = .ok (.new 85, 3) := by decide +kernel
theorem d_MR_content_37 : decode b_MR_content 37 = .ok (.dup, 1) := by decide +kernel
theorem d_MR_content_38 : decode b_MR_content 38 = .ok (.ldc 152, 2) := by decide +kernel
theorem d_MR_content_40 : decode b_MR_content 40 = .ok (.invokespecial 89, 3) := by decide +kernel
theorem d_MR_content_43 : decode b_MR_content 43 = .ok (.athrow, 1) := by decide +kernel
theorem d_MR_content_44 : decode b_MR_content 44 = .ok (.aload_n 0, 1) := by decide +kernel
theorem d_MR_content_45 : decode b_MR_content 45 = .ok (.getfield 24, 3) := by decide +kernel
theorem d_MR_content_48 : decode b_MR_content 48 = .ok (.getfield 154, 3) := by decide +kernel
theorem d_MR_content_51 : decode b_MR_content 51 = .ok (.iload 4, 2) := by decide +kernel
theorem d_MR_content_53 : decode b_MR_content 53 = .ok (.invokevirtual 144, 3) := by decide +kernel
theorem d_MR_content_56 : decode b_MR_content 56 = .ok (.ireturn, 1) := by decide +kernel
theorem d_MR_space_0 : decode b_MR_space 0 = .ok (.aload_n 0, 1) := by decide +kernel
theorem d_MR_space_1 : decode b_MR_space 1 = .ok (.getfield 24, 3) := by decide +kernel
theorem d_MR_space_4 : decode b_MR_space 4 = .ok (.iload_n 1, 1) := by decide +kernel
theorem d_MR_space_5 : decode b_MR_space 5 = .ok (.invokevirtual 81, 3) := by decide +kernel
theorem d_MR_space_8 : decode b_MR_space 8 = .ok (.astore_n 3, 1) := by decide +kernel
theorem d_MR_space_9 : decode b_MR_space 9 = .ok (.aload_n 3, 1) := by decide +kernel
theorem d_MR_space_10 : decode b_MR_space 10 = .ok (.ifnull 21, 3) := by decide +kernel
theorem d_MR_space_13 : decode b_MR_space 13 = .ok (.iload_n 2, 1) := by decide +kernel
theorem d_MR_space_14 : decode b_MR_space 14 = .ok (.ifCond .lt 17, 3) := by decide +kernel
theorem d_MR_space_17 : decode b_MR_space 17 = .ok (.iload_n 2, 1) := by decide +kernel
theorem d_MR_space_18 : decode b_MR_space 18 = .ok (.aload_n 3, 1) := by decide +kernel
theorem d_MR_space_19 : decode b_MR_space 19 = .ok (.getfield 111, 3) := by decide +kernel
theorem d_MR_space_22 : decode b_MR_space 22 = .ok (.getfield 121, 3) := by decide +kernel
theorem d_MR_space_25 : decode b_MR_space 25 = .ok (.invokevirtual 125, 3) := by decide +kernel
theorem d_MR_space_28 : decode b_MR_space 28 = .ok (.if_icmp .lt 13, 3) := by decide +kernel
theorem d_MR_space_31 : decode b_MR_space 31 = .ok (.new 85, 3) := by decide +kernel
theorem d_MR_space_34 : decode b_MR_space 34 = .ok (.dup, 1) := by decide +kernel
theorem d_MR_space_35 : decode b_MR_space 35 = .ok (.ldc 157, 2) := by decide +kernel
theorem d_MR_space_37 : decode b_MR_space 37 = .ok (.invokespecial 89, 3) := by decide +kernel
theorem d_MR_space_40 : decode b_MR_space 40 = .ok (.athrow, 1) := by decide +kernel
theorem d_MR_space_41 : decode b_MR_space 41 = .ok (.aload_n 0, 1) := by decide +kernel
theorem d_MR_space_42 : decode b_MR_space 42 = .ok (.getfield 24, 3) := by decide +kernel
theorem d_MR_space_45 : decode b_MR_space 45 = .ok (.getfield 159, 3) := by decide +kernel
theorem d_MR_space_48 : decode b_MR_space 48 = .ok (.aload_n 3, 1) := by decide +kernel
theorem d_MR_space_49 : decode b_MR_space 49 = .ok (.getfield 111, 3) := by decide +kernel
theorem d_MR_space_52 : decode b_MR_space 52 = .ok (.getfield 121, 3) := by decide +kernel
theorem d_MR_space_55 : decode b_MR_space 55 = .ok (.getfield 162, 3) := by decide +kernel
theorem d_MR_space_58 : decode b_MR_space 58 = .ok (.iload_n 2, 1) := by decide +kernel
theorem d_MR_space_59 : decode b_MR_space 59 = .ok (.iadd, 1) := by decide +kernel
theorem d_MR_space_60 : decode b_MR_space 60 = .ok (.invokevirtual 144, 3) := by decide +kernel
theorem d_MR_space_63 : decode b_MR_space 63 = .ok (.ireturn, 1) := by decide +kernel
theorem d_MR_retype_0 : decode b_MR_retype 0 = .ok (.aload_n 0, 1) := by decide +kernel
theorem d_MR_retype_1 : decode b_MR_retype 1 = .ok (.getfield 24, 3) := by decide +kernel
theorem d_MR_retype_4 : decode b_MR_retype 4 = .ok (.getfield 74, 3) := by decide +kernel
theorem d_MR_retype_7 : decode b_MR_retype 7 = .ok (.ifCond .eq 19, 3) := by decide +kernel
theorem d_MR_retype_10 : decode b_MR_retype 10 = .ok (.aload_n 0, 1) := by decide +kernel
theorem d_MR_retype_11 : decode b_MR_retype 11 = .ok (.getfield 33, 3) := by decide +kernel
theorem d_MR_retype_14 : decode b_MR_retype 14 = .ok (.getfield 165, 3) := by decide +kernel
theorem d_MR_retype_17 : decode b_MR_retype 17 = .ok (.getfield 57, 3) := by decide +kernel
theorem d_MR_retype_20 : decode b_MR_retype 20 = .ok (.sipush 240, 3) := by decide +kernel
theorem d_MR_retype_23 : decode b_MR_retype 23 = .ok (.if_icmp .le 13, 3) := by decide +kernel
theorem d_MR_retype_26 : decode b_MR_retype 26 = .ok (.new 61, 3) := by decide +kernel
theorem d_MR_retype_29 : decode b_MR_retype 29 = .ok (.dup, 1) := by decide +kernel
theorem d_MR_retype_30 : decode b_MR_retype 30 = .ok (.ldc 170, 2) := by decide +kernel
theorem d_MR_retype_32 : decode b_MR_retype 32 = .ok (.invokespecial 65, 3) := by decide +kernel
theorem d_MR_retype_35 : decode b_MR_retype 35 = .ok (.athrow, 1) := by decide +kernel
theorem d_MR_retype_36 : decode b_MR_retype 36 = .ok (.aload_n 0, 1) := by decide +kernel
theorem d_MR_retype_37 : decode b_MR_retype 37 = .ok (.getfield 14, 3) := by decide +kernel
theorem d_MR_retype_40 : decode b_MR_retype 40 = .ok (.aload_n 0, 1) := by decide +kernel
theorem d_MR_retype_41 : decode b_MR_retype 41 = .ok (.getfield 33, 3) := by decide +kernel
theorem d_MR_retype_44 : decode b_MR_retype 44 = .ok (.getfield 165, 3) := by decide +kernel
theorem d_MR_retype_47 : decode b_MR_retype 47 = .ok (.invokevirtual 172, 3) := by decide +kernel
theorem d_MR_retype_50 : decode b_MR_retype 50 = .ok (.aload_n 0, 1) := by decide +kernel
theorem d_MR_retype_51 : decode b_MR_retype 51 = .ok (.getfield 14, 3) := by decide +kernel
theorem d_MR_retype_54 : decode b_MR_retype 54 = .ok (.getfield 57, 3) := by decide +kernel
theorem d_MR_retype_57 : decode b_MR_retype 57 = .ok (.ireturn, 1) := by decide +kernel
theorem d_MR_keep_0 : decode b_MR_keep 0 = .ok (.aload_n 0, 1) := by decide +kernel
theorem d_MR_keep_1 : decode b_MR_keep 1 = .ok (.getfield 24, 3) := by decide +kernel
theorem d_MR_keep_4 : decode b_MR_keep 4 = .ok (.getfield 74, 3) := by decide +kernel
theorem d_MR_keep_7 : decode b_MR_keep 7 = .ok (.ifCond .ne 13, 3) := by decide +kernel
theorem d_MR_keep_10 : decode b_MR_keep 10 = .ok (.new 61, 3) := by decide +kernel
theorem d_MR_keep_13 : decode b_MR_keep 13 = .ok (.dup, 1) := by decide +kernel
theorem d_MR_keep_14 : decode b_MR_keep 14 = .ok (.ldc 175, 2) := by decide +kernel
theorem d_MR_keep_16 : decode b_MR_keep 16 = .ok (.invokespecial 65, 3) := by decide +kernel
theorem d_MR_keep_19 : decode b_MR_keep 19 = .ok (.athrow, 1) := by decide +kernel
theorem d_MR_keep_20 : decode b_MR_keep 20 = .ok (.aload_n 0, 1) := by decide +kernel
theorem d_MR_keep_21 : decode b_MR_keep 21 = .ok (.getfield 18, 3) := by decide +kernel
theorem d_MR_keep_24 : decode b_MR_keep 24 = .ok (.aload_n 0, 1) := by decide +kernel
theorem d_MR_keep_25 : decode b_MR_keep 25 = .ok (.getfield 33, 3) := by decide +kernel
theorem d_MR_keep_28 : decode b_MR_keep 28 = .ok (.getfield 165, 3) := by decide +kernel
theorem d_MR_keep_31 : decode b_MR_keep 31 = .ok (.invokevirtual 172, 3) := by decide +kernel
theorem d_MR_keep_34 : decode b_MR_keep 34 = .ok (.return_, 1) := by decide +kernel
theorem d_MR_same_0 : decode b_MR_same 0 = .ok (.aload_n 0, 1) := by decide +kernel
theorem d_MR_same_1 : decode b_MR_same 1 = .ok (.getfield 24, 3) := by decide +kernel
theorem d_MR_same_4 : decode b_MR_same 4 = .ok (.getfield 74, 3) := by decide +kernel
theorem d_MR_same_7 : decode b_MR_same 7 = .ok (.ifCond .le 24, 3) := by decide +kernel
theorem d_MR_same_10 : decode b_MR_same 10 = .ok (.aload_n 0, 1) := by decide +kernel
theorem d_MR_same_11 : decode b_MR_same 11 = .ok (.getfield 18, 3) := by decide +kernel
theorem d_MR_same_14 : decode b_MR_same 14 = .ok (.aload_n 0, 1) := by decide +kernel
theorem d_MR_same_15 : decode b_MR_same 15 = .ok (.getfield 33, 3) := by decide +kernel
theorem d_MR_same_18 : decode b_MR_same 18 = .ok (.getfield 165, 3) := by decide +kernel
theorem d_MR_same_21 : decode b_MR_same 21 = .ok (.invokevirtual 177, 3) := by decide +kernel
theorem d_MR_same_24 : decode b_MR_same 24 = .ok (.ifCond .eq 7, 3) := by decide +kernel
theorem d_MR_same_27 : decode b_MR_same 27 = .ok (.iconst 1, 1) := by decide +kernel
theorem d_MR_same_28 : decode b_MR_same 28 = .ok (.goto 4, 3) := by decide +kernel
theorem d_MR_same_31 : decode b_MR_same 31 = .ok (.iconst 0, 1) := by decide +kernel
theorem d_MR_same_32 : decode b_MR_same 32 = .ok (.ireturn, 1) := by decide +kernel
theorem d_Rd_beginWith_0 : decode b_Rd_beginWith 0 = .ok (.aload_n 0, 1) := by decide +kernel
theorem d_Rd_beginWith_1 : decode b_Rd_beginWith 1 = .ok (.getfield 32, 3) := by decide +kernel
theorem d_Rd_beginWith_4 : decode b_Rd_beginWith 4 = .ok (.aload_n 1, 1) := by decide +kernel
theorem d_Rd_beginWith_5 : decode b_Rd_beginWith 5 = .ok (.invokevirtual 104, 3) := by decide +kernel
theorem d_Rd_beginWith_8 : decode b_Rd_beginWith 8 = .ok (.aload_n 0, 1) := by decide +kernel
theorem d_Rd_beginWith_9 : decode b_Rd_beginWith 9 = .ok (.getfield 36, 3) := by decide +kernel
theorem d_Rd_beginWith_12 : decode b_Rd_beginWith 12 = .ok (.getfield 105, 3) := by decide +kernel
theorem d_Rd_beginWith_15 : decode b_Rd_beginWith 15 = .ok (.iconst 0, 1) := by decide +kernel
theorem d_Rd_beginWith_16 : decode b_Rd_beginWith 16 = .ok (.putfield 71, 3) := by decide +kernel
theorem d_Rd_beginWith_19 : decode b_Rd_beginWith 19 = .ok (.aload_n 0, 1) := by decide +kernel
theorem d_Rd_beginWith_20 : decode b_Rd_beginWith 20 = .ok (.iconst 0, 1) := by decide +kernel
theorem d_Rd_beginWith_21 : decode b_Rd_beginWith 21 = .ok (.putfield 18, 3) := by decide +kernel
theorem d_Rd_beginWith_24 : decode b_Rd_beginWith 24 = .ok (.aload_n 0, 1) := by decide +kernel
theorem d_Rd_beginWith_25 : decode b_Rd_beginWith 25 = .ok (.aconst_null, 1) := by decide +kernel
theorem d_Rd_beginWith_26 : decode b_Rd_beginWith 26 = .ok (.putfield 22, 3) := by decide +kernel
theorem d_Rd_beginWith_29 : decode b_Rd_beginWith 29 = .ok (.aload_n 0, 1) := by decide +kernel
theorem d_Rd_beginWith_30 : decode b_Rd_beginWith 30 = .ok (.iconst 0, 1) := by decide +kernel
theorem d_Rd_beginWith_31 : decode b_Rd_beginWith 31 = .ok (.putfield 26, 3) := by decide +kernel
theorem d_Rd_beginWith_34 : decode b_Rd_beginWith 34 = .ok (.aload_n 0, 1) := by decide +kernel
theorem d_Rd_beginWith_35 : decode b_Rd_beginWith 35 = .ok (.iconst (-1), 1) := by decide +kernel
theorem d_Rd_beginWith_36 : decode b_Rd_beginWith 36 = .ok (.putfield 29, 3) := by decide +kernel
theorem d_Rd_beginWith_39 : decode b_Rd_beginWith 39 = .ok (.return_, 1) := by decide +kernel
theorem d_Rd_passBlanksAndComments_0 : decode b_Rd_passBlanksAndComments 0 = .ok (.aload_n 0, 1) := by decide +kernel
theorem d_Rd_passBlanksAndComments_1 : decode b_Rd_passBlanksAndComments 1 = .ok (.invokevirtual 139, 3) := by decide +kernel
theorem d_Rd_passBlanksAndComments_4 : decode b_Rd_passBlanksAndComments 4 = .ok (.pop, 1) := by decide +kernel
theorem d_Rd_passBlanksAndComments_5 : decode b_Rd_passBlanksAndComments 5 = .ok (.iconst 0, 1) := by decide +kernel
theorem d_Rd_passBlanksAndComments_6 : decode b_Rd_passBlanksAndComments 6 = .ok (.istore_n 1, 1) := by decide +kernel
theorem d_Rd_passBlanksAndComments_7 : decode b_Rd_passBlanksAndComments 7 = .ok (.iload_n 1, 1) := by decide +kernel
theorem d_Rd_passBlanksAndComments_8 : decode b_Rd_passBlanksAndComments 8 = .ok (.aload_n 0, 1) := by decide +kernel
theorem d_Rd_passBlanksAndComments_9 : decode b_Rd_passBlanksAndComments 9 = .ok (.getfield 55, 3) := by decide +kernel
theorem d_Rd_passBlanksAndComments_12 : decode b_Rd_passBlanksAndComments 12 = .ok (.getfield 71, 3) := by decide +kernel
theorem d_Rd_passBlanksAndComments_15 : decode b_Rd_passBlanksAndComments 15 = .ok (.if_icmp .ge 38, 3) := by decide +kernel
theorem d_Rd_passBlanksAndComments_18 : decode b_Rd_passBlanksAndComments 18 = .ok (.aload_n 0, 1) := by decide +kernel
theorem d_Rd_passBlanksAndComments_19 : decode b_Rd_passBlanksAndComments 19 = .ok (.iconst 0, 1) := by decide +kernel
theorem d_Rd_passBlanksAndComments_20 : decode b_Rd_passBlanksAndComments 20 = .ok (.invokevirtual 76, 3) := by decide +kernel
theorem d_Rd_passBlanksAndComments_23 : decode b_Rd_passBlanksAndComments 23 = .ok (.bipush 60, 2) := by decide +kernel
theorem d_Rd_passBlanksAndComments_25 : decode b_Rd_passBlanksAndComments 25 = .ok (.if_icmp .ne 28, 3) := by decide +kernel
theorem d_Rd_passBlanksAndComments_28 : decode b_Rd_passBlanksAndComments 28 = .ok (.aload_n 0, 1) := by decide +kernel
theorem d_Rd_passBlanksAndComments_29 : decode b_Rd_passBlanksAndComments 29 = .ok (.iconst 1, 1) := by decide +kernel
theorem d_Rd_passBlanksAndComments_30 : decode b_Rd_passBlanksAndComments 30 = .ok (.invokevirtual 76, 3) := by decide +kernel
theorem d_Rd_passBlanksAndComments_33 : decode b_Rd_passBlanksAndComments 33 = .ok (.bipush 33, 2) := by decide +kernel
theorem d_Rd_passBlanksAndComments_35 : decode b_Rd_passBlanksAndComments 35 = .ok (.if_icmp .ne 18, 3) := by decide +kernel
theorem d_Rd_passBlanksAndComments_38 : decode b_Rd_passBlanksAndComments 38 = .ok (.aload_n 0, 1) := by decide +kernel
theorem d_Rd_passBlanksAndComments_39 : decode b_Rd_passBlanksAndComments 39 = .ok (.invokevirtual 97, 3) := by decide +kernel
theorem d_Rd_passBlanksAndComments_42 : decode b_Rd_passBlanksAndComments 42 = .ok (.aload_n 0, 1) := by decide +kernel
theorem d_Rd_passBlanksAndComments_43 : decode b_Rd_passBlanksAndComments 43 = .ok (.invokevirtual 139, 3) := by decide +kernel
theorem d_Rd_passBlanksAndComments_46 : decode b_Rd_passBlanksAndComments 46 = .ok (.pop, 1) := by decide +kernel
theorem d_Rd_passBlanksAndComments_47 : decode b_Rd_passBlanksAndComments 47 = .ok (.iinc 1 1, 3) := by decide +kernel
theorem d_Rd_passBlanksAndComments_50 : decode b_Rd_passBlanksAndComments 50 = .ok (.goto (-43), 3) := by decide +kernel
theorem d_Rd_passBlanksAndComments_53 : decode b_Rd_passBlanksAndComments 53 = .ok (.return_, 1) := by decide +kernel
theorem d_Rd_readTag_0 : decode b_Rd_readTag 0 = .ok (.aload_n 0, 1) := by decide +kernel
theorem d_Rd_readTag_1 : decode b_Rd_readTag 1 = .ok (.getfield 18, 3) := by decide +kernel
theorem d_Rd_readTag_4 : decode b_Rd_readTag 4 = .ok (.istore_n 1, 1) := by decide +kernel
theorem d_Rd_readTag_5 : decode b_Rd_readTag 5 = .ok (.aload_n 0, 1) := by decide +kernel
theorem d_Rd_readTag_6 : decode b_Rd_readTag 6 = .ok (.bipush 60, 2) := by decide +kernel
theorem d_Rd_readTag_8 : decode b_Rd_readTag 8 = .ok (.invokevirtual 131, 3) := by decide +kernel
theorem d_Rd_readTag_11 : decode b_Rd_readTag 11 = .ok (.aload_n 0, 1) := by decide +kernel
theorem d_Rd_readTag_12 : decode b_Rd_readTag 12 = .ok (.iconst 0, 1) := by decide +kernel
theorem d_Rd_readTag_13 : decode b_Rd_readTag 13 = .ok (.invokevirtual 76, 3) := by decide +kernel
theorem d_Rd_readTag_16 : decode b_Rd_readTag 16 = .ok (.invokestatic 150, 3) := by decide +kernel
theorem d_Rd_readTag_19 : decode b_Rd_readTag 19 = .ok (.ifCond .ne 12, 3) := by decide +kernel
theorem d_Rd_readTag_22 : decode b_Rd_readTag 22 = .ok (.aload_n 0, 1) := by decide +kernel
theorem d_Rd_readTag_23 : decode b_Rd_readTag 23 = .ok (.iconst 1, 1) := by decide +kernel
theorem d_Rd_readTag_24 : decode b_Rd_readTag 24 = .ok (.aload_n 0, 1) := by decide +kernel
theorem d_Rd_readTag_25 : decode b_Rd_readTag 25 = .ok (.getfield 18, 3) := by decide +kernel
theorem d_Rd_readTag_28 : decode b_Rd_readTag 28 = .ok (.invokevirtual 100, 3) := by decide +kernel
theorem d_Rd_readTag_31 : decode b_Rd_readTag 31 = .ok (.aload_n 0, 1) := by decide +kernel
theorem d_Rd_readTag_32 : decode b_Rd_readTag 32 = .ok (.getfield 32, 3) := by decide +kernel
theorem d_Rd_readTag_35 : decode b_Rd_readTag 35 = .ok (.aload_n 0, 1) := by decide +kernel
theorem d_Rd_readTag_36 : decode b_Rd_readTag 36 = .ok (.getfield 22, 3) := by decide +kernel
theorem d_Rd_readTag_39 : decode b_Rd_readTag 39 = .ok (.invokevirtual 175, 3) := by decide +kernel
theorem d_Rd_readTag_42 : decode b_Rd_readTag 42 = .ok (.astore_n 2, 1) := by decide +kernel
theorem d_Rd_readTag_43 : decode b_Rd_readTag 43 = .ok (.aload_n 2, 1) := by decide +kernel
theorem d_Rd_readTag_44 : decode b_Rd_readTag 44 = .ok (.ifnonnull 11, 3) := by decide +kernel
theorem d_Rd_readTag_47 : decode b_Rd_readTag 47 = .ok (.aload_n 0, 1) := by decide +kernel
theorem d_Rd_readTag_48 : decode b_Rd_readTag 48 = .ok (.iconst 4, 1) := by decide +kernel
theorem d_Rd_readTag_49 : decode b_Rd_readTag 49 = .ok (.iload_n 1, 1) := by decide +kernel
theorem d_Rd_readTag_50 : decode b_Rd_readTag 50 = .ok (.invokevirtual 100, 3) := by decide +kernel
theorem d_Rd_readTag_53 : decode b_Rd_readTag 53 = .ok (.aconst_null, 1) := by decide +kernel
theorem d_Rd_readTag_54 : decode b_Rd_readTag 54 = .ok (.areturn, 1) := by decide +kernel
theorem d_Rd_readTag_55 : decode b_Rd_readTag 55 = .ok (.aload_n 0, 1) := by decide +kernel
theorem d_Rd_readTag_56 : decode b_Rd_readTag 56 = .ok (.aload_n 2, 1) := by decide +kernel
theorem d_Rd_readTag_57 : decode b_Rd_readTag 57 = .ok (.getfield 179, 3) := by decide +kernel
theorem d_Rd_readTag_60 : decode b_Rd_readTag 60 = .ok (.invokevirtual 184, 3) := by decide +kernel
theorem d_Rd_readTag_63 : decode b_Rd_readTag 63 = .ok (.iconst 0, 1) := by decide +kernel
theorem d_Rd_readTag_64 : decode b_Rd_readTag 64 = .ok (.istore_n 3, 1) := by decide +kernel
theorem d_Rd_readTag_65 : decode b_Rd_readTag 65 = .ok (.iload_n 3, 1) := by decide +kernel
theorem d_Rd_readTag_66 : decode b_Rd_readTag 66 = .ok (.aload_n 0, 1) := by decide +kernel
theorem d_Rd_readTag_67 : decode b_Rd_readTag 67 = .ok (.getfield 55, 3) := by decide +kernel
theorem d_Rd_readTag_70 : decode b_Rd_readTag 70 = .ok (.getfield 71, 3) := by decide +kernel
theorem d_Rd_readTag_73 : decode b_Rd_readTag 73 = .ok (.if_icmp .ge 47, 3) := by decide +kernel
theorem d_Rd_readTag_76 : decode b_Rd_readTag 76 = .ok (.aload_n 0, 1) := by decide +kernel
theorem d_Rd_readTag_77 : decode b_Rd_readTag 77 = .ok (.invokevirtual 139, 3) := by decide +kernel
theorem d_Rd_readTag_80 : decode b_Rd_readTag 80 = .ok (.ifCond .eq 40, 3) := by decide +kernel
theorem d_Rd_readTag_83 : decode b_Rd_readTag 83 = .ok (.aload_n 0, 1) := by decide +kernel
theorem d_Rd_readTag_84 : decode b_Rd_readTag 84 = .ok (.iconst 0, 1) := by decide +kernel
theorem d_Rd_readTag_85 : decode b_Rd_readTag 85 = .ok (.invokevirtual 76, 3) := by decide +kernel
theorem d_Rd_readTag_88 : decode b_Rd_readTag 88 = .ok (.invokestatic 150, 3) := by decide +kernel
theorem d_Rd_readTag_91 : decode b_Rd_readTag 91 = .ok (.ifCond .eq 29, 3) := by decide +kernel
theorem d_Rd_readTag_94 : decode b_Rd_readTag 94 = .ok (.aload_n 2, 1) := by decide +kernel
theorem d_Rd_readTag_95 : decode b_Rd_readTag 95 = .ok (.getfield 188, 3) := by decide +kernel
theorem d_Rd_readTag_98 : decode b_Rd_readTag 98 = .ok (.bipush 6, 2) := by decide +kernel
theorem d_Rd_readTag_100 : decode b_Rd_readTag 100 = .ok (.if_icmp .lt 9, 3) := by decide +kernel
theorem d_Rd_readTag_103 : decode b_Rd_readTag 103 = .ok (.aload_n 0, 1) := by decide +kernel
theorem d_Rd_readTag_104 : decode b_Rd_readTag 104 = .ok (.iconst 4, 1) := by decide +kernel
theorem d_Rd_readTag_105 : decode b_Rd_readTag 105 = .ok (.iload_n 1, 1) := by decide +kernel
theorem d_Rd_readTag_106 : decode b_Rd_readTag 106 = .ok (.invokevirtual 100, 3) := by decide +kernel
theorem d_Rd_readTag_109 : decode b_Rd_readTag 109 = .ok (.aload_n 0, 1) := by decide +kernel
theorem d_Rd_readTag_110 : decode b_Rd_readTag 110 = .ok (.aload_n 2, 1) := by decide +kernel
theorem d_Rd_readTag_111 : decode b_Rd_readTag 111 = .ok (.invokevirtual 191, 3) := by decide +kernel
theorem d_Rd_readTag_114 : decode b_Rd_readTag 114 = .ok (.iinc 3 1, 3) := by decide +kernel
theorem d_Rd_readTag_117 : decode b_Rd_readTag 117 = .ok (.goto (-52), 3) := by decide +kernel
theorem d_Rd_readTag_120 : decode b_Rd_readTag 120 = .ok (.aload_n 2, 1) := by decide +kernel
theorem d_Rd_readTag_121 : decode b_Rd_readTag 121 = .ok (.aload_n 0, 1) := by decide +kernel
theorem d_Rd_readTag_122 : decode b_Rd_readTag 122 = .ok (.ldc 194, 2) := by decide +kernel
theorem d_Rd_readTag_124 : decode b_Rd_readTag 124 = .ok (.invokevirtual 196, 3) := by decide +kernel
theorem d_Rd_readTag_127 : decode b_Rd_readTag 127 = .ok (.putfield 200, 3) := by decide +kernel
theorem d_Rd_readTag_130 : decode b_Rd_readTag 130 = .ok (.aload_n 0, 1) := by decide +kernel
theorem d_Rd_readTag_131 : decode b_Rd_readTag 131 = .ok (.bipush 62, 2) := by decide +kernel
theorem d_Rd_readTag_133 : decode b_Rd_readTag 133 = .ok (.invokevirtual 131, 3) := by decide +kernel
theorem d_Rd_readTag_136 : decode b_Rd_readTag 136 = .ok (.aload_n 2, 1) := by decide +kernel
theorem d_Rd_readTag_137 : decode b_Rd_readTag 137 = .ok (.areturn, 1) := by decide +kernel
theorem d_Rd_readText_0 : decode b_Rd_readText 0 = .ok (.aload_n 0, 1) := by decide +kernel
theorem d_Rd_readText_1 : decode b_Rd_readText 1 = .ok (.aload_n 1, 1) := by decide +kernel
theorem d_Rd_readText_2 : decode b_Rd_readText 2 = .ok (.invokevirtual 56, 3) := by decide +kernel
theorem d_Rd_readText_5 : decode b_Rd_readText 5 = .ok (.aload_n 0, 1) := by decide +kernel
theorem d_Rd_readText_6 : decode b_Rd_readText 6 = .ok (.invokevirtual 60, 3) := by decide +kernel
theorem d_Rd_readText_9 : decode b_Rd_readText 9 = .ok (.aload_n 0, 1) := by decide +kernel
theorem d_Rd_readText_10 : decode b_Rd_readText 10 = .ok (.aload_n 0, 1) := by decide +kernel
theorem d_Rd_readText_11 : decode b_Rd_readText 11 = .ok (.invokevirtual 63, 3) := by decide +kernel
theorem d_Rd_readText_14 : decode b_Rd_readText 14 = .ok (.invokevirtual 67, 3) := by decide +kernel
theorem d_Rd_readText_17 : decode b_Rd_readText 17 = .ok (.iconst 0, 1) := by decide +kernel
theorem d_Rd_readText_18 : decode b_Rd_readText 18 = .ok (.istore_n 2, 1) := by decide +kernel
theorem d_Rd_readText_19 : decode b_Rd_readText 19 = .ok (.iload_n 2, 1) := by decide +kernel
theorem d_Rd_readText_20 : decode b_Rd_readText 20 = .ok (.aload_n 0, 1) := by decide +kernel
theorem d_Rd_readText_21 : decode b_Rd_readText 21 = .ok (.getfield 55, 3) := by decide +kernel
theorem d_Rd_readText_24 : decode b_Rd_readText 24 = .ok (.getfield 71, 3) := by decide +kernel
theorem d_Rd_readText_27 : decode b_Rd_readText 27 = .ok (.if_icmp .ge 129, 3) := by decide +kernel
theorem d_Rd_readText_30 : decode b_Rd_readText 30 = .ok (.aload_n 0, 1) := by decide +kernel
theorem d_Rd_readText_31 : decode b_Rd_readText 31 = .ok (.getfield 22, 3) := by decide +kernel
theorem d_Rd_readText_34 : decode b_Rd_readText 34 = .ok (.ifnull 122, 3) := by decide +kernel
theorem d_Rd_readText_37 : decode b_Rd_readText 37 = .ok (.aload_n 0, 1) := by decide +kernel
theorem d_Rd_readText_38 : decode b_Rd_readText 38 = .ok (.iconst 0, 1) := by decide +kernel
theorem d_Rd_readText_39 : decode b_Rd_readText 39 = .ok (.invokevirtual 76, 3) := by decide +kernel
theorem d_Rd_readText_42 : decode b_Rd_readText 42 = .ok (.bipush 38, 2) := by decide +kernel
theorem d_Rd_readText_44 : decode b_Rd_readText 44 = .ok (.if_icmp .ne 18, 3) := by decide +kernel
theorem d_Rd_readText_47 : decode b_Rd_readText 47 = .ok (.aload_n 0, 1) := by decide +kernel
theorem d_Rd_readText_48 : decode b_Rd_readText 48 = .ok (.aload_n 0, 1) := by decide +kernel
theorem d_Rd_readText_49 : decode b_Rd_readText 49 = .ok (.getfield 22, 3) := by decide +kernel
theorem d_Rd_readText_52 : decode b_Rd_readText 52 = .ok (.aload_n 0, 1) := by decide +kernel
theorem d_Rd_readText_53 : decode b_Rd_readText 53 = .ok (.invokevirtual 80, 3) := by decide +kernel
theorem d_Rd_readText_56 : decode b_Rd_readText 56 = .ok (.invokevirtual 84, 3) := by decide +kernel
theorem d_Rd_readText_59 : decode b_Rd_readText 59 = .ok (.goto 91, 3) := by decide +kernel
theorem d_Rd_readText_62 : decode b_Rd_readText 62 = .ok (.aload_n 0, 1) := by decide +kernel
theorem d_Rd_readText_63 : decode b_Rd_readText 63 = .ok (.iconst 0, 1) := by decide +kernel
theorem d_Rd_readText_64 : decode b_Rd_readText 64 = .ok (.invokevirtual 76, 3) := by decide +kernel
theorem d_Rd_readText_67 : decode b_Rd_readText 67 = .ok (.bipush 60, 2) := by decide +kernel
theorem d_Rd_readText_69 : decode b_Rd_readText 69 = .ok (.if_icmp .eq 14, 3) := by decide +kernel
theorem d_Rd_readText_72 : decode b_Rd_readText 72 = .ok (.aload_n 0, 1) := by decide +kernel
theorem d_Rd_readText_73 : decode b_Rd_readText 73 = .ok (.aload_n 0, 1) := by decide +kernel
theorem d_Rd_readText_74 : decode b_Rd_readText 74 = .ok (.getfield 22, 3) := by decide +kernel
theorem d_Rd_readText_77 : decode b_Rd_readText 77 = .ok (.invokevirtual 88, 3) := by decide +kernel
theorem d_Rd_readText_80 : decode b_Rd_readText 80 = .ok (.goto 70, 3) := by decide +kernel
theorem d_Rd_readText_83 : decode b_Rd_readText 83 = .ok (.aload_n 0, 1) := by decide +kernel
theorem d_Rd_readText_84 : decode b_Rd_readText 84 = .ok (.iconst 1, 1) := by decide +kernel
theorem d_Rd_readText_85 : decode b_Rd_readText 85 = .ok (.invokevirtual 76, 3) := by decide +kernel
theorem d_Rd_readText_88 : decode b_Rd_readText 88 = .ok (.bipush 47, 2) := by decide +kernel
theorem d_Rd_readText_90 : decode b_Rd_readText 90 = .ok (.if_icmp .ne 14, 3) := by decide +kernel
theorem d_Rd_readText_93 : decode b_Rd_readText 93 = .ok (.aload_n 0, 1) := by decide +kernel
theorem d_Rd_readText_94 : decode b_Rd_readText 94 = .ok (.aload_n 0, 1) := by decide +kernel
theorem d_Rd_readText_95 : decode b_Rd_readText 95 = .ok (.getfield 22, 3) := by decide +kernel
theorem d_Rd_readText_98 : decode b_Rd_readText 98 = .ok (.invokevirtual 91, 3) := by decide +kernel
theorem d_Rd_readText_101 : decode b_Rd_readText 101 = .ok (.goto 49, 3) := by decide +kernel
theorem d_Rd_readText_104 : decode b_Rd_readText 104 = .ok (.aload_n 0, 1) := by decide +kernel
theorem d_Rd_readText_105 : decode b_Rd_readText 105 = .ok (.iconst 1, 1) := by decide +kernel
theorem d_Rd_readText_106 : decode b_Rd_readText 106 = .ok (.invokevirtual 76, 3) := by decide +kernel
theorem d_Rd_readText_109 : decode b_Rd_readText 109 = .ok (.bipush 33, 2) := by decide +kernel
theorem d_Rd_readText_111 : decode b_Rd_readText 111 = .ok (.if_icmp .eq 14, 3) := by decide +kernel
theorem d_Rd_readText_114 : decode b_Rd_readText 114 = .ok (.aload_n 0, 1) := by decide +kernel
theorem d_Rd_readText_115 : decode b_Rd_readText 115 = .ok (.aload_n 0, 1) := by decide +kernel
theorem d_Rd_readText_116 : decode b_Rd_readText 116 = .ok (.invokevirtual 63, 3) := by decide +kernel
theorem d_Rd_readText_119 : decode b_Rd_readText 119 = .ok (.invokevirtual 67, 3) := by decide +kernel
theorem d_Rd_readText_122 : decode b_Rd_readText 122 = .ok (.goto 28, 3) := by decide +kernel
theorem d_Rd_readText_125 : decode b_Rd_readText 125 = .ok (.aload_n 0, 1) := by decide +kernel
theorem d_Rd_readText_126 : decode b_Rd_readText 126 = .ok (.iconst 2, 1) := by decide +kernel
theorem d_Rd_readText_127 : decode b_Rd_readText 127 = .ok (.invokevirtual 76, 3) := by decide +kernel
theorem d_Rd_readText_130 : decode b_Rd_readText 130 = .ok (.bipush 91, 2) := by decide +kernel
theorem d_Rd_readText_132 : decode b_Rd_readText 132 = .ok (.if_icmp .ne 14, 3) := by decide +kernel
theorem d_Rd_readText_135 : decode b_Rd_readText 135 = .ok (.aload_n 0, 1) := by decide +kernel
theorem d_Rd_readText_136 : decode b_Rd_readText 136 = .ok (.aload_n 0, 1) := by decide +kernel
theorem d_Rd_readText_137 : decode b_Rd_readText 137 = .ok (.getfield 22, 3) := by decide +kernel
theorem d_Rd_readText_140 : decode b_Rd_readText 140 = .ok (.invokevirtual 94, 3) := by decide +kernel
theorem d_Rd_readText_143 : decode b_Rd_readText 143 = .ok (.goto 7, 3) := by decide +kernel
theorem d_Rd_readText_146 : decode b_Rd_readText 146 = .ok (.aload_n 0, 1) := by decide +kernel
theorem d_Rd_readText_147 : decode b_Rd_readText 147 = .ok (.invokevirtual 97, 3) := by decide +kernel
theorem d_Rd_readText_150 : decode b_Rd_readText 150 = .ok (.iinc 2 1, 3) := by decide +kernel
theorem d_Rd_readText_153 : decode b_Rd_readText 153 = .ok (.goto (-134), 3) := by decide +kernel
theorem d_Rd_readText_156 : decode b_Rd_readText 156 = .ok (.aload_n 0, 1) := by decide +kernel
theorem d_Rd_readText_157 : decode b_Rd_readText 157 = .ok (.invokevirtual 60, 3) := by decide +kernel
theorem d_Rd_readText_160 : decode b_Rd_readText 160 = .ok (.aload_n 0, 1) := by decide +kernel
theorem d_Rd_readText_161 : decode b_Rd_readText 161 = .ok (.getfield 18, 3) := by decide +kernel
theorem d_Rd_readText_164 : decode b_Rd_readText 164 = .ok (.aload_n 0, 1) := by decide +kernel
theorem d_Rd_readText_165 : decode b_Rd_readText 165 = .ok (.getfield 55, 3) := by decide +kernel
theorem d_Rd_readText_168 : decode b_Rd_readText 168 = .ok (.getfield 71, 3) := by decide +kernel
theorem d_Rd_readText_171 : decode b_Rd_readText 171 = .ok (.if_icmp .ge 31, 3) := by decide +kernel
theorem d_Rd_readText_174 : decode b_Rd_readText 174 = .ok (.aload_n 0, 1) := by decide +kernel
theorem d_Rd_readText_175 : decode b_Rd_readText 175 = .ok (.iconst 1, 1) := by decide +kernel
theorem d_Rd_readText_176 : decode b_Rd_readText 176 = .ok (.aload_n 0, 1) := by decide +kernel
theorem d_Rd_readText_177 : decode b_Rd_readText 177 = .ok (.iconst 0, 1) := by decide +kernel
theorem d_Rd_readText_178 : decode b_Rd_readText 178 = .ok (.invokevirtual 76, 3) := by decide +kernel
theorem d_Rd_readText_181 : decode b_Rd_readText 181 = .ok (.bipush 60, 2) := by decide +kernel
theorem d_Rd_readText_183 : decode b_Rd_readText 183 = .ok (.if_icmp .ne 12, 3) := by decide +kernel
theorem d_Rd_readText_186 : decode b_Rd_readText 186 = .ok (.aload_n 0, 1) := by decide +kernel
theorem d_Rd_readText_187 : decode b_Rd_readText 187 = .ok (.getfield 18, 3) := by decide +kernel
theorem d_Rd_readText_190 : decode b_Rd_readText 190 = .ok (.iconst 1, 1) := by decide +kernel
theorem d_Rd_readText_191 : decode b_Rd_readText 191 = .ok (.iadd, 1) := by decide +kernel
theorem d_Rd_readText_192 : decode b_Rd_readText 192 = .ok (.goto 7, 3) := by decide +kernel
theorem d_Rd_readText_195 : decode b_Rd_readText 195 = .ok (.aload_n 0, 1) := by decide +kernel
theorem d_Rd_readText_196 : decode b_Rd_readText 196 = .ok (.getfield 18, 3) := by decide +kernel
theorem d_Rd_readText_199 : decode b_Rd_readText 199 = .ok (.invokevirtual 100, 3) := by decide +kernel
theorem d_Rd_readText_202 : decode b_Rd_readText 202 = .ok (.return_, 1) := by decide +kernel
theorem d_MR_read_0 : decode b_MR_read 0 = .ok (.aload_n 0, 1) := by decide +kernel
theorem d_MR_read_1 : decode b_MR_read 1 = .ok (.getfield 42, 3) := by decide +kernel
theorem d_MR_read_4 : decode b_MR_read 4 = .ok (.aload_n 0, 1) := by decide +kernel
theorem d_MR_read_5 : decode b_MR_read 5 = .ok (.getfield 14, 3) := by decide +kernel
theorem d_MR_read_8 : decode b_MR_read 8 = .ok (.invokevirtual 70, 3) := by decide +kernel
theorem d_MR_read_11 : decode b_MR_read 11 = .ok (.aload_n 0, 1) := by decide +kernel
theorem d_MR_read_12 : decode b_MR_read 12 = .ok (.getfield 24, 3) := by decide +kernel
theorem d_MR_read_15 : decode b_MR_read 15 = .ok (.getfield 74, 3) := by decide +kernel
theorem d_MR_read_18 : decode b_MR_read 18 = .ok (.ireturn, 1) := by decide +kernel
set_option maxHeartbeats 4000000 in
set_option maxRecDepth 100000 in
theorem c_Tr_find {l : Launch} {s0 : State} {D : va_G} {aC : Nat → ClassId} {a0 : Array Value} (G : gG l s0 D aC a0) (M : gMem) (r : gRef) (ow : Int64) (t : Nat) (ht : t ≤ 24) (h2 : M 2 0 = nI t) (x : Int32) : gMet l s0 D aC y_Tr_find (Cond.code y_Tr_find b_Tr_find 2 (some (.object "MarkupReader$Element"))) 0 0 0 0 [.ref (s0.heap.size + 5), .int x] M r ow (fun v M1 r1 => v = some (va_rf (gq s0.heap.size oEl (fnd M x))) ∧ M1 = M ∧ r1 = r) (fun _ _ _ => False) := by
  refine gm_of G (by decide) (Nat.le_of_ble_eq_true rfl) ?_
  intro p e s m below meth c ls B hexc hl hw
  have hx := B.1
  have hb := B.2.1
  have hown := B.2.2.2.2.2.1
  have T := B.2.2.2.2.2.2.1
  have hK := B.2.2.2.2.2.2.2.1
  refine lv_iload_n hx hb d_Tr_find_0 rfl (lv_at hl 1 rfl) ?_
  refine lv_if_lt hx hb d_Tr_find_1 rfl (fun h1 => ?_) (fun h1 => ?_)
  · skip
    refine lv_null hx hb d_Tr_find_21 ?_
    first | exact gr_a (v := none) B hw d_Tr_find_22 ⟨(by unfold fnd; (repeat' split) <;> first | rfl | contradiction), rfl, rfl⟩ | exact gr_a (v := some (s0.heap.size + oEl x.toNatClampNeg)) B hw d_Tr_find_22 ⟨(by unfold fnd; (repeat' split) <;> first | rfl | contradiction), rfl, rfl⟩
  · skip
    refine lv_iload_n hx hb d_Tr_find_4 rfl (lv_at hl 1 rfl) ?_
    refine lv_aload_n hx hb d_Tr_find_5 rfl (lv_at hl 0 rfl) ?_
    refine gf_Tr_size hx hb T hown hK hw rfl (kf_Tr_43 T) d_Tr_find_6 ?_
    refine lv_icmp_ge hx hb d_Tr_find_9 rfl (fun h9 => ?_) (fun h9 => ?_)
    · skip
      refine lv_null hx hb d_Tr_find_21 ?_
      first | exact gr_a (v := none) B hw d_Tr_find_22 ⟨(by unfold fnd; (repeat' split) <;> first | rfl | contradiction), rfl, rfl⟩ | exact gr_a (v := some (s0.heap.size + oEl x.toNatClampNeg)) B hw d_Tr_find_22 ⟨(by unfold fnd; (repeat' split) <;> first | rfl | contradiction), rfl, rfl⟩
    · skip
      refine lv_aload_n hx hb d_Tr_find_12 rfl (lv_at hl 0 rfl) ?_
      refine gf_Tr_elements hx hb T hown hK hw rfl (kf_Tr_32 T) d_Tr_find_13 ?_
      refine lv_iload_n hx hb d_Tr_find_16 rfl (lv_at hl 1 rfl) ?_
      refine ga_es hx hb hK hw rfl (gi_in h1 (by rw [← h2]; exact h9) ht (by decide)) d_Tr_find_17 ?_
      refine lv_goto hx hb d_Tr_find_18 rfl ?_
      first | exact gr_a (v := none) B hw d_Tr_find_22 ⟨(by unfold fnd; (repeat' split) <;> first | rfl | contradiction), rfl, rfl⟩ | exact gr_a (v := some (s0.heap.size + oEl x.toNatClampNeg)) B hw d_Tr_find_22 ⟨(by unfold fnd; (repeat' split) <;> first | rfl | contradiction), rfl, rfl⟩
set_option maxHeartbeats 4000000 in
set_option maxRecDepth 100000 in
theorem c_MR_element_0 {l : Launch} {s0 : State} {D : va_G} {aC : Nat → ClassId} {a0 : Array Value} (G : gG l s0 D aC a0) (M : gMem) (r : gRef) (ow : Int64) (h0 : M 2 0 = 0) (x z : Int32) : gMet l s0 D aC y_MR_element (Cond.code y_MR_element b_MR_element 4 (some .int)) 6 90 1 6 [.ref (s0.heap.size + 0), .int x, .int z] M r ow (fun _ _ _ => False) (fun ek M1 r1 => ek = 2 ∧ M1 = M ∧ r1 = r) := by
  refine gm_of G (by decide) (Nat.le_of_ble_eq_true rfl) ?_
  intro p e s m below meth c ls B hexc hl hw
  have hx := B.1
  have hb := B.2.1
  have hown := B.2.2.2.2.2.1
  have T := B.2.2.2.2.2.2.1
  have hK := B.2.2.2.2.2.2.2.1
  refine lv_aload_n hx hb d_MR_element_0 rfl (lv_at hl 0 rfl) ?_
  refine gf_MR_tree hx hb T hown hK hw rfl (kf_MR_24 T) d_MR_element_1 ?_
  refine lv_iload_n hx hb d_MR_element_4 rfl (lv_at hl 1 rfl) ?_
  refine gy_V (As := [.int x]) B hl.1 hw (c_Tr_find G M r ow 0 (by decide) h0 x) (kd_Tr_find T) (ki_Tr T) (km_MR_81 T) (ka_Tr_find T) (ks_Tr_find T) ⟨by decide, by decide, by rfl⟩ (rv_Tr hK hw rfl) rfl (Nat.le_of_ble_eq_true rfl) ⟨by decide, by decide⟩ ⟨by decide, by decide⟩ d_MR_element_5 (fun v M1 r1 H locs hw hp => ?_) (fun x ek M1 r1 H locs hw hE hp => hp.elim)
  obtain ⟨rfl, hM1, hr1⟩ := hp
  rw [hM1, hr1] at hw
  clear hM1 hr1
  rw [fnd_0 h0]
  refine lv_astore_nN hx hb d_MR_element_8 rfl hl (by decide) rfl (fun ls hl => ?_)
  refine lv_aload_nN hx hb d_MR_element_9 rfl (lv_at hl 0 rfl) ?_
  refine lv_ifnonnullN hx hb d_MR_element_10 ?_
  exact gx_IO B G.2.1 hexc hl.1 hw (kc_MR_85 T) (km_MR_89 T) (sx_MR_87 G.2.1) d_MR_element_13 d_MR_element_16 d_MR_element_17 d_MR_element_19 d_MR_element_22 (by decide) (by decide) (by decide) (Nat.le_of_ble_eq_true rfl) ⟨rfl, rfl, rfl⟩
set_option maxHeartbeats 4000000 in
set_option maxRecDepth 100000 in
theorem c_MR_name_0 {l : Launch} {s0 : State} {D : va_G} {aC : Nat → ClassId} {a0 : Array Value} (G : gG l s0 D aC a0) (M : gMem) (r : gRef) (ow : Int64) (h0 : M 2 0 = 0) (x z : Int32) : gMet l s0 D aC y_MR_name (Cond.code y_MR_name b_MR_name 4 (some .char)) 6 90 1 6 [.ref (s0.heap.size + 0), .int x, .int z] M r ow (fun _ _ _ => False) (fun ek M1 r1 => ek = 2 ∧ M1 = M ∧ r1 = r) := by
  refine gm_of G (by decide) (Nat.le_of_ble_eq_true rfl) ?_
  intro p e s m below meth c ls B hexc hl hw
  have hx := B.1
  have hb := B.2.1
  have hown := B.2.2.2.2.2.1
  have T := B.2.2.2.2.2.2.1
  have hK := B.2.2.2.2.2.2.2.1
  refine lv_aload_n hx hb d_MR_name_0 rfl (lv_at hl 0 rfl) ?_
  refine gf_MR_tree hx hb T hown hK hw rfl (kf_MR_24 T) d_MR_name_1 ?_
  refine lv_iload_n hx hb d_MR_name_4 rfl (lv_at hl 1 rfl) ?_
  refine gy_V (As := [.int x]) B hl.1 hw (c_Tr_find G M r ow 0 (by decide) h0 x) (kd_Tr_find T) (ki_Tr T) (km_MR_81 T) (ka_Tr_find T) (ks_Tr_find T) ⟨by decide, by decide, by rfl⟩ (rv_Tr hK hw rfl) rfl (Nat.le_of_ble_eq_true rfl) ⟨by decide, by decide⟩ ⟨by decide, by decide⟩ d_MR_name_5 (fun v M1 r1 H locs hw hp => ?_) (fun x ek M1 r1 H locs hw hE hp => hp.elim)
  obtain ⟨rfl, hM1, hr1⟩ := hp
  rw [hM1, hr1] at hw
  clear hM1 hr1
  rw [fnd_0 h0]
  refine lv_astore_nN hx hb d_MR_name_8 rfl hl (by decide) rfl (fun ls hl => ?_)
  refine lv_aload_nN hx hb d_MR_name_9 rfl (lv_at hl 0 rfl) ?_
  refine lv_ifnullN hx hb d_MR_name_10 rfl ?_
  exact gx_IO B G.2.1 hexc hl.1 hw (kc_MR_85 T) (km_MR_89 T) (sx_MR_139 G.2.1) d_MR_name_36 d_MR_name_39 d_MR_name_40 d_MR_name_42 d_MR_name_45 (by decide) (by decide) (by decide) (Nat.le_of_ble_eq_true rfl) ⟨rfl, rfl, rfl⟩
set_option maxHeartbeats 4000000 in
set_option maxRecDepth 100000 in
theorem c_MR_content_0 {l : Launch} {s0 : State} {D : va_G} {aC : Nat → ClassId} {a0 : Array Value} (G : gG l s0 D aC a0) (M : gMem) (r : gRef) (ow : Int64) (h0 : M 2 0 = 0) (x z : Int32) : gMet l s0 D aC y_MR_content (Cond.code y_MR_content b_MR_content 5 (some .char)) 6 90 1 6 [.ref (s0.heap.size + 0), .int x, .int z] M r ow (fun _ _ _ => False) (fun ek M1 r1 => ek = 2 ∧ M1 = M ∧ r1 = r) := by
  refine gm_of G (by decide) (Nat.le_of_ble_eq_true rfl) ?_
  intro p e s m below meth c ls B hexc hl hw
  have hx := B.1
  have hb := B.2.1
  have hown := B.2.2.2.2.2.1
  have T := B.2.2.2.2.2.2.1
  have hK := B.2.2.2.2.2.2.2.1
  refine lv_aload_n hx hb d_MR_content_0 rfl (lv_at hl 0 rfl) ?_
  refine gf_MR_tree hx hb T hown hK hw rfl (kf_MR_24 T) d_MR_content_1 ?_
  refine lv_iload_n hx hb d_MR_content_4 rfl (lv_at hl 1 rfl) ?_
  refine gy_V (As := [.int x]) B hl.1 hw (c_Tr_find G M r ow 0 (by decide) h0 x) (kd_Tr_find T) (ki_Tr T) (km_MR_81 T) (ka_Tr_find T) (ks_Tr_find T) ⟨by decide, by decide, by rfl⟩ (rv_Tr hK hw rfl) rfl (Nat.le_of_ble_eq_true rfl) ⟨by decide, by decide⟩ ⟨by decide, by decide⟩ d_MR_content_5 (fun v M1 r1 H locs hw hp => ?_) (fun x ek M1 r1 H locs hw hE hp => hp.elim)
  obtain ⟨rfl, hM1, hr1⟩ := hp
  rw [hM1, hr1] at hw
  clear hM1 hr1
  rw [fnd_0 h0]
  refine lv_astore_nN hx hb d_MR_content_8 rfl hl (by decide) rfl (fun ls hl => ?_)
  refine lv_aload_nN hx hb d_MR_content_9 rfl (lv_at hl 0 rfl) ?_
  refine lv_ifnonnullN hx hb d_MR_content_10 ?_
  refine lv_iconst (v := -1) hx hb d_MR_content_13 (by decide) ?_
  refine lv_goto hx hb d_MR_content_14 rfl ?_
  refine lv_istore hx hb d_MR_content_26 hl (by decide) rfl (fun ls hl => ?_)
  refine lv_iload hx hb d_MR_content_28 (lv_at hl 0 rfl) ?_
  refine lv_iconst (v := -1) hx hb d_MR_content_30 (by decide) ?_
  refine lv_icmp_ne hx hb d_MR_content_31 rfl (fun h31 => absurd h31 (by decide)) (fun h31 => ?_)
  exact gx_IO B G.2.1 hexc hl.1 hw (kc_MR_85 T) (km_MR_89 T) (sx_MR_152 G.2.1) d_MR_content_34 d_MR_content_37 d_MR_content_38 d_MR_content_40 d_MR_content_43 (by decide) (by decide) (by decide) (Nat.le_of_ble_eq_true rfl) ⟨rfl, rfl, rfl⟩
set_option maxHeartbeats 4000000 in
set_option maxRecDepth 100000 in
theorem c_MR_space_0 {l : Launch} {s0 : State} {D : va_G} {aC : Nat → ClassId} {a0 : Array Value} (G : gG l s0 D aC a0) (M : gMem) (r : gRef) (ow : Int64) (h0 : M 2 0 = 0) (x z : Int32) : gMet l s0 D aC y_MR_space (Cond.code y_MR_space b_MR_space 4 (some .char)) 6 90 1 6 [.ref (s0.heap.size + 0), .int x, .int z] M r ow (fun _ _ _ => False) (fun ek M1 r1 => ek = 2 ∧ M1 = M ∧ r1 = r) := by
  refine gm_of G (by decide) (Nat.le_of_ble_eq_true rfl) ?_
  intro p e s m below meth c ls B hexc hl hw
  have hx := B.1
  have hb := B.2.1
  have hown := B.2.2.2.2.2.1
  have T := B.2.2.2.2.2.2.1
  have hK := B.2.2.2.2.2.2.2.1
  refine lv_aload_n hx hb d_MR_space_0 rfl (lv_at hl 0 rfl) ?_
  refine gf_MR_tree hx hb T hown hK hw rfl (kf_MR_24 T) d_MR_space_1 ?_
  refine lv_iload_n hx hb d_MR_space_4 rfl (lv_at hl 1 rfl) ?_
  refine gy_V (As := [.int x]) B hl.1 hw (c_Tr_find G M r ow 0 (by decide) h0 x) (kd_Tr_find T) (ki_Tr T) (km_MR_81 T) (ka_Tr_find T) (ks_Tr_find T) ⟨by decide, by decide, by rfl⟩ (rv_Tr hK hw rfl) rfl (Nat.le_of_ble_eq_true rfl) ⟨by decide, by decide⟩ ⟨by decide, by decide⟩ d_MR_space_5 (fun v M1 r1 H locs hw hp => ?_) (fun x ek M1 r1 H locs hw hE hp => hp.elim)
  obtain ⟨rfl, hM1, hr1⟩ := hp
  rw [hM1, hr1] at hw
  clear hM1 hr1
  rw [fnd_0 h0]
  refine lv_astore_nN hx hb d_MR_space_8 rfl hl (by decide) rfl (fun ls hl => ?_)
  refine lv_aload_nN hx hb d_MR_space_9 rfl (lv_at hl 0 rfl) ?_
  refine lv_ifnullN hx hb d_MR_space_10 rfl ?_
  exact gx_IO B G.2.1 hexc hl.1 hw (kc_MR_85 T) (km_MR_89 T) (sx_MR_157 G.2.1) d_MR_space_31 d_MR_space_34 d_MR_space_35 d_MR_space_37 d_MR_space_40 (by decide) (by decide) (by decide) (Nat.le_of_ble_eq_true rfl) ⟨rfl, rfl, rfl⟩
set_option maxHeartbeats 4000000 in
set_option maxRecDepth 100000 in
theorem c_MR_retype_0 {l : Launch} {s0 : State} {D : va_G} {aC : Nat → ClassId} {a0 : Array Value} (G : gG l s0 D aC a0) (M : gMem) (r : gRef) (ow : Int64) (h0 : M 2 0 = 0) : gMet l s0 D aC y_MR_retype (Cond.code y_MR_retype b_MR_retype 1 (some .int)) 6 90 1 6 [.ref (s0.heap.size + 0)] M r ow (fun _ _ _ => False) (fun ek M1 r1 => ek = 1 ∧ M1 = M ∧ r1 = r) := by
  refine gm_of G (by decide) (Nat.le_of_ble_eq_true rfl) ?_
  intro p e s m below meth c ls B hexc hl hw
  have hx := B.1
  have hb := B.2.1
  have hown := B.2.2.2.2.2.1
  have T := B.2.2.2.2.2.2.1
  have hK := B.2.2.2.2.2.2.2.1
  refine lv_aload_n hx hb d_MR_retype_0 rfl (lv_at hl 0 rfl) ?_
  refine gf_MR_tree hx hb T hown hK hw rfl (kf_MR_24 T) d_MR_retype_1 ?_
  refine gf_Tr_size hx hb T hown hK hw rfl (kf_MR_74 T) d_MR_retype_4 ?_
  refine lv_if_eq hx hb d_MR_retype_7 rfl (fun h7 => ?_) (fun h7 => absurd h0 h7)
  exact gx_IS B G.2.1 hexc hl.1 hw (kc_MR_61 T) (km_MR_65 T) (sx_MR_170 G.2.1) d_MR_retype_26 d_MR_retype_29 d_MR_retype_30 d_MR_retype_32 d_MR_retype_35 (by decide) (by decide) (by decide) (Nat.le_of_ble_eq_true rfl) ⟨rfl, rfl, rfl⟩
set_option maxHeartbeats 4000000 in
set_option maxRecDepth 100000 in
theorem c_MR_keep_0 {l : Launch} {s0 : State} {D : va_G} {aC : Nat → ClassId} {a0 : Array Value} (G : gG l s0 D aC a0) (M : gMem) (r : gRef) (ow : Int64) (h0 : M 2 0 = 0) : gMet l s0 D aC y_MR_keep (Cond.code y_MR_keep b_MR_keep 1 none) 6 90 1 6 [.ref (s0.heap.size + 0)] M r ow (fun _ _ _ => False) (fun ek M1 r1 => ek = 1 ∧ M1 = M ∧ r1 = r) := by
  refine gm_of G (by decide) (Nat.le_of_ble_eq_true rfl) ?_
  intro p e s m below meth c ls B hexc hl hw
  have hx := B.1
  have hb := B.2.1
  have hown := B.2.2.2.2.2.1
  have T := B.2.2.2.2.2.2.1
  have hK := B.2.2.2.2.2.2.2.1
  refine lv_aload_n hx hb d_MR_keep_0 rfl (lv_at hl 0 rfl) ?_
  refine gf_MR_tree hx hb T hown hK hw rfl (kf_MR_24 T) d_MR_keep_1 ?_
  refine gf_Tr_size hx hb T hown hK hw rfl (kf_MR_74 T) d_MR_keep_4 ?_
  refine lv_if_ne hx hb d_MR_keep_7 rfl (fun h7 => absurd h7 (fun q => q h0)) (fun h7 => ?_)
  exact gx_IS B G.2.1 hexc hl.1 hw (kc_MR_61 T) (km_MR_65 T) (sx_MR_175 G.2.1) d_MR_keep_10 d_MR_keep_13 d_MR_keep_14 d_MR_keep_16 d_MR_keep_19 (by decide) (by decide) (by decide) (Nat.le_of_ble_eq_true rfl) ⟨rfl, rfl, rfl⟩
set_option maxHeartbeats 4000000 in
set_option maxRecDepth 100000 in
theorem c_MR_same_0 {l : Launch} {s0 : State} {D : va_G} {aC : Nat → ClassId} {a0 : Array Value} (G : gG l s0 D aC a0) (M : gMem) (r : gRef) (ow : Int64) (h0 : M 2 0 = 0) : gMet l s0 D aC y_MR_same (Cond.code y_MR_same b_MR_same 1 (some .boolean)) 0 0 0 0 [.ref (s0.heap.size + 0)] M r ow (fun v M1 r1 => v = some (.int 0) ∧ M1 = M ∧ r1 = r) (fun _ _ _ => False) := by
  refine gm_of G (by decide) (Nat.le_of_ble_eq_true rfl) ?_
  intro p e s m below meth c ls B hexc hl hw
  have hx := B.1
  have hb := B.2.1
  have hown := B.2.2.2.2.2.1
  have T := B.2.2.2.2.2.2.1
  have hK := B.2.2.2.2.2.2.2.1
  refine lv_aload_n hx hb d_MR_same_0 rfl (lv_at hl 0 rfl) ?_
  refine gf_MR_tree hx hb T hown hK hw rfl (kf_MR_24 T) d_MR_same_1 ?_
  refine gf_Tr_size hx hb T hown hK hw rfl (kf_MR_74 T) d_MR_same_4 ?_
  refine lv_if_le hx hb d_MR_same_7 rfl (fun h7 => ?_) (fun h7 => absurd (by rw [h0]; decide) h7)
  refine lv_iconst (v := 0) hx hb d_MR_same_31 (by decide) ?_
  exact gr_z B hw (by rfl) d_MR_same_32 ⟨rfl, rfl, rfl⟩
set_option maxHeartbeats 4000000 in
set_option maxRecDepth 100000 in
theorem c_Rd_beginWith {l : Launch} {s0 : State} {D : va_G} {aC : Nat → ClassId} {a0 : Array Value} (G : gG l s0 D aC a0) (M : gMem) (r : gRef) (ow : Int64) (n : Nat) (hn : n ≤ 240) (hs : M 0 0 = nI n) (hc : ∀ j, cOK (M 10 j)) : gMet l s0 D aC y_Rd_beginWith (Cond.code y_Rd_beginWith b_Rd_beginWith 2 none) 3 120 0 0 [.ref (s0.heap.size + 380), .ref (s0.heap.size + 1)] M r ow (fun v M1 r1 => v = none ∧ M1 = mBeg M n ∧ r1 = rS r 3 0 none) (fun _ _ _ => False) := by
  refine gm_of G (by decide) (Nat.le_of_ble_eq_true rfl) ?_
  intro p e s m below meth c ls B hexc hl hw
  have hx := B.1
  have hb := B.2.1
  have hown := B.2.2.2.2.2.1
  have T := B.2.2.2.2.2.2.1
  have hK := B.2.2.2.2.2.2.2.1
  refine lv_aload_n hx hb d_Rd_beginWith_0 rfl (lv_at hl 0 rfl) ?_
  refine gf_Rd_tree hx hb T hown hK hw rfl (kf_Rd_32 T) d_Rd_beginWith_1 ?_
  refine lv_aload_n hx hb d_Rd_beginWith_4 rfl (lv_at hl 1 rfl) ?_
  refine gy_V (As := [.ref (s0.heap.size + 1)]) B hl.1 hw (c_Tr_beginWith G M r ow n hn hs hc) (kd_Tr_beginWith T) (ki_Tr T) (km_Rd_104 T) (ka_Tr_beginWith T) (ks_Tr_beginWith T) ⟨by decide, by decide, by rfl⟩ (rv_Tr hK hw rfl) rfl (Nat.le_of_ble_eq_true rfl) ⟨by decide, by decide⟩ ⟨by decide, by decide⟩ d_Rd_beginWith_5 (fun v M1 r1 H locs hw hp => ?_) (fun x ek M1 r1 H locs hw hE hp => hp.elim)
  obtain ⟨rfl, hM1, hr1⟩ := hp
  rw [hM1, hr1] at hw
  clear hM1 hr1
  refine lv_aload_n hx hb d_Rd_beginWith_8 rfl (lv_at hl 0 rfl) ?_
  refine gf_Rd_writer hx hb T hown hK hw rfl (kf_Rd_36 T) d_Rd_beginWith_9 ?_
  refine gf_FW_form hx hb T hown hK hw rfl (kf_Rd_105 T) d_Rd_beginWith_12 ?_
  refine lv_iconst (v := 0) hx hb d_Rd_beginWith_15 (by decide) ?_
  refine pf_Row_size hx hb T hown hK hw (i := 5) (by decide) rfl (kf_Rd_71 T) d_Rd_beginWith_16 (fun H locs hw => ?_)
  refine lv_aload_n hx hb d_Rd_beginWith_19 rfl (lv_at hl 0 rfl) ?_
  refine lv_iconst (v := 0) hx hb d_Rd_beginWith_20 (by decide) ?_
  refine pf_Rd_at hx hb T hown hK hw rfl (kf_Rd_18 T) d_Rd_beginWith_21 (fun H locs hw => ?_)
  refine lv_aload_n hx hb d_Rd_beginWith_24 rfl (lv_at hl 0 rfl) ?_
  refine lv_null hx hb d_Rd_beginWith_25 ?_
  refine pf_Rd_open hx hb T hown hK hw (y := none) rfl (kf_Rd_22 T) d_Rd_beginWith_26 (fun H locs hw => ?_)
  refine lv_aload_n hx hb d_Rd_beginWith_29 rfl (lv_at hl 0 rfl) ?_
  refine lv_iconst (v := 0) hx hb d_Rd_beginWith_30 (by decide) ?_
  refine pf_Rd_wrongReason hx hb T hown hK hw rfl (kf_Rd_26 T) d_Rd_beginWith_31 (fun H locs hw => ?_)
  refine lv_aload_n hx hb d_Rd_beginWith_34 rfl (lv_at hl 0 rfl) ?_
  refine lv_iconst (v := -1) hx hb d_Rd_beginWith_35 (by decide) ?_
  refine pf_Rd_wrongPlace hx hb T hown hK hw rfl (kf_Rd_29 T) d_Rd_beginWith_36 (fun H locs hw => ?_)
  exact gr_v B hw d_Rd_beginWith_39 ⟨rfl, rfl, rfl⟩
set_option maxHeartbeats 4000000 in
set_option maxRecDepth 100000 in
theorem c_Rd_passBlanksAndComments_0 {l : Launch} {s0 : State} {D : va_G} {aC : Nat → ClassId} {a0 : Array Value} (G : gG l s0 D aC a0) (M : gMem) (r : gRef) (ow : Int64) (hs : M 0 2 = 0) (hc : ∀ j, cOK (M 12 j)) (ha : M 35 0 = 0) : gMet l s0 D aC y_Rd_passBlanksAndComments (Cond.code y_Rd_passBlanksAndComments b_Rd_passBlanksAndComments 2 none) 2 80 0 0 [.ref (s0.heap.size + 380)] M r ow (fun v M1 r1 => v = none ∧ M1 = M ∧ r1 = r) (fun _ _ _ => False) := by
  refine gm_of G (by decide) (Nat.le_of_ble_eq_true rfl) ?_
  intro p e s m below meth c ls B hexc hl hw
  have hx := B.1
  have hb := B.2.1
  have hown := B.2.2.2.2.2.1
  have T := B.2.2.2.2.2.2.1
  have hK := B.2.2.2.2.2.2.2.1
  refine lv_aload_n hx hb d_Rd_passBlanksAndComments_0 rfl (lv_at hl 0 rfl) ?_
  refine gy_V (As := []) B hl.1 hw (c_Rd_passBlanks G M r ow 0 (by decide) hs hc 0 ha (Nat.le_refl _)) (kd_Rd_passBlanks T) (ki_Rd T) (km_Rd_139 T) (ka_Rd_passBlanks T) (ks_Rd_passBlanks T) ⟨by decide, by decide, by rfl⟩ (rv_Rd hK hw rfl) rfl (Nat.le_of_ble_eq_true rfl) ⟨by decide, by decide⟩ ⟨by decide, by decide⟩ d_Rd_passBlanksAndComments_1 (fun v M1 r1 H locs hw hp => ?_) (fun x ek M1 r1 H locs hw hE hp => hp.elim)
  obtain ⟨rfl, hM1, hr1⟩ := hp
  rw [hM1, hr1, show mS M 35 0 (nI (sk (M 12) (0 - 0) 0)) = M from by rw [show nI (sk (M 12) (0 - 0) 0) = M 35 0 from ha.symm]; exact mS_self M 35 0] at hw
  clear hM1 hr1
  refine lv_pop hx hb d_Rd_passBlanksAndComments_4 rfl ?_
  refine lv_iconst (v := 0) hx hb d_Rd_passBlanksAndComments_5 (by decide) ?_
  refine lv_istore_n hx hb d_Rd_passBlanksAndComments_6 rfl hl (by decide) rfl (fun ls hl => ?_)
  refine lv_iload_n hx hb d_Rd_passBlanksAndComments_7 rfl (lv_at hl 0 rfl) ?_
  refine lv_aload_n hx hb d_Rd_passBlanksAndComments_8 rfl (lv_at hl 1 rfl) ?_
  refine gf_Rd_text hx hb T hown hK hw rfl (kf_Rd_55 T) d_Rd_passBlanksAndComments_9 ?_
  refine gf_Row_size hx hb T hown hK hw (i := 2) (by decide) rfl (kf_Rd_71 T) d_Rd_passBlanksAndComments_12 ?_
  refine lv_icmp_ge hx hb d_Rd_passBlanksAndComments_15 rfl (fun h15 => ?_) (fun h15 => absurd (by rw [hs]; decide) h15)
  exact gr_v B hw d_Rd_passBlanksAndComments_53 ⟨rfl, rfl, rfl⟩
set_option maxHeartbeats 4000000 in
set_option maxRecDepth 100000 in
theorem c_Rd_readTag_0 {l : Launch} {s0 : State} {D : va_G} {aC : Nat → ClassId} {a0 : Array Value} (G : gG l s0 D aC a0) (M : gMem) (r : gRef) (ow : Int64) (n : Nat) (hn : n ≤ 240) (hs : M 0 2 = nI n) (hc : ∀ j, cOK (M 12 j)) (h60 : cNx M 0 ≠ 60) : gMet l s0 D aC y_Rd_readTag (Cond.code y_Rd_readTag b_Rd_readTag 4 (some (.object "MarkupReader$Element"))) 8 150 1 6 [.ref (s0.heap.size + 380)] M r ow (fun _ _ _ => False) (fun ek M1 r1 => ek = 0 ∧ M1 = mFail M 1 (M 35 0) ∧ r1 = r) := by
  refine gm_of G (by decide) (Nat.le_of_ble_eq_true rfl) ?_
  intro p e s m below meth c ls B hexc hl hw
  have hx := B.1
  have hb := B.2.1
  have hown := B.2.2.2.2.2.1
  have T := B.2.2.2.2.2.2.1
  have hK := B.2.2.2.2.2.2.2.1
  refine lv_aload_n hx hb d_Rd_readTag_0 rfl (lv_at hl 0 rfl) ?_
  refine gf_Rd_at hx hb T hown hK hw rfl (kf_Rd_18 T) d_Rd_readTag_1 ?_
  refine lv_istore_n hx hb d_Rd_readTag_4 rfl hl (by decide) rfl (fun ls hl => ?_)
  refine lv_aload_n hx hb d_Rd_readTag_5 rfl (lv_at hl 1 rfl) ?_
  refine lv_bipush (v := 60) hx hb d_Rd_readTag_6 (by decide) ?_
  refine gy_V (As := [.int 60]) B hl.1 hw (c_Rd_pass G M r ow n hn hs hc 60) (kd_Rd_pass T) (ki_Rd T) (km_Rd_131 T) (ka_Rd_pass T) (ks_Rd_pass T) ⟨by decide, by decide, by rfl⟩ (rv_Rd hK hw rfl) rfl (Nat.le_of_ble_eq_true rfl) ⟨by decide, by decide⟩ ⟨by decide, by decide⟩ d_Rd_readTag_8 (fun v M1 r1 H locs hw hp => ?_) (fun x ek M1 r1 H locs hw hE hp => gr_t B hexc hw hE (by decide) (by decide) hp.2)
  exact absurd hp.1 h60
set_option maxHeartbeats 4000000 in
set_option maxRecDepth 100000 in
theorem c_Rd_readText_0 {l : Launch} {s0 : State} {D : va_G} {aC : Nat → ClassId} {a0 : Array Value} (G : gG l s0 D aC a0) (M : gMem) (r : gRef) (ow : Int64) (hs : M 0 0 = 0) (hc : ∀ j, cOK (M 10 j)) (hc2 : ∀ j, cOK (M 12 j)) : gMet l s0 D aC y_Rd_readText (Cond.code y_Rd_readText b_Rd_readText 3 none) 9 190 1 6 [.ref (s0.heap.size + 380), .ref (s0.heap.size + 1)] M r ow (fun _ _ _ => False) (fun ek M1 r1 => ek = 0 ∧ M1 = mFail (mBeg M 0) 1 0 ∧ r1 = rS r 3 0 none) := by
  refine gm_of G (by decide) (Nat.le_of_ble_eq_true rfl) ?_
  intro p e s m below meth c ls B hexc hl hw
  have hx := B.1
  have hb := B.2.1
  have hown := B.2.2.2.2.2.1
  have T := B.2.2.2.2.2.2.1
  have hK := B.2.2.2.2.2.2.2.1
  have e2 : mBeg M 0 0 2 = 0 := by simp [mBeg, mS, mCp, nI_0]
  have e3 : ∀ j, cOK (mBeg M 0 12 j) := fun j => by simpa [mBeg, mS, mCp] using hc2 j
  have e4 : mBeg M 0 35 0 = 0 := by simp [mBeg, mS]
  have e5 : cNx (mBeg M 0) 0 ≠ 60 := by unfold cNx cAt; rw [e4, e2, if_neg (by decide), if_pos (by decide)]; decide
  refine lv_aload_n hx hb d_Rd_readText_0 rfl (lv_at hl 0 rfl) ?_
  refine lv_aload_n hx hb d_Rd_readText_1 rfl (lv_at hl 1 rfl) ?_
  refine gy_V (As := [.ref (s0.heap.size + 1)]) B hl.1 hw (c_Rd_beginWith G M r ow 0 (by decide) hs hc) (kd_Rd_beginWith T) (ki_Rd T) (km_Rd_56 T) (ka_Rd_beginWith T) (ks_Rd_beginWith T) ⟨by decide, by decide, by rfl⟩ (rv_Rd hK hw rfl) rfl (Nat.le_of_ble_eq_true rfl) ⟨by decide, by decide⟩ ⟨by decide, by decide⟩ d_Rd_readText_2 (fun v M1 r1 H locs hw hp => ?_) (fun x ek M1 r1 H locs hw hE hp => hp.elim)
  obtain ⟨rfl, hM1, hr1⟩ := hp
  rw [hM1, hr1] at hw
  clear hM1 hr1
  refine lv_aload_n hx hb d_Rd_readText_5 rfl (lv_at hl 0 rfl) ?_
  refine gy_V (As := []) B hl.1 hw (c_Rd_passBlanksAndComments_0 G (mBeg M 0) (rS r 3 0 none) ow e2 e3 e4) (kd_Rd_passBlanksAndComments T) (ki_Rd T) (km_Rd_60 T) (ka_Rd_passBlanksAndComments T) (ks_Rd_passBlanksAndComments T) ⟨by decide, by decide, by rfl⟩ (rv_Rd hK hw rfl) rfl (Nat.le_of_ble_eq_true rfl) ⟨by decide, by decide⟩ ⟨by decide, by decide⟩ d_Rd_readText_6 (fun v M1 r1 H locs hw hp => ?_) (fun x ek M1 r1 H locs hw hE hp => hp.elim)
  obtain ⟨rfl, hM1, hr1⟩ := hp
  rw [hM1, hr1] at hw
  clear hM1 hr1
  refine lv_aload_n hx hb d_Rd_readText_9 rfl (lv_at hl 0 rfl) ?_
  refine lv_aload_n hx hb d_Rd_readText_10 rfl (lv_at hl 0 rfl) ?_
  refine gy_V (As := []) B hl.1 hw (c_Rd_readTag_0 G (mBeg M 0) (rS r 3 0 none) ow 0 (by decide) e2 e3 e5) (kd_Rd_readTag T) (ki_Rd T) (km_Rd_63 T) (ka_Rd_readTag T) (ks_Rd_readTag T) ⟨by decide, by decide, by rfl⟩ (rv_Rd hK hw rfl) rfl (Nat.le_of_ble_eq_true rfl) ⟨by decide, by decide⟩ ⟨by decide, by decide⟩ d_Rd_readText_11 (fun v M1 r1 H locs hw hp => ?_) (fun x ek M1 r1 H locs hw hE hp => gr_t B hexc hw hE (by decide) (by decide) (by rw [e4] at hp; exact hp))
  exact hp.elim
set_option maxHeartbeats 4000000 in
set_option maxRecDepth 100000 in
theorem c_MR_read_0 {l : Launch} {s0 : State} {D : va_G} {aC : Nat → ClassId} {a0 : Array Value} (G : gG l s0 D aC a0) (M : gMem) (r : gRef) (ow : Int64) (hs : M 0 0 = 0) (hc : ∀ j, cOK (M 10 j)) (hc2 : ∀ j, cOK (M 12 j)) : gMet l s0 D aC y_MR_read (Cond.code y_MR_read b_MR_read 1 (some .int)) 10 230 1 6 [.ref (s0.heap.size + 0)] M r ow (fun _ _ _ => False) (fun ek M1 r1 => ek = 0 ∧ M1 = mFail (mBeg M 0) 1 0 ∧ r1 = rS r 3 0 none) := by
  refine gm_of G (by decide) (Nat.le_of_ble_eq_true rfl) ?_
  intro p e s m below meth c ls B hexc hl hw
  have hx := B.1
  have hb := B.2.1
  have hown := B.2.2.2.2.2.1
  have T := B.2.2.2.2.2.2.1
  have hK := B.2.2.2.2.2.2.2.1
  refine lv_aload_n hx hb d_MR_read_0 rfl (lv_at hl 0 rfl) ?_
  refine gf_MR_reading hx hb T hown hK hw rfl (kf_MR_42 T) d_MR_read_1 ?_
  refine lv_aload_n hx hb d_MR_read_4 rfl (lv_at hl 0 rfl) ?_
  refine gf_MR_typed hx hb T hown hK hw rfl (kf_MR_14 T) d_MR_read_5 ?_
  refine gy_V (As := [.ref (s0.heap.size + 1)]) B hl.1 hw (c_Rd_readText_0 G M r ow hs hc hc2) (kd_Rd_readText T) (ki_Rd T) (km_MR_70 T) (ka_Rd_readText T) (ks_Rd_readText T) ⟨by decide, by decide, by rfl⟩ (rv_Rd hK hw rfl) rfl (Nat.le_of_ble_eq_true rfl) ⟨by decide, by decide⟩ ⟨by decide, by decide⟩ d_MR_read_8 (fun v M1 r1 H locs hw hp => ?_) (fun x ek M1 r1 H locs hw hE hp => gr_t B hexc hw hE (by decide) (by decide) hp)
  exact hp.elim
