/-! Leaves: which signs a name has, digits; names, values -/
def cPu (x : Int32) : Int32 := if x = 95 then 1 else 0
def cPg (x : Int32) : Int32 := if x < 65 then cPu x else if x ≤ 90 then 1 else cPu x
/-- a name's part can begin so -/
def cPb (x : Int32) : Int32 := if x < 97 then cPg x else if x ≤ 122 then 1 else cPg x
def cGu (x : Int32) : Int32 := if x = 45 then 1 else if x = 46 then 1 else 0
/-- a name's part can go on so -/
def cGo (x : Int32) : Int32 := if cPb x = 0 then (if x < 48 then cGu x else if x ≤ 57 then 1 else cGu x) else 1
def cDu (x b : Int32) : Int32 := if b = 16 then (if x < 65 then -1 else if 70 < x then -1 else x - 65 + 10) else -1
def cDl (x b : Int32) : Int32 := if b = 16 then (if x < 97 then cDu x b else if 102 < x then cDu x b else x - 97 + 10) else cDu x b
/-- a digit's worth, or -1 -/
def cDi (x b : Int32) : Int32 := if x < 48 then cDl x b else if 57 < x then cDl x b else x - 48
theorem d_MR_beginsPart_0 : decode b_MR_beginsPart 0 = .ok (.iload_n 0, 1) := by decide +kernel
theorem d_MR_beginsPart_1 : decode b_MR_beginsPart 1 = .ok (.bipush 97, 2) := by decide +kernel
theorem d_MR_beginsPart_3 : decode b_MR_beginsPart 3 = .ok (.if_icmp .lt 9, 3) := by decide +kernel
theorem d_MR_beginsPart_6 : decode b_MR_beginsPart 6 = .ok (.iload_n 0, 1) := by decide +kernel
theorem d_MR_beginsPart_7 : decode b_MR_beginsPart 7 = .ok (.bipush 122, 2) := by decide +kernel
theorem d_MR_beginsPart_9 : decode b_MR_beginsPart 9 = .ok (.if_icmp .le 21, 3) := by decide +kernel
theorem d_MR_beginsPart_12 : decode b_MR_beginsPart 12 = .ok (.iload_n 0, 1) := by decide +kernel
theorem d_MR_beginsPart_13 : decode b_MR_beginsPart 13 = .ok (.bipush 65, 2) := by decide +kernel
theorem d_MR_beginsPart_15 : decode b_MR_beginsPart 15 = .ok (.if_icmp .lt 9, 3) := by decide +kernel
theorem d_MR_beginsPart_18 : decode b_MR_beginsPart 18 = .ok (.iload_n 0, 1) := by decide +kernel
theorem d_MR_beginsPart_19 : decode b_MR_beginsPart 19 = .ok (.bipush 90, 2) := by decide +kernel
theorem d_MR_beginsPart_21 : decode b_MR_beginsPart 21 = .ok (.if_icmp .le 9, 3) := by decide +kernel
theorem d_MR_beginsPart_24 : decode b_MR_beginsPart 24 = .ok (.iload_n 0, 1) := by decide +kernel
theorem d_MR_beginsPart_25 : decode b_MR_beginsPart 25 = .ok (.bipush 95, 2) := by decide +kernel
theorem d_MR_beginsPart_27 : decode b_MR_beginsPart 27 = .ok (.if_icmp .ne 7, 3) := by decide +kernel
theorem d_MR_beginsPart_30 : decode b_MR_beginsPart 30 = .ok (.iconst 1, 1) := by decide +kernel
theorem d_MR_beginsPart_31 : decode b_MR_beginsPart 31 = .ok (.goto 4, 3) := by decide +kernel
theorem d_MR_beginsPart_34 : decode b_MR_beginsPart 34 = .ok (.iconst 0, 1) := by decide +kernel
theorem d_MR_beginsPart_35 : decode b_MR_beginsPart 35 = .ok (.ireturn, 1) := by decide +kernel
theorem d_MR_goesOnPart_0 : decode b_MR_goesOnPart 0 = .ok (.iload_n 0, 1) := by decide +kernel
theorem d_MR_goesOnPart_1 : decode b_MR_goesOnPart 1 = .ok (.invokestatic 181, 3) := by decide +kernel
theorem d_MR_goesOnPart_4 : decode b_MR_goesOnPart 4 = .ok (.ifCond .ne 27, 3) := by decide +kernel
theorem d_MR_goesOnPart_7 : decode b_MR_goesOnPart 7 = .ok (.iload_n 0, 1) := by decide +kernel
theorem d_MR_goesOnPart_8 : decode b_MR_goesOnPart 8 = .ok (.bipush 48, 2) := by decide +kernel
theorem d_MR_goesOnPart_10 : decode b_MR_goesOnPart 10 = .ok (.if_icmp .lt 9, 3) := by decide +kernel
theorem d_MR_goesOnPart_13 : decode b_MR_goesOnPart 13 = .ok (.iload_n 0, 1) := by decide +kernel
theorem d_MR_goesOnPart_14 : decode b_MR_goesOnPart 14 = .ok (.bipush 57, 2) := by decide +kernel
theorem d_MR_goesOnPart_16 : decode b_MR_goesOnPart 16 = .ok (.if_icmp .le 15, 3) := by decide +kernel
theorem d_MR_goesOnPart_19 : decode b_MR_goesOnPart 19 = .ok (.iload_n 0, 1) := by decide +kernel
theorem d_MR_goesOnPart_20 : decode b_MR_goesOnPart 20 = .ok (.bipush 45, 2) := by decide +kernel
theorem d_MR_goesOnPart_22 : decode b_MR_goesOnPart 22 = .ok (.if_icmp .eq 9, 3) := by decide +kernel
theorem d_MR_goesOnPart_25 : decode b_MR_goesOnPart 25 = .ok (.iload_n 0, 1) := by decide +kernel
theorem d_MR_goesOnPart_26 : decode b_MR_goesOnPart 26 = .ok (.bipush 46, 2) := by decide +kernel
theorem d_MR_goesOnPart_28 : decode b_MR_goesOnPart 28 = .ok (.if_icmp .ne 7, 3) := by decide +kernel
theorem d_MR_goesOnPart_31 : decode b_MR_goesOnPart 31 = .ok (.iconst 1, 1) := by decide +kernel
theorem d_MR_goesOnPart_32 : decode b_MR_goesOnPart 32 = .ok (.goto 4, 3) := by decide +kernel
theorem d_MR_goesOnPart_35 : decode b_MR_goesOnPart 35 = .ok (.iconst 0, 1) := by decide +kernel
theorem d_MR_goesOnPart_36 : decode b_MR_goesOnPart 36 = .ok (.ireturn, 1) := by decide +kernel
theorem d_MR_digit_0 : decode b_MR_digit 0 = .ok (.iload_n 0, 1) := by decide +kernel
theorem d_MR_digit_1 : decode b_MR_digit 1 = .ok (.bipush 48, 2) := by decide +kernel
theorem d_MR_digit_3 : decode b_MR_digit 3 = .ok (.if_icmp .lt 14, 3) := by decide +kernel
theorem d_MR_digit_6 : decode b_MR_digit 6 = .ok (.iload_n 0, 1) := by decide +kernel
theorem d_MR_digit_7 : decode b_MR_digit 7 = .ok (.bipush 57, 2) := by decide +kernel
theorem d_MR_digit_9 : decode b_MR_digit 9 = .ok (.if_icmp .gt 8, 3) := by decide +kernel
theorem d_MR_digit_12 : decode b_MR_digit 12 = .ok (.iload_n 0, 1) := by decide +kernel
theorem d_MR_digit_13 : decode b_MR_digit 13 = .ok (.bipush 48, 2) := by decide +kernel
theorem d_MR_digit_15 : decode b_MR_digit 15 = .ok (.isub, 1) := by decide +kernel
theorem d_MR_digit_16 : decode b_MR_digit 16 = .ok (.ireturn, 1) := by decide +kernel
theorem d_MR_digit_17 : decode b_MR_digit 17 = .ok (.iload_n 1, 1) := by decide +kernel
theorem d_MR_digit_18 : decode b_MR_digit 18 = .ok (.bipush 16, 2) := by decide +kernel
theorem d_MR_digit_20 : decode b_MR_digit 20 = .ok (.if_icmp .ne 23, 3) := by decide +kernel
theorem d_MR_digit_23 : decode b_MR_digit 23 = .ok (.iload_n 0, 1) := by decide +kernel
theorem d_MR_digit_24 : decode b_MR_digit 24 = .ok (.bipush 97, 2) := by decide +kernel
theorem d_MR_digit_26 : decode b_MR_digit 26 = .ok (.if_icmp .lt 17, 3) := by decide +kernel
theorem d_MR_digit_29 : decode b_MR_digit 29 = .ok (.iload_n 0, 1) := by decide +kernel
theorem d_MR_digit_30 : decode b_MR_digit 30 = .ok (.bipush 102, 2) := by decide +kernel
theorem d_MR_digit_32 : decode b_MR_digit 32 = .ok (.if_icmp .gt 11, 3) := by decide +kernel
theorem d_MR_digit_35 : decode b_MR_digit 35 = .ok (.iload_n 0, 1) := by decide +kernel
theorem d_MR_digit_36 : decode b_MR_digit 36 = .ok (.bipush 97, 2) := by decide +kernel
theorem d_MR_digit_38 : decode b_MR_digit 38 = .ok (.isub, 1) := by decide +kernel
theorem d_MR_digit_39 : decode b_MR_digit 39 = .ok (.bipush 10, 2) := by decide +kernel
theorem d_MR_digit_41 : decode b_MR_digit 41 = .ok (.iadd, 1) := by decide +kernel
theorem d_MR_digit_42 : decode b_MR_digit 42 = .ok (.ireturn, 1) := by decide +kernel
theorem d_MR_digit_43 : decode b_MR_digit 43 = .ok (.iload_n 1, 1) := by decide +kernel
theorem d_MR_digit_44 : decode b_MR_digit 44 = .ok (.bipush 16, 2) := by decide +kernel
theorem d_MR_digit_46 : decode b_MR_digit 46 = .ok (.if_icmp .ne 23, 3) := by decide +kernel
theorem d_MR_digit_49 : decode b_MR_digit 49 = .ok (.iload_n 0, 1) := by decide +kernel
theorem d_MR_digit_50 : decode b_MR_digit 50 = .ok (.bipush 65, 2) := by decide +kernel
theorem d_MR_digit_52 : decode b_MR_digit 52 = .ok (.if_icmp .lt 17, 3) := by decide +kernel
theorem d_MR_digit_55 : decode b_MR_digit 55 = .ok (.iload_n 0, 1) := by decide +kernel
theorem d_MR_digit_56 : decode b_MR_digit 56 = .ok (.bipush 70, 2) := by decide +kernel
theorem d_MR_digit_58 : decode b_MR_digit 58 = .ok (.if_icmp .gt 11, 3) := by decide +kernel
theorem d_MR_digit_61 : decode b_MR_digit 61 = .ok (.iload_n 0, 1) := by decide +kernel
theorem d_MR_digit_62 : decode b_MR_digit 62 = .ok (.bipush 65, 2) := by decide +kernel
theorem d_MR_digit_64 : decode b_MR_digit 64 = .ok (.isub, 1) := by decide +kernel
theorem d_MR_digit_65 : decode b_MR_digit 65 = .ok (.bipush 10, 2) := by decide +kernel
theorem d_MR_digit_67 : decode b_MR_digit 67 = .ok (.iadd, 1) := by decide +kernel
theorem d_MR_digit_68 : decode b_MR_digit 68 = .ok (.ireturn, 1) := by decide +kernel
theorem d_MR_digit_69 : decode b_MR_digit 69 = .ok (.iconst (-1), 1) := by decide +kernel
theorem d_MR_digit_70 : decode b_MR_digit 70 = .ok (.ireturn, 1) := by decide +kernel
theorem d_Nm_hasPrefix_0 : decode b_Nm_hasPrefix 0 = .ok (.aload_n 0, 1) := by decide +kernel
theorem d_Nm_hasPrefix_1 : decode b_Nm_hasPrefix 1 = .ok (.getfield 7, 3) := by decide +kernel
theorem d_Nm_hasPrefix_4 : decode b_Nm_hasPrefix 4 = .ok (.aload_n 0, 1) := by decide +kernel
theorem d_Nm_hasPrefix_5 : decode b_Nm_hasPrefix 5 = .ok (.getfield 13, 3) := by decide +kernel
theorem d_Nm_hasPrefix_8 : decode b_Nm_hasPrefix 8 = .ok (.if_icmp .le 7, 3) := by decide +kernel
theorem d_Nm_hasPrefix_11 : decode b_Nm_hasPrefix 11 = .ok (.iconst 1, 1) := by decide +kernel
theorem d_Nm_hasPrefix_12 : decode b_Nm_hasPrefix 12 = .ok (.goto 4, 3) := by decide +kernel
theorem d_Nm_hasPrefix_15 : decode b_Nm_hasPrefix 15 = .ok (.iconst 0, 1) := by decide +kernel
theorem d_Nm_hasPrefix_16 : decode b_Nm_hasPrefix 16 = .ok (.ireturn, 1) := by decide +kernel
theorem d_At_valueLength_0 : decode b_At_valueLength 0 = .ok (.aload_n 0, 1) := by decide +kernel
theorem d_At_valueLength_1 : decode b_At_valueLength 1 = .ok (.getfield 16, 3) := by decide +kernel
theorem d_At_valueLength_4 : decode b_At_valueLength 4 = .ok (.aload_n 0, 1) := by decide +kernel
theorem d_At_valueLength_5 : decode b_At_valueLength 5 = .ok (.getfield 20, 3) := by decide +kernel
theorem d_At_valueLength_8 : decode b_At_valueLength 8 = .ok (.isub, 1) := by decide +kernel
theorem d_At_valueLength_9 : decode b_At_valueLength 9 = .ok (.ireturn, 1) := by decide +kernel
theorem d_Nm_prefixEnd_0 : decode b_Nm_prefixEnd 0 = .ok (.aload_n 0, 1) := by decide +kernel
theorem d_Nm_prefixEnd_1 : decode b_Nm_prefixEnd 1 = .ok (.invokevirtual 26, 3) := by decide +kernel
theorem d_Nm_prefixEnd_4 : decode b_Nm_prefixEnd 4 = .ok (.ifCond .eq 12, 3) := by decide +kernel
theorem d_Nm_prefixEnd_7 : decode b_Nm_prefixEnd 7 = .ok (.aload_n 0, 1) := by decide +kernel
theorem d_Nm_prefixEnd_8 : decode b_Nm_prefixEnd 8 = .ok (.getfield 7, 3) := by decide +kernel
theorem d_Nm_prefixEnd_11 : decode b_Nm_prefixEnd 11 = .ok (.iconst 1, 1) := by decide +kernel
theorem d_Nm_prefixEnd_12 : decode b_Nm_prefixEnd 12 = .ok (.isub, 1) := by decide +kernel
theorem d_Nm_prefixEnd_13 : decode b_Nm_prefixEnd 13 = .ok (.goto 7, 3) := by decide +kernel
theorem d_Nm_prefixEnd_16 : decode b_Nm_prefixEnd 16 = .ok (.aload_n 0, 1) := by decide +kernel
theorem d_Nm_prefixEnd_17 : decode b_Nm_prefixEnd 17 = .ok (.getfield 13, 3) := by decide +kernel
theorem d_Nm_prefixEnd_20 : decode b_Nm_prefixEnd 20 = .ok (.ireturn, 1) := by decide +kernel
theorem d_Mo_starts_0 : decode b_Mo_starts 0 = .ok (.iload_n 1, 1) := by decide +kernel
theorem d_Mo_starts_1 : decode b_Mo_starts 1 = .ok (.bipush 97, 2) := by decide +kernel
theorem d_Mo_starts_3 : decode b_Mo_starts 3 = .ok (.if_icmp .lt 9, 3) := by decide +kernel
theorem d_Mo_starts_6 : decode b_Mo_starts 6 = .ok (.iload_n 1, 1) := by decide +kernel
theorem d_Mo_starts_7 : decode b_Mo_starts 7 = .ok (.bipush 122, 2) := by decide +kernel
theorem d_Mo_starts_9 : decode b_Mo_starts 9 = .ok (.if_icmp .le 21, 3) := by decide +kernel
theorem d_Mo_starts_12 : decode b_Mo_starts 12 = .ok (.iload_n 1, 1) := by decide +kernel
theorem d_Mo_starts_13 : decode b_Mo_starts 13 = .ok (.bipush 65, 2) := by decide +kernel
theorem d_Mo_starts_15 : decode b_Mo_starts 15 = .ok (.if_icmp .lt 9, 3) := by decide +kernel
theorem d_Mo_starts_18 : decode b_Mo_starts 18 = .ok (.iload_n 1, 1) := by decide +kernel
theorem d_Mo_starts_19 : decode b_Mo_starts 19 = .ok (.bipush 90, 2) := by decide +kernel
theorem d_Mo_starts_21 : decode b_Mo_starts 21 = .ok (.if_icmp .le 9, 3) := by decide +kernel
theorem d_Mo_starts_24 : decode b_Mo_starts 24 = .ok (.iload_n 1, 1) := by decide +kernel
theorem d_Mo_starts_25 : decode b_Mo_starts 25 = .ok (.bipush 95, 2) := by decide +kernel
theorem d_Mo_starts_27 : decode b_Mo_starts 27 = .ok (.if_icmp .ne 7, 3) := by decide +kernel
theorem d_Mo_starts_30 : decode b_Mo_starts 30 = .ok (.iconst 1, 1) := by decide +kernel
theorem d_Mo_starts_31 : decode b_Mo_starts 31 = .ok (.goto 4, 3) := by decide +kernel
theorem d_Mo_starts_34 : decode b_Mo_starts 34 = .ok (.iconst 0, 1) := by decide +kernel
theorem d_Mo_starts_35 : decode b_Mo_starts 35 = .ok (.ireturn, 1) := by decide +kernel
theorem d_Mo_goesOn_0 : decode b_Mo_goesOn 0 = .ok (.aload_n 0, 1) := by decide +kernel
theorem d_Mo_goesOn_1 : decode b_Mo_goesOn 1 = .ok (.iload_n 1, 1) := by decide +kernel
theorem d_Mo_goesOn_2 : decode b_Mo_goesOn 2 = .ok (.invokevirtual 68, 3) := by decide +kernel
theorem d_Mo_goesOn_5 : decode b_Mo_goesOn 5 = .ok (.ifCond .ne 27, 3) := by decide +kernel
theorem d_Mo_goesOn_8 : decode b_Mo_goesOn 8 = .ok (.iload_n 1, 1) := by decide +kernel
theorem d_Mo_goesOn_9 : decode b_Mo_goesOn 9 = .ok (.bipush 48, 2) := by decide +kernel
theorem d_Mo_goesOn_11 : decode b_Mo_goesOn 11 = .ok (.if_icmp .lt 9, 3) := by decide +kernel
theorem d_Mo_goesOn_14 : decode b_Mo_goesOn 14 = .ok (.iload_n 1, 1) := by decide +kernel
theorem d_Mo_goesOn_15 : decode b_Mo_goesOn 15 = .ok (.bipush 57, 2) := by decide +kernel
theorem d_Mo_goesOn_17 : decode b_Mo_goesOn 17 = .ok (.if_icmp .le 15, 3) := by decide +kernel
theorem d_Mo_goesOn_20 : decode b_Mo_goesOn 20 = .ok (.iload_n 1, 1) := by decide +kernel
theorem d_Mo_goesOn_21 : decode b_Mo_goesOn 21 = .ok (.bipush 45, 2) := by decide +kernel
theorem d_Mo_goesOn_23 : decode b_Mo_goesOn 23 = .ok (.if_icmp .eq 9, 3) := by decide +kernel
theorem d_Mo_goesOn_26 : decode b_Mo_goesOn 26 = .ok (.iload_n 1, 1) := by decide +kernel
theorem d_Mo_goesOn_27 : decode b_Mo_goesOn 27 = .ok (.bipush 46, 2) := by decide +kernel
theorem d_Mo_goesOn_29 : decode b_Mo_goesOn 29 = .ok (.if_icmp .ne 7, 3) := by decide +kernel
theorem d_Mo_goesOn_32 : decode b_Mo_goesOn 32 = .ok (.iconst 1, 1) := by decide +kernel
theorem d_Mo_goesOn_33 : decode b_Mo_goesOn 33 = .ok (.goto 4, 3) := by decide +kernel
theorem d_Mo_goesOn_36 : decode b_Mo_goesOn 36 = .ok (.iconst 0, 1) := by decide +kernel
theorem d_Mo_goesOn_37 : decode b_Mo_goesOn 37 = .ok (.ireturn, 1) := by decide +kernel
theorem d_Nm_hasSpace_0 : decode b_Nm_hasSpace 0 = .ok (.aload_n 0, 1) := by decide +kernel
theorem d_Nm_hasSpace_1 : decode b_Nm_hasSpace 1 = .ok (.getfield 16, 3) := by decide +kernel
theorem d_Nm_hasSpace_4 : decode b_Nm_hasSpace 4 = .ok (.invokevirtual 20, 3) := by decide +kernel
theorem d_Nm_hasSpace_7 : decode b_Nm_hasSpace 7 = .ok (.ifCond .le 7, 3) := by decide +kernel
theorem d_Nm_hasSpace_10 : decode b_Nm_hasSpace 10 = .ok (.iconst 1, 1) := by decide +kernel
theorem d_Nm_hasSpace_11 : decode b_Nm_hasSpace 11 = .ok (.goto 4, 3) := by decide +kernel
theorem d_Nm_hasSpace_14 : decode b_Nm_hasSpace 14 = .ok (.iconst 0, 1) := by decide +kernel
theorem d_Nm_hasSpace_15 : decode b_Nm_hasSpace 15 = .ok (.ireturn, 1) := by decide +kernel
set_option maxHeartbeats 4000000 in
set_option maxRecDepth 100000 in
theorem c_MR_beginsPart {l : Launch} {s0 : State} {D : va_G} {aC : Nat → ClassId} {a0 : Array Value} (G : gG l s0 D aC a0) (M : gMem) (r : gRef) (ow : Int64) (x : Int32) : gMet l s0 D aC y_MR_beginsPart (Cond.code y_MR_beginsPart b_MR_beginsPart 1 (some .boolean)) 0 0 0 0 [.int x] M r ow (fun v M1 r1 => v = some (.int (cPb x)) ∧ M1 = M ∧ r1 = r) (fun _ _ _ => False) := by
  refine gm_of G (by decide) (Nat.le_of_ble_eq_true rfl) ?_
  intro p e s m below meth c ls B hexc hl hw
  have hx := B.1
  have hb := B.2.1
  have hown := B.2.2.2.2.2.1
  have T := B.2.2.2.2.2.2.1
  have hK := B.2.2.2.2.2.2.2.1
  refine lv_iload_n hx hb d_MR_beginsPart_0 rfl (lv_at hl 0 rfl) ?_
  refine lv_bipush (v := 97) hx hb d_MR_beginsPart_1 (by decide) ?_
  refine lv_icmp_lt hx hb d_MR_beginsPart_3 rfl (fun h3 => ?_) (fun h3 => ?_)
  · skip
    refine lv_iload_n hx hb d_MR_beginsPart_12 rfl (lv_at hl 0 rfl) ?_
    refine lv_bipush (v := 65) hx hb d_MR_beginsPart_13 (by decide) ?_
    refine lv_icmp_lt hx hb d_MR_beginsPart_15 rfl (fun h15 => ?_) (fun h15 => ?_)
    · skip
      refine lv_iload_n hx hb d_MR_beginsPart_24 rfl (lv_at hl 0 rfl) ?_
      refine lv_bipush (v := 95) hx hb d_MR_beginsPart_25 (by decide) ?_
      refine lv_icmp_ne hx hb d_MR_beginsPart_27 rfl (fun h27 => ?_) (fun h27 => ?_)
      · skip
        refine lv_iconst (v := 0) hx hb d_MR_beginsPart_34 (by decide) ?_
        exact gr_z B hw (by rfl) d_MR_beginsPart_35 ⟨(by (try unfold cPb cPg cPu); (repeat' split) <;> first | rfl | contradiction | (simp_all; done)), rfl, rfl⟩
      · skip
        refine lv_iconst (v := 1) hx hb d_MR_beginsPart_30 (by decide) ?_
        refine lv_goto hx hb d_MR_beginsPart_31 rfl ?_
        exact gr_z B hw (by rfl) d_MR_beginsPart_35 ⟨(by (try unfold cPb cPg cPu); (repeat' split) <;> first | rfl | contradiction | (simp_all; done)), rfl, rfl⟩
    · skip
      refine lv_iload_n hx hb d_MR_beginsPart_18 rfl (lv_at hl 0 rfl) ?_
      refine lv_bipush (v := 90) hx hb d_MR_beginsPart_19 (by decide) ?_
      refine lv_icmp_le hx hb d_MR_beginsPart_21 rfl (fun h21 => ?_) (fun h21 => ?_)
      · skip
        refine lv_iconst (v := 1) hx hb d_MR_beginsPart_30 (by decide) ?_
        refine lv_goto hx hb d_MR_beginsPart_31 rfl ?_
        exact gr_z B hw (by rfl) d_MR_beginsPart_35 ⟨(by (try unfold cPb cPg cPu); (repeat' split) <;> first | rfl | contradiction | (simp_all; done)), rfl, rfl⟩
      · skip
        refine lv_iload_n hx hb d_MR_beginsPart_24 rfl (lv_at hl 0 rfl) ?_
        refine lv_bipush (v := 95) hx hb d_MR_beginsPart_25 (by decide) ?_
        refine lv_icmp_ne hx hb d_MR_beginsPart_27 rfl (fun h27 => ?_) (fun h27 => ?_)
        · skip
          refine lv_iconst (v := 0) hx hb d_MR_beginsPart_34 (by decide) ?_
          exact gr_z B hw (by rfl) d_MR_beginsPart_35 ⟨(by (try unfold cPb cPg cPu); (repeat' split) <;> first | rfl | contradiction | (simp_all; done)), rfl, rfl⟩
        · skip
          refine lv_iconst (v := 1) hx hb d_MR_beginsPart_30 (by decide) ?_
          refine lv_goto hx hb d_MR_beginsPart_31 rfl ?_
          exact gr_z B hw (by rfl) d_MR_beginsPart_35 ⟨(by (try unfold cPb cPg cPu); (repeat' split) <;> first | rfl | contradiction | (simp_all; done)), rfl, rfl⟩
  · skip
    refine lv_iload_n hx hb d_MR_beginsPart_6 rfl (lv_at hl 0 rfl) ?_
    refine lv_bipush (v := 122) hx hb d_MR_beginsPart_7 (by decide) ?_
    refine lv_icmp_le hx hb d_MR_beginsPart_9 rfl (fun h9 => ?_) (fun h9 => ?_)
    · skip
      refine lv_iconst (v := 1) hx hb d_MR_beginsPart_30 (by decide) ?_
      refine lv_goto hx hb d_MR_beginsPart_31 rfl ?_
      exact gr_z B hw (by rfl) d_MR_beginsPart_35 ⟨(by (try unfold cPb cPg cPu); (repeat' split) <;> first | rfl | contradiction | (simp_all; done)), rfl, rfl⟩
    · skip
      refine lv_iload_n hx hb d_MR_beginsPart_12 rfl (lv_at hl 0 rfl) ?_
      refine lv_bipush (v := 65) hx hb d_MR_beginsPart_13 (by decide) ?_
      refine lv_icmp_lt hx hb d_MR_beginsPart_15 rfl (fun h15 => ?_) (fun h15 => ?_)
      · skip
        refine lv_iload_n hx hb d_MR_beginsPart_24 rfl (lv_at hl 0 rfl) ?_
        refine lv_bipush (v := 95) hx hb d_MR_beginsPart_25 (by decide) ?_
        refine lv_icmp_ne hx hb d_MR_beginsPart_27 rfl (fun h27 => ?_) (fun h27 => ?_)
        · skip
          refine lv_iconst (v := 0) hx hb d_MR_beginsPart_34 (by decide) ?_
          exact gr_z B hw (by rfl) d_MR_beginsPart_35 ⟨(by (try unfold cPb cPg cPu); (repeat' split) <;> first | rfl | contradiction | (simp_all; done)), rfl, rfl⟩
        · skip
          refine lv_iconst (v := 1) hx hb d_MR_beginsPart_30 (by decide) ?_
          refine lv_goto hx hb d_MR_beginsPart_31 rfl ?_
          exact gr_z B hw (by rfl) d_MR_beginsPart_35 ⟨(by (try unfold cPb cPg cPu); (repeat' split) <;> first | rfl | contradiction | (simp_all; done)), rfl, rfl⟩
      · skip
        refine lv_iload_n hx hb d_MR_beginsPart_18 rfl (lv_at hl 0 rfl) ?_
        refine lv_bipush (v := 90) hx hb d_MR_beginsPart_19 (by decide) ?_
        refine lv_icmp_le hx hb d_MR_beginsPart_21 rfl (fun h21 => ?_) (fun h21 => ?_)
        · skip
          refine lv_iconst (v := 1) hx hb d_MR_beginsPart_30 (by decide) ?_
          refine lv_goto hx hb d_MR_beginsPart_31 rfl ?_
          exact gr_z B hw (by rfl) d_MR_beginsPart_35 ⟨(by (try unfold cPb cPg cPu); (repeat' split) <;> first | rfl | contradiction | (simp_all; done)), rfl, rfl⟩
        · skip
          refine lv_iload_n hx hb d_MR_beginsPart_24 rfl (lv_at hl 0 rfl) ?_
          refine lv_bipush (v := 95) hx hb d_MR_beginsPart_25 (by decide) ?_
          refine lv_icmp_ne hx hb d_MR_beginsPart_27 rfl (fun h27 => ?_) (fun h27 => ?_)
          · skip
            refine lv_iconst (v := 0) hx hb d_MR_beginsPart_34 (by decide) ?_
            exact gr_z B hw (by rfl) d_MR_beginsPart_35 ⟨(by (try unfold cPb cPg cPu); (repeat' split) <;> first | rfl | contradiction | (simp_all; done)), rfl, rfl⟩
          · skip
            refine lv_iconst (v := 1) hx hb d_MR_beginsPart_30 (by decide) ?_
            refine lv_goto hx hb d_MR_beginsPart_31 rfl ?_
            exact gr_z B hw (by rfl) d_MR_beginsPart_35 ⟨(by (try unfold cPb cPg cPu); (repeat' split) <;> first | rfl | contradiction | (simp_all; done)), rfl, rfl⟩
set_option maxHeartbeats 4000000 in
set_option maxRecDepth 100000 in
theorem c_MR_goesOnPart {l : Launch} {s0 : State} {D : va_G} {aC : Nat → ClassId} {a0 : Array Value} (G : gG l s0 D aC a0) (M : gMem) (r : gRef) (ow : Int64) (x : Int32) : gMet l s0 D aC y_MR_goesOnPart (Cond.code y_MR_goesOnPart b_MR_goesOnPart 1 (some .boolean)) 1 40 0 0 [.int x] M r ow (fun v M1 r1 => v = some (.int (cGo x)) ∧ M1 = M ∧ r1 = r) (fun _ _ _ => False) := by
  refine gm_of G (by decide) (Nat.le_of_ble_eq_true rfl) ?_
  intro p e s m below meth c ls B hexc hl hw
  have hx := B.1
  have hb := B.2.1
  have hown := B.2.2.2.2.2.1
  have T := B.2.2.2.2.2.2.1
  have hK := B.2.2.2.2.2.2.2.1
  refine lv_iload_n hx hb d_MR_goesOnPart_0 rfl (lv_at hl 0 rfl) ?_
  refine gy_S (As := [.int x]) B hl.1 hw (c_MR_beginsPart G M r ow x) (kd_MR_beginsPart T) (ki_MR T) (km_MR_181 T) (kt_MR_beginsPart T) ⟨by decide, by decide, by rfl⟩ rfl (Nat.le_of_ble_eq_true rfl) ⟨by decide, by decide⟩ ⟨by decide, by decide⟩ d_MR_goesOnPart_1 (fun v M1 r1 H locs hw hp => ?_) (fun x ek M1 r1 H locs hw hE hp => hp.elim)
  obtain ⟨rfl, hM1, hr1⟩ := hp
  rw [hM1, hr1] at hw
  clear hM1 hr1
  refine lv_if_ne hx hb d_MR_goesOnPart_4 rfl (fun h4 => ?_) (fun h4 => ?_)
  · skip
    refine lv_iconst (v := 1) hx hb d_MR_goesOnPart_31 (by decide) ?_
    refine lv_goto hx hb d_MR_goesOnPart_32 rfl ?_
    exact gr_z B hw (by rfl) d_MR_goesOnPart_36 ⟨(by (try unfold cGo cGu); (repeat' split) <;> first | rfl | contradiction | (simp_all; done)), rfl, rfl⟩
  · skip
    refine lv_iload_n hx hb d_MR_goesOnPart_7 rfl (lv_at hl 0 rfl) ?_
    refine lv_bipush (v := 48) hx hb d_MR_goesOnPart_8 (by decide) ?_
    refine lv_icmp_lt hx hb d_MR_goesOnPart_10 rfl (fun h10 => ?_) (fun h10 => ?_)
    · skip
      refine lv_iload_n hx hb d_MR_goesOnPart_19 rfl (lv_at hl 0 rfl) ?_
      refine lv_bipush (v := 45) hx hb d_MR_goesOnPart_20 (by decide) ?_
      refine lv_icmp_eq hx hb d_MR_goesOnPart_22 rfl (fun h22 => ?_) (fun h22 => ?_)
      · skip
        refine lv_iconst (v := 1) hx hb d_MR_goesOnPart_31 (by decide) ?_
        refine lv_goto hx hb d_MR_goesOnPart_32 rfl ?_
        exact gr_z B hw (by rfl) d_MR_goesOnPart_36 ⟨(by (try unfold cGo cGu); (repeat' split) <;> first | rfl | contradiction | (simp_all; done)), rfl, rfl⟩
      · skip
        refine lv_iload_n hx hb d_MR_goesOnPart_25 rfl (lv_at hl 0 rfl) ?_
        refine lv_bipush (v := 46) hx hb d_MR_goesOnPart_26 (by decide) ?_
        refine lv_icmp_ne hx hb d_MR_goesOnPart_28 rfl (fun h28 => ?_) (fun h28 => ?_)
        · skip
          refine lv_iconst (v := 0) hx hb d_MR_goesOnPart_35 (by decide) ?_
          exact gr_z B hw (by rfl) d_MR_goesOnPart_36 ⟨(by (try unfold cGo cGu); (repeat' split) <;> first | rfl | contradiction | (simp_all; done)), rfl, rfl⟩
        · skip
          refine lv_iconst (v := 1) hx hb d_MR_goesOnPart_31 (by decide) ?_
          refine lv_goto hx hb d_MR_goesOnPart_32 rfl ?_
          exact gr_z B hw (by rfl) d_MR_goesOnPart_36 ⟨(by (try unfold cGo cGu); (repeat' split) <;> first | rfl | contradiction | (simp_all; done)), rfl, rfl⟩
    · skip
      refine lv_iload_n hx hb d_MR_goesOnPart_13 rfl (lv_at hl 0 rfl) ?_
      refine lv_bipush (v := 57) hx hb d_MR_goesOnPart_14 (by decide) ?_
      refine lv_icmp_le hx hb d_MR_goesOnPart_16 rfl (fun h16 => ?_) (fun h16 => ?_)
      · skip
        refine lv_iconst (v := 1) hx hb d_MR_goesOnPart_31 (by decide) ?_
        refine lv_goto hx hb d_MR_goesOnPart_32 rfl ?_
        exact gr_z B hw (by rfl) d_MR_goesOnPart_36 ⟨(by (try unfold cGo cGu); (repeat' split) <;> first | rfl | contradiction | (simp_all; done)), rfl, rfl⟩
      · skip
        refine lv_iload_n hx hb d_MR_goesOnPart_19 rfl (lv_at hl 0 rfl) ?_
        refine lv_bipush (v := 45) hx hb d_MR_goesOnPart_20 (by decide) ?_
        refine lv_icmp_eq hx hb d_MR_goesOnPart_22 rfl (fun h22 => ?_) (fun h22 => ?_)
        · skip
          refine lv_iconst (v := 1) hx hb d_MR_goesOnPart_31 (by decide) ?_
          refine lv_goto hx hb d_MR_goesOnPart_32 rfl ?_
          exact gr_z B hw (by rfl) d_MR_goesOnPart_36 ⟨(by (try unfold cGo cGu); (repeat' split) <;> first | rfl | contradiction | (simp_all; done)), rfl, rfl⟩
        · skip
          refine lv_iload_n hx hb d_MR_goesOnPart_25 rfl (lv_at hl 0 rfl) ?_
          refine lv_bipush (v := 46) hx hb d_MR_goesOnPart_26 (by decide) ?_
          refine lv_icmp_ne hx hb d_MR_goesOnPart_28 rfl (fun h28 => ?_) (fun h28 => ?_)
          · skip
            refine lv_iconst (v := 0) hx hb d_MR_goesOnPart_35 (by decide) ?_
            exact gr_z B hw (by rfl) d_MR_goesOnPart_36 ⟨(by (try unfold cGo cGu); (repeat' split) <;> first | rfl | contradiction | (simp_all; done)), rfl, rfl⟩
          · skip
            refine lv_iconst (v := 1) hx hb d_MR_goesOnPart_31 (by decide) ?_
            refine lv_goto hx hb d_MR_goesOnPart_32 rfl ?_
            exact gr_z B hw (by rfl) d_MR_goesOnPart_36 ⟨(by (try unfold cGo cGu); (repeat' split) <;> first | rfl | contradiction | (simp_all; done)), rfl, rfl⟩
set_option maxHeartbeats 4000000 in
set_option maxRecDepth 100000 in
theorem c_MR_digit {l : Launch} {s0 : State} {D : va_G} {aC : Nat → ClassId} {a0 : Array Value} (G : gG l s0 D aC a0) (M : gMem) (r : gRef) (ow : Int64) (x b : Int32) : gMet l s0 D aC y_MR_digit (Cond.code y_MR_digit b_MR_digit 2 (some .int)) 0 0 0 0 [.int x, .int b] M r ow (fun v M1 r1 => v = some (.int (cDi x b)) ∧ M1 = M ∧ r1 = r) (fun _ _ _ => False) := by
  refine gm_of G (by decide) (Nat.le_of_ble_eq_true rfl) ?_
  intro p e s m below meth c ls B hexc hl hw
  have hx := B.1
  have hb := B.2.1
  have hown := B.2.2.2.2.2.1
  have T := B.2.2.2.2.2.2.1
  have hK := B.2.2.2.2.2.2.2.1
  refine lv_iload_n hx hb d_MR_digit_0 rfl (lv_at hl 0 rfl) ?_
  refine lv_bipush (v := 48) hx hb d_MR_digit_1 (by decide) ?_
  refine lv_icmp_lt hx hb d_MR_digit_3 rfl (fun h3 => ?_) (fun h3 => ?_)
  · skip
    refine lv_iload_n hx hb d_MR_digit_17 rfl (lv_at hl 1 rfl) ?_
    refine lv_bipush (v := 16) hx hb d_MR_digit_18 (by decide) ?_
    refine lv_icmp_ne hx hb d_MR_digit_20 rfl (fun h20 => ?_) (fun h20 => ?_)
    · skip
      refine lv_iload_n hx hb d_MR_digit_43 rfl (lv_at hl 1 rfl) ?_
      refine lv_bipush (v := 16) hx hb d_MR_digit_44 (by decide) ?_
      refine lv_icmp_ne hx hb d_MR_digit_46 rfl (fun h46 => ?_) (fun h46 => ?_)
      · skip
        refine lv_iconst (v := -1) hx hb d_MR_digit_69 (by decide) ?_
        exact gr_i B hw d_MR_digit_70 ⟨(by (try unfold cDi cDl cDu); (repeat' split) <;> first | rfl | contradiction | (simp_all; done)), rfl, rfl⟩
      · skip
        refine lv_iload_n hx hb d_MR_digit_49 rfl (lv_at hl 0 rfl) ?_
        refine lv_bipush (v := 65) hx hb d_MR_digit_50 (by decide) ?_
        refine lv_icmp_lt hx hb d_MR_digit_52 rfl (fun h52 => ?_) (fun h52 => ?_)
        · skip
          refine lv_iconst (v := -1) hx hb d_MR_digit_69 (by decide) ?_
          exact gr_i B hw d_MR_digit_70 ⟨(by (try unfold cDi cDl cDu); (repeat' split) <;> first | rfl | contradiction | (simp_all; done)), rfl, rfl⟩
        · skip
          refine lv_iload_n hx hb d_MR_digit_55 rfl (lv_at hl 0 rfl) ?_
          refine lv_bipush (v := 70) hx hb d_MR_digit_56 (by decide) ?_
          refine lv_icmp_gt hx hb d_MR_digit_58 rfl (fun h58 => ?_) (fun h58 => ?_)
          · skip
            refine lv_iconst (v := -1) hx hb d_MR_digit_69 (by decide) ?_
            exact gr_i B hw d_MR_digit_70 ⟨(by (try unfold cDi cDl cDu); (repeat' split) <;> first | rfl | contradiction | (simp_all; done)), rfl, rfl⟩
          · skip
            refine lv_iload_n hx hb d_MR_digit_61 rfl (lv_at hl 0 rfl) ?_
            refine lv_bipush (v := 65) hx hb d_MR_digit_62 (by decide) ?_
            refine lv_isub hx hb d_MR_digit_64 ?_
            refine lv_bipush (v := 10) hx hb d_MR_digit_65 (by decide) ?_
            refine lv_iadd hx hb d_MR_digit_67 ?_
            exact gr_i B hw d_MR_digit_68 ⟨(by (try unfold cDi cDl cDu); (repeat' split) <;> first | rfl | contradiction | (simp_all; done)), rfl, rfl⟩
    · skip
      refine lv_iload_n hx hb d_MR_digit_23 rfl (lv_at hl 0 rfl) ?_
      refine lv_bipush (v := 97) hx hb d_MR_digit_24 (by decide) ?_
      refine lv_icmp_lt hx hb d_MR_digit_26 rfl (fun h26 => ?_) (fun h26 => ?_)
      · skip
        refine lv_iload_n hx hb d_MR_digit_43 rfl (lv_at hl 1 rfl) ?_
        refine lv_bipush (v := 16) hx hb d_MR_digit_44 (by decide) ?_
        refine lv_icmp_ne hx hb d_MR_digit_46 rfl (fun h46 => ?_) (fun h46 => ?_)
        · skip
          refine lv_iconst (v := -1) hx hb d_MR_digit_69 (by decide) ?_
          exact gr_i B hw d_MR_digit_70 ⟨(by (try unfold cDi cDl cDu); (repeat' split) <;> first | rfl | contradiction | (simp_all; done)), rfl, rfl⟩
        · skip
          refine lv_iload_n hx hb d_MR_digit_49 rfl (lv_at hl 0 rfl) ?_
          refine lv_bipush (v := 65) hx hb d_MR_digit_50 (by decide) ?_
          refine lv_icmp_lt hx hb d_MR_digit_52 rfl (fun h52 => ?_) (fun h52 => ?_)
          · skip
            refine lv_iconst (v := -1) hx hb d_MR_digit_69 (by decide) ?_
            exact gr_i B hw d_MR_digit_70 ⟨(by (try unfold cDi cDl cDu); (repeat' split) <;> first | rfl | contradiction | (simp_all; done)), rfl, rfl⟩
          · skip
            refine lv_iload_n hx hb d_MR_digit_55 rfl (lv_at hl 0 rfl) ?_
            refine lv_bipush (v := 70) hx hb d_MR_digit_56 (by decide) ?_
            refine lv_icmp_gt hx hb d_MR_digit_58 rfl (fun h58 => ?_) (fun h58 => ?_)
            · skip
              refine lv_iconst (v := -1) hx hb d_MR_digit_69 (by decide) ?_
              exact gr_i B hw d_MR_digit_70 ⟨(by (try unfold cDi cDl cDu); (repeat' split) <;> first | rfl | contradiction | (simp_all; done)), rfl, rfl⟩
            · skip
              refine lv_iload_n hx hb d_MR_digit_61 rfl (lv_at hl 0 rfl) ?_
              refine lv_bipush (v := 65) hx hb d_MR_digit_62 (by decide) ?_
              refine lv_isub hx hb d_MR_digit_64 ?_
              refine lv_bipush (v := 10) hx hb d_MR_digit_65 (by decide) ?_
              refine lv_iadd hx hb d_MR_digit_67 ?_
              exact gr_i B hw d_MR_digit_68 ⟨(by (try unfold cDi cDl cDu); (repeat' split) <;> first | rfl | contradiction | (simp_all; done)), rfl, rfl⟩
      · skip
        refine lv_iload_n hx hb d_MR_digit_29 rfl (lv_at hl 0 rfl) ?_
        refine lv_bipush (v := 102) hx hb d_MR_digit_30 (by decide) ?_
        refine lv_icmp_gt hx hb d_MR_digit_32 rfl (fun h32 => ?_) (fun h32 => ?_)
        · skip
          refine lv_iload_n hx hb d_MR_digit_43 rfl (lv_at hl 1 rfl) ?_
          refine lv_bipush (v := 16) hx hb d_MR_digit_44 (by decide) ?_
          refine lv_icmp_ne hx hb d_MR_digit_46 rfl (fun h46 => ?_) (fun h46 => ?_)
          · skip
            refine lv_iconst (v := -1) hx hb d_MR_digit_69 (by decide) ?_
            exact gr_i B hw d_MR_digit_70 ⟨(by (try unfold cDi cDl cDu); (repeat' split) <;> first | rfl | contradiction | (simp_all; done)), rfl, rfl⟩
          · skip
            refine lv_iload_n hx hb d_MR_digit_49 rfl (lv_at hl 0 rfl) ?_
            refine lv_bipush (v := 65) hx hb d_MR_digit_50 (by decide) ?_
            refine lv_icmp_lt hx hb d_MR_digit_52 rfl (fun h52 => ?_) (fun h52 => ?_)
            · skip
              refine lv_iconst (v := -1) hx hb d_MR_digit_69 (by decide) ?_
              exact gr_i B hw d_MR_digit_70 ⟨(by (try unfold cDi cDl cDu); (repeat' split) <;> first | rfl | contradiction | (simp_all; done)), rfl, rfl⟩
            · skip
              refine lv_iload_n hx hb d_MR_digit_55 rfl (lv_at hl 0 rfl) ?_
              refine lv_bipush (v := 70) hx hb d_MR_digit_56 (by decide) ?_
              refine lv_icmp_gt hx hb d_MR_digit_58 rfl (fun h58 => ?_) (fun h58 => ?_)
              · skip
                refine lv_iconst (v := -1) hx hb d_MR_digit_69 (by decide) ?_
                exact gr_i B hw d_MR_digit_70 ⟨(by (try unfold cDi cDl cDu); (repeat' split) <;> first | rfl | contradiction | (simp_all; done)), rfl, rfl⟩
              · skip
                refine lv_iload_n hx hb d_MR_digit_61 rfl (lv_at hl 0 rfl) ?_
                refine lv_bipush (v := 65) hx hb d_MR_digit_62 (by decide) ?_
                refine lv_isub hx hb d_MR_digit_64 ?_
                refine lv_bipush (v := 10) hx hb d_MR_digit_65 (by decide) ?_
                refine lv_iadd hx hb d_MR_digit_67 ?_
                exact gr_i B hw d_MR_digit_68 ⟨(by (try unfold cDi cDl cDu); (repeat' split) <;> first | rfl | contradiction | (simp_all; done)), rfl, rfl⟩
        · skip
          refine lv_iload_n hx hb d_MR_digit_35 rfl (lv_at hl 0 rfl) ?_
          refine lv_bipush (v := 97) hx hb d_MR_digit_36 (by decide) ?_
          refine lv_isub hx hb d_MR_digit_38 ?_
          refine lv_bipush (v := 10) hx hb d_MR_digit_39 (by decide) ?_
          refine lv_iadd hx hb d_MR_digit_41 ?_
          exact gr_i B hw d_MR_digit_42 ⟨(by (try unfold cDi cDl cDu); (repeat' split) <;> first | rfl | contradiction | (simp_all; done)), rfl, rfl⟩
  · skip
    refine lv_iload_n hx hb d_MR_digit_6 rfl (lv_at hl 0 rfl) ?_
    refine lv_bipush (v := 57) hx hb d_MR_digit_7 (by decide) ?_
    refine lv_icmp_gt hx hb d_MR_digit_9 rfl (fun h9 => ?_) (fun h9 => ?_)
    · skip
      refine lv_iload_n hx hb d_MR_digit_17 rfl (lv_at hl 1 rfl) ?_
      refine lv_bipush (v := 16) hx hb d_MR_digit_18 (by decide) ?_
      refine lv_icmp_ne hx hb d_MR_digit_20 rfl (fun h20 => ?_) (fun h20 => ?_)
      · skip
        refine lv_iload_n hx hb d_MR_digit_43 rfl (lv_at hl 1 rfl) ?_
        refine lv_bipush (v := 16) hx hb d_MR_digit_44 (by decide) ?_
        refine lv_icmp_ne hx hb d_MR_digit_46 rfl (fun h46 => ?_) (fun h46 => ?_)
        · skip
          refine lv_iconst (v := -1) hx hb d_MR_digit_69 (by decide) ?_
          exact gr_i B hw d_MR_digit_70 ⟨(by (try unfold cDi cDl cDu); (repeat' split) <;> first | rfl | contradiction | (simp_all; done)), rfl, rfl⟩
        · skip
          refine lv_iload_n hx hb d_MR_digit_49 rfl (lv_at hl 0 rfl) ?_
          refine lv_bipush (v := 65) hx hb d_MR_digit_50 (by decide) ?_
          refine lv_icmp_lt hx hb d_MR_digit_52 rfl (fun h52 => ?_) (fun h52 => ?_)
          · skip
            refine lv_iconst (v := -1) hx hb d_MR_digit_69 (by decide) ?_
            exact gr_i B hw d_MR_digit_70 ⟨(by (try unfold cDi cDl cDu); (repeat' split) <;> first | rfl | contradiction | (simp_all; done)), rfl, rfl⟩
          · skip
            refine lv_iload_n hx hb d_MR_digit_55 rfl (lv_at hl 0 rfl) ?_
            refine lv_bipush (v := 70) hx hb d_MR_digit_56 (by decide) ?_
            refine lv_icmp_gt hx hb d_MR_digit_58 rfl (fun h58 => ?_) (fun h58 => ?_)
            · skip
              refine lv_iconst (v := -1) hx hb d_MR_digit_69 (by decide) ?_
              exact gr_i B hw d_MR_digit_70 ⟨(by (try unfold cDi cDl cDu); (repeat' split) <;> first | rfl | contradiction | (simp_all; done)), rfl, rfl⟩
            · skip
              refine lv_iload_n hx hb d_MR_digit_61 rfl (lv_at hl 0 rfl) ?_
              refine lv_bipush (v := 65) hx hb d_MR_digit_62 (by decide) ?_
              refine lv_isub hx hb d_MR_digit_64 ?_
              refine lv_bipush (v := 10) hx hb d_MR_digit_65 (by decide) ?_
              refine lv_iadd hx hb d_MR_digit_67 ?_
              exact gr_i B hw d_MR_digit_68 ⟨(by (try unfold cDi cDl cDu); (repeat' split) <;> first | rfl | contradiction | (simp_all; done)), rfl, rfl⟩
      · skip
        refine lv_iload_n hx hb d_MR_digit_23 rfl (lv_at hl 0 rfl) ?_
        refine lv_bipush (v := 97) hx hb d_MR_digit_24 (by decide) ?_
        refine lv_icmp_lt hx hb d_MR_digit_26 rfl (fun h26 => ?_) (fun h26 => ?_)
        · skip
          refine lv_iload_n hx hb d_MR_digit_43 rfl (lv_at hl 1 rfl) ?_
          refine lv_bipush (v := 16) hx hb d_MR_digit_44 (by decide) ?_
          refine lv_icmp_ne hx hb d_MR_digit_46 rfl (fun h46 => ?_) (fun h46 => ?_)
          · skip
            refine lv_iconst (v := -1) hx hb d_MR_digit_69 (by decide) ?_
            exact gr_i B hw d_MR_digit_70 ⟨(by (try unfold cDi cDl cDu); (repeat' split) <;> first | rfl | contradiction | (simp_all; done)), rfl, rfl⟩
          · skip
            refine lv_iload_n hx hb d_MR_digit_49 rfl (lv_at hl 0 rfl) ?_
            refine lv_bipush (v := 65) hx hb d_MR_digit_50 (by decide) ?_
            refine lv_icmp_lt hx hb d_MR_digit_52 rfl (fun h52 => ?_) (fun h52 => ?_)
            · skip
              refine lv_iconst (v := -1) hx hb d_MR_digit_69 (by decide) ?_
              exact gr_i B hw d_MR_digit_70 ⟨(by (try unfold cDi cDl cDu); (repeat' split) <;> first | rfl | contradiction | (simp_all; done)), rfl, rfl⟩
            · skip
              refine lv_iload_n hx hb d_MR_digit_55 rfl (lv_at hl 0 rfl) ?_
              refine lv_bipush (v := 70) hx hb d_MR_digit_56 (by decide) ?_
              refine lv_icmp_gt hx hb d_MR_digit_58 rfl (fun h58 => ?_) (fun h58 => ?_)
              · skip
                refine lv_iconst (v := -1) hx hb d_MR_digit_69 (by decide) ?_
                exact gr_i B hw d_MR_digit_70 ⟨(by (try unfold cDi cDl cDu); (repeat' split) <;> first | rfl | contradiction | (simp_all; done)), rfl, rfl⟩
              · skip
                refine lv_iload_n hx hb d_MR_digit_61 rfl (lv_at hl 0 rfl) ?_
                refine lv_bipush (v := 65) hx hb d_MR_digit_62 (by decide) ?_
                refine lv_isub hx hb d_MR_digit_64 ?_
                refine lv_bipush (v := 10) hx hb d_MR_digit_65 (by decide) ?_
                refine lv_iadd hx hb d_MR_digit_67 ?_
                exact gr_i B hw d_MR_digit_68 ⟨(by (try unfold cDi cDl cDu); (repeat' split) <;> first | rfl | contradiction | (simp_all; done)), rfl, rfl⟩
        · skip
          refine lv_iload_n hx hb d_MR_digit_29 rfl (lv_at hl 0 rfl) ?_
          refine lv_bipush (v := 102) hx hb d_MR_digit_30 (by decide) ?_
          refine lv_icmp_gt hx hb d_MR_digit_32 rfl (fun h32 => ?_) (fun h32 => ?_)
          · skip
            refine lv_iload_n hx hb d_MR_digit_43 rfl (lv_at hl 1 rfl) ?_
            refine lv_bipush (v := 16) hx hb d_MR_digit_44 (by decide) ?_
            refine lv_icmp_ne hx hb d_MR_digit_46 rfl (fun h46 => ?_) (fun h46 => ?_)
            · skip
              refine lv_iconst (v := -1) hx hb d_MR_digit_69 (by decide) ?_
              exact gr_i B hw d_MR_digit_70 ⟨(by (try unfold cDi cDl cDu); (repeat' split) <;> first | rfl | contradiction | (simp_all; done)), rfl, rfl⟩
            · skip
              refine lv_iload_n hx hb d_MR_digit_49 rfl (lv_at hl 0 rfl) ?_
              refine lv_bipush (v := 65) hx hb d_MR_digit_50 (by decide) ?_
              refine lv_icmp_lt hx hb d_MR_digit_52 rfl (fun h52 => ?_) (fun h52 => ?_)
              · skip
                refine lv_iconst (v := -1) hx hb d_MR_digit_69 (by decide) ?_
                exact gr_i B hw d_MR_digit_70 ⟨(by (try unfold cDi cDl cDu); (repeat' split) <;> first | rfl | contradiction | (simp_all; done)), rfl, rfl⟩
              · skip
                refine lv_iload_n hx hb d_MR_digit_55 rfl (lv_at hl 0 rfl) ?_
                refine lv_bipush (v := 70) hx hb d_MR_digit_56 (by decide) ?_
                refine lv_icmp_gt hx hb d_MR_digit_58 rfl (fun h58 => ?_) (fun h58 => ?_)
                · skip
                  refine lv_iconst (v := -1) hx hb d_MR_digit_69 (by decide) ?_
                  exact gr_i B hw d_MR_digit_70 ⟨(by (try unfold cDi cDl cDu); (repeat' split) <;> first | rfl | contradiction | (simp_all; done)), rfl, rfl⟩
                · skip
                  refine lv_iload_n hx hb d_MR_digit_61 rfl (lv_at hl 0 rfl) ?_
                  refine lv_bipush (v := 65) hx hb d_MR_digit_62 (by decide) ?_
                  refine lv_isub hx hb d_MR_digit_64 ?_
                  refine lv_bipush (v := 10) hx hb d_MR_digit_65 (by decide) ?_
                  refine lv_iadd hx hb d_MR_digit_67 ?_
                  exact gr_i B hw d_MR_digit_68 ⟨(by (try unfold cDi cDl cDu); (repeat' split) <;> first | rfl | contradiction | (simp_all; done)), rfl, rfl⟩
          · skip
            refine lv_iload_n hx hb d_MR_digit_35 rfl (lv_at hl 0 rfl) ?_
            refine lv_bipush (v := 97) hx hb d_MR_digit_36 (by decide) ?_
            refine lv_isub hx hb d_MR_digit_38 ?_
            refine lv_bipush (v := 10) hx hb d_MR_digit_39 (by decide) ?_
            refine lv_iadd hx hb d_MR_digit_41 ?_
            exact gr_i B hw d_MR_digit_42 ⟨(by (try unfold cDi cDl cDu); (repeat' split) <;> first | rfl | contradiction | (simp_all; done)), rfl, rfl⟩
    · skip
      refine lv_iload_n hx hb d_MR_digit_12 rfl (lv_at hl 0 rfl) ?_
      refine lv_bipush (v := 48) hx hb d_MR_digit_13 (by decide) ?_
      refine lv_isub hx hb d_MR_digit_15 ?_
      exact gr_i B hw d_MR_digit_16 ⟨(by (try unfold cDi cDl cDu); (repeat' split) <;> first | rfl | contradiction | (simp_all; done)), rfl, rfl⟩
set_option maxHeartbeats 4000000 in
set_option maxRecDepth 100000 in
theorem c_Nm_hasPrefix {l : Launch} {s0 : State} {D : va_G} {aC : Nat → ClassId} {a0 : Array Value} (G : gG l s0 D aC a0) (M : gMem) (r : gRef) (ow : Int64) (n : Nat) (hn : n < 170) : gMet l s0 D aC y_Nm_hasPrefix (Cond.code y_Nm_hasPrefix b_Nm_hasPrefix 1 (some .boolean)) 0 0 0 0 [.ref (s0.heap.size + oNm n)] M r ow (fun v M1 r1 => v = some (.int (if M 20 n < M 21 n then 1 else 0)) ∧ M1 = M ∧ r1 = r) (fun _ _ _ => False) := by
  refine gm_of G (by decide) (Nat.le_of_ble_eq_true rfl) ?_
  intro p e s m below meth c ls B hexc hl hw
  have hx := B.1
  have hb := B.2.1
  have hown := B.2.2.2.2.2.1
  have T := B.2.2.2.2.2.2.1
  have hK := B.2.2.2.2.2.2.2.1
  refine lv_aload_n hx hb d_Nm_hasPrefix_0 rfl (lv_at hl 0 rfl) ?_
  refine gf_Nm_local hx hb T hown hK hw (by assumption) rfl (kf_Nm_7 T) d_Nm_hasPrefix_1 ?_
  refine lv_aload_n hx hb d_Nm_hasPrefix_4 rfl (lv_at hl 0 rfl) ?_
  refine gf_Nm_start hx hb T hown hK hw (by assumption) rfl (kf_Nm_13 T) d_Nm_hasPrefix_5 ?_
  refine lv_icmp_le hx hb d_Nm_hasPrefix_8 rfl (fun h8 => ?_) (fun h8 => ?_)
  · skip
    refine lv_iconst (v := 0) hx hb d_Nm_hasPrefix_15 (by decide) ?_
    exact gr_z B hw (by rfl) d_Nm_hasPrefix_16 ⟨by first | rw [if_pos (by first | assumption | exact Int32.not_le.mp (by assumption))] | rw [if_neg (by first | assumption | exact Int32.not_lt.mpr (by assumption))], rfl, rfl⟩
  · skip
    refine lv_iconst (v := 1) hx hb d_Nm_hasPrefix_11 (by decide) ?_
    refine lv_goto hx hb d_Nm_hasPrefix_12 rfl ?_
    exact gr_z B hw (by rfl) d_Nm_hasPrefix_16 ⟨by first | rw [if_pos (by first | assumption | exact Int32.not_le.mp (by assumption))] | rw [if_neg (by first | assumption | exact Int32.not_lt.mpr (by assumption))], rfl, rfl⟩
set_option maxHeartbeats 4000000 in
set_option maxRecDepth 100000 in
theorem c_At_valueLength {l : Launch} {s0 : State} {D : va_G} {aC : Nat → ClassId} {a0 : Array Value} (G : gG l s0 D aC a0) (M : gMem) (r : gRef) (ow : Int64) (a : Nat) (ha : a < 145) : gMet l s0 D aC y_At_valueLength (Cond.code y_At_valueLength b_At_valueLength 1 (some .int)) 0 0 0 0 [.ref (s0.heap.size + oAt a)] M r ow (fun v M1 r1 => v = some (.int (M 24 a - M 23 a)) ∧ M1 = M ∧ r1 = r) (fun _ _ _ => False) := by
  refine gm_of G (by decide) (Nat.le_of_ble_eq_true rfl) ?_
  intro p e s m below meth c ls B hexc hl hw
  have hx := B.1
  have hb := B.2.1
  have hown := B.2.2.2.2.2.1
  have T := B.2.2.2.2.2.2.1
  have hK := B.2.2.2.2.2.2.2.1
  refine lv_aload_n hx hb d_At_valueLength_0 rfl (lv_at hl 0 rfl) ?_
  refine gf_At_valueEnd hx hb T hown hK hw (by assumption) rfl (kf_At_16 T) d_At_valueLength_1 ?_
  refine lv_aload_n hx hb d_At_valueLength_4 rfl (lv_at hl 0 rfl) ?_
  refine gf_At_valueStart hx hb T hown hK hw (by assumption) rfl (kf_At_20 T) d_At_valueLength_5 ?_
  refine lv_isub hx hb d_At_valueLength_8 ?_
  exact gr_i B hw d_At_valueLength_9 ⟨rfl, rfl, rfl⟩
set_option maxHeartbeats 4000000 in
set_option maxRecDepth 100000 in
theorem c_Nm_prefixEnd {l : Launch} {s0 : State} {D : va_G} {aC : Nat → ClassId} {a0 : Array Value} (G : gG l s0 D aC a0) (M : gMem) (r : gRef) (ow : Int64) (n : Nat) (hn : n < 170) : gMet l s0 D aC y_Nm_prefixEnd (Cond.code y_Nm_prefixEnd b_Nm_prefixEnd 1 (some .int)) 1 40 0 0 [.ref (s0.heap.size + oNm n)] M r ow (fun v M1 r1 => v = some (.int (if M 20 n < M 21 n then M 21 n - 1 else M 20 n)) ∧ M1 = M ∧ r1 = r) (fun _ _ _ => False) := by
  refine gm_of G (by decide) (Nat.le_of_ble_eq_true rfl) ?_
  intro p e s m below meth c ls B hexc hl hw
  have hx := B.1
  have hb := B.2.1
  have hown := B.2.2.2.2.2.1
  have T := B.2.2.2.2.2.2.1
  have hK := B.2.2.2.2.2.2.2.1
  refine lv_aload_n hx hb d_Nm_prefixEnd_0 rfl (lv_at hl 0 rfl) ?_
  refine gy_V (As := []) B hl.1 hw (c_Nm_hasPrefix G M r ow n hn) (kd_Nm_hasPrefix T) (ki_Nm T) (km_Nm_26 T) (ka_Nm_hasPrefix T) (ks_Nm_hasPrefix T) ⟨by decide, by decide, by rfl⟩ (rv_Nm hK hw hn rfl) rfl (Nat.le_of_ble_eq_true rfl) ⟨by decide, by decide⟩ ⟨by decide, by decide⟩ d_Nm_prefixEnd_1 (fun v M1 r1 H locs hw hp => ?_) (fun x ek M1 r1 H locs hw hE hp => hp.elim)
  obtain ⟨rfl, hM1, hr1⟩ := hp
  rw [hM1, hr1] at hw
  clear hM1 hr1
  refine lv_if_eq hx hb d_Nm_prefixEnd_4 rfl (fun h4 => ?_) (fun h4 => ?_)
  · skip
    refine lv_aload_n hx hb d_Nm_prefixEnd_16 rfl (lv_at hl 0 rfl) ?_
    refine gf_Nm_start hx hb T hown hK hw (by assumption) rfl (kf_Nm_13 T) d_Nm_prefixEnd_17 ?_
    exact gr_i B hw d_Nm_prefixEnd_20 ⟨by (by_cases hlt : M 20 n < M 21 n) <;> first | (rw [if_pos hlt]; done) | (rw [if_neg hlt]; done) | (exfalso; simp [hlt] at h4), rfl, rfl⟩
  · skip
    refine lv_aload_n hx hb d_Nm_prefixEnd_7 rfl (lv_at hl 0 rfl) ?_
    refine gf_Nm_local hx hb T hown hK hw (by assumption) rfl (kf_Nm_7 T) d_Nm_prefixEnd_8 ?_
    refine lv_iconst (v := 1) hx hb d_Nm_prefixEnd_11 (by decide) ?_
    refine lv_isub hx hb d_Nm_prefixEnd_12 ?_
    refine lv_goto hx hb d_Nm_prefixEnd_13 rfl ?_
    exact gr_i B hw d_Nm_prefixEnd_20 ⟨by (by_cases hlt : M 20 n < M 21 n) <;> first | (rw [if_pos hlt]; done) | (rw [if_neg hlt]; done) | (exfalso; simp [hlt] at h4), rfl, rfl⟩
set_option maxHeartbeats 4000000 in
set_option maxRecDepth 100000 in
theorem c_Mo_starts {l : Launch} {s0 : State} {D : va_G} {aC : Nat → ClassId} {a0 : Array Value} (G : gG l s0 D aC a0) (M : gMem) (r : gRef) (ow : Int64) (x : Int32) : gMet l s0 D aC y_Mo_starts (Cond.code y_Mo_starts b_Mo_starts 2 (some .boolean)) 0 0 0 0 [.ref (s0.heap.size + 383), .int x] M r ow (fun v M1 r1 => v = some (.int (cPb x)) ∧ M1 = M ∧ r1 = r) (fun _ _ _ => False) := by
  refine gm_of G (by decide) (Nat.le_of_ble_eq_true rfl) ?_
  intro p e s m below meth c ls B hexc hl hw
  have hx := B.1
  have hb := B.2.1
  have hown := B.2.2.2.2.2.1
  have T := B.2.2.2.2.2.2.1
  have hK := B.2.2.2.2.2.2.2.1
  refine lv_iload_n hx hb d_Mo_starts_0 rfl (lv_at hl 1 rfl) ?_
  refine lv_bipush (v := 97) hx hb d_Mo_starts_1 (by decide) ?_
  refine lv_icmp_lt hx hb d_Mo_starts_3 rfl (fun h3 => ?_) (fun h3 => ?_)
  · skip
    refine lv_iload_n hx hb d_Mo_starts_12 rfl (lv_at hl 1 rfl) ?_
    refine lv_bipush (v := 65) hx hb d_Mo_starts_13 (by decide) ?_
    refine lv_icmp_lt hx hb d_Mo_starts_15 rfl (fun h15 => ?_) (fun h15 => ?_)
    · skip
      refine lv_iload_n hx hb d_Mo_starts_24 rfl (lv_at hl 1 rfl) ?_
      refine lv_bipush (v := 95) hx hb d_Mo_starts_25 (by decide) ?_
      refine lv_icmp_ne hx hb d_Mo_starts_27 rfl (fun h27 => ?_) (fun h27 => ?_)
      · skip
        refine lv_iconst (v := 0) hx hb d_Mo_starts_34 (by decide) ?_
        exact gr_z B hw (by rfl) d_Mo_starts_35 ⟨(by (try unfold cPb cPg cPu); (repeat' split) <;> first | rfl | contradiction | (simp_all; done)), rfl, rfl⟩
      · skip
        refine lv_iconst (v := 1) hx hb d_Mo_starts_30 (by decide) ?_
        refine lv_goto hx hb d_Mo_starts_31 rfl ?_
        exact gr_z B hw (by rfl) d_Mo_starts_35 ⟨(by (try unfold cPb cPg cPu); (repeat' split) <;> first | rfl | contradiction | (simp_all; done)), rfl, rfl⟩
    · skip
      refine lv_iload_n hx hb d_Mo_starts_18 rfl (lv_at hl 1 rfl) ?_
      refine lv_bipush (v := 90) hx hb d_Mo_starts_19 (by decide) ?_
      refine lv_icmp_le hx hb d_Mo_starts_21 rfl (fun h21 => ?_) (fun h21 => ?_)
      · skip
        refine lv_iconst (v := 1) hx hb d_Mo_starts_30 (by decide) ?_
        refine lv_goto hx hb d_Mo_starts_31 rfl ?_
        exact gr_z B hw (by rfl) d_Mo_starts_35 ⟨(by (try unfold cPb cPg cPu); (repeat' split) <;> first | rfl | contradiction | (simp_all; done)), rfl, rfl⟩
      · skip
        refine lv_iload_n hx hb d_Mo_starts_24 rfl (lv_at hl 1 rfl) ?_
        refine lv_bipush (v := 95) hx hb d_Mo_starts_25 (by decide) ?_
        refine lv_icmp_ne hx hb d_Mo_starts_27 rfl (fun h27 => ?_) (fun h27 => ?_)
        · skip
          refine lv_iconst (v := 0) hx hb d_Mo_starts_34 (by decide) ?_
          exact gr_z B hw (by rfl) d_Mo_starts_35 ⟨(by (try unfold cPb cPg cPu); (repeat' split) <;> first | rfl | contradiction | (simp_all; done)), rfl, rfl⟩
        · skip
          refine lv_iconst (v := 1) hx hb d_Mo_starts_30 (by decide) ?_
          refine lv_goto hx hb d_Mo_starts_31 rfl ?_
          exact gr_z B hw (by rfl) d_Mo_starts_35 ⟨(by (try unfold cPb cPg cPu); (repeat' split) <;> first | rfl | contradiction | (simp_all; done)), rfl, rfl⟩
  · skip
    refine lv_iload_n hx hb d_Mo_starts_6 rfl (lv_at hl 1 rfl) ?_
    refine lv_bipush (v := 122) hx hb d_Mo_starts_7 (by decide) ?_
    refine lv_icmp_le hx hb d_Mo_starts_9 rfl (fun h9 => ?_) (fun h9 => ?_)
    · skip
      refine lv_iconst (v := 1) hx hb d_Mo_starts_30 (by decide) ?_
      refine lv_goto hx hb d_Mo_starts_31 rfl ?_
      exact gr_z B hw (by rfl) d_Mo_starts_35 ⟨(by (try unfold cPb cPg cPu); (repeat' split) <;> first | rfl | contradiction | (simp_all; done)), rfl, rfl⟩
    · skip
      refine lv_iload_n hx hb d_Mo_starts_12 rfl (lv_at hl 1 rfl) ?_
      refine lv_bipush (v := 65) hx hb d_Mo_starts_13 (by decide) ?_
      refine lv_icmp_lt hx hb d_Mo_starts_15 rfl (fun h15 => ?_) (fun h15 => ?_)
      · skip
        refine lv_iload_n hx hb d_Mo_starts_24 rfl (lv_at hl 1 rfl) ?_
        refine lv_bipush (v := 95) hx hb d_Mo_starts_25 (by decide) ?_
        refine lv_icmp_ne hx hb d_Mo_starts_27 rfl (fun h27 => ?_) (fun h27 => ?_)
        · skip
          refine lv_iconst (v := 0) hx hb d_Mo_starts_34 (by decide) ?_
          exact gr_z B hw (by rfl) d_Mo_starts_35 ⟨(by (try unfold cPb cPg cPu); (repeat' split) <;> first | rfl | contradiction | (simp_all; done)), rfl, rfl⟩
        · skip
          refine lv_iconst (v := 1) hx hb d_Mo_starts_30 (by decide) ?_
          refine lv_goto hx hb d_Mo_starts_31 rfl ?_
          exact gr_z B hw (by rfl) d_Mo_starts_35 ⟨(by (try unfold cPb cPg cPu); (repeat' split) <;> first | rfl | contradiction | (simp_all; done)), rfl, rfl⟩
      · skip
        refine lv_iload_n hx hb d_Mo_starts_18 rfl (lv_at hl 1 rfl) ?_
        refine lv_bipush (v := 90) hx hb d_Mo_starts_19 (by decide) ?_
        refine lv_icmp_le hx hb d_Mo_starts_21 rfl (fun h21 => ?_) (fun h21 => ?_)
        · skip
          refine lv_iconst (v := 1) hx hb d_Mo_starts_30 (by decide) ?_
          refine lv_goto hx hb d_Mo_starts_31 rfl ?_
          exact gr_z B hw (by rfl) d_Mo_starts_35 ⟨(by (try unfold cPb cPg cPu); (repeat' split) <;> first | rfl | contradiction | (simp_all; done)), rfl, rfl⟩
        · skip
          refine lv_iload_n hx hb d_Mo_starts_24 rfl (lv_at hl 1 rfl) ?_
          refine lv_bipush (v := 95) hx hb d_Mo_starts_25 (by decide) ?_
          refine lv_icmp_ne hx hb d_Mo_starts_27 rfl (fun h27 => ?_) (fun h27 => ?_)
          · skip
            refine lv_iconst (v := 0) hx hb d_Mo_starts_34 (by decide) ?_
            exact gr_z B hw (by rfl) d_Mo_starts_35 ⟨(by (try unfold cPb cPg cPu); (repeat' split) <;> first | rfl | contradiction | (simp_all; done)), rfl, rfl⟩
          · skip
            refine lv_iconst (v := 1) hx hb d_Mo_starts_30 (by decide) ?_
            refine lv_goto hx hb d_Mo_starts_31 rfl ?_
            exact gr_z B hw (by rfl) d_Mo_starts_35 ⟨(by (try unfold cPb cPg cPu); (repeat' split) <;> first | rfl | contradiction | (simp_all; done)), rfl, rfl⟩
set_option maxHeartbeats 4000000 in
set_option maxRecDepth 100000 in
theorem c_Mo_goesOn {l : Launch} {s0 : State} {D : va_G} {aC : Nat → ClassId} {a0 : Array Value} (G : gG l s0 D aC a0) (M : gMem) (r : gRef) (ow : Int64) (x : Int32) : gMet l s0 D aC y_Mo_goesOn (Cond.code y_Mo_goesOn b_Mo_goesOn 2 (some .boolean)) 1 40 0 0 [.ref (s0.heap.size + 383), .int x] M r ow (fun v M1 r1 => v = some (.int (cGo x)) ∧ M1 = M ∧ r1 = r) (fun _ _ _ => False) := by
  refine gm_of G (by decide) (Nat.le_of_ble_eq_true rfl) ?_
  intro p e s m below meth c ls B hexc hl hw
  have hx := B.1
  have hb := B.2.1
  have hown := B.2.2.2.2.2.1
  have T := B.2.2.2.2.2.2.1
  have hK := B.2.2.2.2.2.2.2.1
  refine lv_aload_n hx hb d_Mo_goesOn_0 rfl (lv_at hl 0 rfl) ?_
  refine lv_iload_n hx hb d_Mo_goesOn_1 rfl (lv_at hl 1 rfl) ?_
  refine gy_V (As := [.int x]) B hl.1 hw (c_Mo_starts G M r ow x) (kd_Mo_starts T) (ki_Mo T) (km_Mo_68 T) (ka_Mo_starts T) (ks_Mo_starts T) ⟨by decide, by decide, by rfl⟩ (rv_Mo hK hw rfl) rfl (Nat.le_of_ble_eq_true rfl) ⟨by decide, by decide⟩ ⟨by decide, by decide⟩ d_Mo_goesOn_2 (fun v M1 r1 H locs hw hp => ?_) (fun x ek M1 r1 H locs hw hE hp => hp.elim)
  obtain ⟨rfl, hM1, hr1⟩ := hp
  rw [hM1, hr1] at hw
  clear hM1 hr1
  refine lv_if_ne hx hb d_Mo_goesOn_5 rfl (fun h5 => ?_) (fun h5 => ?_)
  · skip
    refine lv_iconst (v := 1) hx hb d_Mo_goesOn_32 (by decide) ?_
    refine lv_goto hx hb d_Mo_goesOn_33 rfl ?_
    exact gr_z B hw (by rfl) d_Mo_goesOn_37 ⟨(by (try unfold cGo cGu); (repeat' split) <;> first | rfl | contradiction | (simp_all; done)), rfl, rfl⟩
  · skip
    refine lv_iload_n hx hb d_Mo_goesOn_8 rfl (lv_at hl 1 rfl) ?_
    refine lv_bipush (v := 48) hx hb d_Mo_goesOn_9 (by decide) ?_
    refine lv_icmp_lt hx hb d_Mo_goesOn_11 rfl (fun h11 => ?_) (fun h11 => ?_)
    · skip
      refine lv_iload_n hx hb d_Mo_goesOn_20 rfl (lv_at hl 1 rfl) ?_
      refine lv_bipush (v := 45) hx hb d_Mo_goesOn_21 (by decide) ?_
      refine lv_icmp_eq hx hb d_Mo_goesOn_23 rfl (fun h23 => ?_) (fun h23 => ?_)
      · skip
        refine lv_iconst (v := 1) hx hb d_Mo_goesOn_32 (by decide) ?_
        refine lv_goto hx hb d_Mo_goesOn_33 rfl ?_
        exact gr_z B hw (by rfl) d_Mo_goesOn_37 ⟨(by (try unfold cGo cGu); (repeat' split) <;> first | rfl | contradiction | (simp_all; done)), rfl, rfl⟩
      · skip
        refine lv_iload_n hx hb d_Mo_goesOn_26 rfl (lv_at hl 1 rfl) ?_
        refine lv_bipush (v := 46) hx hb d_Mo_goesOn_27 (by decide) ?_
        refine lv_icmp_ne hx hb d_Mo_goesOn_29 rfl (fun h29 => ?_) (fun h29 => ?_)
        · skip
          refine lv_iconst (v := 0) hx hb d_Mo_goesOn_36 (by decide) ?_
          exact gr_z B hw (by rfl) d_Mo_goesOn_37 ⟨(by (try unfold cGo cGu); (repeat' split) <;> first | rfl | contradiction | (simp_all; done)), rfl, rfl⟩
        · skip
          refine lv_iconst (v := 1) hx hb d_Mo_goesOn_32 (by decide) ?_
          refine lv_goto hx hb d_Mo_goesOn_33 rfl ?_
          exact gr_z B hw (by rfl) d_Mo_goesOn_37 ⟨(by (try unfold cGo cGu); (repeat' split) <;> first | rfl | contradiction | (simp_all; done)), rfl, rfl⟩
    · skip
      refine lv_iload_n hx hb d_Mo_goesOn_14 rfl (lv_at hl 1 rfl) ?_
      refine lv_bipush (v := 57) hx hb d_Mo_goesOn_15 (by decide) ?_
      refine lv_icmp_le hx hb d_Mo_goesOn_17 rfl (fun h17 => ?_) (fun h17 => ?_)
      · skip
        refine lv_iconst (v := 1) hx hb d_Mo_goesOn_32 (by decide) ?_
        refine lv_goto hx hb d_Mo_goesOn_33 rfl ?_
        exact gr_z B hw (by rfl) d_Mo_goesOn_37 ⟨(by (try unfold cGo cGu); (repeat' split) <;> first | rfl | contradiction | (simp_all; done)), rfl, rfl⟩
      · skip
        refine lv_iload_n hx hb d_Mo_goesOn_20 rfl (lv_at hl 1 rfl) ?_
        refine lv_bipush (v := 45) hx hb d_Mo_goesOn_21 (by decide) ?_
        refine lv_icmp_eq hx hb d_Mo_goesOn_23 rfl (fun h23 => ?_) (fun h23 => ?_)
        · skip
          refine lv_iconst (v := 1) hx hb d_Mo_goesOn_32 (by decide) ?_
          refine lv_goto hx hb d_Mo_goesOn_33 rfl ?_
          exact gr_z B hw (by rfl) d_Mo_goesOn_37 ⟨(by (try unfold cGo cGu); (repeat' split) <;> first | rfl | contradiction | (simp_all; done)), rfl, rfl⟩
        · skip
          refine lv_iload_n hx hb d_Mo_goesOn_26 rfl (lv_at hl 1 rfl) ?_
          refine lv_bipush (v := 46) hx hb d_Mo_goesOn_27 (by decide) ?_
          refine lv_icmp_ne hx hb d_Mo_goesOn_29 rfl (fun h29 => ?_) (fun h29 => ?_)
          · skip
            refine lv_iconst (v := 0) hx hb d_Mo_goesOn_36 (by decide) ?_
            exact gr_z B hw (by rfl) d_Mo_goesOn_37 ⟨(by (try unfold cGo cGu); (repeat' split) <;> first | rfl | contradiction | (simp_all; done)), rfl, rfl⟩
          · skip
            refine lv_iconst (v := 1) hx hb d_Mo_goesOn_32 (by decide) ?_
            refine lv_goto hx hb d_Mo_goesOn_33 rfl ?_
            exact gr_z B hw (by rfl) d_Mo_goesOn_37 ⟨(by (try unfold cGo cGu); (repeat' split) <;> first | rfl | contradiction | (simp_all; done)), rfl, rfl⟩
set_option maxHeartbeats 4000000 in
set_option maxRecDepth 100000 in
theorem c_Nm_hasSpace {l : Launch} {s0 : State} {D : va_G} {aC : Nat → ClassId} {a0 : Array Value} (G : gG l s0 D aC a0) (M : gMem) (r : gRef) (ow : Int64) (n : Nat) (hn : n < 170) (a : Nat) (ha : a < 145) (hsp : r 0 n = some a) : gMet l s0 D aC y_Nm_hasSpace (Cond.code y_Nm_hasSpace b_Nm_hasSpace 1 (some .boolean)) 1 40 0 0 [.ref (s0.heap.size + oNm n)] M r ow (fun v M1 r1 => v = some (.int (if 0 < M 24 a - M 23 a then 1 else 0)) ∧ M1 = M ∧ r1 = r) (fun _ _ _ => False) := by
  refine gm_of G (by decide) (Nat.le_of_ble_eq_true rfl) ?_
  intro p e s m below meth c ls B hexc hl hw
  have hx := B.1
  have hb := B.2.1
  have hown := B.2.2.2.2.2.1
  have T := B.2.2.2.2.2.2.1
  have hK := B.2.2.2.2.2.2.2.1
  refine lv_aload_n hx hb d_Nm_hasSpace_0 rfl (lv_at hl 0 rfl) ?_
  refine gf_Nm_space hx hb T hown hK hw (by assumption) rfl (kf_Nm_16 T) d_Nm_hasSpace_1 ?_
  rw [hsp]
  refine gy_V (As := []) B hl.1 hw (c_At_valueLength G M r ow a ha) (kd_At_valueLength T) (ki_At T) (km_Nm_20 T) (ka_At_valueLength T) (ks_At_valueLength T) ⟨by decide, by decide, by rfl⟩ (rv_At hK hw ha rfl) rfl (Nat.le_of_ble_eq_true rfl) ⟨by decide, by decide⟩ ⟨by decide, by decide⟩ d_Nm_hasSpace_4 (fun v M1 r1 H locs hw hp => ?_) (fun x ek M1 r1 H locs hw hE hp => hp.elim)
  obtain ⟨rfl, hM1, hr1⟩ := hp
  rw [hM1, hr1] at hw
  clear hM1 hr1
  refine lv_if_le hx hb d_Nm_hasSpace_7 rfl (fun h7 => ?_) (fun h7 => ?_)
  · skip
    refine lv_iconst (v := 0) hx hb d_Nm_hasSpace_14 (by decide) ?_
    exact gr_z B hw (by rfl) d_Nm_hasSpace_15 ⟨by first | rw [if_pos (by first | assumption | exact Int32.not_le.mp (by assumption))] | rw [if_neg (by first | assumption | exact Int32.not_lt.mpr (by assumption))], rfl, rfl⟩
  · skip
    refine lv_iconst (v := 1) hx hb d_Nm_hasSpace_10 (by decide) ?_
    refine lv_goto hx hb d_Nm_hasSpace_11 rfl ?_
    exact gr_z B hw (by rfl) d_Nm_hasSpace_15 ⟨by first | rw [if_pos (by first | assumption | exact Int32.not_le.mp (by assumption))] | rw [if_neg (by first | assumption | exact Int32.not_lt.mpr (by assumption))], rfl, rfl⟩
