/-! More leaves -/
def cD3 (x : Int32) : Int32 := if x < 65 then 99 else if 70 < x then 99 else x - 65 + 10
def cD2 (x : Int32) : Int32 := if x < 97 then cD3 x else if 102 < x then cD3 x else x - 97 + 10
def cDd (x : Int32) : Int32 := if x < 48 then cD2 x else if 57 < x then cD2 x else x - 48
/-- the reference's digit -/
def cDm (x b : Int32) : Int32 := if b ≤ cDd x then -1 else cDd x
theorem d_Mo_over_0 : decode b_Mo_over 0 = .ok (.aload_n 0, 1) := by decide +kernel
theorem d_Mo_over_1 : decode b_Mo_over 1 = .ok (.aload_n 0, 1) := by decide +kernel
theorem d_Mo_over_2 : decode b_Mo_over 2 = .ok (.getfield 81, 3) := by decide +kernel
theorem d_Mo_over_5 : decode b_Mo_over 5 = .ok (.invokevirtual 84, 3) := by decide +kernel
theorem d_Mo_over_8 : decode b_Mo_over 8 = .ok (.iload_n 1, 1) := by decide +kernel
theorem d_Mo_over_9 : decode b_Mo_over 9 = .ok (.if_icmp .eq 13, 3) := by decide +kernel
theorem d_Mo_over_12 : decode b_Mo_over 12 = .ok (.aload_n 0, 1) := by decide +kernel
theorem d_Mo_over_13 : decode b_Mo_over 13 = .ok (.iconst 1, 1) := by decide +kernel
theorem d_Mo_over_14 : decode b_Mo_over 14 = .ok (.aload_n 0, 1) := by decide +kernel
theorem d_Mo_over_15 : decode b_Mo_over 15 = .ok (.getfield 81, 3) := by decide +kernel
theorem d_Mo_over_18 : decode b_Mo_over 18 = .ok (.invokevirtual 88, 3) := by decide +kernel
theorem d_Mo_over_21 : decode b_Mo_over 21 = .ok (.ireturn, 1) := by decide +kernel
theorem d_Mo_over_22 : decode b_Mo_over 22 = .ok (.aload_n 0, 1) := by decide +kernel
theorem d_Mo_over_23 : decode b_Mo_over 23 = .ok (.dup, 1) := by decide +kernel
theorem d_Mo_over_24 : decode b_Mo_over 24 = .ok (.getfield 81, 3) := by decide +kernel
theorem d_Mo_over_27 : decode b_Mo_over 27 = .ok (.iconst 1, 1) := by decide +kernel
theorem d_Mo_over_28 : decode b_Mo_over 28 = .ok (.iadd, 1) := by decide +kernel
theorem d_Mo_over_29 : decode b_Mo_over 29 = .ok (.putfield 81, 3) := by decide +kernel
theorem d_Mo_over_32 : decode b_Mo_over 32 = .ok (.iconst 1, 1) := by decide +kernel
theorem d_Mo_over_33 : decode b_Mo_over 33 = .ok (.ireturn, 1) := by decide +kernel
theorem d_At_declaredStart_0 : decode b_At_declaredStart 0 = .ok (.aload_n 0, 1) := by decide +kernel
theorem d_At_declaredStart_1 : decode b_At_declaredStart 1 = .ok (.getfield 10, 3) := by decide +kernel
theorem d_At_declaredStart_4 : decode b_At_declaredStart 4 = .ok (.invokevirtual 23, 3) := by decide +kernel
theorem d_At_declaredStart_7 : decode b_At_declaredStart 7 = .ok (.ifCond .eq 13, 3) := by decide +kernel
theorem d_At_declaredStart_10 : decode b_At_declaredStart 10 = .ok (.aload_n 0, 1) := by decide +kernel
theorem d_At_declaredStart_11 : decode b_At_declaredStart 11 = .ok (.getfield 10, 3) := by decide +kernel
theorem d_At_declaredStart_14 : decode b_At_declaredStart 14 = .ok (.getfield 27, 3) := by decide +kernel
theorem d_At_declaredStart_17 : decode b_At_declaredStart 17 = .ok (.goto 10, 3) := by decide +kernel
theorem d_At_declaredStart_20 : decode b_At_declaredStart 20 = .ok (.aload_n 0, 1) := by decide +kernel
theorem d_At_declaredStart_21 : decode b_At_declaredStart 21 = .ok (.getfield 10, 3) := by decide +kernel
theorem d_At_declaredStart_24 : decode b_At_declaredStart 24 = .ok (.getfield 30, 3) := by decide +kernel
theorem d_At_declaredStart_27 : decode b_At_declaredStart 27 = .ok (.ireturn, 1) := by decide +kernel
theorem d_Mo_digit_0 : decode b_Mo_digit 0 = .ok (.iload_n 1, 1) := by decide +kernel
theorem d_Mo_digit_1 : decode b_Mo_digit 1 = .ok (.bipush 48, 2) := by decide +kernel
theorem d_Mo_digit_3 : decode b_Mo_digit 3 = .ok (.if_icmp .lt 16, 3) := by decide +kernel
theorem d_Mo_digit_6 : decode b_Mo_digit 6 = .ok (.iload_n 1, 1) := by decide +kernel
theorem d_Mo_digit_7 : decode b_Mo_digit 7 = .ok (.bipush 57, 2) := by decide +kernel
theorem d_Mo_digit_9 : decode b_Mo_digit 9 = .ok (.if_icmp .gt 10, 3) := by decide +kernel
theorem d_Mo_digit_12 : decode b_Mo_digit 12 = .ok (.iload_n 1, 1) := by decide +kernel
theorem d_Mo_digit_13 : decode b_Mo_digit 13 = .ok (.bipush 48, 2) := by decide +kernel
theorem d_Mo_digit_15 : decode b_Mo_digit 15 = .ok (.isub, 1) := by decide +kernel
theorem d_Mo_digit_16 : decode b_Mo_digit 16 = .ok (.goto 49, 3) := by decide +kernel
theorem d_Mo_digit_19 : decode b_Mo_digit 19 = .ok (.iload_n 1, 1) := by decide +kernel
theorem d_Mo_digit_20 : decode b_Mo_digit 20 = .ok (.bipush 97, 2) := by decide +kernel
theorem d_Mo_digit_22 : decode b_Mo_digit 22 = .ok (.if_icmp .lt 19, 3) := by decide +kernel
theorem d_Mo_digit_25 : decode b_Mo_digit 25 = .ok (.iload_n 1, 1) := by decide +kernel
theorem d_Mo_digit_26 : decode b_Mo_digit 26 = .ok (.bipush 102, 2) := by decide +kernel
theorem d_Mo_digit_28 : decode b_Mo_digit 28 = .ok (.if_icmp .gt 13, 3) := by decide +kernel
theorem d_Mo_digit_31 : decode b_Mo_digit 31 = .ok (.iload_n 1, 1) := by decide +kernel
theorem d_Mo_digit_32 : decode b_Mo_digit 32 = .ok (.bipush 97, 2) := by decide +kernel
theorem d_Mo_digit_34 : decode b_Mo_digit 34 = .ok (.isub, 1) := by decide +kernel
theorem d_Mo_digit_35 : decode b_Mo_digit 35 = .ok (.bipush 10, 2) := by decide +kernel
theorem d_Mo_digit_37 : decode b_Mo_digit 37 = .ok (.iadd, 1) := by decide +kernel
theorem d_Mo_digit_38 : decode b_Mo_digit 38 = .ok (.goto 27, 3) := by decide +kernel
theorem d_Mo_digit_41 : decode b_Mo_digit 41 = .ok (.iload_n 1, 1) := by decide +kernel
theorem d_Mo_digit_42 : decode b_Mo_digit 42 = .ok (.bipush 65, 2) := by decide +kernel
theorem d_Mo_digit_44 : decode b_Mo_digit 44 = .ok (.if_icmp .lt 19, 3) := by decide +kernel
theorem d_Mo_digit_47 : decode b_Mo_digit 47 = .ok (.iload_n 1, 1) := by decide +kernel
theorem d_Mo_digit_48 : decode b_Mo_digit 48 = .ok (.bipush 70, 2) := by decide +kernel
theorem d_Mo_digit_50 : decode b_Mo_digit 50 = .ok (.if_icmp .gt 13, 3) := by decide +kernel
theorem d_Mo_digit_53 : decode b_Mo_digit 53 = .ok (.iload_n 1, 1) := by decide +kernel
theorem d_Mo_digit_54 : decode b_Mo_digit 54 = .ok (.bipush 65, 2) := by decide +kernel
theorem d_Mo_digit_56 : decode b_Mo_digit 56 = .ok (.isub, 1) := by decide +kernel
theorem d_Mo_digit_57 : decode b_Mo_digit 57 = .ok (.bipush 10, 2) := by decide +kernel
theorem d_Mo_digit_59 : decode b_Mo_digit 59 = .ok (.iadd, 1) := by decide +kernel
theorem d_Mo_digit_60 : decode b_Mo_digit 60 = .ok (.goto 5, 3) := by decide +kernel
theorem d_Mo_digit_63 : decode b_Mo_digit 63 = .ok (.bipush 99, 2) := by decide +kernel
theorem d_Mo_digit_65 : decode b_Mo_digit 65 = .ok (.istore_n 3, 1) := by decide +kernel
theorem d_Mo_digit_66 : decode b_Mo_digit 66 = .ok (.iload_n 3, 1) := by decide +kernel
theorem d_Mo_digit_67 : decode b_Mo_digit 67 = .ok (.iload_n 2, 1) := by decide +kernel
theorem d_Mo_digit_68 : decode b_Mo_digit 68 = .ok (.if_icmp .ge 7, 3) := by decide +kernel
theorem d_Mo_digit_71 : decode b_Mo_digit 71 = .ok (.iload_n 3, 1) := by decide +kernel
theorem d_Mo_digit_72 : decode b_Mo_digit 72 = .ok (.goto 4, 3) := by decide +kernel
theorem d_Mo_digit_75 : decode b_Mo_digit 75 = .ok (.iconst (-1), 1) := by decide +kernel
theorem d_Mo_digit_76 : decode b_Mo_digit 76 = .ok (.ireturn, 1) := by decide +kernel
set_option maxHeartbeats 4000000 in
set_option maxRecDepth 100000 in
theorem c_Mo_over {l : Launch} {s0 : State} {D : va_G} {aC : Nat → ClassId} {a0 : Array Value} (G : gG l s0 D aC a0) (M : gMem) (r : gRef) (ow : Int64) (n : Nat) (hn : n ≤ 240) (hs : M 101 0 = nI n) (hat : ¬ M 103 0 < 0) (x : Int32) : gMet l s0 D aC y_Mo_over (Cond.code y_Mo_over b_Mo_over 2 (some .boolean)) 1 40 0 0 [.ref (s0.heap.size + 383), .int x] M r ow (fun v M1 r1 => ((hMo M (M 103 0) = x ∧ v = some (.int 1) ∧ M1 = mS M 103 0 (M 103 0 + 1)) ∨ (hMo M (M 103 0) ≠ x ∧ v = some (.int 0) ∧ M1 = mS (mS M 104 0 1) 105 0 (M 103 0))) ∧ r1 = r) (fun _ _ _ => False) := by
  refine gm_of G (by decide) (Nat.le_of_ble_eq_true rfl) ?_
  intro p e s m below meth c ls B hexc hl hw
  have hx := B.1
  have hb := B.2.1
  have hown := B.2.2.2.2.2.1
  have T := B.2.2.2.2.2.2.1
  have hK := B.2.2.2.2.2.2.2.1
  refine lv_aload_n hx hb d_Mo_over_0 rfl (lv_at hl 0 rfl) ?_
  refine lv_aload_n hx hb d_Mo_over_1 rfl (lv_at hl 0 rfl) ?_
  refine gf_Mo_at hx hb T hown hK hw rfl (kf_Mo_81 T) d_Mo_over_2 ?_
  refine gy_V (As := [.int (M 103 0)]) B hl.1 hw (c_Mo_here G M r ow n hn hs (M 103 0) hat) (kd_Mo_here T) (ki_Mo T) (km_Mo_84 T) (ka_Mo_here T) (ks_Mo_here T) ⟨by decide, by decide, by rfl⟩ (rv_Mo hK hw rfl) rfl (Nat.le_of_ble_eq_true rfl) ⟨by decide, by decide⟩ ⟨by decide, by decide⟩ d_Mo_over_5 (fun v M1 r1 H locs hw hp => ?_) (fun x ek M1 r1 H locs hw hE hp => hp.elim)
  obtain ⟨rfl, hM1, hr1⟩ := hp
  rw [hM1, hr1] at hw
  clear hM1 hr1
  refine lv_iload_n hx hb d_Mo_over_8 rfl (lv_at hl 1 rfl) ?_
  refine lv_icmp_eq hx hb d_Mo_over_9 rfl (fun h9 => ?_) (fun h9 => ?_)
  · skip
    refine lv_aload_n hx hb d_Mo_over_22 rfl (lv_at hl 0 rfl) ?_
    refine lv_dup hx hb d_Mo_over_23 rfl ?_
    refine gf_Mo_at hx hb T hown hK hw rfl (kf_Mo_81 T) d_Mo_over_24 ?_
    refine lv_iconst (v := 1) hx hb d_Mo_over_27 (by decide) ?_
    refine lv_iadd hx hb d_Mo_over_28 ?_
    refine pf_Mo_at hx hb T hown hK hw rfl (kf_Mo_81 T) d_Mo_over_29 (fun H locs hw => ?_)
    refine lv_iconst (v := 1) hx hb d_Mo_over_32 (by decide) ?_
    exact gr_z B hw (by rfl) d_Mo_over_33 ⟨Or.inl ⟨h9, rfl, rfl⟩, rfl⟩
  · skip
    refine lv_aload_n hx hb d_Mo_over_12 rfl (lv_at hl 0 rfl) ?_
    refine lv_iconst (v := 1) hx hb d_Mo_over_13 (by decide) ?_
    refine lv_aload_n hx hb d_Mo_over_14 rfl (lv_at hl 0 rfl) ?_
    refine gf_Mo_at hx hb T hown hK hw rfl (kf_Mo_81 T) d_Mo_over_15 ?_
    refine gy_V (As := [.int 1, .int (M 103 0)]) B hl.1 hw (c_Mo_fail G M r ow 1 (M 103 0)) (kd_Mo_fail T) (ki_Mo T) (km_Mo_88 T) (ka_Mo_fail T) (ks_Mo_fail T) ⟨by decide, by decide, by rfl⟩ (rv_Mo hK hw rfl) rfl (Nat.le_of_ble_eq_true rfl) ⟨by decide, by decide⟩ ⟨by decide, by decide⟩ d_Mo_over_18 (fun v M1 r1 H locs hw hp => ?_) (fun x ek M1 r1 H locs hw hE hp => hp.elim)
    obtain ⟨rfl, hM1, hr1⟩ := hp
    rw [hM1, hr1] at hw
    clear hM1 hr1
    exact gr_z B hw (by rfl) d_Mo_over_21 ⟨Or.inr ⟨h9, rfl, rfl⟩, rfl⟩
set_option maxHeartbeats 4000000 in
set_option maxRecDepth 100000 in
theorem c_At_declaredStart {l : Launch} {s0 : State} {D : va_G} {aC : Nat → ClassId} {a0 : Array Value} (G : gG l s0 D aC a0) (M : gMem) (r : gRef) (ow : Int64) (a : Nat) (ha : a < 145) : gMet l s0 D aC y_At_declaredStart (Cond.code y_At_declaredStart b_At_declaredStart 1 (some .int)) 1 40 0 0 [.ref (s0.heap.size + oAt a)] M r ow (fun v M1 r1 => v = some (.int (if M 20 a < M 21 a then M 21 a else M 22 a)) ∧ M1 = M ∧ r1 = r) (fun _ _ _ => False) := by
  refine gm_of G (by decide) (Nat.le_of_ble_eq_true rfl) ?_
  intro p e s m below meth c ls B hexc hl hw
  have hx := B.1
  have hb := B.2.1
  have hown := B.2.2.2.2.2.1
  have T := B.2.2.2.2.2.2.1
  have hK := B.2.2.2.2.2.2.2.1
  have ha2 : a < 170 := by omega
  refine lv_aload_n hx hb d_At_declaredStart_0 rfl (lv_at hl 0 rfl) ?_
  refine gf_At_name hx hb T hown hK hw (by assumption) rfl (kf_At_10 T) d_At_declaredStart_1 ?_
  refine gy_V (As := []) B hl.1 hw (c_Nm_hasPrefix G M r ow a ha2) (kd_Nm_hasPrefix T) (ki_Nm T) (km_At_23 T) (ka_Nm_hasPrefix T) (ks_Nm_hasPrefix T) ⟨by decide, by decide, by rfl⟩ (rv_Nm hK hw ha2 rfl) rfl (Nat.le_of_ble_eq_true rfl) ⟨by decide, by decide⟩ ⟨by decide, by decide⟩ d_At_declaredStart_4 (fun v M1 r1 H locs hw hp => ?_) (fun x ek M1 r1 H locs hw hE hp => hp.elim)
  obtain ⟨rfl, hM1, hr1⟩ := hp
  rw [hM1, hr1] at hw
  clear hM1 hr1
  refine lv_if_eq hx hb d_At_declaredStart_7 rfl (fun h7 => ?_) (fun h7 => ?_)
  · skip
    refine lv_aload_n hx hb d_At_declaredStart_20 rfl (lv_at hl 0 rfl) ?_
    refine gf_At_name hx hb T hown hK hw (by assumption) rfl (kf_At_10 T) d_At_declaredStart_21 ?_
    refine gf_Nm_end hx hb T hown hK hw (by assumption) rfl (kf_At_30 T) d_At_declaredStart_24 ?_
    exact gr_i B hw d_At_declaredStart_27 ⟨by (by_cases hlt : M 20 a < M 21 a) <;> first | (rw [if_pos hlt]; done) | (rw [if_neg hlt]; done) | (exfalso; simp [hlt] at h7), rfl, rfl⟩
  · skip
    refine lv_aload_n hx hb d_At_declaredStart_10 rfl (lv_at hl 0 rfl) ?_
    refine gf_At_name hx hb T hown hK hw (by assumption) rfl (kf_At_10 T) d_At_declaredStart_11 ?_
    refine gf_Nm_local hx hb T hown hK hw (by assumption) rfl (kf_At_27 T) d_At_declaredStart_14 ?_
    refine lv_goto hx hb d_At_declaredStart_17 rfl ?_
    exact gr_i B hw d_At_declaredStart_27 ⟨by (by_cases hlt : M 20 a < M 21 a) <;> first | (rw [if_pos hlt]; done) | (rw [if_neg hlt]; done) | (exfalso; simp [hlt] at h7), rfl, rfl⟩
set_option maxHeartbeats 4000000 in
set_option maxRecDepth 100000 in
theorem c_Mo_digit {l : Launch} {s0 : State} {D : va_G} {aC : Nat → ClassId} {a0 : Array Value} (G : gG l s0 D aC a0) (M : gMem) (r : gRef) (ow : Int64) (x b : Int32) : gMet l s0 D aC y_Mo_digit (Cond.code y_Mo_digit b_Mo_digit 4 (some .int)) 0 0 0 0 [.ref (s0.heap.size + 383), .int x, .int b] M r ow (fun v M1 r1 => v = some (.int (cDm x b)) ∧ M1 = M ∧ r1 = r) (fun _ _ _ => False) := by
  refine gm_of G (by decide) (Nat.le_of_ble_eq_true rfl) ?_
  intro p e s m below meth c ls B hexc hl hw
  have hx := B.1
  have hb := B.2.1
  have hown := B.2.2.2.2.2.1
  have T := B.2.2.2.2.2.2.1
  have hK := B.2.2.2.2.2.2.2.1
  refine lv_iload_n hx hb d_Mo_digit_0 rfl (lv_at hl 1 rfl) ?_
  refine lv_bipush (v := 48) hx hb d_Mo_digit_1 (by decide) ?_
  refine lv_icmp_lt hx hb d_Mo_digit_3 rfl (fun h3 => ?_) (fun h3 => ?_)
  · skip
    refine lv_iload_n hx hb d_Mo_digit_19 rfl (lv_at hl 1 rfl) ?_
    refine lv_bipush (v := 97) hx hb d_Mo_digit_20 (by decide) ?_
    refine lv_icmp_lt hx hb d_Mo_digit_22 rfl (fun h22 => ?_) (fun h22 => ?_)
    · skip
      refine lv_iload_n hx hb d_Mo_digit_41 rfl (lv_at hl 1 rfl) ?_
      refine lv_bipush (v := 65) hx hb d_Mo_digit_42 (by decide) ?_
      refine lv_icmp_lt hx hb d_Mo_digit_44 rfl (fun h44 => ?_) (fun h44 => ?_)
      · skip
        refine lv_bipush (v := 99) hx hb d_Mo_digit_63 (by decide) ?_
        refine lv_istore_n hx hb d_Mo_digit_65 rfl hl (by decide) rfl (fun ls hl => ?_)
        refine lv_iload_n hx hb d_Mo_digit_66 rfl (lv_at hl 0 rfl) ?_
        refine lv_iload_n hx hb d_Mo_digit_67 rfl (lv_at hl 3 rfl) ?_
        refine lv_icmp_ge hx hb d_Mo_digit_68 rfl (fun h68 => ?_) (fun h68 => ?_)
        · skip
          refine lv_iconst (v := -1) hx hb d_Mo_digit_75 (by decide) ?_
          exact gr_i B hw d_Mo_digit_76 ⟨(by (try unfold cDm cDd cD2 cD3); (repeat' split) <;> first | rfl | contradiction | (simp_all; done)), rfl, rfl⟩
        · skip
          refine lv_iload_n hx hb d_Mo_digit_71 rfl (lv_at hl 0 rfl) ?_
          refine lv_goto hx hb d_Mo_digit_72 rfl ?_
          exact gr_i B hw d_Mo_digit_76 ⟨(by (try unfold cDm cDd cD2 cD3); (repeat' split) <;> first | rfl | contradiction | (simp_all; done)), rfl, rfl⟩
      · skip
        refine lv_iload_n hx hb d_Mo_digit_47 rfl (lv_at hl 1 rfl) ?_
        refine lv_bipush (v := 70) hx hb d_Mo_digit_48 (by decide) ?_
        refine lv_icmp_gt hx hb d_Mo_digit_50 rfl (fun h50 => ?_) (fun h50 => ?_)
        · skip
          refine lv_bipush (v := 99) hx hb d_Mo_digit_63 (by decide) ?_
          refine lv_istore_n hx hb d_Mo_digit_65 rfl hl (by decide) rfl (fun ls hl => ?_)
          refine lv_iload_n hx hb d_Mo_digit_66 rfl (lv_at hl 0 rfl) ?_
          refine lv_iload_n hx hb d_Mo_digit_67 rfl (lv_at hl 3 rfl) ?_
          refine lv_icmp_ge hx hb d_Mo_digit_68 rfl (fun h68 => ?_) (fun h68 => ?_)
          · skip
            refine lv_iconst (v := -1) hx hb d_Mo_digit_75 (by decide) ?_
            exact gr_i B hw d_Mo_digit_76 ⟨(by (try unfold cDm cDd cD2 cD3); (repeat' split) <;> first | rfl | contradiction | (simp_all; done)), rfl, rfl⟩
          · skip
            refine lv_iload_n hx hb d_Mo_digit_71 rfl (lv_at hl 0 rfl) ?_
            refine lv_goto hx hb d_Mo_digit_72 rfl ?_
            exact gr_i B hw d_Mo_digit_76 ⟨(by (try unfold cDm cDd cD2 cD3); (repeat' split) <;> first | rfl | contradiction | (simp_all; done)), rfl, rfl⟩
        · skip
          refine lv_iload_n hx hb d_Mo_digit_53 rfl (lv_at hl 1 rfl) ?_
          refine lv_bipush (v := 65) hx hb d_Mo_digit_54 (by decide) ?_
          refine lv_isub hx hb d_Mo_digit_56 ?_
          refine lv_bipush (v := 10) hx hb d_Mo_digit_57 (by decide) ?_
          refine lv_iadd hx hb d_Mo_digit_59 ?_
          refine lv_goto hx hb d_Mo_digit_60 rfl ?_
          refine lv_istore_n hx hb d_Mo_digit_65 rfl hl (by decide) rfl (fun ls hl => ?_)
          refine lv_iload_n hx hb d_Mo_digit_66 rfl (lv_at hl 0 rfl) ?_
          refine lv_iload_n hx hb d_Mo_digit_67 rfl (lv_at hl 3 rfl) ?_
          refine lv_icmp_ge hx hb d_Mo_digit_68 rfl (fun h68 => ?_) (fun h68 => ?_)
          · skip
            refine lv_iconst (v := -1) hx hb d_Mo_digit_75 (by decide) ?_
            exact gr_i B hw d_Mo_digit_76 ⟨(by (try unfold cDm cDd cD2 cD3); (repeat' split) <;> first | rfl | contradiction | (simp_all; done)), rfl, rfl⟩
          · skip
            refine lv_iload_n hx hb d_Mo_digit_71 rfl (lv_at hl 0 rfl) ?_
            refine lv_goto hx hb d_Mo_digit_72 rfl ?_
            exact gr_i B hw d_Mo_digit_76 ⟨(by (try unfold cDm cDd cD2 cD3); (repeat' split) <;> first | rfl | contradiction | (simp_all; done)), rfl, rfl⟩
    · skip
      refine lv_iload_n hx hb d_Mo_digit_25 rfl (lv_at hl 1 rfl) ?_
      refine lv_bipush (v := 102) hx hb d_Mo_digit_26 (by decide) ?_
      refine lv_icmp_gt hx hb d_Mo_digit_28 rfl (fun h28 => ?_) (fun h28 => ?_)
      · skip
        refine lv_iload_n hx hb d_Mo_digit_41 rfl (lv_at hl 1 rfl) ?_
        refine lv_bipush (v := 65) hx hb d_Mo_digit_42 (by decide) ?_
        refine lv_icmp_lt hx hb d_Mo_digit_44 rfl (fun h44 => ?_) (fun h44 => ?_)
        · skip
          refine lv_bipush (v := 99) hx hb d_Mo_digit_63 (by decide) ?_
          refine lv_istore_n hx hb d_Mo_digit_65 rfl hl (by decide) rfl (fun ls hl => ?_)
          refine lv_iload_n hx hb d_Mo_digit_66 rfl (lv_at hl 0 rfl) ?_
          refine lv_iload_n hx hb d_Mo_digit_67 rfl (lv_at hl 3 rfl) ?_
          refine lv_icmp_ge hx hb d_Mo_digit_68 rfl (fun h68 => ?_) (fun h68 => ?_)
          · skip
            refine lv_iconst (v := -1) hx hb d_Mo_digit_75 (by decide) ?_
            exact gr_i B hw d_Mo_digit_76 ⟨(by (try unfold cDm cDd cD2 cD3); (repeat' split) <;> first | rfl | contradiction | (simp_all; done)), rfl, rfl⟩
          · skip
            refine lv_iload_n hx hb d_Mo_digit_71 rfl (lv_at hl 0 rfl) ?_
            refine lv_goto hx hb d_Mo_digit_72 rfl ?_
            exact gr_i B hw d_Mo_digit_76 ⟨(by (try unfold cDm cDd cD2 cD3); (repeat' split) <;> first | rfl | contradiction | (simp_all; done)), rfl, rfl⟩
        · skip
          refine lv_iload_n hx hb d_Mo_digit_47 rfl (lv_at hl 1 rfl) ?_
          refine lv_bipush (v := 70) hx hb d_Mo_digit_48 (by decide) ?_
          refine lv_icmp_gt hx hb d_Mo_digit_50 rfl (fun h50 => ?_) (fun h50 => ?_)
          · skip
            refine lv_bipush (v := 99) hx hb d_Mo_digit_63 (by decide) ?_
            refine lv_istore_n hx hb d_Mo_digit_65 rfl hl (by decide) rfl (fun ls hl => ?_)
            refine lv_iload_n hx hb d_Mo_digit_66 rfl (lv_at hl 0 rfl) ?_
            refine lv_iload_n hx hb d_Mo_digit_67 rfl (lv_at hl 3 rfl) ?_
            refine lv_icmp_ge hx hb d_Mo_digit_68 rfl (fun h68 => ?_) (fun h68 => ?_)
            · skip
              refine lv_iconst (v := -1) hx hb d_Mo_digit_75 (by decide) ?_
              exact gr_i B hw d_Mo_digit_76 ⟨(by (try unfold cDm cDd cD2 cD3); (repeat' split) <;> first | rfl | contradiction | (simp_all; done)), rfl, rfl⟩
            · skip
              refine lv_iload_n hx hb d_Mo_digit_71 rfl (lv_at hl 0 rfl) ?_
              refine lv_goto hx hb d_Mo_digit_72 rfl ?_
              exact gr_i B hw d_Mo_digit_76 ⟨(by (try unfold cDm cDd cD2 cD3); (repeat' split) <;> first | rfl | contradiction | (simp_all; done)), rfl, rfl⟩
          · skip
            refine lv_iload_n hx hb d_Mo_digit_53 rfl (lv_at hl 1 rfl) ?_
            refine lv_bipush (v := 65) hx hb d_Mo_digit_54 (by decide) ?_
            refine lv_isub hx hb d_Mo_digit_56 ?_
            refine lv_bipush (v := 10) hx hb d_Mo_digit_57 (by decide) ?_
            refine lv_iadd hx hb d_Mo_digit_59 ?_
            refine lv_goto hx hb d_Mo_digit_60 rfl ?_
            refine lv_istore_n hx hb d_Mo_digit_65 rfl hl (by decide) rfl (fun ls hl => ?_)
            refine lv_iload_n hx hb d_Mo_digit_66 rfl (lv_at hl 0 rfl) ?_
            refine lv_iload_n hx hb d_Mo_digit_67 rfl (lv_at hl 3 rfl) ?_
            refine lv_icmp_ge hx hb d_Mo_digit_68 rfl (fun h68 => ?_) (fun h68 => ?_)
            · skip
              refine lv_iconst (v := -1) hx hb d_Mo_digit_75 (by decide) ?_
              exact gr_i B hw d_Mo_digit_76 ⟨(by (try unfold cDm cDd cD2 cD3); (repeat' split) <;> first | rfl | contradiction | (simp_all; done)), rfl, rfl⟩
            · skip
              refine lv_iload_n hx hb d_Mo_digit_71 rfl (lv_at hl 0 rfl) ?_
              refine lv_goto hx hb d_Mo_digit_72 rfl ?_
              exact gr_i B hw d_Mo_digit_76 ⟨(by (try unfold cDm cDd cD2 cD3); (repeat' split) <;> first | rfl | contradiction | (simp_all; done)), rfl, rfl⟩
      · skip
        refine lv_iload_n hx hb d_Mo_digit_31 rfl (lv_at hl 1 rfl) ?_
        refine lv_bipush (v := 97) hx hb d_Mo_digit_32 (by decide) ?_
        refine lv_isub hx hb d_Mo_digit_34 ?_
        refine lv_bipush (v := 10) hx hb d_Mo_digit_35 (by decide) ?_
        refine lv_iadd hx hb d_Mo_digit_37 ?_
        refine lv_goto hx hb d_Mo_digit_38 rfl ?_
        refine lv_istore_n hx hb d_Mo_digit_65 rfl hl (by decide) rfl (fun ls hl => ?_)
        refine lv_iload_n hx hb d_Mo_digit_66 rfl (lv_at hl 0 rfl) ?_
        refine lv_iload_n hx hb d_Mo_digit_67 rfl (lv_at hl 3 rfl) ?_
        refine lv_icmp_ge hx hb d_Mo_digit_68 rfl (fun h68 => ?_) (fun h68 => ?_)
        · skip
          refine lv_iconst (v := -1) hx hb d_Mo_digit_75 (by decide) ?_
          exact gr_i B hw d_Mo_digit_76 ⟨(by (try unfold cDm cDd cD2 cD3); (repeat' split) <;> first | rfl | contradiction | (simp_all; done)), rfl, rfl⟩
        · skip
          refine lv_iload_n hx hb d_Mo_digit_71 rfl (lv_at hl 0 rfl) ?_
          refine lv_goto hx hb d_Mo_digit_72 rfl ?_
          exact gr_i B hw d_Mo_digit_76 ⟨(by (try unfold cDm cDd cD2 cD3); (repeat' split) <;> first | rfl | contradiction | (simp_all; done)), rfl, rfl⟩
  · skip
    refine lv_iload_n hx hb d_Mo_digit_6 rfl (lv_at hl 1 rfl) ?_
    refine lv_bipush (v := 57) hx hb d_Mo_digit_7 (by decide) ?_
    refine lv_icmp_gt hx hb d_Mo_digit_9 rfl (fun h9 => ?_) (fun h9 => ?_)
    · skip
      refine lv_iload_n hx hb d_Mo_digit_19 rfl (lv_at hl 1 rfl) ?_
      refine lv_bipush (v := 97) hx hb d_Mo_digit_20 (by decide) ?_
      refine lv_icmp_lt hx hb d_Mo_digit_22 rfl (fun h22 => ?_) (fun h22 => ?_)
      · skip
        refine lv_iload_n hx hb d_Mo_digit_41 rfl (lv_at hl 1 rfl) ?_
        refine lv_bipush (v := 65) hx hb d_Mo_digit_42 (by decide) ?_
        refine lv_icmp_lt hx hb d_Mo_digit_44 rfl (fun h44 => ?_) (fun h44 => ?_)
        · skip
          refine lv_bipush (v := 99) hx hb d_Mo_digit_63 (by decide) ?_
          refine lv_istore_n hx hb d_Mo_digit_65 rfl hl (by decide) rfl (fun ls hl => ?_)
          refine lv_iload_n hx hb d_Mo_digit_66 rfl (lv_at hl 0 rfl) ?_
          refine lv_iload_n hx hb d_Mo_digit_67 rfl (lv_at hl 3 rfl) ?_
          refine lv_icmp_ge hx hb d_Mo_digit_68 rfl (fun h68 => ?_) (fun h68 => ?_)
          · skip
            refine lv_iconst (v := -1) hx hb d_Mo_digit_75 (by decide) ?_
            exact gr_i B hw d_Mo_digit_76 ⟨(by (try unfold cDm cDd cD2 cD3); (repeat' split) <;> first | rfl | contradiction | (simp_all; done)), rfl, rfl⟩
          · skip
            refine lv_iload_n hx hb d_Mo_digit_71 rfl (lv_at hl 0 rfl) ?_
            refine lv_goto hx hb d_Mo_digit_72 rfl ?_
            exact gr_i B hw d_Mo_digit_76 ⟨(by (try unfold cDm cDd cD2 cD3); (repeat' split) <;> first | rfl | contradiction | (simp_all; done)), rfl, rfl⟩
        · skip
          refine lv_iload_n hx hb d_Mo_digit_47 rfl (lv_at hl 1 rfl) ?_
          refine lv_bipush (v := 70) hx hb d_Mo_digit_48 (by decide) ?_
          refine lv_icmp_gt hx hb d_Mo_digit_50 rfl (fun h50 => ?_) (fun h50 => ?_)
          · skip
            refine lv_bipush (v := 99) hx hb d_Mo_digit_63 (by decide) ?_
            refine lv_istore_n hx hb d_Mo_digit_65 rfl hl (by decide) rfl (fun ls hl => ?_)
            refine lv_iload_n hx hb d_Mo_digit_66 rfl (lv_at hl 0 rfl) ?_
            refine lv_iload_n hx hb d_Mo_digit_67 rfl (lv_at hl 3 rfl) ?_
            refine lv_icmp_ge hx hb d_Mo_digit_68 rfl (fun h68 => ?_) (fun h68 => ?_)
            · skip
              refine lv_iconst (v := -1) hx hb d_Mo_digit_75 (by decide) ?_
              exact gr_i B hw d_Mo_digit_76 ⟨(by (try unfold cDm cDd cD2 cD3); (repeat' split) <;> first | rfl | contradiction | (simp_all; done)), rfl, rfl⟩
            · skip
              refine lv_iload_n hx hb d_Mo_digit_71 rfl (lv_at hl 0 rfl) ?_
              refine lv_goto hx hb d_Mo_digit_72 rfl ?_
              exact gr_i B hw d_Mo_digit_76 ⟨(by (try unfold cDm cDd cD2 cD3); (repeat' split) <;> first | rfl | contradiction | (simp_all; done)), rfl, rfl⟩
          · skip
            refine lv_iload_n hx hb d_Mo_digit_53 rfl (lv_at hl 1 rfl) ?_
            refine lv_bipush (v := 65) hx hb d_Mo_digit_54 (by decide) ?_
            refine lv_isub hx hb d_Mo_digit_56 ?_
            refine lv_bipush (v := 10) hx hb d_Mo_digit_57 (by decide) ?_
            refine lv_iadd hx hb d_Mo_digit_59 ?_
            refine lv_goto hx hb d_Mo_digit_60 rfl ?_
            refine lv_istore_n hx hb d_Mo_digit_65 rfl hl (by decide) rfl (fun ls hl => ?_)
            refine lv_iload_n hx hb d_Mo_digit_66 rfl (lv_at hl 0 rfl) ?_
            refine lv_iload_n hx hb d_Mo_digit_67 rfl (lv_at hl 3 rfl) ?_
            refine lv_icmp_ge hx hb d_Mo_digit_68 rfl (fun h68 => ?_) (fun h68 => ?_)
            · skip
              refine lv_iconst (v := -1) hx hb d_Mo_digit_75 (by decide) ?_
              exact gr_i B hw d_Mo_digit_76 ⟨(by (try unfold cDm cDd cD2 cD3); (repeat' split) <;> first | rfl | contradiction | (simp_all; done)), rfl, rfl⟩
            · skip
              refine lv_iload_n hx hb d_Mo_digit_71 rfl (lv_at hl 0 rfl) ?_
              refine lv_goto hx hb d_Mo_digit_72 rfl ?_
              exact gr_i B hw d_Mo_digit_76 ⟨(by (try unfold cDm cDd cD2 cD3); (repeat' split) <;> first | rfl | contradiction | (simp_all; done)), rfl, rfl⟩
      · skip
        refine lv_iload_n hx hb d_Mo_digit_25 rfl (lv_at hl 1 rfl) ?_
        refine lv_bipush (v := 102) hx hb d_Mo_digit_26 (by decide) ?_
        refine lv_icmp_gt hx hb d_Mo_digit_28 rfl (fun h28 => ?_) (fun h28 => ?_)
        · skip
          refine lv_iload_n hx hb d_Mo_digit_41 rfl (lv_at hl 1 rfl) ?_
          refine lv_bipush (v := 65) hx hb d_Mo_digit_42 (by decide) ?_
          refine lv_icmp_lt hx hb d_Mo_digit_44 rfl (fun h44 => ?_) (fun h44 => ?_)
          · skip
            refine lv_bipush (v := 99) hx hb d_Mo_digit_63 (by decide) ?_
            refine lv_istore_n hx hb d_Mo_digit_65 rfl hl (by decide) rfl (fun ls hl => ?_)
            refine lv_iload_n hx hb d_Mo_digit_66 rfl (lv_at hl 0 rfl) ?_
            refine lv_iload_n hx hb d_Mo_digit_67 rfl (lv_at hl 3 rfl) ?_
            refine lv_icmp_ge hx hb d_Mo_digit_68 rfl (fun h68 => ?_) (fun h68 => ?_)
            · skip
              refine lv_iconst (v := -1) hx hb d_Mo_digit_75 (by decide) ?_
              exact gr_i B hw d_Mo_digit_76 ⟨(by (try unfold cDm cDd cD2 cD3); (repeat' split) <;> first | rfl | contradiction | (simp_all; done)), rfl, rfl⟩
            · skip
              refine lv_iload_n hx hb d_Mo_digit_71 rfl (lv_at hl 0 rfl) ?_
              refine lv_goto hx hb d_Mo_digit_72 rfl ?_
              exact gr_i B hw d_Mo_digit_76 ⟨(by (try unfold cDm cDd cD2 cD3); (repeat' split) <;> first | rfl | contradiction | (simp_all; done)), rfl, rfl⟩
          · skip
            refine lv_iload_n hx hb d_Mo_digit_47 rfl (lv_at hl 1 rfl) ?_
            refine lv_bipush (v := 70) hx hb d_Mo_digit_48 (by decide) ?_
            refine lv_icmp_gt hx hb d_Mo_digit_50 rfl (fun h50 => ?_) (fun h50 => ?_)
            · skip
              refine lv_bipush (v := 99) hx hb d_Mo_digit_63 (by decide) ?_
              refine lv_istore_n hx hb d_Mo_digit_65 rfl hl (by decide) rfl (fun ls hl => ?_)
              refine lv_iload_n hx hb d_Mo_digit_66 rfl (lv_at hl 0 rfl) ?_
              refine lv_iload_n hx hb d_Mo_digit_67 rfl (lv_at hl 3 rfl) ?_
              refine lv_icmp_ge hx hb d_Mo_digit_68 rfl (fun h68 => ?_) (fun h68 => ?_)
              · skip
                refine lv_iconst (v := -1) hx hb d_Mo_digit_75 (by decide) ?_
                exact gr_i B hw d_Mo_digit_76 ⟨(by (try unfold cDm cDd cD2 cD3); (repeat' split) <;> first | rfl | contradiction | (simp_all; done)), rfl, rfl⟩
              · skip
                refine lv_iload_n hx hb d_Mo_digit_71 rfl (lv_at hl 0 rfl) ?_
                refine lv_goto hx hb d_Mo_digit_72 rfl ?_
                exact gr_i B hw d_Mo_digit_76 ⟨(by (try unfold cDm cDd cD2 cD3); (repeat' split) <;> first | rfl | contradiction | (simp_all; done)), rfl, rfl⟩
            · skip
              refine lv_iload_n hx hb d_Mo_digit_53 rfl (lv_at hl 1 rfl) ?_
              refine lv_bipush (v := 65) hx hb d_Mo_digit_54 (by decide) ?_
              refine lv_isub hx hb d_Mo_digit_56 ?_
              refine lv_bipush (v := 10) hx hb d_Mo_digit_57 (by decide) ?_
              refine lv_iadd hx hb d_Mo_digit_59 ?_
              refine lv_goto hx hb d_Mo_digit_60 rfl ?_
              refine lv_istore_n hx hb d_Mo_digit_65 rfl hl (by decide) rfl (fun ls hl => ?_)
              refine lv_iload_n hx hb d_Mo_digit_66 rfl (lv_at hl 0 rfl) ?_
              refine lv_iload_n hx hb d_Mo_digit_67 rfl (lv_at hl 3 rfl) ?_
              refine lv_icmp_ge hx hb d_Mo_digit_68 rfl (fun h68 => ?_) (fun h68 => ?_)
              · skip
                refine lv_iconst (v := -1) hx hb d_Mo_digit_75 (by decide) ?_
                exact gr_i B hw d_Mo_digit_76 ⟨(by (try unfold cDm cDd cD2 cD3); (repeat' split) <;> first | rfl | contradiction | (simp_all; done)), rfl, rfl⟩
              · skip
                refine lv_iload_n hx hb d_Mo_digit_71 rfl (lv_at hl 0 rfl) ?_
                refine lv_goto hx hb d_Mo_digit_72 rfl ?_
                exact gr_i B hw d_Mo_digit_76 ⟨(by (try unfold cDm cDd cD2 cD3); (repeat' split) <;> first | rfl | contradiction | (simp_all; done)), rfl, rfl⟩
        · skip
          refine lv_iload_n hx hb d_Mo_digit_31 rfl (lv_at hl 1 rfl) ?_
          refine lv_bipush (v := 97) hx hb d_Mo_digit_32 (by decide) ?_
          refine lv_isub hx hb d_Mo_digit_34 ?_
          refine lv_bipush (v := 10) hx hb d_Mo_digit_35 (by decide) ?_
          refine lv_iadd hx hb d_Mo_digit_37 ?_
          refine lv_goto hx hb d_Mo_digit_38 rfl ?_
          refine lv_istore_n hx hb d_Mo_digit_65 rfl hl (by decide) rfl (fun ls hl => ?_)
          refine lv_iload_n hx hb d_Mo_digit_66 rfl (lv_at hl 0 rfl) ?_
          refine lv_iload_n hx hb d_Mo_digit_67 rfl (lv_at hl 3 rfl) ?_
          refine lv_icmp_ge hx hb d_Mo_digit_68 rfl (fun h68 => ?_) (fun h68 => ?_)
          · skip
            refine lv_iconst (v := -1) hx hb d_Mo_digit_75 (by decide) ?_
            exact gr_i B hw d_Mo_digit_76 ⟨(by (try unfold cDm cDd cD2 cD3); (repeat' split) <;> first | rfl | contradiction | (simp_all; done)), rfl, rfl⟩
          · skip
            refine lv_iload_n hx hb d_Mo_digit_71 rfl (lv_at hl 0 rfl) ?_
            refine lv_goto hx hb d_Mo_digit_72 rfl ?_
            exact gr_i B hw d_Mo_digit_76 ⟨(by (try unfold cDm cDd cD2 cD3); (repeat' split) <;> first | rfl | contradiction | (simp_all; done)), rfl, rfl⟩
    · skip
      refine lv_iload_n hx hb d_Mo_digit_12 rfl (lv_at hl 1 rfl) ?_
      refine lv_bipush (v := 48) hx hb d_Mo_digit_13 (by decide) ?_
      refine lv_isub hx hb d_Mo_digit_15 ?_
      refine lv_goto hx hb d_Mo_digit_16 rfl ?_
      refine lv_istore_n hx hb d_Mo_digit_65 rfl hl (by decide) rfl (fun ls hl => ?_)
      refine lv_iload_n hx hb d_Mo_digit_66 rfl (lv_at hl 0 rfl) ?_
      refine lv_iload_n hx hb d_Mo_digit_67 rfl (lv_at hl 3 rfl) ?_
      refine lv_icmp_ge hx hb d_Mo_digit_68 rfl (fun h68 => ?_) (fun h68 => ?_)
      · skip
        refine lv_iconst (v := -1) hx hb d_Mo_digit_75 (by decide) ?_
        exact gr_i B hw d_Mo_digit_76 ⟨(by (try unfold cDm cDd cD2 cD3); (repeat' split) <;> first | rfl | contradiction | (simp_all; done)), rfl, rfl⟩
      · skip
        refine lv_iload_n hx hb d_Mo_digit_71 rfl (lv_at hl 0 rfl) ?_
        refine lv_goto hx hb d_Mo_digit_72 rfl ?_
        exact gr_i B hw d_Mo_digit_76 ⟨(by (try unfold cDm cDd cD2 cD3); (repeat' split) <;> first | rfl | contradiction | (simp_all; done)), rfl, rfl⟩
