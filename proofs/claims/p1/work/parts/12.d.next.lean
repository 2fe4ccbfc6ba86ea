/-! reading: the next character, failing, passing -/
def mFail (M : gMem) (w h : Int32) : gMem := mS (mS (mS (mS M 2 0 0) 0 5 0) 36 0 w) 37 0 h
/-- the character so far ahead -/
def cNx (M : gMem) (x : Int32) : Int32 := cAt M 2 (M 35 0 + x)
def cBl (x : Int32) : Int32 := if x = 32 then 1 else if x = 10 then 1 else 0
theorem cAt_ok {M : gMem} {i : Nat} (hc : ∀ j, cOK (M (10 + i) j)) (x : Int32) : cOK (cAt M i x) := by
  unfold cAt
  split
  · exact cOK_0
  · split
    · exact cOK_0
    · exact hc _
theorem mS_self (M : gMem) (t i : Nat) : mS M t i (M t i) = M := by
  funext t2 i2
  by_cases h : t2 = t ∧ i2 = i
  · obtain ⟨rfl, rfl⟩ := h
    simp [mS]
  · simp [mS, h]
theorem mS_mS (M : gMem) (t i : Nat) (v w : Int32) : mS (mS M t i v) t i w = mS M t i w := by
  funext t2 i2
  by_cases h : t2 = t ∧ i2 = i <;> simp [mS, h]
/-- the first place from a on, of the d ones there, that holds no blank -/
def sk (f : Nat → Int32) : Nat → Nat → Nat
  | 0, a => a
  | d + 1, a => if cBl (f a) = 0 then a else sk f d (a + 1)
theorem sk_step {f : Nat → Int32} {d a : Nat} (h : ¬ cBl (f a) = 0) : sk f (d + 1) a = sk f d (a + 1) := if_neg h
theorem sk_stop {f : Nat → Int32} {d a : Nat} (h : cBl (f a) = 0) : sk f (d + 1) a = a := if_pos h
theorem sk_ge (f : Nat → Int32) : ∀ d a, a ≤ sk f d a ∧ sk f d a ≤ a + d
  | 0, a => ⟨Nat.le_refl _, Nat.le_refl _⟩
  | d + 1, a => by
    unfold sk
    split
    · exact ⟨Nat.le_refl _, by omega⟩
    · have := sk_ge f d (a + 1)
      omega
theorem d_MR_isBlank_0 : decode b_MR_isBlank 0 = .ok (.iload_n 0, 1) := by decide +kernel
theorem d_MR_isBlank_1 : decode b_MR_isBlank 1 = .ok (.bipush 32, 2) := by decide +kernel
theorem d_MR_isBlank_3 : decode b_MR_isBlank 3 = .ok (.if_icmp .eq 9, 3) := by decide +kernel
theorem d_MR_isBlank_6 : decode b_MR_isBlank 6 = .ok (.iload_n 0, 1) := by decide +kernel
theorem d_MR_isBlank_7 : decode b_MR_isBlank 7 = .ok (.bipush 10, 2) := by decide +kernel
theorem d_MR_isBlank_9 : decode b_MR_isBlank 9 = .ok (.if_icmp .ne 7, 3) := by decide +kernel
theorem d_MR_isBlank_12 : decode b_MR_isBlank 12 = .ok (.iconst 1, 1) := by decide +kernel
theorem d_MR_isBlank_13 : decode b_MR_isBlank 13 = .ok (.goto 4, 3) := by decide +kernel
theorem d_MR_isBlank_16 : decode b_MR_isBlank 16 = .ok (.iconst 0, 1) := by decide +kernel
theorem d_MR_isBlank_17 : decode b_MR_isBlank 17 = .ok (.ireturn, 1) := by decide +kernel
theorem d_Rd_next_0 : decode b_Rd_next 0 = .ok (.aload_n 0, 1) := by decide +kernel
theorem d_Rd_next_1 : decode b_Rd_next 1 = .ok (.getfield 18, 3) := by decide +kernel
theorem d_Rd_next_4 : decode b_Rd_next 4 = .ok (.iload_n 1, 1) := by decide +kernel
theorem d_Rd_next_5 : decode b_Rd_next 5 = .ok (.iadd, 1) := by decide +kernel
theorem d_Rd_next_6 : decode b_Rd_next 6 = .ok (.istore_n 2, 1) := by decide +kernel
theorem d_Rd_next_7 : decode b_Rd_next 7 = .ok (.iload_n 2, 1) := by decide +kernel
theorem d_Rd_next_8 : decode b_Rd_next 8 = .ok (.ifCond .lt 26, 3) := by decide +kernel
theorem d_Rd_next_11 : decode b_Rd_next 11 = .ok (.iload_n 2, 1) := by decide +kernel
theorem d_Rd_next_12 : decode b_Rd_next 12 = .ok (.aload_n 0, 1) := by decide +kernel
theorem d_Rd_next_13 : decode b_Rd_next 13 = .ok (.getfield 55, 3) := by decide +kernel
theorem d_Rd_next_16 : decode b_Rd_next 16 = .ok (.getfield 71, 3) := by decide +kernel
theorem d_Rd_next_19 : decode b_Rd_next 19 = .ok (.if_icmp .ge 15, 3) := by decide +kernel
theorem d_Rd_next_22 : decode b_Rd_next 22 = .ok (.aload_n 0, 1) := by decide +kernel
theorem d_Rd_next_23 : decode b_Rd_next 23 = .ok (.getfield 55, 3) := by decide +kernel
theorem d_Rd_next_26 : decode b_Rd_next 26 = .ok (.getfield 118, 3) := by decide +kernel
theorem d_Rd_next_29 : decode b_Rd_next 29 = .ok (.iload_n 2, 1) := by decide +kernel
theorem d_Rd_next_30 : decode b_Rd_next 30 = .ok (.caload, 1) := by decide +kernel
theorem d_Rd_next_31 : decode b_Rd_next 31 = .ok (.goto 4, 3) := by decide +kernel
theorem d_Rd_next_34 : decode b_Rd_next 34 = .ok (.iconst 0, 1) := by decide +kernel
theorem d_Rd_next_35 : decode b_Rd_next 35 = .ok (.ireturn, 1) := by decide +kernel
theorem d_Rd_fail_0 : decode b_Rd_fail 0 = .ok (.aload_n 0, 1) := by decide +kernel
theorem d_Rd_fail_1 : decode b_Rd_fail 1 = .ok (.getfield 32, 3) := by decide +kernel
theorem d_Rd_fail_4 : decode b_Rd_fail 4 = .ok (.iconst 0, 1) := by decide +kernel
theorem d_Rd_fail_5 : decode b_Rd_fail 5 = .ok (.putfield 110, 3) := by decide +kernel
theorem d_Rd_fail_8 : decode b_Rd_fail 8 = .ok (.aload_n 0, 1) := by decide +kernel
theorem d_Rd_fail_9 : decode b_Rd_fail 9 = .ok (.getfield 36, 3) := by decide +kernel
theorem d_Rd_fail_12 : decode b_Rd_fail 12 = .ok (.getfield 105, 3) := by decide +kernel
theorem d_Rd_fail_15 : decode b_Rd_fail 15 = .ok (.iconst 0, 1) := by decide +kernel
theorem d_Rd_fail_16 : decode b_Rd_fail 16 = .ok (.putfield 71, 3) := by decide +kernel
theorem d_Rd_fail_19 : decode b_Rd_fail 19 = .ok (.aload_n 0, 1) := by decide +kernel
theorem d_Rd_fail_20 : decode b_Rd_fail 20 = .ok (.iload_n 1, 1) := by decide +kernel
theorem d_Rd_fail_21 : decode b_Rd_fail 21 = .ok (.putfield 26, 3) := by decide +kernel
theorem d_Rd_fail_24 : decode b_Rd_fail 24 = .ok (.aload_n 0, 1) := by decide +kernel
theorem d_Rd_fail_25 : decode b_Rd_fail 25 = .ok (.iload_n 2, 1) := by decide +kernel
theorem d_Rd_fail_26 : decode b_Rd_fail 26 = .ok (.putfield 29, 3) := by decide +kernel
theorem d_Rd_fail_29 : decode b_Rd_fail 29 = .ok (.new 111, 3) := by decide +kernel
theorem d_Rd_fail_32 : decode b_Rd_fail 32 = .ok (.dup, 1) := by decide +kernel
theorem d_Rd_fail_33 : decode b_Rd_fail 33 = .ok (.ldc 113, 2) := by decide +kernel
theorem d_Rd_fail_35 : decode b_Rd_fail 35 = .ok (.invokespecial 115, 3) := by decide +kernel
theorem d_Rd_fail_38 : decode b_Rd_fail 38 = .ok (.athrow, 1) := by decide +kernel
theorem d_Rd_pass_0 : decode b_Rd_pass 0 = .ok (.aload_n 0, 1) := by decide +kernel
theorem d_Rd_pass_1 : decode b_Rd_pass 1 = .ok (.iconst 0, 1) := by decide +kernel
theorem d_Rd_pass_2 : decode b_Rd_pass 2 = .ok (.invokevirtual 76, 3) := by decide +kernel
theorem d_Rd_pass_5 : decode b_Rd_pass 5 = .ok (.iload_n 1, 1) := by decide +kernel
theorem d_Rd_pass_6 : decode b_Rd_pass 6 = .ok (.if_icmp .eq 12, 3) := by decide +kernel
theorem d_Rd_pass_9 : decode b_Rd_pass 9 = .ok (.aload_n 0, 1) := by decide +kernel
theorem d_Rd_pass_10 : decode b_Rd_pass 10 = .ok (.iconst 1, 1) := by decide +kernel
theorem d_Rd_pass_11 : decode b_Rd_pass 11 = .ok (.aload_n 0, 1) := by decide +kernel
theorem d_Rd_pass_12 : decode b_Rd_pass 12 = .ok (.getfield 18, 3) := by decide +kernel
theorem d_Rd_pass_15 : decode b_Rd_pass 15 = .ok (.invokevirtual 100, 3) := by decide +kernel
theorem d_Rd_pass_18 : decode b_Rd_pass 18 = .ok (.aload_n 0, 1) := by decide +kernel
theorem d_Rd_pass_19 : decode b_Rd_pass 19 = .ok (.dup, 1) := by decide +kernel
theorem d_Rd_pass_20 : decode b_Rd_pass 20 = .ok (.getfield 18, 3) := by decide +kernel
theorem d_Rd_pass_23 : decode b_Rd_pass 23 = .ok (.iconst 1, 1) := by decide +kernel
theorem d_Rd_pass_24 : decode b_Rd_pass 24 = .ok (.iadd, 1) := by decide +kernel
theorem d_Rd_pass_25 : decode b_Rd_pass 25 = .ok (.putfield 18, 3) := by decide +kernel
theorem d_Rd_pass_28 : decode b_Rd_pass 28 = .ok (.return_, 1) := by decide +kernel
theorem d_Rd_passBlanks_0 : decode b_Rd_passBlanks 0 = .ok (.aload_n 0, 1) := by decide +kernel
theorem d_Rd_passBlanks_1 : decode b_Rd_passBlanks 1 = .ok (.getfield 18, 3) := by decide +kernel
theorem d_Rd_passBlanks_4 : decode b_Rd_passBlanks 4 = .ok (.istore_n 1, 1) := by decide +kernel
theorem d_Rd_passBlanks_5 : decode b_Rd_passBlanks 5 = .ok (.aload_n 0, 1) := by decide +kernel
theorem d_Rd_passBlanks_6 : decode b_Rd_passBlanks 6 = .ok (.getfield 18, 3) := by decide +kernel
theorem d_Rd_passBlanks_9 : decode b_Rd_passBlanks 9 = .ok (.aload_n 0, 1) := by decide +kernel
theorem d_Rd_passBlanks_10 : decode b_Rd_passBlanks 10 = .ok (.getfield 55, 3) := by decide +kernel
theorem d_Rd_passBlanks_13 : decode b_Rd_passBlanks 13 = .ok (.getfield 71, 3) := by decide +kernel
theorem d_Rd_passBlanks_16 : decode b_Rd_passBlanks 16 = .ok (.if_icmp .ge 27, 3) := by decide +kernel
theorem d_Rd_passBlanks_19 : decode b_Rd_passBlanks 19 = .ok (.aload_n 0, 1) := by decide +kernel
theorem d_Rd_passBlanks_20 : decode b_Rd_passBlanks 20 = .ok (.iconst 0, 1) := by decide +kernel
theorem d_Rd_passBlanks_21 : decode b_Rd_passBlanks 21 = .ok (.invokevirtual 76, 3) := by decide +kernel
theorem d_Rd_passBlanks_24 : decode b_Rd_passBlanks 24 = .ok (.invokestatic 135, 3) := by decide +kernel
theorem d_Rd_passBlanks_27 : decode b_Rd_passBlanks 27 = .ok (.ifCond .eq 16, 3) := by decide +kernel
theorem d_Rd_passBlanks_30 : decode b_Rd_passBlanks 30 = .ok (.aload_n 0, 1) := by decide +kernel
theorem d_Rd_passBlanks_31 : decode b_Rd_passBlanks 31 = .ok (.dup, 1) := by decide +kernel
theorem d_Rd_passBlanks_32 : decode b_Rd_passBlanks 32 = .ok (.getfield 18, 3) := by decide +kernel
theorem d_Rd_passBlanks_35 : decode b_Rd_passBlanks 35 = .ok (.iconst 1, 1) := by decide +kernel
theorem d_Rd_passBlanks_36 : decode b_Rd_passBlanks 36 = .ok (.iadd, 1) := by decide +kernel
theorem d_Rd_passBlanks_37 : decode b_Rd_passBlanks 37 = .ok (.putfield 18, 3) := by decide +kernel
theorem d_Rd_passBlanks_40 : decode b_Rd_passBlanks 40 = .ok (.goto (-35), 3) := by decide +kernel
theorem d_Rd_passBlanks_43 : decode b_Rd_passBlanks 43 = .ok (.aload_n 0, 1) := by decide +kernel
theorem d_Rd_passBlanks_44 : decode b_Rd_passBlanks 44 = .ok (.getfield 18, 3) := by decide +kernel
theorem d_Rd_passBlanks_47 : decode b_Rd_passBlanks 47 = .ok (.iload_n 1, 1) := by decide +kernel
theorem d_Rd_passBlanks_48 : decode b_Rd_passBlanks 48 = .ok (.if_icmp .le 7, 3) := by decide +kernel
theorem d_Rd_passBlanks_51 : decode b_Rd_passBlanks 51 = .ok (.iconst 1, 1) := by decide +kernel
theorem d_Rd_passBlanks_52 : decode b_Rd_passBlanks 52 = .ok (.goto 4, 3) := by decide +kernel
theorem d_Rd_passBlanks_55 : decode b_Rd_passBlanks 55 = .ok (.iconst 0, 1) := by decide +kernel
theorem d_Rd_passBlanks_56 : decode b_Rd_passBlanks 56 = .ok (.ireturn, 1) := by decide +kernel
set_option maxHeartbeats 4000000 in
set_option maxRecDepth 100000 in
theorem c_MR_isBlank {l : Launch} {s0 : State} {D : va_G} {aC : Nat → ClassId} {a0 : Array Value} (G : gG l s0 D aC a0) (M : gMem) (r : gRef) (ow : Int64) (x : Int32) : gMet l s0 D aC y_MR_isBlank (Cond.code y_MR_isBlank b_MR_isBlank 1 (some .boolean)) 0 0 0 0 [.int x] M r ow (fun v M1 r1 => v = some (.int (cBl x)) ∧ M1 = M ∧ r1 = r) (fun _ _ _ => False) := by
  refine gm_of G (by decide) (Nat.le_of_ble_eq_true rfl) ?_
  intro p e s m below meth c ls B hexc hl hw
  have hx := B.1
  have hb := B.2.1
  have hown := B.2.2.2.2.2.1
  have T := B.2.2.2.2.2.2.1
  have hK := B.2.2.2.2.2.2.2.1
  refine lv_iload_n hx hb d_MR_isBlank_0 rfl (lv_at hl 0 rfl) ?_
  refine lv_bipush (v := 32) hx hb d_MR_isBlank_1 (by decide) ?_
  refine lv_icmp_eq hx hb d_MR_isBlank_3 rfl (fun h3 => ?_) (fun h3 => ?_)
  · skip
    refine lv_iconst (v := 1) hx hb d_MR_isBlank_12 (by decide) ?_
    refine lv_goto hx hb d_MR_isBlank_13 rfl ?_
    exact gr_z B hw (by rfl) d_MR_isBlank_17 ⟨(by (try unfold cBl); (repeat' split) <;> first | rfl | contradiction | (simp_all; done)), rfl, rfl⟩
  · skip
    refine lv_iload_n hx hb d_MR_isBlank_6 rfl (lv_at hl 0 rfl) ?_
    refine lv_bipush (v := 10) hx hb d_MR_isBlank_7 (by decide) ?_
    refine lv_icmp_ne hx hb d_MR_isBlank_9 rfl (fun h9 => ?_) (fun h9 => ?_)
    · skip
      refine lv_iconst (v := 0) hx hb d_MR_isBlank_16 (by decide) ?_
      exact gr_z B hw (by rfl) d_MR_isBlank_17 ⟨(by (try unfold cBl); (repeat' split) <;> first | rfl | contradiction | (simp_all; done)), rfl, rfl⟩
    · skip
      refine lv_iconst (v := 1) hx hb d_MR_isBlank_12 (by decide) ?_
      refine lv_goto hx hb d_MR_isBlank_13 rfl ?_
      exact gr_z B hw (by rfl) d_MR_isBlank_17 ⟨(by (try unfold cBl); (repeat' split) <;> first | rfl | contradiction | (simp_all; done)), rfl, rfl⟩
set_option maxHeartbeats 4000000 in
set_option maxRecDepth 100000 in
theorem c_Rd_next {l : Launch} {s0 : State} {D : va_G} {aC : Nat → ClassId} {a0 : Array Value} (G : gG l s0 D aC a0) (M : gMem) (r : gRef) (ow : Int64) (n : Nat) (hn : n ≤ 240) (hs : M 0 2 = nI n) (hc : ∀ j, cOK (M 12 j)) (x : Int32) : gMet l s0 D aC y_Rd_next (Cond.code y_Rd_next b_Rd_next 3 (some .char)) 0 0 0 0 [.ref (s0.heap.size + 380), .int x] M r ow (fun v M1 r1 => v = some (.int (cNx M x)) ∧ M1 = M ∧ r1 = r) (fun _ _ _ => False) := by
  refine gm_of G (by decide) (Nat.le_of_ble_eq_true rfl) ?_
  intro p e s m below meth c ls B hexc hl hw
  have hx := B.1
  have hb := B.2.1
  have hown := B.2.2.2.2.2.1
  have T := B.2.2.2.2.2.2.1
  have hK := B.2.2.2.2.2.2.2.1
  refine lv_aload_n hx hb d_Rd_next_0 rfl (lv_at hl 0 rfl) ?_
  refine gf_Rd_at hx hb T hown hK hw rfl (kf_Rd_18 T) d_Rd_next_1 ?_
  refine lv_iload_n hx hb d_Rd_next_4 rfl (lv_at hl 1 rfl) ?_
  refine lv_iadd hx hb d_Rd_next_5 ?_
  refine lv_istore_n hx hb d_Rd_next_6 rfl hl (by decide) rfl (fun ls hl => ?_)
  refine lv_iload_n hx hb d_Rd_next_7 rfl (lv_at hl 0 rfl) ?_
  refine lv_if_lt hx hb d_Rd_next_8 rfl (fun h8 => ?_) (fun h8 => ?_)
  · skip
    refine lv_iconst (v := 0) hx hb d_Rd_next_34 (by decide) ?_
    exact gr_z B hw (by first | rfl | exact (hc _).nar) d_Rd_next_35 ⟨(by unfold cNx cAt; (repeat' split) <;> first | rfl | contradiction | (simp_all; done)), rfl, rfl⟩
  · skip
    refine lv_iload_n hx hb d_Rd_next_11 rfl (lv_at hl 0 rfl) ?_
    refine lv_aload_n hx hb d_Rd_next_12 rfl (lv_at hl 1 rfl) ?_
    refine gf_Rd_text hx hb T hown hK hw rfl (kf_Rd_55 T) d_Rd_next_13 ?_
    refine gf_Row_size hx hb T hown hK hw (i := 2) (by decide) rfl (kf_Rd_71 T) d_Rd_next_16 ?_
    refine lv_icmp_ge hx hb d_Rd_next_19 rfl (fun h19 => ?_) (fun h19 => ?_)
    · skip
      refine lv_iconst (v := 0) hx hb d_Rd_next_34 (by decide) ?_
      exact gr_z B hw (by first | rfl | exact (hc _).nar) d_Rd_next_35 ⟨(by unfold cNx cAt; (repeat' split) <;> first | rfl | contradiction | (simp_all; done)), rfl, rfl⟩
    · skip
      refine lv_aload_n hx hb d_Rd_next_22 rfl (lv_at hl 1 rfl) ?_
      refine gf_Rd_text hx hb T hown hK hw rfl (kf_Rd_55 T) d_Rd_next_23 ?_
      refine gf_Row_chars hx hb T hown hK hw (i := 2) (by decide) rfl (kf_Rd_118 T) d_Rd_next_26 ?_
      refine lv_iload_n hx hb d_Rd_next_29 rfl (lv_at hl 0 rfl) ?_
      refine ga_ch hx hb hK hw (i := 2) (by decide) rfl (gi_in h8 (by rw [← hs]; exact h19) hn (by decide)) d_Rd_next_30 ?_
      refine lv_goto hx hb d_Rd_next_31 rfl ?_
      exact gr_z B hw (by first | rfl | exact (hc _).nar) d_Rd_next_35 ⟨(by unfold cNx cAt; (repeat' split) <;> first | rfl | contradiction | (simp_all; done)), rfl, rfl⟩
set_option maxHeartbeats 4000000 in
set_option maxRecDepth 100000 in
theorem c_Rd_fail {l : Launch} {s0 : State} {D : va_G} {aC : Nat → ClassId} {a0 : Array Value} (G : gG l s0 D aC a0) (M : gMem) (r : gRef) (ow : Int64) (w h : Int32) : gMet l s0 D aC y_Rd_fail (Cond.code y_Rd_fail b_Rd_fail 3 none) 6 90 1 6 [.ref (s0.heap.size + 380), .int w, .int h] M r ow (fun _ _ _ => False) (fun ek M1 r1 => ek = 0 ∧ M1 = mFail M w h ∧ r1 = r) := by
  refine gm_of G (by decide) (Nat.le_of_ble_eq_true rfl) ?_
  intro p e s m below meth c ls B hexc hl hw
  have hx := B.1
  have hb := B.2.1
  have hown := B.2.2.2.2.2.1
  have T := B.2.2.2.2.2.2.1
  have hK := B.2.2.2.2.2.2.2.1
  refine lv_aload_n hx hb d_Rd_fail_0 rfl (lv_at hl 0 rfl) ?_
  refine gf_Rd_tree hx hb T hown hK hw rfl (kf_Rd_32 T) d_Rd_fail_1 ?_
  refine lv_iconst (v := 0) hx hb d_Rd_fail_4 (by decide) ?_
  refine pf_Tr_size hx hb T hown hK hw rfl (kf_Rd_110 T) d_Rd_fail_5 (fun H locs hw => ?_)
  refine lv_aload_n hx hb d_Rd_fail_8 rfl (lv_at hl 0 rfl) ?_
  refine gf_Rd_writer hx hb T hown hK hw rfl (kf_Rd_36 T) d_Rd_fail_9 ?_
  refine gf_FW_form hx hb T hown hK hw rfl (kf_Rd_105 T) d_Rd_fail_12 ?_
  refine lv_iconst (v := 0) hx hb d_Rd_fail_15 (by decide) ?_
  refine pf_Row_size hx hb T hown hK hw (i := 5) (by decide) rfl (kf_Rd_71 T) d_Rd_fail_16 (fun H locs hw => ?_)
  refine lv_aload_n hx hb d_Rd_fail_19 rfl (lv_at hl 0 rfl) ?_
  refine lv_iload_n hx hb d_Rd_fail_20 rfl (lv_at hl 1 rfl) ?_
  refine pf_Rd_wrongReason hx hb T hown hK hw rfl (kf_Rd_26 T) d_Rd_fail_21 (fun H locs hw => ?_)
  refine lv_aload_n hx hb d_Rd_fail_24 rfl (lv_at hl 0 rfl) ?_
  refine lv_iload_n hx hb d_Rd_fail_25 rfl (lv_at hl 2 rfl) ?_
  refine pf_Rd_wrongPlace hx hb T hown hK hw rfl (kf_Rd_29 T) d_Rd_fail_26 (fun H locs hw => ?_)
  exact gx_IA B G.2.1 hexc hl.1 hw (kc_Rd_111 T) (km_Rd_115 T) (sx_Rd_113 G.2.1) d_Rd_fail_29 d_Rd_fail_32 d_Rd_fail_33 d_Rd_fail_35 d_Rd_fail_38 (by decide) (by decide) (by decide) (Nat.le_of_ble_eq_true rfl) ⟨rfl, rfl, rfl⟩
set_option maxHeartbeats 4000000 in
set_option maxRecDepth 100000 in
theorem c_Rd_pass {l : Launch} {s0 : State} {D : va_G} {aC : Nat → ClassId} {a0 : Array Value} (G : gG l s0 D aC a0) (M : gMem) (r : gRef) (ow : Int64) (n : Nat) (hn : n ≤ 240) (hs : M 0 2 = nI n) (hc : ∀ j, cOK (M 12 j)) (x : Int32) : gMet l s0 D aC y_Rd_pass (Cond.code y_Rd_pass b_Rd_pass 2 none) 7 115 1 6 [.ref (s0.heap.size + 380), .int x] M r ow (fun v M1 r1 => cNx M 0 = x ∧ v = none ∧ M1 = mS M 35 0 (M 35 0 + 1) ∧ r1 = r) (fun ek M1 r1 => cNx M 0 ≠ x ∧ ek = 0 ∧ M1 = mFail M 1 (M 35 0) ∧ r1 = r) := by
  refine gm_of G (by decide) (Nat.le_of_ble_eq_true rfl) ?_
  intro p e s m below meth c ls B hexc hl hw
  have hx := B.1
  have hb := B.2.1
  have hown := B.2.2.2.2.2.1
  have T := B.2.2.2.2.2.2.1
  have hK := B.2.2.2.2.2.2.2.1
  refine lv_aload_n hx hb d_Rd_pass_0 rfl (lv_at hl 0 rfl) ?_
  refine lv_iconst (v := 0) hx hb d_Rd_pass_1 (by decide) ?_
  refine gy_V (As := [.int 0]) B hl.1 hw (c_Rd_next G M r ow n hn hs hc 0) (kd_Rd_next T) (ki_Rd T) (km_Rd_76 T) (ka_Rd_next T) (ks_Rd_next T) ⟨by decide, by decide, by rfl⟩ (rv_Rd hK hw rfl) rfl (Nat.le_of_ble_eq_true rfl) ⟨by decide, by decide⟩ ⟨by decide, by decide⟩ d_Rd_pass_2 (fun v M1 r1 H locs hw hp => ?_) (fun x ek M1 r1 H locs hw hE hp => hp.elim)
  obtain ⟨rfl, hM1, hr1⟩ := hp
  rw [hM1, hr1] at hw
  clear hM1 hr1
  refine lv_iload_n hx hb d_Rd_pass_5 rfl (lv_at hl 1 rfl) ?_
  refine lv_icmp_eq hx hb d_Rd_pass_6 rfl (fun h6 => ?_) (fun h6 => ?_)
  · skip
    refine lv_aload_n hx hb d_Rd_pass_18 rfl (lv_at hl 0 rfl) ?_
    refine lv_dup hx hb d_Rd_pass_19 rfl ?_
    refine gf_Rd_at hx hb T hown hK hw rfl (kf_Rd_18 T) d_Rd_pass_20 ?_
    refine lv_iconst (v := 1) hx hb d_Rd_pass_23 (by decide) ?_
    refine lv_iadd hx hb d_Rd_pass_24 ?_
    refine pf_Rd_at hx hb T hown hK hw rfl (kf_Rd_18 T) d_Rd_pass_25 (fun H locs hw => ?_)
    exact gr_v B hw d_Rd_pass_28 ⟨h6, rfl, rfl, rfl⟩
  · skip
    refine lv_aload_n hx hb d_Rd_pass_9 rfl (lv_at hl 0 rfl) ?_
    refine lv_iconst (v := 1) hx hb d_Rd_pass_10 (by decide) ?_
    refine lv_aload_n hx hb d_Rd_pass_11 rfl (lv_at hl 0 rfl) ?_
    refine gf_Rd_at hx hb T hown hK hw rfl (kf_Rd_18 T) d_Rd_pass_12 ?_
    refine gy_V (As := [.int 1, .int (M 35 0)]) B hl.1 hw (c_Rd_fail G M r ow 1 (M 35 0)) (kd_Rd_fail T) (ki_Rd T) (km_Rd_100 T) (ka_Rd_fail T) (ks_Rd_fail T) ⟨by decide, by decide, by rfl⟩ (rv_Rd hK hw rfl) rfl (Nat.le_of_ble_eq_true rfl) ⟨by decide, by decide⟩ ⟨by decide, by decide⟩ d_Rd_pass_15 (fun v M1 r1 H locs hw hp => ?_) (fun x ek M1 r1 H locs hw hE hp => gr_t B hexc hw hE (by decide) (by decide) ⟨h6, hp⟩)
    exact hp.elim
set_option maxHeartbeats 4000000 in
set_option maxRecDepth 100000 in
theorem c_Rd_passBlanks {l : Launch} {s0 : State} {D : va_G} {aC : Nat → ClassId} {a0 : Array Value} (G : gG l s0 D aC a0) (M : gMem) (r : gRef) (ow : Int64) (n : Nat) (hn : n ≤ 240) (hs : M 0 2 = nI n) (hc : ∀ j, cOK (M 12 j)) (a : Nat) (ha : M 35 0 = nI a) (han : a ≤ n) : gMet l s0 D aC y_Rd_passBlanks (Cond.code y_Rd_passBlanks b_Rd_passBlanks 2 (some .boolean)) 1 40 0 0 [.ref (s0.heap.size + 380)] M r ow (fun v M1 r1 => v = some (.int (if sk (M 12) (n - a) a = a then 0 else 1)) ∧ M1 = mS M 35 0 (nI (sk (M 12) (n - a) a)) ∧ r1 = r) (fun _ _ _ => False) := by
  refine gm_of G (by decide) (Nat.le_of_ble_eq_true rfl) ?_
  intro p e s m below meth c ls B hexc hl hw
  have hx := B.1
  have hb := B.2.1
  have hown := B.2.2.2.2.2.1
  have T := B.2.2.2.2.2.2.1
  have hK := B.2.2.2.2.2.2.2.1
  have key : ∀ (d b : Nat), b + d = n → a ≤ b → sk (M 12) (n - a) a = sk (M 12) d b → ∀ (H : Heap) (locs : List Loc) (ls : Array Slot), lv_has ls 2 [(1, .int (nI a)), (0, .ref (s0.heap.size + 380))] → gWd s0 D aC (mS M 35 0 (nI b)) r ow H locs → W p l e (gRm 1 40 0 0) s m ([.ref (s0.heap.size + 380)] : List Value).toArray below meth c H locs 0 0 (gt_Q below (gQ s0 D aC ow (fun v M1 r1 => v = some (.int (if sk (M 12) (n - a) a = a then 0 else 1)) ∧ M1 = mS M 35 0 (nI (sk (M 12) (n - a) a)) ∧ r1 = r) (fun _ _ _ => False)) s 0 0 0 0 (fun q => s0.heap.size ≤ q)) (F0 m 5 ls []) := by
    intro d
    induction d with
    | zero =>
      intro b hd hab hsk H locs ls hl hw
      have hsz : mS M 35 0 (nI b) 0 2 = nI n := by rw [mS_tag M (t := 35) (t2 := 0) _ _ _ (by decide)]; exact hs
      have hat : mS M 35 0 (nI b) 35 0 = nI b := mS_same _ _ _ _
      have hR : sk (M 12) (n - a) a = b := hsk
      refine lv_aload_n hx hb d_Rd_passBlanks_5 rfl (lv_at hl 1 rfl) ?_
      refine gf_Rd_at hx hb T hown hK hw rfl (kf_Rd_18 T) d_Rd_passBlanks_6 ?_
      refine lv_aload_n hx hb d_Rd_passBlanks_9 rfl (lv_at hl 1 rfl) ?_
      refine gf_Rd_text hx hb T hown hK hw rfl (kf_Rd_55 T) d_Rd_passBlanks_10 ?_
      refine gf_Row_size hx hb T hown hK hw (i := 2) (by decide) rfl (kf_Rd_71 T) d_Rd_passBlanks_13 ?_
      refine lv_icmp_ge hx hb d_Rd_passBlanks_16 rfl (fun h16 => ?_) (fun h16 => absurd (by rw [hsz, hat]; exact nI_le (by omega) (by omega)) h16)
      refine lv_aload_n hx hb d_Rd_passBlanks_43 rfl (lv_at hl 1 rfl) ?_
      refine gf_Rd_at hx hb T hown hK hw rfl (kf_Rd_18 T) d_Rd_passBlanks_44 ?_
      refine lv_iload_n hx hb d_Rd_passBlanks_47 rfl (lv_at hl 0 rfl) ?_
      refine lv_icmp_le hx hb d_Rd_passBlanks_48 rfl (fun h48 => ?_) (fun h48 => ?_)
      · skip
        have hq : sk (M 12) (n - a) a = a := by
          have := (sk_ge (M 12) (n - a) a).1
          have h9 : b ≤ a := (nI_leI (by omega) (by omega)).mp (by rw [mS_same] at h48; exact h48)
          omega
        refine lv_iconst (v := 0) hx hb d_Rd_passBlanks_55 (by decide) ?_
        exact gr_z B hw (by rfl) d_Rd_passBlanks_56 ⟨by first | rw [if_pos hq] | rw [if_neg hq], by rw [hR], rfl⟩
      · skip
        have hq : ¬ sk (M 12) (n - a) a = a := fun q => h48 (by rw [mS_same]; exact nI_le (by omega) (by omega))
        refine lv_iconst (v := 1) hx hb d_Rd_passBlanks_51 (by decide) ?_
        refine lv_goto hx hb d_Rd_passBlanks_52 rfl ?_
        exact gr_z B hw (by rfl) d_Rd_passBlanks_56 ⟨by first | rw [if_pos hq] | rw [if_neg hq], by rw [hR], rfl⟩
    | succ d ih =>
      intro b hd hab hsk H locs ls hl hw
      have hsz : mS M 35 0 (nI b) 0 2 = nI n := by rw [mS_tag M (t := 35) (t2 := 0) _ _ _ (by decide)]; exact hs
      have hat : mS M 35 0 (nI b) 35 0 = nI b := mS_same _ _ _ _
      refine lv_aload_n hx hb d_Rd_passBlanks_5 rfl (lv_at hl 1 rfl) ?_
      refine gf_Rd_at hx hb T hown hK hw rfl (kf_Rd_18 T) d_Rd_passBlanks_6 ?_
      refine lv_aload_n hx hb d_Rd_passBlanks_9 rfl (lv_at hl 1 rfl) ?_
      refine gf_Rd_text hx hb T hown hK hw rfl (kf_Rd_55 T) d_Rd_passBlanks_10 ?_
      refine gf_Row_size hx hb T hown hK hw (i := 2) (by decide) rfl (kf_Rd_71 T) d_Rd_passBlanks_13 ?_
      refine lv_icmp_ge hx hb d_Rd_passBlanks_16 rfl (fun h16 => absurd h16 (by rw [hsz, hat]; exact nI_ge (by omega) (by omega))) (fun h16 => ?_)
      refine lv_aload_n hx hb d_Rd_passBlanks_19 rfl (lv_at hl 1 rfl) ?_
      refine lv_iconst (v := 0) hx hb d_Rd_passBlanks_20 (by decide) ?_
      refine gy_V (As := [.int 0]) B hl.1 hw (c_Rd_next G (mS M 35 0 (nI b)) r ow n hn hsz (fun j => by rw [mS_tag M (t := 35) (t2 := 12) _ _ _ (by decide)]; exact hc j) 0) (kd_Rd_next T) (ki_Rd T) (km_Rd_76 T) (ka_Rd_next T) (ks_Rd_next T) ⟨by decide, by decide, by rfl⟩ (rv_Rd hK hw rfl) rfl (Nat.le_of_ble_eq_true rfl) ⟨by decide, by decide⟩ ⟨by decide, by decide⟩ d_Rd_passBlanks_21 (fun v M1 r1 H locs hw hp => ?_) (fun x ek M1 r1 H locs hw hE hp => hp.elim)
      obtain ⟨rfl, hM1, hr1⟩ := hp
      rw [hM1, hr1] at hw
      clear hM1 hr1
      have hch : cNx (mS M 35 0 (nI b)) 0 = M 12 b := by
        unfold cNx cAt
        rw [hat, show nI b + 0 = nI b from by rw [← nI_0, nI_add]; rfl, if_neg (nI_pos (by omega)), hsz, if_neg (nI_ge (by omega) (by omega)), nI_clamp (by omega), mS_tag M (t := 35) (t2 := 12) _ _ _ (by decide)]
      rw [hch]
      refine gy_SN (As := [.int (M 12 b)]) B hl.1 hw (c_MR_isBlank G (mS M 35 0 (nI b)) r ow (M 12 b)) (kd_MR_isBlank T) (ki_MR T) (km_Rd_135 T) (kt_MR_isBlank T) ⟨by decide, by decide, by rfl⟩ rfl (Nat.le_of_ble_eq_true rfl) ⟨by decide, by decide⟩ ⟨by decide, by decide⟩ d_Rd_passBlanks_24 (fun v M1 r1 H locs hw hp => ?_) (fun x ek M1 r1 H locs hw hE hp => hp.elim)
      obtain ⟨rfl, hM1, hr1⟩ := hp
      rw [hM1, hr1] at hw
      clear hM1 hr1
      refine lv_if_eq hx hb d_Rd_passBlanks_27 rfl (fun h27 => ?_) (fun h27 => ?_)
      · skip
        have hR : sk (M 12) (n - a) a = b := by rw [hsk]; exact sk_stop h27
        refine lv_aload_n hx hb d_Rd_passBlanks_43 rfl (lv_at hl 1 rfl) ?_
        refine gf_Rd_at hx hb T hown hK hw rfl (kf_Rd_18 T) d_Rd_passBlanks_44 ?_
        refine lv_iload_n hx hb d_Rd_passBlanks_47 rfl (lv_at hl 0 rfl) ?_
        refine lv_icmp_le hx hb d_Rd_passBlanks_48 rfl (fun h48 => ?_) (fun h48 => ?_)
        · skip
          have hq : sk (M 12) (n - a) a = a := by
            have := (sk_ge (M 12) (n - a) a).1
            have h9 : b ≤ a := (nI_leI (by omega) (by omega)).mp (by rw [mS_same] at h48; exact h48)
            omega
          refine lv_iconst (v := 0) hx hb d_Rd_passBlanks_55 (by decide) ?_
          exact gr_z B hw (by rfl) d_Rd_passBlanks_56 ⟨by first | rw [if_pos hq] | rw [if_neg hq], by rw [hR], rfl⟩
        · skip
          have hq : ¬ sk (M 12) (n - a) a = a := fun q => h48 (by rw [mS_same]; exact nI_le (by omega) (by omega))
          refine lv_iconst (v := 1) hx hb d_Rd_passBlanks_51 (by decide) ?_
          refine lv_goto hx hb d_Rd_passBlanks_52 rfl ?_
          exact gr_z B hw (by rfl) d_Rd_passBlanks_56 ⟨by first | rw [if_pos hq] | rw [if_neg hq], by rw [hR], rfl⟩
      · skip
        have hsk2 : sk (M 12) (n - a) a = sk (M 12) d (b + 1) := by rw [hsk]; exact sk_step h27
        refine lv_aload_n hx hb d_Rd_passBlanks_30 rfl (lv_at hl 1 rfl) ?_
        refine lv_dup hx hb d_Rd_passBlanks_31 rfl ?_
        refine gf_Rd_at hx hb T hown hK hw rfl (kf_Rd_18 T) d_Rd_passBlanks_32 ?_
        refine lv_iconst (v := 1) hx hb d_Rd_passBlanks_35 (by decide) ?_
        refine lv_iadd hx hb d_Rd_passBlanks_36 ?_
        refine pf_Rd_at hx hb T hown hK hw rfl (kf_Rd_18 T) d_Rd_passBlanks_37 (fun H locs hw => ?_)
        refine lv_goto hx hb d_Rd_passBlanks_40 rfl ?_
        rw [hat, nI_1, mS_mS] at hw
        exact ih (b + 1) (by omega) (by omega) hsk2 _ _ _ hl hw
  refine lv_aload_n hx hb d_Rd_passBlanks_0 rfl (lv_at hl 0 rfl) ?_
  refine gf_Rd_at hx hb T hown hK hw rfl (kf_Rd_18 T) d_Rd_passBlanks_1 ?_
  refine lv_istore_n hx hb d_Rd_passBlanks_4 rfl hl (by decide) rfl (fun ls hl => ?_)
  rw [ha] at hl
  rw [show M = mS M 35 0 (nI a) from by rw [← ha, mS_self]] at hw
  exact key (n - a) a (by omega) (Nat.le_refl _) rfl _ _ _ hl hw
