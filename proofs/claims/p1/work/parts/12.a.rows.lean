/-! characters, rows of characters -/
def cIs (x : Int32) : Int32 := if x = 10 then 1 else if x < 32 then 0 else if 126 < x then 0 else 1
def cAt (M : gMem) (i : Nat) (x : Int32) : Int32 := if x < 0 then 0 else if M 0 i ≤ x then 0 else M (10 + i) x.toNatClampNeg
def mPut (M : gMem) (i n : Nat) (x : Int32) : gMem := if n < nRow i then mS (mS M (10 + i) n x) 0 i (nI (n + 1)) else M
theorem d_MR_isCharacter_0 : decode b_MR_isCharacter 0 = .ok (.iload_n 0, 1) := by decide +kernel
theorem d_MR_isCharacter_1 : decode b_MR_isCharacter 1 = .ok (.bipush 10, 2) := by decide +kernel
theorem d_MR_isCharacter_3 : decode b_MR_isCharacter 3 = .ok (.if_icmp .eq 15, 3) := by decide +kernel
theorem d_MR_isCharacter_6 : decode b_MR_isCharacter 6 = .ok (.iload_n 0, 1) := by decide +kernel
theorem d_MR_isCharacter_7 : decode b_MR_isCharacter 7 = .ok (.bipush 32, 2) := by decide +kernel
theorem d_MR_isCharacter_9 : decode b_MR_isCharacter 9 = .ok (.if_icmp .lt 13, 3) := by decide +kernel
theorem d_MR_isCharacter_12 : decode b_MR_isCharacter 12 = .ok (.iload_n 0, 1) := by decide +kernel
theorem d_MR_isCharacter_13 : decode b_MR_isCharacter 13 = .ok (.bipush 126, 2) := by decide +kernel
theorem d_MR_isCharacter_15 : decode b_MR_isCharacter 15 = .ok (.if_icmp .gt 7, 3) := by decide +kernel
theorem d_MR_isCharacter_18 : decode b_MR_isCharacter 18 = .ok (.iconst 1, 1) := by decide +kernel
theorem d_MR_isCharacter_19 : decode b_MR_isCharacter 19 = .ok (.goto 4, 3) := by decide +kernel
theorem d_MR_isCharacter_22 : decode b_MR_isCharacter 22 = .ok (.iconst 0, 1) := by decide +kernel
theorem d_MR_isCharacter_23 : decode b_MR_isCharacter 23 = .ok (.ireturn, 1) := by decide +kernel
theorem d_Row_at_0 : decode b_Row_at 0 = .ok (.iload_n 1, 1) := by decide +kernel
theorem d_Row_at_1 : decode b_Row_at 1 = .ok (.ifCond .lt 20, 3) := by decide +kernel
theorem d_Row_at_4 : decode b_Row_at 4 = .ok (.iload_n 1, 1) := by decide +kernel
theorem d_Row_at_5 : decode b_Row_at 5 = .ok (.aload_n 0, 1) := by decide +kernel
theorem d_Row_at_6 : decode b_Row_at 6 = .ok (.getfield 9, 3) := by decide +kernel
theorem d_Row_at_9 : decode b_Row_at 9 = .ok (.if_icmp .ge 12, 3) := by decide +kernel
theorem d_Row_at_12 : decode b_Row_at 12 = .ok (.aload_n 0, 1) := by decide +kernel
theorem d_Row_at_13 : decode b_Row_at 13 = .ok (.getfield 15, 3) := by decide +kernel
theorem d_Row_at_16 : decode b_Row_at 16 = .ok (.iload_n 1, 1) := by decide +kernel
theorem d_Row_at_17 : decode b_Row_at 17 = .ok (.caload, 1) := by decide +kernel
theorem d_Row_at_18 : decode b_Row_at 18 = .ok (.goto 4, 3) := by decide +kernel
theorem d_Row_at_21 : decode b_Row_at 21 = .ok (.iconst 0, 1) := by decide +kernel
theorem d_Row_at_22 : decode b_Row_at 22 = .ok (.ireturn, 1) := by decide +kernel
theorem d_Row_put_0 : decode b_Row_put 0 = .ok (.aload_n 0, 1) := by decide +kernel
theorem d_Row_put_1 : decode b_Row_put 1 = .ok (.getfield 9, 3) := by decide +kernel
theorem d_Row_put_4 : decode b_Row_put 4 = .ok (.aload_n 0, 1) := by decide +kernel
theorem d_Row_put_5 : decode b_Row_put 5 = .ok (.getfield 15, 3) := by decide +kernel
theorem d_Row_put_8 : decode b_Row_put 8 = .ok (.arraylength, 1) := by decide +kernel
theorem d_Row_put_9 : decode b_Row_put 9 = .ok (.if_icmp .ge 23, 3) := by decide +kernel
theorem d_Row_put_12 : decode b_Row_put 12 = .ok (.aload_n 0, 1) := by decide +kernel
theorem d_Row_put_13 : decode b_Row_put 13 = .ok (.getfield 15, 3) := by decide +kernel
theorem d_Row_put_16 : decode b_Row_put 16 = .ok (.aload_n 0, 1) := by decide +kernel
theorem d_Row_put_17 : decode b_Row_put 17 = .ok (.getfield 9, 3) := by decide +kernel
theorem d_Row_put_20 : decode b_Row_put 20 = .ok (.iload_n 1, 1) := by decide +kernel
theorem d_Row_put_21 : decode b_Row_put 21 = .ok (.castore, 1) := by decide +kernel
theorem d_Row_put_22 : decode b_Row_put 22 = .ok (.aload_n 0, 1) := by decide +kernel
theorem d_Row_put_23 : decode b_Row_put 23 = .ok (.dup, 1) := by decide +kernel
theorem d_Row_put_24 : decode b_Row_put 24 = .ok (.getfield 9, 3) := by decide +kernel
theorem d_Row_put_27 : decode b_Row_put 27 = .ok (.iconst 1, 1) := by decide +kernel
theorem d_Row_put_28 : decode b_Row_put 28 = .ok (.iadd, 1) := by decide +kernel
theorem d_Row_put_29 : decode b_Row_put 29 = .ok (.putfield 9, 3) := by decide +kernel
theorem d_Row_put_32 : decode b_Row_put 32 = .ok (.return_, 1) := by decide +kernel
set_option maxHeartbeats 4000000 in
set_option maxRecDepth 100000 in
theorem c_MR_isCharacter {l : Launch} {s0 : State} {D : va_G} {aC : Nat → ClassId} {a0 : Array Value} (G : gG l s0 D aC a0) (M : gMem) (r : gRef) (ow : Int64) (x : Int32) : gMet l s0 D aC y_MR_isCharacter (Cond.code y_MR_isCharacter b_MR_isCharacter 1 (some .boolean)) 0 0 0 0 [.int x] M r ow (fun v M1 r1 => v = some (.int (cIs x)) ∧ M1 = M ∧ r1 = r) (fun _ _ _ => False) := by
  refine gm_of G (by decide) (Nat.le_of_ble_eq_true rfl) ?_
  intro p e s m below meth c ls B hexc hl hw
  have hx := B.1
  have hb := B.2.1
  have hown := B.2.2.2.2.2.1
  have T := B.2.2.2.2.2.2.1
  have hK := B.2.2.2.2.2.2.2.1
  refine lv_iload_n hx hb d_MR_isCharacter_0 rfl (lv_at hl 0 rfl) ?_
  refine lv_bipush (v := 10) hx hb d_MR_isCharacter_1 (by decide) ?_
  refine lv_icmp_eq hx hb d_MR_isCharacter_3 rfl (fun h3 => ?_) (fun h3 => ?_)
  · skip
    refine lv_iconst (v := 1) hx hb d_MR_isCharacter_18 (by decide) ?_
    refine lv_goto hx hb d_MR_isCharacter_19 rfl ?_
    exact gr_z B hw (by rfl) d_MR_isCharacter_23 ⟨(by (try unfold cIs); (repeat' split) <;> first | rfl | contradiction | (simp_all; done)), rfl, rfl⟩
  · skip
    refine lv_iload_n hx hb d_MR_isCharacter_6 rfl (lv_at hl 0 rfl) ?_
    refine lv_bipush (v := 32) hx hb d_MR_isCharacter_7 (by decide) ?_
    refine lv_icmp_lt hx hb d_MR_isCharacter_9 rfl (fun h9 => ?_) (fun h9 => ?_)
    · skip
      refine lv_iconst (v := 0) hx hb d_MR_isCharacter_22 (by decide) ?_
      exact gr_z B hw (by rfl) d_MR_isCharacter_23 ⟨(by (try unfold cIs); (repeat' split) <;> first | rfl | contradiction | (simp_all; done)), rfl, rfl⟩
    · skip
      refine lv_iload_n hx hb d_MR_isCharacter_12 rfl (lv_at hl 0 rfl) ?_
      refine lv_bipush (v := 126) hx hb d_MR_isCharacter_13 (by decide) ?_
      refine lv_icmp_gt hx hb d_MR_isCharacter_15 rfl (fun h15 => ?_) (fun h15 => ?_)
      · skip
        refine lv_iconst (v := 0) hx hb d_MR_isCharacter_22 (by decide) ?_
        exact gr_z B hw (by rfl) d_MR_isCharacter_23 ⟨(by (try unfold cIs); (repeat' split) <;> first | rfl | contradiction | (simp_all; done)), rfl, rfl⟩
      · skip
        refine lv_iconst (v := 1) hx hb d_MR_isCharacter_18 (by decide) ?_
        refine lv_goto hx hb d_MR_isCharacter_19 rfl ?_
        exact gr_z B hw (by rfl) d_MR_isCharacter_23 ⟨(by (try unfold cIs); (repeat' split) <;> first | rfl | contradiction | (simp_all; done)), rfl, rfl⟩
set_option maxHeartbeats 4000000 in
set_option maxRecDepth 100000 in
theorem c_Row_at {l : Launch} {s0 : State} {D : va_G} {aC : Nat → ClassId} {a0 : Array Value} (G : gG l s0 D aC a0) (M : gMem) (r : gRef) (ow : Int64) (i : Nat) (hi : i < 6) (n : Nat) (hn : n ≤ nRow i) (hs : M 0 i = nI n) (hc : ∀ j, cOK (M (10 + i) j)) (x : Int32) : gMet l s0 D aC y_Row_at (Cond.code y_Row_at b_Row_at 2 (some .char)) 0 0 0 0 [.ref (s0.heap.size + oRow i), .int x] M r ow (fun v M1 r1 => v = some (.int (cAt M i x)) ∧ M1 = M ∧ r1 = r) (fun _ _ _ => False) := by
  refine gm_of G (by decide) (Nat.le_of_ble_eq_true rfl) ?_
  intro p e s m below meth c ls B hexc hl hw
  have hx := B.1
  have hb := B.2.1
  have hown := B.2.2.2.2.2.1
  have T := B.2.2.2.2.2.2.1
  have hK := B.2.2.2.2.2.2.2.1
  refine lv_iload_n hx hb d_Row_at_0 rfl (lv_at hl 1 rfl) ?_
  refine lv_if_lt hx hb d_Row_at_1 rfl (fun h1 => ?_) (fun h1 => ?_)
  · skip
    refine lv_iconst (v := 0) hx hb d_Row_at_21 (by decide) ?_
    exact gr_z B hw (by first | rfl | exact (hc _).nar) d_Row_at_22 ⟨(by (try unfold cAt); (repeat' split) <;> first | rfl | contradiction | (simp_all; done)), rfl, rfl⟩
  · skip
    refine lv_iload_n hx hb d_Row_at_4 rfl (lv_at hl 1 rfl) ?_
    refine lv_aload_n hx hb d_Row_at_5 rfl (lv_at hl 0 rfl) ?_
    refine gf_Row_size hx hb T hown hK hw (by assumption) rfl (kf_Row_9 T) d_Row_at_6 ?_
    refine lv_icmp_ge hx hb d_Row_at_9 rfl (fun h9 => ?_) (fun h9 => ?_)
    · skip
      refine lv_iconst (v := 0) hx hb d_Row_at_21 (by decide) ?_
      exact gr_z B hw (by first | rfl | exact (hc _).nar) d_Row_at_22 ⟨(by (try unfold cAt); (repeat' split) <;> first | rfl | contradiction | (simp_all; done)), rfl, rfl⟩
    · skip
      refine lv_aload_n hx hb d_Row_at_12 rfl (lv_at hl 0 rfl) ?_
      refine gf_Row_chars hx hb T hown hK hw (by assumption) rfl (kf_Row_15 T) d_Row_at_13 ?_
      refine lv_iload_n hx hb d_Row_at_16 rfl (lv_at hl 1 rfl) ?_
      refine ga_ch hx hb hK hw hi rfl (gi_in h1 (by rw [← hs]; exact h9) hn (nRow_lt i hi)) d_Row_at_17 ?_
      refine lv_goto hx hb d_Row_at_18 rfl ?_
      exact gr_z B hw (by first | rfl | exact (hc _).nar) d_Row_at_22 ⟨(by (try unfold cAt); (repeat' split) <;> first | rfl | contradiction | (simp_all; done)), rfl, rfl⟩
set_option maxHeartbeats 4000000 in
set_option maxRecDepth 100000 in
theorem c_Row_put {l : Launch} {s0 : State} {D : va_G} {aC : Nat → ClassId} {a0 : Array Value} (G : gG l s0 D aC a0) (M : gMem) (r : gRef) (ow : Int64) (i : Nat) (hi : i < 6) (n : Nat) (hn : n ≤ nRow i) (hs : M 0 i = nI n) (x : Int32) (hc : cOK x) : gMet l s0 D aC y_Row_put (Cond.code y_Row_put b_Row_put 2 none) 0 0 0 0 [.ref (s0.heap.size + oRow i), .int x] M r ow (fun v M1 r1 => v = none ∧ M1 = mPut M i n x ∧ r1 = r) (fun _ _ _ => False) := by
  refine gm_of G (by decide) (Nat.le_of_ble_eq_true rfl) ?_
  intro p e s m below meth c ls B hexc hl hw
  have hx := B.1
  have hb := B.2.1
  have hown := B.2.2.2.2.2.1
  have T := B.2.2.2.2.2.2.1
  have hK := B.2.2.2.2.2.2.2.1
  rcases Nat.lt_or_ge n (nRow i) with hlt | hge
  · skip
    refine lv_aload_n hx hb d_Row_put_0 rfl (lv_at hl 0 rfl) ?_
    refine gf_Row_size hx hb T hown hK hw (by assumption) rfl (kf_Row_9 T) d_Row_put_1 ?_
    refine lv_aload_n hx hb d_Row_put_4 rfl (lv_at hl 0 rfl) ?_
    refine gf_Row_chars hx hb T hown hK hw (by assumption) rfl (kf_Row_15 T) d_Row_put_5 ?_
    refine gn_ch hx hb hK hw hi rfl d_Row_put_8 ?_
    refine lv_icmp_ge hx hb d_Row_put_9 rfl (fun h9 => absurd h9 (by rw [hs]; exact nI_ge hlt (nRow_lt i hi))) (fun h9 => ?_)
    refine lv_aload_n hx hb d_Row_put_12 rfl (lv_at hl 0 rfl) ?_
    refine gf_Row_chars hx hb T hown hK hw (by assumption) rfl (kf_Row_15 T) d_Row_put_13 ?_
    refine lv_aload_n hx hb d_Row_put_16 rfl (lv_at hl 0 rfl) ?_
    refine gf_Row_size hx hb T hown hK hw (by assumption) rfl (kf_Row_9 T) d_Row_put_17 ?_
    refine lv_iload_n hx hb d_Row_put_20 rfl (lv_at hl 1 rfl) ?_
    refine gs_ch (x := M 0 i) hx hb hK hw hi rfl (by rw [hs]; exact gi_in0 hlt (nRow_lt i hi)) d_Row_put_21 (fun H locs hw => ?_)
    rw [hs, nI_clamp (by have := nRow_lt i hi; omega), hc.vp] at hw
    refine lv_aload_n hx hb d_Row_put_22 rfl (lv_at hl 0 rfl) ?_
    refine lv_dup hx hb d_Row_put_23 rfl ?_
    refine gf_Row_size hx hb T hown hK hw (by assumption) rfl (kf_Row_9 T) d_Row_put_24 ?_
    refine lv_iconst (v := 1) hx hb d_Row_put_27 (by decide) ?_
    refine lv_iadd hx hb d_Row_put_28 ?_
    refine pf_Row_size hx hb T hown hK hw (by assumption) rfl (kf_Row_9 T) d_Row_put_29 (fun H locs hw => ?_)
    rw [mS_tag M (t := 10 + i) (t2 := 0) _ _ _ (by omega), hs, nI_1] at hw
    exact gr_v B hw d_Row_put_32 ⟨rfl, (if_pos hlt).symm, rfl⟩
  · skip
    refine lv_aload_n hx hb d_Row_put_0 rfl (lv_at hl 0 rfl) ?_
    refine gf_Row_size hx hb T hown hK hw (by assumption) rfl (kf_Row_9 T) d_Row_put_1 ?_
    refine lv_aload_n hx hb d_Row_put_4 rfl (lv_at hl 0 rfl) ?_
    refine gf_Row_chars hx hb T hown hK hw (by assumption) rfl (kf_Row_15 T) d_Row_put_5 ?_
    refine gn_ch hx hb hK hw hi rfl d_Row_put_8 ?_
    refine lv_icmp_ge hx hb d_Row_put_9 rfl (fun h9 => ?_) (fun h9 => absurd (by rw [hs]; exact nI_le hge (by have := nRow_lt i hi; omega)) h9)
    exact gr_v B hw d_Row_put_32 ⟨rfl, (if_neg (Nat.not_lt.mpr hge)).symm, rfl⟩
