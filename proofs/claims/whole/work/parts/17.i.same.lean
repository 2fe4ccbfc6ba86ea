/-! Names, their local parts, values compared -/
theorem d_Tr_sameName_0 : decode b_Tr_sameName 0 = .ok (.aload_n 0, 1) := by decide +kernel
theorem d_Tr_sameName_1 : decode b_Tr_sameName 1 = .ok (.getfield 14, 3) := by decide +kernel
theorem d_Tr_sameName_4 : decode b_Tr_sameName 4 = .ok (.aload_n 1, 1) := by decide +kernel
theorem d_Tr_sameName_5 : decode b_Tr_sameName 5 = .ok (.getfield 83, 3) := by decide +kernel
theorem d_Tr_sameName_8 : decode b_Tr_sameName 8 = .ok (.aload_n 1, 1) := by decide +kernel
theorem d_Tr_sameName_9 : decode b_Tr_sameName 9 = .ok (.getfield 80, 3) := by decide +kernel
theorem d_Tr_sameName_12 : decode b_Tr_sameName 12 = .ok (.aload_n 2, 1) := by decide +kernel
theorem d_Tr_sameName_13 : decode b_Tr_sameName 13 = .ok (.getfield 83, 3) := by decide +kernel
theorem d_Tr_sameName_16 : decode b_Tr_sameName 16 = .ok (.aload_n 2, 1) := by decide +kernel
theorem d_Tr_sameName_17 : decode b_Tr_sameName 17 = .ok (.getfield 80, 3) := by decide +kernel
theorem d_Tr_sameName_20 : decode b_Tr_sameName 20 = .ok (.invokevirtual 110, 3) := by decide +kernel
theorem d_Tr_sameName_23 : decode b_Tr_sameName 23 = .ok (.ifCond .ne 7, 3) := by decide +kernel
theorem d_Tr_sameName_26 : decode b_Tr_sameName 26 = .ok (.iconst 1, 1) := by decide +kernel
theorem d_Tr_sameName_27 : decode b_Tr_sameName 27 = .ok (.goto 4, 3) := by decide +kernel
theorem d_Tr_sameName_30 : decode b_Tr_sameName 30 = .ok (.iconst 0, 1) := by decide +kernel
theorem d_Tr_sameName_31 : decode b_Tr_sameName 31 = .ok (.ireturn, 1) := by decide +kernel
theorem d_Tr_sameLocal_0 : decode b_Tr_sameLocal 0 = .ok (.aload_n 0, 1) := by decide +kernel
theorem d_Tr_sameLocal_1 : decode b_Tr_sameLocal 1 = .ok (.getfield 14, 3) := by decide +kernel
theorem d_Tr_sameLocal_4 : decode b_Tr_sameLocal 4 = .ok (.aload_n 1, 1) := by decide +kernel
theorem d_Tr_sameLocal_5 : decode b_Tr_sameLocal 5 = .ok (.getfield 118, 3) := by decide +kernel
theorem d_Tr_sameLocal_8 : decode b_Tr_sameLocal 8 = .ok (.aload_n 1, 1) := by decide +kernel
theorem d_Tr_sameLocal_9 : decode b_Tr_sameLocal 9 = .ok (.getfield 80, 3) := by decide +kernel
theorem d_Tr_sameLocal_12 : decode b_Tr_sameLocal 12 = .ok (.aload_n 2, 1) := by decide +kernel
theorem d_Tr_sameLocal_13 : decode b_Tr_sameLocal 13 = .ok (.getfield 118, 3) := by decide +kernel
theorem d_Tr_sameLocal_16 : decode b_Tr_sameLocal 16 = .ok (.aload_n 2, 1) := by decide +kernel
theorem d_Tr_sameLocal_17 : decode b_Tr_sameLocal 17 = .ok (.getfield 80, 3) := by decide +kernel
theorem d_Tr_sameLocal_20 : decode b_Tr_sameLocal 20 = .ok (.invokevirtual 110, 3) := by decide +kernel
theorem d_Tr_sameLocal_23 : decode b_Tr_sameLocal 23 = .ok (.ifCond .ne 7, 3) := by decide +kernel
theorem d_Tr_sameLocal_26 : decode b_Tr_sameLocal 26 = .ok (.iconst 1, 1) := by decide +kernel
theorem d_Tr_sameLocal_27 : decode b_Tr_sameLocal 27 = .ok (.goto 4, 3) := by decide +kernel
theorem d_Tr_sameLocal_30 : decode b_Tr_sameLocal 30 = .ok (.iconst 0, 1) := by decide +kernel
theorem d_Tr_sameLocal_31 : decode b_Tr_sameLocal 31 = .ok (.ireturn, 1) := by decide +kernel
theorem d_Tr_sameValue_0 : decode b_Tr_sameValue 0 = .ok (.aload_n 0, 1) := by decide +kernel
theorem d_Tr_sameValue_1 : decode b_Tr_sameValue 1 = .ok (.getfield 20, 3) := by decide +kernel
theorem d_Tr_sameValue_4 : decode b_Tr_sameValue 4 = .ok (.aload_n 1, 1) := by decide +kernel
theorem d_Tr_sameValue_5 : decode b_Tr_sameValue 5 = .ok (.getfield 121, 3) := by decide +kernel
theorem d_Tr_sameValue_8 : decode b_Tr_sameValue 8 = .ok (.aload_n 1, 1) := by decide +kernel
theorem d_Tr_sameValue_9 : decode b_Tr_sameValue 9 = .ok (.getfield 124, 3) := by decide +kernel
theorem d_Tr_sameValue_12 : decode b_Tr_sameValue 12 = .ok (.aload_n 2, 1) := by decide +kernel
theorem d_Tr_sameValue_13 : decode b_Tr_sameValue 13 = .ok (.getfield 121, 3) := by decide +kernel
theorem d_Tr_sameValue_16 : decode b_Tr_sameValue 16 = .ok (.aload_n 2, 1) := by decide +kernel
theorem d_Tr_sameValue_17 : decode b_Tr_sameValue 17 = .ok (.getfield 124, 3) := by decide +kernel
theorem d_Tr_sameValue_20 : decode b_Tr_sameValue 20 = .ok (.invokevirtual 110, 3) := by decide +kernel
theorem d_Tr_sameValue_23 : decode b_Tr_sameValue 23 = .ok (.ifCond .ne 7, 3) := by decide +kernel
theorem d_Tr_sameValue_26 : decode b_Tr_sameValue 26 = .ok (.iconst 1, 1) := by decide +kernel
theorem d_Tr_sameValue_27 : decode b_Tr_sameValue 27 = .ok (.goto 4, 3) := by decide +kernel
theorem d_Tr_sameValue_30 : decode b_Tr_sameValue 30 = .ok (.iconst 0, 1) := by decide +kernel
theorem d_Tr_sameValue_31 : decode b_Tr_sameValue 31 = .ok (.ireturn, 1) := by decide +kernel
set_option maxHeartbeats 4000000 in
set_option maxRecDepth 100000 in
theorem c_Tr_sameName {l : Launch} {s0 : State} {D : va_G} {aC : Nat → ClassId} {a0 : Array Value} (G : gG l s0 D aC a0) (M : gMem) (r : gRef) (ow : Int64) (j q : Nat) (hj : j < 170) (hq : q < 170) (n : Nat) (hn : n ≤ 240) (hs : M 0 2 = nI n) (hc : ∀ j, cOK (M 12 j)) (a b x y : Nat) (hax : a + x ≤ n) (hby : b + y ≤ n) (e1 : M 20 j = nI a) (e2 : M 22 j = nI (a + x)) (e3 : M 20 q = nI b) (e4 : M 22 q = nI (b + y)) : gMet l s0 D aC y_Tr_sameName (Cond.code y_Tr_sameName b_Tr_sameName 3 (some .boolean)) 2 80 0 0 [.ref (s0.heap.size + 5), .ref (s0.heap.size + oNm j), .ref (s0.heap.size + oNm q)] M r ow (fun v M1 r1 => v = some (.int (if gOrd (M 12) a b (nI x - nI y) (min x y) = 0 then 1 else 0)) ∧ M1 = M ∧ r1 = r) (fun _ _ _ => False) := by
  refine gm_of G (by decide) (Nat.le_of_ble_eq_true rfl) ?_
  intro p e s m below meth c ls B hexc hl hw
  have hx := B.1
  have hb := B.2.1
  have hown := B.2.2.2.2.2.1
  have T := B.2.2.2.2.2.2.1
  have hK := B.2.2.2.2.2.2.2.1
  refine lv_aload_n hx hb d_Tr_sameName_0 rfl (lv_at hl 0 rfl) ?_
  refine gf_Tr_text hx hb T hown hK hw rfl (kf_Tr_14 T) d_Tr_sameName_1 ?_
  refine lv_aload_n hx hb d_Tr_sameName_4 rfl (lv_at hl 1 rfl) ?_
  refine gf_Nm_start hx hb T hown hK hw (i := j) hj rfl (kf_Tr_83 T) d_Tr_sameName_5 ?_
  refine lv_aload_n hx hb d_Tr_sameName_8 rfl (lv_at hl 1 rfl) ?_
  refine gf_Nm_end hx hb T hown hK hw (i := j) hj rfl (kf_Tr_80 T) d_Tr_sameName_9 ?_
  refine lv_aload_n hx hb d_Tr_sameName_12 rfl (lv_at hl 2 rfl) ?_
  refine gf_Nm_start hx hb T hown hK hw (i := q) hq rfl (kf_Tr_83 T) d_Tr_sameName_13 ?_
  refine lv_aload_n hx hb d_Tr_sameName_16 rfl (lv_at hl 2 rfl) ?_
  refine gf_Nm_end hx hb T hown hK hw (i := q) hq rfl (kf_Tr_80 T) d_Tr_sameName_17 ?_
  rw [e1, e2, e3, e4]
  refine gy_V (As := [.int (nI a), .int (nI (a + x)), .int (nI b), .int (nI (b + y))]) B hl.1 hw (c_Row_order G M r ow 2 (by decide) n hn hs hc a b x y hax hby) (kd_Row_order T) (ki_Row T) (km_Tr_110 T) (ka_Row_order T) (ks_Row_order T) ⟨by decide, by decide, by rfl⟩ (rv_Row hK hw (i := 2) (by decide) rfl) rfl (Nat.le_of_ble_eq_true rfl) ⟨by decide, by decide⟩ ⟨by decide, by decide⟩ d_Tr_sameName_20 (fun v M1 r1 H locs hw hp => ?_) (fun x ek M1 r1 H locs hw hE hp => hp.elim)
  obtain ⟨rfl, hM1, hr1⟩ := hp
  rw [hM1, hr1] at hw
  clear hM1 hr1
  refine lv_if_ne hx hb d_Tr_sameName_23 rfl (fun h23 => ?_) (fun h23 => ?_)
  · skip
    refine lv_iconst (v := 0) hx hb d_Tr_sameName_30 (by decide) ?_
    exact gr_z B hw (by rfl) d_Tr_sameName_31 ⟨by first | rw [if_pos h23] | rw [if_neg h23], rfl, rfl⟩
  · skip
    refine lv_iconst (v := 1) hx hb d_Tr_sameName_26 (by decide) ?_
    refine lv_goto hx hb d_Tr_sameName_27 rfl ?_
    exact gr_z B hw (by rfl) d_Tr_sameName_31 ⟨by first | rw [if_pos h23] | rw [if_neg h23], rfl, rfl⟩
set_option maxHeartbeats 4000000 in
set_option maxRecDepth 100000 in
theorem c_Tr_sameLocal {l : Launch} {s0 : State} {D : va_G} {aC : Nat → ClassId} {a0 : Array Value} (G : gG l s0 D aC a0) (M : gMem) (r : gRef) (ow : Int64) (j q : Nat) (hj : j < 170) (hq : q < 170) (n : Nat) (hn : n ≤ 240) (hs : M 0 2 = nI n) (hc : ∀ j, cOK (M 12 j)) (a b x y : Nat) (hax : a + x ≤ n) (hby : b + y ≤ n) (e1 : M 21 j = nI a) (e2 : M 22 j = nI (a + x)) (e3 : M 21 q = nI b) (e4 : M 22 q = nI (b + y)) : gMet l s0 D aC y_Tr_sameLocal (Cond.code y_Tr_sameLocal b_Tr_sameLocal 3 (some .boolean)) 2 80 0 0 [.ref (s0.heap.size + 5), .ref (s0.heap.size + oNm j), .ref (s0.heap.size + oNm q)] M r ow (fun v M1 r1 => v = some (.int (if gOrd (M 12) a b (nI x - nI y) (min x y) = 0 then 1 else 0)) ∧ M1 = M ∧ r1 = r) (fun _ _ _ => False) := by
  refine gm_of G (by decide) (Nat.le_of_ble_eq_true rfl) ?_
  intro p e s m below meth c ls B hexc hl hw
  have hx := B.1
  have hb := B.2.1
  have hown := B.2.2.2.2.2.1
  have T := B.2.2.2.2.2.2.1
  have hK := B.2.2.2.2.2.2.2.1
  refine lv_aload_n hx hb d_Tr_sameLocal_0 rfl (lv_at hl 0 rfl) ?_
  refine gf_Tr_text hx hb T hown hK hw rfl (kf_Tr_14 T) d_Tr_sameLocal_1 ?_
  refine lv_aload_n hx hb d_Tr_sameLocal_4 rfl (lv_at hl 1 rfl) ?_
  refine gf_Nm_local hx hb T hown hK hw (i := j) hj rfl (kf_Tr_118 T) d_Tr_sameLocal_5 ?_
  refine lv_aload_n hx hb d_Tr_sameLocal_8 rfl (lv_at hl 1 rfl) ?_
  refine gf_Nm_end hx hb T hown hK hw (i := j) hj rfl (kf_Tr_80 T) d_Tr_sameLocal_9 ?_
  refine lv_aload_n hx hb d_Tr_sameLocal_12 rfl (lv_at hl 2 rfl) ?_
  refine gf_Nm_local hx hb T hown hK hw (i := q) hq rfl (kf_Tr_118 T) d_Tr_sameLocal_13 ?_
  refine lv_aload_n hx hb d_Tr_sameLocal_16 rfl (lv_at hl 2 rfl) ?_
  refine gf_Nm_end hx hb T hown hK hw (i := q) hq rfl (kf_Tr_80 T) d_Tr_sameLocal_17 ?_
  rw [e1, e2, e3, e4]
  refine gy_V (As := [.int (nI a), .int (nI (a + x)), .int (nI b), .int (nI (b + y))]) B hl.1 hw (c_Row_order G M r ow 2 (by decide) n hn hs hc a b x y hax hby) (kd_Row_order T) (ki_Row T) (km_Tr_110 T) (ka_Row_order T) (ks_Row_order T) ⟨by decide, by decide, by rfl⟩ (rv_Row hK hw (i := 2) (by decide) rfl) rfl (Nat.le_of_ble_eq_true rfl) ⟨by decide, by decide⟩ ⟨by decide, by decide⟩ d_Tr_sameLocal_20 (fun v M1 r1 H locs hw hp => ?_) (fun x ek M1 r1 H locs hw hE hp => hp.elim)
  obtain ⟨rfl, hM1, hr1⟩ := hp
  rw [hM1, hr1] at hw
  clear hM1 hr1
  refine lv_if_ne hx hb d_Tr_sameLocal_23 rfl (fun h23 => ?_) (fun h23 => ?_)
  · skip
    refine lv_iconst (v := 0) hx hb d_Tr_sameLocal_30 (by decide) ?_
    exact gr_z B hw (by rfl) d_Tr_sameLocal_31 ⟨by first | rw [if_pos h23] | rw [if_neg h23], rfl, rfl⟩
  · skip
    refine lv_iconst (v := 1) hx hb d_Tr_sameLocal_26 (by decide) ?_
    refine lv_goto hx hb d_Tr_sameLocal_27 rfl ?_
    exact gr_z B hw (by rfl) d_Tr_sameLocal_31 ⟨by first | rw [if_pos h23] | rw [if_neg h23], rfl, rfl⟩
set_option maxHeartbeats 4000000 in
set_option maxRecDepth 100000 in
theorem c_Tr_sameValue {l : Launch} {s0 : State} {D : va_G} {aC : Nat → ClassId} {a0 : Array Value} (G : gG l s0 D aC a0) (M : gMem) (r : gRef) (ow : Int64) (j q : Nat) (hj : j < 145) (hq : q < 145) (n : Nat) (hn : n ≤ 240) (hs : M 0 3 = nI n) (hc : ∀ j, cOK (M 13 j)) (a b x y : Nat) (hax : a + x ≤ n) (hby : b + y ≤ n) (e1 : M 23 j = nI a) (e2 : M 24 j = nI (a + x)) (e3 : M 23 q = nI b) (e4 : M 24 q = nI (b + y)) : gMet l s0 D aC y_Tr_sameValue (Cond.code y_Tr_sameValue b_Tr_sameValue 3 (some .boolean)) 2 80 0 0 [.ref (s0.heap.size + 5), .ref (s0.heap.size + oAt j), .ref (s0.heap.size + oAt q)] M r ow (fun v M1 r1 => v = some (.int (if gOrd (M 13) a b (nI x - nI y) (min x y) = 0 then 1 else 0)) ∧ M1 = M ∧ r1 = r) (fun _ _ _ => False) := by
  refine gm_of G (by decide) (Nat.le_of_ble_eq_true rfl) ?_
  intro p e s m below meth c ls B hexc hl hw
  have hx := B.1
  have hb := B.2.1
  have hown := B.2.2.2.2.2.1
  have T := B.2.2.2.2.2.2.1
  have hK := B.2.2.2.2.2.2.2.1
  refine lv_aload_n hx hb d_Tr_sameValue_0 rfl (lv_at hl 0 rfl) ?_
  refine gf_Tr_values hx hb T hown hK hw rfl (kf_Tr_20 T) d_Tr_sameValue_1 ?_
  refine lv_aload_n hx hb d_Tr_sameValue_4 rfl (lv_at hl 1 rfl) ?_
  refine gf_At_valueStart hx hb T hown hK hw (i := j) hj rfl (kf_Tr_121 T) d_Tr_sameValue_5 ?_
  refine lv_aload_n hx hb d_Tr_sameValue_8 rfl (lv_at hl 1 rfl) ?_
  refine gf_At_valueEnd hx hb T hown hK hw (i := j) hj rfl (kf_Tr_124 T) d_Tr_sameValue_9 ?_
  refine lv_aload_n hx hb d_Tr_sameValue_12 rfl (lv_at hl 2 rfl) ?_
  refine gf_At_valueStart hx hb T hown hK hw (i := q) hq rfl (kf_Tr_121 T) d_Tr_sameValue_13 ?_
  refine lv_aload_n hx hb d_Tr_sameValue_16 rfl (lv_at hl 2 rfl) ?_
  refine gf_At_valueEnd hx hb T hown hK hw (i := q) hq rfl (kf_Tr_124 T) d_Tr_sameValue_17 ?_
  rw [e1, e2, e3, e4]
  refine gy_V (As := [.int (nI a), .int (nI (a + x)), .int (nI b), .int (nI (b + y))]) B hl.1 hw (c_Row_order G M r ow 3 (by decide) n hn hs hc a b x y hax hby) (kd_Row_order T) (ki_Row T) (km_Tr_110 T) (ka_Row_order T) (ks_Row_order T) ⟨by decide, by decide, by rfl⟩ (rv_Row hK hw (i := 3) (by decide) rfl) rfl (Nat.le_of_ble_eq_true rfl) ⟨by decide, by decide⟩ ⟨by decide, by decide⟩ d_Tr_sameValue_20 (fun v M1 r1 H locs hw hp => ?_) (fun x ek M1 r1 H locs hw hE hp => hp.elim)
  obtain ⟨rfl, hM1, hr1⟩ := hp
  rw [hM1, hr1] at hw
  clear hM1 hr1
  refine lv_if_ne hx hb d_Tr_sameValue_23 rfl (fun h23 => ?_) (fun h23 => ?_)
  · skip
    refine lv_iconst (v := 0) hx hb d_Tr_sameValue_30 (by decide) ?_
    exact gr_z B hw (by rfl) d_Tr_sameValue_31 ⟨by first | rw [if_pos h23] | rw [if_neg h23], rfl, rfl⟩
  · skip
    refine lv_iconst (v := 1) hx hb d_Tr_sameValue_26 (by decide) ?_
    refine lv_goto hx hb d_Tr_sameValue_27 rfl ?_
    exact gr_z B hw (by rfl) d_Tr_sameValue_31 ⟨by first | rw [if_pos h23] | rw [if_neg h23], rfl, rfl⟩
