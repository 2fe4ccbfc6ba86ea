/-! copying a row -/
def mCp (M : gMem) (i o k : Nat) : gMem := fun t j => if t = 0 ∧ j = i then nI k else if t = 10 + i ∧ j < k then M (10 + o) j else M t j
theorem mCp_0 (M : gMem) (i o : Nat) : mS M 0 i 0 = mCp M i o 0 := by
  funext t j
  by_cases h : t = 0 ∧ j = i <;> simp [mS, mCp, h, nI_0]
theorem mCp_sz (M : gMem) {i o k : Nat} (h : i ≠ o) : mCp M i o k 0 o = M 0 o := by
  unfold mCp
  rw [if_neg (by omega), if_neg (by omega)]
theorem mCp_own (M : gMem) {i o k : Nat} : mCp M i o k 0 i = nI k := by
  unfold mCp
  rw [if_pos ⟨rfl, rfl⟩]
theorem mCp_ch (M : gMem) {i o k : Nat} (h : i ≠ o) (j : Nat) : mCp M i o k (10 + o) j = M (10 + o) j := by
  unfold mCp
  rw [if_neg (by omega), if_neg (by omega)]
theorem mCp_succ (M : gMem) {i o k : Nat} (h : i ≠ o) : mS (mS (mCp M i o k) (10 + i) k (M (10 + o) k)) 0 i (nI (k + 1)) = mCp M i o (k + 1) := by
  funext t j
  by_cases h0 : t = 0 ∧ j = i
  · simp [mS, mCp, h0]
  · by_cases h1 : t = 10 + i ∧ j = k
    · obtain ⟨rfl, rfl⟩ := h1
      simp [mS, mCp]
    · by_cases h2 : t = 10 + i ∧ j < k
      · have h3 : t = 10 + i ∧ j < k + 1 := ⟨h2.1, by omega⟩
        have h4 : ¬ j = k := by omega
        simp [mS, mCp, h0, h1, h2, h3, h4]
      · have h3 : ¬ (t = 10 + i ∧ j < k + 1) := fun q => by
          rcases Nat.lt_or_ge j k with q2 | q2
          · exact h2 ⟨q.1, q2⟩
          · exact h1 ⟨q.1, by omega⟩
        simp [mS, mCp, h0, h1, h2, h3]
theorem d_Row_copyOf_0 : decode b_Row_copyOf 0 = .ok (.aload_n 0, 1) := by decide +kernel
theorem d_Row_copyOf_1 : decode b_Row_copyOf 1 = .ok (.iconst 0, 1) := by decide +kernel
theorem d_Row_copyOf_2 : decode b_Row_copyOf 2 = .ok (.putfield 9, 3) := by decide +kernel
theorem d_Row_copyOf_5 : decode b_Row_copyOf 5 = .ok (.iconst 0, 1) := by decide +kernel
theorem d_Row_copyOf_6 : decode b_Row_copyOf 6 = .ok (.istore_n 2, 1) := by decide +kernel
theorem d_Row_copyOf_7 : decode b_Row_copyOf 7 = .ok (.iload_n 2, 1) := by decide +kernel
theorem d_Row_copyOf_8 : decode b_Row_copyOf 8 = .ok (.aload_n 1, 1) := by decide +kernel
theorem d_Row_copyOf_9 : decode b_Row_copyOf 9 = .ok (.getfield 9, 3) := by decide +kernel
theorem d_Row_copyOf_12 : decode b_Row_copyOf 12 = .ok (.if_icmp .ge 18, 3) := by decide +kernel
theorem d_Row_copyOf_15 : decode b_Row_copyOf 15 = .ok (.aload_n 0, 1) := by decide +kernel
theorem d_Row_copyOf_16 : decode b_Row_copyOf 16 = .ok (.aload_n 1, 1) := by decide +kernel
theorem d_Row_copyOf_17 : decode b_Row_copyOf 17 = .ok (.iload_n 2, 1) := by decide +kernel
theorem d_Row_copyOf_18 : decode b_Row_copyOf 18 = .ok (.invokevirtual 33, 3) := by decide +kernel
theorem d_Row_copyOf_21 : decode b_Row_copyOf 21 = .ok (.invokevirtual 29, 3) := by decide +kernel
theorem d_Row_copyOf_24 : decode b_Row_copyOf 24 = .ok (.iinc 2 1, 3) := by decide +kernel
theorem d_Row_copyOf_27 : decode b_Row_copyOf 27 = .ok (.goto (-20), 3) := by decide +kernel
theorem d_Row_copyOf_30 : decode b_Row_copyOf 30 = .ok (.return_, 1) := by decide +kernel
theorem d_Tr_beginWith_0 : decode b_Tr_beginWith 0 = .ok (.aload_n 0, 1) := by decide +kernel
theorem d_Tr_beginWith_1 : decode b_Tr_beginWith 1 = .ok (.getfield 14, 3) := by decide +kernel
theorem d_Tr_beginWith_4 : decode b_Tr_beginWith 4 = .ok (.aload_n 1, 1) := by decide +kernel
theorem d_Tr_beginWith_5 : decode b_Tr_beginWith 5 = .ok (.invokevirtual 48, 3) := by decide +kernel
theorem d_Tr_beginWith_8 : decode b_Tr_beginWith 8 = .ok (.aload_n 0, 1) := by decide +kernel
theorem d_Tr_beginWith_9 : decode b_Tr_beginWith 9 = .ok (.getfield 20, 3) := by decide +kernel
theorem d_Tr_beginWith_12 : decode b_Tr_beginWith 12 = .ok (.iconst 0, 1) := by decide +kernel
theorem d_Tr_beginWith_13 : decode b_Tr_beginWith 13 = .ok (.putfield 52, 3) := by decide +kernel
theorem d_Tr_beginWith_16 : decode b_Tr_beginWith 16 = .ok (.aload_n 0, 1) := by decide +kernel
theorem d_Tr_beginWith_17 : decode b_Tr_beginWith 17 = .ok (.getfield 23, 3) := by decide +kernel
theorem d_Tr_beginWith_20 : decode b_Tr_beginWith 20 = .ok (.iconst 0, 1) := by decide +kernel
theorem d_Tr_beginWith_21 : decode b_Tr_beginWith 21 = .ok (.putfield 52, 3) := by decide +kernel
theorem d_Tr_beginWith_24 : decode b_Tr_beginWith 24 = .ok (.aload_n 0, 1) := by decide +kernel
theorem d_Tr_beginWith_25 : decode b_Tr_beginWith 25 = .ok (.iconst 0, 1) := by decide +kernel
theorem d_Tr_beginWith_26 : decode b_Tr_beginWith 26 = .ok (.putfield 43, 3) := by decide +kernel
theorem d_Tr_beginWith_29 : decode b_Tr_beginWith 29 = .ok (.return_, 1) := by decide +kernel
set_option maxHeartbeats 4000000 in
set_option maxRecDepth 100000 in
theorem c_Row_copyOf {l : Launch} {s0 : State} {D : va_G} {aC : Nat → ClassId} {a0 : Array Value} (G : gG l s0 D aC a0) (M : gMem) (r : gRef) (ow : Int64) (i o : Nat) (hi : i < 6) (ho : o < 6) (hio : i ≠ o) (n : Nat) (hn : n ≤ nRow i) (hno : n ≤ nRow o) (hs : M 0 o = nI n) (hc : ∀ j, cOK (M (10 + o) j)) : gMet l s0 D aC y_Row_copyOf (Cond.code y_Row_copyOf b_Row_copyOf 3 none) 1 40 0 0 [.ref (s0.heap.size + oRow i), .ref (s0.heap.size + oRow o)] M r ow (fun v M1 r1 => v = none ∧ M1 = mCp M i o n ∧ r1 = r) (fun _ _ _ => False) := by
  refine gm_of G (by decide) (Nat.le_of_ble_eq_true rfl) ?_
  intro p e s m below meth c ls B hexc hl hw
  have hx := B.1
  have hb := B.2.1
  have hown := B.2.2.2.2.2.1
  have T := B.2.2.2.2.2.2.1
  have hK := B.2.2.2.2.2.2.2.1
  have key : ∀ (d k : Nat), k + d = n → ∀ (H : Heap) (locs : List Loc) (ls : Array Slot), lv_has ls 3 [(2, .int (nI k)), (0, .ref (s0.heap.size + oRow i)), (1, .ref (s0.heap.size + oRow o))] → gWd s0 D aC (mCp M i o k) (r) ow H locs → W p l e (gRm 1 40 0 0) s m ([.ref (s0.heap.size + oRow i), .ref (s0.heap.size + oRow o)] : List Value).toArray below meth c H locs 0 0 (gt_Q below (gQ s0 D aC ow (fun v M1 r1 => v = none ∧ M1 = mCp M i o n ∧ r1 = r) (fun _ _ _ => False)) s 0 0 0 0 (fun q => s0.heap.size ≤ q)) (F0 m 7 ls []) := by
    intro d
    induction d with
    | zero =>
      intro k hd H locs ls hl hw
      refine lv_iload_n hx hb d_Row_copyOf_7 rfl (lv_at hl 0 rfl) ?_
      refine lv_aload_n hx hb d_Row_copyOf_8 rfl (lv_at hl 2 rfl) ?_
      refine gf_Row_size hx hb T hown hK hw (i := o) ho rfl (kf_Row_9 T) d_Row_copyOf_9 ?_
      refine lv_icmp_ge hx hb d_Row_copyOf_12 rfl (fun h12 => ?_) (fun h12 => absurd (by rw [mCp_sz M hio, hs]; exact nI_le (by omega) (by have := nRow_lt i hi; omega)) h12)
      exact gr_v B hw d_Row_copyOf_30 ⟨rfl, by rw [show k = n by omega], rfl⟩
    | succ d ih =>
      intro k hd H locs ls hl hw
      refine lv_iload_n hx hb d_Row_copyOf_7 rfl (lv_at hl 0 rfl) ?_
      refine lv_aload_n hx hb d_Row_copyOf_8 rfl (lv_at hl 2 rfl) ?_
      refine gf_Row_size hx hb T hown hK hw (i := o) ho rfl (kf_Row_9 T) d_Row_copyOf_9 ?_
      refine lv_icmp_ge hx hb d_Row_copyOf_12 rfl (fun h12 => absurd h12 (by rw [mCp_sz M hio, hs]; exact nI_ge (by omega) (by have := nRow_lt i hi; omega))) (fun h12 => ?_)
      refine lv_aload_n hx hb d_Row_copyOf_15 rfl (lv_at hl 1 rfl) ?_
      refine lv_aload_n hx hb d_Row_copyOf_16 rfl (lv_at hl 2 rfl) ?_
      refine lv_iload_n hx hb d_Row_copyOf_17 rfl (lv_at hl 0 rfl) ?_
      refine gy_V (As := [.int (nI k)]) B hl.1 hw (c_Row_at G (mCp M i o k) r ow o ho n (by omega) (by rw [mCp_sz M hio]; exact hs) (fun j => by rw [mCp_ch M hio]; exact hc j) (nI k)) (kd_Row_at T) (ki_Row T) (km_Row_33 T) (ka_Row_at T) (ks_Row_at T) ⟨by decide, by decide, by rfl⟩ (rv_Row hK hw (i := o) ho rfl) rfl (Nat.le_of_ble_eq_true rfl) ⟨by decide, by decide⟩ ⟨by decide, by decide⟩ d_Row_copyOf_18 (fun v M1 r1 H locs hw hp => ?_) (fun x ek M1 r1 H locs hw hE hp => hp.elim)
      obtain ⟨rfl, hM1, hr1⟩ := hp
      rw [hM1, hr1] at hw
      clear hM1 hr1
      have hcat : cAt (mCp M i o k) o (nI k) = M (10 + o) k := by
        unfold cAt
        rw [if_neg (nI_pos (by have := nRow_lt i hi; omega)), if_neg (by rw [mCp_sz M hio, hs]; exact nI_ge (by omega) (by have := nRow_lt i hi; omega)), mCp_ch M hio, nI_clamp (by have := nRow_lt i hi; omega)]
      rw [hcat]
      refine gy_V (As := [.int (M (10 + o) k)]) B hl.1 hw (c_Row_put G (mCp M i o k) r ow i hi k (by omega) (mCp_own M) (M (10 + o) k) (hc k)) (kd_Row_put T) (ki_Row T) (km_Row_29 T) (ka_Row_put T) (ks_Row_put T) ⟨by decide, by decide, by rfl⟩ (rv_Row hK hw (i := i) hi rfl) rfl (Nat.le_of_ble_eq_true rfl) ⟨by decide, by decide⟩ ⟨by decide, by decide⟩ d_Row_copyOf_21 (fun v M1 r1 H locs hw hp => ?_) (fun x ek M1 r1 H locs hw hE hp => hp.elim)
      obtain ⟨rfl, hM1, hr1⟩ := hp
      rw [hM1, hr1, show mPut (mCp M i o k) i k (M (10 + o) k) = mCp M i o (k + 1) from (if_pos (by omega)).trans (mCp_succ M hio)] at hw
      clear hM1 hr1
      refine lv_iinc (k := 0) hx hb d_Row_copyOf_24 hl rfl (show _ + Int32.ofInt 1 = _ + 1 from rfl) (by decide) rfl (fun ls hl => ?_)
      refine lv_goto hx hb d_Row_copyOf_27 rfl ?_
      exact ih (k + 1) (by omega) _ _ _ (by rw [nI_1] at hl; exact hl) hw
  refine lv_aload_n hx hb d_Row_copyOf_0 rfl (lv_at hl 0 rfl) ?_
  refine lv_iconst (v := 0) hx hb d_Row_copyOf_1 (by decide) ?_
  refine pf_Row_size hx hb T hown hK hw (i := i) hi rfl (kf_Row_9 T) d_Row_copyOf_2 (fun H locs hw => ?_)
  refine lv_iconst (v := 0) hx hb d_Row_copyOf_5 (by decide) ?_
  refine lv_istore_n hx hb d_Row_copyOf_6 rfl hl (by decide) rfl (fun ls hl => ?_)
  rw [mCp_0 M i o] at hw
  exact key n 0 (by omega) _ _ _ hl hw
set_option maxHeartbeats 4000000 in
set_option maxRecDepth 100000 in
theorem c_Tr_beginWith {l : Launch} {s0 : State} {D : va_G} {aC : Nat → ClassId} {a0 : Array Value} (G : gG l s0 D aC a0) (M : gMem) (r : gRef) (ow : Int64) (n : Nat) (hn : n ≤ 240) (hs : M 0 0 = nI n) (hc : ∀ j, cOK (M 10 j)) : gMet l s0 D aC y_Tr_beginWith (Cond.code y_Tr_beginWith b_Tr_beginWith 2 none) 2 80 0 0 [.ref (s0.heap.size + 5), .ref (s0.heap.size + 1)] M r ow (fun v M1 r1 => v = none ∧ M1 = mS (mS (mS (mCp M 2 0 n) 0 3 0) 0 4 0) 2 0 0 ∧ r1 = r) (fun _ _ _ => False) := by
  refine gm_of G (by decide) (Nat.le_of_ble_eq_true rfl) ?_
  intro p e s m below meth c ls B hexc hl hw
  have hx := B.1
  have hb := B.2.1
  have hown := B.2.2.2.2.2.1
  have T := B.2.2.2.2.2.2.1
  have hK := B.2.2.2.2.2.2.2.1
  refine lv_aload_n hx hb d_Tr_beginWith_0 rfl (lv_at hl 0 rfl) ?_
  refine gf_Tr_text hx hb T hown hK hw rfl (kf_Tr_14 T) d_Tr_beginWith_1 ?_
  refine lv_aload_n hx hb d_Tr_beginWith_4 rfl (lv_at hl 1 rfl) ?_
  refine gy_V (As := [.ref (s0.heap.size + oRow 0)]) B hl.1 hw (c_Row_copyOf G M r ow 2 0 (by decide) (by decide) (by decide) n hn hn hs hc) (kd_Row_copyOf T) (ki_Row T) (km_Tr_48 T) (ka_Row_copyOf T) (ks_Row_copyOf T) ⟨by decide, by decide, by rfl⟩ (rv_Row hK hw (i := 2) (by decide) rfl) rfl (Nat.le_of_ble_eq_true rfl) ⟨by decide, by decide⟩ ⟨by decide, by decide⟩ d_Tr_beginWith_5 (fun v M1 r1 H locs hw hp => ?_) (fun x ek M1 r1 H locs hw hE hp => hp.elim)
  obtain ⟨rfl, hM1, hr1⟩ := hp
  rw [hM1, hr1] at hw
  clear hM1 hr1
  refine lv_aload_n hx hb d_Tr_beginWith_8 rfl (lv_at hl 0 rfl) ?_
  refine gf_Tr_values hx hb T hown hK hw rfl (kf_Tr_20 T) d_Tr_beginWith_9 ?_
  refine lv_iconst (v := 0) hx hb d_Tr_beginWith_12 (by decide) ?_
  refine pf_Row_size hx hb T hown hK hw (i := 3) (by decide) rfl (kf_Tr_52 T) d_Tr_beginWith_13 (fun H locs hw => ?_)
  refine lv_aload_n hx hb d_Tr_beginWith_16 rfl (lv_at hl 0 rfl) ?_
  refine gf_Tr_content hx hb T hown hK hw rfl (kf_Tr_23 T) d_Tr_beginWith_17 ?_
  refine lv_iconst (v := 0) hx hb d_Tr_beginWith_20 (by decide) ?_
  refine pf_Row_size hx hb T hown hK hw (i := 4) (by decide) rfl (kf_Tr_52 T) d_Tr_beginWith_21 (fun H locs hw => ?_)
  refine lv_aload_n hx hb d_Tr_beginWith_24 rfl (lv_at hl 0 rfl) ?_
  refine lv_iconst (v := 0) hx hb d_Tr_beginWith_25 (by decide) ?_
  refine pf_Tr_size hx hb T hown hK hw rfl (kf_Tr_43 T) d_Tr_beginWith_26 (fun H locs hw => ?_)
  exact gr_v B hw d_Tr_beginWith_29 ⟨rfl, rfl, rfl⟩
