/-! A character of content added -/
def mAd (M : gMem) (k n : Nat) (x : Int32) : gMem := if n < 240 then mS (mPut (mS M 1 n (nI k)) 4 n x) 31 k (mPut (mS M 1 n (nI k)) 4 n x 31 k + 1) else M
theorem d_Tr_addContent_0 : decode b_Tr_addContent 0 = .ok (.aload_n 0, 1) := by decide +kernel
theorem d_Tr_addContent_1 : decode b_Tr_addContent 1 = .ok (.getfield 23, 3) := by decide +kernel
theorem d_Tr_addContent_4 : decode b_Tr_addContent 4 = .ok (.getfield 52, 3) := by decide +kernel
theorem d_Tr_addContent_7 : decode b_Tr_addContent 7 = .ok (.sipush 240, 3) := by decide +kernel
theorem d_Tr_addContent_10 : decode b_Tr_addContent 10 = .ok (.if_icmp .ge 37, 3) := by decide +kernel
theorem d_Tr_addContent_13 : decode b_Tr_addContent 13 = .ok (.aload_n 0, 1) := by decide +kernel
theorem d_Tr_addContent_14 : decode b_Tr_addContent 14 = .ok (.getfield 26, 3) := by decide +kernel
theorem d_Tr_addContent_17 : decode b_Tr_addContent 17 = .ok (.aload_n 0, 1) := by decide +kernel
theorem d_Tr_addContent_18 : decode b_Tr_addContent 18 = .ok (.getfield 23, 3) := by decide +kernel
theorem d_Tr_addContent_21 : decode b_Tr_addContent 21 = .ok (.getfield 52, 3) := by decide +kernel
theorem d_Tr_addContent_24 : decode b_Tr_addContent 24 = .ok (.aload_n 1, 1) := by decide +kernel
theorem d_Tr_addContent_25 : decode b_Tr_addContent 25 = .ok (.getfield 60, 3) := by decide +kernel
theorem d_Tr_addContent_28 : decode b_Tr_addContent 28 = .ok (.iastore, 1) := by decide +kernel
theorem d_Tr_addContent_29 : decode b_Tr_addContent 29 = .ok (.aload_n 0, 1) := by decide +kernel
theorem d_Tr_addContent_30 : decode b_Tr_addContent 30 = .ok (.getfield 23, 3) := by decide +kernel
theorem d_Tr_addContent_33 : decode b_Tr_addContent 33 = .ok (.iload_n 2, 1) := by decide +kernel
theorem d_Tr_addContent_34 : decode b_Tr_addContent 34 = .ok (.invokevirtual 63, 3) := by decide +kernel
theorem d_Tr_addContent_37 : decode b_Tr_addContent 37 = .ok (.aload_n 1, 1) := by decide +kernel
theorem d_Tr_addContent_38 : decode b_Tr_addContent 38 = .ok (.dup, 1) := by decide +kernel
theorem d_Tr_addContent_39 : decode b_Tr_addContent 39 = .ok (.getfield 67, 3) := by decide +kernel
theorem d_Tr_addContent_42 : decode b_Tr_addContent 42 = .ok (.iconst 1, 1) := by decide +kernel
theorem d_Tr_addContent_43 : decode b_Tr_addContent 43 = .ok (.iadd, 1) := by decide +kernel
theorem d_Tr_addContent_44 : decode b_Tr_addContent 44 = .ok (.putfield 67, 3) := by decide +kernel
theorem d_Tr_addContent_47 : decode b_Tr_addContent 47 = .ok (.return_, 1) := by decide +kernel
set_option maxHeartbeats 4000000 in
set_option maxRecDepth 100000 in
theorem c_Tr_addContent {l : Launch} {s0 : State} {D : va_G} {aC : Nat → ClassId} {a0 : Array Value} (G : gG l s0 D aC a0) (M : gMem) (r : gRef) (ow : Int64) (k : Nat) (hk : k < 24) (n : Nat) (hn : n ≤ 240) (hs : M 0 4 = nI n) (x : Int32) (hc : cOK x) : gMet l s0 D aC y_Tr_addContent (Cond.code y_Tr_addContent b_Tr_addContent 3 none) 1 40 0 0 [.ref (s0.heap.size + 5), .ref (s0.heap.size + oEl k), .int x] M r ow (fun v M1 r1 => v = none ∧ M1 = mAd M k n x ∧ r1 = r) (fun _ _ _ => False) := by
  refine gm_of G (by decide) (Nat.le_of_ble_eq_true rfl) ?_
  intro p e s m below meth c ls B hexc hl hw
  have hx := B.1
  have hb := B.2.1
  have hown := B.2.2.2.2.2.1
  have T := B.2.2.2.2.2.2.1
  have hK := B.2.2.2.2.2.2.2.1
  by_cases h240 : n < 240
  · skip
    refine lv_aload_n hx hb d_Tr_addContent_0 rfl (lv_at hl 0 rfl) ?_
    refine gf_Tr_content hx hb T hown hK hw rfl (kf_Tr_23 T) d_Tr_addContent_1 ?_
    refine gf_Row_size hx hb T hown hK hw (i := 4) (by decide) rfl (kf_Tr_52 T) d_Tr_addContent_4 ?_
    refine lv_sipush (v := 240) hx hb d_Tr_addContent_7 (by decide) ?_
    refine lv_icmp_ge hx hb d_Tr_addContent_10 rfl (fun h10 => absurd h10 (by rw [hs]; exact nI_ge (b := 240) h240 (by decide))) (fun h10 => ?_)
    refine lv_aload_n hx hb d_Tr_addContent_13 rfl (lv_at hl 0 rfl) ?_
    refine gf_Tr_owners hx hb T hown hK hw rfl (kf_Tr_26 T) d_Tr_addContent_14 ?_
    refine lv_aload_n hx hb d_Tr_addContent_17 rfl (lv_at hl 0 rfl) ?_
    refine gf_Tr_content hx hb T hown hK hw rfl (kf_Tr_23 T) d_Tr_addContent_18 ?_
    refine gf_Row_size hx hb T hown hK hw (i := 4) (by decide) rfl (kf_Tr_52 T) d_Tr_addContent_21 ?_
    refine lv_aload_n hx hb d_Tr_addContent_24 rfl (lv_at hl 1 rfl) ?_
    refine gf_El_number hx hb T hown hK hw (i := k) hk rfl (kf_Tr_60 T) d_Tr_addContent_25 ?_
    rw [hs]
    refine gs_ow (x := nI n) hx hb hK hw rfl (gi_in0 h240 (by decide)) d_Tr_addContent_28 (fun H locs hw => ?_)
    rw [nI_clamp (n := n) (by omega)] at hw
    refine lv_aload_n hx hb d_Tr_addContent_29 rfl (lv_at hl 0 rfl) ?_
    refine gf_Tr_content hx hb T hown hK hw rfl (kf_Tr_23 T) d_Tr_addContent_30 ?_
    refine lv_iload_n hx hb d_Tr_addContent_33 rfl (lv_at hl 2 rfl) ?_
    refine gy_V (As := [.int x]) B hl.1 hw (c_Row_put G (mS M 1 n (nI k)) r ow 4 (by decide) n hn (by rw [mS_tag M (t := 1) (t2 := 0) _ _ _ (by decide)]; exact hs) x hc) (kd_Row_put T) (ki_Row T) (km_Tr_63 T) (ka_Row_put T) (ks_Row_put T) ⟨by decide, by decide, by rfl⟩ (rv_Row hK hw (i := 4) (by decide) rfl) rfl (Nat.le_of_ble_eq_true rfl) ⟨by decide, by decide⟩ ⟨by decide, by decide⟩ d_Tr_addContent_34 (fun v M1 r1 H locs hw hp => ?_) (fun x ek M1 r1 H locs hw hE hp => hp.elim)
    obtain ⟨rfl, hM1, hr1⟩ := hp
    rw [hM1, hr1] at hw
    clear hM1 hr1
    refine lv_aload_n hx hb d_Tr_addContent_37 rfl (lv_at hl 1 rfl) ?_
    refine lv_dup hx hb d_Tr_addContent_38 rfl ?_
    refine gf_El_ownCharacters hx hb T hown hK hw (i := k) hk rfl (kf_Tr_67 T) d_Tr_addContent_39 ?_
    refine lv_iconst (v := 1) hx hb d_Tr_addContent_42 (by decide) ?_
    refine lv_iadd hx hb d_Tr_addContent_43 ?_
    refine pf_El_ownCharacters hx hb T hown hK hw (i := k) hk rfl (kf_Tr_67 T) d_Tr_addContent_44 (fun H locs hw => ?_)
    exact gr_v B hw d_Tr_addContent_47 ⟨rfl, (if_pos h240).symm, rfl⟩
  · skip
    refine lv_aload_n hx hb d_Tr_addContent_0 rfl (lv_at hl 0 rfl) ?_
    refine gf_Tr_content hx hb T hown hK hw rfl (kf_Tr_23 T) d_Tr_addContent_1 ?_
    refine gf_Row_size hx hb T hown hK hw (i := 4) (by decide) rfl (kf_Tr_52 T) d_Tr_addContent_4 ?_
    refine lv_sipush (v := 240) hx hb d_Tr_addContent_7 (by decide) ?_
    refine lv_icmp_ge hx hb d_Tr_addContent_10 rfl (fun h10 => ?_) (fun h10 => absurd (by rw [hs]; exact nI_le (a := 240) (by omega) (by omega)) h10)
    exact gr_v B hw d_Tr_addContent_47 ⟨rfl, (if_neg h240).symm, rfl⟩
