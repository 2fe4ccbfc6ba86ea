/-! A part of a name passed -/
def sg (f : Nat → Int32) : Nat → Nat → Nat
  | 0, a => a
  | d + 1, a => if cGo (f a) = 0 then a else sg f d (a + 1)
theorem sg_step {f : Nat → Int32} {d a : Nat} (h : ¬ cGo (f a) = 0) : sg f (d + 1) a = sg f d (a + 1) := if_neg h
theorem sg_stop {f : Nat → Int32} {d a : Nat} (h : cGo (f a) = 0) : sg f (d + 1) a = a := if_pos h
theorem d_Rd_passPart_0 : decode b_Rd_passPart 0 = .ok (.aload_n 0, 1) := by decide +kernel
theorem d_Rd_passPart_1 : decode b_Rd_passPart 1 = .ok (.iconst 0, 1) := by decide +kernel
theorem d_Rd_passPart_2 : decode b_Rd_passPart 2 = .ok (.invokevirtual 76, 3) := by decide +kernel
theorem d_Rd_passPart_5 : decode b_Rd_passPart 5 = .ok (.invokestatic 150, 3) := by decide +kernel
theorem d_Rd_passPart_8 : decode b_Rd_passPart 8 = .ok (.ifCond .ne 12, 3) := by decide +kernel
theorem d_Rd_passPart_11 : decode b_Rd_passPart 11 = .ok (.aload_n 0, 1) := by decide +kernel
theorem d_Rd_passPart_12 : decode b_Rd_passPart 12 = .ok (.iconst 1, 1) := by decide +kernel
theorem d_Rd_passPart_13 : decode b_Rd_passPart 13 = .ok (.aload_n 0, 1) := by decide +kernel
theorem d_Rd_passPart_14 : decode b_Rd_passPart 14 = .ok (.getfield 18, 3) := by decide +kernel
theorem d_Rd_passPart_17 : decode b_Rd_passPart 17 = .ok (.invokevirtual 100, 3) := by decide +kernel
theorem d_Rd_passPart_20 : decode b_Rd_passPart 20 = .ok (.aload_n 0, 1) := by decide +kernel
theorem d_Rd_passPart_21 : decode b_Rd_passPart 21 = .ok (.getfield 18, 3) := by decide +kernel
theorem d_Rd_passPart_24 : decode b_Rd_passPart 24 = .ok (.aload_n 0, 1) := by decide +kernel
theorem d_Rd_passPart_25 : decode b_Rd_passPart 25 = .ok (.getfield 55, 3) := by decide +kernel
theorem d_Rd_passPart_28 : decode b_Rd_passPart 28 = .ok (.getfield 71, 3) := by decide +kernel
theorem d_Rd_passPart_31 : decode b_Rd_passPart 31 = .ok (.if_icmp .ge 27, 3) := by decide +kernel
theorem d_Rd_passPart_34 : decode b_Rd_passPart 34 = .ok (.aload_n 0, 1) := by decide +kernel
theorem d_Rd_passPart_35 : decode b_Rd_passPart 35 = .ok (.iconst 0, 1) := by decide +kernel
theorem d_Rd_passPart_36 : decode b_Rd_passPart 36 = .ok (.invokevirtual 76, 3) := by decide +kernel
theorem d_Rd_passPart_39 : decode b_Rd_passPart 39 = .ok (.invokestatic 153, 3) := by decide +kernel
theorem d_Rd_passPart_42 : decode b_Rd_passPart 42 = .ok (.ifCond .eq 16, 3) := by decide +kernel
theorem d_Rd_passPart_45 : decode b_Rd_passPart 45 = .ok (.aload_n 0, 1) := by decide +kernel
theorem d_Rd_passPart_46 : decode b_Rd_passPart 46 = .ok (.dup, 1) := by decide +kernel
theorem d_Rd_passPart_47 : decode b_Rd_passPart 47 = .ok (.getfield 18, 3) := by decide +kernel
theorem d_Rd_passPart_50 : decode b_Rd_passPart 50 = .ok (.iconst 1, 1) := by decide +kernel
theorem d_Rd_passPart_51 : decode b_Rd_passPart 51 = .ok (.iadd, 1) := by decide +kernel
theorem d_Rd_passPart_52 : decode b_Rd_passPart 52 = .ok (.putfield 18, 3) := by decide +kernel
theorem d_Rd_passPart_55 : decode b_Rd_passPart 55 = .ok (.goto (-35), 3) := by decide +kernel
theorem d_Rd_passPart_58 : decode b_Rd_passPart 58 = .ok (.return_, 1) := by decide +kernel
set_option maxHeartbeats 4000000 in
set_option maxRecDepth 100000 in
theorem c_Rd_passPart {l : Launch} {s0 : State} {D : va_G} {aC : Nat → ClassId} {a0 : Array Value} (G : gG l s0 D aC a0) (M : gMem) (r : gRef) (ow : Int64) (n : Nat) (hn : n ≤ 240) (hs : M 0 2 = nI n) (hc : ∀ j, cOK (M 12 j)) (a : Nat) (ha : a ≤ n) (hat0 : M 35 0 = nI a) : gMet l s0 D aC y_Rd_passPart (Cond.code y_Rd_passPart b_Rd_passPart 1 none) 7 115 1 6 [.ref (s0.heap.size + 380)] M r ow (fun v M1 r1 => cPb (cNx M 0) ≠ 0 ∧ v = none ∧ M1 = mS M 35 0 (nI (sg (M 12) (n - a) a)) ∧ r1 = r) (fun ek M1 r1 => cPb (cNx M 0) = 0 ∧ ek = 0 ∧ M1 = mFail M 1 (M 35 0) ∧ r1 = r) := by
  refine gm_of G (by decide) (Nat.le_of_ble_eq_true rfl) ?_
  intro p e s m below meth c ls B hexc hl hw
  have hx := B.1
  have hb := B.2.1
  have hown := B.2.2.2.2.2.1
  have T := B.2.2.2.2.2.2.1
  have hK := B.2.2.2.2.2.2.2.1
  have hM0 : mS M 35 0 (nI a) = M := by rw [← hat0]; exact mS_self M 35 0
  have key : ∀ (d b : Nat), b + d = n → ∀ (H : Heap) (locs : List Loc) (ls : Array Slot), lv_has ls 1 [(0, .ref (s0.heap.size + 380))] → gWd s0 D aC (mS M 35 0 (nI b)) (r) ow H locs → cPb (cNx M 0) ≠ 0 → sg (M 12) (n - a) a = sg (M 12) d b → W p l e (gRm 7 115 1 6) s m ([.ref (s0.heap.size + 380)] : List Value).toArray below meth c H locs 0 0 (gt_Q below (gQ s0 D aC ow (fun v M1 r1 => cPb (cNx M 0) ≠ 0 ∧ v = none ∧ M1 = mS M 35 0 (nI (sg (M 12) (n - a) a)) ∧ r1 = r) (fun ek M1 r1 => cPb (cNx M 0) = 0 ∧ ek = 0 ∧ M1 = mFail M 1 (M 35 0) ∧ r1 = r)) s 0 0 1 6 (fun q => s0.heap.size ≤ q)) (F0 m 20 ls []) := by
    intro d
    induction d with
    | zero =>
      intro b hd H locs ls hl hw
      intro hpb hsg
      have hsz : mS M 35 0 (nI b) 0 2 = nI n := by rw [mS_tag M (t := 35) (t2 := 0) _ _ _ (by decide)]; exact hs
      have hat : mS M 35 0 (nI b) 35 0 = nI b := mS_same _ _ _ _
      refine lv_aload_n hx hb d_Rd_passPart_20 rfl (lv_at hl 0 rfl) ?_
      refine gf_Rd_at hx hb T hown hK hw rfl (kf_Rd_18 T) d_Rd_passPart_21 ?_
      refine lv_aload_n hx hb d_Rd_passPart_24 rfl (lv_at hl 0 rfl) ?_
      refine gf_Rd_text hx hb T hown hK hw rfl (kf_Rd_55 T) d_Rd_passPart_25 ?_
      refine gf_Row_size hx hb T hown hK hw (i := 2) (by decide) rfl (kf_Rd_71 T) d_Rd_passPart_28 ?_
      refine lv_icmp_ge hx hb d_Rd_passPart_31 rfl (fun h31 => ?_) (fun h31 => absurd (by rw [hsz, hat]; exact nI_le (by omega) (by omega)) h31)
      exact gr_v B hw d_Rd_passPart_58 ⟨hpb, rfl, by rw [hsg]; rfl, rfl⟩
    | succ d ih =>
      intro b hd H locs ls hl hw
      intro hpb hsg
      have hsz : mS M 35 0 (nI b) 0 2 = nI n := by rw [mS_tag M (t := 35) (t2 := 0) _ _ _ (by decide)]; exact hs
      have hat : mS M 35 0 (nI b) 35 0 = nI b := mS_same _ _ _ _
      refine lv_aload_n hx hb d_Rd_passPart_20 rfl (lv_at hl 0 rfl) ?_
      refine gf_Rd_at hx hb T hown hK hw rfl (kf_Rd_18 T) d_Rd_passPart_21 ?_
      refine lv_aload_n hx hb d_Rd_passPart_24 rfl (lv_at hl 0 rfl) ?_
      refine gf_Rd_text hx hb T hown hK hw rfl (kf_Rd_55 T) d_Rd_passPart_25 ?_
      refine gf_Row_size hx hb T hown hK hw (i := 2) (by decide) rfl (kf_Rd_71 T) d_Rd_passPart_28 ?_
      refine lv_icmp_ge hx hb d_Rd_passPart_31 rfl (fun h31 => absurd h31 (by rw [hsz, hat]; exact nI_ge (by omega) (by omega))) (fun h31 => ?_)
      refine lv_aload_n hx hb d_Rd_passPart_34 rfl (lv_at hl 0 rfl) ?_
      refine lv_iconst (v := 0) hx hb d_Rd_passPart_35 (by decide) ?_
      refine gy_V (As := [.int 0]) B hl.1 hw (c_Rd_next G (mS M 35 0 (nI b)) r ow n hn hsz (fun j => by rw [mS_tag M (t := 35) (t2 := 12) _ _ _ (by decide)]; exact hc j) 0) (kd_Rd_next T) (ki_Rd T) (km_Rd_76 T) (ka_Rd_next T) (ks_Rd_next T) ⟨by decide, by decide, by rfl⟩ (rv_Rd hK hw rfl) rfl (Nat.le_of_ble_eq_true rfl) ⟨by decide, by decide⟩ ⟨by decide, by decide⟩ d_Rd_passPart_36 (fun v M1 r1 H locs hw hp => ?_) (fun x ek M1 r1 H locs hw hE hp => hp.elim)
      obtain ⟨rfl, hM1, hr1⟩ := hp
      rw [hM1, hr1] at hw
      clear hM1 hr1
      have hch : cNx (mS M 35 0 (nI b)) 0 = M 12 b := by
        unfold cNx cAt
        rw [hat, show nI b + 0 = nI b from by rw [← nI_0, nI_add]; rfl, if_neg (nI_pos (by omega)), hsz, if_neg (nI_ge (by omega) (by omega)), nI_clamp (by omega), mS_tag M (t := 35) (t2 := 12) _ _ _ (by decide)]
      rw [hch]
      refine gy_SN (As := [.int (M 12 b)]) B hl.1 hw (c_MR_goesOnPart G (mS M 35 0 (nI b)) r ow (M 12 b)) (kd_MR_goesOnPart T) (ki_MR T) (km_Rd_153 T) (kt_MR_goesOnPart T) ⟨by decide, by decide, by rfl⟩ rfl (Nat.le_of_ble_eq_true rfl) ⟨by decide, by decide⟩ ⟨by decide, by decide⟩ d_Rd_passPart_39 (fun v M1 r1 H locs hw hp => ?_) (fun x ek M1 r1 H locs hw hE hp => hp.elim)
      obtain ⟨rfl, hM1, hr1⟩ := hp
      rw [hM1, hr1] at hw
      clear hM1 hr1
      refine lv_if_eq hx hb d_Rd_passPart_42 rfl (fun h42 => ?_) (fun h42 => ?_)
      · skip
        exact gr_v B hw d_Rd_passPart_58 ⟨hpb, rfl, by rw [hsg, sg_stop h42], rfl⟩
      · skip
        refine lv_aload_n hx hb d_Rd_passPart_45 rfl (lv_at hl 0 rfl) ?_
        refine lv_dup hx hb d_Rd_passPart_46 rfl ?_
        refine gf_Rd_at hx hb T hown hK hw rfl (kf_Rd_18 T) d_Rd_passPart_47 ?_
        refine lv_iconst (v := 1) hx hb d_Rd_passPart_50 (by decide) ?_
        refine lv_iadd hx hb d_Rd_passPart_51 ?_
        refine pf_Rd_at hx hb T hown hK hw rfl (kf_Rd_18 T) d_Rd_passPart_52 (fun H locs hw => ?_)
        refine lv_goto hx hb d_Rd_passPart_55 rfl ?_
        rw [hat, nI_1, mS_mS] at hw
        exact ih (b + 1) (by omega) _ _ _ hl hw hpb (hsg.trans (sg_step h42))
  refine lv_aload_n hx hb d_Rd_passPart_0 rfl (lv_at hl 0 rfl) ?_
  refine lv_iconst (v := 0) hx hb d_Rd_passPart_1 (by decide) ?_
  refine gy_V (As := [.int 0]) B hl.1 hw (c_Rd_next G M r ow n hn hs hc 0) (kd_Rd_next T) (ki_Rd T) (km_Rd_76 T) (ka_Rd_next T) (ks_Rd_next T) ⟨by decide, by decide, by rfl⟩ (rv_Rd hK hw rfl) rfl (Nat.le_of_ble_eq_true rfl) ⟨by decide, by decide⟩ ⟨by decide, by decide⟩ d_Rd_passPart_2 (fun v M1 r1 H locs hw hp => ?_) (fun x ek M1 r1 H locs hw hE hp => hp.elim)
  obtain ⟨rfl, hM1, hr1⟩ := hp
  rw [hM1, hr1] at hw
  clear hM1 hr1
  refine gy_SN (As := [.int (cNx M 0)]) B hl.1 hw (c_MR_beginsPart G M r ow (cNx M 0)) (kd_MR_beginsPart T) (ki_MR T) (km_Rd_150 T) (kt_MR_beginsPart T) ⟨by decide, by decide, by rfl⟩ rfl (Nat.le_of_ble_eq_true rfl) ⟨by decide, by decide⟩ ⟨by decide, by decide⟩ d_Rd_passPart_5 (fun v M1 r1 H locs hw hp => ?_) (fun x ek M1 r1 H locs hw hE hp => hp.elim)
  obtain ⟨rfl, hM1, hr1⟩ := hp
  rw [hM1, hr1] at hw
  clear hM1 hr1
  refine lv_if_ne hx hb d_Rd_passPart_8 rfl (fun h8 => ?_) (fun h8 => ?_)
  · skip
    rw [← hM0] at hw
    exact key (n - a) a (by omega) _ _ _ hl hw h8 rfl
  · skip
    refine lv_aload_n hx hb d_Rd_passPart_11 rfl (lv_at hl 0 rfl) ?_
    refine lv_iconst (v := 1) hx hb d_Rd_passPart_12 (by decide) ?_
    refine lv_aload_n hx hb d_Rd_passPart_13 rfl (lv_at hl 0 rfl) ?_
    refine gf_Rd_at hx hb T hown hK hw rfl (kf_Rd_18 T) d_Rd_passPart_14 ?_
    refine gy_V (As := [.int 1, .int (M 35 0)]) B hl.1 hw (c_Rd_fail G M r ow 1 (M 35 0)) (kd_Rd_fail T) (ki_Rd T) (km_Rd_100 T) (ka_Rd_fail T) (ks_Rd_fail T) ⟨by decide, by decide, by rfl⟩ (rv_Rd hK hw rfl) rfl (Nat.le_of_ble_eq_true rfl) ⟨by decide, by decide⟩ ⟨by decide, by decide⟩ d_Rd_passPart_17 (fun v M1 r1 H locs hw hp => ?_) (fun x ek M1 r1 H locs hw hE hp => gr_t B hexc hw hE (by decide) (by decide) ⟨h8, hp⟩)
    exact hp.elim
