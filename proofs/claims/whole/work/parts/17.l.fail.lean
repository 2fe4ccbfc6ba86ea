/-! Failing unless nowhere -/
theorem d_Rd_failUnlessNowhere_0 : decode b_Rd_failUnlessNowhere 0 = .ok (.iload_n 2, 1) := by decide +kernel
theorem d_Rd_failUnlessNowhere_1 : decode b_Rd_failUnlessNowhere 1 = .ok (.iconst (-1), 1) := by decide +kernel
theorem d_Rd_failUnlessNowhere_2 : decode b_Rd_failUnlessNowhere 2 = .ok (.if_icmp .eq 9, 3) := by decide +kernel
theorem d_Rd_failUnlessNowhere_5 : decode b_Rd_failUnlessNowhere 5 = .ok (.aload_n 0, 1) := by decide +kernel
theorem d_Rd_failUnlessNowhere_6 : decode b_Rd_failUnlessNowhere 6 = .ok (.iload_n 1, 1) := by decide +kernel
theorem d_Rd_failUnlessNowhere_7 : decode b_Rd_failUnlessNowhere 7 = .ok (.iload_n 2, 1) := by decide +kernel
theorem d_Rd_failUnlessNowhere_8 : decode b_Rd_failUnlessNowhere 8 = .ok (.invokevirtual 100, 3) := by decide +kernel
theorem d_Rd_failUnlessNowhere_11 : decode b_Rd_failUnlessNowhere 11 = .ok (.return_, 1) := by decide +kernel
set_option maxHeartbeats 4000000 in
set_option maxRecDepth 100000 in
theorem c_Rd_failUnlessNowhere {l : Launch} {s0 : State} {D : va_G} {aC : Nat → ClassId} {a0 : Array Value} (G : gG l s0 D aC a0) (M : gMem) (r : gRef) (ow : Int64) (w h : Int32) : gMet l s0 D aC y_Rd_failUnlessNowhere (Cond.code y_Rd_failUnlessNowhere b_Rd_failUnlessNowhere 3 none) 7 115 1 6 [.ref (s0.heap.size + 380), .int w, .int h] M r ow (fun v M1 r1 => h = -1 ∧ v = none ∧ M1 = M ∧ r1 = r) (fun ek M1 r1 => h ≠ -1 ∧ ek = 0 ∧ M1 = mFail M w h ∧ r1 = r) := by
  refine gm_of G (by decide) (Nat.le_of_ble_eq_true rfl) ?_
  intro p e s m below meth c ls B hexc hl hw
  have hx := B.1
  have hb := B.2.1
  have hown := B.2.2.2.2.2.1
  have T := B.2.2.2.2.2.2.1
  have hK := B.2.2.2.2.2.2.2.1
  refine lv_iload_n hx hb d_Rd_failUnlessNowhere_0 rfl (lv_at hl 2 rfl) ?_
  refine lv_iconst (v := -1) hx hb d_Rd_failUnlessNowhere_1 (by decide) ?_
  refine lv_icmp_eq hx hb d_Rd_failUnlessNowhere_2 rfl (fun h2 => ?_) (fun h2 => ?_)
  · skip
    exact gr_v B hw d_Rd_failUnlessNowhere_11 ⟨h2, rfl, rfl, rfl⟩
  · skip
    refine lv_aload_n hx hb d_Rd_failUnlessNowhere_5 rfl (lv_at hl 0 rfl) ?_
    refine lv_iload_n hx hb d_Rd_failUnlessNowhere_6 rfl (lv_at hl 1 rfl) ?_
    refine lv_iload_n hx hb d_Rd_failUnlessNowhere_7 rfl (lv_at hl 2 rfl) ?_
    refine gy_V (As := [.int w, .int h]) B hl.1 hw (c_Rd_fail G M r ow w h) (kd_Rd_fail T) (ki_Rd T) (km_Rd_100 T) (ka_Rd_fail T) (ks_Rd_fail T) ⟨by decide, by decide, by rfl⟩ (rv_Rd hK hw rfl) rfl (Nat.le_of_ble_eq_true rfl) ⟨by decide, by decide⟩ ⟨by decide, by decide⟩ d_Rd_failUnlessNowhere_8 (fun v M1 r1 H locs hw hp => ?_) (fun x ek M1 r1 H locs hw hE hp => gr_t B hexc hw hE (by decide) (by decide) ⟨h2, hp⟩)
    exact hp.elim
