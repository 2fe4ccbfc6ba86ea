/-! The contracts of the methods that reach strings -/
set_option maxHeartbeats 4000000 in
set_option maxRecDepth 100000 in
theorem t_MR_read {l : Launch} {s0 : State} {D : va_G} {aC : Nat → ClassId} {a0 : Array Value} (G : gG l s0 D aC a0) (M : gMem) (r : gRef) (ow : Int64) (fu : Nat)  (hno : F_MR_read fu M r ≠ .no) : gMet l s0 D aC y_MR_read (Cond.code y_MR_read b_MR_read 1 (some .int)) 12 277 1 6 [.ref (s0.heap.size + 0)] M r ow (qI (F_MR_read fu M r)) (qT (F_MR_read fu M r)) := by
  refine gm_of G (by decide) (Nat.le_of_ble_eq_true rfl) ?_
  intro p e s m below meth c ls B hexc hl hw
  have hx := B.1
  have hb := B.2.1
  have hown := B.2.2.2.2.2.1
  have T := B.2.2.2.2.2.2.1
  have hK := B.2.2.2.2.2.2.2.1
  have hF := F_MR_read.eq_1 fu M r
  refine lv_aload_n hx hb d_MR_read_0 rfl (lv_at hl 0 rfl) ?_
  refine gf_MR_reading hx hb T hown hK hw rfl (kf_MR_42 T) d_MR_read_1 ?_
  refine lv_aload_n hx hb d_MR_read_4 rfl (lv_at hl 0 rfl) ?_
  refine gf_MR_typed hx hb T hown hK hw rfl (kf_MR_14 T) d_MR_read_5 ?_
  refine gy_V B hl.1 hw (t_Rd_readText G _ _ ow fu 0 (by decide) (nn hno hF)) (kd_Rd_readText T) (ki_Rd T) (km_MR_70 T) (ka_Rd_readText T) (ks_Rd_readText T) ⟨by decide, by decide, by rfl⟩ (rv_Rd hK hw rfl) rfl (Nat.le_of_ble_eq_true rfl) ⟨by decide, by decide⟩ ⟨by decide, by decide⟩ d_MR_read_8 (fun v M2 r2 H locs hw hp => ?_) (fun x ek M2 r2 H locs hw hE hp => gr_t B hexc hw hE (by decide) (by decide) (hF.trans (bnd_ex hp)))
  obtain ⟨rfl, hp⟩ := hp
  have hF := hF.trans (bnd_ok hp)
  refine lv_aload_n hx hb d_MR_read_11 rfl (lv_at hl 0 rfl) ?_
  refine gf_MR_tree hx hb T hown hK hw rfl (kf_MR_24 T) d_MR_read_12 ?_
  refine gf_Tr_size hx hb T hown hK hw rfl (kf_MR_74 T) d_MR_read_15 ?_
  exact gr_i B hw d_MR_read_18 ⟨_, rfl, hF⟩
