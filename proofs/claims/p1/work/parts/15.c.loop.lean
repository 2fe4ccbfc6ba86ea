/-! The law's making of its objects; its loop -/
theorem gv_gw0 {D : va_G} {s0 : State} (w : Nat → va_E) : gw D gC s0.heap 0 w s0.heap [] := ⟨fun k q h => by simp [gl] at h, Nat.le_refl _, fun _ _ _ => rfl, fun _ h => absurd h List.not_mem_nil⟩
theorem gi_and15 (x : Int32) : ∃ q : Nat, q < 16 ∧ x &&& 15 = nI q := by
  refine ⟨(x &&& 15).toBitVec.toNat, ?_, ?_⟩
  · rw [Int32.toBitVec_and, BitVec.toNat_and]
    exact Nat.lt_of_le_of_lt Nat.and_le_right (by decide)
  · apply Int32.toBitVec_inj.mp
    simp [nI]
theorem gi_gt {n k : Nat} (hn : n ≤ 1536) (hk : k ≤ 1536) : (Int32.ofNat n - 3 < nI k) ↔ n < k + 3 := by
  rw [Int32.lt_iff_toInt_lt, Int32.toInt_sub, show Int32.ofNat n = nI n from rfl, nI_toInt (by omega), nI_toInt (by omega), show (3 : Int32).toInt = 3 from rfl, Int.bmod_eq_of_le (by omega) (by omega)]
  omega
set_option maxHeartbeats 4000000 in
set_option maxRecDepth 100000 in
theorem w_made {p : Program} {l : Launch} {e : Env} {R : Room} {s0 : State} {m : MethodId} {args : Array Value} {below : List Frame} {meth : Method} {c : Code} {Q : State → Prop} {D : va_G} {aC : Nat → ClassId} {b : Nat} {ls : Array Slot} {a0 : Array Value} (G : gG l s0 D aC a0) (B : gB s0 D aC p e s0 m meth c R_La code 7 ret) (hRm : 16 ≤ R.frames ∧ 604 ≤ R.locals) (hC : 402 ≤ R.cells ∧ 12840 ≤ R.slots) (hl : lv_has ls 7 [(0, .ref b)]) (k : ∀ H locs ls, lv_has ls 7 [(4, .int 0), (3, .ref (s0.heap.size + 401)), (2, .ref (s0.heap.size + 383)), (1, .ref (s0.heap.size + 0)), (0, .ref b)] → gWd s0 D aC gM0 gR0 0 H locs → W p l e R s0 m args below meth c H locs 402 12840 Q (F0 m 23 ls [])) : W p l e R s0 m args below meth c s0.heap [] 0 0 Q (F0 m 0 ls []) := by
  have hx := B.1
  have hb := B.2.1
  have hown := B.2.2.2.2.2.1
  have T := B.2.2.2.2.2.2.1
  have hK := B.2.2.2.2.2.2.2.1
  have hs0 : s0.heap.size = s0.heap.size + 0 := rfl
  obtain ⟨w0, hw⟩ : ∃ w0, gw D gC s0.heap 0 w0 s0.heap [] := ⟨fun _ => .inl (aC 0, 0, .inl (fun _ => 0)), gv_gw0 _⟩
  refine gw_new (C := R_MR) (T := F_MR) (N := 5) (ci := 0) (fs := [.null, .null, .null, .null, .null]) hx hb (fw_MR T) hown hK hw rfl (fun _ h => h) t_MR t_MR_ok rfl (kc_La_8 T) (kn_MR T) (ki_MR T) (fun j hj => by match j, hj with | 0, _ => rfl | 1, _ => rfl | 2, _ => rfl | 3, _ => rfl | 4, _ => rfl | j + 5, hj => exact absurd hj (by omega)) (by omega) (by omega) d_La_law_0 (fun H hw hz => ?_)
  refine lv_dup hx hb d_La_law_3 rfl ?_
  refine gk_call (As := []) B hl.1 hw (by omega) hs0 (by omega) (c_MR_init G _ (va_up_self _ _ _)) (kd_MR_init T) (ki_MR T) (km_La_47 T) (ka_MR_init T) rfl ⟨by decide, by decide, by rfl⟩ rfl (Nat.le_of_ble_eq_true rfl) ⟨by omega, by omega⟩ ⟨by omega, by omega⟩ d_La_law_4 (fun w1 H locs hw hp1 => ?_)
  refine lv_astore_n hx hb d_La_law_7 rfl hl (by decide) rfl (fun ls hl => ?_)
  refine gw_sz hw (by omega) hs0 (by omega) (fun hz => ?_)
  refine gw_new (C := R_Mo) (T := F_Mo) (N := 34) (ci := 9) (fs := [.int 0, .int 0, .null, .int 0, .int 0, .int 0, .int 0, .int 0, .null, .int 0, .null, .null, .null, .null, .null, .null, .null, .null, .null, .null, .null, .null, .int 0, .null, .int 0, .int 0, .int 0, .null, .int 0, .int 0, .null, .int 0, .int 0, .int 0]) hx hb (fw_Mo T) hown hK hw hz (fun _ h => h) t_Mo t_Mo_ok rfl (kc_La_48 T) (kn_Mo T) (ki_Mo T) (fun j hj => by match j, hj with | 0, _ => rfl | 1, _ => rfl | 2, _ => rfl | 3, _ => rfl | 4, _ => rfl | 5, _ => rfl | 6, _ => rfl | 7, _ => rfl | 8, _ => rfl | 9, _ => rfl | 10, _ => rfl | 11, _ => rfl | 12, _ => rfl | 13, _ => rfl | 14, _ => rfl | 15, _ => rfl | 16, _ => rfl | 17, _ => rfl | 18, _ => rfl | 19, _ => rfl | 20, _ => rfl | 21, _ => rfl | 22, _ => rfl | 23, _ => rfl | 24, _ => rfl | 25, _ => rfl | 26, _ => rfl | 27, _ => rfl | 28, _ => rfl | 29, _ => rfl | 30, _ => rfl | 31, _ => rfl | 32, _ => rfl | 33, _ => rfl | j + 34, hj => exact absurd hj (by omega)) (by omega) (by omega) d_La_law_8 (fun H hw hz => ?_)
  refine lv_dup hx hb d_La_law_11 rfl ?_
  refine gk_call (As := []) B hl.1 hw (by omega) hs0 (by omega) (c_Mo_init G _ (va_up_self _ _ _)) (kd_Mo_init T) (ki_Mo T) (km_La_50 T) (ka_Mo_init T) rfl ⟨by decide, by decide, by rfl⟩ rfl (Nat.le_of_ble_eq_true rfl) ⟨by omega, by omega⟩ ⟨by omega, by omega⟩ d_La_law_12 (fun w2 H locs hw hp2 => ?_)
  refine lv_astore_n hx hb d_La_law_15 rfl hl (by decide) rfl (fun ls hl => ?_)
  refine lv_iconst (v := 1) hx hb d_La_law_16 (by decide) ?_
  refine gw_sz hw (by omega) hs0 (by omega) (fun hz => ?_)
  refine gw_newa (ty := .long) (cA := aC 2) (a0 := (1, .inr (.inl (fun _ => 0)))) (N' := 1) hx hb hK hw hz rfl (ky_long T) 2 rfl (fun h => h) rfl (by decide) (by decide) (by decide) (by omega) (by omega) d_La_law_17 (fun H hw _ => ?_)
  refine lv_astore_n hx hb d_La_law_19 rfl hl (by decide) rfl (fun ls hl => ?_)
  refine lv_iconst (v := 0) hx hb d_La_law_20 (by decide) ?_
  refine lv_istore hx hb d_La_law_21 hl (by decide) rfl (fun ls hl => ?_)
  refine W.cs (cells' := 402) (slots' := 12840) (by omega) (by omega) (k _ _ _ hl (gw.to hw (fun q hq => ?_)))
  by_cases h1 : q = 401
  · subst h1; rw [va_up_self]; rfl
  rw [va_up_ne _ _ h1]
  by_cases h2 : q = 383
  · rw [h2]; exact hp2.2.1
  by_cases h3 : 384 ≤ q
  · exact hp2.2.2 q h3 (by omega)
  rw [hp2.1 q (by omega) h2, va_up_ne _ _ h2]
  by_cases h4 : q = 0
  · rw [h4]; exact hp1.2.1
  exact hp1.2.2 q (by omega) (by omega)
set_option maxHeartbeats 4000000 in
set_option maxRecDepth 100000 in
theorem w_loop {p : Program} {l : Launch} {e : Env} {R : Room} {s0 : State} {m : MethodId} {args : Array Value} {below : List Frame} {meth : Method} {c : Code} {Q : State → Prop} {D : va_G} {aC : Nat → ClassId} {b : Nat} {L : Nat} {xs : Nat → Int32} (B : gB s0 D aC p e s0 m meth c R_La code 7 ret) (hX : va_X b L xs s0 s0.heap) (hbl : b < s0.heap.size) (hL : L ≤ 1536) (hC : 402 + L ≤ R.cells ∧ 12840 + 6 * L ≤ R.slots) {I : Nat → gMem → gRef → Prop} (hskip : ∀ j M r, I j M r → I (j + 1) M r) (step : ∀ j M r ow H locs ls cells slots, I j M r → 3 * j + 3 ≤ L → cells + 1 ≤ R.cells ∧ slots + 6 ≤ R.slots → vp_in (nI (3 * j) + 1) L → vp_in (nI (3 * j) + 2) L → lv_has ls 7 [(4, .int (nI (3 * j))), (3, .ref (s0.heap.size + 401)), (2, .ref (s0.heap.size + 383)), (1, .ref (s0.heap.size + 0)), (0, .ref b)] → gWd s0 D aC M r ow H locs → (∀ M r ow H locs ls, I (j + 1) M r → lv_has ls 7 [(4, .int (nI (3 * j))), (3, .ref (s0.heap.size + 401)), (2, .ref (s0.heap.size + 383)), (1, .ref (s0.heap.size + 0)), (0, .ref b)] → gWd s0 D aC M r ow H locs → W p l e R s0 m args below meth c H locs (cells + 1) (slots + 6) Q (F0 m 669 ls [])) → ∀ q ∈ [108, 166, 177, 221, 234, 247, 315, 383, 451, 519, 532, 588, 632, 656], W p l e R s0 m args below meth c H locs cells slots Q (F0 m q ls [])) (fin : ∀ H locs ls cells slots, cells ≤ 402 + L → slots ≤ 12840 + 6 * L → (∀ q ∈ locs, s0.heap.size ≤ q.base) → W p l e R s0 m args below meth c H locs cells slots Q (F0 m 675 ls [])) : ∀ d j, L < 3 * j + 3 * d → 3 * j ≤ L → ∀ M r ow H locs ls, I j M r → lv_has ls 7 [(4, .int (nI (3 * j))), (3, .ref (s0.heap.size + 401)), (2, .ref (s0.heap.size + 383)), (1, .ref (s0.heap.size + 0)), (0, .ref b)] → gWd s0 D aC M r ow H locs → W p l e R s0 m args below meth c H locs (402 + j) (12840 + 6 * j) Q (F0 m 23 ls []) := by
  have hx := B.1
  have hb := B.2.1
  have hown := B.2.2.2.2.2.1
  have T := B.2.2.2.2.2.2.1
  have hK := B.2.2.2.2.2.2.2.1
  have hbA : ¬ (fun q => s0.heap.size ≤ q) b := Nat.not_le.mpr hbl
  intro d
  induction d with
  | zero => intro j h1 h2; exact absurd h1 (by omega)
  | succ d ih =>
    intro j hd hj M r ow H locs ls hI hl hw
    refine lv_iload hx hb d_La_law_23 (lv_at hl 0 rfl) ?_
    refine lv_aload_n hx hb d_La_law_25 rfl (lv_at hl 4 rfl) ?_
    refine va_slen hx hb hX hbl hbA hw.2 d_La_law_26 ?_
    refine lv_iconst (v := 3) hx hb d_La_law_27 (by decide) ?_
    refine lv_isub hx hb d_La_law_28 ?_
    refine lv_icmp_gt hx hb d_La_law_29 rfl (fun h29 => fin _ _ _ _ _ (by omega) (by omega) hw.free) (fun h29 => ?_)
    have h3 : 3 * j + 3 ≤ L := Nat.not_lt.mp (fun h => h29 ((gi_gt hL (by omega)).mpr (by omega)))
    have i1 : vp_in (nI (3 * j)) L := gi_in0 (by omega) (by omega)
    have i2 : vp_in (nI (3 * j) + 1) L := by rw [nI_1]; exact gi_in0 (by omega) (by omega)
    have i3 : vp_in (nI (3 * j) + 2) L := by rw [show (2 : Int32) = nI 2 from rfl, nI_add]; exact gi_in0 (by omega) (by omega)
    have k669 : ∀ M r ow H locs ls, I (j + 1) M r → lv_has ls 7 [(4, .int (nI (3 * j))), (3, .ref (s0.heap.size + 401)), (2, .ref (s0.heap.size + 383)), (1, .ref (s0.heap.size + 0)), (0, .ref b)] → gWd s0 D aC M r ow H locs → W p l e R s0 m args below meth c H locs (402 + j + 1) (12840 + 6 * j + 6) Q (F0 m 669 ls []) := by
      intro M r ow H locs ls hI hl hw
      refine lv_iinc (k := 0) hx hb d_La_law_669 hl rfl (show _ + Int32.ofInt 3 = _ + 3 from rfl) (by decide) rfl (fun ls hl => ?_)
      rw [show (3 : Int32) = nI 3 from rfl, nI_add, show 3 * j + 3 = 3 * (j + 1) from by omega] at hl
      refine lv_goto hx hb d_La_law_672 rfl ?_
      exact W.cs (by omega) (by omega) (ih (j + 1) (by omega) (by omega) _ _ _ _ _ _ hI hl hw)
    have hst := step j M r ow H locs ls (402 + j) (12840 + 6 * j) hI h3 ⟨by omega, by omega⟩ i2 i3 hl hw k669
    refine lv_aload_n hx hb d_La_law_32 rfl (lv_at hl 4 rfl) ?_
    refine lv_iload hx hb d_La_law_33 (lv_at hl 0 rfl) ?_
    refine va_sld hx hb hX hbl hbA hw.2 i1 d_La_law_35 ?_
    refine lv_bipush (v := 15) hx hb d_La_law_36 (by decide) ?_
    refine lv_iand hx hb d_La_law_38 ?_
    obtain ⟨q, hq, hqe⟩ := gi_and15 (xs (nI (3 * j)).toNatClampNeg)
    rw [hqe]
    have out : W p l e R s0 m args below meth c H locs (402 + j) (12840 + 6 * j) Q (F0 m 669 ls []) := W.widen (Nat.le_add_right _ 1) (Nat.le_add_right _ 6) (k669 _ _ _ _ _ _ (hskip _ _ _ hI) hl hw)
    match q, hq with
    | 0, _ => exact lv_tableIn hx hb d_La_law_39 (by decide) (by decide) rfl rfl (hst 108 (by decide))
    | 1, _ => exact lv_tableIn hx hb d_La_law_39 (by decide) (by decide) rfl rfl (hst 166 (by decide))
    | 2, _ => exact lv_tableIn hx hb d_La_law_39 (by decide) (by decide) rfl rfl (hst 177 (by decide))
    | 3, _ => exact lv_tableIn hx hb d_La_law_39 (by decide) (by decide) rfl rfl (hst 221 (by decide))
    | 4, _ => exact lv_tableIn hx hb d_La_law_39 (by decide) (by decide) rfl rfl (hst 234 (by decide))
    | 5, _ => exact lv_tableIn hx hb d_La_law_39 (by decide) (by decide) rfl rfl (hst 247 (by decide))
    | 6, _ => exact lv_tableIn hx hb d_La_law_39 (by decide) (by decide) rfl rfl (hst 315 (by decide))
    | 7, _ => exact lv_tableIn hx hb d_La_law_39 (by decide) (by decide) rfl rfl (hst 383 (by decide))
    | 8, _ => exact lv_tableIn hx hb d_La_law_39 (by decide) (by decide) rfl rfl (hst 451 (by decide))
    | 9, _ => exact lv_tableIn hx hb d_La_law_39 (by decide) (by decide) rfl rfl (hst 519 (by decide))
    | 10, _ => exact lv_tableIn hx hb d_La_law_39 (by decide) (by decide) rfl rfl (hst 532 (by decide))
    | 11, _ => exact lv_tableIn hx hb d_La_law_39 (by decide) (by decide) rfl rfl (hst 588 (by decide))
    | 12, _ => exact lv_tableIn hx hb d_La_law_39 (by decide) (by decide) rfl rfl (hst 632 (by decide))
    | 13, _ => exact lv_tableIn hx hb d_La_law_39 (by decide) (by decide) rfl rfl (hst 656 (by decide))
    | 14, _ => exact lv_tableOut hx hb d_La_law_39 (by decide) rfl out
    | 15, _ => exact lv_tableOut hx hb d_La_law_39 (by decide) rfl out
    | q + 16, hq => exact absurd hq (by omega)
