theorem gM0_ch {i : Nat} (hi : i < 6) : gM0 (10 + i) = fun _ => 0 := by
  funext j
  unfold gM0
  rw [if_neg (by omega), if_neg (by omega)]
theorem d_Nm_init_0 : decode b_Nm_init 0 = .ok (.aload_n 0, 1) := by decide +kernel
theorem d_Nm_init_1 : decode b_Nm_init 1 = .ok (.invokespecial 1, 3) := by decide +kernel
theorem d_Nm_init_4 : decode b_Nm_init 4 = .ok (.return_, 1) := by decide +kernel
theorem d_At_init_0 : decode b_At_init 0 = .ok (.aload_n 0, 1) := by decide +kernel
theorem d_At_init_1 : decode b_At_init 1 = .ok (.invokespecial 1, 3) := by decide +kernel
theorem d_At_init_4 : decode b_At_init 4 = .ok (.aload_n 0, 1) := by decide +kernel
theorem d_At_init_5 : decode b_At_init 5 = .ok (.new 7, 3) := by decide +kernel
theorem d_At_init_8 : decode b_At_init 8 = .ok (.dup, 1) := by decide +kernel
theorem d_At_init_9 : decode b_At_init 9 = .ok (.invokespecial 9, 3) := by decide +kernel
theorem d_At_init_12 : decode b_At_init 12 = .ok (.putfield 10, 3) := by decide +kernel
theorem d_At_init_15 : decode b_At_init 15 = .ok (.return_, 1) := by decide +kernel
theorem d_Row_init_0 : decode b_Row_init 0 = .ok (.aload_n 0, 1) := by decide +kernel
theorem d_Row_init_1 : decode b_Row_init 1 = .ok (.invokespecial 3, 3) := by decide +kernel
theorem d_Row_init_4 : decode b_Row_init 4 = .ok (.aload_n 0, 1) := by decide +kernel
theorem d_Row_init_5 : decode b_Row_init 5 = .ok (.iconst 0, 1) := by decide +kernel
theorem d_Row_init_6 : decode b_Row_init 6 = .ok (.putfield 9, 3) := by decide +kernel
theorem d_Row_init_9 : decode b_Row_init 9 = .ok (.aload_n 0, 1) := by decide +kernel
theorem d_Row_init_10 : decode b_Row_init 10 = .ok (.iload_n 1, 1) := by decide +kernel
theorem d_Row_init_11 : decode b_Row_init 11 = .ok (.newarray .char, 2) := by decide +kernel
theorem d_Row_init_13 : decode b_Row_init 13 = .ok (.putfield 15, 3) := by decide +kernel
theorem d_Row_init_16 : decode b_Row_init 16 = .ok (.return_, 1) := by decide +kernel
theorem d_SF_init_0 : decode b_SF_init 0 = .ok (.aload_n 0, 1) := by decide +kernel
theorem d_SF_init_1 : decode b_SF_init 1 = .ok (.invokespecial 3, 3) := by decide +kernel
theorem d_SF_init_4 : decode b_SF_init 4 = .ok (.aload_n 0, 1) := by decide +kernel
theorem d_SF_init_5 : decode b_SF_init 5 = .ok (.aload_n 1, 1) := by decide +kernel
theorem d_SF_init_6 : decode b_SF_init 6 = .ok (.putfield 9, 3) := by decide +kernel
theorem d_SF_init_9 : decode b_SF_init 9 = .ok (.return_, 1) := by decide +kernel
theorem d_FW_init_0 : decode b_FW_init 0 = .ok (.aload_n 0, 1) := by decide +kernel
theorem d_FW_init_1 : decode b_FW_init 1 = .ok (.invokespecial 3, 3) := by decide +kernel
theorem d_FW_init_4 : decode b_FW_init 4 = .ok (.aload_n 0, 1) := by decide +kernel
theorem d_FW_init_5 : decode b_FW_init 5 = .ok (.new 9, 3) := by decide +kernel
theorem d_FW_init_8 : decode b_FW_init 8 = .ok (.dup, 1) := by decide +kernel
theorem d_FW_init_9 : decode b_FW_init 9 = .ok (.sipush 1440, 3) := by decide +kernel
theorem d_FW_init_12 : decode b_FW_init 12 = .ok (.invokespecial 11, 3) := by decide +kernel
theorem d_FW_init_15 : decode b_FW_init 15 = .ok (.putfield 14, 3) := by decide +kernel
theorem d_FW_init_18 : decode b_FW_init 18 = .ok (.aload_n 0, 1) := by decide +kernel
theorem d_FW_init_19 : decode b_FW_init 19 = .ok (.bipush 6, 2) := by decide +kernel
theorem d_FW_init_21 : decode b_FW_init 21 = .ok (.anewarray 20, 3) := by decide +kernel
theorem d_FW_init_24 : decode b_FW_init 24 = .ok (.putfield 22, 3) := by decide +kernel
theorem d_FW_init_27 : decode b_FW_init 27 = .ok (.aload_n 0, 1) := by decide +kernel
theorem d_FW_init_28 : decode b_FW_init 28 = .ok (.iconst 0, 1) := by decide +kernel
theorem d_FW_init_29 : decode b_FW_init 29 = .ok (.putfield 26, 3) := by decide +kernel
theorem d_FW_init_32 : decode b_FW_init 32 = .ok (.aload_n 0, 1) := by decide +kernel
theorem d_FW_init_33 : decode b_FW_init 33 = .ok (.aload_n 1, 1) := by decide +kernel
theorem d_FW_init_34 : decode b_FW_init 34 = .ok (.putfield 30, 3) := by decide +kernel
theorem d_FW_init_37 : decode b_FW_init 37 = .ok (.return_, 1) := by decide +kernel
set_option maxHeartbeats 4000000 in
set_option maxRecDepth 100000 in
theorem c_Nm_init {l : Launch} {s0 : State} {D : va_G} {aC : Nat → ClassId} {a0 : Array Value} (G : gG l s0 D aC a0) (w : Nat → va_E) (k n : Nat) : gKt l s0 D y_Nm_init (Cond.code y_Nm_init b_Nm_init 1 none) 1 20 0 0 [.ref (s0.heap.size + k)] n w n (fun w1 => w1 = w) := by
  refine gk_of G (by decide) rfl (Nat.le_of_ble_eq_true rfl) ?_
  intro p e s m below meth c ls B hin hl hw hs0
  have hx := B.1
  have hb := B.2.1
  have hown := B.2.2.2.2.2.1
  have T := B.2.2.2.2.2.2.1
  have hK := B.2.2.2.2.2.2.2.1
  refine lv_aload_n hx hb d_Nm_init_0 rfl (lv_at hl 0 rfl) ?_
  refine gk_obj B hl.1 (km_Nm_1 T) (Nat.le_of_ble_eq_true rfl) (Nat.le_of_ble_eq_true rfl) (Nat.le_of_ble_eq_true rfl) d_Nm_init_1 ?_
  exact gk_ret B hw (by decide) (by decide) d_Nm_init_4 rfl
set_option maxHeartbeats 4000000 in
set_option maxRecDepth 100000 in
theorem c_At_init {l : Launch} {s0 : State} {D : va_G} {aC : Nat → ClassId} {a0 : Array Value} (G : gG l s0 D aC a0) (w : Nat → va_E) (a n : Nat) (ha : a < 145) (hn : n = oNm a) (hk : oAt a < n) (hwk : w (oAt a) = .inr (2, [.null, .int 0, .int 0, .int 0])) : gKt l s0 D y_At_init (Cond.code y_At_init b_At_init 1 none) 2 60 1 4 [.ref (s0.heap.size + oAt a)] n w (n + 1) (gNew s0.heap.size aC (oAt a) n (n + 1) w) := by
  refine gk_of G (by decide) rfl (Nat.le_of_ble_eq_true rfl) ?_
  intro p e s m below meth c ls B hin hl hw hs0
  have hx := B.1
  have hb := B.2.1
  have hown := B.2.2.2.2.2.1
  have T := B.2.2.2.2.2.2.1
  have hK := B.2.2.2.2.2.2.2.1
  have hr0 : nRow 0 = 240 := rfl
  have hw0 : oRow 0 = 1 := rfl
  have hr1 : nRow 1 = 1440 := rfl
  have hw1 : oRow 1 = 3 := rfl
  have hr2 : nRow 2 = 240 := rfl
  have hw2 : oRow 2 = 6 := rfl
  have hr3 : nRow 3 = 240 := rfl
  have hw3 : oRow 3 = 8 := rfl
  have hr4 : nRow 4 = 240 := rfl
  have hw4 : oRow 4 = 10 := rfl
  have hr5 : nRow 5 = 1440 := rfl
  have hw5 : oRow 5 = 377 := rfl
  have hO : ∀ q, q < n → q ≠ (oAt a) → w q = w q := fun _ _ _ => rfl
  have hN : ∀ q, n ≤ q → q < n → w q = wI s0.heap.size aC q := fun q h1 h2 => absurd h1 (by omega)
  have c_this := hwk
  refine lv_aload_n hx hb d_At_init_0 rfl (lv_at hl 0 rfl) ?_
  refine gk_obj B hl.1 (km_At_1 T) (Nat.le_of_ble_eq_true rfl) (Nat.le_of_ble_eq_true rfl) (Nat.le_of_ble_eq_true rfl) d_At_init_1 ?_
  refine lv_aload_n hx hb d_At_init_4 rfl (lv_at hl 0 rfl) ?_
  refine gw_sz hw (by omega) hs0 (by omega) (fun hz => ?_)
  refine gw_new (C := R_Nm) (T := F_Nm) (N := 4) (ci := 3) (fs := [.int 0, .int 0, .int 0, .null]) hx hb (fw_Nm T) hown hK hw hz (fun _ h => h) t_Nm t_Nm_ok rfl (kc_At_7 T) (kn_Nm T) (ki_Nm T) (fun j hj => by match j, hj with | 0, _ => rfl | 1, _ => rfl | 2, _ => rfl | 3, _ => rfl | j + 4, hj => exact absurd hj (by omega)) (by first | omega | (simp only [gRm]; omega) | decide) (by first | omega | (simp only [gRm]; omega) | decide) d_At_init_5 (fun H hw _ => ?_)
  have hw : gw D gC s0.heap (n + 1) (va_up w n (.inr (3, [.int 0, .int 0, .int 0, .null]))) _ _ := hw
  generalize hwe : va_up w n (.inr (3, [.int 0, .int 0, .int 0, .null])) = w1 at hw
  have hO : ∀ q, q < n → q ≠ (oAt a) → w1 q = w q := fun q h1 h2 => (congrFun hwe q).symm.trans ((va_up_ne _ _ (by omega)).trans (hO q h1 h2))
  have hN : ∀ q, n ≤ q → q < (n + 1) → q ≠ n → w1 q = wI s0.heap.size aC q := fun q h1 h2 h_nm => (congrFun hwe q).symm.trans ((va_up_ne _ _ (by omega)).trans (hN q h1 (by omega) ))
  have c_this : w1 (oAt a) = .inr (2, [.null, .int 0, .int 0, .int 0]) := by rw [← hwe, va_up_ne _ _ (by omega)]; exact c_this
  have c_nm : w1 n = .inr (3, [.int 0, .int 0, .int 0, .null]) := by rw [← hwe, va_up_self]
  clear hwe
  refine lv_dup hx hb d_At_init_8 rfl ?_
  refine gk_callN (As := []) B hl.1 hw (by omega) hs0 (by omega) (c_Nm_init G w1 n (n + 1)) (kd_Nm_init T) (ki_Nm T) (km_At_9 T) (ka_Nm_init T) rfl ⟨by decide, by decide, by rfl⟩ rfl (Nat.le_of_ble_eq_true rfl) ⟨by decide, by decide⟩ ⟨by first | omega | (simp only [gRm]; omega) | decide, by first | omega | (simp only [gRm]; omega) | decide⟩ d_At_init_9 (fun w2 H locs hw hp => ?_)
  rw [show w2 = w1 from hp] at hw
  clear hp
  refine gw_putF (v := .ref (s0.heap.size + n)) (C := R_At) (T := F_At) (N := 4) (ci := 2) (fs := [.null, .int 0, .int 0, .int 0]) hx hb (fw_At T) hown hK hw (fun _ h => h) t_At t_At_ok n_At (by omega) c_this rfl 0 (by decide) (kf_At_10 T) rfl rfl hin (rfl) (rfl) (Nat.le_of_ble_eq_true rfl) d_At_init_12 (fun H locs hw => ?_)
  have hw : gw D gC s0.heap (n + 1) (va_up w1 (oAt a) (.inr (2, [.ref (s0.heap.size + n), .int 0, .int 0, .int 0]))) _ _ := hw
  generalize hwe : va_up w1 (oAt a) (.inr (2, [.ref (s0.heap.size + n), .int 0, .int 0, .int 0])) = w3 at hw
  have hO : ∀ q, q < n → q ≠ (oAt a) → w3 q = w q := fun q h1 h2 => (congrFun hwe q).symm.trans ((va_up_ne _ _ (by omega)).trans (hO q h1 h2))
  have hN : ∀ q, n ≤ q → q < (n + 1) → q ≠ n → w3 q = wI s0.heap.size aC q := fun q h1 h2 h_nm => (congrFun hwe q).symm.trans ((va_up_ne _ _ (by omega)).trans (hN q h1 (by omega) (by omega)))
  have c_nm : w3 n = .inr (3, [.int 0, .int 0, .int 0, .null]) := by rw [← hwe, va_up_ne _ _ (by omega)]; exact c_nm
  have c_this : w3 (oAt a) = .inr (2, [.ref (s0.heap.size + n), .int 0, .int 0, .int 0]) := by rw [← hwe, va_up_self]
  clear hwe
  have hN : ∀ q, n ≤ q → q < (n + 1) → w3 q = wI s0.heap.size aC q := fun q h1 h2  => by
    by_cases hq : q = n
    · rw [hq, c_nm]; exact by rw [hn]; unfold wI gW; rw [(gk_Nm a (by omega)).1]; rfl
    · exact hN q h1 h2 hq
  exact gk_ret B hw (by decide) (by decide) d_At_init_15 ⟨hO, by rw [c_this, hn]; unfold wI gW; rw [(gk_At a ha).1]; rfl, hN⟩
set_option maxHeartbeats 4000000 in
set_option maxRecDepth 100000 in
theorem c_Row_init {l : Launch} {s0 : State} {D : va_G} {aC : Nat → ClassId} {a0 : Array Value} (G : gG l s0 D aC a0) (w : Nat → va_E) (i n : Nat) (hi : i < 6) (hn : n = oRow i + 1) (hwk : w (oRow i) = .inr (1, [.null, .int 0])) : gKt l s0 D y_Row_init (Cond.code y_Row_init b_Row_init 2 none) 1 20 1 (nRow i) [.ref (s0.heap.size + oRow i), .int (nI (nRow i))] n w (n + 1) (gNew s0.heap.size aC (oRow i) n (n + 1) w) := by
  refine gk_of G (by decide) rfl (Nat.le_of_ble_eq_true rfl) ?_
  intro p e s m below meth c ls B hin hl hw hs0
  have hx := B.1
  have hb := B.2.1
  have hown := B.2.2.2.2.2.1
  have T := B.2.2.2.2.2.2.1
  have hK := B.2.2.2.2.2.2.2.1
  have hr0 : nRow 0 = 240 := rfl
  have hw0 : oRow 0 = 1 := rfl
  have hr1 : nRow 1 = 1440 := rfl
  have hw1 : oRow 1 = 3 := rfl
  have hr2 : nRow 2 = 240 := rfl
  have hw2 : oRow 2 = 6 := rfl
  have hr3 : nRow 3 = 240 := rfl
  have hw3 : oRow 3 = 8 := rfl
  have hr4 : nRow 4 = 240 := rfl
  have hw4 : oRow 4 = 10 := rfl
  have hr5 : nRow 5 = 1440 := rfl
  have hw5 : oRow 5 = 377 := rfl
  have hO : ∀ q, q < n → q ≠ (oRow i) → w q = w q := fun _ _ _ => rfl
  have hN : ∀ q, n ≤ q → q < n → w q = wI s0.heap.size aC q := fun q h1 h2 => absurd h1 (by omega)
  have c_this := hwk
  have hN2 := nRow_lt i hi
  refine lv_aload_n hx hb d_Row_init_0 rfl (lv_at hl 0 rfl) ?_
  refine gk_obj B hl.1 (km_Row_3 T) (Nat.le_of_ble_eq_true rfl) (Nat.le_of_ble_eq_true rfl) (Nat.le_of_ble_eq_true rfl) d_Row_init_1 ?_
  refine lv_aload_n hx hb d_Row_init_4 rfl (lv_at hl 0 rfl) ?_
  refine lv_iconst (v := 0) hx hb d_Row_init_5 (by decide) ?_
  refine gw_put (v := .int 0) (C := R_Row) (T := F_Row) (N := 2) (ci := 1) (fs := [.null, .int 0]) hx hb (fw_Row T) hown hK hw (fun _ h => h) t_Row t_Row_ok n_Row (by omega) c_this rfl 1 (by decide) (kf_Row_9 T) rfl rfl (rfl) (rfl) (Nat.le_of_ble_eq_true rfl) d_Row_init_6 (fun H locs hw => ?_)
  have hw : gw D gC s0.heap n (va_up w (oRow i) (.inr (1, [.null, .int 0]))) _ _ := hw
  generalize hwe : va_up w (oRow i) (.inr (1, [.null, .int 0])) = w1 at hw
  have hO : ∀ q, q < n → q ≠ (oRow i) → w1 q = w q := fun q h1 h2 => (congrFun hwe q).symm.trans ((va_up_ne _ _ (by omega)).trans (hO q h1 h2))
  have hN : ∀ q, n ≤ q → q < n → w1 q = wI s0.heap.size aC q := fun q h1 h2  => (congrFun hwe q).symm.trans ((va_up_ne _ _ (by omega)).trans (hN q h1 (by omega) ))
  have c_this : w1 (oRow i) = .inr (1, [.null, .int 0]) := by rw [← hwe, va_up_self]
  clear hwe
  refine lv_aload_n hx hb d_Row_init_9 rfl (lv_at hl 0 rfl) ?_
  refine lv_iload_n hx hb d_Row_init_10 rfl (lv_at hl 1 rfl) ?_
  refine gw_sz hw (by omega) hs0 (by omega) (fun hz => ?_)
  refine gw_newa (ty := .char) (cA := aC 0) (a0 := ((nRow i), .inl (fun _ => 0))) (N' := (nRow i)) hx hb hK hw hz rfl (ky_char T) 0 rfl (fun h => h) rfl (nI_pos hN2) (nI_clamp hN2) (by have := (show ∀ i, i < 6 → nRow i ≤ 1440 by decide) i hi; show nRow i * 2 ≤ 536870912; omega) (by first | omega | (simp only [gRm]; omega) | decide) (by first | omega | (simp only [gRm]; omega) | decide) d_Row_init_11 (fun H hw _ => ?_)
  have hw : gw D gC s0.heap (n + 1) (va_up w1 n (.inl (aC 0, (nRow i), .inl (fun _ => 0)))) _ _ := hw
  generalize hwe : va_up w1 n (.inl (aC 0, (nRow i), .inl (fun _ => 0))) = w2 at hw
  have hO : ∀ q, q < n → q ≠ (oRow i) → w2 q = w q := fun q h1 h2 => (congrFun hwe q).symm.trans ((va_up_ne _ _ (by omega)).trans (hO q h1 h2))
  have hN : ∀ q, n ≤ q → q < (n + 1) → q ≠ n → w2 q = wI s0.heap.size aC q := fun q h1 h2 h_arr => (congrFun hwe q).symm.trans ((va_up_ne _ _ (by omega)).trans (hN q h1 (by omega) ))
  have c_this : w2 (oRow i) = .inr (1, [.null, .int 0]) := by rw [← hwe, va_up_ne _ _ (by omega)]; exact c_this
  have c_arr : w2 n = .inl (aC 0, (nRow i), .inl (fun _ => 0)) := by rw [← hwe, va_up_self]
  clear hwe
  refine gw_putF (v := .ref (s0.heap.size + n)) (C := R_Row) (T := F_Row) (N := 2) (ci := 1) (fs := [.null, .int 0]) hx hb (fw_Row T) hown hK hw (fun _ h => h) t_Row t_Row_ok n_Row (by omega) c_this rfl 0 (by decide) (kf_Row_15 T) rfl rfl hin (rfl) (rfl) (Nat.le_of_ble_eq_true rfl) d_Row_init_13 (fun H locs hw => ?_)
  have hw : gw D gC s0.heap (n + 1) (va_up w2 (oRow i) (.inr (1, [.ref (s0.heap.size + n), .int 0]))) _ _ := hw
  generalize hwe : va_up w2 (oRow i) (.inr (1, [.ref (s0.heap.size + n), .int 0])) = w3 at hw
  have hO : ∀ q, q < n → q ≠ (oRow i) → w3 q = w q := fun q h1 h2 => (congrFun hwe q).symm.trans ((va_up_ne _ _ (by omega)).trans (hO q h1 h2))
  have hN : ∀ q, n ≤ q → q < (n + 1) → q ≠ n → w3 q = wI s0.heap.size aC q := fun q h1 h2 h_arr => (congrFun hwe q).symm.trans ((va_up_ne _ _ (by omega)).trans (hN q h1 (by omega) (by omega)))
  have c_arr : w3 n = .inl (aC 0, (nRow i), .inl (fun _ => 0)) := by rw [← hwe, va_up_ne _ _ (by omega)]; exact c_arr
  have c_this : w3 (oRow i) = .inr (1, [.ref (s0.heap.size + n), .int 0]) := by rw [← hwe, va_up_self]
  clear hwe
  have hN : ∀ q, n ≤ q → q < (n + 1) → w3 q = wI s0.heap.size aC q := fun q h1 h2  => by
    by_cases hq : q = n
    · rw [hq, c_arr]; exact by rw [hn]; unfold wI gW; rw [(gk_Row i hi).2.1]; show _ = Sum.inl (aC 0, nRow i, Sum.inl (gM0 (10 + i))); rw [gM0_ch hi]
    · exact hN q h1 h2 hq
  exact gk_ret B hw (by first | omega | (simp only [gRm]; omega) | decide) (by first | omega | (simp only [gRm]; omega) | decide) d_Row_init_16 ⟨hO, by rw [c_this, hn]; unfold wI gW; rw [(gk_Row i hi).1]; rfl, hN⟩
set_option maxHeartbeats 4000000 in
set_option maxRecDepth 100000 in
theorem c_SF_init {l : Launch} {s0 : State} {D : va_G} {aC : Nat → ClassId} {a0 : Array Value} (G : gG l s0 D aC a0) (w : Nat → va_E) (hwk : w 382 = .inr (7, [.null])) : gKt l s0 D y_SF_init (Cond.code y_SF_init b_SF_init 2 none) 1 20 0 0 [.ref (s0.heap.size + 382), .ref (s0.heap.size + 5)] 383 w 383 (gNew s0.heap.size aC 382 383 383 w) := by
  refine gk_of G (by decide) rfl (Nat.le_of_ble_eq_true rfl) ?_
  intro p e s m below meth c ls B hin hl hw hs0
  have hx := B.1
  have hb := B.2.1
  have hown := B.2.2.2.2.2.1
  have T := B.2.2.2.2.2.2.1
  have hK := B.2.2.2.2.2.2.2.1
  have hr0 : nRow 0 = 240 := rfl
  have hw0 : oRow 0 = 1 := rfl
  have hr1 : nRow 1 = 1440 := rfl
  have hw1 : oRow 1 = 3 := rfl
  have hr2 : nRow 2 = 240 := rfl
  have hw2 : oRow 2 = 6 := rfl
  have hr3 : nRow 3 = 240 := rfl
  have hw3 : oRow 3 = 8 := rfl
  have hr4 : nRow 4 = 240 := rfl
  have hw4 : oRow 4 = 10 := rfl
  have hr5 : nRow 5 = 1440 := rfl
  have hw5 : oRow 5 = 377 := rfl
  have hO : ∀ q, q < 383 → q ≠ 382 → w q = w q := fun _ _ _ => rfl
  have hN : ∀ q, 383 ≤ q → q < 383 → w q = wI s0.heap.size aC q := fun q h1 h2 => absurd h1 (by omega)
  have c_this := hwk
  refine lv_aload_n hx hb d_SF_init_0 rfl (lv_at hl 0 rfl) ?_
  refine gk_obj B hl.1 (km_SF_3 T) (Nat.le_of_ble_eq_true rfl) (Nat.le_of_ble_eq_true rfl) (Nat.le_of_ble_eq_true rfl) d_SF_init_1 ?_
  refine lv_aload_n hx hb d_SF_init_4 rfl (lv_at hl 0 rfl) ?_
  refine lv_aload_n hx hb d_SF_init_5 rfl (lv_at hl 1 rfl) ?_
  refine gw_putF (v := .ref (s0.heap.size + 5)) (C := R_SF) (T := F_SF) (N := 1) (ci := 7) (fs := [.null]) hx hb (fw_SF T) hown hK hw (fun _ h => h) t_SF t_SF_ok n_SF (by omega) c_this rfl 0 (by decide) (kf_SF_9 T) rfl rfl hin (rfl) (rfl) (Nat.le_of_ble_eq_true rfl) d_SF_init_6 (fun H locs hw => ?_)
  have hw : gw D gC s0.heap 383 (va_up w 382 (.inr (7, [.ref (s0.heap.size + 5)]))) _ _ := hw
  generalize hwe : va_up w 382 (.inr (7, [.ref (s0.heap.size + 5)])) = w1 at hw
  have hO : ∀ q, q < 383 → q ≠ 382 → w1 q = w q := fun q h1 h2 => (congrFun hwe q).symm.trans ((va_up_ne _ _ (by omega)).trans (hO q h1 h2))
  have hN : ∀ q, 383 ≤ q → q < 383 → w1 q = wI s0.heap.size aC q := fun q h1 h2  => (congrFun hwe q).symm.trans ((va_up_ne _ _ (by omega)).trans (hN q h1 (by omega) ))
  have c_this : w1 382 = .inr (7, [.ref (s0.heap.size + 5)]) := by rw [← hwe, va_up_self]
  clear hwe
  exact gk_ret B hw (by decide) (by decide) d_SF_init_9 ⟨hO, by rw [c_this]; rfl, hN⟩
set_option maxHeartbeats 4000000 in
set_option maxRecDepth 100000 in
theorem c_FW_init {l : Launch} {s0 : State} {D : va_G} {aC : Nat → ClassId} {a0 : Array Value} (G : gG l s0 D aC a0) (w : Nat → va_E) (hwk : w 376 = .inr (6, [.null, .null, .null, .int 0])) : gKt l s0 D y_FW_init (Cond.code y_FW_init b_FW_init 2 none) 2 60 3 1448 [.ref (s0.heap.size + 376), .ref (s0.heap.size + 5)] 377 w 380 (gNew s0.heap.size aC 376 377 380 w) := by
  refine gk_of G (by decide) rfl (Nat.le_of_ble_eq_true rfl) ?_
  intro p e s m below meth c ls B hin hl hw hs0
  have hx := B.1
  have hb := B.2.1
  have hown := B.2.2.2.2.2.1
  have T := B.2.2.2.2.2.2.1
  have hK := B.2.2.2.2.2.2.2.1
  have hr0 : nRow 0 = 240 := rfl
  have hw0 : oRow 0 = 1 := rfl
  have hr1 : nRow 1 = 1440 := rfl
  have hw1 : oRow 1 = 3 := rfl
  have hr2 : nRow 2 = 240 := rfl
  have hw2 : oRow 2 = 6 := rfl
  have hr3 : nRow 3 = 240 := rfl
  have hw3 : oRow 3 = 8 := rfl
  have hr4 : nRow 4 = 240 := rfl
  have hw4 : oRow 4 = 10 := rfl
  have hr5 : nRow 5 = 1440 := rfl
  have hw5 : oRow 5 = 377 := rfl
  have hO : ∀ q, q < 377 → q ≠ 376 → w q = w q := fun _ _ _ => rfl
  have hN : ∀ q, 377 ≤ q → q < 377 → w q = wI s0.heap.size aC q := fun q h1 h2 => absurd h1 (by omega)
  have c_this := hwk
  refine lv_aload_n hx hb d_FW_init_0 rfl (lv_at hl 0 rfl) ?_
  refine gk_obj B hl.1 (km_FW_3 T) (Nat.le_of_ble_eq_true rfl) (Nat.le_of_ble_eq_true rfl) (Nat.le_of_ble_eq_true rfl) d_FW_init_1 ?_
  refine lv_aload_n hx hb d_FW_init_4 rfl (lv_at hl 0 rfl) ?_
  refine gw_sz hw (by omega) hs0 (by omega) (fun hz => ?_)
  refine gw_new (C := R_Row) (T := F_Row) (N := 2) (ci := 1) (fs := [.null, .int 0]) hx hb (fw_Row T) hown hK hw hz (fun _ h => h) t_Row t_Row_ok rfl (kc_FW_9 T) (kn_Row T) (ki_Row T) (fun j hj => by match j, hj with | 0, _ => rfl | 1, _ => rfl | j + 2, hj => exact absurd hj (by omega)) (by first | omega | (simp only [gRm]; omega) | decide) (by first | omega | (simp only [gRm]; omega) | decide) d_FW_init_5 (fun H hw _ => ?_)
  have hw : gw D gC s0.heap 378 (va_up w 377 (.inr (1, [.null, .int 0]))) _ _ := hw
  generalize hwe : va_up w 377 (.inr (1, [.null, .int 0])) = w1 at hw
  have hO : ∀ q, q < 377 → q ≠ 376 → w1 q = w q := fun q h1 h2 => (congrFun hwe q).symm.trans ((va_up_ne _ _ (by omega)).trans (hO q h1 h2))
  have hN : ∀ q, 377 ≤ q → q < 378 → q ≠ 377 → w1 q = wI s0.heap.size aC q := fun q h1 h2 h_row => (congrFun hwe q).symm.trans ((va_up_ne _ _ (by omega)).trans (hN q h1 (by omega) ))
  have c_this : w1 376 = .inr (6, [.null, .null, .null, .int 0]) := by rw [← hwe, va_up_ne _ _ (by omega)]; exact c_this
  have c_row : w1 377 = .inr (1, [.null, .int 0]) := by rw [← hwe, va_up_self]
  clear hwe
  refine lv_dup hx hb d_FW_init_8 rfl ?_
  refine lv_sipush (v := 1440) hx hb d_FW_init_9 (by decide) ?_
  refine gk_call (As := [.int (nI (nRow 5))]) B hl.1 hw (by omega) hs0 (by omega) (c_Row_init G w1 5 378 (by decide) rfl c_row) (kd_Row_init T) (ki_Row T) (km_FW_11 T) (ka_Row_init T) rfl ⟨by decide, by decide, by rfl⟩ rfl (Nat.le_of_ble_eq_true rfl) ⟨by decide, by decide⟩ ⟨by first | omega | (simp only [gRm]; omega) | decide, by first | omega | (simp only [gRm]; omega) | decide⟩ d_FW_init_12 (fun w2 H locs hw hp => ?_)
  have hO : ∀ q, q < 377 → q ≠ 376 → w2 q = w q := fun q h1 h2 => (hp.1 q (by omega) (by omega)).trans (hO q h1 h2)
  have hN : ∀ q, 377 ≤ q → q < 379 → w2 q = wI s0.heap.size aC q := fun q h1 h2  => by
    by_cases hq : q = 377
    · rw [hq]; exact hp.2.1
    · by_cases hq2 : q < 378
      · exact (hp.1 q hq2 hq).trans (hN q h1 hq2 hq)
      · exact hp.2.2 q (by omega) h2
  have c_this : w2 376 = .inr (6, [.null, .null, .null, .int 0]) := (hp.1 _ (by omega) (by omega)).trans c_this
  refine gw_putF (v := .ref (s0.heap.size + 377)) (C := R_FW) (T := F_FW) (N := 4) (ci := 6) (fs := [.null, .null, .null, .int 0]) hx hb (fw_FW T) hown hK hw (fun _ h => h) t_FW t_FW_ok n_FW (by omega) c_this rfl 1 (by decide) (kf_FW_14 T) rfl rfl hin (rfl) (rfl) (Nat.le_of_ble_eq_true rfl) d_FW_init_15 (fun H locs hw => ?_)
  have hw : gw D gC s0.heap 379 (va_up w2 376 (.inr (6, [.null, .ref (s0.heap.size + 377), .null, .int 0]))) _ _ := hw
  generalize hwe : va_up w2 376 (.inr (6, [.null, .ref (s0.heap.size + 377), .null, .int 0])) = w3 at hw
  have hO : ∀ q, q < 377 → q ≠ 376 → w3 q = w q := fun q h1 h2 => (congrFun hwe q).symm.trans ((va_up_ne _ _ (by omega)).trans (hO q h1 h2))
  have hN : ∀ q, 377 ≤ q → q < 379 → w3 q = wI s0.heap.size aC q := fun q h1 h2  => (congrFun hwe q).symm.trans ((va_up_ne _ _ (by omega)).trans (hN q h1 (by omega) ))
  have c_this : w3 376 = .inr (6, [.null, .ref (s0.heap.size + 377), .null, .int 0]) := by rw [← hwe, va_up_self]
  clear hwe
  refine lv_aload_n hx hb d_FW_init_18 rfl (lv_at hl 0 rfl) ?_
  refine lv_bipush (v := 6) hx hb d_FW_init_19 (by decide) ?_
  refine gw_sz hw (by omega) hs0 (by omega) (fun hz => ?_)
  refine gw_newq (C := R_At) (cA := aC 4) (N' := 6) hx hb hown hK hw hz (kc_FW_20 T) (ko_At T) 4 rfl (by decide) (by decide) (by decide) (by first | omega | (simp only [gRm]; omega) | decide) (by first | omega | (simp only [gRm]; omega) | decide) d_FW_init_21 (fun H hw _ => ?_)
  have hw : gw D gC s0.heap 380 (va_up w3 379 (.inl (aC 4, 6, .inr (.inr (.inr (.inr (fun _ => none))))))) _ _ := hw
  generalize hwe : va_up w3 379 (.inl (aC 4, 6, .inr (.inr (.inr (.inr (fun _ => none)))))) = w4 at hw
  have hO : ∀ q, q < 377 → q ≠ 376 → w4 q = w q := fun q h1 h2 => (congrFun hwe q).symm.trans ((va_up_ne _ _ (by omega)).trans (hO q h1 h2))
  have hN : ∀ q, 377 ≤ q → q < 380 → q ≠ 379 → w4 q = wI s0.heap.size aC q := fun q h1 h2 h_so => (congrFun hwe q).symm.trans ((va_up_ne _ _ (by omega)).trans (hN q h1 (by omega) ))
  have c_this : w4 376 = .inr (6, [.null, .ref (s0.heap.size + 377), .null, .int 0]) := by rw [← hwe, va_up_ne _ _ (by omega)]; exact c_this
  have c_so : w4 379 = .inl (aC 4, 6, .inr (.inr (.inr (.inr (fun _ => none))))) := by rw [← hwe, va_up_self]
  clear hwe
  refine gw_putF (v := .ref (s0.heap.size + 379)) (C := R_FW) (T := F_FW) (N := 4) (ci := 6) (fs := [.null, .ref (s0.heap.size + 377), .null, .int 0]) hx hb (fw_FW T) hown hK hw (fun _ h => h) t_FW t_FW_ok n_FW (by omega) c_this rfl 2 (by decide) (kf_FW_22 T) rfl rfl hin (rfl) (rfl) (Nat.le_of_ble_eq_true rfl) d_FW_init_24 (fun H locs hw => ?_)
  have hw : gw D gC s0.heap 380 (va_up w4 376 (.inr (6, [.null, .ref (s0.heap.size + 377), .ref (s0.heap.size + 379), .int 0]))) _ _ := hw
  generalize hwe : va_up w4 376 (.inr (6, [.null, .ref (s0.heap.size + 377), .ref (s0.heap.size + 379), .int 0])) = w5 at hw
  have hO : ∀ q, q < 377 → q ≠ 376 → w5 q = w q := fun q h1 h2 => (congrFun hwe q).symm.trans ((va_up_ne _ _ (by omega)).trans (hO q h1 h2))
  have hN : ∀ q, 377 ≤ q → q < 380 → q ≠ 379 → w5 q = wI s0.heap.size aC q := fun q h1 h2 h_so => (congrFun hwe q).symm.trans ((va_up_ne _ _ (by omega)).trans (hN q h1 (by omega) (by omega)))
  have c_so : w5 379 = .inl (aC 4, 6, .inr (.inr (.inr (.inr (fun _ => none))))) := by rw [← hwe, va_up_ne _ _ (by omega)]; exact c_so
  have c_this : w5 376 = .inr (6, [.null, .ref (s0.heap.size + 377), .ref (s0.heap.size + 379), .int 0]) := by rw [← hwe, va_up_self]
  clear hwe
  refine lv_aload_n hx hb d_FW_init_27 rfl (lv_at hl 0 rfl) ?_
  refine lv_iconst (v := 0) hx hb d_FW_init_28 (by decide) ?_
  refine gw_put (v := .int 0) (C := R_FW) (T := F_FW) (N := 4) (ci := 6) (fs := [.null, .ref (s0.heap.size + 377), .ref (s0.heap.size + 379), .int 0]) hx hb (fw_FW T) hown hK hw (fun _ h => h) t_FW t_FW_ok n_FW (by omega) c_this rfl 3 (by decide) (kf_FW_26 T) rfl rfl (rfl) (rfl) (Nat.le_of_ble_eq_true rfl) d_FW_init_29 (fun H locs hw => ?_)
  have hw : gw D gC s0.heap 380 (va_up w5 376 (.inr (6, [.null, .ref (s0.heap.size + 377), .ref (s0.heap.size + 379), .int 0]))) _ _ := hw
  generalize hwe : va_up w5 376 (.inr (6, [.null, .ref (s0.heap.size + 377), .ref (s0.heap.size + 379), .int 0])) = w6 at hw
  have hO : ∀ q, q < 377 → q ≠ 376 → w6 q = w q := fun q h1 h2 => (congrFun hwe q).symm.trans ((va_up_ne _ _ (by omega)).trans (hO q h1 h2))
  have hN : ∀ q, 377 ≤ q → q < 380 → q ≠ 379 → w6 q = wI s0.heap.size aC q := fun q h1 h2 h_so => (congrFun hwe q).symm.trans ((va_up_ne _ _ (by omega)).trans (hN q h1 (by omega) (by omega)))
  have c_so : w6 379 = .inl (aC 4, 6, .inr (.inr (.inr (.inr (fun _ => none))))) := by rw [← hwe, va_up_ne _ _ (by omega)]; exact c_so
  have c_this : w6 376 = .inr (6, [.null, .ref (s0.heap.size + 377), .ref (s0.heap.size + 379), .int 0]) := by rw [← hwe, va_up_self]
  clear hwe
  refine lv_aload_n hx hb d_FW_init_32 rfl (lv_at hl 0 rfl) ?_
  refine lv_aload_n hx hb d_FW_init_33 rfl (lv_at hl 1 rfl) ?_
  refine gw_putF (v := .ref (s0.heap.size + 5)) (C := R_FW) (T := F_FW) (N := 4) (ci := 6) (fs := [.null, .ref (s0.heap.size + 377), .ref (s0.heap.size + 379), .int 0]) hx hb (fw_FW T) hown hK hw (fun _ h => h) t_FW t_FW_ok n_FW (by omega) c_this rfl 0 (by decide) (kf_FW_30 T) rfl rfl hin (rfl) (rfl) (Nat.le_of_ble_eq_true rfl) d_FW_init_34 (fun H locs hw => ?_)
  have hw : gw D gC s0.heap 380 (va_up w6 376 (.inr (6, [.ref (s0.heap.size + 5), .ref (s0.heap.size + 377), .ref (s0.heap.size + 379), .int 0]))) _ _ := hw
  generalize hwe : va_up w6 376 (.inr (6, [.ref (s0.heap.size + 5), .ref (s0.heap.size + 377), .ref (s0.heap.size + 379), .int 0])) = w7 at hw
  have hO : ∀ q, q < 377 → q ≠ 376 → w7 q = w q := fun q h1 h2 => (congrFun hwe q).symm.trans ((va_up_ne _ _ (by omega)).trans (hO q h1 h2))
  have hN : ∀ q, 377 ≤ q → q < 380 → q ≠ 379 → w7 q = wI s0.heap.size aC q := fun q h1 h2 h_so => (congrFun hwe q).symm.trans ((va_up_ne _ _ (by omega)).trans (hN q h1 (by omega) (by omega)))
  have c_so : w7 379 = .inl (aC 4, 6, .inr (.inr (.inr (.inr (fun _ => none))))) := by rw [← hwe, va_up_ne _ _ (by omega)]; exact c_so
  have c_this : w7 376 = .inr (6, [.ref (s0.heap.size + 5), .ref (s0.heap.size + 377), .ref (s0.heap.size + 379), .int 0]) := by rw [← hwe, va_up_self]
  clear hwe
  have hN : ∀ q, 377 ≤ q → q < 380 → w7 q = wI s0.heap.size aC q := fun q h1 h2  => by
    by_cases hq : q = 379
    · rw [hq, c_so]; exact rfl
    · exact hN q h1 h2 hq
  exact gk_ret B hw (by decide) (by decide) d_FW_init_37 ⟨hO, by rw [c_this]; rfl, hN⟩
