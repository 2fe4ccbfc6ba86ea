theorem d_El_init_0 : decode b_El_init 0 = .ok (.aload_n 0, 1) := by decide +kernel
theorem d_El_init_1 : decode b_El_init 1 = .ok (.invokespecial 3, 3) := by decide +kernel
theorem d_El_init_4 : decode b_El_init 4 = .ok (.aload_n 0, 1) := by decide +kernel
theorem d_El_init_5 : decode b_El_init 5 = .ok (.new 9, 3) := by decide +kernel
theorem d_El_init_8 : decode b_El_init 8 = .ok (.dup, 1) := by decide +kernel
theorem d_El_init_9 : decode b_El_init 9 = .ok (.invokespecial 11, 3) := by decide +kernel
theorem d_El_init_12 : decode b_El_init 12 = .ok (.putfield 12, 3) := by decide +kernel
theorem d_El_init_15 : decode b_El_init 15 = .ok (.aload_n 0, 1) := by decide +kernel
theorem d_El_init_16 : decode b_El_init 16 = .ok (.bipush 6, 2) := by decide +kernel
theorem d_El_init_18 : decode b_El_init 18 = .ok (.anewarray 18, 3) := by decide +kernel
theorem d_El_init_21 : decode b_El_init 21 = .ok (.putfield 20, 3) := by decide +kernel
theorem d_El_init_24 : decode b_El_init 24 = .ok (.aload_n 0, 1) := by decide +kernel
theorem d_El_init_25 : decode b_El_init 25 = .ok (.iload_n 1, 1) := by decide +kernel
theorem d_El_init_26 : decode b_El_init 26 = .ok (.putfield 24, 3) := by decide +kernel
theorem d_El_init_29 : decode b_El_init 29 = .ok (.iconst 0, 1) := by decide +kernel
theorem d_El_init_30 : decode b_El_init 30 = .ok (.istore_n 2, 1) := by decide +kernel
theorem d_El_init_31 : decode b_El_init 31 = .ok (.iload_n 2, 1) := by decide +kernel
theorem d_El_init_32 : decode b_El_init 32 = .ok (.bipush 6, 2) := by decide +kernel
theorem d_El_init_34 : decode b_El_init 34 = .ok (.if_icmp .ge 22, 3) := by decide +kernel
theorem d_El_init_37 : decode b_El_init 37 = .ok (.aload_n 0, 1) := by decide +kernel
theorem d_El_init_38 : decode b_El_init 38 = .ok (.getfield 20, 3) := by decide +kernel
theorem d_El_init_41 : decode b_El_init 41 = .ok (.iload_n 2, 1) := by decide +kernel
theorem d_El_init_42 : decode b_El_init 42 = .ok (.new 18, 3) := by decide +kernel
theorem d_El_init_45 : decode b_El_init 45 = .ok (.dup, 1) := by decide +kernel
theorem d_El_init_46 : decode b_El_init 46 = .ok (.invokespecial 28, 3) := by decide +kernel
theorem d_El_init_49 : decode b_El_init 49 = .ok (.aastore, 1) := by decide +kernel
theorem d_El_init_50 : decode b_El_init 50 = .ok (.iinc 2 1, 3) := by decide +kernel
theorem d_El_init_53 : decode b_El_init 53 = .ok (.goto (-22), 3) := by decide +kernel
theorem d_El_init_56 : decode b_El_init 56 = .ok (.return_, 1) := by decide +kernel
set_option maxHeartbeats 4000000 in
set_option maxRecDepth 100000 in
theorem c_El_init {l : Launch} {s0 : State} {D : va_G} {aC : Nat → ClassId} {a0 : Array Value} (G : gG l s0 D aC a0) (w : Nat → va_E) (u : Nat) (he : u < 24) (hwk : w (oEl u) = .inr (4, [.int 0, .null, .null, .null, .int 0, .int 0, .int 0, .int 0, .int 0, .int 0])) : gKt l s0 D y_El_init (Cond.code y_El_init b_El_init 3 none) 3 100 14 58 [.ref (s0.heap.size + oEl u), .int (nI u)] (oEl u + 1) w (oEl u + 15) (gNew s0.heap.size aC (oEl u) (oEl u + 1) (oEl u + 15) w) := by
  refine gk_of G (by decide) rfl (Nat.le_of_ble_eq_true rfl) ?_
  intro p e s m below meth c ls B hin hl hw hs0
  have hx := B.1
  have hb := B.2.1
  have hown := B.2.2.2.2.2.1
  have T := B.2.2.2.2.2.2.1
  have hK := B.2.2.2.2.2.2.2.1
  have hr0 : nRow 0 = 240 := rfl
  have hw0 : oRow 0 = 1 := rfl
  have hr1 : nRow 1 = 1440 := rfl
  have hw1 : oRow 1 = 3 := rfl
  have hr2 : nRow 2 = 240 := rfl
  have hw2 : oRow 2 = 6 := rfl
  have hr3 : nRow 3 = 240 := rfl
  have hw3 : oRow 3 = 8 := rfl
  have hr4 : nRow 4 = 240 := rfl
  have hw4 : oRow 4 = 10 := rfl
  have hr5 : nRow 5 = 1440 := rfl
  have hw5 : oRow 5 = 377 := rfl
  have hO : ∀ q, q < (oEl u + 1) → q ≠ (oEl u) → w q = w q := fun _ _ _ => rfl
  have hN : ∀ q, (oEl u + 1) ≤ q → q < (oEl u + 1) → w q = wI s0.heap.size aC q := fun q h1 h2 => absurd h1 (by omega)
  have c_this := hwk
  have hE : oEl u = 16 + 15 * u := rfl
  have hNm : oNm (145 + u) = oEl u + 1 := by unfold oNm oEl; split <;> (try split) <;> (try split) <;> omega
  have hAs : oAs u = oEl u + 2 := by unfold oAs oEl; omega
  have hA : ∀ j, j < 6 → oAt (6 * u + j) = oEl u + 3 + 2 * j := fun j hj => by unfold oAt oEl; rw [if_pos (by omega)]; omega
  have hB : ∀ j, j < 6 → oNm (6 * u + j) = oEl u + 4 + 2 * j := fun j hj => by unfold oNm oEl; rw [if_pos (by omega)]; omega
  have key : ∀ (d i : Nat), i + d = 6 → ∀ (H : Heap) (locs : List Loc) (ls : Array Slot) (w9 : Nat → va_E) (f : Nat → Option Nat), lv_has ls 3 [(2, .int (nI i)), (0, .ref (s0.heap.size + oEl u)), (1, .int (nI u))] → gw D gC s0.heap (oEl u + 3 + 2 * i) w9 H locs → (∀ q, q < oEl u + 1 → q ≠ oEl u → w9 q = w q) → (∀ q, oEl u + 1 ≤ q → q < oEl u + 3 + 2 * i → q ≠ oEl u + 2 → w9 q = wI s0.heap.size aC q) → w9 (oEl u) = .inr (4, [.int (nI u), .ref (s0.heap.size + (oEl u + 1)), .ref (s0.heap.size + (oEl u + 2)), .null, .int 0, .int 0, .int 0, .int 0, .int 0, .int 0]) → w9 (oEl u + 2) = .inl (aC 4, 6, .inr (.inr (.inr (.inr f)))) → (∀ j, j < i → f j = some (s0.heap.size + oAt (6 * u + j))) → W p l e (gRm 3 100 14 58) s m ([.ref (s0.heap.size + oEl u), .int (nI u)] : List Value).toArray below meth c H locs (2 + 2 * i) (10 + 8 * i) (gt_Q below (fun _ o t => o = .returned none ∧ ∃ w1, gw D gC s0.heap (oEl u + 15) w1 t.heap [] ∧ gNew s0.heap.size aC (oEl u) (oEl u + 1) (oEl u + 15) w w1) s 14 58 14 58 (fun q => s0.heap.size ≤ q)) (F0 m 31 ls []) := by
    intro d
    induction d with
    | zero =>
      intro i hd H locs ls w9 f hl hw hO hN c_this c_as hf
      have hi6 : i = 6 := by omega
      subst hi6
      refine lv_iload_n hx hb d_El_init_31 rfl (lv_at hl 0 rfl) ?_
      refine lv_bipush (v := 6) hx hb d_El_init_32 (by decide) ?_
      refine lv_icmp_ge hx hb d_El_init_34 rfl (fun h34 => ?_) (fun h34 => absurd (by decide) h34)
      have hw := gw_refs (g := fun j => some (s0.heap.size + oAt (6 * u + j))) hw (by omega) c_as hf
      refine gk_ret B hw (by decide) (by decide) d_El_init_56 ⟨fun q h1 h2 => ?_, ?_, fun q h1 h2 => ?_⟩
      · rw [va_up_ne _ _ (by omega)]; exact hO q h1 h2
      · rw [va_up_ne _ _ (by omega), c_this, ← hNm, ← hAs]; unfold wI gW; rw [(gk_El u he).1]; rfl
      · by_cases hq : q = oEl u + 2
        · rw [hq, va_up_self, ← hAs]; unfold wI gW; rw [(gk_As u he).1]; rfl
        · rw [va_up_ne _ _ hq]; exact hN q h1 h2 hq
    | succ d ih =>
      intro i hd H locs ls w9 f hl hw hO hN c_this c_as hf
      have hi6 : i < 6 := by omega
      have hAi := hA i hi6
      have hBi := hB i hi6
      refine lv_iload_n hx hb d_El_init_31 rfl (lv_at hl 0 rfl) ?_
      refine lv_bipush (v := 6) hx hb d_El_init_32 (by decide) ?_
      refine lv_icmp_ge hx hb d_El_init_34 rfl (fun h34 => absurd h34 (nI_ge (b := 6) hi6 (by decide))) (fun h34 => ?_)
      refine lv_aload_n hx hb d_El_init_37 rfl (lv_at hl 1 rfl) ?_
      rw [← hAi] at hw hN
      refine gw_get (C := R_El) (T := F_El) (N := 10) (ci := 4) (fs := [.int (nI u), .ref (s0.heap.size + (oEl u + 1)), .ref (s0.heap.size + (oEl u + 2)), .null, .int 0, .int 0, .int 0, .int 0, .int 0, .int 0]) hx hb (fw_El T) hown hK hw (fun _ h => h) (by omega) c_this rfl 2 (by decide) (kf_El_20 T) rfl rfl d_El_init_38 ?_
      refine lv_iload_n hx hb d_El_init_41 rfl (lv_at hl 0 rfl) ?_
      refine gw_sz hw (by omega) hs0 (by omega) (fun hz => ?_)
      refine gw_new (C := R_At) (T := F_At) (N := 4) (ci := 2) (fs := [.null, .int 0, .int 0, .int 0]) hx hb (fw_At T) hown hK hw hz (fun _ h => h) t_At t_At_ok rfl (kc_El_18 T) (kn_At T) (ki_At T) (fun j hj => by match j, hj with | 0, _ => rfl | 1, _ => rfl | 2, _ => rfl | 3, _ => rfl | j + 4, hj => exact absurd hj (by omega)) (by first | omega | (simp only [gRm]; omega) | decide) (by first | omega | (simp only [gRm]; omega) | decide) d_El_init_42 (fun H hw _ => ?_)
      have hw : gw D gC s0.heap ((oAt (6 * u + i)) + 1) (va_up w9 (oAt (6 * u + i)) (.inr (2, [.null, .int 0, .int 0, .int 0]))) _ _ := hw
      generalize hwe : va_up w9 (oAt (6 * u + i)) (.inr (2, [.null, .int 0, .int 0, .int 0])) = w11 at hw
      have hO : ∀ q, q < (oEl u + 1) → q ≠ (oEl u) → w11 q = w q := fun q h1 h2 => (congrFun hwe q).symm.trans ((va_up_ne _ _ (by omega)).trans (hO q h1 h2))
      have hN : ∀ q, (oEl u + 1) ≤ q → q < ((oAt (6 * u + i)) + 1) → q ≠ (oEl u + 2) → q ≠ (oAt (6 * u + i)) → w11 q = wI s0.heap.size aC q := fun q h1 h2 h_as h_at => (congrFun hwe q).symm.trans ((va_up_ne _ _ (by omega)).trans (hN q h1 (by omega) (by omega)))
      have c_this : w11 (oEl u) = .inr (4, [.int (nI u), .ref (s0.heap.size + (oEl u + 1)), .ref (s0.heap.size + (oEl u + 2)), .null, .int 0, .int 0, .int 0, .int 0, .int 0, .int 0]) := by rw [← hwe, va_up_ne _ _ (by omega)]; exact c_this
      have c_as : w11 (oEl u + 2) = .inl (aC 4, 6, .inr (.inr (.inr (.inr f)))) := by rw [← hwe, va_up_ne _ _ (by omega)]; exact c_as
      have c_at : w11 (oAt (6 * u + i)) = .inr (2, [.null, .int 0, .int 0, .int 0]) := by rw [← hwe, va_up_self]
      clear hwe
      refine lv_dup hx hb d_El_init_45 rfl ?_
      refine gk_callN (As := []) B hl.1 hw (by omega) hs0 (by omega) (c_At_init G w11 (6 * u + i) (oAt (6 * u + i) + 1) (by omega) (by omega) (by omega) c_at) (kd_At_init T) (ki_At T) (km_El_28 T) (ka_At_init T) rfl ⟨by decide, by decide, by rfl⟩ rfl (Nat.le_of_ble_eq_true rfl) ⟨by decide, by decide⟩ ⟨by first | omega | (simp only [gRm]; omega) | decide, by first | omega | (simp only [gRm]; omega) | decide⟩ d_El_init_46 (fun w12 H locs hw hp => ?_)
      have hO : ∀ q, q < (oEl u + 1) → q ≠ (oEl u) → w12 q = w q := fun q h1 h2 => (hp.1 q (by omega) (by omega)).trans (hO q h1 h2)
      have hN : ∀ q, (oEl u + 1) ≤ q → q < (oAt (6 * u + i) + 1 + 1) → q ≠ (oEl u + 2) → w12 q = wI s0.heap.size aC q := fun q h1 h2 h_as => by
        by_cases hq : q = (oAt (6 * u + i))
        · rw [hq]; exact hp.2.1
        · by_cases hq2 : q < ((oAt (6 * u + i)) + 1)
          · exact (hp.1 q hq2 hq).trans (hN q h1 hq2 h_as hq)
          · exact hp.2.2 q (by omega) h2
      have c_this : w12 (oEl u) = .inr (4, [.int (nI u), .ref (s0.heap.size + (oEl u + 1)), .ref (s0.heap.size + (oEl u + 2)), .null, .int 0, .int 0, .int 0, .int 0, .int 0, .int 0]) := (hp.1 _ (by omega) (by omega)).trans c_this
      have c_as : w12 (oEl u + 2) = .inl (aC 4, 6, .inr (.inr (.inr (.inr f)))) := (hp.1 _ (by omega) (by omega)).trans c_as
      have hat : w12 (oAt (6 * u + i)) = .inr (2, [.ref (s0.heap.size + oNm (6 * u + i)), .int 0, .int 0, .int 0]) := by rw [hp.2.1]; unfold wI gW; rw [(gk_At (6 * u + i) (by omega)).1]; rfl
      refine gw_aast (r := (R_At, F_At, 4)) hx hb hK hw (by omega) c_as 4 rfl (by omega) hat rfl (gi_in0 hi6 (by decide)) d_El_init_49 (fun H locs hw => ?_)
      rw [nI_clamp (by omega)] at hw
      have hw : gw D gC s0.heap (oAt (6 * u + i) + 1 + 1) (va_up w12 (oEl u + 2) (.inl (aC 4, 6, .inr (.inr (.inr (.inr (va_up f i (some (s0.heap.size + oAt (6 * u + i)))))))))) _ _ := hw
      generalize hwe : va_up w12 (oEl u + 2) (.inl (aC 4, 6, .inr (.inr (.inr (.inr (va_up f i (some (s0.heap.size + oAt (6 * u + i))))))))) = w13 at hw
      have hO : ∀ q, q < (oEl u + 1) → q ≠ (oEl u) → w13 q = w q := fun q h1 h2 => (congrFun hwe q).symm.trans ((va_up_ne _ _ (by omega)).trans (hO q h1 h2))
      have hN : ∀ q, (oEl u + 1) ≤ q → q < (oAt (6 * u + i) + 1 + 1) → q ≠ (oEl u + 2) → w13 q = wI s0.heap.size aC q := fun q h1 h2 h_as => (congrFun hwe q).symm.trans ((va_up_ne _ _ (by omega)).trans (hN q h1 (by omega) (by omega)))
      have c_this : w13 (oEl u) = .inr (4, [.int (nI u), .ref (s0.heap.size + (oEl u + 1)), .ref (s0.heap.size + (oEl u + 2)), .null, .int 0, .int 0, .int 0, .int 0, .int 0, .int 0]) := by rw [← hwe, va_up_ne _ _ (by omega)]; exact c_this
      have c_as : w13 (oEl u + 2) = .inl (aC 4, 6, .inr (.inr (.inr (.inr (va_up f i (some (s0.heap.size + oAt (6 * u + i)))))))) := by rw [← hwe, va_up_self]
      clear hwe
      refine lv_iinc (k := 0) hx hb d_El_init_50 hl rfl (show _ + Int32.ofInt 1 = _ + 1 from rfl) (by decide) rfl (fun ls hl => ?_)
      rw [nI_1] at hl
      refine lv_goto hx hb d_El_init_53 rfl ?_
      refine W.cs (cells' := 2 + 2 * (i + 1)) (slots' := 10 + 8 * (i + 1)) (by omega) (by omega) ?_
      rw [show oAt (6 * u + i) + 1 + 1 = oEl u + 3 + 2 * (i + 1) by omega] at hw hN
      refine ih (i + 1) (by omega) _ _ _ _ _ hl hw hO hN c_this c_as (fun j hj => ?_)
      by_cases hji : j = i
      · rw [hji, va_up_self]
      · rw [va_up_ne _ _ hji]; exact hf j (by omega)
  refine lv_aload_n hx hb d_El_init_0 rfl (lv_at hl 0 rfl) ?_
  refine gk_obj B hl.1 (km_El_3 T) (Nat.le_of_ble_eq_true rfl) (Nat.le_of_ble_eq_true rfl) (Nat.le_of_ble_eq_true rfl) d_El_init_1 ?_
  refine lv_aload_n hx hb d_El_init_4 rfl (lv_at hl 0 rfl) ?_
  refine gw_sz hw (by omega) hs0 (by omega) (fun hz => ?_)
  refine gw_new (C := R_Nm) (T := F_Nm) (N := 4) (ci := 3) (fs := [.int 0, .int 0, .int 0, .null]) hx hb (fw_Nm T) hown hK hw hz (fun _ h => h) t_Nm t_Nm_ok rfl (kc_El_9 T) (kn_Nm T) (ki_Nm T) (fun j hj => by match j, hj with | 0, _ => rfl | 1, _ => rfl | 2, _ => rfl | 3, _ => rfl | j + 4, hj => exact absurd hj (by omega)) (by first | omega | (simp only [gRm]; omega) | decide) (by first | omega | (simp only [gRm]; omega) | decide) d_El_init_5 (fun H hw _ => ?_)
  have hw : gw D gC s0.heap (oEl u + 2) (va_up w (oEl u + 1) (.inr (3, [.int 0, .int 0, .int 0, .null]))) _ _ := hw
  generalize hwe : va_up w (oEl u + 1) (.inr (3, [.int 0, .int 0, .int 0, .null])) = w1 at hw
  have hO : ∀ q, q < (oEl u + 1) → q ≠ (oEl u) → w1 q = w q := fun q h1 h2 => (congrFun hwe q).symm.trans ((va_up_ne _ _ (by omega)).trans (hO q h1 h2))
  have hN : ∀ q, (oEl u + 1) ≤ q → q < (oEl u + 2) → q ≠ (oEl u + 1) → w1 q = wI s0.heap.size aC q := fun q h1 h2 h_nm => (congrFun hwe q).symm.trans ((va_up_ne _ _ (by omega)).trans (hN q h1 (by omega) ))
  have c_this : w1 (oEl u) = .inr (4, [.int 0, .null, .null, .null, .int 0, .int 0, .int 0, .int 0, .int 0, .int 0]) := by rw [← hwe, va_up_ne _ _ (by omega)]; exact c_this
  have c_nm : w1 (oEl u + 1) = .inr (3, [.int 0, .int 0, .int 0, .null]) := by rw [← hwe, va_up_self]
  clear hwe
  refine lv_dup hx hb d_El_init_8 rfl ?_
  refine gk_callN (As := []) B hl.1 hw (by omega) hs0 (by omega) (c_Nm_init G w1 (oEl u + 1) (oEl u + 2)) (kd_Nm_init T) (ki_Nm T) (km_El_11 T) (ka_Nm_init T) rfl ⟨by decide, by decide, by rfl⟩ rfl (Nat.le_of_ble_eq_true rfl) ⟨by decide, by decide⟩ ⟨by first | omega | (simp only [gRm]; omega) | decide, by first | omega | (simp only [gRm]; omega) | decide⟩ d_El_init_9 (fun w2 H locs hw hp => ?_)
  rw [show w2 = w1 from hp] at hw
  clear hp
  refine gw_putF (v := .ref (s0.heap.size + (oEl u + 1))) (C := R_El) (T := F_El) (N := 10) (ci := 4) (fs := [.int 0, .null, .null, .null, .int 0, .int 0, .int 0, .int 0, .int 0, .int 0]) hx hb (fw_El T) hown hK hw (fun _ h => h) t_El t_El_ok n_El (by omega) c_this rfl 1 (by decide) (kf_El_12 T) rfl rfl hin (rfl) (rfl) (Nat.le_of_ble_eq_true rfl) d_El_init_12 (fun H locs hw => ?_)
  have hw : gw D gC s0.heap (oEl u + 2) (va_up w1 (oEl u) (.inr (4, [.int 0, .ref (s0.heap.size + (oEl u + 1)), .null, .null, .int 0, .int 0, .int 0, .int 0, .int 0, .int 0]))) _ _ := hw
  generalize hwe : va_up w1 (oEl u) (.inr (4, [.int 0, .ref (s0.heap.size + (oEl u + 1)), .null, .null, .int 0, .int 0, .int 0, .int 0, .int 0, .int 0])) = w3 at hw
  have hO : ∀ q, q < (oEl u + 1) → q ≠ (oEl u) → w3 q = w q := fun q h1 h2 => (congrFun hwe q).symm.trans ((va_up_ne _ _ (by omega)).trans (hO q h1 h2))
  have hN : ∀ q, (oEl u + 1) ≤ q → q < (oEl u + 2) → q ≠ (oEl u + 1) → w3 q = wI s0.heap.size aC q := fun q h1 h2 h_nm => (congrFun hwe q).symm.trans ((va_up_ne _ _ (by omega)).trans (hN q h1 (by omega) (by omega)))
  have c_nm : w3 (oEl u + 1) = .inr (3, [.int 0, .int 0, .int 0, .null]) := by rw [← hwe, va_up_ne _ _ (by omega)]; exact c_nm
  have c_this : w3 (oEl u) = .inr (4, [.int 0, .ref (s0.heap.size + (oEl u + 1)), .null, .null, .int 0, .int 0, .int 0, .int 0, .int 0, .int 0]) := by rw [← hwe, va_up_self]
  clear hwe
  refine lv_aload_n hx hb d_El_init_15 rfl (lv_at hl 0 rfl) ?_
  refine lv_bipush (v := 6) hx hb d_El_init_16 (by decide) ?_
  refine gw_sz hw (by omega) hs0 (by omega) (fun hz => ?_)
  refine gw_newq (C := R_At) (cA := aC 4) (N' := 6) hx hb hown hK hw hz (kc_El_18 T) (ko_At T) 4 rfl (by decide) (by decide) (by decide) (by first | omega | (simp only [gRm]; omega) | decide) (by first | omega | (simp only [gRm]; omega) | decide) d_El_init_18 (fun H hw _ => ?_)
  have hw : gw D gC s0.heap (oEl u + 3) (va_up w3 (oEl u + 2) (.inl (aC 4, 6, .inr (.inr (.inr (.inr (fun _ => none))))))) _ _ := hw
  generalize hwe : va_up w3 (oEl u + 2) (.inl (aC 4, 6, .inr (.inr (.inr (.inr (fun _ => none)))))) = w4 at hw
  have hO : ∀ q, q < (oEl u + 1) → q ≠ (oEl u) → w4 q = w q := fun q h1 h2 => (congrFun hwe q).symm.trans ((va_up_ne _ _ (by omega)).trans (hO q h1 h2))
  have hN : ∀ q, (oEl u + 1) ≤ q → q < (oEl u + 3) → q ≠ (oEl u + 1) → q ≠ (oEl u + 2) → w4 q = wI s0.heap.size aC q := fun q h1 h2 h_nm h_as => (congrFun hwe q).symm.trans ((va_up_ne _ _ (by omega)).trans (hN q h1 (by omega) (by omega)))
  have c_this : w4 (oEl u) = .inr (4, [.int 0, .ref (s0.heap.size + (oEl u + 1)), .null, .null, .int 0, .int 0, .int 0, .int 0, .int 0, .int 0]) := by rw [← hwe, va_up_ne _ _ (by omega)]; exact c_this
  have c_nm : w4 (oEl u + 1) = .inr (3, [.int 0, .int 0, .int 0, .null]) := by rw [← hwe, va_up_ne _ _ (by omega)]; exact c_nm
  have c_as : w4 (oEl u + 2) = .inl (aC 4, 6, .inr (.inr (.inr (.inr (fun _ => none))))) := by rw [← hwe, va_up_self]
  clear hwe
  refine gw_putF (v := .ref (s0.heap.size + (oEl u + 2))) (C := R_El) (T := F_El) (N := 10) (ci := 4) (fs := [.int 0, .ref (s0.heap.size + (oEl u + 1)), .null, .null, .int 0, .int 0, .int 0, .int 0, .int 0, .int 0]) hx hb (fw_El T) hown hK hw (fun _ h => h) t_El t_El_ok n_El (by omega) c_this rfl 2 (by decide) (kf_El_20 T) rfl rfl hin (rfl) (rfl) (Nat.le_of_ble_eq_true rfl) d_El_init_21 (fun H locs hw => ?_)
  have hw : gw D gC s0.heap (oEl u + 3) (va_up w4 (oEl u) (.inr (4, [.int 0, .ref (s0.heap.size + (oEl u + 1)), .ref (s0.heap.size + (oEl u + 2)), .null, .int 0, .int 0, .int 0, .int 0, .int 0, .int 0]))) _ _ := hw
  generalize hwe : va_up w4 (oEl u) (.inr (4, [.int 0, .ref (s0.heap.size + (oEl u + 1)), .ref (s0.heap.size + (oEl u + 2)), .null, .int 0, .int 0, .int 0, .int 0, .int 0, .int 0])) = w5 at hw
  have hO : ∀ q, q < (oEl u + 1) → q ≠ (oEl u) → w5 q = w q := fun q h1 h2 => (congrFun hwe q).symm.trans ((va_up_ne _ _ (by omega)).trans (hO q h1 h2))
  have hN : ∀ q, (oEl u + 1) ≤ q → q < (oEl u + 3) → q ≠ (oEl u + 1) → q ≠ (oEl u + 2) → w5 q = wI s0.heap.size aC q := fun q h1 h2 h_nm h_as => (congrFun hwe q).symm.trans ((va_up_ne _ _ (by omega)).trans (hN q h1 (by omega) (by omega) (by omega)))
  have c_nm : w5 (oEl u + 1) = .inr (3, [.int 0, .int 0, .int 0, .null]) := by rw [← hwe, va_up_ne _ _ (by omega)]; exact c_nm
  have c_as : w5 (oEl u + 2) = .inl (aC 4, 6, .inr (.inr (.inr (.inr (fun _ => none))))) := by rw [← hwe, va_up_ne _ _ (by omega)]; exact c_as
  have c_this : w5 (oEl u) = .inr (4, [.int 0, .ref (s0.heap.size + (oEl u + 1)), .ref (s0.heap.size + (oEl u + 2)), .null, .int 0, .int 0, .int 0, .int 0, .int 0, .int 0]) := by rw [← hwe, va_up_self]
  clear hwe
  refine lv_aload_n hx hb d_El_init_24 rfl (lv_at hl 0 rfl) ?_
  refine lv_iload_n hx hb d_El_init_25 rfl (lv_at hl 1 rfl) ?_
  refine gw_putF (v := .int (nI u)) (C := R_El) (T := F_El) (N := 10) (ci := 4) (fs := [.int 0, .ref (s0.heap.size + (oEl u + 1)), .ref (s0.heap.size + (oEl u + 2)), .null, .int 0, .int 0, .int 0, .int 0, .int 0, .int 0]) hx hb (fw_El T) hown hK hw (fun _ h => h) t_El t_El_ok n_El (by omega) c_this rfl 0 (by decide) (kf_El_24 T) rfl rfl hin (rfl) (rfl) (Nat.le_of_ble_eq_true rfl) d_El_init_26 (fun H locs hw => ?_)
  have hw : gw D gC s0.heap (oEl u + 3) (va_up w5 (oEl u) (.inr (4, [.int (nI u), .ref (s0.heap.size + (oEl u + 1)), .ref (s0.heap.size + (oEl u + 2)), .null, .int 0, .int 0, .int 0, .int 0, .int 0, .int 0]))) _ _ := hw
  generalize hwe : va_up w5 (oEl u) (.inr (4, [.int (nI u), .ref (s0.heap.size + (oEl u + 1)), .ref (s0.heap.size + (oEl u + 2)), .null, .int 0, .int 0, .int 0, .int 0, .int 0, .int 0])) = w6 at hw
  have hO : ∀ q, q < (oEl u + 1) → q ≠ (oEl u) → w6 q = w q := fun q h1 h2 => (congrFun hwe q).symm.trans ((va_up_ne _ _ (by omega)).trans (hO q h1 h2))
  have hN : ∀ q, (oEl u + 1) ≤ q → q < (oEl u + 3) → q ≠ (oEl u + 1) → q ≠ (oEl u + 2) → w6 q = wI s0.heap.size aC q := fun q h1 h2 h_nm h_as => (congrFun hwe q).symm.trans ((va_up_ne _ _ (by omega)).trans (hN q h1 (by omega) (by omega) (by omega)))
  have c_nm : w6 (oEl u + 1) = .inr (3, [.int 0, .int 0, .int 0, .null]) := by rw [← hwe, va_up_ne _ _ (by omega)]; exact c_nm
  have c_as : w6 (oEl u + 2) = .inl (aC 4, 6, .inr (.inr (.inr (.inr (fun _ => none))))) := by rw [← hwe, va_up_ne _ _ (by omega)]; exact c_as
  have c_this : w6 (oEl u) = .inr (4, [.int (nI u), .ref (s0.heap.size + (oEl u + 1)), .ref (s0.heap.size + (oEl u + 2)), .null, .int 0, .int 0, .int 0, .int 0, .int 0, .int 0]) := by rw [← hwe, va_up_self]
  clear hwe
  have hN : ∀ q, (oEl u + 1) ≤ q → q < (oEl u + 3) → q ≠ (oEl u + 2) → w6 q = wI s0.heap.size aC q := fun q h1 h2 h_as => by
    by_cases hq : q = (oEl u + 1)
    · rw [hq, c_nm]; exact by rw [← hNm]; unfold wI gW; rw [(gk_Nm (145 + u) (by omega)).1]; rfl
    · exact hN q h1 h2 hq h_as
  refine lv_iconst (v := 0) hx hb d_El_init_29 (by decide) ?_
  refine lv_istore_n hx hb d_El_init_30 rfl hl (by decide) rfl (fun ls hl => ?_)
  exact key 6 0 (by omega) _ _ _ _ (fun _ => none) hl hw hO hN c_this c_as (fun j hj => absurd hj (by omega))
