/-! Two stretches of a row compared -/
def gOrd (f : Nat → Int32) (a b : Nat) (z : Int32) : Nat → Int32
  | 0 => z
  | d + 1 => if f a - f b = 0 then gOrd f (a + 1) (b + 1) z d else f a - f b
theorem gOrd_go {f : Nat → Int32} {a b d : Nat} {z : Int32} (h : f a - f b = 0) : gOrd f a b z (d + 1) = gOrd f (a + 1) (b + 1) z d := if_pos h
theorem gOrd_ne {f : Nat → Int32} {a b d : Nat} {z : Int32} (h : ¬ f a - f b = 0) : gOrd f a b z (d + 1) = f a - f b := if_neg h
theorem d_Row_order_0 : decode b_Row_order 0 = .ok (.iload_n 2, 1) := by decide +kernel
theorem d_Row_order_1 : decode b_Row_order 1 = .ok (.iload_n 1, 1) := by decide +kernel
theorem d_Row_order_2 : decode b_Row_order 2 = .ok (.isub, 1) := by decide +kernel
theorem d_Row_order_3 : decode b_Row_order 3 = .ok (.istore 5, 2) := by decide +kernel
theorem d_Row_order_5 : decode b_Row_order 5 = .ok (.iload 4, 2) := by decide +kernel
theorem d_Row_order_7 : decode b_Row_order 7 = .ok (.iload_n 3, 1) := by decide +kernel
theorem d_Row_order_8 : decode b_Row_order 8 = .ok (.isub, 1) := by decide +kernel
theorem d_Row_order_9 : decode b_Row_order 9 = .ok (.istore 6, 2) := by decide +kernel
theorem d_Row_order_11 : decode b_Row_order 11 = .ok (.iconst 0, 1) := by decide +kernel
theorem d_Row_order_12 : decode b_Row_order 12 = .ok (.istore 7, 2) := by decide +kernel
theorem d_Row_order_14 : decode b_Row_order 14 = .ok (.iload 7, 2) := by decide +kernel
theorem d_Row_order_16 : decode b_Row_order 16 = .ok (.iload 5, 2) := by decide +kernel
theorem d_Row_order_18 : decode b_Row_order 18 = .ok (.if_icmp .ge 43, 3) := by decide +kernel
theorem d_Row_order_21 : decode b_Row_order 21 = .ok (.iload 7, 2) := by decide +kernel
theorem d_Row_order_23 : decode b_Row_order 23 = .ok (.iload 6, 2) := by decide +kernel
theorem d_Row_order_25 : decode b_Row_order 25 = .ok (.if_icmp .ge 36, 3) := by decide +kernel
theorem d_Row_order_28 : decode b_Row_order 28 = .ok (.aload_n 0, 1) := by decide +kernel
theorem d_Row_order_29 : decode b_Row_order 29 = .ok (.iload_n 1, 1) := by decide +kernel
theorem d_Row_order_30 : decode b_Row_order 30 = .ok (.iload 7, 2) := by decide +kernel
theorem d_Row_order_32 : decode b_Row_order 32 = .ok (.iadd, 1) := by decide +kernel
theorem d_Row_order_33 : decode b_Row_order 33 = .ok (.invokevirtual 33, 3) := by decide +kernel
theorem d_Row_order_36 : decode b_Row_order 36 = .ok (.aload_n 0, 1) := by decide +kernel
theorem d_Row_order_37 : decode b_Row_order 37 = .ok (.iload_n 3, 1) := by decide +kernel
theorem d_Row_order_38 : decode b_Row_order 38 = .ok (.iload 7, 2) := by decide +kernel
theorem d_Row_order_40 : decode b_Row_order 40 = .ok (.iadd, 1) := by decide +kernel
theorem d_Row_order_41 : decode b_Row_order 41 = .ok (.invokevirtual 33, 3) := by decide +kernel
theorem d_Row_order_44 : decode b_Row_order 44 = .ok (.isub, 1) := by decide +kernel
theorem d_Row_order_45 : decode b_Row_order 45 = .ok (.istore 8, 2) := by decide +kernel
theorem d_Row_order_47 : decode b_Row_order 47 = .ok (.iload 8, 2) := by decide +kernel
theorem d_Row_order_49 : decode b_Row_order 49 = .ok (.ifCond .eq 6, 3) := by decide +kernel
theorem d_Row_order_52 : decode b_Row_order 52 = .ok (.iload 8, 2) := by decide +kernel
theorem d_Row_order_54 : decode b_Row_order 54 = .ok (.ireturn, 1) := by decide +kernel
theorem d_Row_order_55 : decode b_Row_order 55 = .ok (.iinc 7 1, 3) := by decide +kernel
theorem d_Row_order_58 : decode b_Row_order 58 = .ok (.goto (-44), 3) := by decide +kernel
theorem d_Row_order_61 : decode b_Row_order 61 = .ok (.iload 5, 2) := by decide +kernel
theorem d_Row_order_63 : decode b_Row_order 63 = .ok (.iload 6, 2) := by decide +kernel
theorem d_Row_order_65 : decode b_Row_order 65 = .ok (.isub, 1) := by decide +kernel
theorem d_Row_order_66 : decode b_Row_order 66 = .ok (.ireturn, 1) := by decide +kernel
set_option maxHeartbeats 4000000 in
set_option maxRecDepth 100000 in
theorem c_Row_order {l : Launch} {s0 : State} {D : va_G} {aC : Nat → ClassId} {a0 : Array Value} (G : gG l s0 D aC a0) (M : gMem) (r : gRef) (ow : Int64) (i : Nat) (hi : i < 6) (n : Nat) (hn : n ≤ nRow i) (hs : M 0 i = nI n) (hc : ∀ j, cOK (M (10 + i) j)) (a b x y : Nat) (hax : a + x ≤ n) (hby : b + y ≤ n) : gMet l s0 D aC y_Row_order (Cond.code y_Row_order b_Row_order 9 (some .int)) 1 40 0 0 [.ref (s0.heap.size + oRow i), .int (nI a), .int (nI (a + x)), .int (nI b), .int (nI (b + y))] M r ow (fun v M1 r1 => v = some (.int (gOrd (M (10 + i)) a b (nI x - nI y) (min x y))) ∧ M1 = M ∧ r1 = r) (fun _ _ _ => False) := by
  refine gm_of G (by decide) (Nat.le_of_ble_eq_true rfl) ?_
  intro p e s m below meth c ls B hexc hl hw
  have hx := B.1
  have hb := B.2.1
  have hown := B.2.2.2.2.2.1
  have T := B.2.2.2.2.2.2.1
  have hK := B.2.2.2.2.2.2.2.1
  have hb1 : n < 2 ^ 31 := by have := nRow_lt i hi; omega
  have ha9 : nI (a + x) - nI a = nI x := by rw [pk_sub (Nat.le_add_right _ _)]; exact congrArg nI (by omega)
  have hb9 : nI (b + y) - nI b = nI y := by rw [pk_sub (Nat.le_add_right _ _)]; exact congrArg nI (by omega)
  have key : ∀ (d k : Nat), k + d = min x y → ∀ (H : Heap) (locs : List Loc) (ls : Array Slot), lv_has ls 9 [(7, .int (nI k)), (6, .int (nI y)), (5, .int (nI x)), (0, .ref (s0.heap.size + oRow i)), (1, .int (nI a)), (2, .int (nI (a + x))), (3, .int (nI b)), (4, .int (nI (b + y)))] → gWd s0 D aC (M) (r) ow H locs → gOrd (M (10 + i)) a b (nI x - nI y) (min x y) = gOrd (M (10 + i)) (a + k) (b + k) (nI x - nI y) d → W p l e (gRm 1 40 0 0) s m ([.ref (s0.heap.size + oRow i), .int (nI a), .int (nI (a + x)), .int (nI b), .int (nI (b + y))] : List Value).toArray below meth c H locs 0 0 (gt_Q below (gQ s0 D aC ow (fun v M1 r1 => v = some (.int (gOrd (M (10 + i)) a b (nI x - nI y) (min x y))) ∧ M1 = M ∧ r1 = r) (fun _ _ _ => False)) s 0 0 0 0 (fun q => s0.heap.size ≤ q)) (F0 m 14 ls []) := by
    intro d
    induction d with
    | zero =>
      intro k hd H locs ls hl hw
      intro hI
      by_cases hxk : x ≤ k
      · skip
        refine lv_iload hx hb d_Row_order_14 (lv_at hl 0 rfl) ?_
        refine lv_iload hx hb d_Row_order_16 (lv_at hl 2 rfl) ?_
        refine lv_icmp_ge hx hb d_Row_order_18 rfl (fun h18 => ?_) (fun h18 => absurd (nI_le hxk (by omega)) h18)
        refine lv_iload hx hb d_Row_order_61 (lv_at hl 2 rfl) ?_
        refine lv_iload hx hb d_Row_order_63 (lv_at hl 1 rfl) ?_
        refine lv_isub hx hb d_Row_order_65 ?_
        exact gr_i B hw d_Row_order_66 ⟨by rw [hI]; rfl, rfl, rfl⟩
      · skip
        refine lv_iload hx hb d_Row_order_14 (lv_at hl 0 rfl) ?_
        refine lv_iload hx hb d_Row_order_16 (lv_at hl 2 rfl) ?_
        refine lv_icmp_ge hx hb d_Row_order_18 rfl (fun h18 => absurd h18 (nI_ge (by omega) (by omega))) (fun h18 => ?_)
        refine lv_iload hx hb d_Row_order_21 (lv_at hl 0 rfl) ?_
        refine lv_iload hx hb d_Row_order_23 (lv_at hl 1 rfl) ?_
        refine lv_icmp_ge hx hb d_Row_order_25 rfl (fun h25 => ?_) (fun h25 => absurd (nI_le (by omega) (by omega)) h25)
        refine lv_iload hx hb d_Row_order_61 (lv_at hl 2 rfl) ?_
        refine lv_iload hx hb d_Row_order_63 (lv_at hl 1 rfl) ?_
        refine lv_isub hx hb d_Row_order_65 ?_
        exact gr_i B hw d_Row_order_66 ⟨by rw [hI]; rfl, rfl, rfl⟩
    | succ d ih =>
      intro k hd H locs ls hl hw
      intro hI
      refine lv_iload hx hb d_Row_order_14 (lv_at hl 0 rfl) ?_
      refine lv_iload hx hb d_Row_order_16 (lv_at hl 2 rfl) ?_
      refine lv_icmp_ge hx hb d_Row_order_18 rfl (fun h18 => absurd h18 (nI_ge (by omega) (by omega))) (fun h18 => ?_)
      refine lv_iload hx hb d_Row_order_21 (lv_at hl 0 rfl) ?_
      refine lv_iload hx hb d_Row_order_23 (lv_at hl 1 rfl) ?_
      refine lv_icmp_ge hx hb d_Row_order_25 rfl (fun h25 => absurd h25 (nI_ge (by omega) (by omega))) (fun h25 => ?_)
      refine lv_aload_n hx hb d_Row_order_28 rfl (lv_at hl 3 rfl) ?_
      refine lv_iload_n hx hb d_Row_order_29 rfl (lv_at hl 4 rfl) ?_
      refine lv_iload hx hb d_Row_order_30 (lv_at hl 0 rfl) ?_
      refine lv_iadd hx hb d_Row_order_32 ?_
      rw [nI_add]
      refine gy_V (As := [.int (nI (a + k))]) B hl.1 hw (c_Row_at G M r ow i hi n hn hs hc (nI (a + k))) (kd_Row_at T) (ki_Row T) (km_Row_33 T) (ka_Row_at T) (ks_Row_at T) ⟨by decide, by decide, by rfl⟩ (rv_Row hK hw (i := i) hi rfl) rfl (Nat.le_of_ble_eq_true rfl) ⟨by decide, by decide⟩ ⟨by decide, by decide⟩ d_Row_order_33 (fun v M1 r1 H locs hw hp => ?_) (fun x ek M1 r1 H locs hw hE hp => hp.elim)
      obtain ⟨rfl, hM1, hr1⟩ := hp
      rw [hM1, hr1] at hw
      clear hM1 hr1
      rw [cAt_in hs (by omega) (by omega)]
      refine lv_aload_n hx hb d_Row_order_36 rfl (lv_at hl 3 rfl) ?_
      refine lv_iload_n hx hb d_Row_order_37 rfl (lv_at hl 6 rfl) ?_
      refine lv_iload hx hb d_Row_order_38 (lv_at hl 0 rfl) ?_
      refine lv_iadd hx hb d_Row_order_40 ?_
      rw [nI_add]
      refine gy_V (As := [.int (nI (b + k))]) B hl.1 hw (c_Row_at G M r ow i hi n hn hs hc (nI (b + k))) (kd_Row_at T) (ki_Row T) (km_Row_33 T) (ka_Row_at T) (ks_Row_at T) ⟨by decide, by decide, by rfl⟩ (rv_Row hK hw (i := i) hi rfl) rfl (Nat.le_of_ble_eq_true rfl) ⟨by decide, by decide⟩ ⟨by decide, by decide⟩ d_Row_order_41 (fun v M1 r1 H locs hw hp => ?_) (fun x ek M1 r1 H locs hw hE hp => hp.elim)
      obtain ⟨rfl, hM1, hr1⟩ := hp
      rw [hM1, hr1] at hw
      clear hM1 hr1
      rw [cAt_in hs (by omega) (by omega)]
      refine lv_isub hx hb d_Row_order_44 ?_
      refine lv_istore hx hb d_Row_order_45 hl (by decide) rfl (fun ls hl => ?_)
      refine lv_iload hx hb d_Row_order_47 (lv_at hl 0 rfl) ?_
      refine lv_if_eq hx hb d_Row_order_49 rfl (fun h49 => ?_) (fun h49 => ?_)
      · skip
        refine lv_iinc (k := 1) hx hb d_Row_order_55 hl rfl (show _ + Int32.ofInt 1 = _ + 1 from rfl) (by decide) rfl (fun ls hl => ?_)
        refine lv_goto hx hb d_Row_order_58 rfl ?_
        rw [nI_1] at hl
        exact ih (k + 1) (by omega) _ _ _ (gv_loc hl [0, 2, 3, 4, 5, 6, 7, 8] rfl) hw (hI.trans (gOrd_go h49))
      · skip
        refine lv_iload hx hb d_Row_order_52 (lv_at hl 0 rfl) ?_
        exact gr_i B hw d_Row_order_54 ⟨by rw [hI, gOrd_ne h49], rfl, rfl⟩
  refine lv_iload_n hx hb d_Row_order_0 rfl (lv_at hl 2 rfl) ?_
  refine lv_iload_n hx hb d_Row_order_1 rfl (lv_at hl 1 rfl) ?_
  refine lv_isub hx hb d_Row_order_2 ?_
  rw [ha9]
  refine lv_istore hx hb d_Row_order_3 hl (by decide) rfl (fun ls hl => ?_)
  refine lv_iload hx hb d_Row_order_5 (lv_at hl 5 rfl) ?_
  refine lv_iload_n hx hb d_Row_order_7 rfl (lv_at hl 4 rfl) ?_
  refine lv_isub hx hb d_Row_order_8 ?_
  rw [hb9]
  refine lv_istore hx hb d_Row_order_9 hl (by decide) rfl (fun ls hl => ?_)
  refine lv_iconst (v := 0) hx hb d_Row_order_11 (by decide) ?_
  refine lv_istore hx hb d_Row_order_12 hl (by decide) rfl (fun ls hl => ?_)
  exact key (min x y) 0 (by omega) _ _ _ hl hw rfl
