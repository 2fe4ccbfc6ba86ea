/-! rows compared; retype, keep and same in general -/
theorem cAt_in {M : gMem} {i n k : Nat} (hs : M 0 i = nI n) (hk : k < n) (hn : n < 2 ^ 31) : cAt M i (nI k) = M (10 + i) k := by
  unfold cAt
  rw [if_neg (nI_pos (by omega)), if_neg (by rw [hs]; exact nI_ge hk hn), nI_clamp (by omega)]
/-- two rows hold the same -/
def gSame (M : gMem) (i o n n2 : Nat) : Prop := n = n2 ∧ ∀ j, j < n → M (10 + i) j = M (10 + o) j
theorem d_Row_holdsSameAs_0 : decode b_Row_holdsSameAs 0 = .ok (.aload_n 0, 1) := by decide +kernel
theorem d_Row_holdsSameAs_1 : decode b_Row_holdsSameAs 1 = .ok (.getfield 9, 3) := by decide +kernel
theorem d_Row_holdsSameAs_4 : decode b_Row_holdsSameAs 4 = .ok (.aload_n 1, 1) := by decide +kernel
theorem d_Row_holdsSameAs_5 : decode b_Row_holdsSameAs 5 = .ok (.getfield 9, 3) := by decide +kernel
theorem d_Row_holdsSameAs_8 : decode b_Row_holdsSameAs 8 = .ok (.if_icmp .eq 5, 3) := by decide +kernel
theorem d_Row_holdsSameAs_11 : decode b_Row_holdsSameAs 11 = .ok (.iconst 0, 1) := by decide +kernel
theorem d_Row_holdsSameAs_12 : decode b_Row_holdsSameAs 12 = .ok (.ireturn, 1) := by decide +kernel
theorem d_Row_holdsSameAs_13 : decode b_Row_holdsSameAs 13 = .ok (.iconst 0, 1) := by decide +kernel
theorem d_Row_holdsSameAs_14 : decode b_Row_holdsSameAs 14 = .ok (.istore_n 2, 1) := by decide +kernel
theorem d_Row_holdsSameAs_15 : decode b_Row_holdsSameAs 15 = .ok (.iload_n 2, 1) := by decide +kernel
theorem d_Row_holdsSameAs_16 : decode b_Row_holdsSameAs 16 = .ok (.aload_n 0, 1) := by decide +kernel
theorem d_Row_holdsSameAs_17 : decode b_Row_holdsSameAs 17 = .ok (.getfield 9, 3) := by decide +kernel
theorem d_Row_holdsSameAs_20 : decode b_Row_holdsSameAs 20 = .ok (.if_icmp .ge 24, 3) := by decide +kernel
theorem d_Row_holdsSameAs_23 : decode b_Row_holdsSameAs 23 = .ok (.aload_n 0, 1) := by decide +kernel
theorem d_Row_holdsSameAs_24 : decode b_Row_holdsSameAs 24 = .ok (.iload_n 2, 1) := by decide +kernel
theorem d_Row_holdsSameAs_25 : decode b_Row_holdsSameAs 25 = .ok (.invokevirtual 33, 3) := by decide +kernel
theorem d_Row_holdsSameAs_28 : decode b_Row_holdsSameAs 28 = .ok (.aload_n 1, 1) := by decide +kernel
theorem d_Row_holdsSameAs_29 : decode b_Row_holdsSameAs 29 = .ok (.iload_n 2, 1) := by decide +kernel
theorem d_Row_holdsSameAs_30 : decode b_Row_holdsSameAs 30 = .ok (.invokevirtual 33, 3) := by decide +kernel
theorem d_Row_holdsSameAs_33 : decode b_Row_holdsSameAs 33 = .ok (.if_icmp .eq 5, 3) := by decide +kernel
theorem d_Row_holdsSameAs_36 : decode b_Row_holdsSameAs 36 = .ok (.iconst 0, 1) := by decide +kernel
theorem d_Row_holdsSameAs_37 : decode b_Row_holdsSameAs 37 = .ok (.ireturn, 1) := by decide +kernel
theorem d_Row_holdsSameAs_38 : decode b_Row_holdsSameAs 38 = .ok (.iinc 2 1, 3) := by decide +kernel
theorem d_Row_holdsSameAs_41 : decode b_Row_holdsSameAs 41 = .ok (.goto (-26), 3) := by decide +kernel
theorem d_Row_holdsSameAs_44 : decode b_Row_holdsSameAs 44 = .ok (.iconst 1, 1) := by decide +kernel
theorem d_Row_holdsSameAs_45 : decode b_Row_holdsSameAs 45 = .ok (.ireturn, 1) := by decide +kernel
set_option maxHeartbeats 4000000 in
set_option maxRecDepth 100000 in
theorem c_Row_holdsSameAs {l : Launch} {s0 : State} {D : va_G} {aC : Nat → ClassId} {a0 : Array Value} (G : gG l s0 D aC a0) (M : gMem) (r : gRef) (ow : Int64) (i o : Nat) (hi : i < 6) (ho : o < 6) (n n2 : Nat) (hn : n ≤ nRow i) (hn2 : n2 ≤ nRow o) (hs : M 0 i = nI n) (hs2 : M 0 o = nI n2) (hc : ∀ j, cOK (M (10 + i) j)) (hc2 : ∀ j, cOK (M (10 + o) j)) : gMet l s0 D aC y_Row_holdsSameAs (Cond.code y_Row_holdsSameAs b_Row_holdsSameAs 3 (some .boolean)) 1 40 0 0 [.ref (s0.heap.size + oRow i), .ref (s0.heap.size + oRow o)] M r ow (fun v M1 r1 => ((v = some (.int 1) ∧ gSame M i o n n2) ∨ (v = some (.int 0) ∧ ¬ gSame M i o n n2)) ∧ M1 = M ∧ r1 = r) (fun _ _ _ => False) := by
  refine gm_of G (by decide) (Nat.le_of_ble_eq_true rfl) ?_
  intro p e s m below meth c ls B hexc hl hw
  have hx := B.1
  have hb := B.2.1
  have hown := B.2.2.2.2.2.1
  have T := B.2.2.2.2.2.2.1
  have hK := B.2.2.2.2.2.2.2.1
  have hb1 : n < 2 ^ 31 := by have := nRow_lt i hi; omega
  have hb2 : n2 < 2 ^ 31 := by have := nRow_lt o ho; omega
  by_cases hnn : n = n2
  · skip
    have key : ∀ (d k : Nat), k + d = n → ∀ (H : Heap) (locs : List Loc) (ls : Array Slot), lv_has ls 3 [(2, .int (nI k)), (0, .ref (s0.heap.size + oRow i)), (1, .ref (s0.heap.size + oRow o))] → gWd s0 D aC (M) (r) ow H locs → (∀ j, j < k → M (10 + i) j = M (10 + o) j) → W p l e (gRm 1 40 0 0) s m ([.ref (s0.heap.size + oRow i), .ref (s0.heap.size + oRow o)] : List Value).toArray below meth c H locs 0 0 (gt_Q below (gQ s0 D aC ow (fun v M1 r1 => ((v = some (.int 1) ∧ gSame M i o n n2) ∨ (v = some (.int 0) ∧ ¬ gSame M i o n n2)) ∧ M1 = M ∧ r1 = r) (fun _ _ _ => False)) s 0 0 0 0 (fun q => s0.heap.size ≤ q)) (F0 m 15 ls []) := by
      intro d
      induction d with
      | zero =>
        intro k hd H locs ls hl hw
        intro hE
        refine lv_iload_n hx hb d_Row_holdsSameAs_15 rfl (lv_at hl 0 rfl) ?_
        refine lv_aload_n hx hb d_Row_holdsSameAs_16 rfl (lv_at hl 1 rfl) ?_
        refine gf_Row_size hx hb T hown hK hw (i := i) hi rfl (kf_Row_9 T) d_Row_holdsSameAs_17 ?_
        refine lv_icmp_ge hx hb d_Row_holdsSameAs_20 rfl (fun h20 => ?_) (fun h20 => absurd (by rw [hs]; exact nI_le (by omega) (by omega)) h20)
        refine lv_iconst (v := 1) hx hb d_Row_holdsSameAs_44 (by decide) ?_
        exact gr_z B hw (by rfl) d_Row_holdsSameAs_45 ⟨Or.inl ⟨rfl, hnn, fun j hj => hE j (by omega)⟩, rfl, rfl⟩
      | succ d ih =>
        intro k hd H locs ls hl hw
        intro hE
        refine lv_iload_n hx hb d_Row_holdsSameAs_15 rfl (lv_at hl 0 rfl) ?_
        refine lv_aload_n hx hb d_Row_holdsSameAs_16 rfl (lv_at hl 1 rfl) ?_
        refine gf_Row_size hx hb T hown hK hw (i := i) hi rfl (kf_Row_9 T) d_Row_holdsSameAs_17 ?_
        refine lv_icmp_ge hx hb d_Row_holdsSameAs_20 rfl (fun h20 => absurd h20 (by rw [hs]; exact nI_ge (by omega) (by omega))) (fun h20 => ?_)
        refine lv_aload_n hx hb d_Row_holdsSameAs_23 rfl (lv_at hl 1 rfl) ?_
        refine lv_iload_n hx hb d_Row_holdsSameAs_24 rfl (lv_at hl 0 rfl) ?_
        refine gy_V (As := [.int (nI k)]) B hl.1 hw (c_Row_at G M r ow i hi n hn hs hc (nI k)) (kd_Row_at T) (ki_Row T) (km_Row_33 T) (ka_Row_at T) (ks_Row_at T) ⟨by decide, by decide, by rfl⟩ (rv_Row hK hw (i := i) hi rfl) rfl (Nat.le_of_ble_eq_true rfl) ⟨by decide, by decide⟩ ⟨by decide, by decide⟩ d_Row_holdsSameAs_25 (fun v M1 r1 H locs hw hp => ?_) (fun x ek M1 r1 H locs hw hE hp => hp.elim)
        obtain ⟨rfl, hM1, hr1⟩ := hp
        rw [hM1, hr1] at hw
        clear hM1 hr1
        rw [cAt_in hs (by omega) (by omega)]
        refine lv_aload_n hx hb d_Row_holdsSameAs_28 rfl (lv_at hl 2 rfl) ?_
        refine lv_iload_n hx hb d_Row_holdsSameAs_29 rfl (lv_at hl 0 rfl) ?_
        refine gy_V (As := [.int (nI k)]) B hl.1 hw (c_Row_at G M r ow o ho n2 hn2 hs2 hc2 (nI k)) (kd_Row_at T) (ki_Row T) (km_Row_33 T) (ka_Row_at T) (ks_Row_at T) ⟨by decide, by decide, by rfl⟩ (rv_Row hK hw (i := o) ho rfl) rfl (Nat.le_of_ble_eq_true rfl) ⟨by decide, by decide⟩ ⟨by decide, by decide⟩ d_Row_holdsSameAs_30 (fun v M1 r1 H locs hw hp => ?_) (fun x ek M1 r1 H locs hw hE hp => hp.elim)
        obtain ⟨rfl, hM1, hr1⟩ := hp
        rw [hM1, hr1] at hw
        clear hM1 hr1
        rw [cAt_in hs2 (by omega) (by omega)]
        refine lv_icmp_eq hx hb d_Row_holdsSameAs_33 rfl (fun h33 => ?_) (fun h33 => ?_)
        · skip
          refine lv_iinc (k := 0) hx hb d_Row_holdsSameAs_38 hl rfl (show _ + Int32.ofInt 1 = _ + 1 from rfl) (by decide) rfl (fun ls hl => ?_)
          refine lv_goto hx hb d_Row_holdsSameAs_41 rfl ?_
          exact ih (k + 1) (by omega) _ _ _ (by rw [nI_1] at hl; exact hl) hw (fun j hj => by
            rcases Nat.lt_or_ge j k with q | q
            · exact hE j q
            · rw [show j = k by omega]; exact h33)
        · skip
          refine lv_iconst (v := 0) hx hb d_Row_holdsSameAs_36 (by decide) ?_
          exact gr_z B hw (by rfl) d_Row_holdsSameAs_37 ⟨Or.inr ⟨rfl, fun h => h33 (h.2 k (by omega))⟩, rfl, rfl⟩
    refine lv_aload_n hx hb d_Row_holdsSameAs_0 rfl (lv_at hl 0 rfl) ?_
    refine gf_Row_size hx hb T hown hK hw (i := i) hi rfl (kf_Row_9 T) d_Row_holdsSameAs_1 ?_
    refine lv_aload_n hx hb d_Row_holdsSameAs_4 rfl (lv_at hl 1 rfl) ?_
    refine gf_Row_size hx hb T hown hK hw (i := o) ho rfl (kf_Row_9 T) d_Row_holdsSameAs_5 ?_
    refine lv_icmp_eq hx hb d_Row_holdsSameAs_8 rfl (fun h8 => ?_) (fun h8 => absurd (by rw [hs, hs2, hnn]) h8)
    refine lv_iconst (v := 0) hx hb d_Row_holdsSameAs_13 (by decide) ?_
    refine lv_istore_n hx hb d_Row_holdsSameAs_14 rfl hl (by decide) rfl (fun ls hl => ?_)
    exact key n 0 (by omega) _ _ _ hl hw (fun j hj => absurd hj (by omega))
  · skip
    refine lv_aload_n hx hb d_Row_holdsSameAs_0 rfl (lv_at hl 0 rfl) ?_
    refine gf_Row_size hx hb T hown hK hw (i := i) hi rfl (kf_Row_9 T) d_Row_holdsSameAs_1 ?_
    refine lv_aload_n hx hb d_Row_holdsSameAs_4 rfl (lv_at hl 1 rfl) ?_
    refine gf_Row_size hx hb T hown hK hw (i := o) ho rfl (kf_Row_9 T) d_Row_holdsSameAs_5 ?_
    refine lv_icmp_eq hx hb d_Row_holdsSameAs_8 rfl (fun h8 => absurd h8 (by rw [hs, hs2]; exact fun h => hnn ((nI_eq hb1 hb2).mp h))) (fun h8 => ?_)
    refine lv_iconst (v := 0) hx hb d_Row_holdsSameAs_11 (by decide) ?_
    exact gr_z B hw (by rfl) d_Row_holdsSameAs_12 ⟨Or.inr ⟨rfl, fun h => hnn h.1⟩, rfl, rfl⟩
