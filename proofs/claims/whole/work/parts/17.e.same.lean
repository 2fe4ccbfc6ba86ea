/-! The reference's same with a tree -/
def gSaM (M : gMem) (n : Nat) : Prop := M 128 0 ≠ 0 ∧ M 129 0 = nI n ∧ ∀ j, j < n → M 130 j = M 127 j
set_option maxHeartbeats 4000000 in
set_option maxRecDepth 100000 in
theorem c_Mo_same_1 {l : Launch} {s0 : State} {D : va_G} {aC : Nat → ClassId} {a0 : Array Value} (G : gG l s0 D aC a0) (M : gMem) (r : gRef) (ow : Int64) (h1 : M 106 0 = 1) (n : Nat) (hn : n ≤ 1440) (hs : M 126 0 = nI n) : gMet l s0 D aC y_Mo_same (Cond.code y_Mo_same b_Mo_same 3 (some .boolean)) 0 0 0 0 [.ref (s0.heap.size + 383)] M r ow (fun v M1 r1 => ((v = some (.int 1) ∧ gSaM M n) ∨ (v = some (.int 0) ∧ ¬ gSaM M n)) ∧ M1 = mS M 100 0 0 ∧ r1 = r) (fun _ _ _ => False) := by
  refine gm_of G (by decide) (Nat.le_of_ble_eq_true rfl) ?_
  intro p e s m below meth c ls B hexc hl hw
  have hx := B.1
  have hb := B.2.1
  have hown := B.2.2.2.2.2.1
  have T := B.2.2.2.2.2.2.1
  have hK := B.2.2.2.2.2.2.2.1
  have key0 : ∀ (k : Nat) (H : Heap) (locs : List Loc) (ls : Array Slot), lv_has ls 3 [(2, .int (nI k)), (1, .int 0), (0, .ref (s0.heap.size + 383))] → gWd s0 D aC (mS M 100 0 0) r ow H locs → ¬ gSaM M n → W p l e (gRm 0 0 0 0) s m ([.ref (s0.heap.size + 383)] : List Value).toArray below meth c H locs 0 0 (gt_Q below (gQ s0 D aC ow (fun v M1 r1 => ((v = some (.int 1) ∧ gSaM M n) ∨ (v = some (.int 0) ∧ ¬ gSaM M n)) ∧ M1 = mS M 100 0 0 ∧ r1 = r) (fun _ _ _ => False)) s 0 0 0 0 (fun q => s0.heap.size ≤ q)) (F0 m 38 ls []) := by
    intro k H locs ls hl hw hne
    refine lv_iload_n hx hb d_Mo_same_38 rfl (lv_at hl 0 rfl) ?_
    refine lv_aload_n hx hb d_Mo_same_39 rfl (lv_at hl 2 rfl) ?_
    refine gf_Mo_formed hx hb T hown hK hw rfl (kf_Mo_221 T) d_Mo_same_40 ?_
    refine lv_icmp_ge hx hb d_Mo_same_43 rfl (fun h43 => ?_) (fun h43 => ?_)
    · skip
      refine lv_iload_n hx hb d_Mo_same_77 rfl (lv_at hl 1 rfl) ?_
      exact gr_z B hw (by rfl) d_Mo_same_78 ⟨Or.inr ⟨rfl, hne⟩, rfl, rfl⟩
    · skip
      refine lv_iload_n hx hb d_Mo_same_46 rfl (lv_at hl 1 rfl) ?_
      refine lv_if_eq hx hb d_Mo_same_47 rfl (fun h47 => ?_) (fun h47 => absurd rfl h47)
      refine lv_iload_n hx hb d_Mo_same_77 rfl (lv_at hl 1 rfl) ?_
      exact gr_z B hw (by rfl) d_Mo_same_78 ⟨Or.inr ⟨rfl, hne⟩, rfl, rfl⟩
  have key : ∀ (d k : Nat), k + d = n → ∀ (H : Heap) (locs : List Loc) (ls : Array Slot), lv_has ls 3 [(2, .int (nI k)), (1, .int 1), (0, .ref (s0.heap.size + 383))] → gWd s0 D aC (mS M 100 0 0) (r) ow H locs → M 128 0 ≠ 0 → M 129 0 = nI n → (∀ j, j < k → M 130 j = M 127 j) → W p l e (gRm 0 0 0 0) s m ([.ref (s0.heap.size + 383)] : List Value).toArray below meth c H locs 0 0 (gt_Q below (gQ s0 D aC ow (fun v M1 r1 => ((v = some (.int 1) ∧ gSaM M n) ∨ (v = some (.int 0) ∧ ¬ gSaM M n)) ∧ M1 = mS M 100 0 0 ∧ r1 = r) (fun _ _ _ => False)) s 0 0 0 0 (fun q => s0.heap.size ≤ q)) (F0 m 38 ls []) := by
    intro d
    induction d with
    | zero =>
      intro k hd H locs ls hl hw
      intro h128 h129 hE
      refine lv_iload_n hx hb d_Mo_same_38 rfl (lv_at hl 0 rfl) ?_
      refine lv_aload_n hx hb d_Mo_same_39 rfl (lv_at hl 2 rfl) ?_
      refine gf_Mo_formed hx hb T hown hK hw rfl (kf_Mo_221 T) d_Mo_same_40 ?_
      refine lv_icmp_ge hx hb d_Mo_same_43 rfl (fun h43 => ?_) (fun h43 => absurd (by rw [mS_tag M (t := 100) (t2 := 126) _ _ _ (by decide), hs]; exact nI_le (by omega) (by omega)) h43)
      refine lv_iload_n hx hb d_Mo_same_77 rfl (lv_at hl 1 rfl) ?_
      exact gr_z B hw (by rfl) d_Mo_same_78 ⟨Or.inl ⟨rfl, h128, h129, fun j hj => hE j (by omega)⟩, rfl, rfl⟩
    | succ d ih =>
      intro k hd H locs ls hl hw
      intro h128 h129 hE
      refine lv_iload_n hx hb d_Mo_same_38 rfl (lv_at hl 0 rfl) ?_
      refine lv_aload_n hx hb d_Mo_same_39 rfl (lv_at hl 2 rfl) ?_
      refine gf_Mo_formed hx hb T hown hK hw rfl (kf_Mo_221 T) d_Mo_same_40 ?_
      refine lv_icmp_ge hx hb d_Mo_same_43 rfl (fun h43 => absurd h43 (by rw [mS_tag M (t := 100) (t2 := 126) _ _ _ (by decide), hs]; exact nI_ge (by omega) (by omega))) (fun h43 => ?_)
      refine lv_iload_n hx hb d_Mo_same_46 rfl (lv_at hl 1 rfl) ?_
      refine lv_if_eq hx hb d_Mo_same_47 rfl (fun h47 => absurd h47 (by decide)) (fun h47 => ?_)
      refine lv_aload_n hx hb d_Mo_same_50 rfl (lv_at hl 2 rfl) ?_
      refine gf_Mo_keptForm hx hb T hown hK hw rfl (kf_Mo_62 T) d_Mo_same_51 ?_
      refine lv_iload_n hx hb d_Mo_same_54 rfl (lv_at hl 0 rfl) ?_
      refine ga_Mo_keptForm (x := nI k) hx hb hK hw rfl (gi_in0 (by omega) (by decide)) d_Mo_same_55 ?_
      rw [nI_clamp (n := k) (by omega), mS_tag M (t := 100) (t2 := 130) _ _ _ (by decide)]
      refine lv_aload_n hx hb d_Mo_same_56 rfl (lv_at hl 2 rfl) ?_
      refine gf_Mo_written hx hb T hown hK hw rfl (kf_Mo_59 T) d_Mo_same_57 ?_
      refine lv_iload_n hx hb d_Mo_same_60 rfl (lv_at hl 0 rfl) ?_
      refine ga_Mo_written (x := nI k) hx hb hK hw rfl (gi_in0 (by omega) (by decide)) d_Mo_same_61 ?_
      rw [nI_clamp (n := k) (by omega), mS_tag M (t := 100) (t2 := 127) _ _ _ (by decide)]
      refine lv_icmp_ne hx hb d_Mo_same_62 rfl (fun h62 => ?_) (fun h62 => ?_)
      · skip
        refine lv_iconst (v := 0) hx hb d_Mo_same_69 (by decide) ?_
        refine lv_istore_n hx hb d_Mo_same_70 rfl hl (by decide) rfl (fun ls hl => ?_)
        refine lv_iinc (k := 1) hx hb d_Mo_same_71 hl rfl (show _ + Int32.ofInt 1 = _ + 1 from rfl) (by decide) rfl (fun ls hl => ?_)
        refine lv_goto hx hb d_Mo_same_74 rfl ?_
        rw [nI_1] at hl
        first | exact key0 (k + 1) _ _ _ hl hw (fun h => h62 (h.2.2 k (by omega))) | exact ih (k + 1) (by omega) _ _ _ hl hw h128 h129 (fun j hj => by
          rcases Nat.lt_or_ge j k with q | q
          · exact hE j q
          · rw [show j = k by omega]; exact h62)
      · skip
        refine lv_iconst (v := 1) hx hb d_Mo_same_65 (by decide) ?_
        refine lv_goto hx hb d_Mo_same_66 rfl ?_
        refine lv_istore_n hx hb d_Mo_same_70 rfl hl (by decide) rfl (fun ls hl => ?_)
        refine lv_iinc (k := 1) hx hb d_Mo_same_71 hl rfl (show _ + Int32.ofInt 1 = _ + 1 from rfl) (by decide) rfl (fun ls hl => ?_)
        refine lv_goto hx hb d_Mo_same_74 rfl ?_
        rw [nI_1] at hl
        first | exact key0 (k + 1) _ _ _ hl hw (fun h => h62 (h.2.2 k (by omega))) | exact ih (k + 1) (by omega) _ _ _ hl hw h128 h129 (fun j hj => by
          rcases Nat.lt_or_ge j k with q | q
          · exact hE j q
          · rw [show j = k by omega]; exact h62)
  by_cases h128 : M 128 0 = 0
  · skip
    refine lv_aload_n hx hb d_Mo_same_0 rfl (lv_at hl 0 rfl) ?_
    refine lv_iconst (v := 0) hx hb d_Mo_same_1 (by decide) ?_
    refine pf_Mo_thrown hx hb T hown hK hw rfl (kf_Mo_65 T) d_Mo_same_2 (fun H locs hw => ?_)
    refine lv_aload_n hx hb d_Mo_same_5 rfl (lv_at hl 0 rfl) ?_
    refine gf_Mo_tree hx hb T hown hK hw rfl (kf_Mo_189 T) d_Mo_same_6 ?_
    refine lv_if_eq hx hb d_Mo_same_9 rfl (fun h9 => absurd h9 (by rw [mS_tag M (t := 100) (t2 := 106) _ _ _ (by decide), h1]; decide)) (fun h9 => ?_)
    refine lv_aload_n hx hb d_Mo_same_12 rfl (lv_at hl 0 rfl) ?_
    refine gf_Mo_keeps hx hb T hown hK hw rfl (kf_Mo_263 T) d_Mo_same_13 ?_
    refine lv_if_eq hx hb d_Mo_same_16 rfl (fun h16 => ?_) (fun h16 => absurd (by rw [mS_tag M (t := 100) (t2 := 128) _ _ _ (by decide)]; exact h128) h16)
    refine lv_iconst (v := 0) hx hb d_Mo_same_34 (by decide) ?_
    refine lv_istore_n hx hb d_Mo_same_35 rfl hl (by decide) rfl (fun ls hl => ?_)
    refine lv_iconst (v := 0) hx hb d_Mo_same_36 (by decide) ?_
    refine lv_istore_n hx hb d_Mo_same_37 rfl hl (by decide) rfl (fun ls hl => ?_)
    exact key0 0 _ _ _ hl hw (fun h => h.1 h128)
  · skip
    by_cases h129 : M 129 0 = nI n
    · skip
      refine lv_aload_n hx hb d_Mo_same_0 rfl (lv_at hl 0 rfl) ?_
      refine lv_iconst (v := 0) hx hb d_Mo_same_1 (by decide) ?_
      refine pf_Mo_thrown hx hb T hown hK hw rfl (kf_Mo_65 T) d_Mo_same_2 (fun H locs hw => ?_)
      refine lv_aload_n hx hb d_Mo_same_5 rfl (lv_at hl 0 rfl) ?_
      refine gf_Mo_tree hx hb T hown hK hw rfl (kf_Mo_189 T) d_Mo_same_6 ?_
      refine lv_if_eq hx hb d_Mo_same_9 rfl (fun h9 => absurd h9 (by rw [mS_tag M (t := 100) (t2 := 106) _ _ _ (by decide), h1]; decide)) (fun h9 => ?_)
      refine lv_aload_n hx hb d_Mo_same_12 rfl (lv_at hl 0 rfl) ?_
      refine gf_Mo_keeps hx hb T hown hK hw rfl (kf_Mo_263 T) d_Mo_same_13 ?_
      refine lv_if_eq hx hb d_Mo_same_16 rfl (fun h16 => absurd h16 (by rw [mS_tag M (t := 100) (t2 := 128) _ _ _ (by decide)]; exact h128)) (fun h16 => ?_)
      refine lv_aload_n hx hb d_Mo_same_19 rfl (lv_at hl 0 rfl) ?_
      refine gf_Mo_keptSize hx hb T hown hK hw rfl (kf_Mo_266 T) d_Mo_same_20 ?_
      refine lv_aload_n hx hb d_Mo_same_23 rfl (lv_at hl 0 rfl) ?_
      refine gf_Mo_formed hx hb T hown hK hw rfl (kf_Mo_221 T) d_Mo_same_24 ?_
      refine lv_icmp_ne hx hb d_Mo_same_27 rfl (fun h27 => absurd h27 (fun q => q (by rw [mS_tag M (t := 100) (t2 := 129) _ _ _ (by decide), mS_tag M (t := 100) (t2 := 126) _ _ _ (by decide), h129, hs]))) (fun h27 => ?_)
      refine lv_iconst (v := 1) hx hb d_Mo_same_30 (by decide) ?_
      refine lv_goto hx hb d_Mo_same_31 rfl ?_
      refine lv_istore_n hx hb d_Mo_same_35 rfl hl (by decide) rfl (fun ls hl => ?_)
      refine lv_iconst (v := 0) hx hb d_Mo_same_36 (by decide) ?_
      refine lv_istore_n hx hb d_Mo_same_37 rfl hl (by decide) rfl (fun ls hl => ?_)
      exact key n 0 (by omega) _ _ _ hl hw h128 h129 (fun j hj => absurd hj (by omega))
    · skip
      refine lv_aload_n hx hb d_Mo_same_0 rfl (lv_at hl 0 rfl) ?_
      refine lv_iconst (v := 0) hx hb d_Mo_same_1 (by decide) ?_
      refine pf_Mo_thrown hx hb T hown hK hw rfl (kf_Mo_65 T) d_Mo_same_2 (fun H locs hw => ?_)
      refine lv_aload_n hx hb d_Mo_same_5 rfl (lv_at hl 0 rfl) ?_
      refine gf_Mo_tree hx hb T hown hK hw rfl (kf_Mo_189 T) d_Mo_same_6 ?_
      refine lv_if_eq hx hb d_Mo_same_9 rfl (fun h9 => absurd h9 (by rw [mS_tag M (t := 100) (t2 := 106) _ _ _ (by decide), h1]; decide)) (fun h9 => ?_)
      refine lv_aload_n hx hb d_Mo_same_12 rfl (lv_at hl 0 rfl) ?_
      refine gf_Mo_keeps hx hb T hown hK hw rfl (kf_Mo_263 T) d_Mo_same_13 ?_
      refine lv_if_eq hx hb d_Mo_same_16 rfl (fun h16 => absurd h16 (by rw [mS_tag M (t := 100) (t2 := 128) _ _ _ (by decide)]; exact h128)) (fun h16 => ?_)
      refine lv_aload_n hx hb d_Mo_same_19 rfl (lv_at hl 0 rfl) ?_
      refine gf_Mo_keptSize hx hb T hown hK hw rfl (kf_Mo_266 T) d_Mo_same_20 ?_
      refine lv_aload_n hx hb d_Mo_same_23 rfl (lv_at hl 0 rfl) ?_
      refine gf_Mo_formed hx hb T hown hK hw rfl (kf_Mo_221 T) d_Mo_same_24 ?_
      refine lv_icmp_ne hx hb d_Mo_same_27 rfl (fun h27 => ?_) (fun h27 => absurd h27 (by rw [mS_tag M (t := 100) (t2 := 129) _ _ _ (by decide), mS_tag M (t := 100) (t2 := 126) _ _ _ (by decide), hs]; exact h129))
      refine lv_iconst (v := 0) hx hb d_Mo_same_34 (by decide) ?_
      refine lv_istore_n hx hb d_Mo_same_35 rfl hl (by decide) rfl (fun ls hl => ?_)
      refine lv_iconst (v := 0) hx hb d_Mo_same_36 (by decide) ?_
      refine lv_istore_n hx hb d_Mo_same_37 rfl hl (by decide) rfl (fun ls hl => ?_)
      exact key0 0 _ _ _ hl hw (fun h => h129 h.2.1)
