/-! The contracts of methods, as their functions say -/
set_option maxHeartbeats 4000000 in
set_option maxRecDepth 100000 in
theorem t_Mo_form {l : Launch} {s0 : State} {D : va_G} {aC : Nat → ClassId} {a0 : Array Value} (G : gG l s0 D aC a0) (M : gMem) (r : gRef) (ow : Int64) (fu : Nat)  (hno : F_Mo_form fu M r ≠ .no) : gMet l s0 D aC y_Mo_form (Cond.code y_Mo_form b_Mo_form 1 (some .int)) 0 0 0 0 [.ref (s0.heap.size + 383)] M r ow (qI (F_Mo_form fu M r)) (qT (F_Mo_form fu M r)) := by
  refine gm_of G (by decide) (Nat.le_of_ble_eq_true rfl) ?_
  intro p e s m below meth c ls B hexc hl hw
  have hx := B.1
  have hb := B.2.1
  have hown := B.2.2.2.2.2.1
  have T := B.2.2.2.2.2.2.1
  have hK := B.2.2.2.2.2.2.2.1
  have hF := F_Mo_form.eq_1 fu M r
  refine lv_aload_n hx hb d_Mo_form_0 rfl (lv_at hl 0 rfl) ?_
  refine lv_iconst (v := 0) hx hb d_Mo_form_1 (by decide) ?_
  refine pf_Mo_thrown hx hb T hown hK hw rfl (kf_Mo_65 T) d_Mo_form_2 (fun H locs hw => ?_)
  refine lv_aload_n hx hb d_Mo_form_5 rfl (lv_at hl 0 rfl) ?_
  refine gf_Mo_tree hx hb T hown hK hw rfl (kf_Mo_189 T) d_Mo_form_6 ?_
  refine lv_if_eq hx hb d_Mo_form_9 rfl (fun h2 => ?_) (fun h2 => ?_)
  · skip
    have hF := hF.trans (if_pos h2)
    refine lv_iconst (v := 0) hx hb d_Mo_form_19 (by decide) ?_
    exact gr_i B hw d_Mo_form_20 ⟨_, rfl, hF⟩
  · skip
    have hF := hF.trans (if_neg h2)
    refine lv_aload_n hx hb d_Mo_form_12 rfl (lv_at hl 0 rfl) ?_
    refine gf_Mo_formed hx hb T hown hK hw rfl (kf_Mo_221 T) d_Mo_form_13 ?_
    refine lv_goto hx hb d_Mo_form_16 rfl ?_
    exact gr_i B hw d_Mo_form_20 ⟨_, rfl, hF⟩
set_option maxHeartbeats 4000000 in
set_option maxRecDepth 100000 in
theorem t_Mo_formAt {l : Launch} {s0 : State} {D : va_G} {aC : Nat → ClassId} {a0 : Array Value} (G : gG l s0 D aC a0) (M : gMem) (r : gRef) (ow : Int64) (fu : Nat) (x1 : Int32)  (hno : F_Mo_formAt fu x1 M r ≠ .no) : gMet l s0 D aC y_Mo_formAt (Cond.code y_Mo_formAt b_Mo_formAt 2 (some .char)) 0 0 0 0 [.ref (s0.heap.size + 383), .int x1] M r ow (qI (F_Mo_formAt fu x1 M r)) (qT (F_Mo_formAt fu x1 M r)) := by
  refine gm_of G (by decide) (Nat.le_of_ble_eq_true rfl) ?_
  intro p e s m below meth c ls B hexc hl hw
  have hx := B.1
  have hb := B.2.1
  have hown := B.2.2.2.2.2.1
  have T := B.2.2.2.2.2.2.1
  have hK := B.2.2.2.2.2.2.2.1
  have hF := F_Mo_formAt.eq_1 fu x1 M r
  refine lv_aload_n hx hb d_Mo_formAt_0 rfl (lv_at hl 0 rfl) ?_
  refine lv_aload_n hx hb d_Mo_formAt_1 rfl (lv_at hl 0 rfl) ?_
  refine gf_Mo_tree hx hb T hown hK hw rfl (kf_Mo_189 T) d_Mo_formAt_2 ?_
  refine lv_if_eq hx hb d_Mo_formAt_5 rfl (fun h6 => ?_) (fun h6 => ?_)
  · skip
    have hF := hF.trans (if_pos h6)
    refine lv_iconst (v := 1) hx hb d_Mo_formAt_20 (by decide) ?_
    refine lv_goto hx hb d_Mo_formAt_21 rfl ?_
    refine pf_Mo_thrown hx hb T hown hK hw rfl (kf_Mo_65 T) d_Mo_formAt_25 (fun H locs hw => ?_)
    refine lv_aload_n hx hb d_Mo_formAt_28 rfl (lv_at hl 0 rfl) ?_
    refine gf_Mo_thrown hx hb T hown hK hw rfl (kf_Mo_65 T) d_Mo_formAt_29 ?_
    rw [mS_same]
    refine lv_if_eq hx hb d_Mo_formAt_32 rfl (fun h => absurd h (by decide)) (fun _ => ?_)
    refine lv_iconst (v := 0) hx hb d_Mo_formAt_35 (by decide) ?_
    refine lv_goto hx hb d_Mo_formAt_36 rfl ?_
    exact gr_z B hw (by rfl) d_Mo_formAt_46 ⟨_, rfl, hF⟩
  · skip
    have hF := hF.trans (if_neg h6)
    refine lv_iload_n hx hb d_Mo_formAt_8 rfl (lv_at hl 1 rfl) ?_
    refine lv_if_lt hx hb d_Mo_formAt_9 rfl (fun h7 => ?_) (fun h7 => ?_)
    · skip
      have hF := hF.trans (if_pos h7)
      refine lv_iconst (v := 1) hx hb d_Mo_formAt_20 (by decide) ?_
      refine lv_goto hx hb d_Mo_formAt_21 rfl ?_
      refine pf_Mo_thrown hx hb T hown hK hw rfl (kf_Mo_65 T) d_Mo_formAt_25 (fun H locs hw => ?_)
      refine lv_aload_n hx hb d_Mo_formAt_28 rfl (lv_at hl 0 rfl) ?_
      refine gf_Mo_thrown hx hb T hown hK hw rfl (kf_Mo_65 T) d_Mo_formAt_29 ?_
      rw [mS_same]
      refine lv_if_eq hx hb d_Mo_formAt_32 rfl (fun h => absurd h (by decide)) (fun _ => ?_)
      refine lv_iconst (v := 0) hx hb d_Mo_formAt_35 (by decide) ?_
      refine lv_goto hx hb d_Mo_formAt_36 rfl ?_
      exact gr_z B hw (by rfl) d_Mo_formAt_46 ⟨_, rfl, hF⟩
    · skip
      have hF := hF.trans (if_neg h7)
      refine lv_iload_n hx hb d_Mo_formAt_12 rfl (lv_at hl 1 rfl) ?_
      refine lv_aload_n hx hb d_Mo_formAt_13 rfl (lv_at hl 0 rfl) ?_
      refine gf_Mo_formed hx hb T hown hK hw rfl (kf_Mo_221 T) d_Mo_formAt_14 ?_
      refine lv_icmp_lt hx hb d_Mo_formAt_17 rfl (fun h8 => ?_) (fun h8 => ?_)
      · skip
        have hF := hF.trans (if_pos h8)
        refine lv_iconst (v := 0) hx hb d_Mo_formAt_24 (by decide) ?_
        refine pf_Mo_thrown hx hb T hown hK hw rfl (kf_Mo_65 T) d_Mo_formAt_25 (fun H locs hw => ?_)
        refine lv_aload_n hx hb d_Mo_formAt_28 rfl (lv_at hl 0 rfl) ?_
        refine gf_Mo_thrown hx hb T hown hK hw rfl (kf_Mo_65 T) d_Mo_formAt_29 ?_
        rw [mS_same]
        refine lv_if_eq hx hb d_Mo_formAt_32 rfl (fun _ => ?_) (fun h => absurd h (by decide))
        refine lv_aload_n hx hb d_Mo_formAt_39 rfl (lv_at hl 0 rfl) ?_
        refine gf_Mo_written hx hb T hown hK hw rfl (kf_Mo_59 T) d_Mo_formAt_40 ?_
        refine lv_iload_n hx hb d_Mo_formAt_43 rfl (lv_at hl 1 rfl) ?_
        have g9 := ng hno hF
        have hF := hF.trans (gd_yes g9)
        refine ga_Mo_written hx hb hK hw rfl g9 d_Mo_formAt_44 ?_
        refine lv_i2c (v := iC ((mS M 100 0 0) 127 x1.toNatClampNeg)) hx hb d_Mo_formAt_45 rfl ?_
        have g10 := ng hno hF
        have hF := hF.trans (gd_yes g10)
        exact gr_z B hw g10 d_Mo_formAt_46 ⟨_, rfl, hF⟩
      · skip
        have hF := hF.trans (if_neg h8)
        refine lv_iconst (v := 1) hx hb d_Mo_formAt_20 (by decide) ?_
        refine lv_goto hx hb d_Mo_formAt_21 rfl ?_
        refine pf_Mo_thrown hx hb T hown hK hw rfl (kf_Mo_65 T) d_Mo_formAt_25 (fun H locs hw => ?_)
        refine lv_aload_n hx hb d_Mo_formAt_28 rfl (lv_at hl 0 rfl) ?_
        refine gf_Mo_thrown hx hb T hown hK hw rfl (kf_Mo_65 T) d_Mo_formAt_29 ?_
        rw [mS_same]
        refine lv_if_eq hx hb d_Mo_formAt_32 rfl (fun h => absurd h (by decide)) (fun _ => ?_)
        refine lv_iconst (v := 0) hx hb d_Mo_formAt_35 (by decide) ?_
        refine lv_goto hx hb d_Mo_formAt_36 rfl ?_
        exact gr_z B hw (by rfl) d_Mo_formAt_46 ⟨_, rfl, hF⟩
set_option maxHeartbeats 4000000 in
set_option maxRecDepth 100000 in
theorem t_Mo_retype {l : Launch} {s0 : State} {D : va_G} {aC : Nat → ClassId} {a0 : Array Value} (G : gG l s0 D aC a0) (M : gMem) (r : gRef) (ow : Int64) (fu : Nat)  (hno : F_Mo_retype fu M r ≠ .no) : gMet l s0 D aC y_Mo_retype (Cond.code y_Mo_retype b_Mo_retype 2 (some .int)) 0 0 0 0 [.ref (s0.heap.size + 383)] M r ow (qI (F_Mo_retype fu M r)) (qT (F_Mo_retype fu M r)) := by
  refine gm_of G (by decide) (Nat.le_of_ble_eq_true rfl) ?_
  intro p e s m below meth c ls B hexc hl hw
  have hx := B.1
  have hb := B.2.1
  have hown := B.2.2.2.2.2.1
  have T := B.2.2.2.2.2.2.1
  have hK := B.2.2.2.2.2.2.2.1
  have X71 : ∀ (M1 : gMem) (r1 : gRef) (H : Heap) (locs : List Loc) (ls : Array Slot), lv_has ls 2 [(0, .ref (s0.heap.size + 383))] → gWd s0 D aC M1 r1 ow H locs → F_Mo_retype fu M r = F_Mo_retype_B71 fu M1 r1 → W p l e (gRm 0 0 0 0) s m ([.ref (s0.heap.size + 383)] : List Value).toArray below meth c H locs 0 0 (gt_Q below (gQ s0 D aC ow (qI (F_Mo_retype fu M r)) (qT (F_Mo_retype fu M r))) s 0 0 0 0 (fun q => s0.heap.size ≤ q)) (F0 m 71 ls []) := by
    intro  M1 r1 H locs ls hl hw hF
    have hF := hF.trans (F_Mo_retype_B71.eq_1 _ _ _)
    refine lv_aload_n hx hb d_Mo_retype_71 rfl (lv_at hl 0 rfl) ?_
    refine gf_Mo_typed hx hb T hown hK hw rfl (kf_Mo_72 T) d_Mo_retype_72 ?_
    exact gr_i B hw d_Mo_retype_75 ⟨_, rfl, hF⟩
  have L45 : ∀ (d : Nat) (x1 : Int32) (M1 : gMem) (r1 : gRef) (H : Heap) (locs : List Loc) (ls : Array Slot), lv_has ls 2 [(1, .int x1), (0, .ref (s0.heap.size + 383))] → gWd s0 D aC M1 r1 ow H locs → F_Mo_retype fu M r = F_Mo_retype_L45 fu d x1 M1 r1 → W p l e (gRm 0 0 0 0) s m ([.ref (s0.heap.size + 383)] : List Value).toArray below meth c H locs 0 0 (gt_Q below (gQ s0 D aC ow (qI (F_Mo_retype fu M r)) (qT (F_Mo_retype fu M r))) s 0 0 0 0 (fun q => s0.heap.size ≤ q)) (F0 m 45 ls []) := by
    intro d
    induction d with
    | zero => intro x1 M1 r1 H locs ls hl hw hF; exact absurd hF hno
    | succ d ih =>
      intro x1 M1 r1 H locs ls hl hw hF
      have hF := hF.trans (F_Mo_retype_L45.eq_2 _ _ _ _ _)
      refine lv_iload_n hx hb d_Mo_retype_45 rfl (lv_at hl 0 rfl) ?_
      refine lv_aload_n hx hb d_Mo_retype_46 rfl (lv_at hl 1 rfl) ?_
      refine gf_Mo_formed hx hb T hown hK hw rfl (kf_Mo_221 T) d_Mo_retype_47 ?_
      refine lv_icmp_ge hx hb d_Mo_retype_50 rfl (fun h6 => ?_) (fun h6 => ?_)
      · skip
        have hF := hF.trans (if_pos h6)
        exact X71  _ _ _ _ _ (gv_loc hl [1] rfl) hw hF
      · skip
        have hF := hF.trans (if_neg h6)
        refine lv_aload_n hx hb d_Mo_retype_53 rfl (lv_at hl 1 rfl) ?_
        refine gf_Mo_text hx hb T hown hK hw rfl (kf_Mo_7 T) d_Mo_retype_54 ?_
        refine lv_iload_n hx hb d_Mo_retype_57 rfl (lv_at hl 0 rfl) ?_
        refine lv_aload_n hx hb d_Mo_retype_58 rfl (lv_at hl 1 rfl) ?_
        refine gf_Mo_written hx hb T hown hK hw rfl (kf_Mo_59 T) d_Mo_retype_59 ?_
        refine lv_iload_n hx hb d_Mo_retype_62 rfl (lv_at hl 0 rfl) ?_
        have g7 := ng hno hF
        have hF := hF.trans (gd_yes g7)
        refine ga_Mo_written hx hb hK hw rfl g7 d_Mo_retype_63 ?_
        have g8 := ng hno hF
        have hF := hF.trans (gd_yes g8)
        refine gs_Mo_text hx hb hK hw rfl g8 d_Mo_retype_64 (fun H locs hw => ?_)
        refine lv_iinc (k := 0) hx hb d_Mo_retype_65 hl rfl (show _ + Int32.ofInt 1 = _ + 1 from rfl) (by decide) rfl (fun ls hl => ?_)
        refine lv_goto hx hb d_Mo_retype_68 rfl ?_
        exact ih (x1 + 1) _ _ _ _ _ (gv_loc hl [0, 1] rfl) hw hF
  have hF := F_Mo_retype.eq_1 fu M r
  refine lv_aload_n hx hb d_Mo_retype_0 rfl (lv_at hl 0 rfl) ?_
  refine lv_aload_n hx hb d_Mo_retype_1 rfl (lv_at hl 0 rfl) ?_
  refine gf_Mo_tree hx hb T hown hK hw rfl (kf_Mo_189 T) d_Mo_retype_2 ?_
  refine lv_if_eq hx hb d_Mo_retype_5 rfl (fun h9 => ?_) (fun h9 => ?_)
  · skip
    have hF := hF.trans (if_pos h9)
    refine lv_iconst (v := 1) hx hb d_Mo_retype_18 (by decide) ?_
    refine lv_goto hx hb d_Mo_retype_19 rfl ?_
    refine pf_Mo_thrown hx hb T hown hK hw rfl (kf_Mo_65 T) d_Mo_retype_23 (fun H locs hw => ?_)
    refine lv_aload_n hx hb d_Mo_retype_26 rfl (lv_at hl 0 rfl) ?_
    refine gf_Mo_thrown hx hb T hown hK hw rfl (kf_Mo_65 T) d_Mo_retype_27 ?_
    rw [mS_same]
    refine lv_if_eq hx hb d_Mo_retype_30 rfl (fun h => absurd h (by decide)) (fun _ => ?_)
    refine lv_iconst (v := 0) hx hb d_Mo_retype_33 (by decide) ?_
    exact gr_i B hw d_Mo_retype_34 ⟨_, rfl, hF⟩
  · skip
    have hF := hF.trans (if_neg h9)
    refine lv_aload_n hx hb d_Mo_retype_8 rfl (lv_at hl 0 rfl) ?_
    refine gf_Mo_formed hx hb T hown hK hw rfl (kf_Mo_221 T) d_Mo_retype_9 ?_
    refine lv_sipush (v := 240) hx hb d_Mo_retype_12 (by decide) ?_
    refine lv_icmp_le hx hb d_Mo_retype_15 rfl (fun h10 => ?_) (fun h10 => ?_)
    · skip
      have hF := hF.trans (if_pos h10)
      refine lv_iconst (v := 0) hx hb d_Mo_retype_22 (by decide) ?_
      refine pf_Mo_thrown hx hb T hown hK hw rfl (kf_Mo_65 T) d_Mo_retype_23 (fun H locs hw => ?_)
      refine lv_aload_n hx hb d_Mo_retype_26 rfl (lv_at hl 0 rfl) ?_
      refine gf_Mo_thrown hx hb T hown hK hw rfl (kf_Mo_65 T) d_Mo_retype_27 ?_
      rw [mS_same]
      refine lv_if_eq hx hb d_Mo_retype_30 rfl (fun _ => ?_) (fun h => absurd h (by decide))
      refine lv_aload_n hx hb d_Mo_retype_35 rfl (lv_at hl 0 rfl) ?_
      refine lv_aload_n hx hb d_Mo_retype_36 rfl (lv_at hl 0 rfl) ?_
      refine gf_Mo_formed hx hb T hown hK hw rfl (kf_Mo_221 T) d_Mo_retype_37 ?_
      refine pf_Mo_typed hx hb T hown hK hw rfl (kf_Mo_72 T) d_Mo_retype_40 (fun H locs hw => ?_)
      refine lv_iconst (v := 0) hx hb d_Mo_retype_43 (by decide) ?_
      refine lv_istore_n hx hb d_Mo_retype_44 rfl hl (by decide) rfl (fun ls hl => ?_)
      exact L45 fu 0 _ _ _ _ _ (gv_loc hl [0, 1] rfl) hw hF
    · skip
      have hF := hF.trans (if_neg h10)
      refine lv_iconst (v := 1) hx hb d_Mo_retype_18 (by decide) ?_
      refine lv_goto hx hb d_Mo_retype_19 rfl ?_
      refine pf_Mo_thrown hx hb T hown hK hw rfl (kf_Mo_65 T) d_Mo_retype_23 (fun H locs hw => ?_)
      refine lv_aload_n hx hb d_Mo_retype_26 rfl (lv_at hl 0 rfl) ?_
      refine gf_Mo_thrown hx hb T hown hK hw rfl (kf_Mo_65 T) d_Mo_retype_27 ?_
      rw [mS_same]
      refine lv_if_eq hx hb d_Mo_retype_30 rfl (fun h => absurd h (by decide)) (fun _ => ?_)
      refine lv_iconst (v := 0) hx hb d_Mo_retype_33 (by decide) ?_
      exact gr_i B hw d_Mo_retype_34 ⟨_, rfl, hF⟩
set_option maxHeartbeats 4000000 in
set_option maxRecDepth 100000 in
theorem t_Mo_keep {l : Launch} {s0 : State} {D : va_G} {aC : Nat → ClassId} {a0 : Array Value} (G : gG l s0 D aC a0) (M : gMem) (r : gRef) (ow : Int64) (fu : Nat)  (hno : F_Mo_keep fu M r ≠ .no) : gMet l s0 D aC y_Mo_keep (Cond.code y_Mo_keep b_Mo_keep 2 none) 0 0 0 0 [.ref (s0.heap.size + 383)] M r ow (qV (F_Mo_keep fu M r)) (qT (F_Mo_keep fu M r)) := by
  refine gm_of G (by decide) (Nat.le_of_ble_eq_true rfl) ?_
  intro p e s m below meth c ls B hexc hl hw
  have hx := B.1
  have hb := B.2.1
  have hown := B.2.2.2.2.2.1
  have T := B.2.2.2.2.2.2.1
  have hK := B.2.2.2.2.2.2.2.1
  have X64 : ∀ (M1 : gMem) (r1 : gRef) (H : Heap) (locs : List Loc) (ls : Array Slot), lv_has ls 2 [] → gWd s0 D aC M1 r1 ow H locs → F_Mo_keep fu M r = F_Mo_keep_B64 fu M1 r1 → W p l e (gRm 0 0 0 0) s m ([.ref (s0.heap.size + 383)] : List Value).toArray below meth c H locs 0 0 (gt_Q below (gQ s0 D aC ow (qV (F_Mo_keep fu M r)) (qT (F_Mo_keep fu M r))) s 0 0 0 0 (fun q => s0.heap.size ≤ q)) (F0 m 64 ls []) := by
    intro  M1 r1 H locs ls hl hw hF
    have hF := hF.trans (F_Mo_keep_B64.eq_1 _ _ _)
    exact gr_v B hw d_Mo_keep_64 ⟨rfl, hF⟩
  have L38 : ∀ (d : Nat) (x1 : Int32) (M1 : gMem) (r1 : gRef) (H : Heap) (locs : List Loc) (ls : Array Slot), lv_has ls 2 [(1, .int x1), (0, .ref (s0.heap.size + 383))] → gWd s0 D aC M1 r1 ow H locs → F_Mo_keep fu M r = F_Mo_keep_L38 fu d x1 M1 r1 → W p l e (gRm 0 0 0 0) s m ([.ref (s0.heap.size + 383)] : List Value).toArray below meth c H locs 0 0 (gt_Q below (gQ s0 D aC ow (qV (F_Mo_keep fu M r)) (qT (F_Mo_keep fu M r))) s 0 0 0 0 (fun q => s0.heap.size ≤ q)) (F0 m 38 ls []) := by
    intro d
    induction d with
    | zero => intro x1 M1 r1 H locs ls hl hw hF; exact absurd hF hno
    | succ d ih =>
      intro x1 M1 r1 H locs ls hl hw hF
      have hF := hF.trans (F_Mo_keep_L38.eq_2 _ _ _ _ _)
      refine lv_iload_n hx hb d_Mo_keep_38 rfl (lv_at hl 0 rfl) ?_
      refine lv_aload_n hx hb d_Mo_keep_39 rfl (lv_at hl 1 rfl) ?_
      refine gf_Mo_formed hx hb T hown hK hw rfl (kf_Mo_221 T) d_Mo_keep_40 ?_
      refine lv_icmp_ge hx hb d_Mo_keep_43 rfl (fun h7 => ?_) (fun h7 => ?_)
      · skip
        have hF := hF.trans (if_pos h7)
        exact X64  _ _ _ _ _ (gv_loc hl [] rfl) hw hF
      · skip
        have hF := hF.trans (if_neg h7)
        refine lv_aload_n hx hb d_Mo_keep_46 rfl (lv_at hl 1 rfl) ?_
        refine gf_Mo_keptForm hx hb T hown hK hw rfl (kf_Mo_62 T) d_Mo_keep_47 ?_
        refine lv_iload_n hx hb d_Mo_keep_50 rfl (lv_at hl 0 rfl) ?_
        refine lv_aload_n hx hb d_Mo_keep_51 rfl (lv_at hl 1 rfl) ?_
        refine gf_Mo_written hx hb T hown hK hw rfl (kf_Mo_59 T) d_Mo_keep_52 ?_
        refine lv_iload_n hx hb d_Mo_keep_55 rfl (lv_at hl 0 rfl) ?_
        have g8 := ng hno hF
        have hF := hF.trans (gd_yes g8)
        refine ga_Mo_written hx hb hK hw rfl g8 d_Mo_keep_56 ?_
        have g9 := ng hno hF
        have hF := hF.trans (gd_yes g9)
        refine gs_Mo_keptForm hx hb hK hw rfl g9 d_Mo_keep_57 (fun H locs hw => ?_)
        refine lv_iinc (k := 0) hx hb d_Mo_keep_58 hl rfl (show _ + Int32.ofInt 1 = _ + 1 from rfl) (by decide) rfl (fun ls hl => ?_)
        refine lv_goto hx hb d_Mo_keep_61 rfl ?_
        exact ih (x1 + 1) _ _ _ _ _ (gv_loc hl [0, 1] rfl) hw hF
  have hF := F_Mo_keep.eq_1 fu M r
  refine lv_aload_n hx hb d_Mo_keep_0 rfl (lv_at hl 0 rfl) ?_
  refine lv_aload_n hx hb d_Mo_keep_1 rfl (lv_at hl 0 rfl) ?_
  refine gf_Mo_tree hx hb T hown hK hw rfl (kf_Mo_189 T) d_Mo_keep_2 ?_
  refine lv_if_eq hx hb d_Mo_keep_5 rfl (fun h10 => ?_) (fun h10 => ?_)
  · skip
    have hF := hF.trans (if_pos h10)
    refine lv_iconst (v := 1) hx hb d_Mo_keep_12 (by decide) ?_
    refine pf_Mo_thrown hx hb T hown hK hw rfl (kf_Mo_65 T) d_Mo_keep_13 (fun H locs hw => ?_)
    refine lv_aload_n hx hb d_Mo_keep_16 rfl (lv_at hl 0 rfl) ?_
    refine gf_Mo_tree hx hb T hown hK hw rfl (kf_Mo_189 T) d_Mo_keep_17 ?_
    refine lv_if_eq hx hb d_Mo_keep_20 rfl (fun h11 => ?_) (fun h11 => ?_)
    · skip
      have hF := hF.trans (if_pos h11)
      exact X64  _ _ _ _ _ (gv_loc hl [] rfl) hw hF
    · skip
      have hF := hF.trans (if_neg h11)
      refine lv_aload_n hx hb d_Mo_keep_23 rfl (lv_at hl 0 rfl) ?_
      refine lv_iconst (v := 1) hx hb d_Mo_keep_24 (by decide) ?_
      refine pf_Mo_keeps hx hb T hown hK hw rfl (Or.inr rfl) (kf_Mo_263 T) d_Mo_keep_25 (fun H locs hw => ?_)
      refine lv_aload_n hx hb d_Mo_keep_28 rfl (lv_at hl 0 rfl) ?_
      refine lv_aload_n hx hb d_Mo_keep_29 rfl (lv_at hl 0 rfl) ?_
      refine gf_Mo_formed hx hb T hown hK hw rfl (kf_Mo_221 T) d_Mo_keep_30 ?_
      refine pf_Mo_keptSize hx hb T hown hK hw rfl (kf_Mo_266 T) d_Mo_keep_33 (fun H locs hw => ?_)
      refine lv_iconst (v := 0) hx hb d_Mo_keep_36 (by decide) ?_
      refine lv_istore_n hx hb d_Mo_keep_37 rfl hl (by decide) rfl (fun ls hl => ?_)
      exact L38 fu 0 _ _ _ _ _ (gv_loc hl [0, 1] rfl) hw hF
  · skip
    have hF := hF.trans (if_neg h10)
    refine lv_iconst (v := 0) hx hb d_Mo_keep_8 (by decide) ?_
    refine lv_goto hx hb d_Mo_keep_9 rfl ?_
    refine pf_Mo_thrown hx hb T hown hK hw rfl (kf_Mo_65 T) d_Mo_keep_13 (fun H locs hw => ?_)
    refine lv_aload_n hx hb d_Mo_keep_16 rfl (lv_at hl 0 rfl) ?_
    refine gf_Mo_tree hx hb T hown hK hw rfl (kf_Mo_189 T) d_Mo_keep_17 ?_
    refine lv_if_eq hx hb d_Mo_keep_20 rfl (fun h12 => ?_) (fun h12 => ?_)
    · skip
      have hF := hF.trans (if_pos h12)
      exact X64  _ _ _ _ _ (gv_loc hl [] rfl) hw hF
    · skip
      have hF := hF.trans (if_neg h12)
      refine lv_aload_n hx hb d_Mo_keep_23 rfl (lv_at hl 0 rfl) ?_
      refine lv_iconst (v := 1) hx hb d_Mo_keep_24 (by decide) ?_
      refine pf_Mo_keeps hx hb T hown hK hw rfl (Or.inr rfl) (kf_Mo_263 T) d_Mo_keep_25 (fun H locs hw => ?_)
      refine lv_aload_n hx hb d_Mo_keep_28 rfl (lv_at hl 0 rfl) ?_
      refine lv_aload_n hx hb d_Mo_keep_29 rfl (lv_at hl 0 rfl) ?_
      refine gf_Mo_formed hx hb T hown hK hw rfl (kf_Mo_221 T) d_Mo_keep_30 ?_
      refine pf_Mo_keptSize hx hb T hown hK hw rfl (kf_Mo_266 T) d_Mo_keep_33 (fun H locs hw => ?_)
      refine lv_iconst (v := 0) hx hb d_Mo_keep_36 (by decide) ?_
      refine lv_istore_n hx hb d_Mo_keep_37 rfl hl (by decide) rfl (fun ls hl => ?_)
      exact L38 fu 0 _ _ _ _ _ (gv_loc hl [0, 1] rfl) hw hF
set_option maxHeartbeats 4000000 in
set_option maxRecDepth 100000 in
theorem t_Mo_same {l : Launch} {s0 : State} {D : va_G} {aC : Nat → ClassId} {a0 : Array Value} (G : gG l s0 D aC a0) (M : gMem) (r : gRef) (ow : Int64) (fu : Nat)  (hno : F_Mo_same fu M r ≠ .no) : gMet l s0 D aC y_Mo_same (Cond.code y_Mo_same b_Mo_same 3 (some .boolean)) 0 0 0 0 [.ref (s0.heap.size + 383)] M r ow (qI (F_Mo_same fu M r)) (qT (F_Mo_same fu M r)) := by
  refine gm_of G (by decide) (Nat.le_of_ble_eq_true rfl) ?_
  intro p e s m below meth c ls B hexc hl hw
  have hx := B.1
  have hb := B.2.1
  have hown := B.2.2.2.2.2.1
  have T := B.2.2.2.2.2.2.1
  have hK := B.2.2.2.2.2.2.2.1
  have X77 : ∀ (x1 : Int32) (M1 : gMem) (r1 : gRef) (H : Heap) (locs : List Loc) (ls : Array Slot), lv_has ls 3 [(1, .int x1)] → gWd s0 D aC M1 r1 ow H locs → F_Mo_same fu M r = F_Mo_same_B77 fu x1 M1 r1 → W p l e (gRm 0 0 0 0) s m ([.ref (s0.heap.size + 383)] : List Value).toArray below meth c H locs 0 0 (gt_Q below (gQ s0 D aC ow (qI (F_Mo_same fu M r)) (qT (F_Mo_same fu M r))) s 0 0 0 0 (fun q => s0.heap.size ≤ q)) (F0 m 77 ls []) := by
    intro x1 M1 r1 H locs ls hl hw hF
    have hF := hF.trans (F_Mo_same_B77.eq_1 _ _ _ _)
    refine lv_iload_n hx hb d_Mo_same_77 rfl (lv_at hl 0 rfl) ?_
    have g10 := ng hno hF
    have hF := hF.trans (gd_yes g10)
    exact gr_z B hw g10 d_Mo_same_78 ⟨_, rfl, hF⟩
  have L38 : ∀ (d : Nat) (x1 : Int32) (x2 : Int32) (M1 : gMem) (r1 : gRef) (H : Heap) (locs : List Loc) (ls : Array Slot), lv_has ls 3 [(1, .int x1), (2, .int x2), (0, .ref (s0.heap.size + 383))] → gWd s0 D aC M1 r1 ow H locs → F_Mo_same fu M r = F_Mo_same_L38 fu d x1 x2 M1 r1 → W p l e (gRm 0 0 0 0) s m ([.ref (s0.heap.size + 383)] : List Value).toArray below meth c H locs 0 0 (gt_Q below (gQ s0 D aC ow (qI (F_Mo_same fu M r)) (qT (F_Mo_same fu M r))) s 0 0 0 0 (fun q => s0.heap.size ≤ q)) (F0 m 38 ls []) := by
    intro d
    induction d with
    | zero => intro x1 x2 M1 r1 H locs ls hl hw hF; exact absurd hF hno
    | succ d ih =>
      intro x1 x2 M1 r1 H locs ls hl hw hF
      have hF := hF.trans (F_Mo_same_L38.eq_2 _ _ _ _ _ _)
      refine lv_iload_n hx hb d_Mo_same_38 rfl (lv_at hl 1 rfl) ?_
      refine lv_aload_n hx hb d_Mo_same_39 rfl (lv_at hl 2 rfl) ?_
      refine gf_Mo_formed hx hb T hown hK hw rfl (kf_Mo_221 T) d_Mo_same_40 ?_
      refine lv_icmp_ge hx hb d_Mo_same_43 rfl (fun h11 => ?_) (fun h11 => ?_)
      · skip
        have hF := hF.trans (if_pos h11)
        exact X77 x1 _ _ _ _ _ (gv_loc hl [0] rfl) hw hF
      · skip
        have hF := hF.trans (if_neg h11)
        refine lv_iload_n hx hb d_Mo_same_46 rfl (lv_at hl 0 rfl) ?_
        refine lv_if_eq hx hb d_Mo_same_47 rfl (fun h12 => ?_) (fun h12 => ?_)
        · skip
          have hF := hF.trans (if_pos h12)
          exact X77 x1 _ _ _ _ _ (gv_loc hl [0] rfl) hw hF
        · skip
          have hF := hF.trans (if_neg h12)
          refine lv_aload_n hx hb d_Mo_same_50 rfl (lv_at hl 2 rfl) ?_
          refine gf_Mo_keptForm hx hb T hown hK hw rfl (kf_Mo_62 T) d_Mo_same_51 ?_
          refine lv_iload_n hx hb d_Mo_same_54 rfl (lv_at hl 1 rfl) ?_
          have g13 := ng hno hF
          have hF := hF.trans (gd_yes g13)
          refine ga_Mo_keptForm hx hb hK hw rfl g13 d_Mo_same_55 ?_
          refine lv_aload_n hx hb d_Mo_same_56 rfl (lv_at hl 2 rfl) ?_
          refine gf_Mo_written hx hb T hown hK hw rfl (kf_Mo_59 T) d_Mo_same_57 ?_
          refine lv_iload_n hx hb d_Mo_same_60 rfl (lv_at hl 1 rfl) ?_
          have g14 := ng hno hF
          have hF := hF.trans (gd_yes g14)
          refine ga_Mo_written hx hb hK hw rfl g14 d_Mo_same_61 ?_
          refine lv_icmp_ne hx hb d_Mo_same_62 rfl (fun h15 => ?_) (fun h15 => ?_)
          · skip
            have hF := hF.trans (if_neg h15)
            refine lv_iconst (v := 0) hx hb d_Mo_same_69 (by decide) ?_
            refine lv_istore_n hx hb d_Mo_same_70 rfl hl (by decide) rfl (fun ls hl => ?_)
            refine lv_iinc (k := 1) hx hb d_Mo_same_71 hl rfl (show _ + Int32.ofInt 1 = _ + 1 from rfl) (by decide) rfl (fun ls hl => ?_)
            refine lv_goto hx hb d_Mo_same_74 rfl ?_
            exact ih 0 (x2 + 1) _ _ _ _ _ (gv_loc hl [1, 0, 2] rfl) hw hF
          · skip
            have hF := hF.trans (if_pos h15)
            refine lv_iconst (v := 1) hx hb d_Mo_same_65 (by decide) ?_
            refine lv_goto hx hb d_Mo_same_66 rfl ?_
            refine lv_istore_n hx hb d_Mo_same_70 rfl hl (by decide) rfl (fun ls hl => ?_)
            refine lv_iinc (k := 1) hx hb d_Mo_same_71 hl rfl (show _ + Int32.ofInt 1 = _ + 1 from rfl) (by decide) rfl (fun ls hl => ?_)
            refine lv_goto hx hb d_Mo_same_74 rfl ?_
            exact ih 1 (x2 + 1) _ _ _ _ _ (gv_loc hl [1, 0, 2] rfl) hw hF
  have hF := F_Mo_same.eq_1 fu M r
  refine lv_aload_n hx hb d_Mo_same_0 rfl (lv_at hl 0 rfl) ?_
  refine lv_iconst (v := 0) hx hb d_Mo_same_1 (by decide) ?_
  refine pf_Mo_thrown hx hb T hown hK hw rfl (kf_Mo_65 T) d_Mo_same_2 (fun H locs hw => ?_)
  refine lv_aload_n hx hb d_Mo_same_5 rfl (lv_at hl 0 rfl) ?_
  refine gf_Mo_tree hx hb T hown hK hw rfl (kf_Mo_189 T) d_Mo_same_6 ?_
  refine lv_if_eq hx hb d_Mo_same_9 rfl (fun h16 => ?_) (fun h16 => ?_)
  · skip
    have hF := hF.trans (if_pos h16)
    refine lv_iconst (v := 0) hx hb d_Mo_same_34 (by decide) ?_
    refine lv_istore_n hx hb d_Mo_same_35 rfl hl (by decide) rfl (fun ls hl => ?_)
    refine lv_iconst (v := 0) hx hb d_Mo_same_36 (by decide) ?_
    refine lv_istore_n hx hb d_Mo_same_37 rfl hl (by decide) rfl (fun ls hl => ?_)
    exact L38 fu 0 0 _ _ _ _ _ (gv_loc hl [1, 0, 2] rfl) hw hF
  · skip
    have hF := hF.trans (if_neg h16)
    refine lv_aload_n hx hb d_Mo_same_12 rfl (lv_at hl 0 rfl) ?_
    refine gf_Mo_keeps hx hb T hown hK hw rfl (kf_Mo_263 T) d_Mo_same_13 ?_
    refine lv_if_eq hx hb d_Mo_same_16 rfl (fun h17 => ?_) (fun h17 => ?_)
    · skip
      have hF := hF.trans (if_pos h17)
      refine lv_iconst (v := 0) hx hb d_Mo_same_34 (by decide) ?_
      refine lv_istore_n hx hb d_Mo_same_35 rfl hl (by decide) rfl (fun ls hl => ?_)
      refine lv_iconst (v := 0) hx hb d_Mo_same_36 (by decide) ?_
      refine lv_istore_n hx hb d_Mo_same_37 rfl hl (by decide) rfl (fun ls hl => ?_)
      exact L38 fu 0 0 _ _ _ _ _ (gv_loc hl [1, 0, 2] rfl) hw hF
    · skip
      have hF := hF.trans (if_neg h17)
      refine lv_aload_n hx hb d_Mo_same_19 rfl (lv_at hl 0 rfl) ?_
      refine gf_Mo_keptSize hx hb T hown hK hw rfl (kf_Mo_266 T) d_Mo_same_20 ?_
      refine lv_aload_n hx hb d_Mo_same_23 rfl (lv_at hl 0 rfl) ?_
      refine gf_Mo_formed hx hb T hown hK hw rfl (kf_Mo_221 T) d_Mo_same_24 ?_
      refine lv_icmp_ne hx hb d_Mo_same_27 rfl (fun h18 => ?_) (fun h18 => ?_)
      · skip
        have hF := hF.trans (if_neg h18)
        refine lv_iconst (v := 0) hx hb d_Mo_same_34 (by decide) ?_
        refine lv_istore_n hx hb d_Mo_same_35 rfl hl (by decide) rfl (fun ls hl => ?_)
        refine lv_iconst (v := 0) hx hb d_Mo_same_36 (by decide) ?_
        refine lv_istore_n hx hb d_Mo_same_37 rfl hl (by decide) rfl (fun ls hl => ?_)
        exact L38 fu 0 0 _ _ _ _ _ (gv_loc hl [1, 0, 2] rfl) hw hF
      · skip
        have hF := hF.trans (if_pos h18)
        refine lv_iconst (v := 1) hx hb d_Mo_same_30 (by decide) ?_
        refine lv_goto hx hb d_Mo_same_31 rfl ?_
        refine lv_istore_n hx hb d_Mo_same_35 rfl hl (by decide) rfl (fun ls hl => ?_)
        refine lv_iconst (v := 0) hx hb d_Mo_same_36 (by decide) ?_
        refine lv_istore_n hx hb d_Mo_same_37 rfl hl (by decide) rfl (fun ls hl => ?_)
        exact L38 fu 1 0 _ _ _ _ _ (gv_loc hl [1, 0, 2] rfl) hw hF
