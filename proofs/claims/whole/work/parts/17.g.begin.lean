/-! An element begun -/
def mBg (M : gMem) (k : Nat) (d : Int32) : gMem := mS (mS (mS (mS (mS M 27 k d) 28 k 0) 29 k 0) 30 k 0) 31 k 0
theorem d_El_begin_0 : decode b_El_begin 0 = .ok (.aload_n 0, 1) := by decide +kernel
theorem d_El_begin_1 : decode b_El_begin 1 = .ok (.aload_n 1, 1) := by decide +kernel
theorem d_El_begin_2 : decode b_El_begin 2 = .ok (.putfield 29, 3) := by decide +kernel
theorem d_El_begin_5 : decode b_El_begin 5 = .ok (.aload_n 0, 1) := by decide +kernel
theorem d_El_begin_6 : decode b_El_begin 6 = .ok (.aload_n 1, 1) := by decide +kernel
theorem d_El_begin_7 : decode b_El_begin 7 = .ok (.ifnonnull 7, 3) := by decide +kernel
theorem d_El_begin_10 : decode b_El_begin 10 = .ok (.iconst 1, 1) := by decide +kernel
theorem d_El_begin_11 : decode b_El_begin 11 = .ok (.goto 9, 3) := by decide +kernel
theorem d_El_begin_14 : decode b_El_begin 14 = .ok (.aload_n 1, 1) := by decide +kernel
theorem d_El_begin_15 : decode b_El_begin 15 = .ok (.getfield 33, 3) := by decide +kernel
theorem d_El_begin_18 : decode b_El_begin 18 = .ok (.iconst 1, 1) := by decide +kernel
theorem d_El_begin_19 : decode b_El_begin 19 = .ok (.iadd, 1) := by decide +kernel
theorem d_El_begin_20 : decode b_El_begin 20 = .ok (.putfield 33, 3) := by decide +kernel
theorem d_El_begin_23 : decode b_El_begin 23 = .ok (.aload_n 0, 1) := by decide +kernel
theorem d_El_begin_24 : decode b_El_begin 24 = .ok (.iconst 0, 1) := by decide +kernel
theorem d_El_begin_25 : decode b_El_begin 25 = .ok (.putfield 36, 3) := by decide +kernel
theorem d_El_begin_28 : decode b_El_begin 28 = .ok (.aload_n 0, 1) := by decide +kernel
theorem d_El_begin_29 : decode b_El_begin 29 = .ok (.iconst 0, 1) := by decide +kernel
theorem d_El_begin_30 : decode b_El_begin 30 = .ok (.putfield 39, 3) := by decide +kernel
theorem d_El_begin_33 : decode b_El_begin 33 = .ok (.aload_n 0, 1) := by decide +kernel
theorem d_El_begin_34 : decode b_El_begin 34 = .ok (.iconst 0, 1) := by decide +kernel
theorem d_El_begin_35 : decode b_El_begin 35 = .ok (.putfield 42, 3) := by decide +kernel
theorem d_El_begin_38 : decode b_El_begin 38 = .ok (.aload_n 0, 1) := by decide +kernel
theorem d_El_begin_39 : decode b_El_begin 39 = .ok (.iconst 0, 1) := by decide +kernel
theorem d_El_begin_40 : decode b_El_begin 40 = .ok (.putfield 45, 3) := by decide +kernel
theorem d_El_begin_43 : decode b_El_begin 43 = .ok (.aload_n 1, 1) := by decide +kernel
theorem d_El_begin_44 : decode b_El_begin 44 = .ok (.ifnull 13, 3) := by decide +kernel
theorem d_El_begin_47 : decode b_El_begin 47 = .ok (.aload_n 1, 1) := by decide +kernel
theorem d_El_begin_48 : decode b_El_begin 48 = .ok (.dup, 1) := by decide +kernel
theorem d_El_begin_49 : decode b_El_begin 49 = .ok (.getfield 36, 3) := by decide +kernel
theorem d_El_begin_52 : decode b_El_begin 52 = .ok (.iconst 1, 1) := by decide +kernel
theorem d_El_begin_53 : decode b_El_begin 53 = .ok (.iadd, 1) := by decide +kernel
theorem d_El_begin_54 : decode b_El_begin 54 = .ok (.putfield 36, 3) := by decide +kernel
theorem d_El_begin_57 : decode b_El_begin 57 = .ok (.return_, 1) := by decide +kernel
set_option maxHeartbeats 4000000 in
set_option maxRecDepth 100000 in
theorem c_El_begin_n {l : Launch} {s0 : State} {D : va_G} {aC : Nat → ClassId} {a0 : Array Value} (G : gG l s0 D aC a0) (M : gMem) (r : gRef) (ow : Int64) (k : Nat) (hk : k < 24) : gMet l s0 D aC y_El_begin (Cond.code y_El_begin b_El_begin 2 none) 0 0 0 0 [.ref (s0.heap.size + oEl k), .null] M r ow (fun v M1 r1 => v = none ∧ M1 = mBg M k 1 ∧ r1 = rS r 1 k none) (fun _ _ _ => False) := by
  refine gm_of G (by decide) (Nat.le_of_ble_eq_true rfl) ?_
  intro p e s m below meth c ls B hexc hl hw
  have hx := B.1
  have hb := B.2.1
  have hown := B.2.2.2.2.2.1
  have T := B.2.2.2.2.2.2.1
  have hK := B.2.2.2.2.2.2.2.1
  refine lv_aload_n hx hb d_El_begin_0 rfl (lv_at hl 0 rfl) ?_
  refine lv_aload_nN hx hb d_El_begin_1 rfl (lv_at hl 1 rfl) ?_
  refine pf_El_around (y := none) hx hb T hown hK hw hk rfl (kf_El_29 T) d_El_begin_2 (fun H locs hw => ?_)
  refine lv_aload_n hx hb d_El_begin_5 rfl (lv_at hl 0 rfl) ?_
  refine lv_aload_nN hx hb d_El_begin_6 rfl (lv_at hl 1 rfl) ?_
  refine lv_ifnonnullN hx hb d_El_begin_7 ?_
  refine lv_iconst (v := 1) hx hb d_El_begin_10 (by decide) ?_
  refine lv_goto hx hb d_El_begin_11 rfl ?_
  refine pf_El_depth hx hb T hown hK hw (i := k) hk rfl (kf_El_33 T) d_El_begin_20 (fun H locs hw => ?_)
  refine lv_aload_n hx hb d_El_begin_23 rfl (lv_at hl 0 rfl) ?_
  refine lv_iconst (v := 0) hx hb d_El_begin_24 (by decide) ?_
  refine pf_El_elementsInside hx hb T hown hK hw (i := k) hk rfl (kf_El_36 T) d_El_begin_25 (fun H locs hw => ?_)
  refine lv_aload_n hx hb d_El_begin_28 rfl (lv_at hl 0 rfl) ?_
  refine lv_iconst (v := 0) hx hb d_El_begin_29 (by decide) ?_
  refine pf_El_attributeCount hx hb T hown hK hw (i := k) hk rfl (kf_El_39 T) d_El_begin_30 (fun H locs hw => ?_)
  refine lv_aload_n hx hb d_El_begin_33 rfl (lv_at hl 0 rfl) ?_
  refine lv_iconst (v := 0) hx hb d_El_begin_34 (by decide) ?_
  refine pf_El_declarationCount hx hb T hown hK hw (i := k) hk rfl (kf_El_42 T) d_El_begin_35 (fun H locs hw => ?_)
  refine lv_aload_n hx hb d_El_begin_38 rfl (lv_at hl 0 rfl) ?_
  refine lv_iconst (v := 0) hx hb d_El_begin_39 (by decide) ?_
  refine pf_El_ownCharacters hx hb T hown hK hw (i := k) hk rfl (kf_El_45 T) d_El_begin_40 (fun H locs hw => ?_)
  refine lv_aload_nN hx hb d_El_begin_43 rfl (lv_at hl 1 rfl) ?_
  refine lv_ifnullN hx hb d_El_begin_44 rfl ?_
  exact gr_v B hw d_El_begin_57 ⟨rfl, rfl, rfl⟩
set_option maxHeartbeats 4000000 in
set_option maxRecDepth 100000 in
theorem c_El_begin {l : Launch} {s0 : State} {D : va_G} {aC : Nat → ClassId} {a0 : Array Value} (G : gG l s0 D aC a0) (M : gMem) (r : gRef) (ow : Int64) (k o : Nat) (hk : k < 24) (ho : o < 24) : gMet l s0 D aC y_El_begin (Cond.code y_El_begin b_El_begin 2 none) 0 0 0 0 [.ref (s0.heap.size + oEl k), .ref (s0.heap.size + oEl o)] M r ow (fun v M1 r1 => v = none ∧ M1 = mS (mBg M k (M 27 o + 1)) 28 o (mBg M k (M 27 o + 1) 28 o + 1) ∧ r1 = rS r 1 k (some o)) (fun _ _ _ => False) := by
  refine gm_of G (by decide) (Nat.le_of_ble_eq_true rfl) ?_
  intro p e s m below meth c ls B hexc hl hw
  have hx := B.1
  have hb := B.2.1
  have hown := B.2.2.2.2.2.1
  have T := B.2.2.2.2.2.2.1
  have hK := B.2.2.2.2.2.2.2.1
  refine lv_aload_n hx hb d_El_begin_0 rfl (lv_at hl 0 rfl) ?_
  refine lv_aload_n hx hb d_El_begin_1 rfl (lv_at hl 1 rfl) ?_
  refine pf_El_around (y := some o) hx hb T hown hK hw hk rfl (kf_El_29 T) d_El_begin_2 (fun H locs hw => ?_)
  refine lv_aload_n hx hb d_El_begin_5 rfl (lv_at hl 0 rfl) ?_
  refine lv_aload_n hx hb d_El_begin_6 rfl (lv_at hl 1 rfl) ?_
  refine lv_ifnonnull hx hb d_El_begin_7 rfl ?_
  refine lv_aload_n hx hb d_El_begin_14 rfl (lv_at hl 1 rfl) ?_
  refine gf_El_depth hx hb T hown hK hw (i := o) ho rfl (kf_El_33 T) d_El_begin_15 ?_
  refine lv_iconst (v := 1) hx hb d_El_begin_18 (by decide) ?_
  refine lv_iadd hx hb d_El_begin_19 ?_
  refine pf_El_depth hx hb T hown hK hw (i := k) hk rfl (kf_El_33 T) d_El_begin_20 (fun H locs hw => ?_)
  refine lv_aload_n hx hb d_El_begin_23 rfl (lv_at hl 0 rfl) ?_
  refine lv_iconst (v := 0) hx hb d_El_begin_24 (by decide) ?_
  refine pf_El_elementsInside hx hb T hown hK hw (i := k) hk rfl (kf_El_36 T) d_El_begin_25 (fun H locs hw => ?_)
  refine lv_aload_n hx hb d_El_begin_28 rfl (lv_at hl 0 rfl) ?_
  refine lv_iconst (v := 0) hx hb d_El_begin_29 (by decide) ?_
  refine pf_El_attributeCount hx hb T hown hK hw (i := k) hk rfl (kf_El_39 T) d_El_begin_30 (fun H locs hw => ?_)
  refine lv_aload_n hx hb d_El_begin_33 rfl (lv_at hl 0 rfl) ?_
  refine lv_iconst (v := 0) hx hb d_El_begin_34 (by decide) ?_
  refine pf_El_declarationCount hx hb T hown hK hw (i := k) hk rfl (kf_El_42 T) d_El_begin_35 (fun H locs hw => ?_)
  refine lv_aload_n hx hb d_El_begin_38 rfl (lv_at hl 0 rfl) ?_
  refine lv_iconst (v := 0) hx hb d_El_begin_39 (by decide) ?_
  refine pf_El_ownCharacters hx hb T hown hK hw (i := k) hk rfl (kf_El_45 T) d_El_begin_40 (fun H locs hw => ?_)
  refine lv_aload_n hx hb d_El_begin_43 rfl (lv_at hl 1 rfl) ?_
  refine lv_ifnull hx hb d_El_begin_44 ?_
  refine lv_aload_n hx hb d_El_begin_47 rfl (lv_at hl 1 rfl) ?_
  refine lv_dup hx hb d_El_begin_48 rfl ?_
  refine gf_El_elementsInside hx hb T hown hK hw (i := o) ho rfl (kf_El_36 T) d_El_begin_49 ?_
  refine lv_iconst (v := 1) hx hb d_El_begin_52 (by decide) ?_
  refine lv_iadd hx hb d_El_begin_53 ?_
  refine pf_El_elementsInside hx hb T hown hK hw (i := o) ho rfl (kf_El_36 T) d_El_begin_54 (fun H locs hw => ?_)
  exact gr_v B hw d_El_begin_57 ⟨rfl, rfl, rfl⟩
