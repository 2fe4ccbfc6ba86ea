/-! What each method does, as its code says -/
noncomputable section
def F_MR_isCharacter (fu : Nat) (x0 : Int32) (M : gMem) (r : gRef) : gO Int32 :=
  if x0 = 10 then (.ok 1 M r) else (if x0 < 32 then (.ok 0 M r) else (if 126 < x0 then (.ok 0 M r) else (.ok 1 M r)))
def F_Row_put (fu : Nat) (k0 : Nat) (x1 : Int32) (M : gMem) (r : gRef) : gO Unit :=
  if (nI (nRow k0)) ≤ (M 0 k0) then (.ok () M r) else (gd (vp_in (M 0 k0) (nRow k0)) (.ok () (mS (mS M (10 + k0) (M 0 k0).toNatClampNeg (vp_nar .char x1)) 0 k0 (((mS M (10 + k0) (M 0 k0).toNatClampNeg (vp_nar .char x1)) 0 k0) + 1)) r))
def F_MR_type (fu : Nat) (x1 : Int32) (M : gMem) (r : gRef) : gO Int32 :=
  gO.bnd (F_MR_isCharacter fu x1 M r) (fun v5 M5 r5 => if v5 = 0 then (.ex 0 M5 r5) else (if (M5 0 0) < 240 then (gO.bnd (F_Row_put fu 0 x1 M5 r5) (fun v8 M8 r8 => .ok (M8 0 0) M8 r8)) else (.ex 1 M5 r5)))
def F_MR_wipe (fu : Nat) (M : gMem) (r : gRef) : gO Unit :=
  .ok () (mS M 0 0 0) r
def F_Row_at (fu : Nat) (k0 : Nat) (x1 : Int32) (M : gMem) (r : gRef) : gO Int32 :=
  if x1 < 0 then (.ok 0 M r) else (if (M 0 k0) ≤ x1 then (.ok 0 M r) else (gd (vp_in x1 (nRow k0)) (gd (gNc (M (10 + k0) x1.toNatClampNeg)) (.ok (M (10 + k0) x1.toNatClampNeg) M r))))
def F_Row_copyOf_B30 (fu : Nat) (k0 : Nat) (k1 : Nat) (M1 : gMem) (r1 : gRef) : gO Unit :=
  .ok () M1 r1
def F_Row_copyOf_L7 (fu : Nat) (k0 : Nat) (k1 : Nat) : Nat → Int32 → gMem → gRef → gO Unit
  | 0, _, _, _ => .no
  | d + 1, x2, M1, r1 =>
  if (M1 0 k1) ≤ x2 then (F_Row_copyOf_B30 fu k0 k1 M1 r1) else (gO.bnd (F_Row_at fu k1 x2 M1 r1) (fun v5 M5 r5 => gO.bnd (F_Row_put fu k0 v5 M5 r5) (fun v6 M6 r6 => F_Row_copyOf_L7 fu k0 k1 d (x2 + 1) M6 r6)))
def F_Row_copyOf (fu : Nat) (k0 : Nat) (k1 : Nat) (M : gMem) (r : gRef) : gO Unit :=
  F_Row_copyOf_L7 fu k0 k1 fu 0 (mS M 0 k0 0) r
def F_Tr_beginWith (fu : Nat) (k1 : Nat) (M : gMem) (r : gRef) : gO Unit :=
  gO.bnd (F_Row_copyOf fu 2 k1 M r) (fun v2 M2 r2 => .ok () (mS (mS (mS M2 0 3 0) 0 4 0) 2 0 0) r2)
def F_Rd_beginWith (fu : Nat) (k1 : Nat) (M : gMem) (r : gRef) : gO Unit :=
  gO.bnd (F_Tr_beginWith fu k1 M r) (fun v2 M2 r2 => .ok () (mS (mS (mS (mS M2 0 5 0) 35 0 0) 36 0 0) 37 0 (-1)) (rS r2 3 0 none))
def F_Rd_next (fu : Nat) (x1 : Int32) (M : gMem) (r : gRef) : gO Int32 :=
  if ((M 35 0) + x1) < 0 then (.ok 0 M r) else (if (M 0 2) ≤ ((M 35 0) + x1) then (.ok 0 M r) else (gd (vp_in ((M 35 0) + x1) (nRow 2)) (gd (gNc (M 12 ((M 35 0) + x1).toNatClampNeg)) (.ok (M 12 ((M 35 0) + x1).toNatClampNeg) M r))))
def F_MR_isBlank (fu : Nat) (x0 : Int32) (M : gMem) (r : gRef) : gO Int32 :=
  if x0 = 32 then (.ok 1 M r) else (if x0 = 10 then (.ok 1 M r) else (.ok 0 M r))
def F_Rd_passBlanks_B43 (fu : Nat) (x1 : Int32) (M1 : gMem) (r1 : gRef) : gO Int32 :=
  if (M1 35 0) ≤ x1 then (.ok 0 M1 r1) else (.ok 1 M1 r1)
def F_Rd_passBlanks_L5 (fu : Nat) : Nat → Int32 → gMem → gRef → gO Int32
  | 0, _, _, _ => .no
  | d + 1, x1, M1, r1 =>
  if (M1 0 2) ≤ (M1 35 0) then (F_Rd_passBlanks_B43 fu x1 M1 r1) else (gO.bnd (F_Rd_next fu 0 M1 r1) (fun v8 M8 r8 => gO.bnd (F_MR_isBlank fu v8 M8 r8) (fun v9 M9 r9 => if v9 = 0 then (F_Rd_passBlanks_B43 fu x1 M9 r9) else (F_Rd_passBlanks_L5 fu d x1 (mS M9 35 0 ((M9 35 0) + 1)) r9))))
def F_Rd_passBlanks (fu : Nat) (M : gMem) (r : gRef) : gO Int32 :=
  F_Rd_passBlanks_L5 fu fu (M 35 0) M r
def F_Rd_fail (fu : Nat) (x1 : Int32) (x2 : Int32) (M : gMem) (r : gRef) : gO Unit :=
  .ex 0 (mS (mS (mS (mS M 2 0 0) 0 5 0) 36 0 x1) 37 0 x2) r
def F_Rd_pass (fu : Nat) (x1 : Int32) (M : gMem) (r : gRef) : gO Unit :=
  gO.bnd (F_Rd_next fu 0 M r) (fun v4 M4 r4 => if v4 = x1 then (.ok () (mS M4 35 0 ((M4 35 0) + 1)) r4) else (gO.bnd (F_Rd_fail fu 1 (M4 35 0) M4 r4) (fun _ _ _ => .no)))
def F_Rd_passAll_B25 (fu : Nat) (q1 : Nat) (M1 : gMem) (r1 : gRef) : gO Unit :=
  .ok () M1 r1
def F_Rd_passAll_L2 (fu : Nat) (q1 : Nat) : Nat → Int32 → gMem → gRef → gO Unit
  | 0, _, _, _ => .no
  | d + 1, x2, M1, r1 =>
  gO.bnd (F_St_length fu q1 M1 r1) (fun v5 M5 r5 => if v5 ≤ x2 then (F_Rd_passAll_B25 fu q1 M5 r5) else (gO.bnd (F_St_charAt fu q1 x2 M5 r5) (fun v7 M7 r7 => gO.bnd (F_Rd_pass fu v7 M7 r7) (fun v8 M8 r8 => F_Rd_passAll_L2 fu q1 d (x2 + 1) M8 r8))))
def F_Rd_passAll (fu : Nat) (q1 : Nat) (M : gMem) (r : gRef) : gO Unit :=
  F_Rd_passAll_L2 fu q1 fu 0 M r
def F_Rd_passComment_B53 (fu : Nat) (M1 : gMem) (r1 : gRef) : gO Unit :=
  gO.bnd (F_Rd_passAll fu 1 M1 r1) (fun v8 M8 r8 => .ok () M8 r8)
def F_Rd_passComment_L6 (fu : Nat) : Nat → gMem → gRef → gO Unit
  | 0, _, _ => .no
  | d + 1, M1, r1 =>
  if (M1 0 2) ≤ (M1 35 0) then (F_Rd_passComment_B53 fu M1 r1) else (gO.bnd (F_Rd_next fu 0 M1 r1) (fun v10 M10 r10 => if v10 = 45 then (gO.bnd (F_Rd_next fu 1 M10 r10) (fun v12 M12 r12 => if v12 = 45 then (F_Rd_passComment_B53 fu M12 r12) else (F_Rd_passComment_L6 fu d (mS M12 35 0 ((M12 35 0) + 1)) r12))) else (F_Rd_passComment_L6 fu d (mS M10 35 0 ((M10 35 0) + 1)) r10)))
def F_Rd_passComment (fu : Nat) (M : gMem) (r : gRef) : gO Unit :=
  gO.bnd (F_Rd_passAll fu 0 M r) (fun v14 M14 r14 => F_Rd_passComment_L6 fu fu M14 r14)
def F_Rd_passBlanksAndComments_B53 (fu : Nat) (M1 : gMem) (r1 : gRef) : gO Unit :=
  .ok () M1 r1
def F_Rd_passBlanksAndComments_L7 (fu : Nat) : Nat → Int32 → gMem → gRef → gO Unit
  | 0, _, _, _ => .no
  | d + 1, x1, M1, r1 =>
  if (M1 0 2) ≤ x1 then (F_Rd_passBlanksAndComments_B53 fu M1 r1) else (gO.bnd (F_Rd_next fu 0 M1 r1) (fun v10 M10 r10 => if v10 = 60 then (gO.bnd (F_Rd_next fu 1 M10 r10) (fun v12 M12 r12 => if v12 = 33 then (gO.bnd (F_Rd_passComment fu M12 r12) (fun v14 M14 r14 => gO.bnd (F_Rd_passBlanks fu M14 r14) (fun v15 M15 r15 => F_Rd_passBlanksAndComments_L7 fu d (x1 + 1) M15 r15))) else (F_Rd_passBlanksAndComments_B53 fu M12 r12))) else (F_Rd_passBlanksAndComments_B53 fu M10 r10)))
def F_Rd_passBlanksAndComments (fu : Nat) (M : gMem) (r : gRef) : gO Unit :=
  gO.bnd (F_Rd_passBlanks fu M r) (fun v16 M16 r16 => F_Rd_passBlanksAndComments_L7 fu fu 0 M16 r16)
def F_MR_beginsPart (fu : Nat) (x0 : Int32) (M : gMem) (r : gRef) : gO Int32 :=
  if x0 < 97 then (if x0 < 65 then (if x0 = 95 then (.ok 1 M r) else (.ok 0 M r)) else (if x0 ≤ 90 then (.ok 1 M r) else (if x0 = 95 then (.ok 1 M r) else (.ok 0 M r)))) else (if x0 ≤ 122 then (.ok 1 M r) else (if x0 < 65 then (if x0 = 95 then (.ok 1 M r) else (.ok 0 M r)) else (if x0 ≤ 90 then (.ok 1 M r) else (if x0 = 95 then (.ok 1 M r) else (.ok 0 M r)))))
def F_El_begin_n (fu : Nat) (k0 : Nat) (M : gMem) (r : gRef) : gO Unit :=
  .ok () (mS (mS (mS (mS (mS M 27 k0 1) 28 k0 0) 29 k0 0) 30 k0 0) 31 k0 0) (rS r 1 k0 none)
def F_Tr_add_n (fu : Nat) (M : gMem) (r : gRef) : gO (Option Nat) :=
  if 24 ≤ (M 2 0) then (.ok none M r) else (gd (vp_in (M 2 0) 24) (gO.bnd (F_El_begin_n fu ((M 2 0).toNatClampNeg) (mS M 2 0 ((M 2 0) + 1)) r) (fun v6 M6 r6 => .ok (some ((M 2 0).toNatClampNeg)) M6 r6)))
def F_MR_goesOnPart (fu : Nat) (x0 : Int32) (M : gMem) (r : gRef) : gO Int32 :=
  gO.bnd (F_MR_beginsPart fu x0 M r) (fun v9 M9 r9 => if v9 = 0 then (if x0 < 48 then (if x0 = 45 then (.ok 1 M9 r9) else (if x0 = 46 then (.ok 1 M9 r9) else (.ok 0 M9 r9))) else (if x0 ≤ 57 then (.ok 1 M9 r9) else (if x0 = 45 then (.ok 1 M9 r9) else (if x0 = 46 then (.ok 1 M9 r9) else (.ok 0 M9 r9))))) else (.ok 1 M9 r9))
def F_Rd_passPart_B58 (fu : Nat) (M1 : gMem) (r1 : gRef) : gO Unit :=
  .ok () M1 r1
def F_Rd_passPart_L20 (fu : Nat) : Nat → gMem → gRef → gO Unit
  | 0, _, _ => .no
  | d + 1, M1, r1 =>
  if (M1 0 2) ≤ (M1 35 0) then (F_Rd_passPart_B58 fu M1 r1) else (gO.bnd (F_Rd_next fu 0 M1 r1) (fun v10 M10 r10 => gO.bnd (F_MR_goesOnPart fu v10 M10 r10) (fun v11 M11 r11 => if v11 = 0 then (F_Rd_passPart_B58 fu M11 r11) else (F_Rd_passPart_L20 fu d (mS M11 35 0 ((M11 35 0) + 1)) r11))))
def F_Rd_passPart (fu : Nat) (M : gMem) (r : gRef) : gO Unit :=
  gO.bnd (F_Rd_next fu 0 M r) (fun v13 M13 r13 => gO.bnd (F_MR_beginsPart fu v13 M13 r13) (fun v14 M14 r14 => if v14 = 0 then (gO.bnd (F_Rd_fail fu 1 (M14 35 0) M14 r14) (fun _ _ _ => .no)) else (F_Rd_passPart_L20 fu fu M14 r14)))
def F_Rd_readName (fu : Nat) (k1 : Nat) (M : gMem) (r : gRef) : gO Unit :=
  gO.bnd (F_Rd_passPart fu (mS (mS M 20 k1 (M 35 0)) 21 k1 ((mS M 20 k1 (M 35 0)) 35 0)) (rS r 0 k1 (some 144))) (fun v5 M5 r5 => gO.bnd (F_Rd_next fu 0 M5 r5) (fun v6 M6 r6 => if v6 = 58 then (gO.bnd (F_Rd_passPart fu (mS (mS M6 35 0 ((M6 35 0) + 1)) 21 k1 ((mS M6 35 0 ((M6 35 0) + 1)) 35 0)) r6) (fun v8 M8 r8 => .ok () (mS M8 22 k1 (M8 35 0)) r8)) else (.ok () (mS M6 22 k1 (M6 35 0)) r6)))
def F_El_begin (fu : Nat) (k0 : Nat) (k1 : Nat) (M : gMem) (r : gRef) : gO Unit :=
  .ok () (mS (mS (mS (mS (mS (mS M 27 k0 ((M 27 k1) + 1)) 28 k0 0) 29 k0 0) 30 k0 0) 31 k0 0) 28 k1 (((mS (mS (mS (mS (mS M 27 k0 ((M 27 k1) + 1)) 28 k0 0) 29 k0 0) 30 k0 0) 31 k0 0) 28 k1) + 1)) (rS r 1 k0 (some k1))
def F_Tr_add (fu : Nat) (k1 : Nat) (M : gMem) (r : gRef) : gO (Option Nat) :=
  if 24 ≤ (M 2 0) then (.ok none M r) else (if (M 27 k1) < 12 then (gd (vp_in (M 2 0) 24) (gO.bnd (F_El_begin fu ((M 2 0).toNatClampNeg) k1 (mS M 2 0 ((M 2 0) + 1)) r) (fun v8 M8 r8 => .ok (some ((M 2 0).toNatClampNeg)) M8 r8))) else (.ok none M r))
def F_Nm_hasPrefix (fu : Nat) (k0 : Nat) (M : gMem) (r : gRef) : gO Int32 :=
  if (M 21 k0) ≤ (M 20 k0) then (.ok 0 M r) else (.ok 1 M r)
def F_Row_stretchIs_B49 (fu : Nat) (k0 : Nat) (x1 : Int32) (x2 : Int32) (q3 : Nat) (M1 : gMem) (r1 : gRef) : gO Int32 :=
  .ok 1 M1 r1
def F_Row_stretchIs_L15 (fu : Nat) (k0 : Nat) (x1 : Int32) (x2 : Int32) (q3 : Nat) : Nat → Int32 → gMem → gRef → gO Int32
  | 0, _, _, _ => .no
  | d + 1, x4, M1, r1 =>
  gO.bnd (F_St_length fu q3 M1 r1) (fun v8 M8 r8 => if v8 ≤ x4 then (F_Row_stretchIs_B49 fu k0 x1 x2 q3 M8 r8) else (gO.bnd (F_Row_at fu k0 (x1 + x4) M8 r8) (fun v10 M10 r10 => gO.bnd (F_St_charAt fu q3 x4 M10 r10) (fun v11 M11 r11 => if v10 = v11 then (F_Row_stretchIs_L15 fu k0 x1 x2 q3 d (x4 + 1) M11 r11) else (.ok 0 M11 r11)))))
def F_Row_stretchIs (fu : Nat) (k0 : Nat) (x1 : Int32) (x2 : Int32) (q3 : Nat) (M : gMem) (r : gRef) : gO Int32 :=
  gO.bnd (F_St_length fu q3 M r) (fun v13 M13 r13 => if (x2 - x1) = v13 then (F_Row_stretchIs_L15 fu k0 x1 x2 q3 fu 0 M13 r13) else (.ok 0 M13 r13))
def F_Nm_prefixEnd (fu : Nat) (k0 : Nat) (M : gMem) (r : gRef) : gO Int32 :=
  gO.bnd (F_Nm_hasPrefix fu k0 M r) (fun v3 M3 r3 => if v3 = 0 then (.ok (M3 20 k0) M3 r3) else (.ok ((M3 21 k0) - 1) M3 r3))
def F_Tr_isDeclaration (fu : Nat) (k1 : Nat) (M : gMem) (r : gRef) : gO Int32 :=
  gO.bnd (F_Nm_hasPrefix fu k1 M r) (fun v8 M8 r8 => if v8 = 0 then (gO.bnd (F_Row_stretchIs fu 2 (M8 20 k1) (M8 22 k1) 2 M8 r8) (fun v10 M10 r10 => gd (gNb v10) (.ok v10 M10 r10))) else (gO.bnd (F_Nm_prefixEnd fu k1 M8 r8) (fun v12 M12 r12 => gO.bnd (F_Row_stretchIs fu 2 (M12 20 k1) v12 2 M12 r12) (fun v13 M13 r13 => gd (gNb v13) (.ok v13 M13 r13)))))
def F_Rd_passIfThere_B31 (fu : Nat) (q1 : Nat) (M1 : gMem) (r1 : gRef) : gO Int32 :=
  gO.bnd (F_St_length fu q1 M1 r1) (fun v7 M7 r7 => .ok 1 (mS M7 35 0 ((M1 35 0) + v7)) r7)
def F_Rd_passIfThere_L2 (fu : Nat) (q1 : Nat) : Nat → Int32 → gMem → gRef → gO Int32
  | 0, _, _, _ => .no
  | d + 1, x2, M1, r1 =>
  gO.bnd (F_St_length fu q1 M1 r1) (fun v8 M8 r8 => if v8 ≤ x2 then (F_Rd_passIfThere_B31 fu q1 M8 r8) else (gO.bnd (F_Rd_next fu x2 M8 r8) (fun v10 M10 r10 => gO.bnd (F_St_charAt fu q1 x2 M10 r10) (fun v11 M11 r11 => if v10 = v11 then (F_Rd_passIfThere_L2 fu q1 d (x2 + 1) M11 r11) else (.ok 0 M11 r11)))))
def F_Rd_passIfThere (fu : Nat) (q1 : Nat) (M : gMem) (r : gRef) : gO Int32 :=
  F_Rd_passIfThere_L2 fu q1 fu 0 M r
def F_MR_digit (fu : Nat) (x0 : Int32) (x1 : Int32) (M : gMem) (r : gRef) : gO Int32 :=
  if x0 < 48 then (if x1 = 16 then (if x0 < 97 then (if x1 = 16 then (if x0 < 65 then (.ok (-1) M r) else (if 70 < x0 then (.ok (-1) M r) else (.ok ((x0 - 65) + 10) M r))) else (.ok (-1) M r)) else (if 102 < x0 then (if x1 = 16 then (if x0 < 65 then (.ok (-1) M r) else (if 70 < x0 then (.ok (-1) M r) else (.ok ((x0 - 65) + 10) M r))) else (.ok (-1) M r)) else (.ok ((x0 - 97) + 10) M r))) else (if x1 = 16 then (if x0 < 65 then (.ok (-1) M r) else (if 70 < x0 then (.ok (-1) M r) else (.ok ((x0 - 65) + 10) M r))) else (.ok (-1) M r))) else (if 57 < x0 then (if x1 = 16 then (if x0 < 97 then (if x1 = 16 then (if x0 < 65 then (.ok (-1) M r) else (if 70 < x0 then (.ok (-1) M r) else (.ok ((x0 - 65) + 10) M r))) else (.ok (-1) M r)) else (if 102 < x0 then (if x1 = 16 then (if x0 < 65 then (.ok (-1) M r) else (if 70 < x0 then (.ok (-1) M r) else (.ok ((x0 - 65) + 10) M r))) else (.ok (-1) M r)) else (.ok ((x0 - 97) + 10) M r))) else (if x1 = 16 then (if x0 < 65 then (.ok (-1) M r) else (if 70 < x0 then (.ok (-1) M r) else (.ok ((x0 - 65) + 10) M r))) else (.ok (-1) M r))) else (.ok (x0 - 48) M r))
def F_Rd_readNumber_B60 (fu : Nat) (x1 : Int32) (x2 : Int32) (M1 : gMem) (r1 : gRef) : gO Int32 :=
  gO.bnd (F_Rd_next fu 0 M1 r1) (fun v13 M13 r13 => if v13 = 59 then (gO.bnd (F_MR_isCharacter fu x2 M13 r13) (fun v15 M15 r15 => if v15 = 0 then (.ok 0 M15 r15) else (gd (gNc (iC x2)) (.ok (iC x2) (mS M15 35 0 ((M15 35 0) + 1)) r15)))) else (.ok 0 M13 r13))
def F_Rd_readNumber_L2 (fu : Nat) (x1 : Int32) : Nat → Int32 → gMem → gRef → gO Int32
  | 0, _, _, _ => .no
  | d + 1, x2, M1, r1 =>
  if (M1 0 2) ≤ (M1 35 0) then (F_Rd_readNumber_B60 fu x1 x2 M1 r1) else (gO.bnd (F_Rd_next fu 0 M1 r1) (fun v19 M19 r19 => gO.bnd (F_MR_digit fu v19 x1 M19 r19) (fun v20 M20 r20 => if v20 < 0 then (F_Rd_readNumber_B60 fu x1 x2 M20 r20) else (gO.bnd (F_Rd_next fu 0 M20 r20) (fun v22 M22 r22 => gO.bnd (F_MR_digit fu v22 x1 M22 r22) (fun v23 M23 r23 => gO.bnd (F_Ma_min fu ((x2 * x1) + v23) 127 M23 r23) (fun v24 M24 r24 => F_Rd_readNumber_L2 fu x1 d v24 (mS M24 35 0 ((M24 35 0) + 1)) r24)))))))
def F_Rd_readNumber (fu : Nat) (x1 : Int32) (M : gMem) (r : gRef) : gO Int32 :=
  F_Rd_readNumber_L2 fu x1 fu 0 M r
def F_Rd_readReference (fu : Nat) (M : gMem) (r : gRef) : gO Int32 :=
  gO.bnd (F_Rd_passIfThere fu 3 M r) (fun v29 M29 r29 => if v29 = 0 then (gO.bnd (F_Rd_passIfThere fu 4 M29 r29) (fun v31 M31 r31 => if v31 = 0 then (gO.bnd (F_Rd_passIfThere fu 5 M31 r31) (fun v33 M33 r33 => if v33 = 0 then (gO.bnd (F_Rd_passIfThere fu 6 M33 r33) (fun v35 M35 r35 => if v35 = 0 then (gO.bnd (F_Rd_passIfThere fu 7 M35 r35) (fun v37 M37 r37 => if v37 = 0 then (gO.bnd (F_Rd_passIfThere fu 8 M37 r37) (fun v39 M39 r39 => if v39 = 0 then (gO.bnd (F_Rd_passIfThere fu 9 M39 r39) (fun v41 M41 r41 => if v41 = 0 then (gO.bnd (F_Rd_fail fu 3 (M 35 0) M41 r41) (fun _ _ _ => .no)) else (gO.bnd (F_Rd_readNumber fu 10 M41 r41) (fun v44 M44 r44 => if v44 = 0 then (gO.bnd (F_Rd_fail fu 3 (M 35 0) M44 r44) (fun _ _ _ => .no)) else (gd (gNc v44) (.ok v44 M44 r44)))))) else (gO.bnd (F_Rd_readNumber fu 16 M39 r39) (fun v48 M48 r48 => if v48 = 0 then (gO.bnd (F_Rd_fail fu 3 (M 35 0) M48 r48) (fun _ _ _ => .no)) else (gd (gNc v48) (.ok v48 M48 r48)))))) else (gd (gNc 39) (.ok 39 M37 r37)))) else (gd (gNc 34) (.ok 34 M35 r35)))) else (gd (gNc 38) (.ok 38 M33 r33)))) else (gd (gNc 62) (.ok 62 M31 r31)))) else (gd (gNc 60) (.ok 60 M29 r29)))
def F_Rd_readValue_B165 (fu : Nat) (k1 : Nat) (x2 : Int32) (M1 : gMem) (r1 : gRef) : gO Unit :=
  gO.bnd (F_Rd_pass fu x2 M1 r1) (fun v20 M20 r20 => .ok () (mS M20 24 k1 (M20 0 3)) r20)
def F_Rd_readValue_L53 (fu : Nat) (k1 : Nat) : Nat → Int32 → Int32 → gMem → gRef → gO Unit
  | 0, _, _, _, _ => .no
  | d + 1, x2, x3, M1, r1 =>
  if (M1 0 2) ≤ x3 then (F_Rd_readValue_B165 fu k1 x2 M1 r1) else (gO.bnd (F_Rd_next fu 0 M1 r1) (fun v22 M22 r22 => if v22 = x2 then (F_Rd_readValue_B165 fu k1 x2 M22 r22) else (gO.bnd (F_Rd_next fu 0 M22 r22) (fun v24 M24 r24 => if v24 = 60 then (gO.bnd (F_Rd_fail fu 1 (M24 35 0) M24 r24) (fun _ _ _ => .no)) else (if v24 = 0 then (gO.bnd (F_Rd_fail fu 1 (M24 35 0) M24 r24) (fun _ _ _ => .no)) else (if v24 = 38 then (gO.bnd (F_Rd_readReference fu M24 r24) (fun v32 M32 r32 => gO.bnd (F_Row_put fu 3 v32 M32 r32) (fun v33 M33 r33 => F_Rd_readValue_L53 fu k1 d x2 (x3 + 1) M33 r33))) else (if v24 = 10 then (gO.bnd (F_Row_put fu 3 32 M24 r24) (fun v31 M31 r31 => F_Rd_readValue_L53 fu k1 d x2 (x3 + 1) (mS M31 35 0 ((M31 35 0) + 1)) r31)) else (gO.bnd (F_Row_put fu 3 v24 M24 r24) (fun v30 M30 r30 => F_Rd_readValue_L53 fu k1 d x2 (x3 + 1) (mS M30 35 0 ((M30 35 0) + 1)) r30)))))))))
def F_Rd_readValue (fu : Nat) (k1 : Nat) (M : gMem) (r : gRef) : gO Unit :=
  gO.bnd (F_Rd_next fu 0 M r) (fun v35 M35 r35 => if v35 = 34 then (F_Rd_readValue_L53 fu k1 fu v35 0 (mS (mS M35 35 0 ((M35 35 0) + 1)) 23 k1 ((mS M35 35 0 ((M35 35 0) + 1)) 0 3)) r35) else (if v35 = 39 then (F_Rd_readValue_L53 fu k1 fu v35 0 (mS (mS M35 35 0 ((M35 35 0) + 1)) 23 k1 ((mS M35 35 0 ((M35 35 0) + 1)) 0 3)) r35) else (gO.bnd (F_Rd_fail fu 1 (M35 35 0) M35 r35) (fun _ _ _ => .no))))
def F_Rd_readAttribute (fu : Nat) (k1 : Nat) (M : gMem) (r : gRef) : gO Unit :=
  gd (vp_in (M 29 k1) 6) (gO.bnd (F_Rd_readName fu (6 * k1 + (M 29 k1).toNatClampNeg) M r) (fun v14 M14 r14 => gO.bnd (F_Tr_isDeclaration fu (6 * k1 + (M 29 k1).toNatClampNeg) M14 r14) (fun v16 M16 r16 => gd (v16 = 0 ∨ v16 = 1) (gO.bnd (F_Rd_passBlanks fu (mS M16 25 (6 * k1 + (M 29 k1).toNatClampNeg) v16) r16) (fun v18 M18 r18 => gO.bnd (F_Rd_pass fu 61 M18 r18) (fun v19 M19 r19 => gO.bnd (F_Rd_passBlanks fu M19 r19) (fun v20 M20 r20 => gO.bnd (F_Rd_readValue fu (6 * k1 + (M 29 k1).toNatClampNeg) M20 r20) (fun v21 M21 r21 => if ((mS M21 29 k1 ((M21 29 k1) + 1)) 25 (6 * k1 + (M 29 k1).toNatClampNeg)) = 0 then (.ok () (mS M21 29 k1 ((M21 29 k1) + 1)) r21) else (.ok () (mS (mS M21 29 k1 ((M21 29 k1) + 1)) 30 k1 (((mS M21 29 k1 ((M21 29 k1) + 1)) 30 k1) + 1)) r21)))))))))
def F_Rd_readTag_B120 (fu : Nat) (k2 : Nat) (M1 : gMem) (r1 : gRef) : gO (Option Nat) :=
  gO.bnd (F_Rd_passIfThere fu 10 M1 r1) (fun v29 M29 r29 => gd (v29 = 0 ∨ v29 = 1) (gO.bnd (F_Rd_pass fu 62 (mS M29 26 k2 v29) r29) (fun v31 M31 r31 => .ok (some k2) M31 r31)))
def F_Rd_readTag_L65 (fu : Nat) : Nat → Int32 → Nat → Int32 → gMem → gRef → gO (Option Nat)
  | 0, _, _, _, _, _ => .no
  | d + 1, x1, k2, x3, M1, r1 =>
  if (M1 0 2) ≤ x3 then (F_Rd_readTag_B120 fu k2 M1 r1) else (gO.bnd (F_Rd_passBlanks fu M1 r1) (fun v33 M33 r33 => if v33 = 0 then (F_Rd_readTag_B120 fu k2 M33 r33) else (gO.bnd (F_Rd_next fu 0 M33 r33) (fun v35 M35 r35 => gO.bnd (F_MR_beginsPart fu v35 M35 r35) (fun v36 M36 r36 => if v36 = 0 then (F_Rd_readTag_B120 fu k2 M36 r36) else (if (M36 29 k2) < 6 then (gO.bnd (F_Rd_readAttribute fu k2 M36 r36) (fun v39 M39 r39 => F_Rd_readTag_L65 fu d x1 k2 (x3 + 1) M39 r39)) else (gO.bnd (F_Rd_fail fu 4 x1 M36 r36) (fun _ _ _ => .no))))))))
def F_Rd_readTag (fu : Nat) (M : gMem) (r : gRef) : gO (Option Nat) :=
  gO.bnd (F_Rd_pass fu 60 M r) (fun v41 M41 r41 => gO.bnd (F_Rd_next fu 0 M41 r41) (fun v42 M42 r42 => gO.bnd (F_MR_beginsPart fu v42 M42 r42) (fun v43 M43 r43 => if v43 = 0 then (gO.bnd (F_Rd_fail fu 1 (M43 35 0) M43 r43) (fun _ _ _ => .no)) else (gcs (r43 3 0) (gO.bnd (F_Tr_add_n fu M43 r43) (fun v46 M46 r46 => gcs v46 (gO.bnd (F_Rd_fail fu 4 (M 35 0) M46 r46) (fun _ _ _ => .no)) (fun k_47 => gd (k_47 < 24) (gO.bnd (F_Rd_readName fu (145 + k_47) M46 r46) (fun v50 M50 r50 => F_Rd_readTag_L65 fu fu (M 35 0) k_47 0 M50 r50))))) (fun k_45 => gd (k_45 < 24) (gO.bnd (F_Tr_add fu k_45 M43 r43) (fun v51 M51 r51 => gcs v51 (gO.bnd (F_Rd_fail fu 4 (M 35 0) M51 r51) (fun _ _ _ => .no)) (fun k_52 => gd (k_52 < 24) (gO.bnd (F_Rd_readName fu (145 + k_52) M51 r51) (fun v55 M55 r55 => F_Rd_readTag_L65 fu fu (M 35 0) k_52 0 M55 r55))))))))))
def F_Rd_enter_n (fu : Nat) (M : gMem) (r : gRef) : gO Unit :=
  .ok () M r
def F_Row_order_B61 (fu : Nat) (k0 : Nat) (x1 : Int32) (x2 : Int32) (x3 : Int32) (x4 : Int32) (x5 : Int32) (x6 : Int32) (M1 : gMem) (r1 : gRef) : gO Int32 :=
  .ok (x5 - x6) M1 r1
def F_Row_order_L14 (fu : Nat) (k0 : Nat) (x1 : Int32) (x2 : Int32) (x3 : Int32) (x4 : Int32) : Nat → Int32 → Int32 → Int32 → gMem → gRef → gO Int32
  | 0, _, _, _, _, _ => .no
  | d + 1, x5, x6, x7, M1, r1 =>
  if x5 ≤ x7 then (F_Row_order_B61 fu k0 x1 x2 x3 x4 x5 x6 M1 r1) else (if x6 ≤ x7 then (F_Row_order_B61 fu k0 x1 x2 x3 x4 x5 x6 M1 r1) else (gO.bnd (F_Row_at fu k0 (x1 + x7) M1 r1) (fun v8 M8 r8 => gO.bnd (F_Row_at fu k0 (x3 + x7) M8 r8) (fun v9 M9 r9 => if (v8 - v9) = 0 then (F_Row_order_L14 fu k0 x1 x2 x3 x4 d x5 x6 (x7 + 1) M9 r9) else (.ok (v8 - v9) M9 r9)))))
def F_Row_order (fu : Nat) (k0 : Nat) (x1 : Int32) (x2 : Int32) (x3 : Int32) (x4 : Int32) (M : gMem) (r : gRef) : gO Int32 :=
  F_Row_order_L14 fu k0 x1 x2 x3 x4 fu (x2 - x1) (x4 - x3) 0 M r
def F_Tr_sameName (fu : Nat) (k1 : Nat) (k2 : Nat) (M : gMem) (r : gRef) : gO Int32 :=
  gO.bnd (F_Row_order fu 2 (M 20 k1) (M 22 k1) (M 20 k2) (M 22 k2) M r) (fun v3 M3 r3 => if v3 = 0 then (.ok 1 M3 r3) else (.ok 0 M3 r3))
def F_SF_firstNameTwice_B67 (fu : Nat) (k1 : Nat) (M1 : gMem) (r1 : gRef) : gO Int32 :=
  .ok (-1) M1 r1
def F_SF_firstNameTwice_I23 (fu : Nat) (k1 : Nat) : Nat → Int32 → Nat → Int32 → gMem → gRef → gO (Sum Int32 Unit)
  | 0, _, _, _, _, _ => .no
  | d2 + 1, x2, k3, x4, M1, r1 =>
  if x2 ≤ x4 then (.ok (.inr ()) M1 r1) else (gd (vp_in x4 6) (gO.bnd (F_Tr_sameName fu (6 * k1 + x4.toNatClampNeg) k3 M1 r1) (fun v16 M16 r16 => if v16 = 0 then (F_SF_firstNameTwice_I23 fu k1 d2 x2 k3 (x4 + 1) M16 r16) else (.ok (.inl (M16 20 k3)) M16 r16))))
def F_SF_firstNameTwice_L2 (fu : Nat) (k1 : Nat) : Nat → Int32 → gMem → gRef → gO Int32
  | 0, _, _, _ => .no
  | d + 1, x2, M1, r1 =>
  if (M1 29 k1) ≤ x2 then (F_SF_firstNameTwice_B67 fu k1 M1 r1) else (gd (vp_in x2 6) (gO.bnd (F_SF_firstNameTwice_I23 fu k1 fu x2 (6 * k1 + x2.toNatClampNeg) 0 M1 r1) (fun s18 M18 r18 => gsm s18 (fun v => .ok v M18 r18) (fun _ => F_SF_firstNameTwice_L2 fu k1 d (x2 + 1) M18 r18))))
def F_SF_firstNameTwice (fu : Nat) (k1 : Nat) (M : gMem) (r : gRef) : gO Int32 :=
  F_SF_firstNameTwice_L2 fu k1 fu 0 M r
def F_Rd_failUnlessNowhere (fu : Nat) (x1 : Int32) (x2 : Int32) (M : gMem) (r : gRef) : gO Unit :=
  if x2 = (-1) then (.ok () M r) else (gO.bnd (F_Rd_fail fu x1 x2 M r) (fun _ _ _ => .no))
def F_At_valueLength (fu : Nat) (k0 : Nat) (M : gMem) (r : gRef) : gO Int32 :=
  .ok ((M 24 k0) - (M 23 k0)) M r
def F_SF_declaresFixed (fu : Nat) (k1 : Nat) (M : gMem) (r : gRef) : gO Int32 :=
  gO.bnd (F_Row_stretchIs fu 2 (M 21 k1) (M 22 k1) 11 M r) (fun v5 M5 r5 => if v5 = 0 then (gO.bnd (F_Row_stretchIs fu 2 (M5 21 k1) (M5 22 k1) 17 M5 r5) (fun v7 M7 r7 => if v7 = 0 then (.ok 0 M7 r7) else (.ok 1 M7 r7))) else (.ok 1 M5 r5))
def F_SF_firstWrongDeclaration_B66 (fu : Nat) (k1 : Nat) (M1 : gMem) (r1 : gRef) : gO Int32 :=
  .ok (-1) M1 r1
def F_SF_firstWrongDeclaration_L2 (fu : Nat) (k1 : Nat) : Nat → Int32 → gMem → gRef → gO Int32
  | 0, _, _, _ => .no
  | d + 1, x2, M1, r1 =>
  if (M1 29 k1) ≤ x2 then (F_SF_firstWrongDeclaration_B66 fu k1 M1 r1) else (gd (vp_in x2 6) (if (M1 25 (6 * k1 + x2.toNatClampNeg)) = 0 then (F_SF_firstWrongDeclaration_L2 fu k1 d (x2 + 1) M1 r1) else (gO.bnd (F_Nm_hasPrefix fu (6 * k1 + x2.toNatClampNeg) M1 r1) (fun v18 M18 r18 => if v18 = 0 then (F_SF_firstWrongDeclaration_L2 fu k1 d (x2 + 1) M18 r18) else (gO.bnd (F_At_valueLength fu (6 * k1 + x2.toNatClampNeg) M18 r18) (fun v20 M20 r20 => if v20 = 0 then (.ok (M20 20 (6 * k1 + x2.toNatClampNeg)) M20 r20) else (gO.bnd (F_SF_declaresFixed fu (6 * k1 + x2.toNatClampNeg) M20 r20) (fun v24 M24 r24 => if v24 = 0 then (F_SF_firstWrongDeclaration_L2 fu k1 d (x2 + 1) M24 r24) else (.ok (M24 20 (6 * k1 + x2.toNatClampNeg)) M24 r24)))))))))
def F_SF_firstWrongDeclaration (fu : Nat) (k1 : Nat) (M : gMem) (r : gRef) : gO Int32 :=
  F_SF_firstWrongDeclaration_L2 fu k1 fu 0 M r
def F_At_declaredStart (fu : Nat) (k0 : Nat) (M : gMem) (r : gRef) : gO Int32 :=
  gO.bnd (F_Nm_hasPrefix fu k0 M r) (fun v7 M7 r7 => if v7 = 0 then (.ok (M7 22 k0) M7 r7) else (.ok (M7 21 k0) M7 r7))
def F_Tr_declarationFor_B83 (fu : Nat) (k1 : Nat) (x2 : Int32) (x3 : Int32) (M1 : gMem) (r1 : gRef) : gO (Option Nat) :=
  .ok (some 144) M1 r1
def F_Tr_declarationFor_I11 (fu : Nat) (k1 : Nat) (x2 : Int32) (x3 : Int32) : Nat → Nat → Int32 → gMem → gRef → gO (Sum (Option Nat) Unit)
  | 0, _, _, _, _ => .no
  | d2 + 1, k4, x5, M1, r1 =>
  if (M1 29 k4) ≤ x5 then (.ok (.inr ()) M1 r1) else (gd (vp_in x5 6) (if (M1 25 (6 * k4 + x5.toNatClampNeg)) = 0 then (F_Tr_declarationFor_I11 fu k1 x2 x3 d2 k4 (x5 + 1) M1 r1) else (gO.bnd (F_At_declaredStart fu (6 * k4 + x5.toNatClampNeg) M1 r1) (fun v15 M15 r15 => gO.bnd (F_Row_order fu 2 v15 (M15 22 (6 * k4 + x5.toNatClampNeg)) x2 x3 M15 r15) (fun v17 M17 r17 => if v17 = 0 then (.ok (.inl (some (6 * k4 + x5.toNatClampNeg))) M17 r17) else (F_Tr_declarationFor_I11 fu k1 x2 x3 d2 k4 (x5 + 1) M17 r17))))))
def F_Tr_declarationFor_L3 (fu : Nat) (k1 : Nat) (x2 : Int32) (x3 : Int32) : Nat → (Option Nat) → gMem → gRef → gO (Option Nat)
  | 0, _, _, _ => .no
  | d + 1, o4, M1, r1 =>
  gcs o4 (F_Tr_declarationFor_B83 fu k1 x2 x3 M1 r1) (fun k_11 => gd (k_11 < 24) (gO.bnd (F_Tr_declarationFor_I11 fu k1 x2 x3 fu k_11 0 M1 r1) (fun s19 M19 r19 => gsm s19 (fun v => .ok v M19 r19) (fun _ => gcs (r19 1 k_11) (F_Tr_declarationFor_L3 fu k1 x2 x3 d none M19 r19) (fun k_20 => gd (k_20 < 24) (F_Tr_declarationFor_L3 fu k1 x2 x3 d (some k_20) M19 r19))))))
def F_Tr_declarationFor (fu : Nat) (k1 : Nat) (x2 : Int32) (x3 : Int32) (M : gMem) (r : gRef) : gO (Option Nat) :=
  F_Tr_declarationFor_L3 fu k1 x2 x3 fu (some k1) M r
def F_SF_findSpaces_B93 (fu : Nat) (k1 : Nat) (M1 : gMem) (r1 : gRef) : gO Unit :=
  .ok () M1 r1
def F_SF_findSpaces_L27 (fu : Nat) (k1 : Nat) : Nat → Int32 → gMem → gRef → gO Unit
  | 0, _, _, _ => .no
  | d + 1, x3, M1, r1 =>
  if (M1 29 k1) ≤ x3 then (F_SF_findSpaces_B93 fu k1 M1 r1) else (gd (vp_in x3 6) (gO.bnd (F_Nm_hasPrefix fu (6 * k1 + x3.toNatClampNeg) M1 r1) (fun v16 M16 r16 => if v16 = 0 then (F_SF_findSpaces_L27 fu k1 d (x3 + 1) M16 (rS r16 0 (6 * k1 + x3.toNatClampNeg) (some 144))) else (gO.bnd (F_Nm_prefixEnd fu (6 * k1 + x3.toNatClampNeg) M16 r16) (fun v18 M18 r18 => gO.bnd (F_Tr_declarationFor fu k1 (M16 20 (6 * k1 + x3.toNatClampNeg)) v18 M18 r18) (fun v19 M19 r19 => gcs v19 (F_SF_findSpaces_L27 fu k1 d (x3 + 1) M19 (rS r19 0 (6 * k1 + x3.toNatClampNeg) none)) (fun k_20 => gd (k_20 < 145) (F_SF_findSpaces_L27 fu k1 d (x3 + 1) M19 (rS r19 0 (6 * k1 + x3.toNatClampNeg) (some k_20))))))))))
def F_SF_findSpaces (fu : Nat) (k1 : Nat) (M : gMem) (r : gRef) : gO Unit :=
  gO.bnd (F_Nm_prefixEnd fu (145 + k1) M r) (fun v22 M22 r22 => gO.bnd (F_Tr_declarationFor fu k1 (M 20 (145 + k1)) v22 M22 r22) (fun v23 M23 r23 => gcs v23 (F_SF_findSpaces_L27 fu k1 fu 0 M23 (rS r23 0 (145 + k1) none)) (fun k_24 => gd (k_24 < 145) (F_SF_findSpaces_L27 fu k1 fu 0 M23 (rS r23 0 (145 + k1) (some k_24))))))
def F_Nm_hasSpace (fu : Nat) (k0 : Nat) (M : gMem) (r : gRef) : gO Int32 :=
  gcs (r 0 k0) (.no) (fun k_4 => gd (k_4 < 145) (gO.bnd (F_At_valueLength fu k_4 M r) (fun v5 M5 r5 => if v5 ≤ 0 then (.ok 0 M5 r5) else (.ok 1 M5 r5))))
def F_SF_firstNotDeclared_B86 (fu : Nat) (k1 : Nat) (M1 : gMem) (r1 : gRef) : gO Int32 :=
  .ok (-1) M1 r1
def F_SF_firstNotDeclared_L30 (fu : Nat) (k1 : Nat) : Nat → Int32 → gMem → gRef → gO Int32
  | 0, _, _, _ => .no
  | d + 1, x2, M1, r1 =>
  if (M1 29 k1) ≤ x2 then (F_SF_firstNotDeclared_B86 fu k1 M1 r1) else (gd (vp_in x2 6) (if (M1 25 (6 * k1 + x2.toNatClampNeg)) = 0 then (gO.bnd (F_Nm_hasPrefix fu (6 * k1 + x2.toNatClampNeg) M1 r1) (fun v22 M22 r22 => if v22 = 0 then (F_SF_firstNotDeclared_L30 fu k1 d (x2 + 1) M22 r22) else (gO.bnd (F_Nm_hasSpace fu (6 * k1 + x2.toNatClampNeg) M22 r22) (fun v25 M25 r25 => if v25 = 0 then (.ok (M25 20 (6 * k1 + x2.toNatClampNeg)) M25 r25) else (F_SF_firstNotDeclared_L30 fu k1 d (x2 + 1) M25 r25))))) else (F_SF_firstNotDeclared_L30 fu k1 d (x2 + 1) M1 r1)))
def F_SF_firstNotDeclared (fu : Nat) (k1 : Nat) (M : gMem) (r : gRef) : gO Int32 :=
  gO.bnd (F_Nm_hasPrefix fu (145 + k1) M r) (fun v29 M29 r29 => if v29 = 0 then (F_SF_firstNotDeclared_L30 fu k1 fu 0 M29 r29) else (gO.bnd (F_Nm_hasSpace fu (145 + k1) M29 r29) (fun v32 M32 r32 => if v32 = 0 then (.ok (M32 20 (145 + k1)) M32 r32) else (F_SF_firstNotDeclared_L30 fu k1 fu 0 M32 r32))))
def F_Tr_sameValue (fu : Nat) (k1 : Nat) (k2 : Nat) (M : gMem) (r : gRef) : gO Int32 :=
  gO.bnd (F_Row_order fu 3 (M 23 k1) (M 24 k1) (M 23 k2) (M 24 k2) M r) (fun v3 M3 r3 => if v3 = 0 then (.ok 1 M3 r3) else (.ok 0 M3 r3))
def F_Tr_sameLocal (fu : Nat) (k1 : Nat) (k2 : Nat) (M : gMem) (r : gRef) : gO Int32 :=
  gO.bnd (F_Row_order fu 2 (M 21 k1) (M 22 k1) (M 21 k2) (M 22 k2) M r) (fun v3 M3 r3 => if v3 = 0 then (.ok 1 M3 r3) else (.ok 0 M3 r3))
def F_SF_meanTheSame (fu : Nat) (k1 : Nat) (k2 : Nat) (M : gMem) (r : gRef) : gO Int32 :=
  gO.bnd (F_Nm_hasSpace fu k1 M r) (fun v10 M10 r10 => if v10 = 0 then (.ok 0 M10 r10) else (gcs (r10 0 k1) (gcs (r10 0 k2) (.no) (fun k_13 => gd (k_13 < 145) (.no))) (fun k_12 => gd (k_12 < 145) (gcs (r10 0 k2) (.no) (fun k_14 => gd (k_14 < 145) (gO.bnd (F_Tr_sameValue fu k_12 k_14 M10 r10) (fun v15 M15 r15 => if v15 = 0 then (.ok 0 M15 r15) else (gO.bnd (F_Tr_sameLocal fu k1 k2 M15 r15) (fun v17 M17 r17 => if v17 = 0 then (.ok 0 M17 r17) else (.ok 1 M17 r17))))))))))
def F_SF_firstTwiceInSpace_B64 (fu : Nat) (k1 : Nat) (M1 : gMem) (r1 : gRef) : gO Int32 :=
  .ok (-1) M1 r1
def F_SF_firstTwiceInSpace_I23 (fu : Nat) (k1 : Nat) : Nat → Int32 → Nat → Int32 → gMem → gRef → gO (Sum Int32 Unit)
  | 0, _, _, _, _, _ => .no
  | d2 + 1, x2, k3, x4, M1, r1 =>
  if x2 ≤ x4 then (.ok (.inr ()) M1 r1) else (gd (vp_in x4 6) (gO.bnd (F_SF_meanTheSame fu (6 * k1 + x4.toNatClampNeg) k3 M1 r1) (fun v16 M16 r16 => if v16 = 0 then (F_SF_firstTwiceInSpace_I23 fu k1 d2 x2 k3 (x4 + 1) M16 r16) else (.ok (.inl (M16 20 k3)) M16 r16))))
def F_SF_firstTwiceInSpace_L2 (fu : Nat) (k1 : Nat) : Nat → Int32 → gMem → gRef → gO Int32
  | 0, _, _, _ => .no
  | d + 1, x2, M1, r1 =>
  if (M1 29 k1) ≤ x2 then (F_SF_firstTwiceInSpace_B64 fu k1 M1 r1) else (gd (vp_in x2 6) (gO.bnd (F_SF_firstTwiceInSpace_I23 fu k1 fu x2 (6 * k1 + x2.toNatClampNeg) 0 M1 r1) (fun s18 M18 r18 => gsm s18 (fun v => .ok v M18 r18) (fun _ => F_SF_firstTwiceInSpace_L2 fu k1 d (x2 + 1) M18 r18))))
def F_SF_firstTwiceInSpace (fu : Nat) (k1 : Nat) (M : gMem) (r : gRef) : gO Int32 :=
  F_SF_firstTwiceInSpace_L2 fu k1 fu 0 M r
def F_FW_comesBefore (fu : Nat) (k1 : Nat) (k2 : Nat) (M : gMem) (r : gRef) : gO Int32 :=
  if (M 25 k1) = (M 25 k2) then (if (M 25 k1) = 0 then (gcs (r 0 k1) (gcs (r 0 k2) (.no) (fun k_30 => gd (k_30 < 145) (.no))) (fun k_28 => gd (k_28 < 145) (gcs (r 0 k2) (.no) (fun k_32 => gd (k_32 < 145) (gO.bnd (F_Row_order fu 3 (M 23 k_28) (M 24 k_28) (M 23 k_32) (M 24 k_32) M r) (fun v33 M33 r33 => if v33 = 0 then (gO.bnd (F_Row_order fu 2 (M33 21 k1) (M33 22 k1) (M33 21 k2) (M33 22 k2) M33 r33) (fun v39 M39 r39 => if 0 ≤ v39 then (.ok 0 M39 r39) else (.ok 1 M39 r39))) else (if 0 ≤ v33 then (.ok 0 M33 r33) else (.ok 1 M33 r33)))))))) else (gO.bnd (F_At_declaredStart fu k1 M r) (fun v42 M42 r42 => gO.bnd (F_At_declaredStart fu k2 M42 r42) (fun v44 M44 r44 => gO.bnd (F_Row_order fu 2 v42 (M42 22 k1) v44 (M44 22 k2) M44 r44) (fun v46 M46 r46 => if 0 ≤ v46 then (.ok 0 M46 r46) else (.ok 1 M46 r46)))))) else (gd (gNb (M 25 k1)) (.ok (M 25 k1) M r))
def F_FW_insertSorted_B55 (fu : Nat) (k1 : Nat) (x2 : Int32) (M1 : gMem) (r1 : gRef) : gO Unit :=
  gd (vp_in x2 6) (.ok () (mS M1 34 0 ((M1 34 0) + 1)) (rS r1 2 x2.toNatClampNeg (some k1)))
def F_FW_insertSorted_L15 (fu : Nat) (k1 : Nat) : Nat → Int32 → gMem → gRef → gO Unit
  | 0, _, _, _ => .no
  | d + 1, x2, M1, r1 =>
  if x2 ≤ 0 then (F_FW_insertSorted_B55 fu k1 x2 M1 r1) else (gd (vp_in (x2 - 1) 6) (gcs (r1 2 (x2 - 1).toNatClampNeg) (.no) (fun k_15 => gd (k_15 < 145) (gO.bnd (F_FW_comesBefore fu k1 k_15 M1 r1) (fun v16 M16 r16 => if v16 = 0 then (F_FW_insertSorted_B55 fu k1 x2 M16 r16) else (gd (vp_in (x2 - 1) 6) (gcs (r16 2 (x2 - 1).toNatClampNeg) (gd (vp_in x2 6) (.no)) (fun k_19 => gd (k_19 < 145) (gd (vp_in x2 6) (F_FW_insertSorted_L15 fu k1 d (x2 + (-1)) M16 (rS r16 2 x2.toNatClampNeg (some k_19))))))))))))
def F_FW_insertSorted (fu : Nat) (k1 : Nat) (M : gMem) (r : gRef) : gO Unit :=
  if (M 34 0) < 6 then (F_FW_insertSorted_L15 fu k1 fu (M 34 0) M r) else (.ok () M r)
def F_Tr_declarationFor_n_B83 (fu : Nat) (x2 : Int32) (x3 : Int32) (M1 : gMem) (r1 : gRef) : gO (Option Nat) :=
  .ok (some 144) M1 r1
def F_Tr_declarationFor_n_I11 (fu : Nat) (x2 : Int32) (x3 : Int32) : Nat → Nat → Int32 → gMem → gRef → gO (Sum (Option Nat) Unit)
  | 0, _, _, _, _ => .no
  | d2 + 1, k4, x5, M1, r1 =>
  if (M1 29 k4) ≤ x5 then (.ok (.inr ()) M1 r1) else (gd (vp_in x5 6) (if (M1 25 (6 * k4 + x5.toNatClampNeg)) = 0 then (F_Tr_declarationFor_n_I11 fu x2 x3 d2 k4 (x5 + 1) M1 r1) else (gO.bnd (F_At_declaredStart fu (6 * k4 + x5.toNatClampNeg) M1 r1) (fun v15 M15 r15 => gO.bnd (F_Row_order fu 2 v15 (M15 22 (6 * k4 + x5.toNatClampNeg)) x2 x3 M15 r15) (fun v17 M17 r17 => if v17 = 0 then (.ok (.inl (some (6 * k4 + x5.toNatClampNeg))) M17 r17) else (F_Tr_declarationFor_n_I11 fu x2 x3 d2 k4 (x5 + 1) M17 r17))))))
def F_Tr_declarationFor_n_L3 (fu : Nat) (x2 : Int32) (x3 : Int32) : Nat → (Option Nat) → gMem → gRef → gO (Option Nat)
  | 0, _, _, _ => .no
  | d + 1, o4, M1, r1 =>
  gcs o4 (F_Tr_declarationFor_n_B83 fu x2 x3 M1 r1) (fun k_11 => gd (k_11 < 24) (gO.bnd (F_Tr_declarationFor_n_I11 fu x2 x3 fu k_11 0 M1 r1) (fun s19 M19 r19 => gsm s19 (fun v => .ok v M19 r19) (fun _ => gcs (r19 1 k_11) (F_Tr_declarationFor_n_L3 fu x2 x3 d none M19 r19) (fun k_20 => gd (k_20 < 24) (F_Tr_declarationFor_n_L3 fu x2 x3 d (some k_20) M19 r19))))))
def F_Tr_declarationFor_n (fu : Nat) (x2 : Int32) (x3 : Int32) (M : gMem) (r : gRef) : gO (Option Nat) :=
  F_Tr_declarationFor_n_L3 fu x2 x3 fu none M r
def F_FW_saysSomethingElse (fu : Nat) (k1 : Nat) (k2 : Nat) (M : gMem) (r : gRef) : gO Int32 :=
  gcs (r 1 k1) (gO.bnd (F_At_declaredStart fu k2 M r) (fun v15 M15 r15 => gO.bnd (F_Tr_declarationFor_n fu v15 (M15 22 k2) M15 r15) (fun v17 M17 r17 => gcs v17 (.no) (fun k_18 => gd (k_18 < 145) (gO.bnd (F_Tr_sameValue fu k_18 k2 M17 r17) (fun v19 M19 r19 => if v19 = 0 then (.ok 1 M19 r19) else (.ok 0 M19 r19))))))) (fun k_14 => gd (k_14 < 24) (gO.bnd (F_At_declaredStart fu k2 M r) (fun v21 M21 r21 => gO.bnd (F_Tr_declarationFor fu k_14 v21 (M21 22 k2) M21 r21) (fun v23 M23 r23 => gcs v23 (.no) (fun k_24 => gd (k_24 < 145) (gO.bnd (F_Tr_sameValue fu k_24 k2 M23 r23) (fun v25 M25 r25 => if v25 = 0 then (.ok 1 M25 r25) else (.ok 0 M25 r25))))))))
def F_FW_putName_B37 (fu : Nat) (k1 : Nat) (M1 : gMem) (r1 : gRef) : gO Unit :=
  .ok () M1 r1
def F_FW_putName_L5 (fu : Nat) (k1 : Nat) : Nat → Int32 → gMem → gRef → gO Unit
  | 0, _, _, _ => .no
  | d + 1, x2, M1, r1 =>
  if (M1 22 k1) ≤ x2 then (F_FW_putName_B37 fu k1 M1 r1) else (gO.bnd (F_Row_at fu 2 x2 M1 r1) (fun v5 M5 r5 => gO.bnd (F_Row_put fu 5 v5 M5 r5) (fun v6 M6 r6 => F_FW_putName_L5 fu k1 d (x2 + 1) M6 r6)))
def F_FW_putName (fu : Nat) (k1 : Nat) (M : gMem) (r : gRef) : gO Unit :=
  F_FW_putName_L5 fu k1 fu (M 20 k1) M r
def F_Row_putText_B25 (fu : Nat) (k0 : Nat) (q1 : Nat) (M1 : gMem) (r1 : gRef) : gO Unit :=
  .ok () M1 r1
def F_Row_putText_L2 (fu : Nat) (k0 : Nat) (q1 : Nat) : Nat → Int32 → gMem → gRef → gO Unit
  | 0, _, _, _ => .no
  | d + 1, x2, M1, r1 =>
  gO.bnd (F_St_length fu q1 M1 r1) (fun v5 M5 r5 => if v5 ≤ x2 then (F_Row_putText_B25 fu k0 q1 M5 r5) else (gO.bnd (F_St_charAt fu q1 x2 M5 r5) (fun v7 M7 r7 => gO.bnd (F_Row_put fu k0 v7 M7 r7) (fun v8 M8 r8 => F_Row_putText_L2 fu k0 q1 d (x2 + 1) M8 r8))))
def F_Row_putText (fu : Nat) (k0 : Nat) (q1 : Nat) (M : gMem) (r : gRef) : gO Unit :=
  F_Row_putText_L2 fu k0 q1 fu 0 M r
def F_FW_putInValue (fu : Nat) (x1 : Int32) (M : gMem) (r : gRef) : gO Unit :=
  if x1 = 38 then (gO.bnd (F_Row_putText fu 5 18 M r) (fun v18 M18 r18 => .ok () M18 r18)) else (if x1 = 60 then (gO.bnd (F_Row_putText fu 5 19 M r) (fun v17 M17 r17 => .ok () M17 r17)) else (if x1 = 34 then (gO.bnd (F_Row_putText fu 5 21 M r) (fun v16 M16 r16 => .ok () M16 r16)) else (if x1 = 10 then (gO.bnd (F_Row_putText fu 5 13 M r) (fun v15 M15 r15 => .ok () M15 r15)) else (gO.bnd (F_Row_put fu 5 x1 M r) (fun v14 M14 r14 => .ok () M14 r14)))))
def F_FW_putAttribute_B60 (fu : Nat) (k1 : Nat) (M1 : gMem) (r1 : gRef) : gO Unit :=
  gO.bnd (F_Row_put fu 5 34 M1 r1) (fun v9 M9 r9 => .ok () M9 r9)
def F_FW_putAttribute_L31 (fu : Nat) (k1 : Nat) : Nat → Int32 → gMem → gRef → gO Unit
  | 0, _, _, _ => .no
  | d + 1, x2, M1, r1 =>
  if (M1 24 k1) ≤ x2 then (F_FW_putAttribute_B60 fu k1 M1 r1) else (gO.bnd (F_Row_at fu 3 x2 M1 r1) (fun v11 M11 r11 => gO.bnd (F_FW_putInValue fu v11 M11 r11) (fun v12 M12 r12 => F_FW_putAttribute_L31 fu k1 d (x2 + 1) M12 r12)))
def F_FW_putAttribute (fu : Nat) (k1 : Nat) (M : gMem) (r : gRef) : gO Unit :=
  gO.bnd (F_Row_put fu 5 32 M r) (fun v13 M13 r13 => gO.bnd (F_FW_putName fu k1 M13 r13) (fun v15 M15 r15 => gO.bnd (F_Row_putText fu 5 12 M15 r15) (fun v16 M16 r16 => F_FW_putAttribute_L31 fu k1 fu (M16 23 k1) M16 r16)))
def F_FW_beginElement_B92 (fu : Nat) (k1 : Nat) (M1 : gMem) (r1 : gRef) : gO Unit :=
  gO.bnd (F_Row_put fu 5 62 M1 r1) (fun v16 M16 r16 => .ok () M16 r16)
def F_FW_beginElement_L68 (fu : Nat) (k1 : Nat) : Nat → Int32 → gMem → gRef → gO Unit
  | 0, _, _, _ => .no
  | d + 1, x2, M1, r1 =>
  if (M1 34 0) ≤ x2 then (F_FW_beginElement_B92 fu k1 M1 r1) else (gd (vp_in x2 6) (gcs (r1 2 x2.toNatClampNeg) (.no) (fun k_19 => gd (k_19 < 145) (gO.bnd (F_FW_putAttribute fu k_19 M1 r1) (fun v20 M20 r20 => F_FW_beginElement_L68 fu k1 d (x2 + 1) M20 r20)))))
def F_FW_beginElement_B49 (fu : Nat) (k1 : Nat) (M1 : gMem) (r1 : gRef) : gO Unit :=
  gO.bnd (F_Row_put fu 5 60 M1 r1) (fun v21 M21 r21 => gO.bnd (F_FW_putName fu (145 + k1) M21 r21) (fun v23 M23 r23 => F_FW_beginElement_L68 fu k1 fu 0 M23 r23))
def F_FW_beginElement_L7 (fu : Nat) (k1 : Nat) : Nat → Int32 → gMem → gRef → gO Unit
  | 0, _, _, _ => .no
  | d + 1, x2, M1, r1 =>
  if (M1 29 k1) ≤ x2 then (F_FW_beginElement_B49 fu k1 M1 r1) else (gd (vp_in x2 6) (if (M1 25 (6 * k1 + x2.toNatClampNeg)) = 0 then (gO.bnd (F_FW_insertSorted fu (6 * k1 + x2.toNatClampNeg) M1 r1) (fun v27 M27 r27 => F_FW_beginElement_L7 fu k1 d (x2 + 1) M27 r27)) else (gO.bnd (F_FW_saysSomethingElse fu k1 (6 * k1 + x2.toNatClampNeg) M1 r1) (fun v28 M28 r28 => if v28 = 0 then (F_FW_beginElement_L7 fu k1 d (x2 + 1) M28 r28) else (gO.bnd (F_FW_insertSorted fu (6 * k1 + x2.toNatClampNeg) M28 r28) (fun v30 M30 r30 => F_FW_beginElement_L7 fu k1 d (x2 + 1) M30 r30))))))
def F_FW_beginElement (fu : Nat) (k1 : Nat) (M : gMem) (r : gRef) : gO Unit :=
  F_FW_beginElement_L7 fu k1 fu 0 (mS M 34 0 0) r
def F_FW_endElement (fu : Nat) (k1 : Nat) (M : gMem) (r : gRef) : gO Unit :=
  gO.bnd (F_Row_putText fu 5 22 M r) (fun v5 M5 r5 => gO.bnd (F_FW_putName fu (145 + k1) M5 r5) (fun v7 M7 r7 => gO.bnd (F_Row_put fu 5 62 M7 r7) (fun v8 M8 r8 => .ok () M8 r8)))
def F_Rd_enter (fu : Nat) (k1 : Nat) (M : gMem) (r : gRef) : gO Unit :=
  gO.bnd (F_SF_firstNameTwice fu k1 M r) (fun v13 M13 r13 => gO.bnd (F_Rd_failUnlessNowhere fu 5 v13 M13 r13) (fun v14 M14 r14 => gO.bnd (F_SF_firstWrongDeclaration fu k1 M14 r14) (fun v15 M15 r15 => gO.bnd (F_Rd_failUnlessNowhere fu 6 v15 M15 r15) (fun v16 M16 r16 => gO.bnd (F_SF_findSpaces fu k1 M16 r16) (fun v17 M17 r17 => gO.bnd (F_SF_firstNotDeclared fu k1 M17 r17) (fun v18 M18 r18 => gO.bnd (F_Rd_failUnlessNowhere fu 7 v18 M18 r18) (fun v19 M19 r19 => gO.bnd (F_SF_firstTwiceInSpace fu k1 M19 r19) (fun v20 M20 r20 => gO.bnd (F_Rd_failUnlessNowhere fu 8 v20 M20 r20) (fun v21 M21 r21 => gO.bnd (F_FW_beginElement fu k1 M21 r21) (fun v22 M22 r22 => if (M22 26 k1) = 0 then (.ok () M22 (rS r22 3 0 (some k1))) else (gO.bnd (F_FW_endElement fu k1 M22 r22) (fun v24 M24 r24 => .ok () M24 r24))))))))))))
def F_Tr_addContent_n (fu : Nat) (x2 : Int32) (M : gMem) (r : gRef) : gO Unit :=
  if 240 ≤ (M 0 4) then (.ok () M r) else (.no)
def F_FW_putContent (fu : Nat) (x1 : Int32) (M : gMem) (r : gRef) : gO Unit :=
  if x1 = 38 then (gO.bnd (F_Row_putText fu 5 18 M r) (fun v14 M14 r14 => .ok () M14 r14)) else (if x1 = 60 then (gO.bnd (F_Row_putText fu 5 19 M r) (fun v13 M13 r13 => .ok () M13 r13)) else (if x1 = 62 then (gO.bnd (F_Row_putText fu 5 20 M r) (fun v12 M12 r12 => .ok () M12 r12)) else (gO.bnd (F_Row_put fu 5 x1 M r) (fun v11 M11 r11 => .ok () M11 r11))))
def F_Rd_addContent_n (fu : Nat) (x2 : Int32) (M : gMem) (r : gRef) : gO Unit :=
  gO.bnd (F_Tr_addContent_n fu x2 M r) (fun v3 M3 r3 => gO.bnd (F_FW_putContent fu x2 M3 r3) (fun v4 M4 r4 => .ok () M4 r4))
def F_Rd_readSection_n_B74 (fu : Nat) (M1 : gMem) (r1 : gRef) : gO Unit :=
  gO.bnd (F_Rd_passAll fu 16 M1 r1) (fun v16 M16 r16 => .ok () M16 r16)
def F_Rd_readSection_n_L7 (fu : Nat) : Nat → gMem → gRef → gO Unit
  | 0, _, _ => .no
  | d + 1, M1, r1 =>
  if (M1 0 2) ≤ (M1 35 0) then (F_Rd_readSection_n_B74 fu M1 r1) else (gO.bnd (F_Rd_next fu 0 M1 r1) (fun v18 M18 r18 => if v18 = 93 then (gO.bnd (F_Rd_next fu 1 M18 r18) (fun v22 M22 r22 => if v22 = 93 then (gO.bnd (F_Rd_next fu 2 M22 r22) (fun v26 M26 r26 => if v26 = 62 then (F_Rd_readSection_n_B74 fu M26 r26) else (gO.bnd (F_Rd_next fu 0 M26 r26) (fun v28 M28 r28 => gO.bnd (F_Rd_addContent_n fu v28 M28 r28) (fun v29 M29 r29 => F_Rd_readSection_n_L7 fu d (mS M29 35 0 ((M29 35 0) + 1)) r29))))) else (gO.bnd (F_Rd_next fu 0 M22 r22) (fun v24 M24 r24 => gO.bnd (F_Rd_addContent_n fu v24 M24 r24) (fun v25 M25 r25 => F_Rd_readSection_n_L7 fu d (mS M25 35 0 ((M25 35 0) + 1)) r25))))) else (gO.bnd (F_Rd_next fu 0 M18 r18) (fun v20 M20 r20 => gO.bnd (F_Rd_addContent_n fu v20 M20 r20) (fun v21 M21 r21 => F_Rd_readSection_n_L7 fu d (mS M21 35 0 ((M21 35 0) + 1)) r21)))))
def F_Rd_readSection_n (fu : Nat) (M : gMem) (r : gRef) : gO Unit :=
  gO.bnd (F_Rd_passAll fu 15 M r) (fun v30 M30 r30 => F_Rd_readSection_n_L7 fu fu M30 r30)
def F_Tr_addContent (fu : Nat) (k1 : Nat) (x2 : Int32) (M : gMem) (r : gRef) : gO Unit :=
  if 240 ≤ (M 0 4) then (.ok () M r) else (gd (vp_in (M 0 4) 240) (gO.bnd (F_Row_put fu 4 x2 (mS M 1 (M 0 4).toNatClampNeg (nI k1)) r) (fun v6 M6 r6 => .ok () (mS M6 31 k1 ((M6 31 k1) + 1)) r6)))
def F_Rd_addContent (fu : Nat) (k1 : Nat) (x2 : Int32) (M : gMem) (r : gRef) : gO Unit :=
  gO.bnd (F_Tr_addContent fu k1 x2 M r) (fun v3 M3 r3 => gO.bnd (F_FW_putContent fu x2 M3 r3) (fun v4 M4 r4 => .ok () M4 r4))
def F_Rd_readSection_B74 (fu : Nat) (k1 : Nat) (M1 : gMem) (r1 : gRef) : gO Unit :=
  gO.bnd (F_Rd_passAll fu 16 M1 r1) (fun v16 M16 r16 => .ok () M16 r16)
def F_Rd_readSection_L7 (fu : Nat) (k1 : Nat) : Nat → gMem → gRef → gO Unit
  | 0, _, _ => .no
  | d + 1, M1, r1 =>
  if (M1 0 2) ≤ (M1 35 0) then (F_Rd_readSection_B74 fu k1 M1 r1) else (gO.bnd (F_Rd_next fu 0 M1 r1) (fun v18 M18 r18 => if v18 = 93 then (gO.bnd (F_Rd_next fu 1 M18 r18) (fun v22 M22 r22 => if v22 = 93 then (gO.bnd (F_Rd_next fu 2 M22 r22) (fun v26 M26 r26 => if v26 = 62 then (F_Rd_readSection_B74 fu k1 M26 r26) else (gO.bnd (F_Rd_next fu 0 M26 r26) (fun v28 M28 r28 => gO.bnd (F_Rd_addContent fu k1 v28 M28 r28) (fun v29 M29 r29 => F_Rd_readSection_L7 fu k1 d (mS M29 35 0 ((M29 35 0) + 1)) r29))))) else (gO.bnd (F_Rd_next fu 0 M22 r22) (fun v24 M24 r24 => gO.bnd (F_Rd_addContent fu k1 v24 M24 r24) (fun v25 M25 r25 => F_Rd_readSection_L7 fu k1 d (mS M25 35 0 ((M25 35 0) + 1)) r25))))) else (gO.bnd (F_Rd_next fu 0 M18 r18) (fun v20 M20 r20 => gO.bnd (F_Rd_addContent fu k1 v20 M20 r20) (fun v21 M21 r21 => F_Rd_readSection_L7 fu k1 d (mS M21 35 0 ((M21 35 0) + 1)) r21)))))
def F_Rd_readSection (fu : Nat) (k1 : Nat) (M : gMem) (r : gRef) : gO Unit :=
  gO.bnd (F_Rd_passAll fu 15 M r) (fun v30 M30 r30 => F_Rd_readSection_L7 fu k1 fu M30 r30)
def F_Rd_readEndTag_n (fu : Nat) (M : gMem) (r : gRef) : gO Unit :=
  gO.bnd (F_Rd_passAll fu 14 M r) (fun v3 M3 r3 => gO.bnd (F_Rd_readName fu 169 M3 r3) (fun v4 M4 r4 => .no))
def F_Rd_readEndTag (fu : Nat) (k1 : Nat) (M : gMem) (r : gRef) : gO Unit :=
  gO.bnd (F_Rd_passAll fu 14 M r) (fun v11 M11 r11 => gO.bnd (F_Rd_readName fu 169 M11 r11) (fun v12 M12 r12 => gO.bnd (F_Tr_sameName fu (145 + k1) 169 M12 r12) (fun v14 M14 r14 => if v14 = 0 then (gO.bnd (F_Rd_fail fu 2 (M14 20 169) M14 r14) (fun _ _ _ => .no)) else (gO.bnd (F_Rd_passBlanks fu M14 r14) (fun v16 M16 r16 => gO.bnd (F_Rd_pass fu 62 M16 r16) (fun v17 M17 r17 => gO.bnd (F_FW_endElement fu k1 M17 r17) (fun v18 M18 r18 => gcs (r18 1 k1) (.ok () M18 (rS r18 3 0 none)) (fun k_19 => gd (k_19 < 24) (.ok () M18 (rS r18 3 0 (some k_19)))))))))))
def F_Rd_readPlain_n (fu : Nat) (M : gMem) (r : gRef) : gO Unit :=
  gO.bnd (F_Rd_next fu 0 M r) (fun v19 M19 r19 => if v19 = 62 then (gO.bnd (F_Rd_next fu (-1) M19 r19) (fun v24 M24 r24 => if v24 = 93 then (gO.bnd (F_Rd_next fu (-2) M24 r24) (fun v29 M29 r29 => if v29 = 93 then (if v19 = 0 then (gO.bnd (F_Rd_fail fu 1 (M29 35 0) M29 r29) (fun _ _ _ => .no)) else (gO.bnd (F_Rd_fail fu 1 (M29 35 0) M29 r29) (fun _ _ _ => .no))) else (if v19 = 0 then (gO.bnd (F_Rd_fail fu 1 (M29 35 0) M29 r29) (fun _ _ _ => .no)) else (gO.bnd (F_Rd_addContent_n fu v19 M29 r29) (fun v33 M33 r33 => .ok () (mS M33 35 0 ((M33 35 0) + 1)) r33))))) else (if v19 = 0 then (gO.bnd (F_Rd_fail fu 1 (M24 35 0) M24 r24) (fun _ _ _ => .no)) else (gO.bnd (F_Rd_addContent_n fu v19 M24 r24) (fun v28 M28 r28 => .ok () (mS M28 35 0 ((M28 35 0) + 1)) r28))))) else (if v19 = 0 then (gO.bnd (F_Rd_fail fu 1 (M19 35 0) M19 r19) (fun _ _ _ => .no)) else (gO.bnd (F_Rd_addContent_n fu v19 M19 r19) (fun v23 M23 r23 => .ok () (mS M23 35 0 ((M23 35 0) + 1)) r23))))
def F_Rd_readPlain (fu : Nat) (k1 : Nat) (M : gMem) (r : gRef) : gO Unit :=
  gO.bnd (F_Rd_next fu 0 M r) (fun v19 M19 r19 => if v19 = 62 then (gO.bnd (F_Rd_next fu (-1) M19 r19) (fun v24 M24 r24 => if v24 = 93 then (gO.bnd (F_Rd_next fu (-2) M24 r24) (fun v29 M29 r29 => if v29 = 93 then (if v19 = 0 then (gO.bnd (F_Rd_fail fu 1 (M29 35 0) M29 r29) (fun _ _ _ => .no)) else (gO.bnd (F_Rd_fail fu 1 (M29 35 0) M29 r29) (fun _ _ _ => .no))) else (if v19 = 0 then (gO.bnd (F_Rd_fail fu 1 (M29 35 0) M29 r29) (fun _ _ _ => .no)) else (gO.bnd (F_Rd_addContent fu k1 v19 M29 r29) (fun v33 M33 r33 => .ok () (mS M33 35 0 ((M33 35 0) + 1)) r33))))) else (if v19 = 0 then (gO.bnd (F_Rd_fail fu 1 (M24 35 0) M24 r24) (fun _ _ _ => .no)) else (gO.bnd (F_Rd_addContent fu k1 v19 M24 r24) (fun v28 M28 r28 => .ok () (mS M28 35 0 ((M28 35 0) + 1)) r28))))) else (if v19 = 0 then (gO.bnd (F_Rd_fail fu 1 (M19 35 0) M19 r19) (fun _ _ _ => .no)) else (gO.bnd (F_Rd_addContent fu k1 v19 M19 r19) (fun v23 M23 r23 => .ok () (mS M23 35 0 ((M23 35 0) + 1)) r23))))
def F_Rd_readText_B156 (fu : Nat) (k1 : Nat) (M1 : gMem) (r1 : gRef) : gO Unit :=
  gO.bnd (F_Rd_passBlanksAndComments fu M1 r1) (fun v44 M44 r44 => if (M44 0 2) ≤ (M44 35 0) then (.ok () M44 r44) else (gO.bnd (F_Rd_next fu 0 M44 r44) (fun v46 M46 r46 => if v46 = 60 then (gO.bnd (F_Rd_fail fu 1 ((M46 35 0) + 1) M46 r46) (fun _ _ _ => .no)) else (gO.bnd (F_Rd_fail fu 1 (M46 35 0) M46 r46) (fun _ _ _ => .no)))))
def F_Rd_readText_L19 (fu : Nat) (k1 : Nat) : Nat → Int32 → gMem → gRef → gO Unit
  | 0, _, _, _ => .no
  | d + 1, x2, M1, r1 =>
  if (M1 0 2) ≤ x2 then (F_Rd_readText_B156 fu k1 M1 r1) else (gcs (r1 3 0) (F_Rd_readText_B156 fu k1 M1 r1) (fun k_51 => gd (k_51 < 24) (gO.bnd (F_Rd_next fu 0 M1 r1) (fun v52 M52 r52 => if v52 = 38 then (gcs (r52 3 0) (gO.bnd (F_Rd_readReference fu M52 r52) (fun v77 M77 r77 => gO.bnd (F_Rd_addContent_n fu v77 M77 r77) (fun v78 M78 r78 => F_Rd_readText_L19 fu k1 d (x2 + 1) M78 r78))) (fun k_76 => gd (k_76 < 24) (gO.bnd (F_Rd_readReference fu M52 r52) (fun v79 M79 r79 => gO.bnd (F_Rd_addContent fu k_76 v79 M79 r79) (fun v80 M80 r80 => F_Rd_readText_L19 fu k1 d (x2 + 1) M80 r80))))) else (gO.bnd (F_Rd_next fu 0 M52 r52) (fun v54 M54 r54 => if v54 = 60 then (gO.bnd (F_Rd_next fu 1 M54 r54) (fun v56 M56 r56 => if v56 = 47 then (gcs (r56 3 0) (gO.bnd (F_Rd_readEndTag_n fu M56 r56) (fun v71 M71 r71 => F_Rd_readText_L19 fu k1 d (x2 + 1) M71 r71)) (fun k_70 => gd (k_70 < 24) (gO.bnd (F_Rd_readEndTag fu k_70 M56 r56) (fun v72 M72 r72 => F_Rd_readText_L19 fu k1 d (x2 + 1) M72 r72)))) else (gO.bnd (F_Rd_next fu 1 M56 r56) (fun v58 M58 r58 => if v58 = 33 then (gO.bnd (F_Rd_next fu 2 M58 r58) (fun v60 M60 r60 => if v60 = 91 then (gcs (r60 3 0) (gO.bnd (F_Rd_readSection_n fu M60 r60) (fun v64 M64 r64 => F_Rd_readText_L19 fu k1 d (x2 + 1) M64 r64)) (fun k_63 => gd (k_63 < 24) (gO.bnd (F_Rd_readSection fu k_63 M60 r60) (fun v65 M65 r65 => F_Rd_readText_L19 fu k1 d (x2 + 1) M65 r65)))) else (gO.bnd (F_Rd_passComment fu M60 r60) (fun v62 M62 r62 => F_Rd_readText_L19 fu k1 d (x2 + 1) M62 r62)))) else (gO.bnd (F_Rd_readTag fu M58 r58) (fun v66 M66 r66 => gcs v66 (gO.bnd (F_Rd_enter_n fu M66 r66) (fun v68 M68 r68 => F_Rd_readText_L19 fu k1 d (x2 + 1) M68 r68)) (fun k_67 => gd (k_67 < 24) (gO.bnd (F_Rd_enter fu k_67 M66 r66) (fun v69 M69 r69 => F_Rd_readText_L19 fu k1 d (x2 + 1) M69 r69))))))))) else (gcs (r54 3 0) (gO.bnd (F_Rd_readPlain_n fu M54 r54) (fun v74 M74 r74 => F_Rd_readText_L19 fu k1 d (x2 + 1) M74 r74)) (fun k_73 => gd (k_73 < 24) (gO.bnd (F_Rd_readPlain fu k_73 M54 r54) (fun v75 M75 r75 => F_Rd_readText_L19 fu k1 d (x2 + 1) M75 r75))))))))))
def F_Rd_readText (fu : Nat) (k1 : Nat) (M : gMem) (r : gRef) : gO Unit :=
  gO.bnd (F_Rd_beginWith fu k1 M r) (fun v81 M81 r81 => gO.bnd (F_Rd_passBlanksAndComments fu M81 r81) (fun v82 M82 r82 => gO.bnd (F_Rd_readTag fu M82 r82) (fun v83 M83 r83 => gcs v83 (gO.bnd (F_Rd_enter_n fu M83 r83) (fun v85 M85 r85 => F_Rd_readText_L19 fu k1 fu 0 M85 r85)) (fun k_84 => gd (k_84 < 24) (gO.bnd (F_Rd_enter fu k_84 M83 r83) (fun v86 M86 r86 => F_Rd_readText_L19 fu k1 fu 0 M86 r86))))))
def F_MR_read (fu : Nat) (M : gMem) (r : gRef) : gO Int32 :=
  gO.bnd (F_Rd_readText fu 0 M r) (fun v2 M2 r2 => .ok (M2 2 0) M2 r2)
def F_MR_reason (fu : Nat) (M : gMem) (r : gRef) : gO Int32 :=
  .ok (M 36 0) M r
def F_MR_place (fu : Nat) (M : gMem) (r : gRef) : gO Int32 :=
  .ok (M 37 0) M r
def F_Tr_find (fu : Nat) (x1 : Int32) (M : gMem) (r : gRef) : gO (Option Nat) :=
  if x1 < 0 then (.ok none M r) else (if (M 2 0) ≤ x1 then (.ok none M r) else (gd (vp_in x1 24) (.ok (some x1.toNatClampNeg) M r)))
def F_MR_element (fu : Nat) (x1 : Int32) (x2 : Int32) (M : gMem) (r : gRef) : gO Int32 :=
  gO.bnd (F_Tr_find fu x1 M r) (fun v11 M11 r11 => gcs v11 (.ex 2 M11 r11) (fun k_12 => gd (k_12 < 24) (if x2 = 0 then (gcs (r11 1 k_12) (.ok (-1) M11 r11) (fun k_13 => gd (k_13 < 24) (gcs (r11 1 k_12) (.no) (fun k_14 => gd (k_14 < 24) (.ok (nI k_14) M11 r11))))) else (if x2 = 1 then (.ok (M11 28 k_12) M11 r11) else (if x2 = 2 then (.ok ((M11 29 k_12) - (M11 30 k_12)) M11 r11) else (if x2 = 3 then (.ok (M11 31 k_12) M11 r11) else (if x2 = 4 then (gO.bnd (F_Nm_hasSpace fu (145 + k_12) M11 r11) (fun v16 M16 r16 => if v16 = 0 then (.ok (-1) M16 r16) else (gcs (r16 0 (145 + k_12)) (.no) (fun k_19 => gd (k_19 < 145) (gO.bnd (F_At_valueLength fu k_19 M16 r16) (fun v20 M20 r20 => .ok v20 M20 r20)))))) else (.ex 0 M11 r11))))))))
def F_MR_name (fu : Nat) (x1 : Int32) (x2 : Int32) (M : gMem) (r : gRef) : gO Int32 :=
  gO.bnd (F_Tr_find fu x1 M r) (fun v10 M10 r10 => gcs v10 (.ex 2 M10 r10) (fun k_11 => gd (k_11 < 24) (if x2 < 0 then (.ex 2 M10 r10) else (if x2 < ((M10 22 (145 + k_11)) - (M10 20 (145 + k_11))) then (gO.bnd (F_Row_at fu 2 ((M10 20 (145 + k_11)) + x2) M10 r10) (fun v17 M17 r17 => gd (gNc v17) (.ok v17 M17 r17))) else (.ex 2 M10 r10)))))
def F_Tr_ownContentAt_B48 (fu : Nat) (k1 : Nat) (x2 : Int32) (M1 : gMem) (r1 : gRef) : gO Int32 :=
  .ok (-1) M1 r1
def F_Tr_ownContentAt_L5 (fu : Nat) (k1 : Nat) (x2 : Int32) : Nat → Int32 → Int32 → gMem → gRef → gO Int32
  | 0, _, _, _, _ => .no
  | d + 1, x3, x4, M1, r1 =>
  if (M1 0 4) ≤ x4 then (F_Tr_ownContentAt_B48 fu k1 x2 M1 r1) else (gd (vp_in x4 240) (if (M1 1 x4.toNatClampNeg) = (nI k1) then (if x3 = x2 then (.ok x4 M1 r1) else (F_Tr_ownContentAt_L5 fu k1 x2 d (x3 + 1) (x4 + 1) M1 r1)) else (F_Tr_ownContentAt_L5 fu k1 x2 d x3 (x4 + 1) M1 r1)))
def F_Tr_ownContentAt (fu : Nat) (k1 : Nat) (x2 : Int32) (M : gMem) (r : gRef) : gO Int32 :=
  F_Tr_ownContentAt_L5 fu k1 x2 fu 0 0 M r
def F_MR_content (fu : Nat) (x1 : Int32) (x2 : Int32) (M : gMem) (r : gRef) : gO Int32 :=
  gO.bnd (F_Tr_find fu x1 M r) (fun v7 M7 r7 => gcs v7 (.ex 2 M7 r7) (fun k_8 => gd (k_8 < 24) (gO.bnd (F_Tr_ownContentAt fu k_8 x2 M7 r7) (fun v9 M9 r9 => if v9 = (-1) then (.ex 2 M9 r9) else (gO.bnd (F_Row_at fu 4 v9 M9 r9) (fun v11 M11 r11 => gd (gNc v11) (.ok v11 M11 r11)))))))
def F_MR_space (fu : Nat) (x1 : Int32) (x2 : Int32) (M : gMem) (r : gRef) : gO Int32 :=
  gO.bnd (F_Tr_find fu x1 M r) (fun v12 M12 r12 => gcs v12 (.ex 2 M12 r12) (fun k_13 => gd (k_13 < 24) (if x2 < 0 then (.ex 2 M12 r12) else (gcs (r12 0 (145 + k_13)) (.no) (fun k_16 => gd (k_16 < 145) (gO.bnd (F_At_valueLength fu k_16 M12 r12) (fun v17 M17 r17 => if x2 < v17 then (gcs (r17 0 (145 + k_13)) (.no) (fun k_20 => gd (k_20 < 145) (gO.bnd (F_Row_at fu 3 ((M17 23 k_20) + x2) M17 r17) (fun v21 M21 r21 => gd (gNc v21) (.ok v21 M21 r21))))) else (.ex 2 M17 r17))))))))
def F_MR_form (fu : Nat) (M : gMem) (r : gRef) : gO Int32 :=
  .ok (M 0 5) M r
def F_MR_formAt (fu : Nat) (x1 : Int32) (M : gMem) (r : gRef) : gO Int32 :=
  if x1 < 0 then (.ex 2 M r) else (if x1 < (M 0 5) then (gO.bnd (F_Row_at fu 5 x1 M r) (fun v7 M7 r7 => gd (gNc v7) (.ok v7 M7 r7))) else (.ex 2 M r))
def F_MR_retype (fu : Nat) (M : gMem) (r : gRef) : gO Int32 :=
  if (M 2 0) = 0 then (.ex 1 M r) else (if (M 0 5) ≤ 240 then (gO.bnd (F_Row_copyOf fu 0 5 M r) (fun v6 M6 r6 => .ok (M6 0 0) M6 r6)) else (.ex 1 M r))
def F_MR_keep (fu : Nat) (M : gMem) (r : gRef) : gO Unit :=
  if (M 2 0) = 0 then (.ex 1 M r) else (gO.bnd (F_Row_copyOf fu 1 5 M r) (fun v4 M4 r4 => .ok () M4 r4))
def F_Row_holdsSameAs_B44 (fu : Nat) (k0 : Nat) (k1 : Nat) (M1 : gMem) (r1 : gRef) : gO Int32 :=
  .ok 1 M1 r1
def F_Row_holdsSameAs_L15 (fu : Nat) (k0 : Nat) (k1 : Nat) : Nat → Int32 → gMem → gRef → gO Int32
  | 0, _, _, _ => .no
  | d + 1, x2, M1, r1 =>
  if (M1 0 k0) ≤ x2 then (F_Row_holdsSameAs_B44 fu k0 k1 M1 r1) else (gO.bnd (F_Row_at fu k0 x2 M1 r1) (fun v7 M7 r7 => gO.bnd (F_Row_at fu k1 x2 M7 r7) (fun v8 M8 r8 => if v7 = v8 then (F_Row_holdsSameAs_L15 fu k0 k1 d (x2 + 1) M8 r8) else (.ok 0 M8 r8))))
def F_Row_holdsSameAs (fu : Nat) (k0 : Nat) (k1 : Nat) (M : gMem) (r : gRef) : gO Int32 :=
  if (M 0 k0) = (M 0 k1) then (F_Row_holdsSameAs_L15 fu k0 k1 fu 0 M r) else (.ok 0 M r)
def F_MR_same (fu : Nat) (M : gMem) (r : gRef) : gO Int32 :=
  if (M 2 0) ≤ 0 then (.ok 0 M r) else (gO.bnd (F_Row_holdsSameAs fu 1 5 M r) (fun v5 M5 r5 => if v5 = 0 then (.ok 0 M5 r5) else (.ok 1 M5 r5)))
def F_Mo_thrown (fu : Nat) (M : gMem) (r : gRef) : gO Int32 :=
  .ok (M 100 0) M r
def F_Mo_isCharacter (fu : Nat) (x1 : Int32) (M : gMem) (r : gRef) : gO Int32 :=
  if x1 = 10 then (.ok 1 M r) else (if x1 < 32 then (.ok 0 M r) else (if 126 < x1 then (.ok 0 M r) else (.ok 1 M r)))
def F_Mo_starts (fu : Nat) (x1 : Int32) (M : gMem) (r : gRef) : gO Int32 :=
  if x1 < 97 then (if x1 < 65 then (if x1 = 95 then (.ok 1 M r) else (.ok 0 M r)) else (if x1 ≤ 90 then (.ok 1 M r) else (if x1 = 95 then (.ok 1 M r) else (.ok 0 M r)))) else (if x1 ≤ 122 then (.ok 1 M r) else (if x1 < 65 then (if x1 = 95 then (.ok 1 M r) else (.ok 0 M r)) else (if x1 ≤ 90 then (.ok 1 M r) else (if x1 = 95 then (.ok 1 M r) else (.ok 0 M r)))))
def F_Mo_goesOn (fu : Nat) (x1 : Int32) (M : gMem) (r : gRef) : gO Int32 :=
  gO.bnd (F_Mo_starts fu x1 M r) (fun v9 M9 r9 => if v9 = 0 then (if x1 < 48 then (if x1 = 45 then (.ok 1 M9 r9) else (if x1 = 46 then (.ok 1 M9 r9) else (.ok 0 M9 r9))) else (if x1 ≤ 57 then (.ok 1 M9 r9) else (if x1 = 45 then (.ok 1 M9 r9) else (if x1 = 46 then (.ok 1 M9 r9) else (.ok 0 M9 r9))))) else (.ok 1 M9 r9))
def F_Mo_here (fu : Nat) (x1 : Int32) (M : gMem) (r : gRef) : gO Int32 :=
  if (M 101 0) ≤ x1 then (.ok 0 M r) else (gd (vp_in x1 240) (.ok (M 102 x1.toNatClampNeg) M r))
def F_Mo_blank (fu : Nat) (x1 : Int32) (M : gMem) (r : gRef) : gO Int32 :=
  if x1 = 32 then (.ok 1 M r) else (if x1 = 10 then (.ok 1 M r) else (.ok 0 M r))
def F_Mo_type (fu : Nat) (x1 : Int32) (M : gMem) (r : gRef) : gO Int32 :=
  gO.bnd (F_Mo_isCharacter fu x1 M r) (fun v5 M5 r5 => if v5 = 0 then (.ok 0 (mS M5 100 0 1) r5) else (if (M5 101 0) = 240 then (.ok 0 (mS M5 100 0 2) r5) else (gd (vp_in ((mS M5 100 0 0) 101 0) 240) (.ok ((mS (mS (mS M5 100 0 0) 102 ((mS M5 100 0 0) 101 0).toNatClampNeg x1) 101 0 (((mS (mS M5 100 0 0) 102 ((mS M5 100 0 0) 101 0).toNatClampNeg x1) 101 0) + 1)) 101 0) (mS (mS (mS M5 100 0 0) 102 ((mS M5 100 0 0) 101 0).toNatClampNeg x1) 101 0 (((mS (mS M5 100 0 0) 102 ((mS M5 100 0 0) 101 0).toNatClampNeg x1) 101 0) + 1)) r5))))
def F_Mo_wipe (fu : Nat) (M : gMem) (r : gRef) : gO Unit :=
  .ok () (mS (mS M 100 0 0) 101 0 0) r
def F_Mo_fail (fu : Nat) (x1 : Int32) (x2 : Int32) (M : gMem) (r : gRef) : gO Int32 :=
  .ok 0 (mS (mS M 104 0 x1) 105 0 x2) r
def F_Mo_over (fu : Nat) (x1 : Int32) (M : gMem) (r : gRef) : gO Int32 :=
  gO.bnd (F_Mo_here fu (M 103 0) M r) (fun v5 M5 r5 => if v5 = x1 then (.ok 1 (mS M5 103 0 ((M5 103 0) + 1)) r5) else (gO.bnd (F_Mo_fail fu 1 (M5 103 0) M5 r5) (fun v7 M7 r7 => gd (gNb v7) (.ok v7 M7 r7))))
def F_Mo_skip_B33 (fu : Nat) (x1 : Int32) (M1 : gMem) (r1 : gRef) : gO Int32 :=
  .ok x1 M1 r1
def F_Mo_skip_L2 (fu : Nat) : Nat → Int32 → gMem → gRef → gO Int32
  | 0, _, _, _ => .no
  | d + 1, x1, M1, r1 =>
  gO.bnd (F_Mo_here fu (M1 103 0) M1 r1) (fun v4 M4 r4 => gO.bnd (F_Mo_blank fu v4 M4 r4) (fun v5 M5 r5 => if v5 = 0 then (F_Mo_skip_B33 fu x1 M5 r5) else (F_Mo_skip_L2 fu d (x1 + 1) (mS M5 103 0 ((M5 103 0) + 1)) r5)))
def F_Mo_skip (fu : Nat) (M : gMem) (r : gRef) : gO Int32 :=
  F_Mo_skip_L2 fu fu 0 M r
def F_Mo_comment_B82 (fu : Nat) (M1 : gMem) (r1 : gRef) : gO Int32 :=
  gO.bnd (F_Mo_fail fu 1 (M1 103 0) M1 r1) (fun v13 M13 r13 => gd (gNb v13) (.ok v13 M13 r13))
def F_Mo_comment_L22 (fu : Nat) : Nat → Int32 → gMem → gRef → gO Int32
  | 0, _, _, _ => .no
  | d + 1, x1, M1, r1 =>
  if (M1 101 0) ≤ (M1 103 0) then (F_Mo_comment_B82 fu M1 r1) else (gd (vp_in (M1 103 0) 240) (if x1 = 2 then (gO.bnd (F_Mo_over fu 62 M1 r1) (fun v19 M19 r19 => gd (gNb v19) (.ok v19 M19 r19))) else (if (M1 102 (M1 103 0).toNatClampNeg) = 45 then (F_Mo_comment_L22 fu d (x1 + 1) (mS M1 103 0 ((M1 103 0) + 1)) r1) else (F_Mo_comment_L22 fu d 0 (mS M1 103 0 ((M1 103 0) + 1)) r1))))
def F_Mo_comment (fu : Nat) (M : gMem) (r : gRef) : gO Int32 :=
  gO.bnd (F_Mo_over fu 45 M r) (fun v21 M21 r21 => if v21 = 0 then (.ok 0 M21 r21) else (gO.bnd (F_Mo_over fu 45 M21 r21) (fun v23 M23 r23 => if v23 = 0 then (.ok 0 M23 r23) else (F_Mo_comment_L22 fu fu 0 M23 r23))))
def F_Mo_around_L0 (fu : Nat) (x1 : Int32) : Nat → gMem → gRef → gO Int32
  | 0, _, _ => .no
  | d + 1, M1, r1 =>
  gO.bnd (F_Mo_skip fu M1 r1) (fun v16 M16 r16 => if (M16 103 0) = (M16 101 0) then (if x1 = 0 then (if v16 < 0 then (.ok 0 M16 r16) else (.ok 1 M16 r16)) else (gO.bnd (F_Mo_fail fu 1 (M16 103 0) M16 r16) (fun v29 M29 r29 => gd (gNb v29) (.ok v29 M29 r29)))) else (gO.bnd (F_Mo_over fu 60 M16 r16) (fun v18 M18 r18 => if v18 = 0 then (.ok 0 M18 r18) else (gO.bnd (F_Mo_here fu (M18 103 0) M18 r18) (fun v20 M20 r20 => if v20 = 33 then (gO.bnd (F_Mo_comment fu (mS M20 103 0 ((M20 103 0) + 1)) r20) (fun v25 M25 r25 => if v25 = 0 then (.ok 0 M25 r25) else (F_Mo_around_L0 fu x1 d M25 r25))) else (if x1 = 0 then (gO.bnd (F_Mo_fail fu 1 (M20 103 0) M20 r20) (fun v23 M23 r23 => gd (gNb v23) (.ok v23 M23 r23))) else (.ok 1 (mS M20 103 0 ((M20 103 0) - 1)) r20)))))))
def F_Mo_around (fu : Nat) (x1 : Int32) (M : gMem) (r : gRef) : gO Int32 :=
  F_Mo_around_L0 fu x1 fu M r
def F_Mo_readName_B171 (fu : Nat) (M1 : gMem) (r1 : gRef) : gO Int32 :=
  .ok 1 (mS M1 132 0 ((M1 107 0) - (M1 131 0))) r1
def F_Mo_readName_L43 (fu : Nat) : Nat → Int32 → gMem → gRef → gO Int32
  | 0, _, _, _ => .no
  | d + 1, x1, M1, r1 =>
  gO.bnd (F_Mo_here fu (M1 103 0) M1 r1) (fun v34 M34 r34 => gO.bnd (F_Mo_goesOn fu v34 M34 r34) (fun v35 M35 r35 => if v35 = 0 then (gO.bnd (F_Mo_here fu (M35 103 0) M35 r35) (fun v48 M48 r48 => if v48 = 58 then (if 0 ≤ (M48 133 0) then (F_Mo_readName_B171 fu M48 r48) else (gO.bnd (F_Mo_here fu (M48 103 0) M48 r48) (fun v51 M51 r51 => if v51 = 58 then (gO.bnd (F_Mo_here fu (((mS M51 133 0 ((M51 103 0) - x1)) 103 0) + 1) (mS M51 133 0 ((M51 103 0) - x1)) r51) (fun v55 M55 r55 => gO.bnd (F_Mo_starts fu v55 M55 r55) (fun v56 M56 r56 => if v56 = 0 then (gO.bnd (F_Mo_fail fu 1 ((M56 103 0) + 1) M56 r56) (fun v60 M60 r60 => gd (gNb v60) (.ok v60 M60 r60))) else (gd (vp_in (M56 103 0) 240) (gd (vp_in (M56 107 0) 260) (F_Mo_readName_L43 fu d x1 (mS (mS (mS M56 108 (M56 107 0).toNatClampNeg (M56 102 (M56 103 0).toNatClampNeg)) 107 0 (((mS M56 108 (M56 107 0).toNatClampNeg (M56 102 (M56 103 0).toNatClampNeg)) 107 0) + 1)) 103 0 (((mS (mS M56 108 (M56 107 0).toNatClampNeg (M56 102 (M56 103 0).toNatClampNeg)) 107 0 (((mS M56 108 (M56 107 0).toNatClampNeg (M56 102 (M56 103 0).toNatClampNeg)) 107 0) + 1)) 103 0) + 1)) r56)))))) else (gd (vp_in (M51 103 0) 240) (gd (vp_in (M51 107 0) 260) (F_Mo_readName_L43 fu d x1 (mS (mS (mS M51 108 (M51 107 0).toNatClampNeg (M51 102 (M51 103 0).toNatClampNeg)) 107 0 (((mS M51 108 (M51 107 0).toNatClampNeg (M51 102 (M51 103 0).toNatClampNeg)) 107 0) + 1)) 103 0 (((mS (mS M51 108 (M51 107 0).toNatClampNeg (M51 102 (M51 103 0).toNatClampNeg)) 107 0 (((mS M51 108 (M51 107 0).toNatClampNeg (M51 102 (M51 103 0).toNatClampNeg)) 107 0) + 1)) 103 0) + 1)) r51)))))) else (F_Mo_readName_B171 fu M48 r48))) else (gO.bnd (F_Mo_here fu (M35 103 0) M35 r35) (fun v37 M37 r37 => if v37 = 58 then (gO.bnd (F_Mo_here fu (((mS M37 133 0 ((M37 103 0) - x1)) 103 0) + 1) (mS M37 133 0 ((M37 103 0) - x1)) r37) (fun v41 M41 r41 => gO.bnd (F_Mo_starts fu v41 M41 r41) (fun v42 M42 r42 => if v42 = 0 then (gO.bnd (F_Mo_fail fu 1 ((M42 103 0) + 1) M42 r42) (fun v46 M46 r46 => gd (gNb v46) (.ok v46 M46 r46))) else (gd (vp_in (M42 103 0) 240) (gd (vp_in (M42 107 0) 260) (F_Mo_readName_L43 fu d x1 (mS (mS (mS M42 108 (M42 107 0).toNatClampNeg (M42 102 (M42 103 0).toNatClampNeg)) 107 0 (((mS M42 108 (M42 107 0).toNatClampNeg (M42 102 (M42 103 0).toNatClampNeg)) 107 0) + 1)) 103 0 (((mS (mS M42 108 (M42 107 0).toNatClampNeg (M42 102 (M42 103 0).toNatClampNeg)) 107 0 (((mS M42 108 (M42 107 0).toNatClampNeg (M42 102 (M42 103 0).toNatClampNeg)) 107 0) + 1)) 103 0) + 1)) r42)))))) else (gd (vp_in (M37 103 0) 240) (gd (vp_in (M37 107 0) 260) (F_Mo_readName_L43 fu d x1 (mS (mS (mS M37 108 (M37 107 0).toNatClampNeg (M37 102 (M37 103 0).toNatClampNeg)) 107 0 (((mS M37 108 (M37 107 0).toNatClampNeg (M37 102 (M37 103 0).toNatClampNeg)) 107 0) + 1)) 103 0 (((mS (mS M37 108 (M37 107 0).toNatClampNeg (M37 102 (M37 103 0).toNatClampNeg)) 107 0 (((mS M37 108 (M37 107 0).toNatClampNeg (M37 102 (M37 103 0).toNatClampNeg)) 107 0) + 1)) 103 0) + 1)) r37)))))))
def F_Mo_readName (fu : Nat) (M : gMem) (r : gRef) : gO Int32 :=
  gO.bnd (F_Mo_here fu (M 103 0) M r) (fun v62 M62 r62 => gO.bnd (F_Mo_starts fu v62 M62 r62) (fun v63 M63 r63 => if v63 = 0 then (gO.bnd (F_Mo_fail fu 1 (M63 103 0) M63 r63) (fun v65 M65 r65 => gd (gNb v65) (.ok v65 M65 r65))) else (F_Mo_readName_L43 fu fu ((mS (mS M63 131 0 (M63 107 0)) 133 0 (-1)) 103 0) (mS (mS M63 131 0 (M63 107 0)) 133 0 (-1)) r63)))
def F_Mo_digit (fu : Nat) (x1 : Int32) (x2 : Int32) (M : gMem) (r : gRef) : gO Int32 :=
  if x1 < 48 then (if x1 < 97 then (if x1 < 65 then (if x2 ≤ 99 then (.ok (-1) M r) else (.ok 99 M r)) else (if 70 < x1 then (if x2 ≤ 99 then (.ok (-1) M r) else (.ok 99 M r)) else (if x2 ≤ ((x1 - 65) + 10) then (.ok (-1) M r) else (.ok ((x1 - 65) + 10) M r)))) else (if 102 < x1 then (if x1 < 65 then (if x2 ≤ 99 then (.ok (-1) M r) else (.ok 99 M r)) else (if 70 < x1 then (if x2 ≤ 99 then (.ok (-1) M r) else (.ok 99 M r)) else (if x2 ≤ ((x1 - 65) + 10) then (.ok (-1) M r) else (.ok ((x1 - 65) + 10) M r)))) else (if x2 ≤ ((x1 - 97) + 10) then (.ok (-1) M r) else (.ok ((x1 - 97) + 10) M r)))) else (if 57 < x1 then (if x1 < 97 then (if x1 < 65 then (if x2 ≤ 99 then (.ok (-1) M r) else (.ok 99 M r)) else (if 70 < x1 then (if x2 ≤ 99 then (.ok (-1) M r) else (.ok 99 M r)) else (if x2 ≤ ((x1 - 65) + 10) then (.ok (-1) M r) else (.ok ((x1 - 65) + 10) M r)))) else (if 102 < x1 then (if x1 < 65 then (if x2 ≤ 99 then (.ok (-1) M r) else (.ok 99 M r)) else (if 70 < x1 then (if x2 ≤ 99 then (.ok (-1) M r) else (.ok 99 M r)) else (if x2 ≤ ((x1 - 65) + 10) then (.ok (-1) M r) else (.ok ((x1 - 65) + 10) M r)))) else (if x2 ≤ ((x1 - 97) + 10) then (.ok (-1) M r) else (.ok ((x1 - 97) + 10) M r)))) else (if x2 ≤ (x1 - 48) then (.ok (-1) M r) else (.ok (x1 - 48) M r)))
def F_Mo_numbered_B55 (fu : Nat) (x1 : Int32) (x2 : Int32) (x3 : Int32) (x4 : Int32) (M1 : gMem) (r1 : gRef) : gO Int32 :=
  if x3 = x1 then (.ok (-1) M1 r1) else (gO.bnd (F_Mo_here fu x3 M1 r1) (fun v13 M13 r13 => if v13 = 59 then (gO.bnd (F_Mo_isCharacter fu x4 M13 r13) (fun v15 M15 r15 => if v15 = 0 then (.ok (-1) M15 r15) else (.ok x4 (mS M15 103 0 (x3 + 1)) r15))) else (.ok (-1) M13 r13)))
def F_Mo_numbered_L5 (fu : Nat) (x1 : Int32) (x2 : Int32) : Nat → Int32 → Int32 → gMem → gRef → gO Int32
  | 0, _, _, _, _ => .no
  | d + 1, x3, x4, M1, r1 =>
  gO.bnd (F_Mo_here fu x3 M1 r1) (fun v17 M17 r17 => gO.bnd (F_Mo_digit fu v17 x2 M17 r17) (fun v18 M18 r18 => if v18 < 0 then (F_Mo_numbered_B55 fu x1 x2 x3 x4 M18 r18) else (if x4 ≤ 999 then (gO.bnd (F_Mo_here fu x3 M18 r18) (fun v21 M21 r21 => gO.bnd (F_Mo_digit fu v21 x2 M21 r21) (fun v22 M22 r22 => F_Mo_numbered_L5 fu x1 x2 d (x3 + 1) ((x2 * x4) + v22) M22 r22))) else (F_Mo_numbered_L5 fu x1 x2 d (x3 + 1) 999 M18 r18))))
def F_Mo_numbered (fu : Nat) (x1 : Int32) (x2 : Int32) (M : gMem) (r : gRef) : gO Int32 :=
  F_Mo_numbered_L5 fu x1 x2 fu x1 0 M r
def F_Mo_stands (fu : Nat) (x1 : Int32) (x2 : Int32) (x3 : Int32) (x4 : Int32) (x5 : Int32) (M : gMem) (r : gRef) : gO Int32 :=
  gO.bnd (F_Mo_here fu x1 M r) (fun v31 M31 r31 => if v31 = x2 then (gO.bnd (F_Mo_here fu (x1 + 1) M31 r31) (fun v33 M33 r33 => if v33 = x3 then (gO.bnd (F_Mo_here fu (x1 + 2) M33 r33) (fun v35 M35 r35 => if x4 = 0 then (if v35 = 59 then (if x4 = 0 then (.ok 1 M35 r35) else (gO.bnd (F_Mo_here fu (x1 + 3) M35 r35) (fun v51 M51 r51 => if x5 = 0 then (if v51 = 59 then (if x5 = 0 then (.ok 1 M51 r51) else (gO.bnd (F_Mo_here fu (x1 + 4) M51 r51) (fun v59 M59 r59 => if v59 = 59 then (.ok 1 M59 r59) else (.ok 0 M59 r59)))) else (.ok 0 M51 r51)) else (if v51 = x5 then (if x5 = 0 then (.ok 1 M51 r51) else (gO.bnd (F_Mo_here fu (x1 + 4) M51 r51) (fun v55 M55 r55 => if v55 = 59 then (.ok 1 M55 r55) else (.ok 0 M55 r55)))) else (.ok 0 M51 r51))))) else (.ok 0 M35 r35)) else (if v35 = x4 then (if x4 = 0 then (.ok 1 M35 r35) else (gO.bnd (F_Mo_here fu (x1 + 3) M35 r35) (fun v39 M39 r39 => if x5 = 0 then (if v39 = 59 then (if x5 = 0 then (.ok 1 M39 r39) else (gO.bnd (F_Mo_here fu (x1 + 4) M39 r39) (fun v47 M47 r47 => if v47 = 59 then (.ok 1 M47 r47) else (.ok 0 M47 r47)))) else (.ok 0 M39 r39)) else (if v39 = x5 then (if x5 = 0 then (.ok 1 M39 r39) else (gO.bnd (F_Mo_here fu (x1 + 4) M39 r39) (fun v43 M43 r43 => if v43 = 59 then (.ok 1 M43 r43) else (.ok 0 M43 r43)))) else (.ok 0 M39 r39))))) else (.ok 0 M35 r35)))) else (.ok 0 M33 r33))) else (.ok 0 M31 r31))
def F_Mo_reference (fu : Nat) (M : gMem) (r : gRef) : gO Int32 :=
  gO.bnd (F_Mo_here fu ((M 103 0) + 1) M r) (fun v19 M19 r19 => if v19 = 35 then (gO.bnd (F_Mo_here fu (((M 103 0) + 1) + 1) M19 r19) (fun v33 M33 r33 => if v33 = 120 then (gO.bnd (F_Mo_numbered fu (((M 103 0) + 1) + 2) 16 M33 r33) (fun v36 M36 r36 => .ok v36 M36 r36)) else (gO.bnd (F_Mo_numbered fu (((M 103 0) + 1) + 1) 10 M33 r33) (fun v35 M35 r35 => .ok v35 M35 r35)))) else (gO.bnd (F_Mo_stands fu ((M 103 0) + 1) 108 116 0 0 M19 r19) (fun v21 M21 r21 => if v21 = 0 then (gO.bnd (F_Mo_stands fu ((M 103 0) + 1) 103 116 0 0 M21 r21) (fun v23 M23 r23 => if v23 = 0 then (gO.bnd (F_Mo_stands fu ((M 103 0) + 1) 97 109 112 0 M23 r23) (fun v25 M25 r25 => if v25 = 0 then (gO.bnd (F_Mo_stands fu ((M 103 0) + 1) 113 117 111 116 M25 r25) (fun v27 M27 r27 => if v27 = 0 then (gO.bnd (F_Mo_stands fu ((M 103 0) + 1) 97 112 111 115 M27 r27) (fun v30 M30 r30 => if v30 = 0 then (.ok (-1) M30 r30) else (if v27 = 0 then (.ok 39 (mS M30 103 0 (((M 103 0) + 1) + 5)) r30) else (.ok 34 (mS M30 103 0 (((M 103 0) + 1) + 5)) r30)))) else (if v27 = 0 then (.ok 39 (mS M27 103 0 (((M 103 0) + 1) + 5)) r27) else (.ok 34 (mS M27 103 0 (((M 103 0) + 1) + 5)) r27)))) else (.ok 38 (mS M25 103 0 (((M 103 0) + 1) + 4)) r25))) else (.ok 62 (mS M23 103 0 (((M 103 0) + 1) + 3)) r23))) else (.ok 60 (mS M21 103 0 (((M 103 0) + 1) + 3)) r21))))
def F_Mo_readValue_B174 (fu : Nat) (x1 : Int32) (M1 : gMem) (r1 : gRef) : gO Int32 :=
  gd (vp_in x1 144) (gd (vp_in x1 144) (.ok 1 (mS (mS M1 103 0 ((M1 103 0) + 1)) 121 x1.toNatClampNeg (((mS M1 103 0 ((M1 103 0) + 1)) 107 0) - ((mS M1 103 0 ((M1 103 0) + 1)) 120 x1.toNatClampNeg))) r1))
def F_Mo_readValue_L51 (fu : Nat) (x1 : Int32) : Nat → Int32 → gMem → gRef → gO Int32
  | 0, _, _, _ => .no
  | d + 1, x2, M1, r1 =>
  gO.bnd (F_Mo_here fu (M1 103 0) M1 r1) (fun v30 M30 r30 => if v30 = x2 then (F_Mo_readValue_B174 fu x1 M30 r30) else (gO.bnd (F_Mo_here fu (M30 103 0) M30 r30) (fun v32 M32 r32 => if (M32 103 0) = (M32 101 0) then (gO.bnd (F_Mo_fail fu 1 (M32 103 0) M32 r32) (fun v34 M34 r34 => gd (gNb v34) (.ok v34 M34 r34))) else (if v32 = 60 then (gO.bnd (F_Mo_fail fu 1 (M32 103 0) M32 r32) (fun v46 M46 r46 => gd (gNb v46) (.ok v46 M46 r46))) else (if v32 = 38 then (gO.bnd (F_Mo_reference fu M32 r32) (fun v41 M41 r41 => if 0 ≤ v41 then (gd (vp_in (M41 107 0) 260) (F_Mo_readValue_L51 fu x1 d x2 (mS (mS M41 108 (M41 107 0).toNatClampNeg v41) 107 0 (((mS M41 108 (M41 107 0).toNatClampNeg v41) 107 0) + 1)) r41)) else (gO.bnd (F_Mo_fail fu 3 (M32 103 0) M41 r41) (fun v44 M44 r44 => gd (gNb v44) (.ok v44 M44 r44))))) else (if v32 = 10 then (gd (vp_in ((mS M32 103 0 ((M32 103 0) + 1)) 107 0) 260) (F_Mo_readValue_L51 fu x1 d x2 (mS (mS (mS M32 103 0 ((M32 103 0) + 1)) 108 ((mS M32 103 0 ((M32 103 0) + 1)) 107 0).toNatClampNeg 32) 107 0 (((mS (mS M32 103 0 ((M32 103 0) + 1)) 108 ((mS M32 103 0 ((M32 103 0) + 1)) 107 0).toNatClampNeg 32) 107 0) + 1)) r32)) else (gd (vp_in ((mS M32 103 0 ((M32 103 0) + 1)) 107 0) 260) (F_Mo_readValue_L51 fu x1 d x2 (mS (mS (mS M32 103 0 ((M32 103 0) + 1)) 108 ((mS M32 103 0 ((M32 103 0) + 1)) 107 0).toNatClampNeg v32) 107 0 (((mS (mS M32 103 0 ((M32 103 0) + 1)) 108 ((mS M32 103 0 ((M32 103 0) + 1)) 107 0).toNatClampNeg v32) 107 0) + 1)) r32))))))))
def F_Mo_readValue (fu : Nat) (x1 : Int32) (M : gMem) (r : gRef) : gO Int32 :=
  gO.bnd (F_Mo_here fu (M 103 0) M r) (fun v48 M48 r48 => if v48 = 34 then (gd (vp_in x1 144) (F_Mo_readValue_L51 fu x1 fu v48 (mS (mS M48 103 0 ((M48 103 0) + 1)) 120 x1.toNatClampNeg ((mS M48 103 0 ((M48 103 0) + 1)) 107 0)) r48)) else (if v48 = 39 then (gd (vp_in x1 144) (F_Mo_readValue_L51 fu x1 fu v48 (mS (mS M48 103 0 ((M48 103 0) + 1)) 120 x1.toNatClampNeg ((mS M48 103 0 ((M48 103 0) + 1)) 107 0)) r48)) else (gO.bnd (F_Mo_fail fu 1 (M48 103 0) M48 r48) (fun v53 M53 r53 => gd (gNb v53) (.ok v53 M53 r53)))))
def F_Mo_readAttribute (fu : Nat) (x1 : Int32) (M : gMem) (r : gRef) : gO Int32 :=
  gd (vp_in x1 24) (gd (vp_in ((6 * x1) + (M 115 x1.toNatClampNeg)) 144) (gO.bnd (F_Mo_readName fu (mS M 119 ((6 * x1) + (M 115 x1.toNatClampNeg)).toNatClampNeg (M 103 0)) r) (fun v19 M19 r19 => if v19 = 0 then (.ok 0 M19 r19) else (gd (vp_in ((6 * x1) + (M 115 x1.toNatClampNeg)) 144) (gd (vp_in ((6 * x1) + (M 115 x1.toNatClampNeg)) 144) (gd (vp_in ((6 * x1) + (M 115 x1.toNatClampNeg)) 144) (gO.bnd (F_Mo_skip fu (mS (mS (mS M19 116 ((6 * x1) + (M 115 x1.toNatClampNeg)).toNatClampNeg (M19 131 0)) 117 ((6 * x1) + (M 115 x1.toNatClampNeg)).toNatClampNeg ((mS M19 116 ((6 * x1) + (M 115 x1.toNatClampNeg)).toNatClampNeg (M19 131 0)) 132 0)) 118 ((6 * x1) + (M 115 x1.toNatClampNeg)).toNatClampNeg ((mS (mS M19 116 ((6 * x1) + (M 115 x1.toNatClampNeg)).toNatClampNeg (M19 131 0)) 117 ((6 * x1) + (M 115 x1.toNatClampNeg)).toNatClampNeg ((mS M19 116 ((6 * x1) + (M 115 x1.toNatClampNeg)).toNatClampNeg (M19 131 0)) 132 0)) 133 0)) r19) (fun v24 M24 r24 => gO.bnd (F_Mo_over fu 61 M24 r24) (fun v25 M25 r25 => if v25 = 0 then (.ok 0 M25 r25) else (gO.bnd (F_Mo_skip fu M25 r25) (fun v27 M27 r27 => gO.bnd (F_Mo_readValue fu ((6 * x1) + (M 115 x1.toNatClampNeg)) M27 r27) (fun v28 M28 r28 => if v28 = 0 then (.ok 0 M28 r28) else (gd (vp_in x1 24) (gd (vp_in x1 24) (if v27 < 0 then (.ok 0 (mS M28 115 x1.toNatClampNeg ((M28 115 x1.toNatClampNeg) + 1)) r28) else (.ok 1 (mS M28 115 x1.toNatClampNeg ((M28 115 x1.toNatClampNeg) + 1)) r28))))))))))))))))
def F_Mo_readRest_L0 (fu : Nat) (x1 : Int32) (x2 : Int32) : Nat → gMem → gRef → gO Int32
  | 0, _, _ => .no
  | d + 1, M1, r1 =>
  gO.bnd (F_Mo_skip fu M1 r1) (fun v24 M24 r24 => gO.bnd (F_Mo_here fu (M24 103 0) M24 r24) (fun v25 M25 r25 => if v25 = 62 then (if v25 = 62 then (.ok 1 (mS M25 103 0 ((M25 103 0) + 1)) r25) else (gO.bnd (F_Mo_over fu 62 (mS M25 103 0 ((M25 103 0) + 1)) r25) (fun v28 M28 r28 => if v28 = 0 then (.ok 0 M28 r28) else (.ok 2 M28 r28)))) else (if v25 = 47 then (if v25 = 62 then (.ok 1 (mS M25 103 0 ((M25 103 0) + 1)) r25) else (gO.bnd (F_Mo_over fu 62 (mS M25 103 0 ((M25 103 0) + 1)) r25) (fun v45 M45 r45 => if v45 = 0 then (.ok 0 M45 r45) else (.ok 2 M45 r45)))) else (if v24 = 0 then (gO.bnd (F_Mo_fail fu 1 (M25 103 0) M25 r25) (fun v32 M32 r32 => if v32 = 0 then (.ok 0 M32 r32) else (.ok 1 M32 r32))) else (gO.bnd (F_Mo_starts fu v25 M25 r25) (fun v34 M34 r34 => if v34 = 0 then (gO.bnd (F_Mo_fail fu 1 (M34 103 0) M34 r34) (fun v42 M42 r42 => if v42 = 0 then (.ok 0 M42 r42) else (.ok 1 M42 r42))) else (gd (vp_in x1 24) (if (M34 115 x1.toNatClampNeg) = 6 then (gO.bnd (F_Mo_fail fu 4 x2 M34 r34) (fun v40 M40 r40 => if v40 = 0 then (.ok 0 M40 r40) else (.ok 1 M40 r40))) else (gO.bnd (F_Mo_readAttribute fu x1 M34 r34) (fun v38 M38 r38 => if v38 = 0 then (.ok 0 M38 r38) else (F_Mo_readRest_L0 fu x1 x2 d M38 r38)))))))))))
def F_Mo_readRest (fu : Nat) (x1 : Int32) (x2 : Int32) (M : gMem) (r : gRef) : gO Int32 :=
  F_Mo_readRest_L0 fu x1 x2 fu M r
def F_Mo_compare_B70 (fu : Nat) (x1 : Int32) (x2 : Int32) (x3 : Int32) (x4 : Int32) (M1 : gMem) (r1 : gRef) : gO Int32 :=
  if x4 ≤ x2 then (if x2 ≤ x4 then (.ok 0 M1 r1) else (.ok 1 M1 r1)) else (.ok (-1) M1 r1)
def F_Mo_compare_L3 (fu : Nat) (x1 : Int32) (x2 : Int32) (x3 : Int32) (x4 : Int32) : Nat → Int32 → gMem → gRef → gO Int32
  | 0, _, _, _ => .no
  | d + 1, x5, M1, r1 =>
  if x2 ≤ x5 then (F_Mo_compare_B70 fu x1 x2 x3 x4 M1 r1) else (if x4 ≤ x5 then (F_Mo_compare_B70 fu x1 x2 x3 x4 M1 r1) else (gd (vp_in (x1 + x5) 260) (gd (vp_in (x3 + x5) 260) (if (M1 108 (x1 + x5).toNatClampNeg) = (M1 108 (x3 + x5).toNatClampNeg) then (F_Mo_compare_L3 fu x1 x2 x3 x4 d (x5 + 1) M1 r1) else (gd (vp_in (x1 + x5) 260) (gd (vp_in (x3 + x5) 260) (if (M1 108 (x3 + x5).toNatClampNeg) ≤ (M1 108 (x1 + x5).toNatClampNeg) then (.ok 1 M1 r1) else (.ok (-1) M1 r1))))))))
def F_Mo_compare (fu : Nat) (x1 : Int32) (x2 : Int32) (x3 : Int32) (x4 : Int32) (M : gMem) (r : gRef) : gO Int32 :=
  F_Mo_compare_L3 fu x1 x2 x3 x4 fu 0 M r
def F_Mo_localSize (fu : Nat) (x1 : Int32) (M : gMem) (r : gRef) : gO Int32 :=
  gd (vp_in x1 144) (gd (vp_in x1 144) (.ok (((M 117 x1.toNatClampNeg) - (M 118 x1.toNatClampNeg)) - 1) M r))
def F_Mo_local (fu : Nat) (x1 : Int32) (M : gMem) (r : gRef) : gO Int32 :=
  gd (vp_in x1 144) (gd (vp_in x1 144) (.ok (((M 116 x1.toNatClampNeg) + (M 118 x1.toNatClampNeg)) + 1) M r))
def F_Mo_isXmlns (fu : Nat) (x1 : Int32) (x2 : Int32) (M : gMem) (r : gRef) : gO Int32 :=
  if x2 = 5 then (gd (vp_in x1 260) (if (M 108 x1.toNatClampNeg) = 120 then (gd (vp_in (x1 + 1) 260) (if (M 108 (x1 + 1).toNatClampNeg) = 109 then (gd (vp_in (x1 + 2) 260) (if (M 108 (x1 + 2).toNatClampNeg) = 108 then (gd (vp_in (x1 + 3) 260) (if (M 108 (x1 + 3).toNatClampNeg) = 110 then (gd (vp_in (x1 + 4) 260) (if (M 108 (x1 + 4).toNatClampNeg) = 115 then (.ok 1 M r) else (.ok 0 M r))) else (.ok 0 M r))) else (.ok 0 M r))) else (.ok 0 M r))) else (.ok 0 M r))) else (.ok 0 M r)
def F_Mo_declares (fu : Nat) (x1 : Int32) (M : gMem) (r : gRef) : gO Int32 :=
  gd (vp_in x1 144) (gd (vp_in x1 144) (if 0 ≤ (M 118 x1.toNatClampNeg) then (gd (vp_in x1 144) (gO.bnd (F_Mo_isXmlns fu (M 116 x1.toNatClampNeg) (M 118 x1.toNatClampNeg) M r) (fun v14 M14 r14 => gd (gNb v14) (.ok v14 M14 r14)))) else (gd (vp_in x1 144) (gO.bnd (F_Mo_isXmlns fu (M 116 x1.toNatClampNeg) (M 117 x1.toNatClampNeg) M r) (fun v17 M17 r17 => gd (gNb v17) (.ok v17 M17 r17))))))
def F_Mo_declared_B122 (fu : Nat) (x1 : Int32) (x2 : Int32) (x3 : Int32) (M1 : gMem) (r1 : gRef) : gO Int32 :=
  .ok (-1) M1 r1
def F_Mo_declared_I15 (fu : Nat) (x1 : Int32) (x2 : Int32) (x3 : Int32) : Nat → Int32 → Int32 → gMem → gRef → gO (Sum Int32 Unit)
  | 0, _, _, _, _ => .no
  | d2 + 1, x4, x5, M1, r1 =>
  gd (vp_in x4 24) (if ((6 * x4) + (M1 115 x4.toNatClampNeg)) ≤ x5 then (.ok (.inr ()) M1 r1) else (gd (vp_in x5 144) (if 0 ≤ (M1 118 x5.toNatClampNeg) then (if x3 ≤ 0 then (gO.bnd (F_Mo_declares fu x5 M1 r1) (fun v30 M30 r30 => if v30 = 0 then (F_Mo_declared_I15 fu x1 x2 x3 d2 x4 (x5 + 1) M30 r30) else (F_Mo_declared_I15 fu x1 x2 x3 d2 x4 (x5 + 1) M30 r30))) else (gO.bnd (F_Mo_local fu x5 M1 r1) (fun v32 M32 r32 => gO.bnd (F_Mo_localSize fu x5 M32 r32) (fun v33 M33 r33 => gO.bnd (F_Mo_compare fu v32 v33 x2 x3 M33 r33) (fun v34 M34 r34 => if v34 = 0 then (gO.bnd (F_Mo_declares fu x5 M34 r34) (fun v38 M38 r38 => if v38 = 0 then (F_Mo_declared_I15 fu x1 x2 x3 d2 x4 (x5 + 1) M38 r38) else (.ok (.inl x5) M38 r38))) else (gO.bnd (F_Mo_declares fu x5 M34 r34) (fun v36 M36 r36 => if v36 = 0 then (F_Mo_declared_I15 fu x1 x2 x3 d2 x4 (x5 + 1) M36 r36) else (F_Mo_declared_I15 fu x1 x2 x3 d2 x4 (x5 + 1) M36 r36)))))))) else (if x3 = 0 then (gO.bnd (F_Mo_declares fu x5 M1 r1) (fun v43 M43 r43 => if v43 = 0 then (F_Mo_declared_I15 fu x1 x2 x3 d2 x4 (x5 + 1) M43 r43) else (.ok (.inl x5) M43 r43))) else (gO.bnd (F_Mo_declares fu x5 M1 r1) (fun v41 M41 r41 => if v41 = 0 then (F_Mo_declared_I15 fu x1 x2 x3 d2 x4 (x5 + 1) M41 r41) else (F_Mo_declared_I15 fu x1 x2 x3 d2 x4 (x5 + 1) M41 r41)))))))
def F_Mo_declared_L3 (fu : Nat) (x1 : Int32) (x2 : Int32) (x3 : Int32) : Nat → Int32 → gMem → gRef → gO Int32
  | 0, _, _, _ => .no
  | d + 1, x4, M1, r1 =>
  if x4 < 0 then (F_Mo_declared_B122 fu x1 x2 x3 M1 r1) else (gO.bnd (F_Mo_declared_I15 fu x1 x2 x3 fu x4 (6 * x4) M1 r1) (fun s45 M45 r45 => gsm s45 (fun v => .ok v M45 r45) (fun _ => gd (vp_in x4 24) (F_Mo_declared_L3 fu x1 x2 x3 d (M45 110 x4.toNatClampNeg) M45 r45))))
def F_Mo_declared (fu : Nat) (x1 : Int32) (x2 : Int32) (x3 : Int32) (M : gMem) (r : gRef) : gO Int32 :=
  F_Mo_declared_L3 fu x1 x2 x3 fu x1 M r
def F_Mo_spaceOf (fu : Nat) (x1 : Int32) (M : gMem) (r : gRef) : gO Int32 :=
  gd (vp_in x1 144) (if 0 ≤ (M 118 x1.toNatClampNeg) then (gd (vp_in x1 144) (gd (vp_in x1 144) (gO.bnd (F_Mo_declared fu (x1 / 6) (M 116 x1.toNatClampNeg) (M 118 x1.toNatClampNeg) M r) (fun v10 M10 r10 => .ok v10 M10 r10)))) else (.ok (-1) M r))
def F_Mo_compareValues (fu : Nat) (x1 : Int32) (x2 : Int32) (M : gMem) (r : gRef) : gO Int32 :=
  gd (vp_in x1 144) (gd (vp_in x1 144) (gd (vp_in x2 144) (gd (vp_in x2 144) (gO.bnd (F_Mo_compare fu (M 120 x1.toNatClampNeg) (M 121 x1.toNatClampNeg) (M 120 x2.toNatClampNeg) (M 121 x2.toNatClampNeg) M r) (fun v10 M10 r10 => .ok v10 M10 r10)))))
def F_Mo_checkTwins_B136 (fu : Nat) (x1 : Int32) (x2 : Int32) (M1 : gMem) (r1 : gRef) : gO Int32 :=
  .ok 1 M1 r1
def F_Mo_checkTwins_I10 (fu : Nat) (x1 : Int32) (x2 : Int32) : Nat → Int32 → Int32 → gMem → gRef → gO (Sum Int32 Unit)
  | 0, _, _, _, _ => .no
  | d2 + 1, x3, x4, M1, r1 =>
  if x3 ≤ x4 then (.ok (.inr ()) M1 r1) else (gO.bnd (F_Mo_declares fu x3 M1 r1) (fun v27 M27 r27 => if v27 = 0 then (gO.bnd (F_Mo_declares fu x4 M27 r27) (fun v29 M29 r29 => if v29 = 0 then (gd (vp_in x3 144) (if (M29 118 x3.toNatClampNeg) < 0 then (F_Mo_checkTwins_I10 fu x1 x2 d2 x3 (x4 + 1) M29 r29) else (gd (vp_in x4 144) (if (M29 118 x4.toNatClampNeg) < 0 then (F_Mo_checkTwins_I10 fu x1 x2 d2 x3 (x4 + 1) M29 r29) else (gO.bnd (F_Mo_local fu x3 M29 r29) (fun v35 M35 r35 => gO.bnd (F_Mo_localSize fu x3 M35 r35) (fun v36 M36 r36 => gO.bnd (F_Mo_local fu x4 M36 r36) (fun v37 M37 r37 => gO.bnd (F_Mo_localSize fu x4 M37 r37) (fun v38 M38 r38 => gO.bnd (F_Mo_compare fu v35 v36 v37 v38 M38 r38) (fun v39 M39 r39 => if v39 = 0 then (gO.bnd (F_Mo_spaceOf fu x3 M39 r39) (fun v41 M41 r41 => gO.bnd (F_Mo_spaceOf fu x4 M41 r41) (fun v42 M42 r42 => gO.bnd (F_Mo_compareValues fu v41 v42 M42 r42) (fun v43 M43 r43 => if v43 = 0 then (gd (vp_in x3 144) (gO.bnd (F_Mo_fail fu 8 (M43 119 x3.toNatClampNeg) M43 r43) (fun v46 M46 r46 => gd (gNb v46) (.ok (.inl v46) M46 r46)))) else (F_Mo_checkTwins_I10 fu x1 x2 d2 x3 (x4 + 1) M43 r43))))) else (F_Mo_checkTwins_I10 fu x1 x2 d2 x3 (x4 + 1) M39 r39))))))))))) else (F_Mo_checkTwins_I10 fu x1 x2 d2 x3 (x4 + 1) M29 r29))) else (F_Mo_checkTwins_I10 fu x1 x2 d2 x3 (x4 + 1) M27 r27)))
def F_Mo_checkTwins_L2 (fu : Nat) (x1 : Int32) (x2 : Int32) : Nat → Int32 → gMem → gRef → gO Int32
  | 0, _, _, _ => .no
  | d + 1, x3, M1, r1 =>
  if x2 ≤ x3 then (F_Mo_checkTwins_B136 fu x1 x2 M1 r1) else (gO.bnd (F_Mo_checkTwins_I10 fu x1 x2 fu x3 x1 M1 r1) (fun s48 M48 r48 => gsm s48 (fun v => .ok v M48 r48) (fun _ => F_Mo_checkTwins_L2 fu x1 x2 d (x3 + 1) M48 r48)))
def F_Mo_checkTwins (fu : Nat) (x1 : Int32) (x2 : Int32) (M : gMem) (r : gRef) : gO Int32 :=
  F_Mo_checkTwins_L2 fu x1 x2 fu x1 M r
def F_Mo_checks_B325 (fu : Nat) (x1 : Int32) (x2 : Int32) (M1 : gMem) (r1 : gRef) : gO Int32 :=
  gO.bnd (F_Mo_checkTwins fu (6 * x1) x2 M1 r1) (fun v108 M108 r108 => gd (gNb v108) (.ok v108 M108 r108))
def F_Mo_checks_L276 (fu : Nat) (x1 : Int32) : Nat → Int32 → Int32 → gMem → gRef → gO Int32
  | 0, _, _, _, _ => .no
  | d + 1, x2, x3, M1, r1 =>
  if x2 ≤ x3 then (F_Mo_checks_B325 fu x1 x2 M1 r1) else (gO.bnd (F_Mo_declares fu x3 M1 r1) (fun v111 M111 r111 => if v111 = 0 then (gd (vp_in x3 144) (if (M111 118 x3.toNatClampNeg) < 0 then (F_Mo_checks_L276 fu x1 d x2 (x3 + 1) M111 r111) else (gO.bnd (F_Mo_spaceOf fu x3 M111 r111) (fun v115 M115 r115 => if 0 ≤ v115 then (F_Mo_checks_L276 fu x1 d x2 (x3 + 1) M115 r115) else (gd (vp_in x3 144) (gO.bnd (F_Mo_fail fu 7 (M115 119 x3.toNatClampNeg) M115 r115) (fun v118 M118 r118 => gd (gNb v118) (.ok v118 M118 r118)))))))) else (F_Mo_checks_L276 fu x1 d x2 (x3 + 1) M111 r111)))
def F_Mo_checks_B229 (fu : Nat) (x1 : Int32) (x2 : Int32) (M1 : gMem) (r1 : gRef) : gO Int32 :=
  gd (vp_in x1 24) (if (M1 113 x1.toNatClampNeg) < 0 then (F_Mo_checks_L276 fu x1 fu x2 (6 * x1) M1 r1) else (gd (vp_in x1 24) (gd (vp_in x1 24) (gO.bnd (F_Mo_declared fu x1 (M1 111 x1.toNatClampNeg) (M1 113 x1.toNatClampNeg) M1 r1) (fun v124 M124 r124 => if 0 ≤ v124 then (F_Mo_checks_L276 fu x1 fu x2 (6 * x1) M124 r124) else (gd (vp_in x1 24) (gO.bnd (F_Mo_fail fu 7 (M124 114 x1.toNatClampNeg) M124 r124) (fun v127 M127 r127 => gd (gNb v127) (.ok v127 M127 r127)))))))))
def F_Mo_checks_L96 (fu : Nat) (x1 : Int32) : Nat → Int32 → Int32 → gMem → gRef → gO Int32
  | 0, _, _, _, _ => .no
  | d + 1, x2, x3, M1, r1 =>
  if x2 ≤ x3 then (F_Mo_checks_B229 fu x1 x2 M1 r1) else (gO.bnd (F_Mo_localSize fu x3 M1 r1) (fun v130 M130 r130 => gO.bnd (F_Mo_local fu x3 M130 r130) (fun v131 M131 r131 => if v130 = 3 then (gd (vp_in v131 260) (if (M131 108 v131.toNatClampNeg) = 120 then (gd (vp_in (v131 + 1) 260) (if (M131 108 (v131 + 1).toNatClampNeg) = 109 then (gd (vp_in (v131 + 2) 260) (if (M131 108 (v131 + 2).toNatClampNeg) = 108 then (gO.bnd (F_Mo_declares fu x3 M131 r131) (fun v195 M195 r195 => if v195 = 0 then (F_Mo_checks_L96 fu x1 d x2 (x3 + 1) M195 r195) else (gd (vp_in x3 144) (if (M195 118 x3.toNatClampNeg) < 0 then (F_Mo_checks_L96 fu x1 d x2 (x3 + 1) M195 r195) else (gd (vp_in x3 144) (gO.bnd (F_Mo_fail fu 6 (M195 119 x3.toNatClampNeg) M195 r195) (fun v200 M200 r200 => gd (gNb v200) (.ok v200 M200 r200)))))))) else (gO.bnd (F_Mo_declares fu x3 M131 r131) (fun v181 M181 r181 => if v181 = 0 then (F_Mo_checks_L96 fu x1 d x2 (x3 + 1) M181 r181) else (gd (vp_in x3 144) (if (M181 118 x3.toNatClampNeg) < 0 then (F_Mo_checks_L96 fu x1 d x2 (x3 + 1) M181 r181) else (gO.bnd (F_Mo_isXmlns fu v131 v130 M181 r181) (fun v185 M185 r185 => if v185 = 0 then (gd (vp_in x3 144) (if (M185 121 x3.toNatClampNeg) = 0 then (gd (vp_in x3 144) (gO.bnd (F_Mo_fail fu 6 (M185 119 x3.toNatClampNeg) M185 r185) (fun v193 M193 r193 => gd (gNb v193) (.ok v193 M193 r193)))) else (F_Mo_checks_L96 fu x1 d x2 (x3 + 1) M185 r185))) else (gd (vp_in x3 144) (gO.bnd (F_Mo_fail fu 6 (M185 119 x3.toNatClampNeg) M185 r185) (fun v188 M188 r188 => gd (gNb v188) (.ok v188 M188 r188)))))))))))) else (gO.bnd (F_Mo_declares fu x3 M131 r131) (fun v165 M165 r165 => if v165 = 0 then (F_Mo_checks_L96 fu x1 d x2 (x3 + 1) M165 r165) else (gd (vp_in x3 144) (if (M165 118 x3.toNatClampNeg) < 0 then (F_Mo_checks_L96 fu x1 d x2 (x3 + 1) M165 r165) else (gO.bnd (F_Mo_isXmlns fu v131 v130 M165 r165) (fun v169 M169 r169 => if v169 = 0 then (gd (vp_in x3 144) (if (M169 121 x3.toNatClampNeg) = 0 then (gd (vp_in x3 144) (gO.bnd (F_Mo_fail fu 6 (M169 119 x3.toNatClampNeg) M169 r169) (fun v177 M177 r177 => gd (gNb v177) (.ok v177 M177 r177)))) else (F_Mo_checks_L96 fu x1 d x2 (x3 + 1) M169 r169))) else (gd (vp_in x3 144) (gO.bnd (F_Mo_fail fu 6 (M169 119 x3.toNatClampNeg) M169 r169) (fun v172 M172 r172 => gd (gNb v172) (.ok v172 M172 r172)))))))))))) else (gO.bnd (F_Mo_declares fu x3 M131 r131) (fun v149 M149 r149 => if v149 = 0 then (F_Mo_checks_L96 fu x1 d x2 (x3 + 1) M149 r149) else (gd (vp_in x3 144) (if (M149 118 x3.toNatClampNeg) < 0 then (F_Mo_checks_L96 fu x1 d x2 (x3 + 1) M149 r149) else (gO.bnd (F_Mo_isXmlns fu v131 v130 M149 r149) (fun v153 M153 r153 => if v153 = 0 then (gd (vp_in x3 144) (if (M153 121 x3.toNatClampNeg) = 0 then (gd (vp_in x3 144) (gO.bnd (F_Mo_fail fu 6 (M153 119 x3.toNatClampNeg) M153 r153) (fun v161 M161 r161 => gd (gNb v161) (.ok v161 M161 r161)))) else (F_Mo_checks_L96 fu x1 d x2 (x3 + 1) M153 r153))) else (gd (vp_in x3 144) (gO.bnd (F_Mo_fail fu 6 (M153 119 x3.toNatClampNeg) M153 r153) (fun v156 M156 r156 => gd (gNb v156) (.ok v156 M156 r156)))))))))))) else (gO.bnd (F_Mo_declares fu x3 M131 r131) (fun v133 M133 r133 => if v133 = 0 then (F_Mo_checks_L96 fu x1 d x2 (x3 + 1) M133 r133) else (gd (vp_in x3 144) (if (M133 118 x3.toNatClampNeg) < 0 then (F_Mo_checks_L96 fu x1 d x2 (x3 + 1) M133 r133) else (gO.bnd (F_Mo_isXmlns fu v131 v130 M133 r133) (fun v137 M137 r137 => if v137 = 0 then (gd (vp_in x3 144) (if (M137 121 x3.toNatClampNeg) = 0 then (gd (vp_in x3 144) (gO.bnd (F_Mo_fail fu 6 (M137 119 x3.toNatClampNeg) M137 r137) (fun v145 M145 r145 => gd (gNb v145) (.ok v145 M145 r145)))) else (F_Mo_checks_L96 fu x1 d x2 (x3 + 1) M137 r137))) else (gd (vp_in x3 144) (gO.bnd (F_Mo_fail fu 6 (M137 119 x3.toNatClampNeg) M137 r137) (fun v140 M140 r140 => gd (gNb v140) (.ok v140 M140 r140)))))))))))))
def F_Mo_checks_B91 (fu : Nat) (x1 : Int32) (x2 : Int32) (M1 : gMem) (r1 : gRef) : gO Int32 :=
  F_Mo_checks_L96 fu x1 fu x2 (6 * x1) M1 r1
def F_Mo_checks_I28 (fu : Nat) (x1 : Int32) : Nat → Int32 → Int32 → Int32 → gMem → gRef → gO (Sum Int32 Unit)
  | 0, _, _, _, _, _ => .no
  | d2 + 1, x2, x3, x4, M1, r1 =>
  if x3 ≤ x4 then (.ok (.inr ()) M1 r1) else (gd (vp_in x3 144) (gd (vp_in x3 144) (gd (vp_in x4 144) (gd (vp_in x4 144) (gO.bnd (F_Mo_compare fu (M1 116 x3.toNatClampNeg) (M1 117 x3.toNatClampNeg) (M1 116 x4.toNatClampNeg) (M1 117 x4.toNatClampNeg) M1 r1) (fun v208 M208 r208 => if v208 = 0 then (gd (vp_in x3 144) (gO.bnd (F_Mo_fail fu 5 (M208 119 x3.toNatClampNeg) M208 r208) (fun v211 M211 r211 => gd (gNb v211) (.ok (.inl v211) M211 r211)))) else (F_Mo_checks_I28 fu x1 d2 x2 x3 (x4 + 1) M208 r208)))))))
def F_Mo_checks_L17 (fu : Nat) (x1 : Int32) : Nat → Int32 → Int32 → gMem → gRef → gO Int32
  | 0, _, _, _, _ => .no
  | d + 1, x2, x3, M1, r1 =>
  if x2 ≤ x3 then (F_Mo_checks_B91 fu x1 x2 M1 r1) else (gO.bnd (F_Mo_checks_I28 fu x1 fu x2 x3 (6 * x1) M1 r1) (fun s213 M213 r213 => gsm s213 (fun v => .ok v M213 r213) (fun _ => F_Mo_checks_L17 fu x1 d x2 (x3 + 1) M213 r213)))
def F_Mo_checks (fu : Nat) (x1 : Int32) (M : gMem) (r : gRef) : gO Int32 :=
  gd (vp_in x1 24) (F_Mo_checks_L17 fu x1 fu ((6 * x1) + (M 115 x1.toNatClampNeg)) (6 * x1) M r)
def F_Mo_happen (fu : Nat) (x1 : Int32) (M : gMem) (r : gRef) : gO Unit :=
  gd (vp_in (M 122 0) 300) (.ok () (mS (mS M 123 (M 122 0).toNatClampNeg x1) 122 0 (((mS M 123 (M 122 0).toNatClampNeg x1) 122 0) + 1)) r)
def F_Mo_readTag (fu : Nat) (M : gMem) (r : gRef) : gO Int32 :=
  gO.bnd (F_Mo_here fu ((mS M 103 0 ((M 103 0) + 1)) 103 0) (mS M 103 0 ((M 103 0) + 1)) r) (fun v27 M27 r27 => gO.bnd (F_Mo_starts fu v27 M27 r27) (fun v28 M28 r28 => if v28 = 0 then (gO.bnd (F_Mo_fail fu 1 (M28 103 0) M28 r28) (fun v51 M51 r51 => gd (gNb v51) (.ok v51 M51 r51))) else (if (M28 125 0) = 12 then (gO.bnd (F_Mo_fail fu 4 (M 103 0) M28 r28) (fun v31 M31 r31 => gd (gNb v31) (.ok v31 M31 r31))) else (if (M28 109 0) = 24 then (gO.bnd (F_Mo_fail fu 4 (M 103 0) M28 r28) (fun v49 M49 r49 => gd (gNb v49) (.ok v49 M49 r49))) else (gd (vp_in (M28 109 0) 24) (gO.bnd (F_Mo_readName fu (mS M28 114 (M28 109 0).toNatClampNeg (M28 103 0)) r28) (fun v35 M35 r35 => if v35 = 0 then (.ok 0 M35 r35) else (gd (vp_in (M28 109 0) 24) (gd (vp_in (M28 109 0) 24) (gd (vp_in (M28 109 0) 24) (gd (vp_in (M28 109 0) 24) (gd (vp_in (M28 109 0) 24) (gO.bnd (F_Mo_readRest fu (M28 109 0) (M 103 0) (mS (mS (mS (mS (mS M35 111 (M28 109 0).toNatClampNeg (M35 131 0)) 112 (M28 109 0).toNatClampNeg ((mS M35 111 (M28 109 0).toNatClampNeg (M35 131 0)) 132 0)) 113 (M28 109 0).toNatClampNeg ((mS (mS M35 111 (M28 109 0).toNatClampNeg (M35 131 0)) 112 (M28 109 0).toNatClampNeg ((mS M35 111 (M28 109 0).toNatClampNeg (M35 131 0)) 132 0)) 133 0)) 115 (M28 109 0).toNatClampNeg 0) 110 (M28 109 0).toNatClampNeg ((mS (mS (mS (mS M35 111 (M28 109 0).toNatClampNeg (M35 131 0)) 112 (M28 109 0).toNatClampNeg ((mS M35 111 (M28 109 0).toNatClampNeg (M35 131 0)) 132 0)) 113 (M28 109 0).toNatClampNeg ((mS (mS M35 111 (M28 109 0).toNatClampNeg (M35 131 0)) 112 (M28 109 0).toNatClampNeg ((mS M35 111 (M28 109 0).toNatClampNeg (M35 131 0)) 132 0)) 133 0)) 115 (M28 109 0).toNatClampNeg 0) 124 0)) r35) (fun v42 M42 r42 => if v42 = 0 then (.ok 0 (mS M42 109 0 ((M42 109 0) + 1)) r42) else (gO.bnd (F_Mo_checks fu (M28 109 0) (mS M42 109 0 ((M42 109 0) + 1)) r42) (fun v44 M44 r44 => if v44 = 0 then (.ok 0 M44 r44) else (gO.bnd (F_Mo_happen fu (1000 + (M28 109 0)) M44 r44) (fun v46 M46 r46 => if v42 = 2 then (gO.bnd (F_Mo_happen fu (2000 + (M28 109 0)) M46 r46) (fun v48 M48 r48 => .ok 1 M48 r48)) else (.ok 1 (mS (mS M46 124 0 (M28 109 0)) 125 0 (((mS M46 124 0 (M28 109 0)) 125 0) + 1)) r46)))))))))))))))))))
def F_Mo_readEnd (fu : Nat) (M : gMem) (r : gRef) : gO Int32 :=
  gO.bnd (F_Mo_readName fu (mS M 103 0 ((M 103 0) + 2)) r) (fun v15 M15 r15 => if v15 = 0 then (.ok 0 M15 r15) else (gd (vp_in ((mS M15 107 0 ((mS M 103 0 ((M 103 0) + 2)) 107 0)) 124 0) 24) (gd (vp_in ((mS M15 107 0 ((mS M 103 0 ((M 103 0) + 2)) 107 0)) 124 0) 24) (gO.bnd (F_Mo_compare fu ((mS M15 107 0 ((mS M 103 0 ((M 103 0) + 2)) 107 0)) 131 0) ((mS M15 107 0 ((mS M 103 0 ((M 103 0) + 2)) 107 0)) 132 0) ((mS M15 107 0 ((mS M 103 0 ((M 103 0) + 2)) 107 0)) 111 ((mS M15 107 0 ((mS M 103 0 ((M 103 0) + 2)) 107 0)) 124 0).toNatClampNeg) ((mS M15 107 0 ((mS M 103 0 ((M 103 0) + 2)) 107 0)) 112 ((mS M15 107 0 ((mS M 103 0 ((M 103 0) + 2)) 107 0)) 124 0).toNatClampNeg) (mS M15 107 0 ((mS M 103 0 ((M 103 0) + 2)) 107 0)) r15) (fun v19 M19 r19 => if v19 = 0 then (gO.bnd (F_Mo_skip fu M19 r19) (fun v21 M21 r21 => gO.bnd (F_Mo_over fu 62 M21 r21) (fun v22 M22 r22 => if v22 = 0 then (.ok 0 M22 r22) else (gO.bnd (F_Mo_happen fu (2000 + (M22 124 0)) M22 r22) (fun v24 M24 r24 => gd (vp_in (M24 124 0) 24) (if v21 < 0 then (.ok 0 (mS (mS M24 124 0 (M24 110 (M24 124 0).toNatClampNeg)) 125 0 (((mS M24 124 0 (M24 110 (M24 124 0).toNatClampNeg)) 125 0) - 1)) r24) else (.ok 1 (mS (mS M24 124 0 (M24 110 (M24 124 0).toNatClampNeg)) 125 0 (((mS M24 124 0 (M24 110 (M24 124 0).toNatClampNeg)) 125 0) - 1)) r24))))))) else (gO.bnd (F_Mo_fail fu 2 ((mS M 103 0 ((M 103 0) + 2)) 103 0) M19 r19) (fun v27 M27 r27 => gd (gNb v27) (.ok v27 M27 r27))))))))
def F_Mo_readSection_B136 (fu : Nat) (M1 : gMem) (r1 : gRef) : gO Int32 :=
  if (M1 103 0) = (M1 101 0) then (gO.bnd (F_Mo_fail fu 1 (M1 103 0) M1 r1) (fun v30 M30 r30 => gd (gNb v30) (.ok v30 M30 r30))) else (.ok 1 (mS M1 103 0 ((M1 103 0) + 3)) r1)
def F_Mo_readSection_L56 (fu : Nat) : Nat → gMem → gRef → gO Int32
  | 0, _, _ => .no
  | d + 1, M1, r1 =>
  if (M1 101 0) ≤ (M1 103 0) then (F_Mo_readSection_B136 fu M1 r1) else (gO.bnd (F_Mo_here fu (M1 103 0) M1 r1) (fun v33 M33 r33 => if v33 = 93 then (gO.bnd (F_Mo_here fu ((M33 103 0) + 1) M33 r33) (fun v37 M37 r37 => if v37 = 93 then (gO.bnd (F_Mo_here fu ((M37 103 0) + 2) M37 r37) (fun v41 M41 r41 => if v41 = 62 then (F_Mo_readSection_B136 fu M41 r41) else (gd (vp_in (M41 103 0) 240) (gO.bnd (F_Mo_happen fu (M41 102 (M41 103 0).toNatClampNeg) M41 r41) (fun v44 M44 r44 => F_Mo_readSection_L56 fu d (mS M44 103 0 ((M44 103 0) + 1)) r44))))) else (gd (vp_in (M37 103 0) 240) (gO.bnd (F_Mo_happen fu (M37 102 (M37 103 0).toNatClampNeg) M37 r37) (fun v40 M40 r40 => F_Mo_readSection_L56 fu d (mS M40 103 0 ((M40 103 0) + 1)) r40))))) else (gd (vp_in (M33 103 0) 240) (gO.bnd (F_Mo_happen fu (M33 102 (M33 103 0).toNatClampNeg) M33 r33) (fun v36 M36 r36 => F_Mo_readSection_L56 fu d (mS M36 103 0 ((M36 103 0) + 1)) r36)))))
def F_Mo_readSection (fu : Nat) (M : gMem) (r : gRef) : gO Int32 :=
  gO.bnd (F_Mo_over fu 67 M r) (fun v45 M45 r45 => if v45 = 0 then (.ok 0 M45 r45) else (gO.bnd (F_Mo_over fu 68 M45 r45) (fun v47 M47 r47 => if v47 = 0 then (.ok 0 M47 r47) else (gO.bnd (F_Mo_over fu 65 M47 r47) (fun v49 M49 r49 => if v49 = 0 then (.ok 0 M49 r49) else (gO.bnd (F_Mo_over fu 84 M49 r49) (fun v51 M51 r51 => if v51 = 0 then (.ok 0 M51 r51) else (gO.bnd (F_Mo_over fu 65 M51 r51) (fun v53 M53 r53 => if v53 = 0 then (.ok 0 M53 r53) else (gO.bnd (F_Mo_over fu 91 M53 r53) (fun v55 M55 r55 => if v55 = 0 then (.ok 0 M55 r55) else (F_Mo_readSection_L56 fu fu M55 r55))))))))))))
def F_Mo_readMarked (fu : Nat) (M : gMem) (r : gRef) : gO Int32 :=
  gO.bnd (F_Mo_here fu ((M 103 0) + 1) M r) (fun v14 M14 r14 => if v14 = 47 then (gO.bnd (F_Mo_readEnd fu M14 r14) (fun v25 M25 r25 => gd (gNb v25) (.ok v25 M25 r25))) else (if v14 = 33 then (gO.bnd (F_Mo_here fu ((mS M14 103 0 ((M14 103 0) + 2)) 103 0) (mS M14 103 0 ((M14 103 0) + 2)) r14) (fun v17 M17 r17 => if v17 = 91 then (gO.bnd (F_Mo_readSection fu (mS M17 103 0 ((M17 103 0) + 1)) r17) (fun v21 M21 r21 => gd (gNb v21) (.ok v21 M21 r21))) else (gO.bnd (F_Mo_comment fu M17 r17) (fun v19 M19 r19 => gd (gNb v19) (.ok v19 M19 r19))))) else (gO.bnd (F_Mo_readTag fu M14 r14) (fun v23 M23 r23 => gd (gNb v23) (.ok v23 M23 r23)))))
def F_Mo_readContent_B132 (fu : Nat) (M1 : gMem) (r1 : gRef) : gO Int32 :=
  .ok 1 M1 r1
def F_Mo_readContent_L2 (fu : Nat) : Nat → Int32 → gMem → gRef → gO Int32
  | 0, _, _, _ => .no
  | d + 1, x1, M1, r1 =>
  if (M1 124 0) < 0 then (F_Mo_readContent_B132 fu M1 r1) else (gO.bnd (F_Mo_here fu (M1 103 0) M1 r1) (fun v53 M53 r53 => if (M53 103 0) = (M53 101 0) then (gO.bnd (F_Mo_fail fu 1 (M53 103 0) M53 r53) (fun v55 M55 r55 => gd (gNb v55) (.ok v55 M55 r55))) else (if v53 = 62 then (if x1 ≤ 1 then (if v53 = 93 then (if v53 = 60 then (gO.bnd (F_Mo_readMarked fu M53 r53) (fun v99 M99 r99 => if v99 = 0 then (.ok 0 M99 r99) else (F_Mo_readContent_L2 fu d (x1 + 1) M99 r99))) else (if v53 = 38 then (gO.bnd (F_Mo_reference fu M53 r53) (fun v94 M94 r94 => if 0 ≤ v94 then (gO.bnd (F_Mo_happen fu v94 M94 r94) (fun v96 M96 r96 => F_Mo_readContent_L2 fu d (x1 + 1) M96 r96)) else (gO.bnd (F_Mo_fail fu 3 (M53 103 0) M94 r94) (fun v97 M97 r97 => gd (gNb v97) (.ok v97 M97 r97))))) else (gO.bnd (F_Mo_happen fu v53 M53 r53) (fun v93 M93 r93 => F_Mo_readContent_L2 fu d (x1 + 1) (mS M93 103 0 ((M93 103 0) + 1)) r93)))) else (if v53 = 60 then (gO.bnd (F_Mo_readMarked fu M53 r53) (fun v89 M89 r89 => if v89 = 0 then (.ok 0 M89 r89) else (F_Mo_readContent_L2 fu d 0 M89 r89))) else (if v53 = 38 then (gO.bnd (F_Mo_reference fu M53 r53) (fun v84 M84 r84 => if 0 ≤ v84 then (gO.bnd (F_Mo_happen fu v84 M84 r84) (fun v86 M86 r86 => F_Mo_readContent_L2 fu d 0 M86 r86)) else (gO.bnd (F_Mo_fail fu 3 (M53 103 0) M84 r84) (fun v87 M87 r87 => gd (gNb v87) (.ok v87 M87 r87))))) else (gO.bnd (F_Mo_happen fu v53 M53 r53) (fun v83 M83 r83 => F_Mo_readContent_L2 fu d 0 (mS M83 103 0 ((M83 103 0) + 1)) r83))))) else (gO.bnd (F_Mo_fail fu 1 (M53 103 0) M53 r53) (fun v101 M101 r101 => gd (gNb v101) (.ok v101 M101 r101)))) else (if v53 = 93 then (if v53 = 60 then (gO.bnd (F_Mo_readMarked fu M53 r53) (fun v77 M77 r77 => if v77 = 0 then (.ok 0 M77 r77) else (F_Mo_readContent_L2 fu d (x1 + 1) M77 r77))) else (if v53 = 38 then (gO.bnd (F_Mo_reference fu M53 r53) (fun v72 M72 r72 => if 0 ≤ v72 then (gO.bnd (F_Mo_happen fu v72 M72 r72) (fun v74 M74 r74 => F_Mo_readContent_L2 fu d (x1 + 1) M74 r74)) else (gO.bnd (F_Mo_fail fu 3 (M53 103 0) M72 r72) (fun v75 M75 r75 => gd (gNb v75) (.ok v75 M75 r75))))) else (gO.bnd (F_Mo_happen fu v53 M53 r53) (fun v71 M71 r71 => F_Mo_readContent_L2 fu d (x1 + 1) (mS M71 103 0 ((M71 103 0) + 1)) r71)))) else (if v53 = 60 then (gO.bnd (F_Mo_readMarked fu M53 r53) (fun v67 M67 r67 => if v67 = 0 then (.ok 0 M67 r67) else (F_Mo_readContent_L2 fu d 0 M67 r67))) else (if v53 = 38 then (gO.bnd (F_Mo_reference fu M53 r53) (fun v62 M62 r62 => if 0 ≤ v62 then (gO.bnd (F_Mo_happen fu v62 M62 r62) (fun v64 M64 r64 => F_Mo_readContent_L2 fu d 0 M64 r64)) else (gO.bnd (F_Mo_fail fu 3 (M53 103 0) M62 r62) (fun v65 M65 r65 => gd (gNb v65) (.ok v65 M65 r65))))) else (gO.bnd (F_Mo_happen fu v53 M53 r53) (fun v61 M61 r61 => F_Mo_readContent_L2 fu d 0 (mS M61 103 0 ((M61 103 0) + 1)) r61))))))))
def F_Mo_readContent (fu : Nat) (M : gMem) (r : gRef) : gO Int32 :=
  F_Mo_readContent_L2 fu fu 0 M r
def F_Mo_write (fu : Nat) (x1 : Int32) (M : gMem) (r : gRef) : gO Unit :=
  gd (vp_in (M 126 0) 2200) (.ok () (mS (mS M 127 (M 126 0).toNatClampNeg x1) 126 0 (((mS M 127 (M 126 0).toNatClampNeg x1) 126 0) + 1)) r)
def F_Mo_writeReference (fu : Nat) (x1 : Int32) (x2 : Int32) (x3 : Int32) (x4 : Int32) (M : gMem) (r : gRef) : gO Unit :=
  gO.bnd (F_Mo_write fu 38 M r) (fun v14 M14 r14 => gO.bnd (F_Mo_write fu x1 M14 r14) (fun v15 M15 r15 => gO.bnd (F_Mo_write fu x2 M15 r15) (fun v16 M16 r16 => if x3 ≤ 0 then (if x4 ≤ 0 then (gO.bnd (F_Mo_write fu 59 M16 r16) (fun v19 M19 r19 => .ok () M19 r19)) else (gO.bnd (F_Mo_write fu x4 M16 r16) (fun v20 M20 r20 => gO.bnd (F_Mo_write fu 59 M20 r20) (fun v21 M21 r21 => .ok () M21 r21)))) else (gO.bnd (F_Mo_write fu x3 M16 r16) (fun v22 M22 r22 => if x4 ≤ 0 then (gO.bnd (F_Mo_write fu 59 M22 r22) (fun v24 M24 r24 => .ok () M24 r24)) else (gO.bnd (F_Mo_write fu x4 M22 r22) (fun v25 M25 r25 => gO.bnd (F_Mo_write fu 59 M25 r25) (fun v26 M26 r26 => .ok () M26 r26))))))))
def F_Mo_writeSafe (fu : Nat) (x1 : Int32) (x2 : Int32) (M : gMem) (r : gRef) : gO Unit :=
  if x1 = 38 then (gO.bnd (F_Mo_writeReference fu 97 109 112 0 M r) (fun v66 M66 r66 => .ok () M66 r66)) else (if x1 = 60 then (gO.bnd (F_Mo_writeReference fu 108 116 0 0 M r) (fun v65 M65 r65 => .ok () M65 r65)) else (if x1 = 62 then (if x2 = 0 then (gO.bnd (F_Mo_writeReference fu 103 116 0 0 M r) (fun v64 M64 r64 => .ok () M64 r64)) else (if x1 = 34 then (if x2 = 0 then (if x1 = 10 then (if x2 = 0 then (gO.bnd (F_Mo_write fu x1 M r) (fun v61 M61 r61 => .ok () M61 r61)) else (gO.bnd (F_Mo_writeReference fu 35 120 65 0 M r) (fun v62 M62 r62 => .ok () M62 r62))) else (gO.bnd (F_Mo_write fu x1 M r) (fun v59 M59 r59 => .ok () M59 r59))) else (gO.bnd (F_Mo_writeReference fu 113 117 111 116 M r) (fun v63 M63 r63 => .ok () M63 r63))) else (if x1 = 10 then (if x2 = 0 then (gO.bnd (F_Mo_write fu x1 M r) (fun v55 M55 r55 => .ok () M55 r55)) else (gO.bnd (F_Mo_writeReference fu 35 120 65 0 M r) (fun v56 M56 r56 => .ok () M56 r56))) else (gO.bnd (F_Mo_write fu x1 M r) (fun v53 M53 r53 => .ok () M53 r53))))) else (if x1 = 34 then (if x2 = 0 then (if x1 = 10 then (if x2 = 0 then (gO.bnd (F_Mo_write fu x1 M r) (fun v47 M47 r47 => .ok () M47 r47)) else (gO.bnd (F_Mo_writeReference fu 35 120 65 0 M r) (fun v48 M48 r48 => .ok () M48 r48))) else (gO.bnd (F_Mo_write fu x1 M r) (fun v45 M45 r45 => .ok () M45 r45))) else (gO.bnd (F_Mo_writeReference fu 113 117 111 116 M r) (fun v49 M49 r49 => .ok () M49 r49))) else (if x1 = 10 then (if x2 = 0 then (gO.bnd (F_Mo_write fu x1 M r) (fun v41 M41 r41 => .ok () M41 r41)) else (gO.bnd (F_Mo_writeReference fu 35 120 65 0 M r) (fun v42 M42 r42 => .ok () M42 r42))) else (gO.bnd (F_Mo_write fu x1 M r) (fun v39 M39 r39 => .ok () M39 r39))))))
def F_Mo_writeStretch_B25 (fu : Nat) (x1 : Int32) (x2 : Int32) (M1 : gMem) (r1 : gRef) : gO Unit :=
  .ok () M1 r1
def F_Mo_writeStretch_L2 (fu : Nat) (x1 : Int32) (x2 : Int32) : Nat → Int32 → gMem → gRef → gO Unit
  | 0, _, _, _ => .no
  | d + 1, x3, M1, r1 =>
  if (x1 + x2) ≤ x3 then (F_Mo_writeStretch_B25 fu x1 x2 M1 r1) else (gd (vp_in x3 260) (gO.bnd (F_Mo_write fu (M1 108 x3.toNatClampNeg) M1 r1) (fun v6 M6 r6 => F_Mo_writeStretch_L2 fu x1 x2 d (x3 + 1) M6 r6)))
def F_Mo_writeStretch (fu : Nat) (x1 : Int32) (x2 : Int32) (M : gMem) (r : gRef) : gO Unit :=
  F_Mo_writeStretch_L2 fu x1 x2 fu x1 M r
def F_Mo_order (fu : Nat) (x1 : Int32) (x2 : Int32) (M : gMem) (r : gRef) : gO Int32 :=
  gO.bnd (F_Mo_declares fu x1 M r) (fun v52 M52 r52 => gO.bnd (F_Mo_declares fu x2 M52 r52) (fun v53 M53 r53 => if v52 = v53 then (if v52 = 0 then (gO.bnd (F_Mo_spaceOf fu x1 M53 r53) (fun v56 M56 r56 => gO.bnd (F_Mo_spaceOf fu x2 M56 r56) (fun v57 M57 r57 => if v56 < 0 then (if 0 ≤ v56 then (if 0 ≤ v57 then (gO.bnd (F_Mo_local fu x1 M57 r57) (fun v61 M61 r61 => gO.bnd (F_Mo_localSize fu x1 M61 r61) (fun v62 M62 r62 => gO.bnd (F_Mo_local fu x2 M62 r62) (fun v63 M63 r63 => gO.bnd (F_Mo_localSize fu x2 M63 r63) (fun v64 M64 r64 => gO.bnd (F_Mo_compare fu v61 v62 v63 v64 M64 r64) (fun v65 M65 r65 => .ok v65 M65 r65)))))) else (.ok (1 - 0) M57 r57)) else (if 0 ≤ v57 then (.ok (0 - 1) M57 r57) else (gO.bnd (F_Mo_local fu x1 M57 r57) (fun v67 M67 r67 => gO.bnd (F_Mo_localSize fu x1 M67 r67) (fun v68 M68 r68 => gO.bnd (F_Mo_local fu x2 M68 r68) (fun v69 M69 r69 => gO.bnd (F_Mo_localSize fu x2 M69 r69) (fun v70 M70 r70 => gO.bnd (F_Mo_compare fu v67 v68 v69 v70 M70 r70) (fun v71 M71 r71 => .ok v71 M71 r71)))))))) else (if 0 ≤ v57 then (gO.bnd (F_Mo_compareValues fu v56 v57 M57 r57) (fun v73 M73 r73 => if v73 = 0 then (gO.bnd (F_Mo_local fu x1 M73 r73) (fun v75 M75 r75 => gO.bnd (F_Mo_localSize fu x1 M75 r75) (fun v76 M76 r76 => gO.bnd (F_Mo_local fu x2 M76 r76) (fun v77 M77 r77 => gO.bnd (F_Mo_localSize fu x2 M77 r77) (fun v78 M78 r78 => gO.bnd (F_Mo_compare fu v75 v76 v77 v78 M78 r78) (fun v79 M79 r79 => .ok v79 M79 r79)))))) else (.ok v73 M73 r73))) else (if 0 ≤ v56 then (if 0 ≤ v57 then (gO.bnd (F_Mo_local fu x1 M57 r57) (fun v82 M82 r82 => gO.bnd (F_Mo_localSize fu x1 M82 r82) (fun v83 M83 r83 => gO.bnd (F_Mo_local fu x2 M83 r83) (fun v84 M84 r84 => gO.bnd (F_Mo_localSize fu x2 M84 r84) (fun v85 M85 r85 => gO.bnd (F_Mo_compare fu v82 v83 v84 v85 M85 r85) (fun v86 M86 r86 => .ok v86 M86 r86)))))) else (.ok (1 - 0) M57 r57)) else (if 0 ≤ v57 then (.ok (0 - 1) M57 r57) else (gO.bnd (F_Mo_local fu x1 M57 r57) (fun v88 M88 r88 => gO.bnd (F_Mo_localSize fu x1 M88 r88) (fun v89 M89 r89 => gO.bnd (F_Mo_local fu x2 M89 r89) (fun v90 M90 r90 => gO.bnd (F_Mo_localSize fu x2 M90 r90) (fun v91 M91 r91 => gO.bnd (F_Mo_compare fu v88 v89 v90 v91 M91 r91) (fun v92 M92 r92 => .ok v92 M92 r92)))))))))))) else (gd (vp_in x1 144) (if 0 ≤ (M53 118 x1.toNatClampNeg) then (gd (vp_in x2 144) (if 0 ≤ (M53 118 x2.toNatClampNeg) then (gO.bnd (F_Mo_local fu x1 M53 r53) (fun v97 M97 r97 => gO.bnd (F_Mo_localSize fu x1 M97 r97) (fun v98 M98 r98 => gO.bnd (F_Mo_local fu x2 M98 r98) (fun v99 M99 r99 => gO.bnd (F_Mo_localSize fu x2 M99 r99) (fun v100 M100 r100 => gO.bnd (F_Mo_compare fu v97 v98 v99 v100 M100 r100) (fun v101 M101 r101 => .ok v101 M101 r101)))))) else (.ok 1 M53 r53))) else (.ok (-1) M53 r53)))) else (if v52 = 0 then (.ok 1 M53 r53) else (.ok (-1) M53 r53))))
def F_Mo_isNews (fu : Nat) (x1 : Int32) (M : gMem) (r : gRef) : gO Int32 :=
  gd (vp_in (x1 / 6) 24) (gO.bnd (F_Mo_local fu x1 M r) (fun v23 M23 r23 => gd (vp_in x1 144) (if 0 ≤ (M23 118 x1.toNatClampNeg) then (gO.bnd (F_Mo_localSize fu x1 M23 r23) (fun v26 M26 r26 => gO.bnd (F_Mo_declared fu (M 110 (x1 / 6).toNatClampNeg) v23 v26 M26 r26) (fun v27 M27 r27 => if 0 ≤ v27 then (gO.bnd (F_Mo_compareValues fu x1 v27 M27 r27) (fun v29 M29 r29 => if v29 = 0 then (.ok 0 M29 r29) else (.ok 1 M29 r29))) else (gd (vp_in x1 144) (if 0 ≤ (M27 118 x1.toNatClampNeg) then (.ok 1 M27 r27) else (gd (vp_in x1 144) (if (M27 121 x1.toNatClampNeg) ≤ 0 then (.ok 0 M27 r27) else (.ok 1 M27 r27)))))))) else (gO.bnd (F_Mo_declared fu (M 110 (x1 / 6).toNatClampNeg) v23 0 M23 r23) (fun v35 M35 r35 => if 0 ≤ v35 then (gO.bnd (F_Mo_compareValues fu x1 v35 M35 r35) (fun v37 M37 r37 => if v37 = 0 then (.ok 0 M37 r37) else (.ok 1 M37 r37))) else (gd (vp_in x1 144) (if 0 ≤ (M35 118 x1.toNatClampNeg) then (.ok 1 M35 r35) else (gd (vp_in x1 144) (if (M35 121 x1.toNatClampNeg) ≤ 0 then (.ok 0 M35 r35) else (.ok 1 M35 r35))))))))))
def F_Mo_isWritten (fu : Nat) (x1 : Int32) (M : gMem) (r : gRef) : gO Int32 :=
  gO.bnd (F_Mo_declares fu x1 M r) (fun v5 M5 r5 => if v5 = 0 then (.ok 1 M5 r5) else (gO.bnd (F_Mo_isNews fu x1 M5 r5) (fun v7 M7 r7 => if v7 = 0 then (.ok 0 M7 r7) else (.ok 1 M7 r7))))
def F_Mo_writeAttribute_B75 (fu : Nat) (x1 : Int32) (M1 : gMem) (r1 : gRef) : gO Unit :=
  gO.bnd (F_Mo_write fu 34 M1 r1) (fun v14 M14 r14 => .ok () M14 r14)
def F_Mo_writeAttribute_L41 (fu : Nat) (x1 : Int32) : Nat → Int32 → gMem → gRef → gO Unit
  | 0, _, _, _ => .no
  | d + 1, x2, M1, r1 =>
  gd (vp_in x1 144) (gd (vp_in x1 144) (if ((M1 120 x1.toNatClampNeg) + (M1 121 x1.toNatClampNeg)) ≤ x2 then (F_Mo_writeAttribute_B75 fu x1 M1 r1) else (gd (vp_in x2 260) (gO.bnd (F_Mo_writeSafe fu (M1 108 x2.toNatClampNeg) 1 M1 r1) (fun v19 M19 r19 => F_Mo_writeAttribute_L41 fu x1 d (x2 + 1) M19 r19)))))
def F_Mo_writeAttribute (fu : Nat) (x1 : Int32) (M : gMem) (r : gRef) : gO Unit :=
  gO.bnd (F_Mo_write fu 32 M r) (fun v20 M20 r20 => gd (vp_in x1 144) (gd (vp_in x1 144) (gO.bnd (F_Mo_writeStretch fu (M20 116 x1.toNatClampNeg) (M20 117 x1.toNatClampNeg) M20 r20) (fun v23 M23 r23 => gO.bnd (F_Mo_write fu 61 M23 r23) (fun v24 M24 r24 => gO.bnd (F_Mo_write fu 34 M24 r24) (fun v25 M25 r25 => gd (vp_in x1 144) (F_Mo_writeAttribute_L41 fu x1 fu (M25 120 x1.toNatClampNeg) M25 r25)))))))
def F_Mo_writeTag_B151 (fu : Nat) (x1 : Int32) (M1 : gMem) (r1 : gRef) : gO Unit :=
  gO.bnd (F_Mo_write fu 62 M1 r1) (fun v18 M18 r18 => .ok () M18 r18)
def F_Mo_writeTag_I45 (fu : Nat) (x1 : Int32) : Nat → Int32 → Int32 → Int32 → Int32 → gMem → gRef → gO (Sum Unit Int32)
  | 0, _, _, _, _, _, _ => .no
  | d2 + 1, x2, x3, x4, x5, M1, r1 =>
  gd (vp_in x1 24) (if ((6 * x1) + (M1 115 x1.toNatClampNeg)) ≤ x5 then (.ok (.inr x4) M1 r1) else (if ((x2 >>> ((x5 - (6 * x1)) &&& 31)) &&& 1) = 0 then (if x4 < 0 then (F_Mo_writeTag_I45 fu x1 d2 x2 x3 x5 (x5 + 1) M1 r1) else (gO.bnd (F_Mo_order fu x5 x4 M1 r1) (fun v25 M25 r25 => if 0 ≤ v25 then (F_Mo_writeTag_I45 fu x1 d2 x2 x3 x4 (x5 + 1) M25 r25) else (F_Mo_writeTag_I45 fu x1 d2 x2 x3 x5 (x5 + 1) M25 r25)))) else (F_Mo_writeTag_I45 fu x1 d2 x2 x3 x4 (x5 + 1) M1 r1)))
def F_Mo_writeTag_L26 (fu : Nat) (x1 : Int32) : Nat → Int32 → Int32 → gMem → gRef → gO Unit
  | 0, _, _, _, _ => .no
  | d + 1, x2, x3, M1, r1 =>
  gd (vp_in x1 24) (if (M1 115 x1.toNatClampNeg) ≤ x3 then (F_Mo_writeTag_B151 fu x1 M1 r1) else (gO.bnd (F_Mo_writeTag_I45 fu x1 fu x2 x3 (-1) (6 * x1) M1 r1) (fun s27 M27 r27 => gsm s27 (fun v => .ok v M27 r27) (fun e27 => gO.bnd (F_Mo_isWritten fu e27 M27 r27) (fun v28 M28 r28 => if v28 = 0 then (F_Mo_writeTag_L26 fu x1 d (x2 ||| (1 <<< ((e27 - (6 * x1)) &&& 31))) (x3 + 1) M28 r28) else (gO.bnd (F_Mo_writeAttribute fu e27 M28 r28) (fun v30 M30 r30 => F_Mo_writeTag_L26 fu x1 d (x2 ||| (1 <<< ((e27 - (6 * x1)) &&& 31))) (x3 + 1) M30 r30)))))))
def F_Mo_writeTag (fu : Nat) (x1 : Int32) (M : gMem) (r : gRef) : gO Unit :=
  gO.bnd (F_Mo_write fu 60 M r) (fun v40 M40 r40 => gd (vp_in x1 24) (gd (vp_in x1 24) (gO.bnd (F_Mo_writeStretch fu (M40 111 x1.toNatClampNeg) (M40 112 x1.toNatClampNeg) M40 r40) (fun v43 M43 r43 => F_Mo_writeTag_L26 fu x1 fu 0 0 M43 r43))))
def F_Mo_writeForm_B105 (fu : Nat) (M1 : gMem) (r1 : gRef) : gO Unit :=
  .ok () M1 r1
def F_Mo_writeForm_L7 (fu : Nat) : Nat → Int32 → gMem → gRef → gO Unit
  | 0, _, _, _ => .no
  | d + 1, x1, M1, r1 =>
  if (M1 122 0) ≤ x1 then (F_Mo_writeForm_B105 fu M1 r1) else (gd (vp_in x1 300) (if (M1 123 x1.toNatClampNeg) < 2000 then (if (M1 123 x1.toNatClampNeg) < 1000 then (gO.bnd (F_Mo_writeSafe fu (M1 123 x1.toNatClampNeg) 0 M1 r1) (fun v17 M17 r17 => F_Mo_writeForm_L7 fu d (x1 + 1) M17 r17)) else (gO.bnd (F_Mo_writeTag fu ((M1 123 x1.toNatClampNeg) - 1000) M1 r1) (fun v18 M18 r18 => F_Mo_writeForm_L7 fu d (x1 + 1) M18 r18))) else (gO.bnd (F_Mo_write fu 60 M1 r1) (fun v19 M19 r19 => gO.bnd (F_Mo_write fu 47 M19 r19) (fun v20 M20 r20 => gd (vp_in ((M1 123 x1.toNatClampNeg) - 2000) 24) (gd (vp_in ((M1 123 x1.toNatClampNeg) - 2000) 24) (gO.bnd (F_Mo_writeStretch fu (M20 111 ((M1 123 x1.toNatClampNeg) - 2000).toNatClampNeg) (M20 112 ((M1 123 x1.toNatClampNeg) - 2000).toNatClampNeg) M20 r20) (fun v23 M23 r23 => gO.bnd (F_Mo_write fu 62 M23 r23) (fun v24 M24 r24 => F_Mo_writeForm_L7 fu d (x1 + 1) M24 r24)))))))))
def F_Mo_writeForm (fu : Nat) (M : gMem) (r : gRef) : gO Unit :=
  F_Mo_writeForm_L7 fu fu 0 (mS M 126 0 0) r
def F_Mo_read (fu : Nat) (M : gMem) (r : gRef) : gO Int32 :=
  gO.bnd (F_Mo_around fu 1 (mS (mS (mS (mS (mS (mS (mS (mS M 103 0 0) 104 0 0) 105 0 (-1)) 107 0 0) 109 0 0) 122 0 0) 124 0 (-1)) 125 0 0) r) (fun v29 M29 r29 => if v29 = 0 then (if ((mS (mS M29 106 0 0) 100 0 1) 106 0) = 0 then (if ((mS (mS M29 106 0 0) 100 0 1) 106 0) = 0 then (.ok 0 (mS (mS M29 106 0 0) 100 0 1) r29) else (.ok ((mS (mS M29 106 0 0) 100 0 1) 109 0) (mS (mS M29 106 0 0) 100 0 1) r29)) else (gO.bnd (F_Mo_writeForm fu (mS (mS M29 106 0 0) 100 0 1) r29) (fun v33 M33 r33 => if (M33 106 0) = 0 then (.ok 0 M33 r33) else (.ok (M33 109 0) M33 r33)))) else (gO.bnd (F_Mo_readTag fu M29 r29) (fun v35 M35 r35 => if v35 = 0 then (if ((mS (mS M35 106 0 0) 100 0 1) 106 0) = 0 then (if ((mS (mS M35 106 0 0) 100 0 1) 106 0) = 0 then (.ok 0 (mS (mS M35 106 0 0) 100 0 1) r35) else (.ok ((mS (mS M35 106 0 0) 100 0 1) 109 0) (mS (mS M35 106 0 0) 100 0 1) r35)) else (gO.bnd (F_Mo_writeForm fu (mS (mS M35 106 0 0) 100 0 1) r35) (fun v39 M39 r39 => if (M39 106 0) = 0 then (.ok 0 M39 r39) else (.ok (M39 109 0) M39 r39)))) else (gO.bnd (F_Mo_readContent fu M35 r35) (fun v41 M41 r41 => if v41 = 0 then (if ((mS (mS M41 106 0 0) 100 0 1) 106 0) = 0 then (if ((mS (mS M41 106 0 0) 100 0 1) 106 0) = 0 then (.ok 0 (mS (mS M41 106 0 0) 100 0 1) r41) else (.ok ((mS (mS M41 106 0 0) 100 0 1) 109 0) (mS (mS M41 106 0 0) 100 0 1) r41)) else (gO.bnd (F_Mo_writeForm fu (mS (mS M41 106 0 0) 100 0 1) r41) (fun v45 M45 r45 => if (M45 106 0) = 0 then (.ok 0 M45 r45) else (.ok (M45 109 0) M45 r45)))) else (gO.bnd (F_Mo_around fu 0 M41 r41) (fun v47 M47 r47 => if v47 = 0 then (if ((mS (mS M47 106 0 0) 100 0 1) 106 0) = 0 then (if ((mS (mS M47 106 0 0) 100 0 1) 106 0) = 0 then (.ok 0 (mS (mS M47 106 0 0) 100 0 1) r47) else (.ok ((mS (mS M47 106 0 0) 100 0 1) 109 0) (mS (mS M47 106 0 0) 100 0 1) r47)) else (gO.bnd (F_Mo_writeForm fu (mS (mS M47 106 0 0) 100 0 1) r47) (fun v51 M51 r51 => if (M51 106 0) = 0 then (.ok 0 M51 r51) else (.ok (M51 109 0) M51 r51)))) else (if ((mS (mS M47 106 0 1) 100 0 0) 106 0) = 0 then (if ((mS (mS M47 106 0 1) 100 0 0) 106 0) = 0 then (.ok 0 (mS (mS M47 106 0 1) 100 0 0) r47) else (.ok ((mS (mS M47 106 0 1) 100 0 0) 109 0) (mS (mS M47 106 0 1) 100 0 0) r47)) else (gO.bnd (F_Mo_writeForm fu (mS (mS M47 106 0 1) 100 0 0) r47) (fun v55 M55 r55 => if (M55 106 0) = 0 then (.ok 0 M55 r55) else (.ok (M55 109 0) M55 r55)))))))))))
def F_Mo_reason (fu : Nat) (M : gMem) (r : gRef) : gO Int32 :=
  .ok ((mS M 100 0 0) 104 0) (mS M 100 0 0) r
def F_Mo_place (fu : Nat) (M : gMem) (r : gRef) : gO Int32 :=
  .ok ((mS M 100 0 0) 105 0) (mS M 100 0 0) r
def F_Mo_elementSpace (fu : Nat) (x1 : Int32) (M : gMem) (r : gRef) : gO Int32 :=
  gd (vp_in x1 24) (gd (vp_in x1 24) (if 0 ≤ (M 113 x1.toNatClampNeg) then (gd (vp_in x1 24) (gO.bnd (F_Mo_declared fu x1 (M 111 x1.toNatClampNeg) (M 113 x1.toNatClampNeg) M r) (fun v17 M17 r17 => if v17 < 0 then (.ok v17 M17 r17) else (gd (vp_in v17 144) (if (M17 121 v17.toNatClampNeg) = 0 then (.ok (-1) M17 r17) else (.ok v17 M17 r17)))))) else (gO.bnd (F_Mo_declared fu x1 (M 111 x1.toNatClampNeg) 0 M r) (fun v21 M21 r21 => if v21 < 0 then (.ok v21 M21 r21) else (gd (vp_in v21 144) (if (M21 121 v21.toNatClampNeg) = 0 then (.ok (-1) M21 r21) else (.ok v21 M21 r21)))))))
def F_Mo_noElement (fu : Nat) (x1 : Int32) (M : gMem) (r : gRef) : gO Int32 :=
  if (M 106 0) = 0 then (.ok 1 M r) else (if x1 < 0 then (.ok 1 M r) else (if x1 < (M 109 0) then (.ok 0 M r) else (.ok 1 M r)))
def F_Mo_own_B92 (fu : Nat) (x1 : Int32) (x2 : Int32) (x3 : Int32) (M1 : gMem) (r1 : gRef) : gO Int32 :=
  if 0 ≤ x2 then (.ok (-1) M1 r1) else (.ok x3 M1 r1)
def F_Mo_own_L8 (fu : Nat) (x1 : Int32) (x2 : Int32) : Nat → Int32 → Int32 → Int32 → gMem → gRef → gO Int32
  | 0, _, _, _, _, _ => .no
  | d + 1, x3, x4, x5, M1, r1 =>
  if (M1 122 0) ≤ x5 then (F_Mo_own_B92 fu x1 x2 x3 M1 r1) else (gd (vp_in x5 300) (if (M1 123 x5.toNatClampNeg) < 2000 then (if (M1 123 x5.toNatClampNeg) < 1000 then (if x4 = x1 then (if x3 = x2 then (.ok (M1 123 x5.toNatClampNeg) M1 r1) else (F_Mo_own_L8 fu x1 x2 d (x3 + 1) x4 (x5 + 1) M1 r1)) else (F_Mo_own_L8 fu x1 x2 d x3 x4 (x5 + 1) M1 r1)) else (F_Mo_own_L8 fu x1 x2 d x3 ((M1 123 x5.toNatClampNeg) - 1000) (x5 + 1) M1 r1)) else (gd (vp_in ((M1 123 x5.toNatClampNeg) - 2000) 24) (F_Mo_own_L8 fu x1 x2 d x3 (M1 110 ((M1 123 x5.toNatClampNeg) - 2000).toNatClampNeg) (x5 + 1) M1 r1))))
def F_Mo_own (fu : Nat) (x1 : Int32) (x2 : Int32) (M : gMem) (r : gRef) : gO Int32 :=
  F_Mo_own_L8 fu x1 x2 fu 0 (-1) 0 M r
def F_Mo_element_B133 (fu : Nat) (x1 : Int32) (x2 : Int32) (x3 : Int32) (M1 : gMem) (r1 : gRef) : gO Int32 :=
  gO.bnd (F_Mo_elementSpace fu x1 M1 r1) (fun v22 M22 r22 => if x2 = 0 then (gd (vp_in x1 24) (.ok (M22 110 x1.toNatClampNeg) M22 r22)) else (if 3 ≤ x2 then (if x2 = 3 then (gO.bnd (F_Mo_own fu x1 (-1) M22 r22) (fun v28 M28 r28 => .ok v28 M28 r28)) else (if 0 ≤ v22 then (gd (vp_in v22 144) (.ok (M22 121 v22.toNatClampNeg) M22 r22)) else (.ok (-1) M22 r22))) else (.ok x3 M22 r22)))
def F_Mo_element_L89 (fu : Nat) (x1 : Int32) (x2 : Int32) : Nat → Int32 → Int32 → gMem → gRef → gO Int32
  | 0, _, _, _, _ => .no
  | d + 1, x3, x4, M1, r1 =>
  gd (vp_in x1 24) (if ((6 * x1) + (M1 115 x1.toNatClampNeg)) ≤ x4 then (F_Mo_element_B133 fu x1 x2 x3 M1 r1) else (if x2 = 2 then (gO.bnd (F_Mo_declares fu x4 M1 r1) (fun v33 M33 r33 => if v33 = 0 then (F_Mo_element_L89 fu x1 x2 d (x3 + 1) (x4 + 1) M33 r33) else (F_Mo_element_L89 fu x1 x2 d (x3 + 0) (x4 + 1) M33 r33))) else (F_Mo_element_B133 fu x1 x2 x3 M1 r1)))
def F_Mo_element_B83 (fu : Nat) (x1 : Int32) (x2 : Int32) (x3 : Int32) (M1 : gMem) (r1 : gRef) : gO Int32 :=
  F_Mo_element_L89 fu x1 x2 fu x3 (6 * x1) M1 r1
def F_Mo_element_L44 (fu : Nat) (x1 : Int32) (x2 : Int32) : Nat → Int32 → Int32 → gMem → gRef → gO Int32
  | 0, _, _, _, _ => .no
  | d + 1, x3, x4, M1, r1 =>
  if (M1 109 0) ≤ x4 then (F_Mo_element_B83 fu x1 x2 x3 M1 r1) else (if x2 = 1 then (gd (vp_in x4 24) (if (M1 110 x4.toNatClampNeg) = x1 then (F_Mo_element_L44 fu x1 x2 d (x3 + 1) (x4 + 1) M1 r1) else (F_Mo_element_L44 fu x1 x2 d (x3 + 0) (x4 + 1) M1 r1))) else (F_Mo_element_B83 fu x1 x2 x3 M1 r1))
def F_Mo_element (fu : Nat) (x1 : Int32) (x2 : Int32) (M : gMem) (r : gRef) : gO Int32 :=
  gO.bnd (F_Mo_noElement fu x1 M r) (fun v39 M39 r39 => if v39 = 0 then (if x2 < 0 then (.ok 0 (mS M39 100 0 2) r39) else (if x2 ≤ 4 then (F_Mo_element_L44 fu x1 x2 fu 0 0 (mS M39 100 0 0) r39) else (.ok 0 (mS M39 100 0 2) r39))) else (.ok 0 (mS M39 100 0 1) r39))
def F_Mo_name (fu : Nat) (x1 : Int32) (x2 : Int32) (M : gMem) (r : gRef) : gO Int32 :=
  gO.bnd (F_Mo_noElement fu x1 M r) (fun v9 M9 r9 => if v9 = 0 then (if x2 < 0 then (.ok 0 (mS M9 100 0 1) r9) else (gd (vp_in x1 24) (if x2 < (M9 112 x1.toNatClampNeg) then (gd (vp_in x1 24) (gd (vp_in (((mS M9 100 0 0) 111 x1.toNatClampNeg) + x2) 260) (gd (gNc (iC ((mS M9 100 0 0) 108 (((mS M9 100 0 0) 111 x1.toNatClampNeg) + x2).toNatClampNeg))) (.ok (iC ((mS M9 100 0 0) 108 (((mS M9 100 0 0) 111 x1.toNatClampNeg) + x2).toNatClampNeg)) (mS M9 100 0 0) r9)))) else (.ok 0 (mS M9 100 0 1) r9)))) else (.ok 0 (mS M9 100 0 1) r9))
def F_Mo_content (fu : Nat) (x1 : Int32) (x2 : Int32) (M : gMem) (r : gRef) : gO Int32 :=
  gO.bnd (F_Mo_noElement fu x1 M r) (fun v8 M8 r8 => if v8 = 0 then (if 0 ≤ x2 then (gO.bnd (F_Mo_own fu x1 x2 M8 r8) (fun v11 M11 r11 => if 0 ≤ v11 then (gO.bnd (F_Mo_own fu x1 x2 (mS M11 100 0 0) r11) (fun v13 M13 r13 => gd (gNc (iC v13)) (.ok (iC v13) M13 r13))) else (.ok 0 (mS M11 100 0 1) r11))) else (.ok 0 (mS M8 100 0 1) r8)) else (.ok 0 (mS M8 100 0 1) r8))
def F_Mo_space (fu : Nat) (x1 : Int32) (x2 : Int32) (M : gMem) (r : gRef) : gO Int32 :=
  gO.bnd (F_Mo_noElement fu x1 M r) (fun v11 M11 r11 => if v11 = 0 then (gO.bnd (F_Mo_elementSpace fu x1 (mS M11 100 0 0) r11) (fun v13 M13 r13 => if v13 < 0 then (.ok 0 (mS M13 100 0 1) r13) else (if x2 < 0 then (.ok 0 (mS M13 100 0 1) r13) else (gd (vp_in v13 144) (if x2 < (M13 121 v13.toNatClampNeg) then (gd (vp_in v13 144) (gd (vp_in (((mS M13 100 0 0) 120 v13.toNatClampNeg) + x2) 260) (gd (gNc (iC ((mS M13 100 0 0) 108 (((mS M13 100 0 0) 120 v13.toNatClampNeg) + x2).toNatClampNeg))) (.ok (iC ((mS M13 100 0 0) 108 (((mS M13 100 0 0) 120 v13.toNatClampNeg) + x2).toNatClampNeg)) (mS M13 100 0 0) r13)))) else (.ok 0 (mS M13 100 0 1) r13)))))) else (.ok 0 (mS M11 100 0 1) r11))
def F_Mo_form (fu : Nat) (M : gMem) (r : gRef) : gO Int32 :=
  if ((mS M 100 0 0) 106 0) = 0 then (.ok 0 (mS M 100 0 0) r) else (.ok ((mS M 100 0 0) 126 0) (mS M 100 0 0) r)
def F_Mo_formAt (fu : Nat) (x1 : Int32) (M : gMem) (r : gRef) : gO Int32 :=
  if (M 106 0) = 0 then (.ok 0 (mS M 100 0 1) r) else (if x1 < 0 then (.ok 0 (mS M 100 0 1) r) else (if x1 < (M 126 0) then (gd (vp_in x1 2200) (gd (gNc (iC ((mS M 100 0 0) 127 x1.toNatClampNeg))) (.ok (iC ((mS M 100 0 0) 127 x1.toNatClampNeg)) (mS M 100 0 0) r))) else (.ok 0 (mS M 100 0 1) r)))
def F_Mo_retype_B71 (fu : Nat) (M1 : gMem) (r1 : gRef) : gO Int32 :=
  .ok (M1 101 0) M1 r1
def F_Mo_retype_L45 (fu : Nat) : Nat → Int32 → gMem → gRef → gO Int32
  | 0, _, _, _ => .no
  | d + 1, x1, M1, r1 =>
  if (M1 126 0) ≤ x1 then (F_Mo_retype_B71 fu M1 r1) else (gd (vp_in x1 2200) (gd (vp_in x1 240) (F_Mo_retype_L45 fu d (x1 + 1) (mS M1 102 x1.toNatClampNeg (M1 127 x1.toNatClampNeg)) r1)))
def F_Mo_retype (fu : Nat) (M : gMem) (r : gRef) : gO Int32 :=
  if (M 106 0) = 0 then (.ok 0 (mS M 100 0 1) r) else (if (M 126 0) ≤ 240 then (F_Mo_retype_L45 fu fu 0 (mS (mS M 100 0 0) 101 0 ((mS M 100 0 0) 126 0)) r) else (.ok 0 (mS M 100 0 1) r))
def F_Mo_keep_B64 (fu : Nat) (M1 : gMem) (r1 : gRef) : gO Unit :=
  .ok () M1 r1
def F_Mo_keep_L38 (fu : Nat) : Nat → Int32 → gMem → gRef → gO Unit
  | 0, _, _, _ => .no
  | d + 1, x1, M1, r1 =>
  if (M1 126 0) ≤ x1 then (F_Mo_keep_B64 fu M1 r1) else (gd (vp_in x1 2200) (gd (vp_in x1 2200) (F_Mo_keep_L38 fu d (x1 + 1) (mS M1 130 x1.toNatClampNeg (M1 127 x1.toNatClampNeg)) r1)))
def F_Mo_keep (fu : Nat) (M : gMem) (r : gRef) : gO Unit :=
  if (M 106 0) = 0 then (if ((mS M 100 0 1) 106 0) = 0 then (F_Mo_keep_B64 fu (mS M 100 0 1) r) else (F_Mo_keep_L38 fu fu 0 (mS (mS (mS M 100 0 1) 128 0 1) 129 0 ((mS (mS M 100 0 1) 128 0 1) 126 0)) r)) else (if ((mS M 100 0 0) 106 0) = 0 then (F_Mo_keep_B64 fu (mS M 100 0 0) r) else (F_Mo_keep_L38 fu fu 0 (mS (mS (mS M 100 0 0) 128 0 1) 129 0 ((mS (mS M 100 0 0) 128 0 1) 126 0)) r))
def F_Mo_same_B77 (fu : Nat) (x1 : Int32) (M1 : gMem) (r1 : gRef) : gO Int32 :=
  gd (gNb x1) (.ok x1 M1 r1)
def F_Mo_same_L38 (fu : Nat) : Nat → Int32 → Int32 → gMem → gRef → gO Int32
  | 0, _, _, _, _ => .no
  | d + 1, x1, x2, M1, r1 =>
  if (M1 126 0) ≤ x2 then (F_Mo_same_B77 fu x1 M1 r1) else (if x1 = 0 then (F_Mo_same_B77 fu x1 M1 r1) else (gd (vp_in x2 2200) (gd (vp_in x2 2200) (if (M1 130 x2.toNatClampNeg) = (M1 127 x2.toNatClampNeg) then (F_Mo_same_L38 fu d 1 (x2 + 1) M1 r1) else (F_Mo_same_L38 fu d 0 (x2 + 1) M1 r1)))))
def F_Mo_same (fu : Nat) (M : gMem) (r : gRef) : gO Int32 :=
  if ((mS M 100 0 0) 106 0) = 0 then (F_Mo_same_L38 fu fu 0 0 (mS M 100 0 0) r) else (if ((mS M 100 0 0) 128 0) = 0 then (F_Mo_same_L38 fu fu 0 0 (mS M 100 0 0) r) else (if ((mS M 100 0 0) 129 0) = ((mS M 100 0 0) 126 0) then (F_Mo_same_L38 fu fu 1 0 (mS M 100 0 0) r) else (F_Mo_same_L38 fu fu 0 0 (mS M 100 0 0) r)))
end
