/-! receivers -/
theorem rv_Row {s s0 : State} {D : va_G} {aC : Nat → ClassId} {M : gMem} {r : gRef} {ow : Int64} {H : Heap} {locs : List Loc} {k i : Nat} (hK : va_K D gC (gTy aC) s) (hw : gWd s0 D aC M r ow H locs) (hi : i < 6) (hk : k = oRow i) : ∃ cell : Cell, H[s0.heap.size + k]? = some cell ∧ cell.vm.isStatics = false ∧ s.vm.findClass R_Row = some cell.cls :=
  gw_recv hK hw (by rw [hk]; exact by have := (gk_Row i hi).2.2; omega) (by rw [hk]; unfold gW; rw [(gk_Row i hi).1]; rfl) rfl
theorem rv_At {s s0 : State} {D : va_G} {aC : Nat → ClassId} {M : gMem} {r : gRef} {ow : Int64} {H : Heap} {locs : List Loc} {k i : Nat} (hK : va_K D gC (gTy aC) s) (hw : gWd s0 D aC M r ow H locs) (hi : i < 145) (hk : k = oAt i) : ∃ cell : Cell, H[s0.heap.size + k]? = some cell ∧ cell.vm.isStatics = false ∧ s.vm.findClass R_At = some cell.cls :=
  gw_recv hK hw (by rw [hk]; exact (gk_At i hi).2) (by rw [hk]; unfold gW; rw [(gk_At i hi).1]; rfl) rfl
theorem rv_Nm {s s0 : State} {D : va_G} {aC : Nat → ClassId} {M : gMem} {r : gRef} {ow : Int64} {H : Heap} {locs : List Loc} {k i : Nat} (hK : va_K D gC (gTy aC) s) (hw : gWd s0 D aC M r ow H locs) (hi : i < 170) (hk : k = oNm i) : ∃ cell : Cell, H[s0.heap.size + k]? = some cell ∧ cell.vm.isStatics = false ∧ s.vm.findClass R_Nm = some cell.cls :=
  gw_recv hK hw (by rw [hk]; exact (gk_Nm i hi).2) (by rw [hk]; unfold gW; rw [(gk_Nm i hi).1]; rfl) rfl
theorem rv_El {s s0 : State} {D : va_G} {aC : Nat → ClassId} {M : gMem} {r : gRef} {ow : Int64} {H : Heap} {locs : List Loc} {k i : Nat} (hK : va_K D gC (gTy aC) s) (hw : gWd s0 D aC M r ow H locs) (hi : i < 24) (hk : k = oEl i) : ∃ cell : Cell, H[s0.heap.size + k]? = some cell ∧ cell.vm.isStatics = false ∧ s.vm.findClass R_El = some cell.cls :=
  gw_recv hK hw (by rw [hk]; exact (gk_El i hi).2) (by rw [hk]; unfold gW; rw [(gk_El i hi).1]; rfl) rfl
theorem rv_MR {s s0 : State} {D : va_G} {aC : Nat → ClassId} {M : gMem} {r : gRef} {ow : Int64} {H : Heap} {locs : List Loc} {k : Nat} (hK : va_K D gC (gTy aC) s) (hw : gWd s0 D aC M r ow H locs) (hk : k = 0) : ∃ cell : Cell, H[s0.heap.size + k]? = some cell ∧ cell.vm.isStatics = false ∧ s.vm.findClass R_MR = some cell.cls :=
  gw_recv hK hw (by rw [hk]; decide) (by rw [hk]; rfl) rfl
theorem rv_Tr {s s0 : State} {D : va_G} {aC : Nat → ClassId} {M : gMem} {r : gRef} {ow : Int64} {H : Heap} {locs : List Loc} {k : Nat} (hK : va_K D gC (gTy aC) s) (hw : gWd s0 D aC M r ow H locs) (hk : k = 5) : ∃ cell : Cell, H[s0.heap.size + k]? = some cell ∧ cell.vm.isStatics = false ∧ s.vm.findClass R_Tr = some cell.cls :=
  gw_recv hK hw (by rw [hk]; decide) (by rw [hk]; rfl) rfl
theorem rv_FW {s s0 : State} {D : va_G} {aC : Nat → ClassId} {M : gMem} {r : gRef} {ow : Int64} {H : Heap} {locs : List Loc} {k : Nat} (hK : va_K D gC (gTy aC) s) (hw : gWd s0 D aC M r ow H locs) (hk : k = 376) : ∃ cell : Cell, H[s0.heap.size + k]? = some cell ∧ cell.vm.isStatics = false ∧ s.vm.findClass R_FW = some cell.cls :=
  gw_recv hK hw (by rw [hk]; decide) (by rw [hk]; rfl) rfl
theorem rv_SF {s s0 : State} {D : va_G} {aC : Nat → ClassId} {M : gMem} {r : gRef} {ow : Int64} {H : Heap} {locs : List Loc} {k : Nat} (hK : va_K D gC (gTy aC) s) (hw : gWd s0 D aC M r ow H locs) (hk : k = 382) : ∃ cell : Cell, H[s0.heap.size + k]? = some cell ∧ cell.vm.isStatics = false ∧ s.vm.findClass R_SF = some cell.cls :=
  gw_recv hK hw (by rw [hk]; decide) (by rw [hk]; rfl) rfl
theorem rv_Rd {s s0 : State} {D : va_G} {aC : Nat → ClassId} {M : gMem} {r : gRef} {ow : Int64} {H : Heap} {locs : List Loc} {k : Nat} (hK : va_K D gC (gTy aC) s) (hw : gWd s0 D aC M r ow H locs) (hk : k = 380) : ∃ cell : Cell, H[s0.heap.size + k]? = some cell ∧ cell.vm.isStatics = false ∧ s.vm.findClass R_Rd = some cell.cls :=
  gw_recv hK hw (by rw [hk]; decide) (by rw [hk]; rfl) rfl
theorem rv_Mo {s s0 : State} {D : va_G} {aC : Nat → ClassId} {M : gMem} {r : gRef} {ow : Int64} {H : Heap} {locs : List Loc} {k : Nat} (hK : va_K D gC (gTy aC) s) (hw : gWd s0 D aC M r ow H locs) (hk : k = 383) : ∃ cell : Cell, H[s0.heap.size + k]? = some cell ∧ cell.vm.isStatics = false ∧ s.vm.findClass R_Mo = some cell.cls :=
  gw_recv hK hw (by rw [hk]; decide) (by rw [hk]; rfl) rfl
