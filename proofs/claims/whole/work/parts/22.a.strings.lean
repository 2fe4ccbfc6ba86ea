/-! The string constants, and the JDK's own methods that are called on them -/
def gA (s0 : State) : Nat → Prop := fun q => s0.heap.size ≤ q
def gStr (s0 : State) (q : Nat) (L : List Int32) (U : State) (H : Heap) : Prop := ∃ v : Nat, va_O "java/lang/String" q (gA s0) U H ∧ va_OF "java/lang/String" "coder" "B" (.int 0) q (gA s0) U H ∧ va_OF "java/lang/String" "value" "[B" (.ref v) q (gA s0) U H ∧ va_T .byte v L.length (fun j => .int (L.getD j 0)) (gA s0) U H
theorem gStr.now {s0 s : State} {q : Nat} {L : List Int32} {D : va_G} {aC : Nat → ClassId} {M : gMem} {r : gRef} {ow : Int64} {H : Heap} {locs : List Loc} (h : gStr s0 q L s0 s0.heap) (hW : s0.WarmedH s.vm) (hw : gWd s0 D aC M r ow H locs) : gStr s0 q L s H := by
  obtain ⟨v, h1, h2, h3, h4⟩ := h
  have k : ∀ a : Nat, a < s0.heap.size → ¬ gA s0 a → H[a]? = s0.heap[a]? := hw.2.2.1
  exact ⟨v, (va_O.moved hW.alike h1).kept k, (va_OF.moved hW.alike h2).kept k, (va_OF.moved hW.alike h3).kept k, (va_T.moved hW.alike h4).kept k⟩
def gSo : List String := ["MarkupReader$Reading", "MarkupReader$Reading", "MarkupReader$Tree", "MarkupReader$Reading", "MarkupReader$Reading", "MarkupReader$Reading", "MarkupReader$Reading", "MarkupReader$Reading", "MarkupReader$Reading", "MarkupReader$Reading", "MarkupReader$Reading", "MarkupReader$SpaceFinder", "MarkupReader$FormWriter", "MarkupReader$FormWriter", "MarkupReader$Reading", "MarkupReader$Reading", "MarkupReader$Reading", "MarkupReader$SpaceFinder", "MarkupReader$FormWriter", "MarkupReader$FormWriter", "MarkupReader$FormWriter", "MarkupReader$FormWriter", "MarkupReader$FormWriter"]
def gSk : List Nat := [143, 148, 86, 261, 263, 265, 267, 269, 271, 276, 194, 83, 138, 145, 292, 301, 303, 91, 75, 77, 79, 143, 69]
def gSa (s0 : State) (q : Nat) : Nat := match (Term.string (gSo.getD q "") (gSk.getD q 0)).eval #[] s0 none [] s0 with
  | some (.ref a) => a
  | _ => 0
theorem gS_of {s0 : State} {a0 : Array Value} {own tx : String} {k q : Nat} {L : List Int32} (hr : ∃ a : Nat, vk_R own k tx a s0) (ho : gSo.getD q "" = own) (hk : gSk.getD q 0 = k) (hl : L.length < 2 ^ 31)
    (hex : (Cond.exactly (.string own k) "java/lang/String").before a0 s0 = true) (hco : (Cond.eq (.field (.string own k) "java/lang/String" "coder" "B") (.int 0)).before a0 s0 = true) (har : (Cond.arrayOf (.field (.string own k) "java/lang/String" "value" "[B") .byte).before a0 s0 = true) (hle : (Cond.eq (.length (.field (.string own k) "java/lang/String" "value" "[B")) (.int (Int32.ofNat L.length))).before a0 s0 = true)
    (hel : ∀ j : Nat, j < L.length → (Cond.eq (.elem (.field (.string own k) "java/lang/String" "value" "[B") (.int (Int32.ofNat j))) (.int (L.getD j 0))).before a0 s0 = true) : vk_R own k tx (gSa s0 q) s0 ∧ gStr s0 (gSa s0 q) L s0 s0.heap := by
  have i0 : ∀ i : Nat, i < 1 → i = 0 := fun i h => by omega
  obtain ⟨adK, adV, hS, hE⟩ := vk_Sof (args := a0) (s := s0) (N := 1) (tm := fun _ => .string own k) (len := [L.length]) (byt := [L]) (A := gA s0) (fun i hi => by rw [i0 i hi]; exact hl) (fun _ _ => hex) (fun _ _ => hco) (fun _ _ => har) (fun i hi => by rw [i0 i hi]; exact hle) (fun i hi j hj => by rw [i0 i hi] at hj ⊢; exact hel j hj) (fun i j hi hj hne => absurd ((i0 i hi).trans (i0 j hj).symm) hne) (fun a h h2 => absurd h (Nat.not_lt.mpr h2))
  have e1 : (Term.string own k).eval #[] s0 none [] s0 = some (.ref (adK 0)) := hE 0 (by decide)
  have e2 : gSa s0 q = adK 0 := by unfold gSa; rw [ho, hk, e1]
  obtain ⟨a, ha⟩ := hr
  have e3 : a = adK 0 := by have := ha.2.symm.trans e1; injection this with this; injection this
  rw [e2]
  refine ⟨e3 ▸ ha, adV 0, ?_⟩
  exact hS.1 0 (by decide)
theorem gS_0 {s0 : State} {a0 : Array Value} (F : gF s0 a0) : vk_R R_Rd 143 "<!--" (gSa s0 0) s0 ∧ gStr s0 (gSa s0 0) [60, 33, 45, 45] s0 s0.heap :=
  gS_of (a0 := a0) (sx_Rd_143 F) rfl rfl (by decide) (F.2 _ (by decide +kernel)) (F.2 _ (by decide +kernel)) (F.2 _ (by decide +kernel)) (F.2 _ (by decide +kernel)) (fun j hj => F.2 _ ((by decide +kernel : ∀ j : Nat, j < 4 → Cond.eq (.elem (.field (.string "MarkupReader$Reading" 143) "java/lang/String" "value" "[B") (.int (Int32.ofNat j))) (.int (([60, 33, 45, 45] : List Int32).getD j 0)) ∈ flatC (Jvm.Cond.and given_1 narrow_1)) j hj))
theorem gS_1 {s0 : State} {a0 : Array Value} (F : gF s0 a0) : vk_R R_Rd 148 "-->" (gSa s0 1) s0 ∧ gStr s0 (gSa s0 1) [45, 45, 62] s0 s0.heap :=
  gS_of (a0 := a0) (sx_Rd_148 F) rfl rfl (by decide) (F.2 _ (by decide +kernel)) (F.2 _ (by decide +kernel)) (F.2 _ (by decide +kernel)) (F.2 _ (by decide +kernel)) (fun j hj => F.2 _ ((by decide +kernel : ∀ j : Nat, j < 3 → Cond.eq (.elem (.field (.string "MarkupReader$Reading" 148) "java/lang/String" "value" "[B") (.int (Int32.ofNat j))) (.int (([45, 45, 62] : List Int32).getD j 0)) ∈ flatC (Jvm.Cond.and given_1 narrow_1)) j hj))
theorem gS_2 {s0 : State} {a0 : Array Value} (F : gF s0 a0) : vk_R R_Tr 86 "xmlns" (gSa s0 2) s0 ∧ gStr s0 (gSa s0 2) [120, 109, 108, 110, 115] s0 s0.heap :=
  gS_of (a0 := a0) (sx_Tr_86 F) rfl rfl (by decide) (F.2 _ (by decide +kernel)) (F.2 _ (by decide +kernel)) (F.2 _ (by decide +kernel)) (F.2 _ (by decide +kernel)) (fun j hj => F.2 _ ((by decide +kernel : ∀ j : Nat, j < 5 → Cond.eq (.elem (.field (.string "MarkupReader$Tree" 86) "java/lang/String" "value" "[B") (.int (Int32.ofNat j))) (.int (([120, 109, 108, 110, 115] : List Int32).getD j 0)) ∈ flatC (Jvm.Cond.and given_1 narrow_1)) j hj))
theorem gS_3 {s0 : State} {a0 : Array Value} (F : gF s0 a0) : vk_R R_Rd 261 "&lt;" (gSa s0 3) s0 ∧ gStr s0 (gSa s0 3) [38, 108, 116, 59] s0 s0.heap :=
  gS_of (a0 := a0) (sx_Rd_261 F) rfl rfl (by decide) (F.2 _ (by decide +kernel)) (F.2 _ (by decide +kernel)) (F.2 _ (by decide +kernel)) (F.2 _ (by decide +kernel)) (fun j hj => F.2 _ ((by decide +kernel : ∀ j : Nat, j < 4 → Cond.eq (.elem (.field (.string "MarkupReader$Reading" 261) "java/lang/String" "value" "[B") (.int (Int32.ofNat j))) (.int (([38, 108, 116, 59] : List Int32).getD j 0)) ∈ flatC (Jvm.Cond.and given_1 narrow_1)) j hj))
theorem gS_4 {s0 : State} {a0 : Array Value} (F : gF s0 a0) : vk_R R_Rd 263 "&gt;" (gSa s0 4) s0 ∧ gStr s0 (gSa s0 4) [38, 103, 116, 59] s0 s0.heap :=
  gS_of (a0 := a0) (sx_Rd_263 F) rfl rfl (by decide) (F.2 _ (by decide +kernel)) (F.2 _ (by decide +kernel)) (F.2 _ (by decide +kernel)) (F.2 _ (by decide +kernel)) (fun j hj => F.2 _ ((by decide +kernel : ∀ j : Nat, j < 4 → Cond.eq (.elem (.field (.string "MarkupReader$Reading" 263) "java/lang/String" "value" "[B") (.int (Int32.ofNat j))) (.int (([38, 103, 116, 59] : List Int32).getD j 0)) ∈ flatC (Jvm.Cond.and given_1 narrow_1)) j hj))
theorem gS_5 {s0 : State} {a0 : Array Value} (F : gF s0 a0) : vk_R R_Rd 265 "&amp;" (gSa s0 5) s0 ∧ gStr s0 (gSa s0 5) [38, 97, 109, 112, 59] s0 s0.heap :=
  gS_of (a0 := a0) (sx_Rd_265 F) rfl rfl (by decide) (F.2 _ (by decide +kernel)) (F.2 _ (by decide +kernel)) (F.2 _ (by decide +kernel)) (F.2 _ (by decide +kernel)) (fun j hj => F.2 _ ((by decide +kernel : ∀ j : Nat, j < 5 → Cond.eq (.elem (.field (.string "MarkupReader$Reading" 265) "java/lang/String" "value" "[B") (.int (Int32.ofNat j))) (.int (([38, 97, 109, 112, 59] : List Int32).getD j 0)) ∈ flatC (Jvm.Cond.and given_1 narrow_1)) j hj))
theorem gS_6 {s0 : State} {a0 : Array Value} (F : gF s0 a0) : vk_R R_Rd 267 "&quot;" (gSa s0 6) s0 ∧ gStr s0 (gSa s0 6) [38, 113, 117, 111, 116, 59] s0 s0.heap :=
  gS_of (a0 := a0) (sx_Rd_267 F) rfl rfl (by decide) (F.2 _ (by decide +kernel)) (F.2 _ (by decide +kernel)) (F.2 _ (by decide +kernel)) (F.2 _ (by decide +kernel)) (fun j hj => F.2 _ ((by decide +kernel : ∀ j : Nat, j < 6 → Cond.eq (.elem (.field (.string "MarkupReader$Reading" 267) "java/lang/String" "value" "[B") (.int (Int32.ofNat j))) (.int (([38, 113, 117, 111, 116, 59] : List Int32).getD j 0)) ∈ flatC (Jvm.Cond.and given_1 narrow_1)) j hj))
theorem gS_7 {s0 : State} {a0 : Array Value} (F : gF s0 a0) : vk_R R_Rd 269 "&apos;" (gSa s0 7) s0 ∧ gStr s0 (gSa s0 7) [38, 97, 112, 111, 115, 59] s0 s0.heap :=
  gS_of (a0 := a0) (sx_Rd_269 F) rfl rfl (by decide) (F.2 _ (by decide +kernel)) (F.2 _ (by decide +kernel)) (F.2 _ (by decide +kernel)) (F.2 _ (by decide +kernel)) (fun j hj => F.2 _ ((by decide +kernel : ∀ j : Nat, j < 6 → Cond.eq (.elem (.field (.string "MarkupReader$Reading" 269) "java/lang/String" "value" "[B") (.int (Int32.ofNat j))) (.int (([38, 97, 112, 111, 115, 59] : List Int32).getD j 0)) ∈ flatC (Jvm.Cond.and given_1 narrow_1)) j hj))
theorem gS_8 {s0 : State} {a0 : Array Value} (F : gF s0 a0) : vk_R R_Rd 271 "&#x" (gSa s0 8) s0 ∧ gStr s0 (gSa s0 8) [38, 35, 120] s0 s0.heap :=
  gS_of (a0 := a0) (sx_Rd_271 F) rfl rfl (by decide) (F.2 _ (by decide +kernel)) (F.2 _ (by decide +kernel)) (F.2 _ (by decide +kernel)) (F.2 _ (by decide +kernel)) (fun j hj => F.2 _ ((by decide +kernel : ∀ j : Nat, j < 3 → Cond.eq (.elem (.field (.string "MarkupReader$Reading" 271) "java/lang/String" "value" "[B") (.int (Int32.ofNat j))) (.int (([38, 35, 120] : List Int32).getD j 0)) ∈ flatC (Jvm.Cond.and given_1 narrow_1)) j hj))
theorem gS_9 {s0 : State} {a0 : Array Value} (F : gF s0 a0) : vk_R R_Rd 276 "&#" (gSa s0 9) s0 ∧ gStr s0 (gSa s0 9) [38, 35] s0 s0.heap :=
  gS_of (a0 := a0) (sx_Rd_276 F) rfl rfl (by decide) (F.2 _ (by decide +kernel)) (F.2 _ (by decide +kernel)) (F.2 _ (by decide +kernel)) (F.2 _ (by decide +kernel)) (fun j hj => F.2 _ ((by decide +kernel : ∀ j : Nat, j < 2 → Cond.eq (.elem (.field (.string "MarkupReader$Reading" 276) "java/lang/String" "value" "[B") (.int (Int32.ofNat j))) (.int (([38, 35] : List Int32).getD j 0)) ∈ flatC (Jvm.Cond.and given_1 narrow_1)) j hj))
theorem gS_10 {s0 : State} {a0 : Array Value} (F : gF s0 a0) : vk_R R_Rd 194 "/" (gSa s0 10) s0 ∧ gStr s0 (gSa s0 10) [47] s0 s0.heap :=
  gS_of (a0 := a0) (sx_Rd_194 F) rfl rfl (by decide) (F.2 _ (by decide +kernel)) (F.2 _ (by decide +kernel)) (F.2 _ (by decide +kernel)) (F.2 _ (by decide +kernel)) (fun j hj => F.2 _ ((by decide +kernel : ∀ j : Nat, j < 1 → Cond.eq (.elem (.field (.string "MarkupReader$Reading" 194) "java/lang/String" "value" "[B") (.int (Int32.ofNat j))) (.int (([47] : List Int32).getD j 0)) ∈ flatC (Jvm.Cond.and given_1 narrow_1)) j hj))
theorem gS_11 {s0 : State} {a0 : Array Value} (F : gF s0 a0) : vk_R R_SF 83 "xml" (gSa s0 11) s0 ∧ gStr s0 (gSa s0 11) [120, 109, 108] s0 s0.heap :=
  gS_of (a0 := a0) (sx_SF_83 F) rfl rfl (by decide) (F.2 _ (by decide +kernel)) (F.2 _ (by decide +kernel)) (F.2 _ (by decide +kernel)) (F.2 _ (by decide +kernel)) (fun j hj => F.2 _ ((by decide +kernel : ∀ j : Nat, j < 3 → Cond.eq (.elem (.field (.string "MarkupReader$SpaceFinder" 83) "java/lang/String" "value" "[B") (.int (Int32.ofNat j))) (.int (([120, 109, 108] : List Int32).getD j 0)) ∈ flatC (Jvm.Cond.and given_1 narrow_1)) j hj))
theorem gS_12 {s0 : State} {a0 : Array Value} (F : gF s0 a0) : vk_R R_FW 138 "=\"" (gSa s0 12) s0 ∧ gStr s0 (gSa s0 12) [61, 34] s0 s0.heap :=
  gS_of (a0 := a0) (sx_FW_138 F) rfl rfl (by decide) (F.2 _ (by decide +kernel)) (F.2 _ (by decide +kernel)) (F.2 _ (by decide +kernel)) (F.2 _ (by decide +kernel)) (fun j hj => F.2 _ ((by decide +kernel : ∀ j : Nat, j < 2 → Cond.eq (.elem (.field (.string "MarkupReader$FormWriter" 138) "java/lang/String" "value" "[B") (.int (Int32.ofNat j))) (.int (([61, 34] : List Int32).getD j 0)) ∈ flatC (Jvm.Cond.and given_1 narrow_1)) j hj))
theorem gS_13 {s0 : State} {a0 : Array Value} (F : gF s0 a0) : vk_R R_FW 145 "&#xA;" (gSa s0 13) s0 ∧ gStr s0 (gSa s0 13) [38, 35, 120, 65, 59] s0 s0.heap :=
  gS_of (a0 := a0) (sx_FW_145 F) rfl rfl (by decide) (F.2 _ (by decide +kernel)) (F.2 _ (by decide +kernel)) (F.2 _ (by decide +kernel)) (F.2 _ (by decide +kernel)) (fun j hj => F.2 _ ((by decide +kernel : ∀ j : Nat, j < 5 → Cond.eq (.elem (.field (.string "MarkupReader$FormWriter" 145) "java/lang/String" "value" "[B") (.int (Int32.ofNat j))) (.int (([38, 35, 120, 65, 59] : List Int32).getD j 0)) ∈ flatC (Jvm.Cond.and given_1 narrow_1)) j hj))
theorem gS_14 {s0 : State} {a0 : Array Value} (F : gF s0 a0) : vk_R R_Rd 292 "</" (gSa s0 14) s0 ∧ gStr s0 (gSa s0 14) [60, 47] s0 s0.heap :=
  gS_of (a0 := a0) (sx_Rd_292 F) rfl rfl (by decide) (F.2 _ (by decide +kernel)) (F.2 _ (by decide +kernel)) (F.2 _ (by decide +kernel)) (F.2 _ (by decide +kernel)) (fun j hj => F.2 _ ((by decide +kernel : ∀ j : Nat, j < 2 → Cond.eq (.elem (.field (.string "MarkupReader$Reading" 292) "java/lang/String" "value" "[B") (.int (Int32.ofNat j))) (.int (([60, 47] : List Int32).getD j 0)) ∈ flatC (Jvm.Cond.and given_1 narrow_1)) j hj))
theorem gS_15 {s0 : State} {a0 : Array Value} (F : gF s0 a0) : vk_R R_Rd 301 "<![CDATA[" (gSa s0 15) s0 ∧ gStr s0 (gSa s0 15) [60, 33, 91, 67, 68, 65, 84, 65, 91] s0 s0.heap :=
  gS_of (a0 := a0) (sx_Rd_301 F) rfl rfl (by decide) (F.2 _ (by decide +kernel)) (F.2 _ (by decide +kernel)) (F.2 _ (by decide +kernel)) (F.2 _ (by decide +kernel)) (fun j hj => F.2 _ ((by decide +kernel : ∀ j : Nat, j < 9 → Cond.eq (.elem (.field (.string "MarkupReader$Reading" 301) "java/lang/String" "value" "[B") (.int (Int32.ofNat j))) (.int (([60, 33, 91, 67, 68, 65, 84, 65, 91] : List Int32).getD j 0)) ∈ flatC (Jvm.Cond.and given_1 narrow_1)) j hj))
theorem gS_16 {s0 : State} {a0 : Array Value} (F : gF s0 a0) : vk_R R_Rd 303 "]]>" (gSa s0 16) s0 ∧ gStr s0 (gSa s0 16) [93, 93, 62] s0 s0.heap :=
  gS_of (a0 := a0) (sx_Rd_303 F) rfl rfl (by decide) (F.2 _ (by decide +kernel)) (F.2 _ (by decide +kernel)) (F.2 _ (by decide +kernel)) (F.2 _ (by decide +kernel)) (fun j hj => F.2 _ ((by decide +kernel : ∀ j : Nat, j < 3 → Cond.eq (.elem (.field (.string "MarkupReader$Reading" 303) "java/lang/String" "value" "[B") (.int (Int32.ofNat j))) (.int (([93, 93, 62] : List Int32).getD j 0)) ∈ flatC (Jvm.Cond.and given_1 narrow_1)) j hj))
theorem gS_17 {s0 : State} {a0 : Array Value} (F : gF s0 a0) : vk_R R_SF 91 "xmlns" (gSa s0 17) s0 ∧ gStr s0 (gSa s0 17) [120, 109, 108, 110, 115] s0 s0.heap :=
  gS_of (a0 := a0) (sx_SF_91 F) rfl rfl (by decide) (F.2 _ (by decide +kernel)) (F.2 _ (by decide +kernel)) (F.2 _ (by decide +kernel)) (F.2 _ (by decide +kernel)) (fun j hj => F.2 _ ((by decide +kernel : ∀ j : Nat, j < 5 → Cond.eq (.elem (.field (.string "MarkupReader$SpaceFinder" 91) "java/lang/String" "value" "[B") (.int (Int32.ofNat j))) (.int (([120, 109, 108, 110, 115] : List Int32).getD j 0)) ∈ flatC (Jvm.Cond.and given_1 narrow_1)) j hj))
theorem gS_18 {s0 : State} {a0 : Array Value} (F : gF s0 a0) : vk_R R_FW 75 "&amp;" (gSa s0 18) s0 ∧ gStr s0 (gSa s0 18) [38, 97, 109, 112, 59] s0 s0.heap :=
  gS_of (a0 := a0) (sx_FW_75 F) rfl rfl (by decide) (F.2 _ (by decide +kernel)) (F.2 _ (by decide +kernel)) (F.2 _ (by decide +kernel)) (F.2 _ (by decide +kernel)) (fun j hj => F.2 _ ((by decide +kernel : ∀ j : Nat, j < 5 → Cond.eq (.elem (.field (.string "MarkupReader$FormWriter" 75) "java/lang/String" "value" "[B") (.int (Int32.ofNat j))) (.int (([38, 97, 109, 112, 59] : List Int32).getD j 0)) ∈ flatC (Jvm.Cond.and given_1 narrow_1)) j hj))
theorem gS_19 {s0 : State} {a0 : Array Value} (F : gF s0 a0) : vk_R R_FW 77 "&lt;" (gSa s0 19) s0 ∧ gStr s0 (gSa s0 19) [38, 108, 116, 59] s0 s0.heap :=
  gS_of (a0 := a0) (sx_FW_77 F) rfl rfl (by decide) (F.2 _ (by decide +kernel)) (F.2 _ (by decide +kernel)) (F.2 _ (by decide +kernel)) (F.2 _ (by decide +kernel)) (fun j hj => F.2 _ ((by decide +kernel : ∀ j : Nat, j < 4 → Cond.eq (.elem (.field (.string "MarkupReader$FormWriter" 77) "java/lang/String" "value" "[B") (.int (Int32.ofNat j))) (.int (([38, 108, 116, 59] : List Int32).getD j 0)) ∈ flatC (Jvm.Cond.and given_1 narrow_1)) j hj))
theorem gS_20 {s0 : State} {a0 : Array Value} (F : gF s0 a0) : vk_R R_FW 79 "&gt;" (gSa s0 20) s0 ∧ gStr s0 (gSa s0 20) [38, 103, 116, 59] s0 s0.heap :=
  gS_of (a0 := a0) (sx_FW_79 F) rfl rfl (by decide) (F.2 _ (by decide +kernel)) (F.2 _ (by decide +kernel)) (F.2 _ (by decide +kernel)) (F.2 _ (by decide +kernel)) (fun j hj => F.2 _ ((by decide +kernel : ∀ j : Nat, j < 4 → Cond.eq (.elem (.field (.string "MarkupReader$FormWriter" 79) "java/lang/String" "value" "[B") (.int (Int32.ofNat j))) (.int (([38, 103, 116, 59] : List Int32).getD j 0)) ∈ flatC (Jvm.Cond.and given_1 narrow_1)) j hj))
theorem gS_21 {s0 : State} {a0 : Array Value} (F : gF s0 a0) : vk_R R_FW 143 "&quot;" (gSa s0 21) s0 ∧ gStr s0 (gSa s0 21) [38, 113, 117, 111, 116, 59] s0 s0.heap :=
  gS_of (a0 := a0) (sx_FW_143 F) rfl rfl (by decide) (F.2 _ (by decide +kernel)) (F.2 _ (by decide +kernel)) (F.2 _ (by decide +kernel)) (F.2 _ (by decide +kernel)) (fun j hj => F.2 _ ((by decide +kernel : ∀ j : Nat, j < 6 → Cond.eq (.elem (.field (.string "MarkupReader$FormWriter" 143) "java/lang/String" "value" "[B") (.int (Int32.ofNat j))) (.int (([38, 113, 117, 111, 116, 59] : List Int32).getD j 0)) ∈ flatC (Jvm.Cond.and given_1 narrow_1)) j hj))
theorem gS_22 {s0 : State} {a0 : Array Value} (F : gF s0 a0) : vk_R R_FW 69 "</" (gSa s0 22) s0 ∧ gStr s0 (gSa s0 22) [60, 47] s0 s0.heap :=
  gS_of (a0 := a0) (sx_FW_69 F) rfl rfl (by decide) (F.2 _ (by decide +kernel)) (F.2 _ (by decide +kernel)) (F.2 _ (by decide +kernel)) (F.2 _ (by decide +kernel)) (fun j hj => F.2 _ ((by decide +kernel : ∀ j : Nat, j < 2 → Cond.eq (.elem (.field (.string "MarkupReader$FormWriter" 69) "java/lang/String" "value" "[B") (.int (Int32.ofNat j))) (.int (([60, 47] : List Int32).getD j 0)) ∈ flatC (Jvm.Cond.and given_1 narrow_1)) j hj))
theorem gS_str {s0 : State} {a0 : Array Value} (F : gF s0 a0) : ∀ q : Nat, q < gSn → gStr s0 (gSa s0 q) (gSt.getD q []) s0 s0.heap
  | 0, _ => (gS_0 F).2
  | 1, _ => (gS_1 F).2
  | 2, _ => (gS_2 F).2
  | 3, _ => (gS_3 F).2
  | 4, _ => (gS_4 F).2
  | 5, _ => (gS_5 F).2
  | 6, _ => (gS_6 F).2
  | 7, _ => (gS_7 F).2
  | 8, _ => (gS_8 F).2
  | 9, _ => (gS_9 F).2
  | 10, _ => (gS_10 F).2
  | 11, _ => (gS_11 F).2
  | 12, _ => (gS_12 F).2
  | 13, _ => (gS_13 F).2
  | 14, _ => (gS_14 F).2
  | 15, _ => (gS_15 F).2
  | 16, _ => (gS_16 F).2
  | 17, _ => (gS_17 F).2
  | 18, _ => (gS_18 F).2
  | 19, _ => (gS_19 F).2
  | 20, _ => (gS_20 F).2
  | 21, _ => (gS_21 F).2
  | 22, _ => (gS_22 F).2
  | q + 23, h => absurd h (Nat.not_lt.mpr (Nat.le_add_left 23 q))
theorem gSt_ok : ∀ q : Nat, q < gSn → ∀ j : Nat, j < (gSt.getD q []).length → iC ((gSt.getD q []).getD j 0 &&& 255) = (gSt.getD q []).getD j 0 ∧ ((gSt.getD q []).getD j 0 == 10 || (32 ≤ (gSt.getD q []).getD j 0 && (gSt.getD q []).getD j 0 ≤ 126)) = true := by decide +kernel
theorem gSt_len : ∀ q : Nat, q < gSn → (gSt.getD q []).length ≤ 9 := by decide +kernel
theorem gz_CS {s0 : State} {a0 : Array Value} (F : gF s0 a0) : va_Z "java/lang/String" "COMPACT_STRINGS" "Z" (.int 1) (gA s0) s0 s0.heap := va_Zof (args := a0) (F.1 _ (by decide +kernel)) (ki_St F.T) (va_eqi (F.2 _ (by decide +kernel))) (fun a h h2 => absurd h (Nat.not_lt.mpr h2))
theorem gz_ref {args : Array Value} {s : State} {t : Term} (h : (Cond.isRef t).before args s = true) : ∃ o : Option Nat, t.eval args s none [] s = some (va_rf o) := by
  cases hv : t.eval args s none [] s with
  | none => simp [Cond.before, Cond.holds, Cond.value, hv] at h
  | some w =>
    cases w with
    | null => exact ⟨none, rfl⟩
    | ref a => exact ⟨some a, rfl⟩
    | _ => simp [Cond.before, Cond.holds, Cond.value, hv] at h
theorem gz_SI {s0 : State} {a0 : Array Value} (F : gF s0 a0) : ∃ o : Option Nat, va_Z "jdk/internal/util/Preconditions" "SIOOBE_FORMATTER" "Ljava/util/function/BiFunction;" (va_rf o) (gA s0) s0 s0.heap := by
  obtain ⟨o, ho⟩ := gz_ref (F.2 (Cond.isRef (.static "jdk/internal/util/Preconditions" "SIOOBE_FORMATTER" "Ljava/util/function/BiFunction;")) (by decide +kernel))
  exact ⟨o, va_Zof (args := a0) (F.1 _ (by decide +kernel)) (ki_Pr F.T) ho (fun a h h2 => absurd h (Nat.not_lt.mpr h2))⟩
section GSR
variable {p : Program} {l : Launch} {e : Env} {R : Room} {s : State} {m : MethodId} {args : Array Value} {below : List Frame} {meth : Method} {c : Code} {H : Heap} {locs : List Loc} {cells slots : Nat} {Q : State → Prop}
variable {cc : ByteArray} {pc : Nat} {ls : Array Slot} {rest : List Value} {A : Nat → Prop}
theorem gs_getf (hexec : p.tables.exec = Jvm.exec) (hb : c.code = cc) {o n d own : String} {index q : Nat} {v : Value} (hE : va_OF o n d v q A s H) (hown : s.vm.findClass own = some m.cls) (hlink : (Cond.fieldLink own index o n d).before args s = true) (hdg : decode cc pc = .ok (.getfield index, 3))
    (kk : W p l e R s m args below meth c H locs cells slots Q (F0 m (pc + 3) ls (v :: rest))) : W p l e R s m args below meth c H locs cells slots Q (F0 m pc ls (.ref q :: rest)) := by
  obtain ⟨cf, k, fi, f, cell, h1, h2, h3, h4, h5, h6⟩ := hE
  exact W.getf hexec hb hown hlink h1 h2 h3 h4 (v := v) h5 rfl rfl hdg kk
theorem gs_gets (hexec : p.tables.exec = Jvm.exec) (hb : c.code = cc) {C n d own : String} {v : Value} {index : Nat} (hZ : va_Z C n d v A s H) (hown : s.vm.findClass own = some m.cls) (hlink : (Cond.fieldLink own index C n d).before args s = true) (hdg : decode cc pc = .ok (.getstatic index, 3))
    (kk : W p l e R s m args below meth c H locs cells slots Q (F0 m (pc + 3) ls (v :: rest))) : W p l e R s m args below meth c H locs cells slots Q (F0 m pc ls rest) := by
  obtain ⟨cf, kf, fi, f, a, cell, h1, h2, h3, h4, h5, h6, h7, h8⟩ := hZ
  exact W.gets hexec hb hown hlink h1 h2 h3 h4 h5 (fun e => by rw [e] at h6; cases h6) h7 rfl hdg kk
theorem gs_alen (hexec : p.tables.exec = Jvm.exec) (hb : c.code = cc) {ty : FieldType} {t N : Nat} {f : Nat → Value} (hT : va_T ty t N f A s H) (hdg : decode cc pc = .ok (.arraylength, 1))
    (kk : W p l e R s m args below meth c H locs cells slots Q (F0 m (pc + 1) ls (.int (Int32.ofNat N) :: rest))) : W p l e R s m args below meth c H locs cells slots Q (F0 m pc ls (.ref t :: rest)) := by
  obtain ⟨cell, h1, h2, h3, h4, h5, h6, h7⟩ := hT
  exact W.alen (n := Int32.ofNat N) hexec hb h1 h2 h5 rfl rfl hdg kk
theorem gs_bald (hexec : p.tables.exec = Jvm.exec) (hb : c.code = cc) {t N : Nat} {f : Nat → Value} (hT : va_T .byte t N f A s H) {i : Int32} (hin : vp_in i N) {v : Value} (hv : f i.toNatClampNeg = v) (hdg : decode cc pc = .ok (.baload, 1))
    (kk : W p l e R s m args below meth c H locs cells slots Q (F0 m (pc + 1) ls (v :: rest))) : W p l e R s m args below meth c H locs cells slots Q (F0 m pc ls (.int i :: .ref t :: rest)) := by
  obtain ⟨cell, h1, h2, h3, h4, h5, h6, h7⟩ := hT
  have hlt : i.toNatClampNeg < N := Nat.not_le.mp fun q => hin (Or.inr q)
  have hin' : ¬ (i < 0 ∨ cell.slots.size ≤ i.toNatClampNeg) := by
    intro q
    rcases q with q | q
    · exact hin (Or.inl q)
    · omega
  exact W.bald (v := v) hexec hb h1 h2 h3 hin' (by rw [h6 _ hlt, hv]) rfl rfl hdg kk
theorem gs_ldcw (hexec : p.tables.exec = Jvm.exec) (hb : c.code = cc) {own tx : String} {index q : Nat} (hown : s.vm.findClass own = some m.cls) (hZ : vk_R own index tx q s) (hdg : decode cc pc = .ok (.ldc_w index, 3))
    (k : W p l e R s m args below meth c H locs cells slots Q (F0 m (pc + 3) ls (.ref q :: rest))) : W p l e R s m args below meth c H locs cells slots Q (F0 m pc ls rest) := by
  intro T hT X
  obtain ⟨t, a1, b1⟩ := k T hT X
  refine ⟨t, ?_, b1⟩
  obtain ⟨kc, cf, i, a', hk, hcf, hcp, -, hr, hev'⟩ := Cond.stringRef_spec hown hZ.1
  cases hZ.2.symm.trans hev'
  obtain ⟨k', hk', he⟩ := X.warmed.alike.2.2 _ _ hk
  have hr' : k'.resolved[index]? = some (some (.string q)) := by
    rcases X.warmed.entry hk hk' index with h | ⟨h, -⟩
    · rw [h]; exact hr
    · rw [hr] at h; cases h
  have hdg' : decode c.code pc = .ok (.ldc_w index, 3) := by rw [hb]; exact hdg
  jvm_step X.here [hexec, hdg', ldc_w.wp_string (e := e) (s := T) (f := F0 m pc ls rest) X.here.top hk' (by rw [he]; exact hcf) hcp hr']
  exact a1
end GSR
section GLD
variable {p : Program} {l : Launch} {e : Env} {R : Room} {s s0 : State} {m : MethodId} {args : Array Value} {below : List Frame} {meth : Method} {c : Code} {H : Heap} {locs : List Loc} {cells slots : Nat} {Q : State → Prop}
variable {cc : ByteArray} {pc n : Nat} {ls : Array Slot} {rest : List Value} {D : va_G} {aC : Nat → ClassId} {a0 : Array Value} {ret : Option FieldType}
theorem gl_Rd_143 (B : gB s0 D aC p e s m meth c R_Rd cc n ret) (G : gG l s0 D aC a0) (hdg : decode cc pc = .ok (.ldc 143, 2)) (k : W p l e R s m args below meth c H locs cells slots Q (F0 m (pc + 2) ls (.ref (gSa s0 0) :: rest))) : W p l e R s m args below meth c H locs cells slots Q (F0 m pc ls rest) :=
  va_ldcS B.1 B.2.1 B.2.2.2.2.2.1 ((gS_0 G.2.1).1.warm B.2.2.2.2.2.2.2.2.1) hdg k
theorem gl_Rd_148 (B : gB s0 D aC p e s m meth c R_Rd cc n ret) (G : gG l s0 D aC a0) (hdg : decode cc pc = .ok (.ldc 148, 2)) (k : W p l e R s m args below meth c H locs cells slots Q (F0 m (pc + 2) ls (.ref (gSa s0 1) :: rest))) : W p l e R s m args below meth c H locs cells slots Q (F0 m pc ls rest) :=
  va_ldcS B.1 B.2.1 B.2.2.2.2.2.1 ((gS_1 G.2.1).1.warm B.2.2.2.2.2.2.2.2.1) hdg k
theorem gl_Tr_86 (B : gB s0 D aC p e s m meth c R_Tr cc n ret) (G : gG l s0 D aC a0) (hdg : decode cc pc = .ok (.ldc 86, 2)) (k : W p l e R s m args below meth c H locs cells slots Q (F0 m (pc + 2) ls (.ref (gSa s0 2) :: rest))) : W p l e R s m args below meth c H locs cells slots Q (F0 m pc ls rest) :=
  va_ldcS B.1 B.2.1 B.2.2.2.2.2.1 ((gS_2 G.2.1).1.warm B.2.2.2.2.2.2.2.2.1) hdg k
theorem gl_Rd_261 (B : gB s0 D aC p e s m meth c R_Rd cc n ret) (G : gG l s0 D aC a0) (hdg : decode cc pc = .ok (.ldc_w 261, 3)) (k : W p l e R s m args below meth c H locs cells slots Q (F0 m (pc + 3) ls (.ref (gSa s0 3) :: rest))) : W p l e R s m args below meth c H locs cells slots Q (F0 m pc ls rest) :=
  gs_ldcw B.1 B.2.1 B.2.2.2.2.2.1 ((gS_3 G.2.1).1.warm B.2.2.2.2.2.2.2.2.1) hdg k
theorem gl_Rd_263 (B : gB s0 D aC p e s m meth c R_Rd cc n ret) (G : gG l s0 D aC a0) (hdg : decode cc pc = .ok (.ldc_w 263, 3)) (k : W p l e R s m args below meth c H locs cells slots Q (F0 m (pc + 3) ls (.ref (gSa s0 4) :: rest))) : W p l e R s m args below meth c H locs cells slots Q (F0 m pc ls rest) :=
  gs_ldcw B.1 B.2.1 B.2.2.2.2.2.1 ((gS_4 G.2.1).1.warm B.2.2.2.2.2.2.2.2.1) hdg k
theorem gl_Rd_265 (B : gB s0 D aC p e s m meth c R_Rd cc n ret) (G : gG l s0 D aC a0) (hdg : decode cc pc = .ok (.ldc_w 265, 3)) (k : W p l e R s m args below meth c H locs cells slots Q (F0 m (pc + 3) ls (.ref (gSa s0 5) :: rest))) : W p l e R s m args below meth c H locs cells slots Q (F0 m pc ls rest) :=
  gs_ldcw B.1 B.2.1 B.2.2.2.2.2.1 ((gS_5 G.2.1).1.warm B.2.2.2.2.2.2.2.2.1) hdg k
theorem gl_Rd_267 (B : gB s0 D aC p e s m meth c R_Rd cc n ret) (G : gG l s0 D aC a0) (hdg : decode cc pc = .ok (.ldc_w 267, 3)) (k : W p l e R s m args below meth c H locs cells slots Q (F0 m (pc + 3) ls (.ref (gSa s0 6) :: rest))) : W p l e R s m args below meth c H locs cells slots Q (F0 m pc ls rest) :=
  gs_ldcw B.1 B.2.1 B.2.2.2.2.2.1 ((gS_6 G.2.1).1.warm B.2.2.2.2.2.2.2.2.1) hdg k
theorem gl_Rd_269 (B : gB s0 D aC p e s m meth c R_Rd cc n ret) (G : gG l s0 D aC a0) (hdg : decode cc pc = .ok (.ldc_w 269, 3)) (k : W p l e R s m args below meth c H locs cells slots Q (F0 m (pc + 3) ls (.ref (gSa s0 7) :: rest))) : W p l e R s m args below meth c H locs cells slots Q (F0 m pc ls rest) :=
  gs_ldcw B.1 B.2.1 B.2.2.2.2.2.1 ((gS_7 G.2.1).1.warm B.2.2.2.2.2.2.2.2.1) hdg k
theorem gl_Rd_271 (B : gB s0 D aC p e s m meth c R_Rd cc n ret) (G : gG l s0 D aC a0) (hdg : decode cc pc = .ok (.ldc_w 271, 3)) (k : W p l e R s m args below meth c H locs cells slots Q (F0 m (pc + 3) ls (.ref (gSa s0 8) :: rest))) : W p l e R s m args below meth c H locs cells slots Q (F0 m pc ls rest) :=
  gs_ldcw B.1 B.2.1 B.2.2.2.2.2.1 ((gS_8 G.2.1).1.warm B.2.2.2.2.2.2.2.2.1) hdg k
theorem gl_Rd_276 (B : gB s0 D aC p e s m meth c R_Rd cc n ret) (G : gG l s0 D aC a0) (hdg : decode cc pc = .ok (.ldc_w 276, 3)) (k : W p l e R s m args below meth c H locs cells slots Q (F0 m (pc + 3) ls (.ref (gSa s0 9) :: rest))) : W p l e R s m args below meth c H locs cells slots Q (F0 m pc ls rest) :=
  gs_ldcw B.1 B.2.1 B.2.2.2.2.2.1 ((gS_9 G.2.1).1.warm B.2.2.2.2.2.2.2.2.1) hdg k
theorem gl_Rd_194 (B : gB s0 D aC p e s m meth c R_Rd cc n ret) (G : gG l s0 D aC a0) (hdg : decode cc pc = .ok (.ldc 194, 2)) (k : W p l e R s m args below meth c H locs cells slots Q (F0 m (pc + 2) ls (.ref (gSa s0 10) :: rest))) : W p l e R s m args below meth c H locs cells slots Q (F0 m pc ls rest) :=
  va_ldcS B.1 B.2.1 B.2.2.2.2.2.1 ((gS_10 G.2.1).1.warm B.2.2.2.2.2.2.2.2.1) hdg k
theorem gl_SF_83 (B : gB s0 D aC p e s m meth c R_SF cc n ret) (G : gG l s0 D aC a0) (hdg : decode cc pc = .ok (.ldc 83, 2)) (k : W p l e R s m args below meth c H locs cells slots Q (F0 m (pc + 2) ls (.ref (gSa s0 11) :: rest))) : W p l e R s m args below meth c H locs cells slots Q (F0 m pc ls rest) :=
  va_ldcS B.1 B.2.1 B.2.2.2.2.2.1 ((gS_11 G.2.1).1.warm B.2.2.2.2.2.2.2.2.1) hdg k
theorem gl_FW_138 (B : gB s0 D aC p e s m meth c R_FW cc n ret) (G : gG l s0 D aC a0) (hdg : decode cc pc = .ok (.ldc 138, 2)) (k : W p l e R s m args below meth c H locs cells slots Q (F0 m (pc + 2) ls (.ref (gSa s0 12) :: rest))) : W p l e R s m args below meth c H locs cells slots Q (F0 m pc ls rest) :=
  va_ldcS B.1 B.2.1 B.2.2.2.2.2.1 ((gS_12 G.2.1).1.warm B.2.2.2.2.2.2.2.2.1) hdg k
theorem gl_FW_145 (B : gB s0 D aC p e s m meth c R_FW cc n ret) (G : gG l s0 D aC a0) (hdg : decode cc pc = .ok (.ldc 145, 2)) (k : W p l e R s m args below meth c H locs cells slots Q (F0 m (pc + 2) ls (.ref (gSa s0 13) :: rest))) : W p l e R s m args below meth c H locs cells slots Q (F0 m pc ls rest) :=
  va_ldcS B.1 B.2.1 B.2.2.2.2.2.1 ((gS_13 G.2.1).1.warm B.2.2.2.2.2.2.2.2.1) hdg k
theorem gl_Rd_292 (B : gB s0 D aC p e s m meth c R_Rd cc n ret) (G : gG l s0 D aC a0) (hdg : decode cc pc = .ok (.ldc_w 292, 3)) (k : W p l e R s m args below meth c H locs cells slots Q (F0 m (pc + 3) ls (.ref (gSa s0 14) :: rest))) : W p l e R s m args below meth c H locs cells slots Q (F0 m pc ls rest) :=
  gs_ldcw B.1 B.2.1 B.2.2.2.2.2.1 ((gS_14 G.2.1).1.warm B.2.2.2.2.2.2.2.2.1) hdg k
theorem gl_Rd_301 (B : gB s0 D aC p e s m meth c R_Rd cc n ret) (G : gG l s0 D aC a0) (hdg : decode cc pc = .ok (.ldc_w 301, 3)) (k : W p l e R s m args below meth c H locs cells slots Q (F0 m (pc + 3) ls (.ref (gSa s0 15) :: rest))) : W p l e R s m args below meth c H locs cells slots Q (F0 m pc ls rest) :=
  gs_ldcw B.1 B.2.1 B.2.2.2.2.2.1 ((gS_15 G.2.1).1.warm B.2.2.2.2.2.2.2.2.1) hdg k
theorem gl_Rd_303 (B : gB s0 D aC p e s m meth c R_Rd cc n ret) (G : gG l s0 D aC a0) (hdg : decode cc pc = .ok (.ldc_w 303, 3)) (k : W p l e R s m args below meth c H locs cells slots Q (F0 m (pc + 3) ls (.ref (gSa s0 16) :: rest))) : W p l e R s m args below meth c H locs cells slots Q (F0 m pc ls rest) :=
  gs_ldcw B.1 B.2.1 B.2.2.2.2.2.1 ((gS_16 G.2.1).1.warm B.2.2.2.2.2.2.2.2.1) hdg k
theorem gl_SF_91 (B : gB s0 D aC p e s m meth c R_SF cc n ret) (G : gG l s0 D aC a0) (hdg : decode cc pc = .ok (.ldc 91, 2)) (k : W p l e R s m args below meth c H locs cells slots Q (F0 m (pc + 2) ls (.ref (gSa s0 17) :: rest))) : W p l e R s m args below meth c H locs cells slots Q (F0 m pc ls rest) :=
  va_ldcS B.1 B.2.1 B.2.2.2.2.2.1 ((gS_17 G.2.1).1.warm B.2.2.2.2.2.2.2.2.1) hdg k
theorem gl_FW_75 (B : gB s0 D aC p e s m meth c R_FW cc n ret) (G : gG l s0 D aC a0) (hdg : decode cc pc = .ok (.ldc 75, 2)) (k : W p l e R s m args below meth c H locs cells slots Q (F0 m (pc + 2) ls (.ref (gSa s0 18) :: rest))) : W p l e R s m args below meth c H locs cells slots Q (F0 m pc ls rest) :=
  va_ldcS B.1 B.2.1 B.2.2.2.2.2.1 ((gS_18 G.2.1).1.warm B.2.2.2.2.2.2.2.2.1) hdg k
theorem gl_FW_77 (B : gB s0 D aC p e s m meth c R_FW cc n ret) (G : gG l s0 D aC a0) (hdg : decode cc pc = .ok (.ldc 77, 2)) (k : W p l e R s m args below meth c H locs cells slots Q (F0 m (pc + 2) ls (.ref (gSa s0 19) :: rest))) : W p l e R s m args below meth c H locs cells slots Q (F0 m pc ls rest) :=
  va_ldcS B.1 B.2.1 B.2.2.2.2.2.1 ((gS_19 G.2.1).1.warm B.2.2.2.2.2.2.2.2.1) hdg k
theorem gl_FW_79 (B : gB s0 D aC p e s m meth c R_FW cc n ret) (G : gG l s0 D aC a0) (hdg : decode cc pc = .ok (.ldc 79, 2)) (k : W p l e R s m args below meth c H locs cells slots Q (F0 m (pc + 2) ls (.ref (gSa s0 20) :: rest))) : W p l e R s m args below meth c H locs cells slots Q (F0 m pc ls rest) :=
  va_ldcS B.1 B.2.1 B.2.2.2.2.2.1 ((gS_20 G.2.1).1.warm B.2.2.2.2.2.2.2.2.1) hdg k
theorem gl_FW_143 (B : gB s0 D aC p e s m meth c R_FW cc n ret) (G : gG l s0 D aC a0) (hdg : decode cc pc = .ok (.ldc 143, 2)) (k : W p l e R s m args below meth c H locs cells slots Q (F0 m (pc + 2) ls (.ref (gSa s0 21) :: rest))) : W p l e R s m args below meth c H locs cells slots Q (F0 m pc ls rest) :=
  va_ldcS B.1 B.2.1 B.2.2.2.2.2.1 ((gS_21 G.2.1).1.warm B.2.2.2.2.2.2.2.2.1) hdg k
theorem gl_FW_69 (B : gB s0 D aC p e s m meth c R_FW cc n ret) (G : gG l s0 D aC a0) (hdg : decode cc pc = .ok (.ldc 69, 2)) (k : W p l e R s m args below meth c H locs cells slots Q (F0 m (pc + 2) ls (.ref (gSa s0 22) :: rest))) : W p l e R s m args below meth c H locs cells slots Q (F0 m pc ls rest) :=
  va_ldcS B.1 B.2.1 B.2.2.2.2.2.1 ((gS_22 G.2.1).1.warm B.2.2.2.2.2.2.2.2.1) hdg k
end GLD
theorem rv_St {p : Program} {l : Launch} {e : Env} {s s0 : State} {m : MethodId} {meth : Method} {c : Code} {cls : String} {cc : ByteArray} {n : Nat} {ret : Option FieldType} {D : va_G} {aC : Nat → ClassId} {a0 : Array Value} {M : gMem} {r : gRef} {ow : Int64} {H : Heap} {locs : List Loc} {q : Nat} (G : gG l s0 D aC a0) (B : gB s0 D aC p e s m meth c cls cc n ret) (hw : gWd s0 D aC M r ow H locs) (hq : q < gSn) : ∃ cell : Cell, H[gSa s0 q]? = some cell ∧ cell.vm.isStatics = false ∧ s.vm.findClass R_St = some cell.cls := by
  obtain ⟨v, ⟨cell, h1, h2, h3, -⟩, -⟩ := (gS_str G.2.1 q hq).now B.2.2.2.2.2.2.2.2.1 hw
  exact ⟨cell, h1, h2, h3⟩
