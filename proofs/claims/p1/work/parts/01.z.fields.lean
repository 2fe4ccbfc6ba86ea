theorem fw_MR {U : State} {a : Array Value} (h : gT U) : ∀ w ∈ u_ws R_MR F_MR 5, w.before a U = true := by
  intro w hw
  obtain ⟨k, hk, rfl⟩ := List.mem_map.mp hw
  have hk := List.mem_range.mp hk
  match k, hk with
  | 0, _ => exact kl_MR_typed h
  | 1, _ => exact kl_MR_kept h
  | 2, _ => exact kl_MR_tree h
  | 3, _ => exact kl_MR_writer h
  | 4, _ => exact kl_MR_reading h
  | k + 5, hk => exact absurd hk (by omega)
theorem fw_Row {U : State} {a : Array Value} (h : gT U) : ∀ w ∈ u_ws R_Row F_Row 2, w.before a U = true := by
  intro w hw
  obtain ⟨k, hk, rfl⟩ := List.mem_map.mp hw
  have hk := List.mem_range.mp hk
  match k, hk with
  | 0, _ => exact kl_Row_chars h
  | 1, _ => exact kl_Row_size h
  | k + 2, hk => exact absurd hk (by omega)
theorem fw_At {U : State} {a : Array Value} (h : gT U) : ∀ w ∈ u_ws R_At F_At 4, w.before a U = true := by
  intro w hw
  obtain ⟨k, hk, rfl⟩ := List.mem_map.mp hw
  have hk := List.mem_range.mp hk
  match k, hk with
  | 0, _ => exact kl_At_name h
  | 1, _ => exact kl_At_valueStart h
  | 2, _ => exact kl_At_valueEnd h
  | 3, _ => exact kl_At_isDeclaration h
  | k + 4, hk => exact absurd hk (by omega)
theorem fw_Nm {U : State} {a : Array Value} (h : gT U) : ∀ w ∈ u_ws R_Nm F_Nm 4, w.before a U = true := by
  intro w hw
  obtain ⟨k, hk, rfl⟩ := List.mem_map.mp hw
  have hk := List.mem_range.mp hk
  match k, hk with
  | 0, _ => exact kl_Nm_start h
  | 1, _ => exact kl_Nm_local h
  | 2, _ => exact kl_Nm_end h
  | 3, _ => exact kl_Nm_space h
  | k + 4, hk => exact absurd hk (by omega)
theorem fw_El {U : State} {a : Array Value} (h : gT U) : ∀ w ∈ u_ws R_El F_El 10, w.before a U = true := by
  intro w hw
  obtain ⟨k, hk, rfl⟩ := List.mem_map.mp hw
  have hk := List.mem_range.mp hk
  match k, hk with
  | 0, _ => exact kl_El_number h
  | 1, _ => exact kl_El_name h
  | 2, _ => exact kl_El_attributes h
  | 3, _ => exact kl_El_around h
  | 4, _ => exact kl_El_isEmpty h
  | 5, _ => exact kl_El_depth h
  | 6, _ => exact kl_El_elementsInside h
  | 7, _ => exact kl_El_attributeCount h
  | 8, _ => exact kl_El_declarationCount h
  | 9, _ => exact kl_El_ownCharacters h
  | k + 10, hk => exact absurd hk (by omega)
theorem fw_Tr {U : State} {a : Array Value} (h : gT U) : ∀ w ∈ u_ws R_Tr F_Tr 7, w.before a U = true := by
  intro w hw
  obtain ⟨k, hk, rfl⟩ := List.mem_map.mp hw
  have hk := List.mem_range.mp hk
  match k, hk with
  | 0, _ => exact kl_Tr_text h
  | 1, _ => exact kl_Tr_values h
  | 2, _ => exact kl_Tr_content h
  | 3, _ => exact kl_Tr_owners h
  | 4, _ => exact kl_Tr_elements h
  | 5, _ => exact kl_Tr_noDeclaration h
  | 6, _ => exact kl_Tr_size h
  | k + 7, hk => exact absurd hk (by omega)
theorem fw_FW {U : State} {a : Array Value} (h : gT U) : ∀ w ∈ u_ws R_FW F_FW 4, w.before a U = true := by
  intro w hw
  obtain ⟨k, hk, rfl⟩ := List.mem_map.mp hw
  have hk := List.mem_range.mp hk
  match k, hk with
  | 0, _ => exact kl_FW_tree h
  | 1, _ => exact kl_FW_form h
  | 2, _ => exact kl_FW_sorted h
  | 3, _ => exact kl_FW_sortedCount h
  | k + 4, hk => exact absurd hk (by omega)
theorem fw_SF {U : State} {a : Array Value} (h : gT U) : ∀ w ∈ u_ws R_SF F_SF 1, w.before a U = true := by
  intro w hw
  obtain ⟨k, hk, rfl⟩ := List.mem_map.mp hw
  have hk := List.mem_range.mp hk
  match k, hk with
  | 0, _ => exact kl_SF_tree h
  | k + 1, hk => exact absurd hk (by omega)
theorem fw_Rd {U : State} {a : Array Value} (h : gT U) : ∀ w ∈ u_ws R_Rd F_Rd 9, w.before a U = true := by
  intro w hw
  obtain ⟨k, hk, rfl⟩ := List.mem_map.mp hw
  have hk := List.mem_range.mp hk
  match k, hk with
  | 0, _ => exact kl_Rd_tree h
  | 1, _ => exact kl_Rd_writer h
  | 2, _ => exact kl_Rd_finder h
  | 3, _ => exact kl_Rd_text h
  | 4, _ => exact kl_Rd_endName h
  | 5, _ => exact kl_Rd_at h
  | 6, _ => exact kl_Rd_open h
  | 7, _ => exact kl_Rd_wrongReason h
  | 8, _ => exact kl_Rd_wrongPlace h
  | k + 9, hk => exact absurd hk (by omega)
theorem fw_Mo {U : State} {a : Array Value} (h : gT U) : ∀ w ∈ u_ws R_Mo F_Mo 34, w.before a U = true := by
  intro w hw
  obtain ⟨k, hk, rfl⟩ := List.mem_map.mp hw
  have hk := List.mem_range.mp hk
  match k, hk with
  | 0, _ => exact kl_Mo_thrown h
  | 1, _ => exact kl_Mo_typed h
  | 2, _ => exact kl_Mo_text h
  | 3, _ => exact kl_Mo_at h
  | 4, _ => exact kl_Mo_reason h
  | 5, _ => exact kl_Mo_place h
  | 6, _ => exact kl_Mo_tree h
  | 7, _ => exact kl_Mo_used h
  | 8, _ => exact kl_Mo_pool h
  | 9, _ => exact kl_Mo_elements h
  | 10, _ => exact kl_Mo_parents h
  | 11, _ => exact kl_Mo_nameFrom h
  | 12, _ => exact kl_Mo_nameSize h
  | 13, _ => exact kl_Mo_nameColon h
  | 14, _ => exact kl_Mo_namePlace h
  | 15, _ => exact kl_Mo_counts h
  | 16, _ => exact kl_Mo_from h
  | 17, _ => exact kl_Mo_size h
  | 18, _ => exact kl_Mo_colon h
  | 19, _ => exact kl_Mo_places h
  | 20, _ => exact kl_Mo_valueFrom h
  | 21, _ => exact kl_Mo_valueSize h
  | 22, _ => exact kl_Mo_events h
  | 23, _ => exact kl_Mo_happened h
  | 24, _ => exact kl_Mo_open h
  | 25, _ => exact kl_Mo_depth h
  | 26, _ => exact kl_Mo_formed h
  | 27, _ => exact kl_Mo_written h
  | 28, _ => exact kl_Mo_keeps h
  | 29, _ => exact kl_Mo_keptSize h
  | 30, _ => exact kl_Mo_keptForm h
  | 31, _ => exact kl_Mo_begun h
  | 32, _ => exact kl_Mo_long0 h
  | 33, _ => exact kl_Mo_colonAt h
  | k + 34, hk => exact absurd hk (by omega)
