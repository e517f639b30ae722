/-! the code words of the tables, by their places -/
set_option maxRecDepth 1000000 in
theorem k_CW_ok0 : k_MR_0.map (fun q => lw_tbl[q.2.1]?) = k_MR_0.map (fun q => some (Cond.code (MT q.1).1 (MT q.1).2.1 (MT q.1).2.2.1 (MT q.1).2.2.2)) := by rfl
set_option maxRecDepth 1000000 in
theorem k_CW_ok1 : k_MR_1.map (fun q => lw_tbl[q.2.1]?) = k_MR_1.map (fun q => some (Cond.code (MT q.1).1 (MT q.1).2.1 (MT q.1).2.2.1 (MT q.1).2.2.2)) := by rfl
set_option maxRecDepth 1000000 in
theorem k_CW_ok2 : k_MR_2.map (fun q => lw_tbl[q.2.1]?) = k_MR_2.map (fun q => some (Cond.code (MT q.1).1 (MT q.1).2.1 (MT q.1).2.2.1 (MT q.1).2.2.2)) := by rfl
set_option maxRecDepth 1000000 in
theorem k_CW_ok3 : k_MR_3.map (fun q => lw_tbl[q.2.1]?) = k_MR_3.map (fun q => some (Cond.code (MT q.1).1 (MT q.1).2.1 (MT q.1).2.2.1 (MT q.1).2.2.2)) := by rfl
set_option maxRecDepth 1000000 in
theorem k_CW_ok4 : k_MR_4.map (fun q => lw_tbl[q.2.1]?) = k_MR_4.map (fun q => some (Cond.code (MT q.1).1 (MT q.1).2.1 (MT q.1).2.2.1 (MT q.1).2.2.2)) := by rfl
set_option maxRecDepth 1000000 in
theorem k_CW_ok5 : k_MR_5.map (fun q => lw_tbl[q.2.1]?) = k_MR_5.map (fun q => some (Cond.code (MT q.1).1 (MT q.1).2.1 (MT q.1).2.2.1 (MT q.1).2.2.2)) := by rfl
theorem k_code_in {q : Nat × Nat × Nat × Nat × Nat × Nat} (h : q ∈ k_MR) : Cond.code (MT q.1).1 (MT q.1).2.1 (MT q.1).2.2.1 (MT q.1).2.2.2 ∈ TT := by
  have hw : lw_tbl[q.2.1]? = some (Cond.code (MT q.1).1 (MT q.1).2.1 (MT q.1).2.2.1 (MT q.1).2.2.2) := by
    simp only [k_MR, List.mem_append] at h
    rcases h with h | h
    · exact (List.map_inj_left.mp k_CW_ok0) q h
    rcases h with h | h
    · exact (List.map_inj_left.mp k_CW_ok1) q h
    rcases h with h | h
    · exact (List.map_inj_left.mp k_CW_ok2) q h
    rcases h with h | h
    · exact (List.map_inj_left.mp k_CW_ok3) q h
    rcases h with h | h
    · exact (List.map_inj_left.mp k_CW_ok4) q h
    exact (List.map_inj_left.mp k_CW_ok5) q h
  exact List.mem_filter.mpr ⟨List.mem_of_getElem? hw, rfl⟩
