theorem c_X12_in (X : Xv) (m : Mem) (v lo hi : Int) : kCall (eX X) 1 M_X12_in.1 [vI v, vI lo, vI hi] m (fun r m' => r = some (vI (if lo ≤ v ∧ v ≤ hi then 1 else 0)) ∧ m' = m) := by
  refine kCall_of ok_X12_in rfl (by decide) ?_
  refine kW_go ok_X12_in [] 10 ?_
  refine And.intro (fun h1 => ?_) (fun h1 => ?_)
  · trace_state
    sorry
  · sorry
theorem c_X12_in2 (X : Xv) (m : Mem) (v lo hi : Int) : kCall (eX X) 1 M_X12_in.1 [vI v, vI lo, vI hi] m (fun r m' => r = some (vI (if lo ≤ v ∧ v ≤ hi then 1 else 0)) ∧ m' = m) := by
  refine kCall_of ok_X12_in rfl (by decide) ?_
  refine kW_go ok_X12_in [] 10 ?_
  simp only [k_go, P_X12_in, k_exec, k_blk, k_get, k_int, k_bin, k_un, k_br, k_1, k_mem, k_T, List.map, List.replicate, List.append, M_X12_in]
  trace_state
  sorry
