/-! Math.max, min, abs: links and words (written by wip/whole/gen04b.py) -/
def k_XN : Nat → MethodName := fun k => match k with
  | 0 => Lib.Math.max.name
  | 1 => Lib.Math.min.name
  | _ => Lib.Math.abs.name
def k_XR : List (Nat × Nat × Nat × Nat) := [(11, 253, 1, 175), (11, 256, 0, 178), (11, 171, 2, 780), (6, 83, 0, 822), (6, 98, 1, 832), (10, 126, 0, 1083), (9, 105, 0, 1343), (12, 3, 1, 1512), (12, 9, 0, 1513)]
def k_xchk (q : Nat × Nat × Nat × Nat) : Bool := match q with
  | (o, i, k, p) => k_at p (.methodLink (CN o) i (k_XN k))
theorem k_XR_ok : ∀ q ∈ k_XR, k_xchk q = true := List.all_eq_true.mp (by decide +kernel)
theorem k_xmax : Cond.static Lib.Math.max.name ∈ TT ∧ Cond.initialized "java/lang/Math" ∈ TT ∧ Cond.code Lib.Math.max.name Lib.Math.max.code 2 (some .int) ∈ TT := by
  refine ⟨k_at_in (p := 179) (by decide +kernel), k_at_in (p := 143) (by decide +kernel), ?_⟩
  have hm : (319, 180, 143, 0, 179, 9999) ∈ k_MR := by decide +kernel
  have := k_code_in hm
  have e1 : (MT 319).1 = Lib.Math.max.name := by decide +kernel
  have e2 : (MT 319).2.1 = Lib.Math.max.code := by decide +kernel
  have e3 : (MT 319).2.2.1 = 2 := by decide +kernel
  have e4 : (MT 319).2.2.2 = some .int := by decide +kernel
  simp only at this
  rw [e1, e2, e3, e4] at this
  exact this
theorem k_xmin : Cond.static Lib.Math.min.name ∈ TT ∧ Cond.initialized "java/lang/Math" ∈ TT ∧ Cond.code Lib.Math.min.name Lib.Math.min.code 2 (some .int) ∈ TT := by
  refine ⟨k_at_in (p := 176) (by decide +kernel), k_at_in (p := 143) (by decide +kernel), ?_⟩
  have hm : (320, 177, 143, 0, 176, 9999) ∈ k_MR := by decide +kernel
  have := k_code_in hm
  have e1 : (MT 320).1 = Lib.Math.min.name := by decide +kernel
  have e2 : (MT 320).2.1 = Lib.Math.min.code := by decide +kernel
  have e3 : (MT 320).2.2.1 = 2 := by decide +kernel
  have e4 : (MT 320).2.2.2 = some .int := by decide +kernel
  simp only at this
  rw [e1, e2, e3, e4] at this
  exact this
theorem k_xabs : Cond.static Lib.Math.abs.name ∈ TT ∧ Cond.initialized "java/lang/Math" ∈ TT ∧ Cond.code Lib.Math.abs.name Lib.Math.abs.code 1 (some .int) ∈ TT := by
  refine ⟨k_at_in (p := 781) (by decide +kernel), k_at_in (p := 143) (by decide +kernel), ?_⟩
  have hm : (318, 782, 143, 0, 781, 9999) ∈ k_MR := by decide +kernel
  have := k_code_in hm
  have e1 : (MT 318).1 = Lib.Math.abs.name := by decide +kernel
  have e2 : (MT 318).2.1 = Lib.Math.abs.code := by decide +kernel
  have e3 : (MT 318).2.2.1 = 1 := by decide +kernel
  have e4 : (MT 318).2.2.2 = some .int := by decide +kernel
  simp only at this
  rw [e1, e2, e3, e4] at this
  exact this
