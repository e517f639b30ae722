/-! the reference's small methods -/
abbrev cP (z : Int) (m : Mem) : Option AV → Mem → Prop := fun r m' => r = some (vI z) ∧ m' = m
def b2i (p : Prop) [Decidable p] : Int := if p then 1 else 0
theorem b2i_t {p : Prop} [Decidable p] (h : p) : b2i p = 1 := by simp [b2i, h]
theorem b2i_f {p : Prop} [Decidable p] (h : ¬ p) : b2i p = 0 := by simp [b2i, h]
theorem c_X12_in (E : Ev) (m : Mem) (v lo hi : Int) : kCall E 1 M_X12_in.1 [vI v, vI lo, vI hi] m (cP (b2i (lo ≤ v ∧ v ≤ hi)) m) := by
  refine kCall_of ok_X12_in rfl (Nat.le_of_ble_eq_true rfl) ?_
  refine kW_go ok_X12_in [] 10 ?_
  refine And.intro (fun h1 => ?_) (fun h1 => And.intro (fun h2 => ?_) (fun h2 => ?_))
  · rw [b2i_f (by omega)]
    exact ⟨Or.inl rfl, rfl, rfl⟩
  · rw [b2i_f (by omega)]
    exact ⟨Or.inl rfl, rfl, rfl⟩
  · rw [b2i_t (by omega)]
    exact ⟨Or.inr rfl, rfl, rfl⟩
theorem c_X12_within (E : Ev) (m : Mem) (v lo hi : Int) : kCall E 1 M_X12_within.1 [vI v, vI lo, vI hi] m (cP (max lo (min hi v)) m) := by
  refine kCall_of ok_X12_within rfl (Nat.le_of_ble_eq_true rfl) ?_
  refine kW_go ok_X12_within [] 10 ?_
  exact ⟨rfl, rfl⟩
theorem c_X12_cell (E : Ev) (m : Mem) (x y l : Int) (hx : 0 ≤ x ∧ x ≤ 100) (hy : 0 ≤ y ∧ y ≤ 100) (hl : 0 ≤ l ∧ l ≤ 100) : kCall E 1 M_X12_cell.1 [vI x, vI y, vI l] m (cP (81 * l + 9 * y + x) m) := by
  refine kCall_of ok_X12_cell rfl (Nat.le_of_ble_eq_true rfl) ?_
  refine kW_go ok_X12_cell [] 10 ?_
  refine ⟨by omega, by omega, by omega, by omega, ?_⟩
  exact ⟨rfl, rfl⟩
theorem c_X12_xOf (E : Ev) (m : Mem) (c : Int) (hc : 0 ≤ c) : kCall E 1 M_X12_xOf.1 [vI c] m (cP (c % 9) m) := by
  refine kCall_of ok_X12_xOf rfl (Nat.le_of_ble_eq_true rfl) ?_
  refine kW_go ok_X12_xOf [] 10 ?_
  refine ⟨by decide, ?_⟩
  rw [← Int.tmod_eq_emod_of_nonneg hc]
  exact ⟨rfl, rfl⟩
theorem c_X12_yOf (E : Ev) (m : Mem) (c : Int) (hc : 0 ≤ c) (hc2 : c ≤ 2147483647) : kCall E 1 M_X12_yOf.1 [vI c] m (cP (c / 9 % 9) m) := by
  refine kCall_of ok_X12_yOf rfl (Nat.le_of_ble_eq_true rfl) ?_
  refine kW_go ok_X12_yOf [] 10 ?_
  have h1 : c.tdiv 9 = c / 9 := Int.tdiv_eq_ediv_of_nonneg hc
  refine ⟨by decide, by rw [h1]; constructor <;> omega, by decide, ?_⟩
  rw [← Int.tmod_eq_emod_of_nonneg (by omega : 0 ≤ c / 9), ← h1]
  exact ⟨rfl, rfl⟩
theorem c_X12_layerOf (E : Ev) (m : Mem) (c : Int) (hc : 0 ≤ c) (hc2 : c ≤ 2147483647) : kCall E 1 M_X12_layerOf.1 [vI c] m (cP (c / 81) m) := by
  refine kCall_of ok_X12_layerOf rfl (Nat.le_of_ble_eq_true rfl) ?_
  refine kW_go ok_X12_layerOf [] 10 ?_
  have h1 : c.tdiv 81 = c / 81 := Int.tdiv_eq_ediv_of_nonneg hc
  refine ⟨by decide, by rw [h1]; constructor <;> omega, ?_⟩
  rw [← h1]
  exact ⟨rfl, rfl⟩
/-- the reference's own numbers of the board -/
def dimM (m : Mem) (w d l : Int) : Prop := fld m 54 1 = w ∧ fld m 54 2 = d ∧ fld m 54 3 = l ∧ (2 ≤ w ∧ w ≤ 9) ∧ (2 ≤ d ∧ d ≤ 9) ∧ (1 ≤ l ∧ l ≤ 4)
theorem c_X12_isCell (X : Xv) (m : Mem) {w d l : Int} (hd : dimM m w d l) (x y z : Int) : kCall (eX X) 2 M_X12_isCell.1 [vR 54, vI x, vI y, vI z] m (cP (b2i ((0 ≤ x ∧ x < w) ∧ (0 ≤ y ∧ y < d) ∧ (0 ≤ z ∧ z < l))) m) := by
  obtain ⟨hw, hdd, hl, h1, h2, h3⟩ := hd
  refine kCall_of ok_X12_isCell rfl (Nat.le_of_ble_eq_true rfl) ?_
  refine kW_go ok_X12_isCell [] 10 ?_
  refine ⟨by rw [hw]; omega, ?_⟩
  refine kCall_mono (c_X12_in (eX X) m x 0 (fld m 54 1 - 1)) (Nat.le_refl _) ?_
  rintro _ _ ⟨rfl, rfl⟩
  refine And.intro (fun g1 => ?_) (fun g1 => ⟨by rw [hdd]; omega, ?_⟩)
  · rw [b2i_f (by intro q; rw [b2i_t (by omega)] at g1; cases g1)]
    exact ⟨Or.inl rfl, rfl, rfl⟩
  refine kCall_mono (c_X12_in (eX X) _ y 0 (fld _ 54 2 - 1)) (Nat.le_refl _) ?_
  rintro _ _ ⟨rfl, rfl⟩
  refine And.intro (fun g2 => ?_) (fun g2 => ⟨by rw [hl]; omega, ?_⟩)
  · rw [b2i_f (by intro q; rw [b2i_t (by omega)] at g2; cases g2)]
    exact ⟨Or.inl rfl, rfl, rfl⟩
  refine kCall_mono (c_X12_in (eX X) _ z 0 (fld _ 54 3 - 1)) (Nat.le_refl _) ?_
  rintro _ _ ⟨rfl, rfl⟩
  refine And.intro (fun g3 => ?_) (fun g3 => ?_)
  · rw [b2i_f (by intro q; rw [b2i_t (by omega)] at g3; cases g3)]
    exact ⟨Or.inl rfl, rfl, rfl⟩
  · have e1 : 0 ≤ x ∧ x ≤ fld _ 54 1 - 1 := Decidable.byContradiction (fun q => g1 (b2i_f q))
    have e2 : 0 ≤ y ∧ y ≤ fld _ 54 2 - 1 := Decidable.byContradiction (fun q => g2 (b2i_f q))
    have e3 : 0 ≤ z ∧ z ≤ fld _ 54 3 - 1 := Decidable.byContradiction (fun q => g3 (b2i_f q))
    rw [b2i_t (by omega)]
    exact ⟨Or.inr rfl, rfl, rfl⟩
