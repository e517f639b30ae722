/-! the reference's cells -/
/-- the reference's number of a cell of the board -/
def cR (w d c : Int) : Int := 81 * gZ w d c + 9 * gY w d c + gX w c
theorem cR_geo {w d l c : Int} (hD : okD w d l) (hc : inC w d l c) : (0 ≤ cR w d c ∧ cR w d c < 324) ∧ cR w d c % 9 = gX w c ∧ cR w d c / 9 % 9 = gY w d c ∧ cR w d c / 81 = gZ w d c := by
  have h1 := gX_in (c := c) hD
  have h2 := gY_in (c := c) hD
  have h3 := gZ_in hD hc
  obtain ⟨⟨w1, w2⟩, ⟨d1, d2⟩, l1, l2⟩ := hD
  unfold cR
  omega
theorem cR_inj {w d l a b : Int} (hD : okD w d l) (ha : inC w d l a) (hb : inC w d l b) (h : cR w d a = cR w d b) : a = b := by
  have h1 := cR_geo hD ha
  have h2 := cR_geo hD hb
  rw [h] at h1
  exact g_ext hD (h1.2.1.symm.trans h2.2.1) (h1.2.2.1.symm.trans h2.2.2.1) (h1.2.2.2.symm.trans h2.2.2.2)
theorem cR_ix {w d l x y z : Int} (hx : 0 ≤ x ∧ x < w) (hy : 0 ≤ y ∧ y < d) : cR w d (ix w d x y z) = 81 * z + 9 * y + x := by
  unfold cR
  rw [ix_X hx, ix_Y hx hy, ix_Z hx hy]
/-- the cell of the board at a number of the reference -/
def cC (w d r : Int) : Int := ix w d (r % 9) (r / 9 % 9) (r / 81)
def inRf (w d l r : Int) : Prop := (0 ≤ r ∧ r < 324) ∧ r % 9 < w ∧ r / 9 % 9 < d ∧ r / 81 < l
theorem cC_in {w d l r : Int} (h : inRf w d l r) : inC w d l (cC w d r) ∧ cR w d (cC w d r) = r := by
  obtain ⟨⟨h1, h2⟩, h3, h4, h5⟩ := h
  unfold cC
  refine ⟨ix_in (by omega) (by omega) (by omega), ?_⟩
  rw [cR_ix (l := l) (by omega) (by omega)]
  omega
theorem cR_in {w d l c : Int} (hD : okD w d l) (hc : inC w d l c) : inRf w d l (cR w d c) ∧ cC w d (cR w d c) = c := by
  have h := cR_geo hD hc
  have h1 := gX_in (c := c) hD
  have h2 := gY_in (c := c) hD
  have h3 := gZ_in hD hc
  refine ⟨⟨h.1, by omega, by omega, by omega⟩, ?_⟩
  unfold cC
  rw [h.2.1, h.2.2.1, h.2.2.2]
  exact ix_eta hD c
/-- a move in the reference's numbers -/
def mR (w d l c k : Int) : Int := if nx w d l c k = -1 then -1 else cR w d (nx w d l c k)
theorem dX_eq (k : Int) : dX k = if k = 1 then 1 else if k = 3 then -1 else 0 := rfl
theorem dY_eq (k : Int) : dY k = if k = 2 then 1 else if k = 0 then -1 else 0 := rfl
theorem dZ_eq (k : Int) : dZ k = if k = 4 then 1 else if k = 5 then -1 else 0 := rfl
theorem c_X12_moved (X : Xv) (m : Mem) {w d l : Int} (hd : dimM m w d l) (c k : Int) (hc : inC w d l c) : kCall (eX X) 3 M_X12_moved.1 [vR 54, vI (cR w d c), vI k] m (cP (mR w d l c k) m) := by
  have hD : okD w d l := hd.2.2.2
  have hg := cR_geo hD hc
  have gx := gX_in (c := c) hD
  have gy := gY_in (c := c) hD
  have gz := gZ_in hD hc
  have bx : -1 ≤ dX k ∧ dX k ≤ 1 := by rw [dX_eq]; split <;> (try split) <;> decide
  have by' : -1 ≤ dY k ∧ dY k ≤ 1 := by rw [dY_eq]; split <;> (try split) <;> decide
  have bz : -1 ≤ dZ k ∧ dZ k ≤ 1 := by rw [dZ_eq]; split <;> (try split) <;> decide
  obtain ⟨⟨w1, w2⟩, ⟨d1, d2⟩, l1, l2⟩ := id hD
  refine kCall_ofT ok_X12_moved rfl (Nat.le_of_ble_eq_true rfl) (fun T hT => ?_)
  have p9 : kW (eX X) 2 M_X12_moved T 9 [some (vR 54), some (vI (cR w d c)), some (vI k), some (vI (gX w c + dX k)), some (vI (gY w d c + dY k)), none] [vI (dZ k), vI (gZ w d c)] m := by
    refine kW_go ok_X12_moved [] 20 ?_
    refine ⟨by constructor <;> omega, ?_⟩
    refine kCall_mono (c_X12_isCell X m hd _ _ _) (Nat.le_of_ble_eq_true rfl) ?_
    rintro _ m ⟨rfl, rfl⟩
    refine And.intro (fun h => ?_) (fun h => ?_)
    · have h := b2i_0.mp h
      refine hT _ _ ⟨?_, rfl⟩
      unfold mR nx
      rw [if_neg h, if_pos rfl]
    · have h := b2i_n.mp h
      refine kCall_mono (c_X12_cell _ m _ _ _ (by omega) (by omega) (by omega)) (Nat.le_of_ble_eq_true rfl) ?_
      rintro _ m ⟨rfl, rfl⟩
      refine hT _ _ ⟨?_, rfl⟩
      have hne := nx_of h
      have hi := nx_in hne
      unfold mR
      rw [if_neg hne]
      unfold cR
      rw [hi.2.1, hi.2.2.1, hi.2.2.2]
  have p6 : kW (eX X) 2 M_X12_moved T 6 [some (vR 54), some (vI (cR w d c)), some (vI k), some (vI (gX w c + dX k)), none, none] [vI (dY k), vI (gY w d c)] m := by
    refine kW_go ok_X12_moved [9] 20 ?_
    refine ⟨by constructor <;> omega, ?_⟩
    refine kCall_mono (c_X12_layerOf _ m _ hg.1.1 (by omega)) (Nat.le_of_ble_eq_true rfl) ?_
    rintro _ m ⟨rfl, rfl⟩
    rw [hg.2.2.2]
    refine And.intro (fun h4 => And.intro (fun h5 => ?_) (fun h5 => ?_)) (fun h4 => ?_)
    · rw [dZ_eq, if_neg h4, if_neg h5] at p9; exact p9
    · rw [dZ_eq, if_neg h4, if_pos h5] at p9; exact p9
    · rw [dZ_eq, if_pos h4] at p9; exact p9
  have p3 : kW (eX X) 2 M_X12_moved T 3 [some (vR 54), some (vI (cR w d c)), some (vI k), none, none, none] [vI (dX k), vI (gX w c)] m := by
    refine kW_go ok_X12_moved [6] 20 ?_
    refine ⟨by constructor <;> omega, ?_⟩
    refine kCall_mono (c_X12_yOf _ m _ hg.1.1 (by omega)) (Nat.le_of_ble_eq_true rfl) ?_
    rintro _ m ⟨rfl, rfl⟩
    rw [hg.2.2.1]
    refine And.intro (fun h4 => And.intro (fun h5 => ?_) (fun h5 => ?_)) (fun h4 => ?_)
    · rw [dY_eq, if_neg h4, if_neg h5] at p6; exact p6
    · rw [dY_eq, if_neg h4, if_pos h5] at p6; exact p6
    · rw [dY_eq, if_pos h4] at p6; exact p6
  refine kW_go ok_X12_moved [3] 20 ?_
  refine kCall_mono (c_X12_xOf _ m _ hg.1.1) (Nat.le_of_ble_eq_true rfl) ?_
  rintro _ m ⟨rfl, rfl⟩
  rw [hg.2.1]
  refine And.intro (fun h4 => And.intro (fun h5 => ?_) (fun h5 => ?_)) (fun h4 => ?_)
  · rw [dX_eq, if_neg h4, if_neg h5] at p3; exact p3
  · rw [dX_eq, if_neg h4, if_pos h5] at p3; exact p3
  · rw [dX_eq, if_pos h4] at p3; exact p3
