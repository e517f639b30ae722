/-! the board: cells by their numbers, their places, moves -/
def gX (w c : Int) : Int := c % w
def gY (w d c : Int) : Int := c / w % d
def gZ (w d c : Int) : Int := c / (w * d)
def ix (w d x y z : Int) : Int := z * (w * d) + y * w + x
abbrev okD (w d l : Int) : Prop := (2 ≤ w ∧ w ≤ 9) ∧ (2 ≤ d ∧ d ≤ 9) ∧ (1 ≤ l ∧ l ≤ 4)
abbrev inC (w d l c : Int) : Prop := 0 ≤ c ∧ c < w * d * l
theorem mb {a b A B : Int} (ha : 0 ≤ a ∧ a ≤ A) (hb : 0 ≤ b ∧ b ≤ B) : 0 ≤ a * b ∧ a * b ≤ A * B :=
  ⟨Int.mul_nonneg ha.1 hb.1, Int.mul_le_mul ha.2 hb.2 hb.1 (Int.le_trans ha.1 ha.2)⟩
theorem okD_floor {w d l : Int} (h : okD w d l) : 4 ≤ w * d ∧ w * d ≤ 81 := by
  obtain ⟨⟨h1, h2⟩, ⟨h3, h4⟩, -⟩ := h
  have a := mb (a := w) (b := d) (A := 9) (B := 9) ⟨by omega, h2⟩ ⟨by omega, h4⟩
  have b : 2 * 2 ≤ w * d := Int.mul_le_mul h1 h3 (by omega) (by omega)
  omega
theorem okD_cells {w d l : Int} (h : okD w d l) : 4 ≤ w * d * l ∧ w * d * l ≤ 324 := by
  have hf := okD_floor h
  obtain ⟨-, -, h5, h6⟩ := h
  have a := mb (a := w * d) (b := l) (A := 81) (B := 4) ⟨by omega, hf.2⟩ ⟨by omega, h6⟩
  have b : 4 * 1 ≤ w * d * l := Int.mul_le_mul hf.1 h5 (by omega) (by omega)
  omega
theorem ix_low {w d x y : Int} (hx : 0 ≤ x ∧ x < w) (hy : 0 ≤ y ∧ y < d) : 0 ≤ y * w + x ∧ y * w + x < w * d := by
  have h1 : 0 ≤ y * w := Int.mul_nonneg hy.1 (by omega)
  have h2 : (y + 1) * w ≤ d * w := Int.mul_le_mul_of_nonneg_right (by omega) (by omega)
  rw [Int.add_mul, Int.one_mul, Int.mul_comm d w] at h2
  omega
theorem ix_in {w d l x y z : Int} (hx : 0 ≤ x ∧ x < w) (hy : 0 ≤ y ∧ y < d) (hz : 0 ≤ z ∧ z < l) : inC w d l (ix w d x y z) := by
  have h := ix_low hx hy
  have hp : 0 ≤ w * d := by omega
  have h1 : 0 ≤ z * (w * d) := Int.mul_nonneg hz.1 hp
  have h2 : (z + 1) * (w * d) ≤ l * (w * d) := Int.mul_le_mul_of_nonneg_right (by omega) hp
  rw [Int.add_mul, Int.one_mul, Int.mul_comm l (w * d)] at h2
  unfold ix
  constructor <;> omega
theorem ix_X {w d x y z : Int} (hx : 0 ≤ x ∧ x < w) : gX w (ix w d x y z) = x := by
  unfold gX ix
  rw [show z * (w * d) + y * w + x = x + w * (z * d + y) by rw [Int.mul_add, Int.mul_comm w y, ← Int.mul_assoc w z d, Int.mul_comm w z, Int.mul_assoc z w d]; omega, Int.add_mul_emod_self_left]
  exact Int.emod_eq_of_lt hx.1 hx.2
theorem ix_Y {w d x y z : Int} (hx : 0 ≤ x ∧ x < w) (hy : 0 ≤ y ∧ y < d) : gY w d (ix w d x y z) = y := by
  unfold gY ix
  rw [show z * (w * d) + y * w + x = x + w * (z * d + y) by rw [Int.mul_add, Int.mul_comm w y, ← Int.mul_assoc w z d, Int.mul_comm w z, Int.mul_assoc z w d]; omega, Int.add_mul_ediv_left _ _ (by omega), Int.ediv_eq_zero_of_lt hx.1 hx.2]
  rw [show 0 + (z * d + y) = y + d * z by rw [Int.mul_comm z d]; omega, Int.add_mul_emod_self_left]
  exact Int.emod_eq_of_lt hy.1 hy.2
theorem ix_Z {w d x y z : Int} (hx : 0 ≤ x ∧ x < w) (hy : 0 ≤ y ∧ y < d) : gZ w d (ix w d x y z) = z := by
  have h := ix_low hx hy
  unfold gZ ix
  rw [show z * (w * d) + y * w + x = (y * w + x) + (w * d) * z by rw [Int.mul_comm z (w * d)]; omega, Int.add_mul_ediv_left _ _ (by omega), Int.ediv_eq_zero_of_lt h.1 h.2]
  omega
theorem gX_in {w d l c : Int} (hD : okD w d l) : 0 ≤ gX w c ∧ gX w c < w := ⟨Int.emod_nonneg _ (by omega), Int.emod_lt_of_pos _ (by omega)⟩
theorem gY_in {w d l c : Int} (hD : okD w d l) : 0 ≤ gY w d c ∧ gY w d c < d := ⟨Int.emod_nonneg _ (by omega), Int.emod_lt_of_pos _ (by omega)⟩
theorem gZ_in {w d l c : Int} (hD : okD w d l) (hc : inC w d l c) : 0 ≤ gZ w d c ∧ gZ w d c < l := by
  have hf := okD_floor hD
  refine ⟨Int.ediv_nonneg hc.1 (by omega), Int.ediv_lt_of_lt_mul (by omega) ?_⟩
  rw [Int.mul_comm]; exact hc.2
theorem ix_eta {w d l : Int} (hD : okD w d l) (c : Int) : ix w d (gX w c) (gY w d c) (gZ w d c) = c := by
  unfold ix gX gY gZ
  have h1 := Int.mul_ediv_add_emod c w
  have h2 := Int.mul_ediv_add_emod (c / w) d
  have h3 : c / (w * d) = c / w / d := by
    rw [Int.ediv_ediv]
    rw [if_neg (by omega)]; omega
  rw [h3]
  generalize c / w / d = q at *
  generalize c / w % d = r at *
  generalize c % w = x at *
  have h4 : q * (w * d) + r * w = w * (c / w) := by
    rw [← h2, Int.mul_add, Int.mul_comm r w, ← Int.mul_assoc w d q, Int.mul_comm q (w * d)]
  omega
/-- a cell is told by its places -/
theorem g_ext {w d l a b : Int} (hD : okD w d l) (h1 : gX w a = gX w b) (h2 : gY w d a = gY w d b) (h3 : gZ w d a = gZ w d b) : a = b := by
  rw [← ix_eta hD a, ← ix_eta hD b, h1, h2, h3]
def dX (k : Int) : Int := if k = 1 then 1 else if k = 3 then -1 else 0
def dY (k : Int) : Int := if k = 2 then 1 else if k = 0 then -1 else 0
def dZ (k : Int) : Int := if k = 4 then 1 else if k = 5 then -1 else 0
/-- the cell that a move leads to, or -1 -/
def nx (w d l c k : Int) : Int :=
  if (0 ≤ gX w c + dX k ∧ gX w c + dX k < w) ∧ (0 ≤ gY w d c + dY k ∧ gY w d c + dY k < d) ∧ (0 ≤ gZ w d c + dZ k ∧ gZ w d c + dZ k < l)
  then ix w d (gX w c + dX k) (gY w d c + dY k) (gZ w d c + dZ k) else -1
theorem nx_cases (w d l c k : Int) : nx w d l c k = -1 ∨ ((0 ≤ gX w c + dX k ∧ gX w c + dX k < w) ∧ (0 ≤ gY w d c + dY k ∧ gY w d c + dY k < d) ∧ (0 ≤ gZ w d c + dZ k ∧ gZ w d c + dZ k < l) ∧ nx w d l c k = ix w d (gX w c + dX k) (gY w d c + dY k) (gZ w d c + dZ k)) := by
  unfold nx
  split
  · rename_i h; exact Or.inr ⟨h.1, h.2.1, h.2.2, rfl⟩
  · exact Or.inl rfl
theorem nx_in {w d l c k : Int} (h : nx w d l c k ≠ -1) : inC w d l (nx w d l c k) ∧ gX w (nx w d l c k) = gX w c + dX k ∧ gY w d (nx w d l c k) = gY w d c + dY k ∧ gZ w d (nx w d l c k) = gZ w d c + dZ k := by
  rcases nx_cases w d l c k with h1 | ⟨h1, h2, h3, h4⟩
  · exact absurd h1 h
  · rw [h4]
    exact ⟨ix_in h1 h2 h3, ix_X h1, ix_Y h1 h2, ix_Z h1 h2⟩
theorem nx_ne {w d l c k : Int} (h : 0 ≤ nx w d l c k) : nx w d l c k ≠ -1 := by omega
theorem nx_val {w d l c k : Int} (h : nx w d l c k ≠ -1) (hD : okD w d l) : nx w d l c k = c + dX k + dY k * w + dZ k * (w * d) := by
  rcases nx_cases w d l c k with h1 | ⟨h1, h2, h3, h4⟩
  · exact absurd h1 h
  · rw [h4]
    have := ix_eta hD c
    unfold ix at *
    rw [Int.add_mul, Int.add_mul]
    omega
theorem nx_of {w d l c k : Int} (h : (0 ≤ gX w c + dX k ∧ gX w c + dX k < w) ∧ (0 ≤ gY w d c + dY k ∧ gY w d c + dY k < d) ∧ (0 ≤ gZ w d c + dZ k ∧ gZ w d c + dZ k < l)) : nx w d l c k ≠ -1 := by
  have h5 := ix_in h.1 h.2.1 h.2.2
  unfold nx
  rw [if_pos h]
  omega
theorem dX_opp (k : Int) (h : 0 ≤ k ∧ k < 6) : dX (oppF k) = -dX k ∧ dY (oppF k) = -dY k ∧ dZ (oppF k) = -dZ k ∧ 0 ≤ oppF k ∧ oppF k < 6 ∧ oppF (oppF k) = k := by
  have : ∀ i : Fin 6, dX (oppF (i.val : Int)) = -dX (i.val : Int) ∧ dY (oppF (i.val : Int)) = -dY (i.val : Int) ∧ dZ (oppF (i.val : Int)) = -dZ (i.val : Int) ∧ 0 ≤ oppF (i.val : Int) ∧ oppF (i.val : Int) < 6 ∧ oppF (oppF (i.val : Int)) = (i.val : Int) := by decide +kernel
  exact k_fin (P := fun k => dX (oppF k) = -dX k ∧ dY (oppF k) = -dY k ∧ dZ (oppF k) = -dZ k ∧ 0 ≤ oppF k ∧ oppF k < 6 ∧ oppF (oppF k) = k) this h.1 (by omega)
/-- a move back -/
theorem nx_opp {w d l c k : Int} (hD : okD w d l) (hc : inC w d l c) (hk : 0 ≤ k ∧ k < 6) (h : nx w d l c k ≠ -1) : nx w d l (nx w d l c k) (oppF k) = c := by
  obtain ⟨h1, h2, h3, h4⟩ := nx_in h
  obtain ⟨o1, o2, o3, -⟩ := dX_opp k hk
  have hx := gX_in (c := c) hD
  have hy := gY_in (c := c) hD
  have hz := gZ_in hD hc
  have hn : nx w d l (nx w d l c k) (oppF k) ≠ -1 := nx_of ⟨by rw [h2, o1]; omega, by rw [h3, o2]; omega, by rw [h4, o3]; omega⟩
  obtain ⟨-, g2, g3, g4⟩ := nx_in hn
  exact g_ext hD (by rw [g2, h2, o1]; omega) (by rw [g3, h3, o2]; omega) (by rw [g4, h4, o3]; omega)
