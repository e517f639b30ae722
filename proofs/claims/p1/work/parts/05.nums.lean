/-! whole numbers as the machine has them -/
abbrev inR (x : Int) : Prop := -2147483648 ≤ x ∧ x ≤ 2147483647
def w32 (x : Int) : Int := (x + 2147483648) % 4294967296 - 2147483648
theorem k_toInt (x : Int) : (Int32.ofInt x).toInt = w32 x := by
  rw [Int32.toInt_ofInt]
  unfold w32
  simp only [Int32.size, Int.bmod]
  split <;> omega
theorem w32_in (x : Int) : inR (w32 x) := by unfold w32; constructor <;> omega
theorem w32_id {x : Int} (h : inR x) : w32 x = x := by unfold w32; obtain ⟨h1, h2⟩ := h; omega
theorem k_toInt_in {x : Int} (h : inR x) : (Int32.ofInt x).toInt = x := by rw [k_toInt, w32_id h]
theorem k_ofInt_w (x : Int) : Int32.ofInt (w32 x) = Int32.ofInt x := by
  apply Int32.toInt_inj.mp
  rw [k_toInt, k_toInt, w32_id (w32_in x)]
theorem k_in_toInt (z : Int32) : inR z.toInt := by
  have h1 := Int32.le_toInt z
  have h2 := Int32.toInt_lt z
  constructor <;> omega
theorem k_ofInt_toInt (z : Int32) : Int32.ofInt z.toInt = z := Int32.ofInt_toInt z
theorem k_lt {x y : Int} (hx : inR x) (hy : inR y) : Int32.ofInt x < Int32.ofInt y ↔ x < y := by
  rw [Int32.lt_iff_toInt_lt, k_toInt_in hx, k_toInt_in hy]
theorem k_le {x y : Int} (hx : inR x) (hy : inR y) : Int32.ofInt x ≤ Int32.ofInt y ↔ x ≤ y := by
  rw [Int32.le_iff_toInt_le, k_toInt_in hx, k_toInt_in hy]
theorem k_eq {x y : Int} (hx : inR x) (hy : inR y) : Int32.ofInt x = Int32.ofInt y ↔ x = y := by
  constructor
  · intro h
    have := congrArg Int32.toInt h
    rwa [k_toInt_in hx, k_toInt_in hy] at this
  · intro h; rw [h]
theorem k_zero : Int32.ofInt 0 = 0 := by decide
theorem k_inR0 : inR 0 := by constructor <;> omega
def kand (x y : Int) : Int := (Int32.ofInt x &&& Int32.ofInt y).toInt
def kor (x y : Int) : Int := (Int32.ofInt x ||| Int32.ofInt y).toInt
def kxor (x y : Int) : Int := (Int32.ofInt x ^^^ Int32.ofInt y).toInt
def kshl (x y : Int) : Int := (Int32.ofInt x <<< (Int32.ofInt y &&& 31)).toInt
def kshr (x y : Int) : Int := (Int32.ofInt x >>> (Int32.ofInt y &&& 31)).toInt
def kushr (x y : Int) : Int := ((Int32.ofInt x).toUInt32 >>> ((Int32.ofInt y).toUInt32 &&& Int32.toUInt32 31)).toInt32.toInt
theorem k_clamp {x : Int} (h : inR x) : (Int32.ofInt x).toNatClampNeg = x.toNat := by
  show (Int32.ofInt x).toInt.toNat = x.toNat
  rw [k_toInt_in h]
theorem k_vpin {x : Int} {n : Nat} (hx : inR x) (h0 : 0 ≤ x) (h1 : x < n) : vp_in (Int32.ofInt x) n := by
  rw [vp_in_iff, k_toInt_in hx]; exact ⟨h0, h1⟩
theorem k_ofNat (n : Nat) : Int32.ofNat n = Int32.ofInt (n : Int) := by
  rfl
theorem k_div {x y : Int} (hx : inR x) (hy : inR y) : Int32.ofInt x / Int32.ofInt y = Int32.ofInt (x.tdiv y) := by
  apply Int32.toInt_inj.mp
  rw [Int32.toInt_div, k_toInt_in hx, k_toInt_in hy, Int32.toInt_ofInt]
theorem k_rem {x y : Int} (hx : inR x) (hy : inR y) : Int32.ofInt x - Int32.ofInt x / Int32.ofInt y * Int32.ofInt y = Int32.ofInt (x.tmod y) := by
  rw [k_div hx hy, ← Int32.ofInt_mul, ← Int32.ofInt_sub]
  congr 1
  have := Int.mul_tdiv_add_tmod x y
  rw [Int.mul_comm] at this
  omega
theorem k_tmod_in {x y : Int} (hx : inR x) (hy : inR y) (h0 : y ≠ 0) : inR (x.tmod y) := by
  rw [Int.tmod_eq_emod]
  obtain ⟨a, b⟩ := hx
  obtain ⟨c, d⟩ := hy
  have h1 := Int.emod_nonneg x h0
  have h2 := Int.emod_lt x h0
  split <;> constructor <;> omega
theorem k_ofInt_neg (x : Int) : -Int32.ofInt x = Int32.ofInt (-x) := by
  rw [← Int32.ofInt_neg]
