/-! bits once more; FEED -/
theorem bt_ushr {a n : Int} (h0 : 0 ≤ n) (h1 : n < 32) (k : Nat) : bt (kushr a n) k = bt a (n.toNat + k) := by
  unfold kushr
  rw [bt_of]
  have amt : ∀ i : Fin 32, (UInt32.mod ((Int32.ofInt (i.val : Int)).toUInt32 &&& Int32.toUInt32 31) 32).toBitVec.toNat = i.val := by decide +kernel
  have h2 := amt ⟨n.toNat, by omega⟩
  simp only [Int.toNat_of_nonneg h0] at h2
  show ((Int32.ofInt a).toBitVec >>> (UInt32.mod ((Int32.ofInt n).toUInt32 &&& Int32.toUInt32 31) 32).toBitVec).getLsbD k = _
  rw [BitVec.ushiftRight_eq', h2, BitVec.getLsbD_ushiftRight]
  rfl
/-- a number without bits from n on -/
theorem k_lt_bits {v : Int} {n : Nat} (hv : inR v) (hn : n ≤ 31) (h : ∀ k, n ≤ k → k < 32 → bt v k = false) : 0 ≤ v ∧ v < ((2 ^ n : Nat) : Int) := by
  have e : v = ((Int32.ofInt v).toBitVec).toInt := (k_toInt_in hv).symm
  have hm : ((Int32.ofInt v).toBitVec).msb = false := by
    rw [BitVec.msb_eq_getLsbD_last]
    exact h 31 hn (by decide)
  rw [BitVec.toInt_eq_toNat_of_msb hm] at e
  have hl : ((Int32.ofInt v).toBitVec).toNat < 2 ^ n := by
    apply Nat.lt_pow_two_of_testBit
    intro i hi
    by_cases h32 : i < 32
    · rw [BitVec.testBit_toNat]
      exact h i hi h32
    · rw [BitVec.testBit_toNat]
      exact BitVec.getLsbD_of_ge _ _ (by omega)
  constructor
  · rw [e]; exact Int.natCast_nonneg _
  · rw [e]; exact_mod_cast hl
theorem bt_255 : ∀ k, k < 32 → bt 255 k = decide (k < 8) := by
  intro k hk
  have : ∀ i : Fin 32, bt 255 i.val = decide (i.val < 8) := by decide +kernel
  exact this ⟨k, hk⟩
theorem k_byte (z : Int) : 0 ≤ kand z 255 ∧ kand z 255 ≤ 255 := by
  have := k_lt_bits (n := 8) (k_in_kand z 255) (by decide) (fun k h1 h2 => by rw [bt_and, bt_255 k h2]; simp; omega)
  have e : ((2 ^ 8 : Nat) : Int) = 256 := by decide
  omega
theorem k_byte_sh {x s : Int} (h0 : 0 ≤ s) (h1 : s ≤ 24) : kand (kushr x s) 255 = kand (kshr x s) 255 := by
  refine bt_ext (k_in_kand _ _) (k_in_kand _ _) (fun k hk => ?_)
  rw [bt_and, bt_and, bt_ushr h0 (by omega), bt_shr h0 (by omega), bt_255 k hk]
  by_cases h8 : k < 8
  · have : s.toNat + k < 32 := by omega
    simp [h8, this]
    omega
  · simp [h8]
/-- bytes that are none of 0, and how they come to a row of bytes -/
def nzc (f : Nat → Int) : Nat → Int
  | 0 => 0
  | j + 1 => nzc f j + (if f j = 0 then 0 else 1)
def tkM (oa of : Nat) (fi : Int) (f : Nat → Int) : Nat → Mem → Mem
  | 0, m => m
  | j + 1, m => if f j = 0 then tkM oa of fi f j m else mset (mset (tkM oa of fi f j m) oa (tkM oa of fi f j m of fi) (f j)) of fi (tkM oa of fi f j m of fi + 1)
theorem nzc_in (f : Nat → Int) (j : Nat) : 0 ≤ nzc f j ∧ nzc f j ≤ j := by
  induction j with
  | zero =>
    show (0 : Int) ≤ 0 ∧ (0 : Int) ≤ ((0 : Nat) : Int)
    omega
  | succ j ih =>
    show 0 ≤ nzc f j + _ ∧ nzc f j + _ ≤ _
    split <;> omega
theorem nzc_mono (f : Nat → Int) {i j : Nat} (h : i ≤ j) : nzc f i ≤ nzc f j := by
  induction j with
  | zero => rw [show i = 0 by omega]; exact Int.le_refl _
  | succ j ih =>
    by_cases hi : i = j + 1
    · rw [hi]; exact Int.le_refl _
    · have := ih (by omega)
      show nzc f i ≤ nzc f j + _
      split <;> omega
theorem tkM_len {oa of : Nat} {fi : Int} (hne : of ≠ oa) (f : Nat → Int) (m : Mem) (j : Nat) : tkM oa of fi f j m of fi = m of fi + nzc f j := by
  induction j with
  | zero => show m of fi = m of fi + 0; omega
  | succ j ih =>
    show (if f j = 0 then tkM oa of fi f j m else _) of fi = m of fi + (nzc f j + _)
    split
    · rw [ih]; omega
    · rw [k_mset_at, if_pos rfl, ih]; omega
theorem tkM_ne {oa of o : Nat} {fi : Int} (h1 : o ≠ oa) (h2 : o ≠ of) (f : Nat → Int) (m : Mem) (j : Nat) : tkM oa of fi f j m o = m o := by
  induction j with
  | zero => rfl
  | succ j ih =>
    show (if f j = 0 then tkM oa of fi f j m else _) o = m o
    split
    · exact ih
    · rw [k_mset_ne h2, k_mset_ne h1]; exact ih
theorem tkM_fld {oa of : Nat} {fi i : Int} (hne : of ≠ oa) (hi : i ≠ fi) (f : Nat → Int) (m : Mem) (j : Nat) : tkM oa of fi f j m of i = m of i := by
  induction j with
  | zero => rfl
  | succ j ih =>
    show (if f j = 0 then tkM oa of fi f j m else _) of i = m of i
    split
    · exact ih
    · rw [k_mset_at, if_neg hi, k_mset_ne hne]; exact ih
theorem nzc_add (f : Nat → Int) (i j : Nat) : nzc f (i + j) = nzc f i + nzc (fun q => f (i + q)) j := by
  induction j with
  | zero => show nzc f i = nzc f i + 0; omega
  | succ j ih =>
    show nzc f (i + j) + (if f (i + j) = 0 then 0 else 1) = nzc f i + (nzc (fun q => f (i + q)) j + (if f (i + j) = 0 then 0 else 1))
    rw [ih]
    split <;> omega
theorem tkM_add (oa of : Nat) (fi : Int) (f : Nat → Int) (m : Mem) (i j : Nat) : tkM oa of fi f (i + j) m = tkM oa of fi (fun q => f (i + q)) j (tkM oa of fi f i m) := by
  induction j with
  | zero => rfl
  | succ j ih =>
    show (if f (i + j) = 0 then tkM oa of fi f (i + j) m else mset (mset (tkM oa of fi f (i + j) m) oa (tkM oa of fi f (i + j) m of fi) (f (i + j))) of fi (tkM oa of fi f (i + j) m of fi + 1)) = _
    rw [ih]
    rfl
theorem nzc_cong {f g : Nat → Int} {n : Nat} (h : ∀ j, j < n → f j = g j) : nzc f n = nzc g n := by
  induction n with
  | zero => rfl
  | succ n ih =>
    show nzc f n + (if f n = 0 then 0 else 1) = nzc g n + (if g n = 0 then 0 else 1)
    rw [ih (fun j hj => h j (by omega)), h n (by omega)]
theorem tkM_cong {oa of : Nat} {fi : Int} {f g : Nat → Int} {n : Nat} {m : Mem} (h : ∀ j, j < n → f j = g j) : tkM oa of fi f n m = tkM oa of fi g n m := by
  induction n with
  | zero => rfl
  | succ n ih =>
    show (if f n = 0 then tkM oa of fi f n m else mset (mset (tkM oa of fi f n m) oa (tkM oa of fi f n m of fi) (f n)) of fi (tkM oa of fi f n m of fi + 1)) = (if g n = 0 then tkM oa of fi g n m else mset (mset (tkM oa of fi g n m) oa (tkM oa of fi g n m of fi) (g n)) of fi (tkM oa of fi g n m of fi + 1))
    rw [ih (fun j hj => h j (by omega)), h n (by omega)]
def wB (x : Int) (j : Nat) : Int := kand (kushr x (24 - 8 * (j : Int))) 255
theorem c_X8_bytesIn (E : Ev) (m : Mem) (x : Int) : kCall E 1 M_X8_bytesIn.1 [vI x] m (cP (nzc (wB x) 4) m) := by
  refine kCall_ofT ok_X8_bytesIn rfl (Nat.le_of_ble_eq_true rfl) (fun T hT => ?_)
  have loop : ∀ (k j : Nat), j + k = 4 → kW E 0 M_X8_bytesIn T 1 [some (vI x), some (vI (nzc (wB x) j)), some (vI (24 - 8 * (j : Int)))] [] m := by
    intro k
    induction k with
    | zero =>
      intro j hj
      have : j = 4 := by omega
      subst this
      refine kW_go ok_X8_bytesIn [1] 20 ?_
      exact And.intro (fun _ => hT _ _ ⟨rfl, rfl⟩) (fun h => absurd h (by omega))
    | succ k ih =>
      intro j hj
      have hc := nzc_in (wB x) j
      have e : 24 - 8 * (j : Int) + -8 = 24 - 8 * ((j + 1 : Nat) : Int) := by omega
      have hn := ih (j + 1) (by omega)
      rw [← e] at hn
      refine kW_go ok_X8_bytesIn [1] 20 ?_
      refine And.intro (fun h => absurd h (by omega)) (fun _ => And.intro (fun h => ?_) (fun h => ?_))
      · have h : wB x j = 0 := h
        have e2 : nzc (wB x) (j + 1) = nzc (wB x) j := by show nzc (wB x) j + (if wB x j = 0 then 0 else 1) = _; rw [if_pos h]; omega
        rw [e2] at hn
        exact ⟨by constructor <;> omega, hn⟩
      · have h : ¬ wB x j = 0 := h
        have e2 : nzc (wB x) (j + 1) = nzc (wB x) j + 1 := by show nzc (wB x) j + (if wB x j = 0 then 0 else 1) = _; rw [if_neg h]
        rw [e2] at hn
        exact ⟨by constructor <;> omega, by constructor <;> omega, hn⟩
  refine kW_go ok_X8_bytesIn [1] 20 ?_
  exact loop 4 0 rfl
theorem c_X8_take (X : Xv) (m : Mem) (x : Int) (hl : 0 ≤ m 6 3 ∧ m 6 3 + nzc (wB x) 4 ≤ 80) : kCall (eX X) 1 M_X8_take.1 [vR 6, vI x] m (fun r m' => r = none ∧ m' = tkM 7 6 3 (wB x) 4 m) := by
  refine kCall_ofT ok_X8_take rfl (Nat.le_of_ble_eq_true rfl) (fun T hT => ?_)
  have loop : ∀ (k j : Nat) (x3 : Option AV), j + k = 4 → kW (eX X) 0 M_X8_take T 1 [some (vR 6), some (vI x), some (vI (24 - 8 * (j : Int))), x3] [] (tkM 7 6 3 (wB x) j m) := by
    intro k
    induction k with
    | zero =>
      intro j x3 hj
      have : j = 4 := by omega
      subst this
      refine kW_go ok_X8_take [1] 20 ?_
      exact And.intro (fun _ => hT _ _ ⟨rfl, rfl⟩) (fun h => absurd h (by omega))
    | succ k ih =>
      intro j x3 hj
      have hc := nzc_in (wB x) j
      have hm := nzc_mono (wB x) (show j + 1 ≤ 4 by omega)
      have hlen := tkM_len (oa := 7) (of := 6) (fi := 3) (by decide) (wB x) m j
      have e : 24 - 8 * (j : Int) + -8 = 24 - 8 * ((j + 1 : Nat) : Int) := by omega
      have hn := ih (j + 1) (some (vI (wB x j))) (by omega)
      rw [← e] at hn
      refine kW_go ok_X8_take [1] 20 ?_
      refine And.intro (fun h => absurd h (by omega)) (fun _ => And.intro (fun h => ?_) (fun h => ?_))
      · have h : wB x j = 0 := h
        have e2 : tkM 7 6 3 (wB x) (j + 1) m = tkM 7 6 3 (wB x) j m := by show (if wB x j = 0 then _ else _) = _; rw [if_pos h]
        rw [e2] at hn
        exact ⟨by constructor <;> omega, hn⟩
      · have h : ¬ wB x j = 0 := h
        have e2 : tkM 7 6 3 (wB x) (j + 1) m = mset (mset (tkM 7 6 3 (wB x) j m) 7 (tkM 7 6 3 (wB x) j m 6 3) (wB x j)) 6 3 (tkM 7 6 3 (wB x) j m 6 3 + 1) := by show (if wB x j = 0 then _ else _) = _; rw [if_neg h]
        have e3 : nzc (wB x) (j + 1) = nzc (wB x) j + 1 := by show nzc (wB x) j + (if wB x j = 0 then 0 else 1) = _; rw [if_neg h]
        rw [e2] at hn
        refine And.intro (fun h2 => ?_) (fun h2 => ?_)
        · have h2 : 80 ≤ tkM 7 6 3 (wB x) j m 6 3 := h2
          omega
        · refine ⟨⟨show 0 ≤ tkM 7 6 3 (wB x) j m 6 3 by omega, show tkM 7 6 3 (wB x) j m 6 3 < ((80 : Nat) : Int) by omega⟩, show inR (tkM 7 6 3 (wB x) j m 6 3 + 1) by constructor <;> omega, by constructor <;> omega, hn⟩
  refine kW_go ok_X8_take [1] 20 ?_
  exact loop 4 0 none rfl
def fdW (a b c d e : Int) (k : Nat) : Int := if k < 4 then a else if k < 8 then b else if k < 12 then c else if k < 16 then d else e
def fdB (a b c d e : Int) (k : Nat) : Int := wB (fdW a b c d e k) (k % 4)
theorem fdB_a (a b c d e : Int) : ∀ j, j < 4 → wB a j = fdB a b c d e j := by
  intro j hj
  unfold fdB fdW
  rw [if_pos hj, Nat.mod_eq_of_lt hj]
theorem fdB_b (a b c d e : Int) : ∀ j, j < 4 → wB b j = fdB a b c d e (4 + j) := by
  intro j hj
  unfold fdB fdW
  rw [if_neg (by omega), if_pos (by omega), show (4 + j) % 4 = j by omega]
theorem fdB_c (a b c d e : Int) : ∀ j, j < 4 → wB c j = fdB a b c d e (8 + j) := by
  intro j hj
  unfold fdB fdW
  rw [if_neg (by omega), if_neg (by omega), if_pos (by omega), show (8 + j) % 4 = j by omega]
theorem fdB_d (a b c d e : Int) : ∀ j, j < 4 → wB d j = fdB a b c d e (12 + j) := by
  intro j hj
  unfold fdB fdW
  rw [if_neg (by omega), if_neg (by omega), if_neg (by omega), if_pos (by omega), show (12 + j) % 4 = j by omega]
theorem fdB_e (a b c d e : Int) : ∀ j, j < 4 → wB e j = fdB a b c d e (16 + j) := by
  intro j hj
  unfold fdB fdW
  rw [if_neg (by omega), if_neg (by omega), if_neg (by omega), if_neg (by omega), show (16 + j) % 4 = j by omega]
theorem fdB_sum (a b c d e : Int) : nzc (wB a) 4 + nzc (wB b) 4 + nzc (wB c) 4 + nzc (wB d) 4 + nzc (wB e) 4 = nzc (fdB a b c d e) 20 := by
  rw [nzc_cong (fdB_a a b c d e), nzc_cong (fdB_b a b c d e), nzc_cong (fdB_c a b c d e), nzc_cong (fdB_d a b c d e), nzc_cong (fdB_e a b c d e)]
  rw [← nzc_add _ 4 4, ← nzc_add _ 8 4, ← nzc_add _ 12 4, ← nzc_add _ 16 4]
theorem fdB_mem (a b c d e : Int) (m : Mem) : tkM 7 6 3 (wB e) 4 (tkM 7 6 3 (wB d) 4 (tkM 7 6 3 (wB c) 4 (tkM 7 6 3 (wB b) 4 (tkM 7 6 3 (wB a) 4 m)))) = tkM 7 6 3 (fdB a b c d e) 20 m := by
  rw [tkM_cong (fdB_a a b c d e), tkM_cong (fdB_b a b c d e), tkM_cong (fdB_c a b c d e), tkM_cong (fdB_d a b c d e), tkM_cong (fdB_e a b c d e)]
  rw [← tkM_add _ _ _ _ _ 4 4, ← tkM_add _ _ _ _ _ 8 4, ← tkM_add _ _ _ _ _ 12 4, ← tkM_add _ _ _ _ _ 16 4]
theorem c_X11_feed (X : Xv) (m : Mem) (a b c d e : Int) (hl : 0 ≤ m 6 3 ∧ m 6 3 ≤ 80) : kCall (eX X) 3 M_X11_feed.1 [vR 0, vI a, vI b, vI c, vI d, vI e] m (fun r m' => (80 < m 6 3 + nzc (fdB a b c d e) 20 ∧ r = some (vI (-1)) ∧ m' = m) ∨ (m 6 3 + nzc (fdB a b c d e) 20 ≤ 80 ∧ r = some (vI (m 6 3 + nzc (fdB a b c d e) 20)) ∧ m' = tkM 7 6 3 (fdB a b c d e) 20 m)) := by
  have s0 := fdB_sum a b c d e
  have n1 := nzc_in (wB a) 4
  have n2 := nzc_in (wB b) 4
  have n3 := nzc_in (wB c) 4
  have n4 := nzc_in (wB d) 4
  have n5 := nzc_in (wB e) 4
  refine kCall_ofT ok_X11_feed rfl (Nat.le_of_ble_eq_true rfl) (fun T hT => ?_)
  refine kW_go ok_X11_feed [] 20 ?_
  refine kCall_mono (c_X8_bytesIn _ m a) (Nat.le_of_ble_eq_true rfl) ?_
  rintro _ m ⟨rfl, rfl⟩
  refine kCall_mono (c_X8_bytesIn _ m b) (Nat.le_of_ble_eq_true rfl) ?_
  rintro _ m ⟨rfl, rfl⟩
  refine ⟨by constructor <;> omega, ?_⟩
  refine kCall_mono (c_X8_bytesIn _ m c) (Nat.le_of_ble_eq_true rfl) ?_
  rintro _ m ⟨rfl, rfl⟩
  refine ⟨by constructor <;> omega, ?_⟩
  refine kCall_mono (c_X8_bytesIn _ m d) (Nat.le_of_ble_eq_true rfl) ?_
  rintro _ m ⟨rfl, rfl⟩
  refine ⟨by constructor <;> omega, ?_⟩
  refine kCall_mono (c_X8_bytesIn _ m e) (Nat.le_of_ble_eq_true rfl) ?_
  rintro _ m ⟨rfl, rfl⟩
  refine ⟨by constructor <;> omega, show inR (m 6 3 + (nzc (wB a) 4 + nzc (wB b) 4 + nzc (wB c) 4 + nzc (wB d) 4 + nzc (wB e) 4)) by constructor <;> omega, And.intro (fun h => ?_) (fun h => ?_)⟩
  · have h : m 6 3 + (nzc (wB a) 4 + nzc (wB b) 4 + nzc (wB c) 4 + nzc (wB d) 4 + nzc (wB e) 4) ≤ 80 := h
    rw [s0] at h
    have l1 := tkM_len (oa := 7) (of := 6) (fi := 3) (by decide) (wB a) m 4
    have l2 := tkM_len (oa := 7) (of := 6) (fi := 3) (by decide) (wB b) (tkM 7 6 3 (wB a) 4 m) 4
    have l3 := tkM_len (oa := 7) (of := 6) (fi := 3) (by decide) (wB c) (tkM 7 6 3 (wB b) 4 (tkM 7 6 3 (wB a) 4 m)) 4
    have l4 := tkM_len (oa := 7) (of := 6) (fi := 3) (by decide) (wB d) (tkM 7 6 3 (wB c) 4 (tkM 7 6 3 (wB b) 4 (tkM 7 6 3 (wB a) 4 m))) 4
    have l5 := tkM_len (oa := 7) (of := 6) (fi := 3) (by decide) (wB e) (tkM 7 6 3 (wB d) 4 (tkM 7 6 3 (wB c) 4 (tkM 7 6 3 (wB b) 4 (tkM 7 6 3 (wB a) 4 m)))) 4
    refine kCall_mono (c_X8_take X m a (by omega)) (Nat.le_of_ble_eq_true rfl) ?_
    rintro _ _ ⟨rfl, rfl⟩
    refine kCall_mono (c_X8_take X _ b (by omega)) (Nat.le_of_ble_eq_true rfl) ?_
    rintro _ _ ⟨rfl, rfl⟩
    refine kCall_mono (c_X8_take X _ c (by omega)) (Nat.le_of_ble_eq_true rfl) ?_
    rintro _ _ ⟨rfl, rfl⟩
    refine kCall_mono (c_X8_take X _ d (by omega)) (Nat.le_of_ble_eq_true rfl) ?_
    rintro _ _ ⟨rfl, rfl⟩
    refine kCall_mono (c_X8_take X _ e (by omega)) (Nat.le_of_ble_eq_true rfl) ?_
    rintro _ _ ⟨rfl, rfl⟩
    refine hT _ _ (Or.inr ⟨h, ?_, fdB_mem a b c d e m⟩)
    show some (vI (tkM 7 6 3 (wB e) 4 (tkM 7 6 3 (wB d) 4 (tkM 7 6 3 (wB c) 4 (tkM 7 6 3 (wB b) 4 (tkM 7 6 3 (wB a) 4 m)))) 6 3)) = _
    rw [l5, l4, l3, l2, l1, ← s0]
    congr 2
    omega
  · have h : 80 < m 6 3 + (nzc (wB a) 4 + nzc (wB b) 4 + nzc (wB c) 4 + nzc (wB d) 4 + nzc (wB e) 4) := h
    rw [s0] at h
    exact hT _ _ (Or.inl ⟨h, rfl, rfl⟩)
theorem c_X12_byteOf (E : Ev) (m : Mem) (a b c d e : Int) (k : Nat) (hk : k < 20) : kCall E 1 M_X12_byteOf.1 [vI a, vI b, vI c, vI d, vI e, vI (k : Int)] m (cP (fdB a b c d e k) m) := by
  refine kCall_ofT ok_X12_byteOf rfl (Nat.le_of_ble_eq_true rfl) (fun T hT => ?_)
  have em : ((k : Int)).tmod 4 = ((k % 4 : Nat) : Int) := by rw [Int.tmod_eq_emod_of_nonneg (by omega)]; omega
  have fin : ∀ (x : Int), fdW a b c d e k = x → kW E 0 M_X12_byteOf T 5 [some (vI a), some (vI b), some (vI c), some (vI d), some (vI e), some (vI (k : Int)), none] [vI x] m := by
    intro x hx
    refine kW_go ok_X12_byteOf [] 20 ?_
    show ¬ (4 : Int) = 0 ∧ inR (8 * (k : Int).tmod 4) ∧ inR (24 - 8 * (k : Int).tmod 4) ∧ T (some (vI (kand (kshr x (24 - 8 * (k : Int).tmod 4)) 255))) m
    rw [em]
    refine ⟨by decide, by constructor <;> omega, by constructor <;> omega, ?_⟩
    refine hT _ _ ⟨?_, rfl⟩
    unfold fdB wB
    rw [hx, k_byte_sh (by omega) (by omega)]
  refine kW_go ok_X12_byteOf [5] 20 ?_
  refine And.intro (fun h1 => And.intro (fun h2 => And.intro (fun h3 => And.intro (fun h4 => ?_) (fun h4 => ?_)) (fun h3 => ?_)) (fun h2 => ?_)) (fun h1 => ?_)
  · exact fin e (by unfold fdW; rw [if_neg (by omega), if_neg (by omega), if_neg (by omega), if_neg (by omega)])
  · exact fin d (by unfold fdW; rw [if_neg (by omega), if_neg (by omega), if_neg (by omega), if_pos (by omega)])
  · exact fin c (by unfold fdW; rw [if_neg (by omega), if_neg (by omega), if_pos (by omega)])
  · exact fin b (by unfold fdW; rw [if_neg (by omega), if_pos (by omega)])
  · exact fin a (by unfold fdW; rw [if_pos (by omega)])
theorem c_X12_feed (X : Xv) (m : Mem) (a b c d e : Int) (hl : 0 ≤ m 54 5 ∧ m 54 5 ≤ 80) : kCall (eX X) 3 M_X12_feed.1 [vR 54, vI a, vI b, vI c, vI d, vI e] m (fun r m' => (80 < m 54 5 + nzc (fdB a b c d e) 20 ∧ r = some (vI (-1)) ∧ m' = m) ∨ (m 54 5 + nzc (fdB a b c d e) 20 ≤ 80 ∧ r = some (vI (m 54 5 + nzc (fdB a b c d e) 20)) ∧ m' = tkM 55 54 5 (fdB a b c d e) 20 m)) := by
  refine kCall_ofT ok_X12_feed rfl (Nat.le_of_ble_eq_true rfl) (fun T hT => ?_)
  generalize hf : fdB a b c d e = f at hT ⊢
  have hby : ∀ (m : Mem) (k : Nat), k < 20 → kCall (eX X) 1 M_X12_byteOf.1 [vI a, vI b, vI c, vI d, vI e, vI (k : Int)] m (cP (f k) m) := fun m k hk => by rw [← hf]; exact c_X12_byteOf _ m a b c d e k hk
  have loop2 : ∀ (k j : Nat) (x8 : Option AV), j + k = 20 → m 54 5 + nzc f 20 ≤ 80 → kW (eX X) 2 M_X12_feed T 6 [some (vR 54), some (vI a), some (vI b), some (vI c), some (vI d), some (vI e), some (vI (nzc f 20)), some (vI (j : Int)), x8] [] (tkM 55 54 5 f j m) := by
    intro k
    induction k with
    | zero =>
      intro j x8 hj h80
      have : j = 20 := by omega
      subst this
      refine kW_go ok_X12_feed [6] 20 ?_
      refine And.intro (fun _ => ?_) (fun h => absurd h (by omega))
      refine hT _ _ (Or.inr ⟨h80, ?_, rfl⟩)
      show some (vI (tkM 55 54 5 f 20 m 54 5)) = _
      rw [tkM_len (by decide)]
    | succ k ih =>
      intro j x8 hj h80
      have hc := nzc_in f j
      have hm := nzc_mono f (show j + 1 ≤ 20 by omega)
      have hlen := tkM_len (oa := 55) (of := 54) (fi := 5) (by decide) f m j
      have hn := ih (j + 1) (some (vI (f j))) (by omega) h80
      rw [show ((j + 1 : Nat) : Int) = (j : Int) + 1 by omega] at hn
      refine kW_go ok_X12_feed [6] 20 ?_
      refine And.intro (fun h => absurd h (by omega)) (fun _ => ?_)
      refine kCall_mono (hby _ j (by omega)) (Nat.le_of_ble_eq_true rfl) ?_
      rintro _ _ ⟨rfl, rfl⟩
      refine And.intro (fun h => ?_) (fun h => ?_)
      · have h : f j = 0 := h
        have e2 : tkM 55 54 5 f (j + 1) m = tkM 55 54 5 f j m := by show (if f j = 0 then _ else _) = _; rw [if_pos h]
        rw [e2] at hn
        exact ⟨by constructor <;> omega, hn⟩
      · have h : ¬ f j = 0 := h
        have e2 : tkM 55 54 5 f (j + 1) m = mset (mset (tkM 55 54 5 f j m) 55 (tkM 55 54 5 f j m 54 5) (f j)) 54 5 (tkM 55 54 5 f j m 54 5 + 1) := by show (if f j = 0 then _ else _) = _; rw [if_neg h]
        have e3 : nzc f (j + 1) = nzc f j + 1 := by show nzc f j + (if f j = 0 then 0 else 1) = _; rw [if_neg h]
        rw [e2] at hn
        exact ⟨⟨show 0 ≤ tkM 55 54 5 f j m 54 5 by omega, show tkM 55 54 5 f j m 54 5 < ((80 : Nat) : Int) by omega⟩, show inR (tkM 55 54 5 f j m 54 5 + 1) by constructor <;> omega, by constructor <;> omega, hn⟩
  have loop1 : ∀ (k j : Nat), j + k = 20 → kW (eX X) 2 M_X12_feed T 1 [some (vR 54), some (vI a), some (vI b), some (vI c), some (vI d), some (vI e), some (vI (nzc f j)), some (vI (j : Int)), none] [] m := by
    intro k
    induction k with
    | zero =>
      intro j hj
      have : j = 20 := by omega
      subst this
      have hc := nzc_in f 20
      refine kW_go ok_X12_feed [1, 6] 20 ?_
      refine And.intro (fun _ => ?_) (fun h => absurd h (by omega))
      refine ⟨show inR (m 54 5 + nzc f 20) by constructor <;> omega, And.intro (fun h => ?_) (fun h => ?_)⟩
      · exact loop2 20 0 none rfl h
      · have h : 80 < m 54 5 + nzc f 20 := h
        exact hT _ _ (Or.inl ⟨h, rfl, rfl⟩)
    | succ k ih =>
      intro j hj
      have hc := nzc_in f j
      have hn := ih (j + 1) (by omega)
      rw [show ((j + 1 : Nat) : Int) = (j : Int) + 1 by omega] at hn
      refine kW_go ok_X12_feed [1, 6] 20 ?_
      refine And.intro (fun h => absurd h (by omega)) (fun _ => ?_)
      refine kCall_mono (hby _ j (by omega)) (Nat.le_of_ble_eq_true rfl) ?_
      rintro _ m ⟨rfl, rfl⟩
      refine And.intro (fun h => ?_) (fun h => ?_)
      · have h : f j = 0 := h
        have e2 : nzc f (j + 1) = nzc f j + 0 := by show nzc f j + (if f j = 0 then 0 else 1) = _; rw [if_pos h]
        rw [e2] at hn
        exact ⟨by constructor <;> omega, by constructor <;> omega, hn⟩
      · have h : ¬ f j = 0 := h
        have e2 : nzc f (j + 1) = nzc f j + 1 := by show nzc f j + (if f j = 0 then 0 else 1) = _; rw [if_neg h]
        rw [e2] at hn
        exact ⟨by constructor <;> omega, by constructor <;> omega, hn⟩
  refine kW_go ok_X12_feed [1, 6] 20 ?_
  exact loop1 20 0 rfl
