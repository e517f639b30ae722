/-! bits of whole numbers -/
def bt (v : Int) (k : Nat) : Bool := (Int32.ofInt v).toBitVec.getLsbD k
theorem bt_of (z : Int32) (k : Nat) : bt z.toInt k = z.toBitVec.getLsbD k := by unfold bt; rw [k_ofInt_toInt]
theorem bt_ge (v : Int) {k : Nat} (h : 32 ≤ k) : bt v k = false := BitVec.getLsbD_of_ge _ _ h
theorem bt_and (a b : Int) (k : Nat) : bt (kand a b) k = (bt a k && bt b k) := by
  unfold kand
  rw [bt_of, Int32.toBitVec_and, BitVec.getLsbD_and]; rfl
theorem bt_or (a b : Int) (k : Nat) : bt (kor a b) k = (bt a k || bt b k) := by
  unfold kor
  rw [bt_of, Int32.toBitVec_or, BitVec.getLsbD_or]; rfl
theorem bt_xor (a b : Int) (k : Nat) : bt (kxor a b) k = (bt a k ^^ bt b k) := by
  unfold kxor
  rw [bt_of, Int32.toBitVec_xor, BitVec.getLsbD_xor]; rfl
theorem bt_ext {a b : Int} (ha : inR a) (hb : inR b) (h : ∀ k, k < 32 → bt a k = bt b k) : a = b := by
  have h1 : (Int32.ofInt a).toBitVec = (Int32.ofInt b).toBitVec := BitVec.eq_of_getLsbD_eq h
  have h2 := Int32.toBitVec.inj h1
  exact (k_eq ha hb).mp h2
theorem bt_zero (k : Nat) : bt 0 k = false := by
  unfold bt
  rw [show (Int32.ofInt 0).toBitVec = 0#32 from rfl]
  simp
theorem bt_neg1 {k : Nat} (h : k < 32) : bt (-1) k = true := by
  have : ∀ i : Fin 32, bt (-1) i.val = true := by decide +kernel
  exact this ⟨k, h⟩
theorem k_in_kand (a b : Int) : inR (kand a b) := k_in_toInt _
theorem k_in_kor (a b : Int) : inR (kor a b) := k_in_toInt _
theorem k_in_kxor (a b : Int) : inR (kxor a b) := k_in_toInt _
theorem k_in_kshl (a b : Int) : inR (kshl a b) := k_in_toInt _
theorem k_in_kshr (a b : Int) : inR (kshr a b) := k_in_toInt _
theorem k_in_kushr (a b : Int) : inR (kushr a b) := k_in_toInt _
theorem k_in_lit {a : Int} (h : -2147483648 ≤ a ∧ a ≤ 2147483647) : inR a := h
theorem k_fin {P : Int → Prop} {N : Nat} (h : ∀ i : Fin N, P (i.val : Int)) {x : Int} (h0 : 0 ≤ x) (h1 : x < N) : P x := by
  have := h ⟨x.toNat, by omega⟩
  rwa [show ((x.toNat : Nat) : Int) = x from Int.toNat_of_nonneg h0] at this
theorem k_amt {n : Int} (h0 : 0 ≤ n) (h1 : n < 32) : ((Int32.ofInt n &&& 31).toBitVec.smod 32).toNat = n.toNat := by
  have : ∀ i : Fin 32, ((Int32.ofInt (i.val : Int) &&& 31).toBitVec.smod 32).toNat = i.val := by decide +kernel
  have h2 := this ⟨n.toNat, by omega⟩
  rwa [show ((n.toNat : Nat) : Int) = n from Int.toNat_of_nonneg h0] at h2
theorem bt_shl {a n : Int} (h0 : 0 ≤ n) (h1 : n < 32) (k : Nat) : bt (kshl a n) k = (decide (k < 32) && !decide (k < n.toNat) && bt a (k - n.toNat)) := by
  unfold kshl
  rw [bt_of]
  show ((Int32.ofInt a).toBitVec <<< ((Int32.ofInt n &&& 31).toBitVec.smod 32)).getLsbD k = _
  rw [BitVec.shiftLeft_eq', k_amt h0 h1, BitVec.getLsbD_shiftLeft]
  rfl
theorem bt_shr {a n : Int} (h0 : 0 ≤ n) (h1 : n < 32) (k : Nat) : bt (kshr a n) k = (!decide (32 ≤ k) && if n.toNat + k < 32 then bt a (n.toNat + k) else bt a 31) := by
  unfold kshr
  rw [bt_of]
  show ((Int32.ofInt a).toBitVec.sshiftRight ((Int32.ofInt n &&& 31).toBitVec.smod 32).toNat).getLsbD k = _
  rw [k_amt h0 h1, BitVec.getLsbD_sshiftRight]
  rfl
theorem bt_one (k : Nat) : bt 1 k = decide (k = 0) := by
  by_cases h : k < 32
  · have : ∀ i : Fin 32, bt 1 i.val = decide (i.val = 0) := by decide +kernel
    exact this ⟨k, h⟩
  · rw [bt_ge 1 (by omega)]
    simp; omega
/-- one bit alone -/
theorem bt_bit {n : Int} (h0 : 0 ≤ n) (h1 : n < 32) (k : Nat) : bt (kshl 1 n) k = decide ((k : Int) = n) := by
  rw [bt_shl h0 h1, bt_one]
  by_cases h : (k : Int) = n
  · have : k = n.toNat := by omega
    subst this
    simp; omega
  · by_cases h2 : k < n.toNat
    · simp [h2, h]
    · have : k - n.toNat ≠ 0 := by omega
      simp [h, this]
/-- a bit asked for: v >> n & 1 -/
theorem k_ask {v n : Int} (h0 : 0 ≤ n) (h1 : n < 32) : kand (kshr v n) 1 = if bt v n.toNat then 1 else 0 := by
  have e : ∀ k, k < 32 → bt (kand (kshr v n) 1) k = bt (if bt v n.toNat then (1 : Int) else 0) k := by
    intro k hk
    rw [bt_and, bt_shr h0 h1, bt_one]
    by_cases hz : k = 0
    · subst hz
      have : n.toNat < 32 := by omega
      simp [this]
      cases bt v n.toNat
      · simp [bt_zero]
      · simp [bt_one]
    · simp [hz]
      cases bt v n.toNat
      · simp [bt_zero]
      · simp [bt_one, hz]
  refine bt_ext (k_in_kand _ _) ?_ e
  split
  · exact k_in_lit (by omega)
  · exact k_in_lit (by omega)
theorem k_ask0 {v n : Int} (h0 : 0 ≤ n) (h1 : n < 32) : kand (kshr v n) 1 = 0 ↔ bt v n.toNat = false := by
  rw [k_ask h0 h1]
  cases bt v n.toNat <;> simp
theorem k_and0 {a b : Int} : kand a b = 0 ↔ ∀ k, k < 32 → ¬ (bt a k = true ∧ bt b k = true) := by
  constructor
  · intro h k _ hk
    have := bt_and a b k
    rw [h, bt_zero, hk.1, hk.2] at this
    cases this
  · intro h
    refine bt_ext (k_in_kand _ _) k_inR0 (fun k hk => ?_)
    rw [bt_and, bt_zero]
    have := h k hk
    cases h1 : bt a k <;> cases h2 : bt b k <;> simp_all
theorem k_ne0 {a : Int} (ha : inR a) : a ≠ 0 ↔ ∃ k, k < 32 ∧ bt a k = true := by
  constructor
  · intro h
    refine Decidable.byContradiction (fun hn => h (bt_ext ha k_inR0 (fun k hk => ?_)))
    rw [bt_zero]
    cases hb : bt a k with
    | false => rfl
    | true => exact absurd ⟨k, hk, hb⟩ hn
  · rintro ⟨k, hk, hb⟩ rfl
    rw [bt_zero] at hb
    cases hb
/-- a number that has bits below 31 alone isn't negative, and is small -/
theorem bt_nat {v : Int} (hv : inR v) (h0 : 0 ≤ v) (k : Nat) : bt v k = v.toNat.testBit k := by
  unfold bt
  rw [← BitVec.testBit_toNat, Int32.toBitVec_ofInt, BitVec.toNat_ofInt]
  congr 1
  obtain ⟨h1, h2⟩ := hv
  have : v % ((2 ^ 32 : Nat) : Int) = v := Int.emod_eq_of_lt h0 (by omega)
  rw [this]
theorem bt_small {v : Int} {n : Nat} (hv : inR v) (h0 : 0 ≤ v) (h : v < 2 ^ n) {k : Nat} (hk : n ≤ k) : bt v k = false := by
  rw [bt_nat hv h0]
  refine Nat.testBit_lt_two_pow (Nat.lt_of_lt_of_le ?_ (Nat.pow_le_pow_right (by decide) hk))
  have : ((v.toNat : Nat) : Int) < ((2 ^ n : Nat) : Int) := by rw [Int.toNat_of_nonneg h0]; exact_mod_cast h
  exact_mod_cast this
def oppF (i : Int) : Int := if i = 0 then 2 else if i = 1 then 3 else if i = 2 then 0 else if i = 3 then 1 else if i = 4 then 5 else 4
