/-! sums: split, shifted, told in the other numbering of cells -/
theorem sumN_add (f : Int → Int) (a b : Nat) : sumN f (a + b) = sumN f a + sumN (fun i => f ((a : Int) + i)) b := by
  induction b with
  | zero => simp [sumN]
  | succ b ih =>
    show sumN f (a + b) + f ((a + b : Nat) : Int) = sumN f a + (sumN (fun i => f ((a : Int) + i)) b + f ((a : Int) + (b : Int)))
    rw [ih, Int.natCast_add]
    omega
theorem sumN_z {f : Int → Int} {k : Nat} (h : ∀ i : Int, 0 ≤ i → i < k → f i = 0) : sumN f k = 0 := by
  induction k with
  | zero => rfl
  | succ k ih =>
    show sumN f k + f (k : Int) = 0
    rw [ih (fun i h1 h2 => h i h1 (by omega)), h (k : Int) (by omega) (by omega)]
    rfl
theorem sumN_cut {f : Int → Int} {a b : Nat} (hab : a ≤ b) (h : ∀ i : Int, (a : Int) ≤ i → i < b → f i = 0) : sumN f b = sumN f a := by
  obtain ⟨e, rfl⟩ : ∃ e, b = a + e := ⟨b - a, by omega⟩
  rw [sumN_add, sumN_z (f := fun i => f ((a : Int) + i)) (fun i h1 h2 => h _ (by omega) (by omega))]
  omega
theorem sumN_plus (f g : Int → Int) (k : Nat) : sumN (fun i => f i + g i) k = sumN f k + sumN g k := by
  induction k with
  | zero => rfl
  | succ k ih =>
    show sumN (fun i => f i + g i) k + (f (k : Int) + g (k : Int)) = sumN f k + f (k : Int) + (sumN g k + g (k : Int))
    rw [ih]; omega
theorem sumN_mul (f : Int → Int) (a b : Nat) : sumN f (a * b) = sumN (fun i => sumN (fun j => f (i * (b : Int) + j)) b) a := by
  induction a with
  | zero => rw [Nat.zero_mul]; rfl
  | succ a ih =>
    rw [Nat.succ_mul, sumN_add, ih]
    show _ = sumN (fun i => sumN (fun j => f (i * (b : Int) + j)) b) a + sumN (fun j => f ((a : Int) * (b : Int) + j)) b
    rw [Int.natCast_mul]
theorem sumN_ge {f g : Int → Int} {k : Nat} (h : ∀ i : Int, 0 ≤ i → i < k → f i ≤ g i) : sumN f k ≤ sumN g k := by
  induction k with
  | zero => exact Int.le_refl _
  | succ k ih =>
    show sumN f k + f (k : Int) ≤ sumN g k + g (k : Int)
    have := ih (fun i h1 h2 => h i h1 (by omega))
    have := h (k : Int) (by omega) (by omega)
    omega
/-- a layer's sum in both numberings -/
theorem sum_lay {w d l : Int} (hD : okD w d l) (g : Int → Int) {z : Int} (hz : 0 ≤ z ∧ z < l) (h0 : ∀ r, (81 * z ≤ r ∧ r < 81 * z + 81) → ¬ inRf w d l r → g r = 0) : sumN (fun k => g (81 * z + k)) 81 = sumN (fun q => g (cR w d (z * (w * d) + q))) (w * d).toNat := by
  obtain ⟨⟨w1, w2⟩, ⟨d1, d2⟩, l1, l2⟩ := id hD
  obtain ⟨W, hW⟩ : ∃ W : Nat, w = (W : Int) := ⟨w.toNat, by omega⟩
  obtain ⟨D, hDD⟩ : ∃ D : Nat, d = (D : Int) := ⟨d.toNat, by omega⟩
  have e1 : (w * d).toNat = D * W := by
    rw [hW, hDD, ← Int.natCast_mul, Int.toNat_natCast, Nat.mul_comm]
  rw [e1, sumN_mul, show (81 : Nat) = 9 * 9 from rfl, sumN_mul]
  rw [sumN_cut (a := D) (b := 9) (by omega) (fun y h1 h2 => sumN_z (fun x h3 h4 => h0 _ (by omega) (fun q => ?_)))]
  · refine sumN_cong (fun y h1 h2 => ?_)
    rw [sumN_cut (a := W) (b := 9) (by omega) (fun x h3 h4 => h0 _ (by omega) (fun q => ?_))]
    · refine sumN_cong (fun x h3 h4 => ?_)
      have := cR_ix (w := w) (d := d) (l := l) (x := x) (y := y) (z := z) ⟨h3, by omega⟩ ⟨h1, by omega⟩
      have e2 : ix w d x y z = z * (w * d) + (y * (W : Int) + x) := by
        unfold ix
        rw [hW, Int.add_assoc]
      rw [← e2, this]
      congr 1
      omega
    · have := q.2.1
      omega
  · have := q.2.2.1
    omega
/-- the board's sum in both numberings -/
theorem sum_all {w d l : Int} (hD : okD w d l) (g : Int → Int) (h0 : ∀ r, (0 ≤ r ∧ r < 324) → ¬ inRf w d l r → g r = 0) {n : Nat} (hn : w * d * l = (n : Int)) : sumN g 324 = sumN (fun c => g (cR w d c)) n := by
  obtain ⟨⟨w1, w2⟩, ⟨d1, d2⟩, l1, l2⟩ := id hD
  obtain ⟨L, hL⟩ : ∃ L : Nat, l = (L : Int) := ⟨l.toNat, by omega⟩
  have hf := okD_floor hD
  have e1 : n = L * (w * d).toNat := by
    have h1 : ((w * d).toNat : Int) = w * d := Int.toNat_of_nonneg (by omega)
    have h2 : ((L * (w * d).toNat : Nat) : Int) = (n : Int) := by rw [Int.natCast_mul, h1, ← hn, hL, Int.mul_comm]
    omega
  rw [e1, sumN_mul, show (324 : Nat) = 4 * 81 from rfl, sumN_mul]
  rw [sumN_cut (a := L) (b := 4) (by omega) (fun z h1 h2 => sumN_z (fun x h3 h4 => h0 _ (by omega) (fun q => ?_)))]
  · refine sumN_cong (fun z h1 h2 => ?_)
    have h5 := sum_lay hD g (z := z) ⟨h1, by omega⟩ (fun r hr hq => h0 r (by omega) hq)
    rw [Int.toNat_of_nonneg (by omega : 0 ≤ w * d), ← h5]
    refine sumN_cong (fun x h3 h4 => ?_)
    congr 1
    omega
  · have := q.2.2.2
    omega
/-- a number if something holds -/
noncomputable def iv (P : Prop) (v : Int) : Int := @ite Int P (Classical.propDecidable P) v 0
theorem iv_t {P : Prop} {v : Int} (h : P) : iv P v = v := @if_pos P (Classical.propDecidable P) h _ _ _
theorem iv_f {P : Prop} {v : Int} (h : ¬ P) : iv P v = 0 := @if_neg P (Classical.propDecidable P) h _ _ _
theorem iv_cong {P Q : Prop} {v : Int} (h : P ↔ Q) : iv P v = iv Q v := by rw [propext h]
theorem iv_in {P : Prop} {v B : Int} (h : 0 ≤ v ∧ v ≤ B) : 0 ≤ iv P v ∧ iv P v ≤ B := by
  by_cases hp : P
  · rw [iv_t hp]; exact h
  · rw [iv_f hp]; omega
