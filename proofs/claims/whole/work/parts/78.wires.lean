/-! the reference's list of wires -/
/-- a wire stands in a net's list -/
def wrR (m : Mem) (n a b : Int) : Prop := ∃ k : Int, (0 ≤ k ∧ k < m 65 n) ∧ m 66 (1200 * n + k) = a ∧ m 67 (1200 * n + k) = b
theorem c_X12_hasWire (X : Xv) (m : Mem) (n a b : Int) (hn : 0 ≤ n ∧ n < 8) (hk : 0 ≤ m 65 n ∧ m 65 n ≤ 1200) : kCall (eX X) 1 M_X12_hasWire.1 [vR 54, vI n, vI a, vI b] m (bP (wrR m n a b) m) := by
  refine kCall_ofT ok_X12_hasWire rfl (Nat.le_of_ble_eq_true rfl) (fun T hT => ?_)
  have hnb : 0 ≤ n ∧ n < ((8 : Nat) : Int) := hn
  have loop : ∀ (q : Nat) (k : Int), k + q = m 65 n → 0 ≤ k → (∀ j : Int, (0 ≤ j ∧ j < k) → ¬ (m 66 (1200 * n + j) = a ∧ m 67 (1200 * n + j) = b)) → kW (eX X) 0 M_X12_hasWire T 1 [some (vR 54), some (vI n), some (vI a), some (vI b), some (vI k)] [] m := by
    intro q
    induction q with
    | zero =>
      intro k hq h0 hall
      refine kW_go ok_X12_hasWire [1] 20 ?_
      refine ⟨hnb, fun _ => hT _ _ ⟨Or.inl rfl, Or.inr ⟨?_, rfl⟩, rfl⟩, fun h => absurd (show k < m 65 n from h) (by omega)⟩
      rintro ⟨j, h1, h2⟩
      exact hall j (by omega) h2
    | succ q ih =>
      intro k hq h0 hall
      have h1 : 0 ≤ 1200 * n + k ∧ 1200 * n + k < ((9600 : Nat) : Int) := by omega
      have hnext : ¬ (m 66 (1200 * n + k) = a ∧ m 67 (1200 * n + k) = b) → kW (eX X) 0 M_X12_hasWire T 1 [some (vR 54), some (vI n), some (vI a), some (vI b), some (vI (k + 1))] [] m := by
        intro h
        refine ih (k + 1) (by omega) (by omega) (fun j hj => ?_)
        by_cases he : j = k
        · rw [he]; exact h
        · exact hall j (by omega)
      refine kW_go ok_X12_hasWire [1] 20 ?_
      refine ⟨hnb, fun h => absurd (show m 65 n ≤ k from h) (by omega), fun _ => ⟨by constructor <;> omega, by constructor <;> omega, h1, And.intro (fun h => ⟨by constructor <;> omega, hnext (fun z => h z.1)⟩) (fun h => ⟨by constructor <;> omega, by constructor <;> omega, h1, And.intro (fun h2 => ⟨by constructor <;> omega, hnext (fun z => h2 z.2)⟩) (fun h2 => hT _ _ ⟨Or.inr rfl, Or.inl ⟨⟨k, by omega, h, h2⟩, rfl⟩, rfl⟩)⟩)⟩⟩
  refine kW_go ok_X12_hasWire [1] 20 ?_
  exact loop (m 65 n).toNat 0 (by omega) (by omega) (fun j h => by omega)
theorem c_X3_addSort (X : Xv) (m : Mem) (h : 0 ≤ m 9 13 ∧ m 9 13 < 6) : kCall (eX X) 1 M_X3_addSort.1 [vR 9, vR 8] m (fun r m' => r = some (vI (m 9 13)) ∧ m' = fset (mcpy m 8 0 10 (m 9 13 * 5) 5) 9 13 (m 9 13 + 1)) := by
  refine kCall_ofT ok_X3_addSort rfl (Nat.le_of_ble_eq_true rfl) (fun T hT => ?_)
  have h1 : inR (m 9 13 * 5) := by constructor <;> omega
  have h2 : inR (m 9 13 + 1) := by constructor <;> omega
  have h3 : inR (m 9 13 + 1 - 1) := by constructor <;> omega
  have h4 : (0 ≤ (5 : Int) ∧ 0 ≤ m 9 13 * 5 ∧ 0 ≤ (0 : Int)) ∧ (0 : Int) + 5 ≤ ((5 : Nat) : Int) ∧ m 9 13 * 5 + 5 ≤ ((30 : Nat) : Int) := by omega
  have hfin : T (some (vI (m 9 13 + 1 - 1))) (fset (mcpy m 8 0 10 (m 9 13 * 5) 5) 9 13 (m 9 13 + 1)) := by
    rw [show m 9 13 + 1 - 1 = m 9 13 by omega]
    exact hT _ _ ⟨rfl, rfl⟩
  refine kW_go ok_X3_addSort [] 20 ?_
  exact ⟨h1, h4, h2, h3, hfin⟩
