/-! the class's walls about what is reached -/
theorem c_X1_isWall (X : Xv) (m : Mem) {w d l : Int} (hD : okD w d l) (hn : w * d * l = (nC X : Int)) (hG : gridC m w d l) (c : Int) (hc : inC w d l c) : kCall (eX X) 1 M_X1_isWall.1 [vR 40, vI c] m (bP (m 28 c = 0 ∧ ∃ k : Int, (0 ≤ k ∧ k < 6) ∧ nx w d l c k ≠ -1 ∧ m 28 (nx w d l c k) ≠ 0) m) := by
  have hcc := okD_cells hD
  have hcb : 0 ≤ c ∧ c < (nC X : Int) := by obtain ⟨a, b⟩ := hc; omega
  refine kCall_ofT ok_X1_isWall rfl (Nat.le_of_ble_eq_true rfl) (fun T hT => ?_)
  have loop : m 28 c = 0 → ∀ (q : Nat) (k : Int) (x3 : Option AV), k + q = 6 → 0 ≤ k → (∀ j : Int, (0 ≤ j ∧ j < k) → nx w d l c j ≠ -1 → m 28 (nx w d l c j) = 0) → kW (eX X) 0 M_X1_isWall T 2 [some (vR 40), some (vI c), some (vI k), x3] [] m := by
    intro h28 q
    induction q with
    | zero =>
      intro k x3 hk h0 hall
      refine kW_go ok_X1_isWall [2] 20 ?_
      refine ⟨fun _ => hT _ _ ⟨Or.inl rfl, Or.inr ⟨?_, rfl⟩, rfl⟩, fun h => absurd h (by omega)⟩
      rintro ⟨-, j, h1, h2, h3⟩
      exact h3 (hall j (by omega) h2)
    | succ q ih =>
      intro k x3 hk h0 hall
      have hnx : m 2 (c * 6 + k) = nx w d l c k := (hG.2.2.2.2.2 c hc).2.2.2 k h0 (by omega)
      have hnext : (nx w d l c k ≠ -1 → m 28 (nx w d l c k) = 0) → ∀ y, kW (eX X) 0 M_X1_isWall T 2 [some (vR 40), some (vI c), some (vI (k + 1)), y] [] m := by
        intro h y
        refine ih (k + 1) y (by omega) (by omega) (fun j hj hne => ?_)
        by_cases he : j = k
        · rw [he] at hne ⊢; exact h hne
        · exact hall j (by omega) hne
      refine kW_go ok_X1_isWall [2] 20 ?_
      show (6 ≤ k → _) ∧ (k < 6 → inR (c * 6) ∧ inR (c * 6 + k) ∧ (0 ≤ c * 6 + k ∧ c * 6 + k < ((nC X * 6 : Nat) : Int)) ∧ (m 2 (c * 6 + k) = -1 → inR (k + 1) ∧ kW (eX X) 0 M_X1_isWall T 2 [some (vR 40), some (vI c), some (vI (k + 1)), some (vI (m 2 (c * 6 + k)))] [] m) ∧ (¬ m 2 (c * 6 + k) = -1 → (0 ≤ m 2 (c * 6 + k) ∧ m 2 (c * 6 + k) < (nC X : Int)) ∧ (m 28 (m 2 (c * 6 + k)) = 0 → inR (k + 1) ∧ kW (eX X) 0 M_X1_isWall T 2 [some (vR 40), some (vI c), some (vI (k + 1)), some (vI (m 2 (c * 6 + k)))] [] m) ∧ (¬ m 28 (m 2 (c * 6 + k)) = 0 → T (some (vI 1)) m)))
      rw [hnx]
      refine ⟨fun h => absurd h (by omega), fun _ => ⟨by constructor <;> omega, by constructor <;> omega, by constructor <;> omega, fun h => ⟨by constructor <;> omega, hnext (fun z => absurd h z) _⟩, fun h => ?_⟩⟩
      have hi := (nx_in h).1
      refine ⟨by obtain ⟨a, b⟩ := hi; constructor <;> omega, fun h2 => ⟨by constructor <;> omega, hnext (fun _ => h2) _⟩, fun h2 => hT _ _ ⟨Or.inr rfl, Or.inl ⟨⟨h28, k, by omega, h, h2⟩, rfl⟩, rfl⟩⟩
  refine kW_go ok_X1_isWall [2] 20 ?_
  refine ⟨hcb, And.intro (fun h => loop h 6 0 none (by omega) (by omega) (fun j h => by omega)) (fun h => hT _ _ ⟨Or.inl rfl, Or.inr ⟨fun q => h q.1, rfl⟩, rfl⟩)⟩
