/-! the reference's lists of traces, and what lies beside -/
theorem c_X12_isInside (X : Xv) (m : Mem) {w d l : Int} (hd : dimM m w d l) (c : Int) (hc : 0 ≤ c ∧ c < 324) : kCall (eX X) 3 M_X12_isInside.1 [vR 54, vI c] m (bP (inRf w d l c) m) := by
  refine kCall_ofT ok_X12_isInside rfl (Nat.le_of_ble_eq_true rfl) (fun T hT => ?_)
  refine kW_go ok_X12_isInside [] 20 ?_
  refine kCall_mono (c_X12_xOf _ m c hc.1) (Nat.le_of_ble_eq_true rfl) ?_
  rintro _ m ⟨rfl, rfl⟩
  refine kCall_mono (c_X12_yOf _ m c hc.1 (by omega)) (Nat.le_of_ble_eq_true rfl) ?_
  rintro _ m ⟨rfl, rfl⟩
  refine kCall_mono (c_X12_layerOf _ m c hc.1 (by omega)) (Nat.le_of_ble_eq_true rfl) ?_
  rintro _ m ⟨rfl, rfl⟩
  refine kCall_mono (c_X12_isCell X m hd _ _ _) (Nat.le_of_ble_eq_true rfl) ?_
  rintro _ m ⟨rfl, rfl⟩
  by_cases h : inRf w d l c
  · obtain ⟨h1, h2, h3, h4⟩ := id h
    rw [b2i_t (by omega)]
    exact hT _ _ ⟨Or.inr rfl, Or.inl ⟨h, rfl⟩, rfl⟩
  · rw [b2i_f (fun q => h ⟨hc, by omega, by omega, by omega⟩)]
    exact hT _ _ ⟨Or.inl rfl, Or.inr ⟨h, rfl⟩, rfl⟩
theorem c_X12_isBeside (X : Xv) (m : Mem) {w d l : Int} (hd : dimM m w d l) (x : Int) (hx : inC w d l x) : kCall (eX X) 4 M_X12_isBeside.1 [vR 54, vI (cR w d x)] m (bP (∃ k : Int, (0 ≤ k ∧ k < 6) ∧ nx w d l x k ≠ -1 ∧ m 83 (cR w d (nx w d l x k)) ≠ 0) m) := by
  have hD : okD w d l := hd.2.2.2
  refine kCall_ofT ok_X12_isBeside rfl (Nat.le_of_ble_eq_true rfl) (fun T hT => ?_)
  have loop : ∀ (q : Nat) (k : Int) (x3 : Option AV), k + q = 6 → 0 ≤ k → (∀ j : Int, (0 ≤ j ∧ j < k) → nx w d l x j ≠ -1 → m 83 (cR w d (nx w d l x j)) = 0) → kW (eX X) 3 M_X12_isBeside T 1 [some (vR 54), some (vI (cR w d x)), some (vI k), x3] [] m := by
    intro q
    induction q with
    | zero =>
      intro k x3 hk h0 hall
      refine kW_go ok_X12_isBeside [1] 20 ?_
      refine ⟨fun _ => hT _ _ ⟨Or.inl rfl, Or.inr ⟨?_, rfl⟩, rfl⟩, fun h => absurd h (by omega)⟩
      rintro ⟨j, h1, h2, h3⟩
      exact h3 (hall j (by omega) h2)
    | succ q ih =>
      intro k x3 hk h0 hall
      refine kW_go ok_X12_isBeside [1] 20 ?_
      refine ⟨fun h => absurd h (by omega), fun _ => ?_⟩
      refine kCall_mono (c_X12_moved X m hd x k hx) (Nat.le_of_ble_eq_true rfl) ?_
      rintro _ m ⟨rfl, rfl⟩
      have hnext : (nx w d l x k ≠ -1 → m 83 (cR w d (nx w d l x k)) = 0) → ∀ y, kW (eX X) 3 M_X12_isBeside T 1 [some (vR 54), some (vI (cR w d x)), some (vI (k + 1)), y] [] m := by
        intro h y
        refine ih (k + 1) y (by omega) (by omega) (fun j hj hne => ?_)
        by_cases he : j = k
        · rw [he] at hne ⊢; exact h hne
        · exact hall j (by omega) hne
      by_cases hne : nx w d l x k = -1
      · have e : mR w d l x k = -1 := if_pos hne
        rw [e]
        exact And.intro (fun _ => ⟨by constructor <;> omega, hnext (fun z => absurd hne z) _⟩) (fun h => absurd rfl h)
      · have e : mR w d l x k = cR w d (nx w d l x k) := if_neg hne
        have hg := cR_geo hD (nx_in hne).1
        rw [e]
        refine And.intro (fun h => absurd h (by omega)) (fun _ => ⟨hg.1, And.intro (fun h => ⟨by constructor <;> omega, hnext (fun _ => h) _⟩) (fun h => hT _ _ ⟨Or.inr rfl, Or.inl ⟨⟨k, by omega, hne, h⟩, rfl⟩, rfl⟩)⟩)
  refine kW_go ok_X12_isBeside [1] 20 ?_
  exact loop 6 0 none (by omega) (by omega) (fun j h => by omega)
theorem c_X12_has (X : Xv) (m : Mem) (n c : Int) (hn : 0 ≤ n ∧ n < 8) (hc : 0 ≤ c ∧ c < 324) : kCall (eX X) 1 M_X12_has.1 [vR 54, vI n, vI c] m (bP (m 72 (324 * n + c) ≠ 0) m) := by
  refine kCall_ofT ok_X12_has rfl (Nat.le_of_ble_eq_true rfl) (fun T hT => ?_)
  refine kW_go ok_X12_has [] 20 ?_
  have hb : 0 ≤ 324 * n + c ∧ 324 * n + c < ((2592 : Nat) : Int) := by omega
  refine ⟨by constructor <;> omega, by constructor <;> omega, hb, And.intro (fun h => hT _ _ ⟨Or.inl rfl, Or.inr ⟨fun q => q h, rfl⟩, rfl⟩) (fun h => hT _ _ ⟨Or.inr rfl, Or.inl ⟨h, rfl⟩, rfl⟩)⟩
/-- a trace added to a net's list, its ends painted -/
def aT (n a b : Int) (m : Mem) : Mem :=
  let m1 := mset m 69 (2400 * n + m 68 n) a
  let m2 := mset m1 70 (2400 * n + m 68 n) b
  let m3 := mset m2 68 n (m 68 n + 1)
  let m4 := mset m3 72 (324 * n + a) (kor (m 72 (324 * n + a)) 2)
  mset m4 72 (324 * n + b) (kor (m4 72 (324 * n + b)) 2)
set_option maxRecDepth 100000 in
set_option maxHeartbeats 4000000 in
theorem c_X12_addTrace (X : Xv) (m : Mem) (n a b : Int) (hn : 0 ≤ n ∧ n < 8) (ha : 0 ≤ a ∧ a < 324) (hb : 0 ≤ b ∧ b < 324) (hk : 0 ≤ m 68 n ∧ m 68 n < 2400) : kCall (eX X) 1 M_X12_addTrace.1 [vR 54, vI n, vI a, vI b] m (fun r m' => r = none ∧ m' = aT n a b m) := by
  refine kCall_ofT ok_X12_addTrace rfl (Nat.le_of_ble_eq_true rfl) (fun T hT => ?_)
  have hnb : 0 ≤ n ∧ n < ((8 : Nat) : Int) := hn
  have h1 : 0 ≤ 2400 * n + m 68 n ∧ 2400 * n + m 68 n < ((19200 : Nat) : Int) := by omega
  have h2 : 0 ≤ 324 * n + a ∧ 324 * n + a < ((2592 : Nat) : Int) := by omega
  have h3 : 0 ≤ 324 * n + b ∧ 324 * n + b < ((2592 : Nat) : Int) := by omega
  refine kW_go ok_X12_addTrace [] 20 ?_
  have hI1 : inR (2400 * n + m 68 n) := by constructor <;> omega
  have hI2 : inR (m 68 n + 1) := by constructor <;> omega
  exact ⟨by constructor <;> omega, hnb, by constructor <;> omega, h1, by constructor <;> omega, hnb, hI1, h1, hnb, hI2, hnb, by constructor <;> omega, by constructor <;> omega, h2, h2, by constructor <;> omega, by constructor <;> omega, h3, h3, hT _ _ ⟨rfl, rfl⟩⟩
