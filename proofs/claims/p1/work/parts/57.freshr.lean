/-! WORST of both, and the reference's longer methods on a board without nets -/
def worN (a b : Int) : Int := if (0 ≤ a ∧ a ≤ 3) ∧ (0 ≤ b ∧ b ≤ 2) then (if b = 2 then 0 else -a) else -1000
theorem f_X0_worstShift (X : Xv) (m : Mem) (hN : noN m) (a b : Int) (ha : 0 ≤ a ∧ a ≤ 3) : kCall (eX X) 6 M_X0_worstShift.1 [vR 46, vI a, vI b] m (fun r m' => r = some (vI (if b = 0 ∨ b = 1 then -a else 0)) ∧ ∀ o, o ≠ 46 → m' o = m o) := by
  refine kCall_ofT ok_X0_worstShift rfl (Nat.le_of_ble_eq_true rfl) (fun T hT => ?_)
  have inner : ∀ (i6 : Int), -a ≤ i6 → i6 ≤ a → (∀ m', (∀ o, o ≠ 46 → m' o = m o) → kW (eX X) 5 M_X0_worstShift T 1 [some (vR 46), some (vI a), some (vI b), some (vI (-a)), some (vI (-a)), some (vI 0), some (vI (i6 + 1)), some (vI (a + 1))] [] m') →
      ∀ (k : Nat) (i7 i3 i4 i5 : Int) (m' : Mem), i7 + k = a + 1 → -a ≤ i7 → ((i5 = 0 ∧ i3 = -a ∧ i4 = -a) ∨ (i5 = -1 ∧ i6 = -a ∧ i7 = -a)) → (∀ o, o ≠ 46 → m' o = m o) → kW (eX X) 5 M_X0_worstShift T 2 [some (vR 46), some (vI a), some (vI b), some (vI i3), some (vI i4), some (vI i5), some (vI i6), some (vI i7)] [] m' := by
    intro i6 h6 h6' hout k
    induction k with
    | zero =>
      intro i7 i3 i4 i5 m' h7 h7' hs hf
      have : i7 = a + 1 := by omega
      subst this
      rcases hs with ⟨rfl, rfl, rfl⟩ | ⟨-, -, h⟩
      · refine kW_go ok_X0_worstShift [1, 2] 20 ?_
        exact And.intro (fun _ => ⟨by constructor <;> omega, hout m' hf⟩) (fun h => absurd h (by omega))
      · omega
    | succ k ih =>
      intro i7 i3 i4 i5 m' h7 h7' hs hf
      have h9 : m' 9 = m 9 := hf 9 (by decide)
      refine kW_go ok_X0_worstShift [1, 2] 20 ?_
      refine And.intro (fun h => absurd h (by omega)) (fun _ => ?_)
      refine kCall_mono (f_X0_shiftVias X m' ⟨by rw [h9]; exact hN.1, by rw [h9]; exact hN.2⟩ i6 i7) (Nat.le_of_ble_eq_true rfl) ?_
      rintro _ m2 ⟨rfl, s1, s2, e2⟩
      have hf2 : ∀ o, o ≠ 46 → m2 o = m o := fun o ho => by rw [e2 o ho, hf o ho]
      show inR (m2 46 3 + m2 46 4) ∧ ((m2 46 3 + m2 46 4 ≤ i5 → inR (i7 + 1) ∧ kW (eX X) 5 M_X0_worstShift T 2 [some (vR 46), some (vI a), some (vI b), some (vI i3), some (vI i4), some (vI i5), some (vI i6), some (vI (i7 + 1))] [] m2) ∧ (i5 < m2 46 3 + m2 46 4 → inR (m2 46 3 + m2 46 4) ∧ inR (i7 + 1) ∧ kW (eX X) 5 M_X0_worstShift T 2 [some (vR 46), some (vI a), some (vI b), some (vI i6), some (vI i7), some (vI (m2 46 3 + m2 46 4)), some (vI i6), some (vI (i7 + 1))] [] m2))
      rw [s1, s2, Int.add_zero]
      refine ⟨by constructor <;> omega, fun h => ⟨by constructor <;> omega, ih (i7 + 1) i3 i4 i5 m2 (by omega) (by omega) (Or.inl ?_) hf2⟩, fun h => ⟨by constructor <;> omega, by constructor <;> omega, ih (i7 + 1) i6 i7 0 m2 (by omega) (by omega) (Or.inl ?_) hf2⟩⟩
      · rcases hs with hs | ⟨hs, -, -⟩
        · exact hs
        · omega
      · rcases hs with ⟨hs, -, -⟩ | ⟨-, q1, q2⟩
        · omega
        · exact ⟨rfl, q1, q2⟩
  have outer : ∀ (k : Nat) (i6 i3 i4 i5 : Int) (m' : Mem) (x7 : Option AV), i6 + k = a + 1 → -a ≤ i6 → ((i5 = 0 ∧ i3 = -a ∧ i4 = -a) ∨ (i5 = -1 ∧ i6 = -a)) → (∀ o, o ≠ 46 → m' o = m o) → kW (eX X) 5 M_X0_worstShift T 1 [some (vR 46), some (vI a), some (vI b), some (vI i3), some (vI i4), some (vI i5), some (vI i6), x7] [] m' := by
    intro k
    induction k with
    | zero =>
      intro i6 i3 i4 i5 m' x7 h6 h6' hs hf
      have : i6 = a + 1 := by omega
      subst this
      rcases hs with ⟨rfl, rfl, rfl⟩ | ⟨-, h⟩
      · refine kW_go ok_X0_worstShift [1, 2] 20 ?_
        refine And.intro (fun _ => And.intro (fun h0 => And.intro (fun h1 => hT _ _ ⟨by rw [if_neg (by omega)], hf⟩) (fun h1 => hT _ _ ⟨by rw [if_pos (Or.inr h1)], hf⟩)) (fun h0 => hT _ _ ⟨by rw [if_pos (Or.inl h0)], hf⟩)) (fun h => absurd h (by omega))
      · omega
    | succ k ih =>
      intro i6 i3 i4 i5 m' x7 h6 h6' hs hf
      refine kW_go ok_X0_worstShift [1, 2] 20 ?_
      refine And.intro (fun h => absurd h (by omega)) (fun _ => ?_)
      refine ⟨by constructor <;> omega, ?_⟩
      refine inner i6 (by omega) (by omega) (fun m2 hf2 => ih (i6 + 1) (-a) (-a) 0 m2 _ (by omega) (by omega) (Or.inl ⟨rfl, rfl, rfl⟩) hf2) (a + 1 + a).toNat (-a) i3 i4 i5 m' (by omega) (by omega) ?_ hf
      rcases hs with hs | ⟨q1, q2⟩
      · exact Or.inl hs
      · exact Or.inr ⟨q1, q2, rfl⟩
  refine kW_go ok_X0_worstShift [1, 2] 20 ?_
  exact ⟨by constructor <;> omega, outer (a + 1 + a).toNat (-a) 0 0 (-1) m none (by omega) (by omega) (Or.inr ⟨rfl, rfl⟩) (fun _ _ => rfl)⟩
theorem f_X11_worst (X : Xv) (m : Mem) (hN : noN m) (a b : Int) : kCall (eX X) 7 M_X11_worst.1 [vR 0, vI a, vI b] m (fun r m' => r = some (vI (worN a b)) ∧ ∀ o, 54 ≤ o → m' o = m o) := by
  refine kCall_ofT ok_X11_worst rfl (Nat.le_of_ble_eq_true rfl) (fun T hT => ?_)
  have hno : ¬ ((0 ≤ a ∧ a ≤ 3) ∧ (0 ≤ b ∧ b ≤ 2)) → T (some (vI (-1000))) m := fun h => hT _ _ ⟨by unfold worN; rw [if_neg h], fun _ _ => rfl⟩
  refine kW_go ok_X11_worst [] 20 ?_
  refine And.intro (fun h1 => hno (by omega)) (fun h1 => And.intro (fun h2 => hno (by omega)) (fun h2 => And.intro (fun h3 => hno (by omega)) (fun h3 => And.intro (fun h4 => ?_) (fun h4 => hno (by omega)))))
  refine kCall_mono (f_X0_worstShift X m hN a b ⟨h1, h2⟩) (Nat.le_of_ble_eq_true rfl) ?_
  rintro _ m3 ⟨rfl, e3⟩
  refine hT _ _ ⟨?_, fun o ho => e3 o (by omega)⟩
  have hw : worN a b = if b = 2 then 0 else -a := if_pos ⟨⟨h1, h2⟩, h3, h4⟩
  rw [hw]
  by_cases h : b = 2
  · rw [if_neg (by omega), if_pos h]
  · rw [if_pos (by omega), if_neg h]
/-- the reference's numbers on a board without nets, classes and tape -/
def nR (w d l : Int) (m : Mem) : Prop := m 54 1 = w ∧ m 54 2 = d ∧ m 54 3 = l ∧ m 54 5 = 0 ∧ noR m
theorem nR_dim {w d l : Int} {m : Mem} (hD : okD w d l) (h : nR w d l m) : dimM m w d l := ⟨h.1, h.2.1, h.2.2.1, hD.1, hD.2.1, hD.2.2⟩
theorem nR_fset {w d l : Int} {m : Mem} {k : Nat} {v : Int} (h : nR w d l m) (hk : k ≠ 1 ∧ k ≠ 2 ∧ k ≠ 3 ∧ k ≠ 5 ∧ k ≠ 13 ∧ k ≠ 26) : nR w d l (fset m 54 k v) := by
  have hh : ∀ j : Nat, j ≠ k → fset m 54 k v 54 (j : Int) = m 54 (j : Int) := by
    intro j hj
    unfold fset
    rw [k_mset_at, if_neg (by omega)]
  obtain ⟨h1, h2, h3, h5, h6, h7⟩ := h
  exact ⟨(hh 1 (by omega)).trans h1, (hh 2 (by omega)).trans h2, (hh 3 (by omega)).trans h3, (hh 5 (by omega)).trans h5, (hh 13 (by omega)).trans h6, (hh 26 (by omega)).trans h7⟩
theorem nR_mset {w d l : Int} {m : Mem} {o : Nat} {i v : Int} (h : nR w d l m) (ho : o ≠ 54) : nR w d l (mset m o i v) := by
  have e : mset m o i v 54 = m 54 := k_mset_ne (fun q => ho q.symm)
  unfold nR noR
  rw [e]
  exact h
theorem f_X12_plainly (X : Xv) (m : Mem) {w d l : Int} (h : nR w d l m) (b : Int) (hb : b = 0 ∨ b = 1) : kCall (eX X) 1 M_X12_plainly.1 [vR 54, vI b] m (fun r m' => r = none ∧ nR w d l m' ∧ ∀ o, o ≠ 54 → o ≠ 81 → m' o = m o) := by
  refine kCall_ofT ok_X12_plainly rfl (Nat.le_of_ble_eq_true rfl) (fun T hT => ?_)
  have loop : ∀ (k : Nat) (i : Int) (m' : Mem), i + k = 324 → 0 ≤ i → nR w d l m' → (∀ o, o ≠ 54 → o ≠ 81 → m' o = m o) → kW (eX X) 0 M_X12_plainly T 1 [some (vR 54), some (vI b), some (vI i)] [] m' := by
    intro k
    induction k with
    | zero =>
      intro i m' hi h0 hn hf
      refine kW_go ok_X12_plainly [1] 20 ?_
      exact And.intro (fun _ => hT _ _ ⟨rfl, hn, hf⟩) (fun h => absurd h (by omega))
    | succ k ih =>
      intro i m' hi h0 hn hf
      refine kW_go ok_X12_plainly [1] 20 ?_
      exact And.intro (fun h => absurd h (by omega)) (fun _ => ⟨⟨h0, by omega⟩, by constructor <;> omega, ih (i + 1) _ (by omega) (by omega) (nR_mset hn (by decide)) (fun o h1 h2 => by rw [k_mset_ne h2]; exact hf o h1 h2)⟩)
  refine kW_go ok_X12_plainly [1] 20 ?_
  refine ⟨hb, Or.inl rfl, ?_⟩
  refine loop 324 0 _ (by omega) (by omega) (nR_fset (nR_fset (nR_fset h (k := 41) (by decide)) (k := 28) (by decide)) (k := 30) (by decide)) (fun o h1 h2 => ?_)
  show fset (fset (fset m 54 41 b) 54 28 0) 54 30 0 o = m o
  unfold fset
  rw [k_mset_ne h1, k_mset_ne h1, k_mset_ne h1]
theorem f_X12_ripAll (X : Xv) (m : Mem) (h : noR m) : kCall (eX X) 3 M_X12_ripAll.1 [vR 54] m (fun r m' => r = none ∧ m' = m) := by
  refine kCall_of ok_X12_ripAll rfl (Nat.le_of_ble_eq_true rfl) ?_
  refine kW_go ok_X12_ripAll [1] 20 ?_
  refine kW_go ok_X12_ripAll [] 20 ?_
  refine And.intro (fun _ => ⟨rfl, rfl⟩) (fun hh => ?_)
  have hh : 0 < m 54 26 := hh
  have := h.2
  omega
theorem f_X12_order (X : Xv) (m : Mem) {w d l : Int} (h : nR w d l m) : kCall (eX X) 4 M_X12_order.1 [vR 54] m (fun r m' => r = some (vI 0) ∧ nR w d l m') := by
  refine kCall_ofT ok_X12_order rfl (Nat.le_of_ble_eq_true rfl) (fun T hT => ?_)
  have loop : ∀ (k : Nat) (i : Int) (m' : Mem) (x3 : Option AV), i + k = 100 → 0 ≤ i → nR w d l m' → kW (eX X) 3 M_X12_order T 1 [some (vR 54), some (vI 0), some (vI i), x3] [] m' := by
    intro k
    induction k with
    | zero =>
      intro i m' x3 hi h0 hn
      refine kW_go ok_X12_order [1] 20 ?_
      exact And.intro (fun _ => hT _ _ ⟨rfl, hn⟩) (fun h => absurd h (by omega))
    | succ k ih =>
      intro i m' x3 hi h0 hn
      refine kW_go ok_X12_order [1] 20 ?_
      refine And.intro (fun h => absurd h (by omega)) (fun _ => And.intro (fun _ => ⟨by constructor <;> omega, ih (i + 1) m' _ (by omega) (by omega) hn⟩) (fun hh => ?_))
      have hh : 0 < m' 54 26 := hh
      have := hn.2.2.2.2.2
      omega
  refine kW_go ok_X12_order [1] 20 ?_
  refine kCall_mono (f_X12_plainly X m h 1 (Or.inr rfl)) (Nat.le_of_ble_eq_true rfl) ?_
  rintro _ m2 ⟨rfl, n2, -⟩
  refine kCall_mono (f_X12_ripAll X m2 n2.2.2.2.2) (Nat.le_of_ble_eq_true rfl) ?_
  rintro _ m2 ⟨rfl, rfl⟩
  exact loop 100 0 m2 none (by omega) (by omega) n2
theorem f_X12_takeAllOff (X : Xv) (m : Mem) (h : noR m) : kCall (eX X) 3 M_X12_takeAllOff.1 [vR 54] m (fun r m' => r = none ∧ m' = m) := by
  refine kCall_of ok_X12_takeAllOff rfl (Nat.le_of_ble_eq_true rfl) ?_
  refine kW_go ok_X12_takeAllOff [1] 20 ?_
  refine kW_go ok_X12_takeAllOff [2] 20 ?_
  refine And.intro (fun _ => ⟨rfl, rfl⟩) (fun hh => ?_)
  have hh : 0 < m 54 26 := hh
  have := h.2
  omega
theorem f_X12_keepNow (X : Xv) (m : Mem) (h : noR m) : kCall (eX X) 3 M_X12_keepNow.1 [vR 54] m (fun r m' => r = none ∧ m' = m) := by
  refine kCall_of ok_X12_keepNow rfl (Nat.le_of_ble_eq_true rfl) ?_
  refine kW_go ok_X12_keepNow [1] 20 ?_
  refine kW_go ok_X12_keepNow [2] 20 ?_
  refine And.intro (fun _ => ⟨rfl, rfl⟩) (fun hh => ?_)
  have hh : 0 < m 54 26 := hh
  have := h.2
  omega
theorem f_X12_bringNow (X : Xv) (m : Mem) (h : noR m) : kCall (eX X) 3 M_X12_bringNow.1 [vR 54] m (fun r m' => r = none ∧ m' = m) := by
  refine kCall_of ok_X12_bringNow rfl (Nat.le_of_ble_eq_true rfl) ?_
  refine kW_go ok_X12_bringNow [1] 20 ?_
  refine kW_go ok_X12_bringNow [2] 20 ?_
  refine And.intro (fun _ => ⟨rfl, rfl⟩) (fun hh => ?_)
  have hh : 0 < m 54 26 := hh
  have := h.2
  omega
theorem f_X12_turn (X : Xv) (m : Mem) (h : noR m) (a : Int) : kCall (eX X) 3 M_X12_turn.1 [vR 54, vI a] m (cP 1 m) := by
  refine kCall_of ok_X12_turn rfl (Nat.le_of_ble_eq_true rfl) ?_
  refine kW_go ok_X12_turn [1] 20 ?_
  refine kW_go ok_X12_turn [2, 3] 20 ?_
  refine And.intro (fun _ => ⟨Or.inr rfl, rfl, rfl⟩) (fun hh => ?_)
  have hh : 0 < m 54 26 := hh
  have := h.2
  omega
theorem f_X12_crowd (X : Xv) (m : Mem) {w d l : Int} (h : nR w d l m) (hz : ∀ i : Int, 0 ≤ i → i < 324 → m 82 i = 0) : kCall (eX X) 3 M_X12_crowd.1 [vR 54] m (fun r m' => r = some (vI 0) ∧ nR w d l m') := by
  refine kCall_ofT ok_X12_crowd rfl (Nat.le_of_ble_eq_true rfl) (fun T hT => ?_)
  have loop : ∀ (k : Nat) (i : Int) (m' : Mem) (x3 x4 : Option AV), i + k = 324 → 0 ≤ i → nR w d l m' → (∀ i : Int, 0 ≤ i → i < 324 → m' 82 i = 0) → kW (eX X) 2 M_X12_crowd T 1 [some (vR 54), some (vI 0), some (vI i), x3, x4] [] m' := by
    intro k
    induction k with
    | zero =>
      intro i m' x3 x4 hi h0 hn hz
      refine kW_go ok_X12_crowd [1] 20 ?_
      exact And.intro (fun _ => hT _ _ ⟨rfl, hn⟩) (fun h => absurd h (by omega))
    | succ k ih =>
      intro i m' x3 x4 hi h0 hn hz
      have hb : 0 ≤ i ∧ i < ((324 : Nat) : Int) := by omega
      have e1 := hz i hb.1 hb.2
      refine kW_go ok_X12_crowd [1] 20 ?_
      refine And.intro (fun h => absurd h (by omega)) (fun _ => ?_)
      refine And.intro (fun _ => ?_) (fun hh => ?_)
      · show (0 ≤ i ∧ i < ((324 : Nat) : Int)) ∧ ((0 : Int) = 0 → inR (m' 82 i + 0) ∧ (0 ≤ i ∧ i < ((324 : Nat) : Int)) ∧ ((0 : Int) = 0 → _) ∧ (¬ (0 : Int) = 0 → _)) ∧ (¬ (0 : Int) = 0 → _)
        rw [e1]
        refine ⟨hb, fun _ => ⟨by constructor <;> omega, hb, fun _ => ⟨by decide, by constructor <;> omega, ih (i + 1) _ _ _ (by omega) (by omega) (nR_mset hn (by decide)) (fun j h1 h2 => ?_)⟩, fun h => absurd rfl h⟩, fun h => absurd rfl h⟩
        rw [k_mset_at]
        split
        · rfl
        · exact hz j h1 h2
      · have hh : 0 < m' 54 26 := hh
        have := hn.2.2.2.2.2
        omega
  refine kW_go ok_X12_crowd [1] 20 ?_
  exact loop 324 0 m none none (by omega) (by omega) h hz
