/-! the rest of the reference on a board without nets -/
theorem f_X12_press (X : Xv) (m : Mem) {w d l : Int} (h : nR w d l m) (a b : Int) : kCall (eX X) 6 M_X12_press.1 [vR 54, vI a, vI b] m (fun r m' => r = some (vI (if (1 ≤ a ∧ a ≤ 20) ∧ (1 ≤ b ∧ b ≤ 20) then 1 else -1)) ∧ nR w d l m') := by
  refine kCall_ofT ok_X12_press rfl (Nat.le_of_ble_eq_true rfl) (fun T hT => ?_)
  have hno : ∀ m', nR w d l m' → ¬ ((1 ≤ a ∧ a ≤ 20) ∧ (1 ≤ b ∧ b ≤ 20)) → T (some (vI (-1))) m' := fun m' hn q => hT _ _ ⟨by rw [if_neg q], hn⟩
  refine kW_go ok_X12_press [3] 20 ?_
  refine kCall_mono (c_X12_in _ m a 1 20) (Nat.le_of_ble_eq_true rfl) ?_
  rintro _ m ⟨rfl, rfl⟩
  refine And.intro (fun h1 => hno m h (fun q => b2i_0.mp h1 q.1)) (fun h1 => ?_)
  have h1 := b2i_n.mp h1
  refine kCall_mono (c_X12_in _ m b 1 20) (Nat.le_of_ble_eq_true rfl) ?_
  rintro _ m ⟨rfl, rfl⟩
  refine And.intro (fun h2 => ?_) (fun h2 => hno m h (fun q => b2i_0.mp h2 q.2))
  have h2 := b2i_n.mp h2
  rw [if_pos ⟨h1, h2⟩] at hT
  clear hno
  refine kCall_mono (f_X12_takeAllOff X m h.2.2.2.2) (Nat.le_of_ble_eq_true rfl) ?_
  rintro _ m ⟨rfl, rfl⟩
  refine kCall_mono (f_X12_ripAll X m h.2.2.2.2) (Nat.le_of_ble_eq_true rfl) ?_
  rintro _ m ⟨rfl, rfl⟩
  refine kCall_mono (f_X12_plainly X m h 1 (Or.inr rfl)) (Nat.le_of_ble_eq_true rfl) ?_
  rintro _ m2 ⟨rfl, n2, -⟩
  have loop : ∀ (k : Nat) (i : Int) (m' : Mem), i + k = 324 → 0 ≤ i → nR w d l m' → (∀ j : Int, 0 ≤ j → j < i → m' 82 j = 0) → kW (eX X) 5 M_X12_press T 3 [some (vR 54), some (vI a), some (vI b), some (vI i), none, none] [] m' := by
    intro k
    induction k with
    | zero =>
      intro i m' hi h0 hn hz
      have : i = 324 := by omega
      subst this
      refine kW_go ok_X12_press [3] 20 ?_
      refine And.intro (fun _ => ?_) (fun h => absurd h (by omega))
      refine And.intro (fun h => absurd h (by omega)) (fun _ => And.intro (fun h => absurd h (by decide)) (fun _ => ?_))
      refine kCall_mono (f_X12_turn X m' hn.2.2.2.2 b) (Nat.le_of_ble_eq_true rfl) ?_
      rintro _ m' ⟨rfl, rfl⟩
      refine And.intro (fun h => absurd h (by decide)) (fun _ => ?_)
      refine kCall_mono (f_X12_crowd X m' hn hz) (Nat.le_of_ble_eq_true rfl) ?_
      rintro _ m3 ⟨rfl, n3⟩
      refine And.intro (fun h => absurd rfl h) (fun _ => ⟨by decide, ?_⟩)
      have hq : kCall (eX X) 5 M_X12_plainly.1 [vR 54, vI 1] m3 (fun r m' => r = none ∧ T (some (vI 1)) m') := by
        refine kCall_mono (f_X12_plainly X m3 n3 1 (Or.inr rfl)) (Nat.le_of_ble_eq_true rfl) ?_
        rintro _ m4 ⟨rfl, n4, -⟩
        exact ⟨rfl, hT _ _ ⟨rfl, n4⟩⟩
      refine And.intro (fun _ => And.intro (fun _ => ?_) (fun h => absurd h (by decide))) (fun _ => And.intro (fun _ => And.intro (fun _ => ?_) (fun h => absurd h (by decide))) (fun h => absurd rfl h))
      · refine kCall_mono hq (Nat.le_of_ble_eq_true rfl) ?_
        rintro _ m4 ⟨rfl, t4⟩
        exact t4
      · refine kCall_mono hq (Nat.le_of_ble_eq_true rfl) ?_
        rintro _ m4 ⟨rfl, t4⟩
        exact t4
    | succ k ih =>
      intro i m' hi h0 hn hz
      refine kW_go ok_X12_press [3] 20 ?_
      refine And.intro (fun h => absurd h (by omega)) (fun _ => ⟨⟨h0, by omega⟩, by constructor <;> omega, ih (i + 1) _ (by omega) (by omega) (nR_mset hn (by decide)) (fun j h1 h2 => ?_)⟩)
      rw [k_mset_at]
      split
      · rfl
      · exact hz j h1 (by omega)
  exact ⟨Or.inr rfl, loop 324 0 _ (by omega) (by omega) (nR_fset n2 (k := 30) (by decide)) (fun j h1 h2 => by omega)⟩
theorem f_X12_lengths (X : Xv) (m : Mem) (h : noR m) (a : Int) : kCall (eX X) 3 M_X12_lengths.1 [vR 54, vI a] m (cP 0 m) := by
  refine kCall_of ok_X12_lengths rfl (Nat.le_of_ble_eq_true rfl) ?_
  refine kW_go ok_X12_lengths [1] 20 ?_
  refine kW_go ok_X12_lengths [] 20 ?_
  refine And.intro (fun _ => ⟨rfl, rfl⟩) (fun hh => ?_)
  have hh : 0 < m 54 26 := hh
  have := h.2
  omega
theorem f_X12_besideOrder (X : Xv) (m : Mem) {w d l : Int} (h : nR w d l m) (a : Int) : kCall (eX X) 5 M_X12_besideOrder.1 [vR 54, vI a] m (fun r m' => r = some (vI 0) ∧ nR w d l m') := by
  refine kCall_ofT ok_X12_besideOrder rfl (Nat.le_of_ble_eq_true rfl) (fun T hT => ?_)
  refine kW_go ok_X12_besideOrder [] 20 ?_
  refine kCall_mono (f_X12_order X m h) (Nat.le_of_ble_eq_true rfl) ?_
  rintro _ m2 ⟨rfl, n2⟩
  refine And.intro (fun _ => ?_) (fun hh => ?_)
  · refine And.intro (fun _ => And.intro (fun _ => ?_) (fun _ => ?_)) (fun _ => hT _ _ ⟨rfl, n2⟩)
    · refine kCall_mono (f_X12_lengths X m2 n2.2.2.2.2 0) (Nat.le_of_ble_eq_true rfl) ?_
      rintro _ m3 ⟨rfl, rfl⟩
      exact hT _ _ ⟨rfl, n2⟩
    · refine kCall_mono (f_X12_lengths X m2 n2.2.2.2.2 1) (Nat.le_of_ble_eq_true rfl) ?_
      rintro _ m3 ⟨rfl, rfl⟩
      exact hT _ _ ⟨rfl, n2⟩
  · have hh : 0 < m2 54 26 := hh
    have := n2.2.2.2.2.2
    omega
theorem f_X12_besidePress (X : Xv) (m : Mem) {w d l : Int} (h : nR w d l m) (a b c : Int) (hab : (1 ≤ a ∧ a ≤ 20) ∧ (1 ≤ b ∧ b ≤ 20)) : kCall (eX X) 7 M_X12_besidePress.1 [vR 54, vI a, vI b, vI c] m (fun r m' => r = some (vI (if c = 3 then 1 else 0)) ∧ nR w d l m') := by
  refine kCall_ofT ok_X12_besidePress rfl (Nat.le_of_ble_eq_true rfl) (fun T hT => ?_)
  refine kW_go ok_X12_besidePress [] 20 ?_
  refine kCall_mono (f_X12_press X m h a b) (Nat.le_of_ble_eq_true rfl) ?_
  rw [if_pos hab]
  rintro _ m2 ⟨rfl, n2⟩
  refine And.intro (fun h => absurd h (by decide)) (fun _ => ?_)
  refine And.intro (fun h3 => ?_) (fun h3 => ?_)
  · rw [if_neg h3] at hT
    refine And.intro (fun h => absurd h (by decide)) (fun _ => And.intro (fun _ => ?_) (fun _ => ?_))
    · refine kCall_mono (f_X12_lengths X m2 n2.2.2.2.2 0) (Nat.le_of_ble_eq_true rfl) ?_
      rintro _ m4 ⟨rfl, rfl⟩
      exact hT _ _ ⟨rfl, n2⟩
    · refine kCall_mono (f_X12_lengths X m2 n2.2.2.2.2 1) (Nat.le_of_ble_eq_true rfl) ?_
      rintro _ m4 ⟨rfl, rfl⟩
      exact hT _ _ ⟨rfl, n2⟩
  · rw [if_pos h3] at hT
    exact And.intro (fun h => absurd h (by decide)) (fun _ => hT _ _ ⟨rfl, n2⟩)
theorem f_X12_beside (X : Xv) (m : Mem) {w d l : Int} (h : nR w d l m) (a b c : Int) : kCall (eX X) 8 M_X12_beside.1 [vR 54, vI a, vI b, vI c] m (fun r m' => r = some (vI (besN a b c))) := by
  refine kCall_ofT ok_X12_beside rfl (Nat.le_of_ble_eq_true rfl) (fun T hT => ?_)
  have hno : ∀ m', ¬ (((1 ≤ a ∧ a ≤ 20) ∧ (1 ≤ b ∧ b ≤ 20)) ∧ (0 ≤ c ∧ c ≤ 5)) → T (some (vI (-1))) m' := fun m' h => hT _ _ (show some (vI (-1)) = some (vI (besN a b c)) by unfold besN; rw [if_neg h])
  have hyes : (((1 ≤ a ∧ a ≤ 20) ∧ (1 ≤ b ∧ b ≤ 20)) ∧ (0 ≤ c ∧ c ≤ 5)) → ∀ m', T (some (vI (if c = 3 then 1 else 0))) m' := fun h m' => hT _ _ (show some (vI (if c = 3 then 1 else 0)) = some (vI (besN a b c)) by unfold besN; rw [if_pos h])
  refine kW_go ok_X12_beside [] 20 ?_
  refine kCall_mono (c_X12_in _ m a 1 20) (Nat.le_of_ble_eq_true rfl) ?_
  rintro _ m ⟨rfl, rfl⟩
  refine And.intro (fun h1 => hno m (fun q => b2i_0.mp h1 q.1.1)) (fun h1 => ?_)
  have h1 := b2i_n.mp h1
  refine kCall_mono (c_X12_in _ m b 1 20) (Nat.le_of_ble_eq_true rfl) ?_
  rintro _ m ⟨rfl, rfl⟩
  refine And.intro (fun h2 => hno m (fun q => b2i_0.mp h2 q.1.2)) (fun h2 => ?_)
  have h2 := b2i_n.mp h2
  refine kCall_mono (c_X12_in _ m c 0 5) (Nat.le_of_ble_eq_true rfl) ?_
  rintro _ m ⟨rfl, rfl⟩
  refine And.intro (fun h3 => ?_) (fun h3 => hno m (fun q => b2i_0.mp h3 q.2))
  have h3 := b2i_n.mp h3
  have hok := And.intro (And.intro h1 h2) h3
  refine kCall_mono (f_X12_keepNow X m h.2.2.2.2) (Nat.le_of_ble_eq_true rfl) ?_
  rintro _ m ⟨rfl, rfl⟩
  refine And.intro (fun h4 => ?_) (fun h4 => ?_)
  · refine kCall_mono (f_X12_besidePress X m h a b c ⟨h1, h2⟩) (Nat.le_of_ble_eq_true rfl) ?_
    rintro _ m2 ⟨rfl, n2⟩
    refine kCall_mono (f_X12_bringNow X m2 n2.2.2.2.2) (Nat.le_of_ble_eq_true rfl) ?_
    rintro _ m3 ⟨rfl, rfl⟩
    exact hyes hok _
  · refine kCall_mono (f_X12_besideOrder X m h c) (Nat.le_of_ble_eq_true rfl) ?_
    rintro _ m2 ⟨rfl, n2⟩
    refine kCall_mono (f_X12_bringNow X m2 n2.2.2.2.2) (Nat.le_of_ble_eq_true rfl) ?_
    rintro _ m3 ⟨rfl, rfl⟩
    have := hyes hok m3
    rw [if_neg (by omega)] at this
    exact this
theorem f_X12_steady (X : Xv) (m : Mem) {w d l : Int} (h : nR w d l m) : kCall (eX X) 6 M_X12_steady.1 [vR 54] m (fun r m' => r = some (vI 1)) := by
  refine kCall_ofT ok_X12_steady rfl (Nat.le_of_ble_eq_true rfl) (fun T hT => ?_)
  refine kW_go ok_X12_steady [] 20 ?_
  refine kCall_mono (f_X12_keepNow X m h.2.2.2.2) (Nat.le_of_ble_eq_true rfl) ?_
  rintro _ m ⟨rfl, rfl⟩
  refine kCall_mono (f_X12_order X m h) (Nat.le_of_ble_eq_true rfl) ?_
  rintro _ m2 ⟨rfl, n2⟩
  refine And.intro (fun _ => ?_) (fun hh => ?_)
  · refine kCall_mono (f_X12_bringNow X m2 n2.2.2.2.2) (Nat.le_of_ble_eq_true rfl) ?_
    rintro _ m3 ⟨rfl, rfl⟩
    exact hT _ _ ⟨Or.inr rfl, rfl⟩
  · have hh : 0 < m2 54 26 := hh
    have := n2.2.2.2.2.2
    omega
theorem f_X12_uniteAll (X : Xv) (m : Mem) {w d l : Int} (h : nR w d l m) : kCall (eX X) 5 M_X12_uniteAll.1 [vR 54] m (fun r m' => r = none ∧ nR w d l m') := by
  refine kCall_ofT ok_X12_uniteAll rfl (Nat.le_of_ble_eq_true rfl) (fun T hT => ?_)
  have loop : ∀ (k : Nat) (i : Int) (m' : Mem), i + k = 2592 → 0 ≤ i → nR w d l m' → kW (eX X) 4 M_X12_uniteAll T 1 [some (vR 54), some (vI i), none, none] [] m' := by
    intro k
    induction k with
    | zero =>
      intro i m' hi h0 hn
      refine kW_go ok_X12_uniteAll [1, 4] 20 ?_
      refine And.intro (fun _ => And.intro (fun _ => hT _ _ ⟨rfl, hn⟩) (fun hh => ?_)) (fun h => absurd h (by omega))
      have hh : 0 < m' 54 26 := hh
      have := hn.2.2.2.2.2
      omega
    | succ k ih =>
      intro i m' hi h0 hn
      refine kW_go ok_X12_uniteAll [1, 3] 20 ?_
      exact And.intro (fun h => absurd h (by omega)) (fun _ => ⟨⟨h0, by omega⟩, by constructor <;> omega, ih (i + 1) _ (by omega) (by omega) (nR_mset hn (by decide))⟩)
  refine kW_go ok_X12_uniteAll [1] 20 ?_
  exact loop 2592 0 m (by omega) (by omega) h
theorem f_X12_netlist (X : Xv) (m : Mem) {w d l : Int} (h : nR w d l m) (a : Int) : kCall (eX X) 6 M_X12_netlist.1 [vR 54, vI a] m (fun r m' => r = some (vI (if 0 ≤ a ∧ a ≤ 1 then 0 else -1))) := by
  refine kCall_ofT ok_X12_netlist rfl (Nat.le_of_ble_eq_true rfl) (fun T hT => ?_)
  refine kW_go ok_X12_netlist [3] 20 ?_
  refine kCall_mono (c_X12_in _ m a 0 1) (Nat.le_of_ble_eq_true rfl) ?_
  rintro _ m ⟨rfl, rfl⟩
  refine And.intro (fun h3 => ?_) (fun h3 => hT _ _ (show some (vI (-1)) = _ by rw [if_neg (b2i_0.mp h3)]))
  rw [if_pos (b2i_n.mp h3)] at hT
  refine kCall_mono (f_X12_uniteAll X m h) (Nat.le_of_ble_eq_true rfl) ?_
  rintro _ m2 ⟨rfl, n2⟩
  refine And.intro (fun _ => hT _ _ rfl) (fun hh => ?_)
  have hh : 0 < m2 54 26 := hh
  have := n2.2.2.2.2.2
  omega
theorem f_X12_test (X : Xv) (m : Mem) {w d l : Int} (hD : okD w d l) (h : nR w d l m) (a : Int) : kCall (eX X) 6 M_X12_test.1 [vR 54, vI a] m (fun r m' => r = some (vI (if 0 ≤ a ∧ a < l then 0 else -1))) := by
  refine kCall_ofT ok_X12_test rfl (Nat.le_of_ble_eq_true rfl) (fun T hT => ?_)
  have g2 : m 54 3 = l := h.2.2.1
  refine kW_go ok_X12_test [3] 20 ?_
  show inR (m 54 3 - 1) ∧ _
  refine ⟨by rw [g2]; constructor <;> omega, ?_⟩
  refine kCall_mono (c_X12_in _ m a 0 (m 54 3 - 1)) (Nat.le_of_ble_eq_true rfl) ?_
  rintro _ m ⟨rfl, rfl⟩
  refine And.intro (fun h3 => ?_) (fun h3 => hT _ _ (show some (vI (-1)) = _ by rw [if_neg (fun q => b2i_0.mp h3 (by omega))]))
  rw [if_pos (by have := b2i_n.mp h3; omega)] at hT
  refine And.intro (fun _ => hT _ _ rfl) (fun hh => ?_)
  have hh : 0 < m 54 26 := hh
  have := h.2.2.2.2.2
  omega
theorem f_X12_findWander (X : Xv) (m : Mem) {w d l : Int} (h : nR w d l m) (a b : Int) : kCall (eX X) 5 M_X12_findWander.1 [vR 54, vI a, vI b] m (fun r m' => r = none ∧ m' 54 47 = 0 ∧ m' 54 48 = 0 ∧ nR w d l m') := by
  refine kCall_of ok_X12_findWander rfl (Nat.le_of_ble_eq_true rfl) ?_
  refine kW_go ok_X12_findWander [1] 20 ?_
  refine kW_go ok_X12_findWander [2, 4] 20 ?_
  have n2 : nR w d l (fset (fset m 54 47 0) 54 48 0) := nR_fset (nR_fset h (by decide)) (by decide)
  refine And.intro (fun _ => ⟨rfl, rfl, rfl, n2⟩) (fun hh => ?_)
  have hh : 0 < fset (fset m 54 47 0) 54 48 0 54 26 := hh
  have := n2.2.2.2.2.2
  omega
theorem f_X12_wander (X : Xv) (m : Mem) {w d l : Int} (h : nR w d l m) (a b c : Int) : kCall (eX X) 6 M_X12_wander.1 [vR 54, vI a, vI b, vI c] m (fun r m' => r = some (vI (if (-3 ≤ a ∧ a ≤ 3) ∧ (-3 ≤ b ∧ b ≤ 3) ∧ (0 ≤ c ∧ c ≤ 1) then 0 else -1))) := by
  refine kCall_ofT ok_X12_wander rfl (Nat.le_of_ble_eq_true rfl) (fun T hT => ?_)
  have hno : ∀ m', ¬ ((-3 ≤ a ∧ a ≤ 3) ∧ (-3 ≤ b ∧ b ≤ 3) ∧ (0 ≤ c ∧ c ≤ 1)) → T (some (vI (-1))) m' := fun m' h => hT _ _ (show some (vI (-1)) = _ by rw [if_neg h])
  refine kW_go ok_X12_wander [] 20 ?_
  refine kCall_mono (c_X12_in _ m a (-3) 3) (Nat.le_of_ble_eq_true rfl) ?_
  rintro _ m ⟨rfl, rfl⟩
  refine And.intro (fun h1 => hno m (fun q => b2i_0.mp h1 q.1)) (fun h1 => ?_)
  refine kCall_mono (c_X12_in _ m b (-3) 3) (Nat.le_of_ble_eq_true rfl) ?_
  rintro _ m ⟨rfl, rfl⟩
  refine And.intro (fun h2 => hno m (fun q => b2i_0.mp h2 q.2.1)) (fun h2 => ?_)
  refine kCall_mono (c_X12_in _ m c 0 1) (Nat.le_of_ble_eq_true rfl) ?_
  rintro _ m ⟨rfl, rfl⟩
  refine And.intro (fun h3 => ?_) (fun h3 => hno m (fun q => b2i_0.mp h3 q.2.2))
  rw [if_pos ⟨b2i_n.mp h1, b2i_n.mp h2, b2i_n.mp h3⟩] at hT
  refine kCall_mono (f_X12_findWander X m h a b) (Nat.le_of_ble_eq_true rfl) ?_
  rintro _ m2 ⟨rfl, s1, s2, n2⟩
  exact And.intro (fun _ => hT _ _ (congrArg (fun z => some (vI z)) s2)) (fun _ => hT _ _ (congrArg (fun z => some (vI z)) s1))
theorem f_X12_worst (X : Xv) (m : Mem) {w d l : Int} (h : nR w d l m) (a b : Int) : kCall (eX X) 7 M_X12_worst.1 [vR 54, vI a, vI b] m (fun r m' => r = some (vI (worN a b))) := by
  refine kCall_ofT ok_X12_worst rfl (Nat.le_of_ble_eq_true rfl) (fun T hT => ?_)
  have hno : ∀ m', ¬ ((0 ≤ a ∧ a ≤ 3) ∧ (0 ≤ b ∧ b ≤ 2)) → T (some (vI (-1000))) m' := fun m' h => hT _ _ (show some (vI (-1000)) = _ by unfold worN; rw [if_neg h])
  refine kW_go ok_X12_worst [3, 4] 20 ?_
  refine kCall_mono (c_X12_in _ m a 0 3) (Nat.le_of_ble_eq_true rfl) ?_
  rintro _ m ⟨rfl, rfl⟩
  refine And.intro (fun h1 => hno m (fun q => b2i_0.mp h1 q.1)) (fun h1 => ?_)
  have ha := b2i_n.mp h1
  refine kCall_mono (c_X12_in _ m b 0 2) (Nat.le_of_ble_eq_true rfl) ?_
  rintro _ m ⟨rfl, rfl⟩
  refine And.intro (fun h2 => ?_) (fun h2 => hno m (fun q => b2i_0.mp h2 q.2))
  have hb := b2i_n.mp h2
  have hw : worN a b = if b = 2 then 0 else -a := if_pos ⟨ha, hb⟩
  rw [hw] at hT
  have inner : ∀ (i6 : Int), -a ≤ i6 → i6 ≤ a → (∀ m', nR w d l m' → kW (eX X) 6 M_X12_worst T 3 [some (vR 54), some (vI a), some (vI b), some (vI (-a)), some (vI (-a)), some (vI 0), some (vI (i6 + 1)), some (vI (a + 1))] [] m') →
      ∀ (k : Nat) (i7 i3 i4 i5 : Int) (m' : Mem), i7 + k = a + 1 → -a ≤ i7 → ((i5 = 0 ∧ i3 = -a ∧ i4 = -a) ∨ (i5 = -1 ∧ i6 = -a ∧ i7 = -a)) → nR w d l m' → kW (eX X) 6 M_X12_worst T 4 [some (vR 54), some (vI a), some (vI b), some (vI i3), some (vI i4), some (vI i5), some (vI i6), some (vI i7)] [] m' := by
    intro i6 h6 h6' hout k
    induction k with
    | zero =>
      intro i7 i3 i4 i5 m' h7 h7' hs hf
      have : i7 = a + 1 := by omega
      subst this
      rcases hs with ⟨rfl, rfl, rfl⟩ | ⟨-, -, h⟩
      · refine kW_go ok_X12_worst [3, 4] 20 ?_
        exact And.intro (fun _ => ⟨by constructor <;> omega, hout m' hf⟩) (fun h => absurd h (by omega))
      · omega
    | succ k ih =>
      intro i7 i3 i4 i5 m' h7 h7' hs hf
      refine kW_go ok_X12_worst [3, 4] 20 ?_
      refine And.intro (fun h => absurd h (by omega)) (fun _ => ?_)
      refine kCall_mono (f_X12_findWander X m' hf i6 i7) (Nat.le_of_ble_eq_true rfl) ?_
      rintro _ m2 ⟨rfl, s1, s2, hf2⟩
      show inR (m2 54 47 + m2 54 48) ∧ ((m2 54 47 + m2 54 48 ≤ i5 → inR (i7 + 1) ∧ kW (eX X) 6 M_X12_worst T 4 [some (vR 54), some (vI a), some (vI b), some (vI i3), some (vI i4), some (vI i5), some (vI i6), some (vI (i7 + 1))] [] m2) ∧ (i5 < m2 54 47 + m2 54 48 → inR (m2 54 47 + m2 54 48) ∧ inR (i7 + 1) ∧ kW (eX X) 6 M_X12_worst T 4 [some (vR 54), some (vI a), some (vI b), some (vI i6), some (vI i7), some (vI (m2 54 47 + m2 54 48)), some (vI i6), some (vI (i7 + 1))] [] m2))
      rw [s1, s2, Int.add_zero]
      refine ⟨by constructor <;> omega, fun h => ⟨by constructor <;> omega, ih (i7 + 1) i3 i4 i5 m2 (by omega) (by omega) (Or.inl ?_) hf2⟩, fun h => ⟨by constructor <;> omega, by constructor <;> omega, ih (i7 + 1) i6 i7 0 m2 (by omega) (by omega) (Or.inl ?_) hf2⟩⟩
      · rcases hs with hs | ⟨hs, -, -⟩
        · exact hs
        · omega
      · rcases hs with ⟨hs, -, -⟩ | ⟨-, q1, q2⟩
        · omega
        · exact ⟨rfl, q1, q2⟩
  have outer : ∀ (k : Nat) (i6 i3 i4 i5 : Int) (m' : Mem) (x7 : Option AV), i6 + k = a + 1 → -a ≤ i6 → ((i5 = 0 ∧ i3 = -a ∧ i4 = -a) ∨ (i5 = -1 ∧ i6 = -a)) → nR w d l m' → kW (eX X) 6 M_X12_worst T 3 [some (vR 54), some (vI a), some (vI b), some (vI i3), some (vI i4), some (vI i5), some (vI i6), x7] [] m' := by
    intro k
    induction k with
    | zero =>
      intro i6 i3 i4 i5 m' x7 h6 h6' hs hf
      have : i6 = a + 1 := by omega
      subst this
      rcases hs with ⟨rfl, rfl, rfl⟩ | ⟨-, h⟩
      · refine kW_go ok_X12_worst [3, 4] 20 ?_
        refine And.intro (fun _ => And.intro (fun h0 => And.intro (fun h1 => hT _ _ (show some (vI 0) = _ by rw [if_pos (by omega)])) (fun h1 => hT _ _ (show some (vI (-a)) = _ by rw [if_neg (by omega)]))) (fun h0 => hT _ _ (show some (vI (-a)) = _ by rw [if_neg (by omega)]))) (fun h => absurd h (by omega))
      · omega
    | succ k ih =>
      intro i6 i3 i4 i5 m' x7 h6 h6' hs hf
      refine kW_go ok_X12_worst [3, 4] 20 ?_
      refine And.intro (fun h => absurd h (by omega)) (fun _ => ?_)
      refine ⟨by constructor <;> omega, ?_⟩
      refine inner i6 (by omega) (by omega) (fun m2 hf2 => ih (i6 + 1) (-a) (-a) 0 m2 _ (by omega) (by omega) (Or.inl ⟨rfl, rfl, rfl⟩) hf2) (a + 1 + a).toNat (-a) i3 i4 i5 m' (by omega) (by omega) ?_ hf
      rcases hs with hs | ⟨q1, q2⟩
      · exact Or.inl hs
      · exact Or.inr ⟨q1, q2, rfl⟩
  exact ⟨by constructor <;> omega, outer (a + 1 + a).toNat (-a) 0 0 (-1) m none (by omega) (by omega) (Or.inr ⟨rfl, rfl⟩) h⟩
theorem f_X12_copper (X : Xv) (m : Mem) {w d l : Int} (hD : okD w d l) (h : nR w d l m) (x y z : Int) : kCall (eX X) 4 M_X12_copper.1 [vR 54, vI x, vI y, vI z] m (cP (if (0 ≤ x ∧ x < w) ∧ (0 ≤ y ∧ y < d) ∧ (0 ≤ z ∧ z < l) then 0 else -1) m) := by
  refine kCall_ofT ok_X12_copper rfl (Nat.le_of_ble_eq_true rfl) (fun T hT => ?_)
  refine kW_go ok_X12_copper [] 20 ?_
  refine kCall_mono (c_X12_isCell X m (nR_dim hD h) x y z) (Nat.le_of_ble_eq_true rfl) ?_
  rintro _ m ⟨rfl, rfl⟩
  refine And.intro (fun h3 => ?_) (fun h3 => hT _ _ ⟨by rw [if_neg (b2i_0.mp h3)], rfl⟩)
  rw [if_pos (b2i_n.mp h3)] at hT
  refine And.intro (fun _ => hT _ _ ⟨rfl, rfl⟩) (fun hh => ?_)
  have hh : 0 < m 54 26 := hh
  have := h.2.2.2.2.2
  omega
