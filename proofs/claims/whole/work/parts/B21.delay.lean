/-! DELAY alike -/
def dlR (r : Mem) (a b : Int) : Int := if a / 81 = b / 81 then r 88 (a / 81) else r 88 4
theorem c_X12_delayed (X : Xv) (m : Mem) (a b : Int) (ha : 0 ≤ a ∧ a < 324) (hb : 0 ≤ b ∧ b < 324) : kCall (eX X) 2 M_X12_delayed.1 [vR 54, vI a, vI b] m (cP (dlR m a b) m) := by
  refine kCall_of ok_X12_delayed rfl (Nat.le_of_ble_eq_true rfl) ?_
  refine kW_go ok_X12_delayed [] 20 ?_
  refine kCall_mono (c_X12_layerOf (eX X) m a ha.1 (by omega)) (Nat.le_of_ble_eq_true rfl) ?_
  rintro _ m2 ⟨rfl, rfl⟩
  refine kCall_mono (c_X12_layerOf (eX X) m2 b hb.1 (by omega)) (Nat.le_of_ble_eq_true rfl) ?_
  rintro _ m3 ⟨rfl, rfl⟩
  refine And.intro (fun h => ?_) (fun h => ?_)
  · refine ⟨⟨by decide, by decide⟩, ?_, rfl⟩
    unfold dlR
    rw [if_neg h]
  · refine kCall_mono (c_X12_layerOf (eX X) m3 a ha.1 (by omega)) (Nat.le_of_ble_eq_true rfl) ?_
    rintro _ m4 ⟨rfl, rfl⟩
    refine ⟨⟨by omega, by show a / 81 < 5; omega⟩, ?_, rfl⟩
    unfold dlR
    rw [if_pos h]
/-- a wire of the net lies where the trace does -/
def wrP (r : Mem) (n a b : Int) : Prop := wrR r n (min a b) (max a b)
theorem wrP_sy {r : Mem} {n a b : Int} : wrP r n a b ↔ wrP r n b a := by
  unfold wrP
  rw [Int.min_comm, Int.max_comm]
theorem wrP_bit {w d l x k : Int} {c r : Mem} {n : Int} (hD : okD w d l) (hR : RRk w d l c r n) (hx : inC w d l x) (hk : 0 ≤ k ∧ k < 6) (hne : nx w d l x k ≠ -1) : wrP r n (cR w d x) (cR w d (nx w d l x k)) ↔ bt (c 18 (n * (w * d * l) + x)) k.toNat = true := by
  obtain ⟨h1, h2, -⟩ := hR
  rw [h1.2 x k hx hk hne]
  constructor
  · rintro ⟨i, hi, e1, e2⟩
    refine ⟨i, hi, ?_⟩
    by_cases hlt : cR w d x ≤ cR w d (nx w d l x k)
    · exact Or.inl ⟨by show r 66 (1200 * n + i) = _; omega, by show r 67 (1200 * n + i) = _; omega⟩
    · exact Or.inr ⟨by show r 66 (1200 * n + i) = _; omega, by show r 67 (1200 * n + i) = _; omega⟩
  · rintro ⟨i, hi, ⟨e1, e2⟩ | ⟨e1, e2⟩⟩
    · have e1 : r 66 (1200 * n + i) = _ := e1
      have e2 : r 67 (1200 * n + i) = _ := e2
      have := h2 i hi
      exact ⟨i, hi, by omega, by omega⟩
    · have e1 : r 66 (1200 * n + i) = _ := e1
      have e2 : r 67 (1200 * n + i) = _ := e2
      have := h2 i hi
      exact ⟨i, hi, by omega, by omega⟩
theorem c_X12_isFirstThere (X : Xv) (m : Mem) {w d l : Int} (n i : Int) (hn : 0 ≤ n ∧ n < 8) (hL : okL w d l (fun j => m 69 (2400 * n + j)) (fun j => m 70 (2400 * n + j)) (m 68 n)) (h68 : m 68 n ≤ 972) (h65 : 0 ≤ m 65 n ∧ m 65 n ≤ 1200) (hi : 0 ≤ i ∧ i < m 68 n) : kCall (eX X) 2 M_X12_isFirstThere.1 [vR 54, vI n, vI i] m (bP (¬ wrP m n (m 69 (2400 * n + i)) (m 70 (2400 * n + i))) m) := by
  have hnb : 0 ≤ n ∧ n < ((8 : Nat) : Int) := hn
  refine kCall_ofT ok_X12_isFirstThere rfl (Nat.le_of_ble_eq_true rfl) (fun T hT => ?_)
  have loop : ∀ (k : Nat) (j : Int) (x6 x7 : Option AV), j + k = i → 0 ≤ j → kW (eX X) 1 M_X12_isFirstThere T 1 [some (vR 54), some (vI n), some (vI i), some (vI (min (m 69 (2400 * n + i)) (m 70 (2400 * n + i)))), some (vI (max (m 69 (2400 * n + i)) (m 70 (2400 * n + i)))), some (vI j), x6, x7] [] m := by
    intro k
    induction k with
    | zero =>
      intro j x6 x7 hjk h0
      refine kW_go ok_X12_isFirstThere [1] 20 ?_
      refine And.intro (fun _ => ?_) (fun h => absurd h (by omega))
      refine kCall_mono (c_X12_hasWire X m n _ _ hn h65) (Nat.le_of_ble_eq_true rfl) ?_
      rintro _ m2 ⟨⟨hw, rfl⟩ | ⟨hw, rfl⟩, rfl⟩
      · exact And.intro (fun _ => hT _ _ ⟨Or.inl rfl, Or.inr ⟨fun z => z hw, rfl⟩, rfl⟩) (fun h => absurd h (by decide))
      · exact And.intro (fun h => absurd rfl h) (fun _ => hT _ _ ⟨Or.inr rfl, Or.inl ⟨hw, rfl⟩, rfl⟩)
    | succ k ih =>
      intro j x6 x7 hjk h0
      have hix : 0 ≤ 2400 * n + j ∧ 2400 * n + j < ((19200 : Nat) : Int) := by omega
      have hd := hL.2.2 j i (by omega)
      have hd : ¬ (m 69 (2400 * n + j) = m 69 (2400 * n + i) ∧ m 70 (2400 * n + j) = m 70 (2400 * n + i)) ∧ ¬ (m 69 (2400 * n + j) = m 70 (2400 * n + i) ∧ m 70 (2400 * n + j) = m 69 (2400 * n + i)) := hd
      have hnext := fun a b => ih (j + 1) a b (by omega) (by omega)
      refine kW_go ok_X12_isFirstThere [1] 20 ?_
      refine And.intro (fun h => absurd h (by omega)) (fun _ => ⟨by constructor <;> omega, by constructor <;> omega, hix, by constructor <;> omega, by constructor <;> omega, hix, ?_⟩)
      refine And.intro (fun _ => ⟨by constructor <;> omega, hnext _ _⟩) (fun h1 => And.intro (fun _ => ⟨by constructor <;> omega, hnext _ _⟩) (fun h2 => ?_))
      exfalso
      generalize m 69 (2400 * n + j) = a at *
      generalize m 70 (2400 * n + j) = b at *
      generalize m 69 (2400 * n + i) = e at *
      generalize m 70 (2400 * n + i) = f at *
      omega
  have hix : 0 ≤ 2400 * n + i ∧ 2400 * n + i < ((19200 : Nat) : Int) := by omega
  refine kW_go ok_X12_isFirstThere [1] 20 ?_
  exact ⟨by constructor <;> omega, by constructor <;> omega, hix, by constructor <;> omega, by constructor <;> omega, hix, by constructor <;> omega, by constructor <;> omega, hix, by constructor <;> omega, by constructor <;> omega, hix, loop i.toNat 0 none none (by omega) (by omega)⟩
/-- what a move costs in time, told in the class's memory -/
def dlC (w d : Int) (c : Mem) (x k : Int) : Int := if k = 4 then c 47 0 else c 47 (gZ w d x + 1)
def dlyA (w d : Int) (N : Nat) (c : Mem) (n : Int) : Int := sumN (fun x => r3 (kor (c 18 (n * (N : Int) + x)) (c 19 (n * (N : Int) + x))) (dlC w d c x)) N
theorem r3_or (a b : Int) (h : Int → Int) : r3 (kor a b) h = r3 a h + r3 b (fun k => if bt a k.toNat = true then 0 else h k) := by
  unfold r3
  dsimp only
  rw [bt_or, bt_or, bt_or, show ((1 : Int).toNat) = 1 from rfl, show ((2 : Int).toNat) = 2 from rfl, show ((4 : Int).toNat) = 4 from rfl]
  cases bt a 1 <;> cases bt a 2 <;> cases bt a 4 <;> cases bt b 1 <;> cases bt b 2 <;> cases bt b 4 <;> simp <;> omega
theorem r3_in {v : Int} {h : Int → Int} {B : Int} (hb : ∀ k, 0 ≤ h k ∧ h k ≤ B) : 0 ≤ r3 v h ∧ r3 v h ≤ B + B + B := by
  have h1 := hb 1
  have h2 := hb 2
  have h4 := hb 4
  unfold r3
  split <;> split <;> split <;> omega
/-- the delay, told by the reference's lists -/
theorem dly_R {w d l : Int} (hD : okD w d l) {N : Nat} (hN : w * d * l = (N : Int)) {c r : Mem} {n : Int} (hn : 0 ≤ n ∧ n < 8) (hW : WFn w d l c n) (hR : RRk w d l c r n) (h88 : r 88 4 = c 47 0 ∧ ∀ k : Int, (0 ≤ k ∧ k < l) → r 88 k = c 47 (k + 1)) : sumN (fun i => dlR r (r 66 (1200 * n + i)) (r 67 (1200 * n + i))) (r 65 n).toNat + sumN (fun i => iv (¬ wrP r n (r 69 (2400 * n + i)) (r 70 (2400 * n + i))) (dlR r (r 69 (2400 * n + i)) (r 70 (2400 * n + i)))) (r 68 n).toNat = dlyA w d N c n := by
  have hd : ∀ x k, inC w d l x → can k → nx w d l x k ≠ -1 → dlR r (cR w d x) (cR w d (nx w d l x k)) = dlC w d c x k ∧ dlR r (cR w d (nx w d l x k)) (cR w d x) = dlC w d c x k := by
    intro x k hx hk hne
    have hl := lay_eq hD hx hk hne
    have hg := (cR_geo hD hx).2.2.2
    have hz := gZ_in hD hx
    unfold dlR dlC
    by_cases e : k = 4
    · rw [if_pos e, if_neg (fun z => hl.mp z e), if_neg (fun z => hl.mp z.symm e)]
      exact ⟨h88.1, h88.1⟩
    · rw [if_neg e, if_pos (hl.mpr e), if_pos (hl.mpr e).symm, ← hl.mpr e, hg]
      exact ⟨h88.2 _ hz, h88.2 _ hz⟩
  have hzw : ∀ x, inC w d l x → ∀ k : Int, (0 ≤ k ∧ k < 6) → nx w d l x k = -1 → bt (c 18 (n * (w * d * l) + x)) k.toNat = false := fun x hx k hk hne => ((hW.1 x hx).2.1 k hk hne).1
  have hzt : ∀ x, inC w d l x → ∀ k : Int, (0 ≤ k ∧ k < 6) → nx w d l x k = -1 → bt (c 19 (n * (w * d * l) + x)) k.toNat = false := fun x hx k hk hne => ((hW.1 x hx).2.1 k hk hne).2
  have s1 := sum_rows hD hN hR.1 hzw (dlR r) (dlC w d c) hd
  have s2 := sum_rows hD hN hR.2.2.1 hzt (fun a b => iv (¬ wrP r n a b) (dlR r a b)) (fun x k => if bt (c 18 (n * (w * d * l) + x)) k.toNat = true then 0 else dlC w d c x k) (fun x k hx hk hne => by
    have hb := wrP_bit hD hR hx (can_in hk) hne
    have hdd := hd x k hx hk hne
    by_cases e : bt (c 18 (n * (w * d * l) + x)) k.toNat = true
    · rw [if_pos e, iv_f (fun z => z (hb.mpr e)), iv_f (fun z => z (wrP_sy.mp (hb.mpr e)))]
      exact ⟨rfl, rfl⟩
    · rw [if_neg e, iv_t (fun z => e (hb.mp z)), iv_t (fun z => e (hb.mp (wrP_sy.mp z)))]
      exact hdd)
  rw [show sumN (fun i => dlR r (r 66 (1200 * n + i)) (r 67 (1200 * n + i))) (r 65 n).toNat = _ from s1, show sumN (fun i => iv (¬ wrP r n (r 69 (2400 * n + i)) (r 70 (2400 * n + i))) (dlR r (r 69 (2400 * n + i)) (r 70 (2400 * n + i)))) (r 68 n).toNat = _ from s2, ← sumN_plus]
  unfold dlyA
  refine sumN_cong (fun x h0 h1 => ?_)
  rw [← hN, r3_or]
