/-! PAIR alike: the longest row beside, and the pair -/
theorem c_X9_longestBeside (X : Xv) (m : Mem) {w d l : Int} (hB : Bd X w d l m) (a b : Int) (ha : 0 ≤ a ∧ a < 8) (hb : 0 ≤ b ∧ b < 8) (hW : WFn w d l m a) {P K : Int → Int} {q : Int} (hT : TrL w d l (fun x => m 19 (a * (w * d * l) + x)) q P K) (hq : 0 ≤ q) (hp : m 14 (a * 4 + 1) = P 0) : kCall (eX X) 3 M_X9_longestBeside.1 [vR 51, vI a, vI b] m (fun r m' => r = some (vI (loM (fun i => byP w d l m b (P i)) (q.toNat + 1))) ∧ ∀ o, o ≠ 51 → o ≠ 52 → o ≠ 53 → m' o = m o) := by
  have hN := hB.2.1
  have hlen := trl_len hN hq hT
  have hc4 := okD_cells hB.1
  refine kCall_ofT ok_X9_longestBeside rfl (Nat.le_of_ble_eq_true rfl) (fun T hT' => ?_)
  refine kW_go ok_X9_longestBeside [1] 20 ?_
  refine kCall_mono (c_X9_follow X m hB a ha hW hT ⟨hq, hlen⟩ hp) (Nat.le_of_ble_eq_true rfl) ?_
  rintro _ m1 ⟨rfl, f, f5, f52, -⟩
  have hB1 : Bd X w d l m1 := Bd_same hB (fun o p q => f o (by omega) (by omega) (by omega))
  have hby : ∀ x, byP w d l m1 b x = byP w d l m b x := by
    intro x
    unfold byP cuN
    rw [f 16 (by decide) (by decide) (by decide), f 17 (by decide) (by decide) (by decide)]
  have loop : ∀ (k : Nat) (j : Nat), (j : Int) + k = q + 1 → kW (eX X) 2 M_X9_longestBeside T 1 [some (vR 51), some (vI a), some (vI b), some (vI (loM (fun i => byP w d l m b (P i)) j)), some (vI (loR (fun i => byP w d l m b (P i)) j)), some (vI (j : Int))] [] m1 := by
    intro k
    induction k with
    | zero =>
      intro j hjk
      have hj : j = q.toNat + 1 := by omega
      refine kW_go ok_X9_longestBeside [1] 20 ?_
      refine And.intro (fun _ => hT' _ _ ⟨by rw [hj], f⟩) (fun h => ?_)
      have h : (j : Int) ≤ m1 51 5 := h
      omega
    | succ k ih =>
      intro j hjk
      have hin := lo_in (fun i => byP w d l m b (P i)) j
      have hin1 := lo_in (fun i => byP w d l m b (P i)) (j + 1)
      have hx := hT.1 (j : Int) (by omega)
      have hih := ih (j + 1) (by omega)
      have hM : loM (fun i => byP w d l m b (P i)) (j + 1) = max (loM (fun i => byP w d l m b (P i)) j) (loR (fun i => byP w d l m b (P i)) (j + 1)) := rfl
      rw [hM] at hih
      refine kW_go ok_X9_longestBeside [1] 20 ?_
      refine And.intro (fun h => ?_) (fun _ => ⟨by show 0 ≤ (j : Int) ∧ (j : Int) < ((nC X + 1 : Nat) : Int); omega, ?_⟩)
      · have h : m1 51 5 < (j : Int) := h
        omega
      rw [f52 (j : Int) (by omega)]
      have hto := c_X9_touches X m1 hB1 (P (j : Int)) b hb hx
      rw [hby] at hto
      refine kCall_mono hto (Nat.le_of_ble_eq_true rfl) ?_
      rintro _ m2 ⟨⟨hh, rfl⟩ | ⟨hh, rfl⟩, rfl⟩
      · have e : loR (fun i => byP w d l m b (P i)) (j + 1) = loR (fun i => byP w d l m b (P i)) j + 1 := iv_t hh
        rw [e] at hih
        exact And.intro (fun h => absurd h (by decide)) (fun _ => ⟨by constructor <;> omega, by constructor <;> omega, hih⟩)
      · have e : loR (fun i => byP w d l m b (P i)) (j + 1) = 0 := iv_f hh
        rw [e] at hih
        exact And.intro (fun _ => ⟨by constructor <;> omega, hih⟩) (fun h => absurd rfl h)
  exact loop (q.toNat + 1) 0 (by omega)
theorem c_X12_longest (X : Xv) (c m : Mem) {w d l : Int} (hD : okD w d l) (hd : dimM m w d l) (a b : Int) (ha : 0 ≤ a ∧ a < 8) (hb : 0 ≤ b ∧ b < 8) (hRb : RRn w d l c m b) {P K : Int → Int} {row : Int → Int} (hT : TrL w d l row (m 68 a) P K) (hq : 0 < m 68 a ∧ m 68 a ≤ 972) (hft : ∀ i : Int, (0 ≤ i ∧ i < m 68 a) → m 69 (2400 * a + i) = cR w d (P i) ∧ m 70 (2400 * a + i) = cR w d (P (i + 1))) : kCall (eX X) 5 M_X12_longest.1 [vR 54, vI a, vI b] m (cP (loM (fun i => byP w d l c b (P i)) ((m 68 a).toNat + 1)) m) := by
  have hnb : 0 ≤ a ∧ a < ((8 : Nat) : Int) := ha
  refine kCall_ofT ok_X12_longest rfl (Nat.le_of_ble_eq_true rfl) (fun T hT' => ?_)
  have loop : ∀ (k : Nat) (j : Nat), (j : Int) + k = m 68 a → kW (eX X) 4 M_X12_longest T 3 [some (vR 54), some (vI a), some (vI b), some (vI (loR (fun i => byP w d l c b (P i)) (j + 1))), some (vI (loM (fun i => byP w d l c b (P i)) (j + 1))), some (vI (j : Int))] [] m := by
    intro k
    induction k with
    | zero =>
      intro j hjk
      refine kW_go ok_X12_longest [3] 20 ?_
      refine ⟨hnb, And.intro (fun _ => hT' _ _ ⟨by rw [show j = (m 68 a).toNat by omega], rfl⟩) (fun h => ?_)⟩
      have h : (j : Int) < m 68 a := h
      omega
    | succ k ih =>
      intro j hjk
      have hin := lo_in (fun i => byP w d l c b (P i)) (j + 1)
      have hx := hT.1 ((j : Int) + 1) (by omega)
      have hih := ih (j + 1) (by omega)
      have hM : loM (fun i => byP w d l c b (P i)) (j + 1 + 1) = max (loM (fun i => byP w d l c b (P i)) (j + 1)) (loR (fun i => byP w d l c b (P i)) (j + 1 + 1)) := rfl
      rw [hM] at hih
      have hix : 0 ≤ 2400 * a + (j : Int) ∧ 2400 * a + (j : Int) < ((19200 : Nat) : Int) := by omega
      refine kW_go ok_X12_longest [3] 20 ?_
      refine ⟨hnb, And.intro (fun h => ?_) (fun _ => ⟨by constructor <;> omega, by constructor <;> omega, hix, ?_⟩)⟩
      · have h : m 68 a ≤ (j : Int) := h
        omega
      rw [(hft (j : Int) (by omega)).2]
      refine kCall_mono (c_X12_isBy X c m hD hd b (P ((j : Int) + 1)) hb hRb hx) (Nat.le_of_ble_eq_true rfl) ?_
      rintro _ m2 ⟨⟨hh, rfl⟩ | ⟨hh, rfl⟩, rfl⟩
      · have e : loR (fun i => byP w d l c b (P i)) (j + 1 + 1) = loR (fun i => byP w d l c b (P i)) (j + 1) + 1 := iv_t hh
        rw [e] at hih
        exact And.intro (fun h => absurd h (by decide)) (fun _ => ⟨by constructor <;> omega, by constructor <;> omega, hih⟩)
      · have e : loR (fun i => byP w d l c b (P i)) (j + 1 + 1) = 0 := iv_f hh
        rw [e] at hih
        exact And.intro (fun _ => ⟨by constructor <;> omega, hih⟩) (fun h => absurd rfl h)
  have hst : ∀ z : Int, z = loR (fun i => byP w d l c b (P i)) 1 → 0 ≤ z → kW (eX X) 4 M_X12_longest T 2 [some (vR 54), some (vI a), some (vI b), none, none, none] [vI z] m := by
    intro z hz h0
    refine kW_go ok_X12_longest [3] 20 ?_
    have := loop (m 68 a).toNat 0 (by omega)
    have hM : loM (fun i => byP w d l c b (P i)) (0 + 1) = max 0 (loR (fun i => byP w d l c b (P i)) (0 + 1)) := rfl
    rw [hM, show (0 : Nat) + 1 = 1 from rfl, ← hz, show max 0 z = z by omega] at this
    exact this
  refine kW_go ok_X12_longest [2] 20 ?_
  have hx := hT.1 0 (by omega)
  have e0 := (hft 0 (by omega)).1
  rw [Int.add_zero] at e0
  refine ⟨by constructor <;> omega, by show 0 ≤ 2400 * a ∧ 2400 * a < ((19200 : Nat) : Int); omega, ?_⟩
  rw [e0]
  refine kCall_mono (c_X12_isBy X c m hD hd b (P 0) hb hRb hx) (Nat.le_of_ble_eq_true rfl) ?_
  rintro _ m2 ⟨⟨hh, rfl⟩ | ⟨hh, rfl⟩, rfl⟩
  · exact And.intro (fun h => absurd h (by decide)) (fun _ => hst 1 (show (1 : Int) = iv (byP w d l c b (P 0)) (0 + 1) by rw [iv_t hh]; rfl) (by decide))
  · exact And.intro (fun _ => hst 0 (show (0 : Int) = iv (byP w d l c b (P 0)) (0 + 1) by rw [iv_f hh]) (by decide)) (fun h => absurd rfl h)
