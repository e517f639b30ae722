/-! PAIR: cells beside, and turns away *)-/
noncomputable def besA (w d l : Int) (N : Nat) (c : Mem) (a b : Int) : Int := sumN (fun x => iv (cuN c a x ∧ byP w d l c b x) 1) N
theorem iv1_in (P : Prop) : 0 ≤ iv P 1 ∧ iv P 1 ≤ 1 := iv_in ⟨by decide, by decide⟩
theorem c_X0_cellsBeside (X : Xv) (m : Mem) {w d l : Int} (hB : Bd X w d l m) (a b : Int) (ha : 0 ≤ a ∧ a < 8) (hb : 0 ≤ b ∧ b < 8) : kCall (eX X) 4 M_X0_cellsBeside.1 [vR 46, vI a, vI b] m (cP (besA w d l (nC X) m a b) m) := by
  obtain ⟨hD, hN, hG⟩ := id hB
  have hc4 := okD_cells hD
  have g4 : m 1 4 = (nC X : Int) := by rw [hG.2.2.2.2.1]; exact hN
  refine kCall_ofT ok_X0_cellsBeside rfl (Nat.le_of_ble_eq_true rfl) (fun T hT => ?_)
  obtain ⟨A, hA⟩ : ∃ A : Int → Int, ∀ x, A x = iv (cuN m a x ∧ byP w d l m b x) 1 := ⟨_, fun _ => rfl⟩
  have hsum : sumN A (nC X) = besA w d l (nC X) m a b := sumN_cong (fun i _ _ => hA i)
  have loop : ∀ (k : Nat) (i : Int), i + k = (nC X : Int) → 0 ≤ i → (0 ≤ sumN A i.toNat ∧ sumN A i.toNat ≤ i) → kW (eX X) 3 M_X0_cellsBeside T 1 [some (vR 46), some (vI a), some (vI b), some (vI (sumN A i.toNat)), some (vI i)] [] m := by
    intro k
    induction k with
    | zero =>
      intro i hik hi0 hs
      refine kW_go ok_X0_cellsBeside [1] 20 ?_
      refine And.intro (fun _ => hT _ _ ⟨by rw [show i.toNat = nC X by omega, hsum], rfl⟩) (fun h => ?_)
      have h : i < m 1 4 := h
      omega
    | succ k ih =>
      intro i hik hi0 hs
      have hx : inC w d l i := ⟨hi0, by omega⟩
      have hAi : 0 ≤ A i ∧ A i ≤ 1 := by rw [hA]; exact iv1_in _
      have hnext := ih (i + 1) (by omega) (by omega) (by rw [sumN_s A hi0]; omega)
      rw [sumN_s A hi0] at hnext
      refine kW_go ok_X0_cellsBeside [1] 20 ?_
      refine And.intro (fun h => ?_) (fun _ => ?_)
      · have h : m 1 4 ≤ i := h
        omega
      refine kCall_mono (c_X0_isBeside X m hB a b i ha hb hx) (Nat.le_of_ble_eq_true rfl) ?_
      rintro _ m2 ⟨⟨hh, rfl⟩ | ⟨hh, rfl⟩, rfl⟩
      · rw [hA, iv_t hh] at hnext
        exact And.intro (fun h => absurd h (by decide)) (fun _ => ⟨by constructor <;> omega, by constructor <;> omega, hnext⟩)
      · rw [hA, iv_f hh] at hnext
        exact And.intro (fun _ => ⟨by constructor <;> omega, by constructor <;> omega, hnext⟩) (fun h => absurd rfl h)
  refine kW_go ok_X0_cellsBeside [1] 20 ?_
  exact loop (nC X) 0 (by omega) (by omega) (by show 0 ≤ (0 : Int) ∧ (0 : Int) ≤ 0; omega)
theorem c_X12_byAll (X : Xv) (c m : Mem) {w d l : Int} (hD : okD w d l) (hN : w * d * l = (nC X : Int)) (hd : dimM m w d l) (a b : Int) (ha : 0 ≤ a ∧ a < 8) (hb : 0 ≤ b ∧ b < 8) (hRa : RRn w d l c m a) (hRb : RRn w d l c m b) : kCall (eX X) 5 M_X12_byAll.1 [vR 54, vI a, vI b] m (cP (besA w d l (nC X) c a b) m) := by
  refine kCall_ofT ok_X12_byAll rfl (Nat.le_of_ble_eq_true rfl) (fun T hT => ?_)
  obtain ⟨A, hA⟩ : ∃ A : Int → Int, ∀ j, A j = iv (m 72 (324 * a + j) ≠ 0 ∧ byP w d l c b (cC w d j)) 1 := ⟨_, fun _ => rfl⟩
  have hoff : ∀ j : Int, (0 ≤ j ∧ j < 324) → m 72 (324 * a + j) ≠ 0 → inRf w d l j := fun j hj h => Classical.byContradiction (fun z => h (hRa.2.2.2.2.2 j hj z))
  have hsum : sumN A 324 = besA w d l (nC X) c a b := by
    rw [sum_all hD A (fun j hj hno => by rw [hA, iv_f (fun z => hno (hoff j hj z.1))]) hN]
    refine sumN_cong (fun x h0 h1 => ?_)
    have hx : inC w d l x := ⟨h0, by omega⟩
    rw [hA, (cR_in hD hx).2, cuN_72 hRa hx]
  have loop : ∀ (k : Nat) (i : Int), i + k = 324 → 0 ≤ i → (0 ≤ sumN A i.toNat ∧ sumN A i.toNat ≤ i) → kW (eX X) 4 M_X12_byAll T 1 [some (vR 54), some (vI a), some (vI b), some (vI (sumN A i.toNat)), some (vI i)] [] m := by
    intro k
    induction k with
    | zero =>
      intro i hik hi0 hs
      refine kW_go ok_X12_byAll [1] 20 ?_
      exact And.intro (fun _ => hT _ _ ⟨by rw [show i.toNat = 324 by omega, hsum], rfl⟩) (fun h => absurd h (by omega))
    | succ k ih =>
      intro i hik hi0 hs
      have hAi : 0 ≤ A i ∧ A i ≤ 1 := by rw [hA]; exact iv1_in _
      have hnext := ih (i + 1) (by omega) (by omega) (by rw [sumN_s A hi0]; omega)
      rw [sumN_s A hi0] at hnext
      refine kW_go ok_X12_byAll [1] 20 ?_
      refine And.intro (fun h => absurd h (by omega)) (fun _ => ?_)
      refine kCall_mono (c_X12_has X m a i ha (by omega)) (Nat.le_of_ble_eq_true rfl) ?_
      rintro _ m2 ⟨⟨hh, rfl⟩ | ⟨hh, rfl⟩, rfl⟩
      · have hcc := cC_in (hoff i (by omega) hh)
        refine And.intro (fun h => absurd h (by decide)) (fun _ => ?_)
        have hby := c_X12_isBy X c m2 hD hd b (cC w d i) hb hRb hcc.1
        rw [hcc.2] at hby
        refine kCall_mono hby (Nat.le_of_ble_eq_true rfl) ?_
        rintro _ m3 ⟨⟨hh2, rfl⟩ | ⟨hh2, rfl⟩, rfl⟩
        · rw [hA, iv_t ⟨hh, hh2⟩] at hnext
          exact And.intro (fun h => absurd h (by decide)) (fun _ => ⟨by constructor <;> omega, by constructor <;> omega, hnext⟩)
        · rw [hA, iv_f (fun z => hh2 z.2)] at hnext
          exact And.intro (fun _ => ⟨by constructor <;> omega, by constructor <;> omega, hnext⟩) (fun h => absurd rfl h)
      · rw [hA, iv_f (fun z => hh z.1)] at hnext
        exact And.intro (fun _ => ⟨by constructor <;> omega, by constructor <;> omega, hnext⟩) (fun h => absurd rfl h)
  refine kW_go ok_X12_byAll [1] 20 ?_
  exact loop 324 0 (by omega) (by omega) (by show 0 ≤ (0 : Int) ∧ (0 : Int) ≤ 0; omega)
/-- a step of the first net's trace where it comes beside the second, or away -/
noncomputable def awH (w d l : Int) (c : Mem) (b x k : Int) : Int := if k = 4 then 0 else iv (¬ (byP w d l c b x ↔ byP w d l c b (nx w d l x k))) 1
noncomputable def awA (w d l : Int) (N : Nat) (c : Mem) (a b : Int) : Int := sumN (fun x => r3 (c 19 (a * (N : Int) + x)) (awH w d l c b x)) N
theorem aw_R {w d l : Int} (hD : okD w d l) {N : Nat} (hN : w * d * l = (N : Int)) {c r : Mem} {a b : Int} (hW : WFn w d l c a) (hR : RRk w d l c r a) : sumN (fun i => iv (r 69 (2400 * a + i) / 81 = r 70 (2400 * a + i) / 81 ∧ ¬ (byP w d l c b (cC w d (r 69 (2400 * a + i))) ↔ byP w d l c b (cC w d (r 70 (2400 * a + i))))) 1) (r 68 a).toNat = awA w d l N c a b := by
  have hz : ∀ x, inC w d l x → ∀ k : Int, (0 ≤ k ∧ k < 6) → nx w d l x k = -1 → bt (c 19 (a * (w * d * l) + x)) k.toNat = false := fun x hx k hk hne => ((hW.1 x hx).2.1 k hk hne).2
  have s := sum_rows hD hN hR.2.2.1 hz (fun p q => iv (p / 81 = q / 81 ∧ ¬ (byP w d l c b (cC w d p) ↔ byP w d l c b (cC w d q))) 1) (awH w d l c b) (fun x k hx hk hne => by
    have hl := lay_eq hD hx hk hne
    have hyi := (nx_in hne).1
    rw [(cR_in hD hx).2, (cR_in hD hyi).2]
    unfold awH
    by_cases e : k = 4
    · rw [if_pos e, iv_f (fun z => hl.mp z.1 e), iv_f (fun z => hl.mp z.1.symm e)]
      exact ⟨rfl, rfl⟩
    · rw [if_neg e]
      exact ⟨iv_cong ⟨fun z => z.2, fun z => ⟨hl.mpr e, z⟩⟩, iv_cong ⟨fun z q => z.2 q.symm, fun z => ⟨(hl.mpr e).symm, fun q => z q.symm⟩⟩⟩)
  rw [show sumN (fun i => iv (r 69 (2400 * a + i) / 81 = r 70 (2400 * a + i) / 81 ∧ ¬ (byP w d l c b (cC w d (r 69 (2400 * a + i))) ↔ byP w d l c b (cC w d (r 70 (2400 * a + i))))) 1) (r 68 a).toNat = _ from s]
  unfold awA
  refine sumN_cong (fun x _ _ => ?_)
  rw [← hN]
theorem c_X12_away (X : Xv) (c m : Mem) {w d l : Int} (hD : okD w d l) (hN : w * d * l = (nC X : Int)) (hd : dimM m w d l) (a b : Int) (ha : 0 ≤ a ∧ a < 8) (hb : 0 ≤ b ∧ b < 8) (hWa : WFn w d l c a) (hRa : RRk w d l c m a) (hRb : RRn w d l c m b) : kCall (eX X) 5 M_X12_away.1 [vR 54, vI a, vI b] m (cP (awA w d l (nC X) c a b) m) := by
  have hnb : 0 ≤ a ∧ a < ((8 : Nat) : Int) := ha
  have hL := hRa.2.2.1
  have h0 := hL.1.1
  have h9 := okL_le hD hL.1
  refine kCall_ofT ok_X12_away rfl (Nat.le_of_ble_eq_true rfl) (fun T hT => ?_)
  obtain ⟨A, hA⟩ : ∃ A : Int → Int, ∀ i, A i = iv (m 69 (2400 * a + i) / 81 = m 70 (2400 * a + i) / 81 ∧ ¬ (byP w d l c b (cC w d (m 69 (2400 * a + i))) ↔ byP w d l c b (cC w d (m 70 (2400 * a + i))))) 1 := ⟨_, fun _ => rfl⟩
  have hsum : sumN A (m 68 a).toNat = awA w d l (nC X) c a b := by
    rw [← aw_R hD hN hWa hRa]
    exact sumN_cong (fun i _ _ => hA i)
  have loop : ∀ (k : Nat) (i : Int) (x5 x6 : Option AV), i + k = m 68 a → 0 ≤ i → (0 ≤ sumN A i.toNat ∧ sumN A i.toNat ≤ i) → kW (eX X) 4 M_X12_away T 1 [some (vR 54), some (vI a), some (vI b), some (vI (sumN A i.toNat)), some (vI i), x5, x6] [] m := by
    intro k
    induction k with
    | zero =>
      intro i x5 x6 hik hi0 hs
      refine kW_go ok_X12_away [1] 20 ?_
      refine ⟨hnb, And.intro (fun _ => hT _ _ ⟨by rw [show i = m 68 a by omega, hsum], rfl⟩) (fun h => ?_)⟩
      have h : i < m 68 a := h
      omega
    | succ k ih =>
      intro i x5 x6 hik hi0 hs
      have hv := LT_val hD hL (i := i) (by omega)
      have hv1 : 0 ≤ m 69 (2400 * a + i) ∧ m 69 (2400 * a + i) < 324 := hv.1
      have hv2 : 0 ≤ m 70 (2400 * a + i) ∧ m 70 (2400 * a + i) < 324 := hv.2.1
      have c1 := cC_in (show inRf w d l (m 69 (2400 * a + i)) from hv.2.2.1)
      have c2 := cC_in (show inRf w d l (m 70 (2400 * a + i)) from hv.2.2.2)
      have hix : 0 ≤ 2400 * a + i ∧ 2400 * a + i < ((19200 : Nat) : Int) := by omega
      have hAi : 0 ≤ A i ∧ A i ≤ 1 := by rw [hA]; exact iv1_in _
      have hnext := fun x5 x6 => ih (i + 1) x5 x6 (by omega) (by omega) (by rw [sumN_s A hi0]; omega)
      rw [sumN_s A hi0] at hnext
      have hby1 := fun mm : Mem => c_X12_isBy X c m hD hd b (cC w d (m 69 (2400 * a + i))) hb hRb c1.1
      have hby2 := fun mm : Mem => c_X12_isBy X c m hD hd b (cC w d (m 70 (2400 * a + i))) hb hRb c2.1
      rw [c1.2] at hby1
      rw [c2.2] at hby2
      refine kW_go ok_X12_away [1] 20 ?_
      refine ⟨hnb, And.intro (fun h => ?_) (fun _ => ⟨by constructor <;> omega, by constructor <;> omega, hix, by constructor <;> omega, by constructor <;> omega, hix, ?_⟩)⟩
      · have h : m 68 a ≤ i := h
        omega
      refine kCall_mono (c_X12_layerOf (eX X) m _ hv1.1 (by omega)) (Nat.le_of_ble_eq_true rfl) ?_
      rintro _ m2 ⟨rfl, rfl⟩
      refine kCall_mono (c_X12_layerOf (eX X) m2 _ hv2.1 (by omega)) (Nat.le_of_ble_eq_true rfl) ?_
      rintro _ m3 ⟨rfl, rfl⟩
      refine And.intro (fun h => ?_) (fun h => ?_)
      · rw [hA, iv_f (fun z => h z.1)] at hnext
        exact ⟨by constructor <;> omega, by constructor <;> omega, hnext _ _⟩
      · refine kCall_mono (hby1 m3) (Nat.le_of_ble_eq_true rfl) ?_
        rintro _ m4 ⟨hr1, rfl⟩
        rcases hr1 with ⟨p1, rfl⟩ | ⟨p1, rfl⟩
        · refine kCall_mono (hby2 m4) (Nat.le_of_ble_eq_true rfl) ?_
          rintro _ m5 ⟨⟨p2, rfl⟩ | ⟨p2, rfl⟩, rfl⟩
          · rw [hA, iv_f (fun z => z.2 ⟨fun _ => p2, fun _ => p1⟩)] at hnext
            exact And.intro (fun _ => ⟨by constructor <;> omega, by constructor <;> omega, hnext _ _⟩) (fun h => absurd rfl h)
          · rw [hA, iv_t ⟨h, fun z => p2 (z.mp p1)⟩] at hnext
            exact And.intro (fun h => absurd h (by decide)) (fun _ => ⟨by constructor <;> omega, by constructor <;> omega, hnext _ _⟩)
        · refine kCall_mono (hby2 m4) (Nat.le_of_ble_eq_true rfl) ?_
          rintro _ m5 ⟨⟨p2, rfl⟩ | ⟨p2, rfl⟩, rfl⟩
          · rw [hA, iv_t ⟨h, fun z => p1 (z.mpr p2)⟩] at hnext
            exact And.intro (fun h => absurd h (by decide)) (fun _ => ⟨by constructor <;> omega, by constructor <;> omega, hnext _ _⟩)
          · rw [hA, iv_f (fun z => z.2 ⟨fun q => absurd q p1, fun q => absurd q p2⟩)] at hnext
            exact And.intro (fun _ => ⟨by constructor <;> omega, by constructor <;> omega, hnext _ _⟩) (fun h => absurd rfl h)
  refine kW_go ok_X12_away [1] 20 ?_
  exact loop (m 68 a).toNat 0 none none (by omega) (by omega) (by show 0 ≤ (0 : Int) ∧ (0 : Int) ≤ 0; omega)
