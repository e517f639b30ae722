/-! PAIR: turns away in the class -/
theorem c_X0_turnsAway (X : Xv) (m : Mem) {w d l : Int} (hB : Bd X w d l m) (a b : Int) (ha : 0 ≤ a ∧ a < 8) (hb : 0 ≤ b ∧ b < 8) (hW : WFn w d l m a) (hS : SYn w d l m a) : kCall (eX X) 4 M_X0_turnsAway.1 [vR 46, vI a, vI b] m (cP (awA w d l (nC X) m a b) m) := by
  obtain ⟨hD, hN, hG⟩ := id hB
  have hc4 := okD_cells hD
  have g4 : m 1 4 = (nC X : Int) := by rw [hG.2.2.2.2.1]; exact hN
  refine kCall_ofT ok_X0_turnsAway rfl (Nat.le_of_ble_eq_true rfl) (fun T hT => ?_)
  obtain ⟨A, hA⟩ : ∃ A : Int → Int, ∀ x, A x = r3 (m 19 (a * (nC X : Int) + x)) (awH w d l m b x) := ⟨_, fun _ => rfl⟩
  have hsum : sumN A (nC X) = awA w d l (nC X) m a b := sumN_cong (fun i _ _ => hA i)
  -- one move from a cell
  have step : ∀ (x k s : Int) (x6 x7 : Option AV), inC w d l x → (k = 1 ∨ k = 2) → (0 ≤ s ∧ s ≤ 1000) → (∀ y6 y7, kW (eX X) 3 M_X0_turnsAway T 2 [some (vR 46), some (vI a), some (vI b), some (vI (s + if bt (m 19 (a * (nC X : Int) + x)) k.toNat = true then awH w d l m b x k else 0)), some (vI x), some (vI (k + 1)), y6, y7] [] m) → kW (eX X) 3 M_X0_turnsAway T 2 [some (vR 46), some (vI a), some (vI b), some (vI s), some (vI x), some (vI k), x6, x7] [] m := by
    intro x k s x6 x7 hx hk hs hnext
    have hk6 : 0 ≤ k ∧ k < 6 := by omega
    have hxb : 0 ≤ x ∧ x < (nC X : Int) := by obtain ⟨p, q⟩ := hx; omega
    have hi := ixn (N := (nC X : Int)) (by omega) ha hxb
    have e2 : m 2 (x * 6 + k) = nx w d l x k := (hG.2.2.2.2.2 x hx).2.2.2 k hk6.1 hk6.2
    obtain ⟨w1, w2, w3, w4⟩ := hW.1 x hx
    have hkk : k ≠ 4 := by omega
    have hz : (bt (m 19 (a * (nC X : Int) + x)) k.toNat = true → awH w d l m b x k = 0) → kW (eX X) 3 M_X0_turnsAway T 2 [some (vR 46), some (vI a), some (vI b), some (vI (s + 0)), some (vI x), some (vI (k + 1)), some (vI (nx w d l x k)), some (vI 0)] [] m ∧ kW (eX X) 3 M_X0_turnsAway T 2 [some (vR 46), some (vI a), some (vI b), some (vI (s + 0)), some (vI x), some (vI (k + 1)), some (vI (nx w d l x k)), some (vI 1)] [] m := by
      intro h
      have e : (if bt (m 19 (a * (nC X : Int) + x)) k.toNat = true then awH w d l m b x k else 0) = 0 := by
        split
        · rename_i q; exact h q
        · rfl
      rw [e] at hnext
      exact ⟨hnext _ _, hnext _ _⟩
    refine kW_go ok_X0_turnsAway [2] 20 ?_
    refine And.intro (fun h => absurd h (by omega)) (fun _ => ?_)
    show inR (x * 6) ∧ inR (x * 6 + k) ∧ (0 ≤ x * 6 + k ∧ x * 6 + k < ((nC X * 6 : Nat) : Int)) ∧ inR (a * m 1 4) ∧ inR (a * m 1 4 + x) ∧ (0 ≤ a * m 1 4 + x ∧ a * m 1 4 + x < ((nC X * 8 : Nat) : Int)) ∧ _
    rw [g4, e2]
    refine ⟨by constructor <;> omega, by constructor <;> omega, by omega, by constructor <;> omega, by constructor <;> omega, by omega, ?_⟩
    refine And.intro (fun h => ?_) (fun h => ?_)
    · rw [show fld m 1 4 = (nC X : Int) from g4] at h
      have h0 := (k_ask0 hk6.1 (by omega)).mp h
      have := (hz (fun q => by rw [h0] at q; cases q)).1
      exact And.intro (fun _ => ⟨by constructor <;> omega, by constructor <;> omega, this⟩) (fun h => absurd rfl h)
    · rw [show fld m 1 4 = (nC X : Int) from g4] at h
      have hbk : bt (m 19 (a * (nC X : Int) + x)) k.toNat = true := by
        cases hh : bt (m 19 (a * (nC X : Int) + x)) k.toNat with
        | true => rfl
        | false => exact absurd ((k_ask0 hk6.1 (by omega)).mpr hh) h
      rw [← hN] at hbk
      have hne : nx w d l x k ≠ -1 := fun q => by
        rw [(w2 k hk6 q).2] at hbk
        cases hbk
      have hyi := (nx_in hne).1
      have hso := (hS x k hx hk6 hne).2 hbk
      have hcx : cuN m a x := Or.inr (w3.mpr (fun q => by rw [q, bt_zero] at hbk; cases hbk))
      have hcy : cuN m a (nx w d l x k) := Or.inr ((hW.1 _ hyi).2.2.1.mpr (fun q => by rw [q, bt_zero] at hso; cases hso))
      rw [hN] at hbk
      refine And.intro (fun q => absurd q hne) (fun _ => ?_)
      refine And.intro (fun q => absurd q (by decide)) (fun _ => ?_)
      have hv : awH w d l m b x k = iv (¬ (byP w d l m b x ↔ byP w d l m b (nx w d l x k))) 1 := if_neg hkk
      rw [if_pos hbk, hv] at hnext
      refine kCall_mono (c_X0_isBeside X m hB a b x ha hb hx) (Nat.le_of_ble_eq_true rfl) ?_
      rintro _ m2 ⟨hr1, rfl⟩
      rcases hr1 with ⟨p1, rfl⟩ | ⟨p1, rfl⟩
      · refine kCall_mono (c_X0_isBeside X m2 hB a b (nx w d l x k) ha hb hyi) (Nat.le_of_ble_eq_true rfl) ?_
        rintro _ m3 ⟨hr2, rfl⟩
        rcases hr2 with ⟨p2, rfl⟩ | ⟨p2, rfl⟩
        · rw [iv_f (fun z => z ⟨fun _ => p2.2, fun _ => p1.2⟩)] at hnext
          exact And.intro (fun _ => ⟨by constructor <;> omega, by constructor <;> omega, hnext _ _⟩) (fun q => absurd rfl q)
        · rw [iv_t (fun z => p2 ⟨hcy, z.mp p1.2⟩)] at hnext
          exact And.intro (fun q => absurd q (by decide)) (fun _ => ⟨by constructor <;> omega, by constructor <;> omega, hnext _ _⟩)
      · refine kCall_mono (c_X0_isBeside X m2 hB a b (nx w d l x k) ha hb hyi) (Nat.le_of_ble_eq_true rfl) ?_
        rintro _ m3 ⟨hr2, rfl⟩
        rcases hr2 with ⟨p2, rfl⟩ | ⟨p2, rfl⟩
        · rw [iv_t (fun z => p1 ⟨hcx, z.mpr p2.2⟩)] at hnext
          exact And.intro (fun q => absurd q (by decide)) (fun _ => ⟨by constructor <;> omega, by constructor <;> omega, hnext _ _⟩)
        · rw [iv_f (fun z => z ⟨fun q => absurd ⟨hcx, q⟩ p1, fun q => absurd ⟨hcy, q⟩ p2⟩)] at hnext
          exact And.intro (fun _ => ⟨by constructor <;> omega, by constructor <;> omega, hnext _ _⟩) (fun q => absurd rfl q)
  have hstep01 : ∀ x k : Int, (0 ≤ (if bt (m 19 (a * (nC X : Int) + x)) k.toNat = true then awH w d l m b x k else 0) ∧ (if bt (m 19 (a * (nC X : Int) + x)) k.toNat = true then awH w d l m b x k else 0) ≤ 1) := by
    intro x k
    have : 0 ≤ awH w d l m b x k ∧ awH w d l m b x k ≤ 1 := by
      unfold awH
      split
      · decide
      · exact iv1_in _
    split
    · exact this
    · decide
  have loop : ∀ (k : Nat) (i : Int) (x5 x6 x7 : Option AV), i + k = (nC X : Int) → 0 ≤ i → (0 ≤ sumN A i.toNat ∧ sumN A i.toNat ≤ 2 * i) → kW (eX X) 3 M_X0_turnsAway T 1 [some (vR 46), some (vI a), some (vI b), some (vI (sumN A i.toNat)), some (vI i), x5, x6, x7] [] m := by
    intro k
    induction k with
    | zero =>
      intro i x5 x6 x7 hik hi0 hs
      refine kW_go ok_X0_turnsAway [1] 20 ?_
      refine And.intro (fun _ => hT _ _ ⟨by rw [show i.toNat = nC X by omega, hsum], rfl⟩) (fun h => ?_)
      have h : i < m 1 4 := h
      omega
    | succ k ih =>
      intro i x5 x6 x7 hik hi0 hs
      have hx : inC w d l i := ⟨hi0, by omega⟩
      have q1 := hstep01 i 1
      have q2 := hstep01 i 2
      have hAi : A i = (if bt (m 19 (a * (nC X : Int) + i)) (1 : Int).toNat = true then awH w d l m b i 1 else 0) + (if bt (m 19 (a * (nC X : Int) + i)) (2 : Int).toNat = true then awH w d l m b i 2 else 0) := by
        rw [hA]
        unfold r3
        rw [show awH w d l m b i 4 = 0 from if_pos rfl]
        rw [show (if bt (m 19 (a * (nC X : Int) + i)) 4 = true then (0 : Int) else 0) = 0 from by split <;> rfl, Int.add_zero]
        rfl
      have hnext := fun x5 x6 x7 => ih (i + 1) x5 x6 x7 (by omega) (by omega) (by rw [sumN_s A hi0]; omega)
      rw [sumN_s A hi0, hAi, ← Int.add_assoc] at hnext
      refine kW_go ok_X0_turnsAway [1, 2] 20 ?_
      refine And.intro (fun h => ?_) (fun _ => ?_)
      · have h : m 1 4 ≤ i := h
        omega
      refine step i 1 _ _ _ hx (Or.inl rfl) (by omega) (fun y6 y7 => ?_)
      refine step i 2 _ _ _ hx (Or.inr rfl) (by omega) (fun y6 y7 => ?_)
      refine kW_go ok_X0_turnsAway [1, 2] 20 ?_
      exact And.intro (fun _ => ⟨by constructor <;> omega, hnext _ _ _⟩) (fun h => absurd h (by decide))
  refine kW_go ok_X0_turnsAway [1] 20 ?_
  exact loop (nC X) 0 none none none (by omega) (by omega) (by show 0 ≤ (0 : Int) ∧ (0 : Int) ≤ 2 * 0; omega)
