/-! the class's room: looking and marking -/
/-- how far two nets must lie apart -/
def aptC (m : Mem) (n o : Int) : Int := max (m 10 (m 11 n * 5 + 3)) (m 10 (m 11 o * 5 + 3))
/-- what the class holds of its nets' classes -/
def srt (m : Mem) : Prop := (0 ≤ m 9 14 ∧ m 9 14 ≤ 8) ∧ ∀ o : Int, (0 ≤ o ∧ o < m 9 14) → (0 ≤ m 11 o ∧ m 11 o < 6) ∧ (0 ≤ m 10 (m 11 o * 5 + 3) ∧ m 10 (m 11 o * 5 + 3) ≤ 2)
theorem bt_kor_bit {a n : Int} (h0 : 0 ≤ n) (h1 : n < 32) (o : Nat) : bt (kor a (kshl 1 n)) o = true ↔ bt a o = true ∨ (o : Int) = n := by
  rw [bt_or, bt_bit h0 h1]
  simp
theorem c_X6_partOthers (X : Xv) (m : Mem) (n : Int) (hs : srt m) (hn : 0 ≤ n ∧ n < m 9 14) : kCall (eX X) 2 M_X6_partOthers.1 [vR 22, vI n] m (fun r m' => r = none ∧ (∀ o, o ≠ 23 → m' o = m o) ∧ ∀ f : Int, (0 ≤ f ∧ f < 3) → ∀ o : Nat, bt (m' 23 f) o = true ↔ (((o : Int) < m 9 14 ∧ (o : Int) ≠ n) ∧ aptC m n o = f)) := by
  obtain ⟨ha, hs2⟩ := id hs
  have hsn := hs2 n hn
  refine kCall_ofT ok_X6_partOthers rfl (Nat.le_of_ble_eq_true rfl) (fun T hT => ?_)
  refine kW_go ok_X6_partOthers [1] 20 ?_
  refine kCall_mono (c_fill (eX X) m 23 3 0 (by decide) rfl (by decide)) (Nat.le_of_ble_eq_true rfl) ?_
  rintro _ m1 ⟨rfl, hm1⟩
  have e1 : ∀ o, o ≠ 23 → m1 o = m o := fun o ho => by rw [hm1, mfill_ne ho]
  have z1 : ∀ f : Int, (0 ≤ f ∧ f < 3) → m1 23 f = 0 := fun f hf => by rw [hm1, mfill_at]; exact if_pos hf
  clear hm1
  have e10 := e1 10 (by decide)
  have e11 := e1 11 (by decide)
  refine kCall_mono (c_X3_setting X m1 n 3 (by omega) (by decide) (by rw [e11]; exact hsn.1)) (Nat.le_of_ble_eq_true rfl) ?_
  rintro _ m1 ⟨rfl, rfl⟩
  rw [e10, e11]
  have loop : ∀ (k i : Nat) (m' : Mem), (i : Int) + k = m 9 14 → (∀ o, o ≠ 23 → m' o = m o) → (∀ f : Int, (0 ≤ f ∧ f < 3) → ∀ o : Nat, bt (m' 23 f) o = true ↔ ((o < i ∧ (o : Int) ≠ n) ∧ aptC m n o = f)) → kW (eX X) 1 M_X6_partOthers T 1 [some (vR 22), some (vI n), some (vI (m 10 (m 11 n * 5 + 3))), some (vI (i : Int))] [] m' := by
    intro k
    induction k with
    | zero =>
      intro i m' hi hf hb
      have e9 := hf 9 (by decide)
      refine kW_go ok_X6_partOthers [1] 20 ?_
      refine ⟨fun _ => hT _ _ ⟨rfl, hf, fun f hf3 o => ?_⟩, fun h => ?_⟩
      · rw [hb f hf3 o]
        constructor <;> (rintro ⟨⟨q1, q2⟩, q3⟩; exact ⟨⟨by omega, q2⟩, q3⟩)
      · have h : (i : Int) < m' 9 14 := h
        rw [e9] at h
        omega
    | succ k ih =>
      intro i m' hi hf hb
      have e9 := hf 9 (by decide)
      have f10 := hf 10 (by decide)
      have f11 := hf 11 (by decide)
      have hso := hs2 (i : Int) (by omega)
      have hap : 0 ≤ aptC m n i ∧ aptC m n i < 3 := by unfold aptC; omega
      refine kW_go ok_X6_partOthers [1] 20 ?_
      refine ⟨fun h => ?_, fun _ => And.intro (fun he => ?_) (fun he => ?_)⟩
      · have h : m' 9 14 ≤ (i : Int) := h
        rw [e9] at h
        omega
      · refine ⟨by constructor <;> omega, ?_⟩
        have := ih (i + 1) m' (by omega) hf (fun f hf3 o => ?_)
        · rw [show ((i + 1 : Nat) : Int) = (i : Int) + 1 by omega] at this
          exact this
        · rw [hb f hf3 o]
          constructor
          · rintro ⟨⟨q1, q2⟩, q3⟩
            exact ⟨⟨by omega, q2⟩, q3⟩
          · rintro ⟨⟨q1, q2⟩, q3⟩
            have : o ≠ i := fun z => q2 (by rw [z]; exact he)
            exact ⟨⟨by omega, q2⟩, q3⟩
      · refine kCall_mono (c_X3_setting X m' (i : Int) 3 (by omega) (by decide) (by rw [f11]; exact hso.1)) (Nat.le_of_ble_eq_true rfl) ?_
        rintro _ m' ⟨rfl, rfl⟩
        rw [f10, f11]
        show (0 ≤ aptC m n i ∧ aptC m n i < ((3 : Nat) : Int)) ∧ (0 ≤ aptC m n i ∧ aptC m n i < ((3 : Nat) : Int)) ∧ inR ((i : Int) + 1) ∧ kW (eX X) 1 M_X6_partOthers T 1 [some (vR 22), some (vI n), some (vI (m 10 (m 11 n * 5 + 3))), some (vI ((i : Int) + 1))] [] (mset m' 23 (aptC m n i) (kor (m' 23 (aptC m n i)) (kshl 1 (i : Int))))
        refine ⟨hap, hap, by constructor <;> omega, ?_⟩
        have := ih (i + 1) (mset m' 23 (aptC m n i) (kor (m' 23 (aptC m n i)) (kshl 1 (i : Int)))) (by omega) (fun o ho => by rw [k_mset_ne ho]; exact hf o ho) (fun f hf3 o => ?_)
        · rw [show ((i + 1 : Nat) : Int) = (i : Int) + 1 by omega] at this
          exact this
        · rw [k_mset_at]
          by_cases hfe : f = aptC m n i
          · rw [if_pos hfe, bt_kor_bit (by omega) (by omega), ← hfe, hb f hf3 o]
            constructor
            · rintro (⟨⟨q1, q2⟩, q3⟩ | q)
              · exact ⟨⟨by omega, q2⟩, q3⟩
              · have : o = i := by omega
                subst this
                exact ⟨⟨by omega, he⟩, hfe.symm⟩
            · rintro ⟨⟨q1, q2⟩, q3⟩
              by_cases ho : o = i
              · exact Or.inr (by rw [ho])
              · exact Or.inl ⟨⟨by omega, q2⟩, q3⟩
          · rw [if_neg hfe, hb f hf3 o]
            constructor
            · rintro ⟨⟨q1, q2⟩, q3⟩
              exact ⟨⟨by omega, q2⟩, q3⟩
            · rintro ⟨⟨q1, q2⟩, q3⟩
              have : o ≠ i := fun z => hfe (by rw [← z]; exact q3.symm)
              exact ⟨⟨by omega, q2⟩, q3⟩
  have := loop (m 9 14).toNat 0 m1 (by omega) e1 (fun f hf3 o => by rw [z1 f hf3, bt_zero]; constructor; (intro q; cases q); (rintro ⟨⟨q, -⟩, -⟩; omega))
  exact this
theorem c_X6_spreadAll (X : Xv) (m : Mem) {w d l : Int} (hD : okD w d l) (hn : w * d * l = (nC X : Int)) (hG : gridC m w d l) (c u v : Int) (hc : inC w d l c) : kCall (eX X) 2 M_X6_spreadAll.1 [vR 22, vI c, vI u, vI v] m (fun r m' => r = none ∧ (∀ o, o ≠ 24 → o ≠ 25 → m' o = m o) ∧ ∀ (j : Int) (o : Nat), (bt (m' 24 j) o = true ↔ bt (m 24 j) o = true ∨ ∃ f : Int, (0 ≤ f ∧ f < 3) ∧ bt (m 23 f) o = true ∧ bt u o = true ∧ box w d l c f j) ∧ (bt (m' 25 j) o = true ↔ bt (m 25 j) o = true ∨ ∃ f : Int, (0 ≤ f ∧ f < 3) ∧ bt (m 23 f) o = true ∧ bt v o = true ∧ box w d l c f j)) := by
  refine kCall_ofT ok_X6_spreadAll rfl (Nat.le_of_ble_eq_true rfl) (fun T hT => ?_)
  have loop : ∀ (k : Nat) (i : Int) (m' : Mem), i + k = 3 → 0 ≤ i → (∀ o, o ≠ 24 → o ≠ 25 → m' o = m o) → (∀ (j : Int) (o : Nat), (bt (m' 24 j) o = true ↔ bt (m 24 j) o = true ∨ ∃ f : Int, (0 ≤ f ∧ f < i) ∧ bt (m 23 f) o = true ∧ bt u o = true ∧ box w d l c f j) ∧ (bt (m' 25 j) o = true ↔ bt (m 25 j) o = true ∨ ∃ f : Int, (0 ≤ f ∧ f < i) ∧ bt (m 23 f) o = true ∧ bt v o = true ∧ box w d l c f j)) → kW (eX X) 1 M_X6_spreadAll T 1 [some (vR 22), some (vI c), some (vI u), some (vI v), some (vI i)] [] m' := by
    intro k
    induction k with
    | zero =>
      intro i m' hi h0 hf hb
      have : i = 3 := by omega
      subst this
      refine kW_go ok_X6_spreadAll [1] 20 ?_
      exact ⟨fun _ => hT _ _ ⟨rfl, hf, hb⟩, fun h => absurd h (by decide)⟩
    | succ k ih =>
      intro i m' hi h0 hf hb
      have e23 : m' 23 = m 23 := hf 23 (by decide) (by decide)
      have hib : 0 ≤ i ∧ i < ((3 : Nat) : Int) := by omega
      refine kW_go ok_X6_spreadAll [1] 20 ?_
      refine ⟨fun h => absurd (show (3 : Int) ≤ i from h) (by omega), fun _ => ?_⟩
      show (0 ≤ i ∧ i < ((3 : Nat) : Int)) ∧ (kand (kor u v) (m' 23 i) = 0 → inR (i + 1) ∧ kW (eX X) 1 M_X6_spreadAll T 1 [some (vR 22), some (vI c), some (vI u), some (vI v), some (vI (i + 1))] [] m') ∧ (¬ kand (kor u v) (m' 23 i) = 0 → (0 ≤ i ∧ i < ((3 : Nat) : Int)) ∧ (0 ≤ i ∧ i < ((3 : Nat) : Int)) ∧ kCall (eX X) 1 M_X6_spread.1 [vR 22, vI c, vI i, vI (kand u (m' 23 i)), vI (kand v (m' 23 i))] m' _)
      rw [e23]
      refine ⟨hib, fun h => ⟨by constructor <;> omega, ih (i + 1) m' (by omega) (by omega) hf (fun j o => ?_)⟩, fun h => ⟨hib, hib, ?_⟩⟩
      · have hno : ∀ x : Int, (x = u ∨ x = v) → bt (m 23 i) o = true → bt x o = true → False := by
          intro x hx h1 h2
          have ho : o < 32 := by
            rcases Nat.lt_or_ge o 32 with q | q
            · exact q
            · rw [bt_ge _ q] at h2; cases h2
          have := (k_and0.mp h) o ho
          rw [bt_or] at this
          rcases hx with rfl | rfl <;> exact this ⟨by rw [h2]; simp, h1⟩
        constructor
        · rw [(hb j o).1]
          constructor
          · rintro (q | ⟨f, h1, h2⟩)
            · exact Or.inl q
            · exact Or.inr ⟨f, by omega, h2⟩
          · rintro (q | ⟨f, h1, h2, h3, h4⟩)
            · exact Or.inl q
            · by_cases hfi : f = i
              · subst hfi; exact absurd h3 (fun h3 => hno u (Or.inl rfl) h2 h3)
              · exact Or.inr ⟨f, by omega, h2, h3, h4⟩
        · rw [(hb j o).2]
          constructor
          · rintro (q | ⟨f, h1, h2⟩)
            · exact Or.inl q
            · exact Or.inr ⟨f, by omega, h2⟩
          · rintro (q | ⟨f, h1, h2, h3, h4⟩)
            · exact Or.inl q
            · by_cases hfi : f = i
              · subst hfi; exact absurd h3 (fun h3 => hno v (Or.inr rfl) h2 h3)
              · exact Or.inr ⟨f, by omega, h2, h3, h4⟩
      · refine kCall_mono (c_X6_spread X m' hD hn (gridC_same hG (fun o o1 o2 => hf o (by omega) (by omega))) c i _ _ hc (by omega)) (Nat.le_of_ble_eq_true rfl) ?_
        rintro _ m2 ⟨rfl, hs⟩
        refine ⟨by constructor <;> omega, ih (i + 1) m2 (by omega) (by omega) (fun o h1 h2 => by rw [hs.1 o h1 h2]; exact hf o h1 h2) (fun j o => ?_)⟩
        by_cases hbx : box w d l c i j
        · rw [((hs.2 j).1 hbx).1, ((hs.2 j).1 hbx).2, bt_or, bt_or, bt_and, bt_and]
          constructor
          · rw [Bool.or_eq_true, Bool.and_eq_true, (hb j o).1]
            constructor
            · rintro ((q | ⟨f, h1, h2⟩) | ⟨q1, q2⟩)
              · exact Or.inl q
              · exact Or.inr ⟨f, by omega, h2⟩
              · exact Or.inr ⟨i, by omega, q2, q1, hbx⟩
            · rintro (q | ⟨f, h1, h2, h3, h4⟩)
              · exact Or.inl (Or.inl q)
              · by_cases hfi : f = i
                · subst hfi; exact Or.inr ⟨h3, h2⟩
                · exact Or.inl (Or.inr ⟨f, by omega, h2, h3, h4⟩)
          · rw [Bool.or_eq_true, Bool.and_eq_true, (hb j o).2]
            constructor
            · rintro ((q | ⟨f, h1, h2⟩) | ⟨q1, q2⟩)
              · exact Or.inl q
              · exact Or.inr ⟨f, by omega, h2⟩
              · exact Or.inr ⟨i, by omega, q2, q1, hbx⟩
            · rintro (q | ⟨f, h1, h2, h3, h4⟩)
              · exact Or.inl (Or.inl q)
              · by_cases hfi : f = i
                · subst hfi; exact Or.inr ⟨h3, h2⟩
                · exact Or.inl (Or.inr ⟨f, by omega, h2, h3, h4⟩)
        · rw [((hs.2 j).2 hbx).1, ((hs.2 j).2 hbx).2]
          constructor
          · rw [(hb j o).1]
            constructor
            · rintro (q | ⟨f, h1, h2⟩)
              · exact Or.inl q
              · exact Or.inr ⟨f, by omega, h2⟩
            · rintro (q | ⟨f, h1, h2, h3, h4⟩)
              · exact Or.inl q
              · by_cases hfi : f = i
                · subst hfi; exact absurd h4 hbx
                · exact Or.inr ⟨f, by omega, h2, h3, h4⟩
          · rw [(hb j o).2]
            constructor
            · rintro (q | ⟨f, h1, h2⟩)
              · exact Or.inl q
              · exact Or.inr ⟨f, by omega, h2⟩
            · rintro (q | ⟨f, h1, h2, h3, h4⟩)
              · exact Or.inl q
              · by_cases hfi : f = i
                · subst hfi; exact absurd h4 hbx
                · exact Or.inr ⟨f, by omega, h2, h3, h4⟩
  refine kW_go ok_X6_spreadAll [1] 20 ?_
  refine loop 3 0 m (by omega) (by omega) (fun _ _ _ => rfl) (fun j o => ⟨?_, ?_⟩)
  · constructor
    · exact Or.inl
    · rintro (q | ⟨f, h1, -⟩)
      · exact q
      · omega
  · constructor
    · exact Or.inl
    · rintro (q | ⟨f, h1, -⟩)
      · exact q
      · omega
