/-! FAULT, SORT: the class's scan -/
theorem c_X8_readNumber (X : Xv) (m : Mem) {g : Int → Int} {n L : Int} (hg : TPE g n) (hC : CT g n L m) (kd i : Int) (hk : 0 ≤ kd ∧ kd < 4) (h4 : m 6 4 = i) (hi : 0 ≤ i ∧ i ≤ n) : kCall (eX X) 2 M_X8_readNumber.1 [vR 6, vI kd] m (fun r m' => r = some (vI (numF g (leaF kd) (mosF kd) i).1) ∧ tpS m m' ∧ m' 6 5 = m 6 5 ∧ m' 6 4 = (numF g (leaF kd) (mosF kd) i).2.1 ∧ ((numF g (leaF kd) (mosF kd) i).1 = 1 → ∀ x, m' 8 x = if x = kd then (numF g (leaF kd) (mosF kd) i).2.2 else m 8 x)) := by
  obtain ⟨lo, hlo⟩ : ∃ lo, lo = leaF kd := ⟨_, rfl⟩
  obtain ⟨hi9, hhi⟩ : ∃ hi9, hi9 = mosF kd := ⟨_, rfl⟩
  have hk4 : 0 ≤ kd ∧ kd < ((4 : Nat) : Int) := hk
  have hk5 : 0 ≤ kd ∧ kd < ((5 : Nat) : Int) := by omega
  have hn := hg.1
  have hmul : ∀ v, inR (v - 1) ↔ inR (v - 1) := fun _ => Iff.rfl
  rw [← hlo, ← hhi]
  refine kCall_ofT ok_X8_readNumber rfl (Nat.le_of_ble_eq_true rfl) (fun T hT => ?_)
  have hd1 := dgV_in (g i)
  have hd2 := dgV_in (g (i + 1))
  refine kW_go ok_X8_readNumber [1] 20 ?_
  refine kCall_mono (c_X8_digitHere X m hg hC i h4 hi.1) (Nat.le_of_ble_eq_true rfl) ?_
  rintro _ m1 ⟨rfl, rfl⟩
  refine And.intro (fun h1 => ?_) (fun h1 => hT _ _ ⟨Or.inl rfl, ?_, tpS_rf, rfl, ?_, ?_⟩)
  rotate_left
  · unfold numF; rw [if_pos h1]
  · unfold numF; rw [if_pos h1]; exact h4
  · unfold numF; rw [if_pos h1]; exact fun q => absurd q (by show ¬ (0 : Int) = 1; decide)
  have h1 : ¬ dgV (g i) = -1 := h1
  have a1 := dg_lt hg h1
  -- the value told: in its range, or not
  have judge : ∀ (v p x3 : Int) (mm : Mem), tpS m1 mm → mm 6 5 = m1 6 5 → mm 8 = m1 8 → mm 6 4 = p → (i + 1 ≤ p ∧ p ≤ n) → x3 = dgV (g (i + 1)) → (x3 = -1 → p = i + 1) → (x3 ≠ -1 → p = i + 2) → v = (if dgV (g (i + 1)) = -1 then dgV (g i) else dgV (g i) * 10 + dgV (g (i + 1))) → kW (eX X) 1 M_X8_readNumber T 2 [some (vR 6), some (vI kd), some (vI v), some (vI x3)] [] mm := by
    intro v p x3 mm hs e5 e8 e4 hp hx hp1 hp2 hv
    have hCm := CT_s hC hs
    have bad : ¬ (lo ≤ v ∧ v ≤ hi9) → kW (eX X) 1 M_X8_readNumber T 3 [some (vR 6), some (vI kd), some (vI v), some (vI x3)] [] mm := by
      intro hno
      refine kW_go ok_X8_readNumber [] 20 ?_
      have e4f : fld mm 6 4 = p := e4
      refine ⟨by constructor <;> omega, hT _ _ ⟨Or.inl rfl, ?_, tpS_tr hs (tpS_6 (Or.inl rfl)), by show mset mm 6 4 _ 6 5 = _; rw [k_mset_at, if_neg (by decide)]; exact e5, ?_, ?_⟩⟩
      · unfold numF
        rw [if_neg h1]
        by_cases e : dgV (g (i + 1)) = -1
        · rw [if_pos e] at hv ⊢
          rw [hv] at hno
          rw [if_neg hno]
        · rw [if_neg e] at hv ⊢
          rw [hv] at hno
          rw [if_neg hno]
      · show mset mm 6 4 (mm 6 4 - 1) 6 4 = _
        rw [k_mset_at, if_pos rfl, e4]
        unfold numF
        rw [if_neg h1]
        by_cases e : dgV (g (i + 1)) = -1
        · rw [if_pos e] at hv ⊢
          rw [hv] at hno
          rw [if_neg hno]
          have := hp1 (by rw [hx]; exact e)
          show p - 1 = i
          omega
        · rw [if_neg e] at hv ⊢
          rw [hv] at hno
          rw [if_neg hno]
          have := hp2 (by rw [hx]; exact e)
          show p - 1 = i + 1
          omega
      · unfold numF
        rw [if_neg h1]
        by_cases e : dgV (g (i + 1)) = -1
        · rw [if_pos e] at hv ⊢
          rw [hv] at hno
          rw [if_neg hno]
          exact fun q => absurd q (by show ¬ (0 : Int) = 1; decide)
        · rw [if_neg e] at hv ⊢
          rw [hv] at hno
          rw [if_neg hno]
          exact fun q => absurd q (by show ¬ (0 : Int) = 1; decide)
    refine kW_go ok_X8_readNumber [3, 4] 20 ?_
    show (0 ≤ kd ∧ kd < ((4 : Nat) : Int)) ∧ (v < leaF kd → _) ∧ (leaF kd ≤ v → (0 ≤ kd ∧ kd < ((4 : Nat) : Int)) ∧ (v ≤ mosF kd → kW (eX X) 1 M_X8_readNumber T 4 [some (vR 6), some (vI kd), some (vI v), some (vI x3)] [] mm) ∧ (mosF kd < v → _))
    rw [← hlo, ← hhi]
    refine ⟨hk4, fun h => bad (by omega), fun h => ⟨hk4, fun h2 => ?_, fun h2 => bad (by omega)⟩⟩
    have hin : lo ≤ v ∧ v ≤ hi9 := ⟨h, h2⟩
    have s8 : tpS m1 (mset mm 8 kd v) := tpS_tr hs tpS_8
    have e8' : ∀ x, mset mm 8 kd v 8 x = if x = kd then v else m1 8 x := fun x => by rw [k_mset_at, e8]
    have e4' : mset mm 8 kd v 6 4 = p := by rw [k_mset_ne (by decide)]; exact e4
    have e5' : mset mm 8 kd v 6 5 = m1 6 5 := by rw [k_mset_ne (by decide)]; exact e5
    refine kW_go ok_X8_readNumber [5, 6] 20 ?_
    refine ⟨hk5, And.intro (fun h3 => ?_) (fun h3 => ?_)⟩
    · have h3 : x3 = -1 := h3
      have e : dgV (g (i + 1)) = -1 := by rw [← hx]; exact h3
      rw [if_pos e] at hv
      have hNF : numF g lo hi9 i = (1, i + 1, v) := by
        unfold numF
        rw [if_neg h1, if_pos e, ← hv, if_pos hin]
      refine kW_go ok_X8_readNumber [] 20 ?_
      refine hT _ _ ⟨Or.inr rfl, by rw [hNF], s8, e5', by rw [hNF, e4']; exact hp1 h3, fun _ x => by rw [hNF]; exact e8' x⟩
    · have h3 : x3 ≠ -1 := h3
      have e : ¬ dgV (g (i + 1)) = -1 := by rw [← hx]; exact h3
      rw [if_neg e] at hv
      have ep := hp2 h3
      have hNF : numF g lo hi9 i = ((if dgV (g (i + 2)) = -1 then 1 else 0), i + 2, v) := by
        unfold numF
        rw [if_neg h1, if_neg e, ← hv, if_pos hin]
      refine kCall_mono (c_X8_digitHere X (mset mm 8 kd v) hg (CT_s hC s8) p e4' (by omega)) (Nat.le_of_ble_eq_true rfl) ?_
      rintro _ m3 ⟨rfl, rfl⟩
      rw [ep]
      refine And.intro (fun h4 => ?_) (fun h4 => ?_)
      · have h4 : ¬ dgV (g (i + 2)) = -1 := h4
        rw [if_neg h4] at hNF
        refine kW_go ok_X8_readNumber [] 20 ?_
        refine hT _ _ ⟨Or.inl rfl, by rw [hNF], s8, e5', by rw [hNF, e4']; exact ep, fun q => by rw [hNF] at q; exact absurd q (by show ¬ (0 : Int) = 1; decide)⟩
      · have h4 : dgV (g (i + 2)) = -1 := h4
        rw [if_pos h4] at hNF
        refine kW_go ok_X8_readNumber [] 20 ?_
        refine hT _ _ ⟨Or.inr rfl, by rw [hNF], s8, e5', by rw [hNF, e4']; exact ep, fun _ x => by rw [hNF]; exact e8' x⟩
  have s1 : tpS m1 (mset m1 6 4 (i + 1)) := tpS_6 (Or.inl rfl)
  have f4 : mset m1 6 4 (i + 1) 6 4 = i + 1 := by rw [k_mset_at, if_pos rfl]
  have f5 : mset m1 6 4 (i + 1) 6 5 = m1 6 5 := by rw [k_mset_at, if_neg (by decide)]
  have f8 : mset m1 6 4 (i + 1) 8 = m1 8 := k_mset_ne (by decide)
  refine kW_go ok_X8_readNumber [2] 20 ?_
  show inR (m1 6 4 + 1) ∧ kCall (eX X) 1 107 [vR 6] (mset m1 6 4 (m1 6 4 + 1)) _
  rw [h4]
  refine ⟨by constructor <;> omega, ?_⟩
  refine kCall_mono (c_X8_digitHere X (mset m1 6 4 (i + 1)) hg (CT_s hC s1) (i + 1) f4 (by omega)) (Nat.le_of_ble_eq_true rfl) ?_
  rintro _ m2 ⟨rfl, rfl⟩
  refine And.intro (fun h2 => ?_) (fun h2 => ?_)
  · have h2 : dgV (g (i + 1)) = -1 := h2
    exact judge _ (i + 1) _ _ s1 f5 f8 f4 (by omega) rfl (fun _ => rfl) (fun q => absurd h2 q) (by rw [if_pos h2])
  · have h2 : ¬ dgV (g (i + 1)) = -1 := h2
    have a2 := dg_lt hg h2
    show inR (dgV (g i) * 10) ∧ inR (dgV (g i) * 10 + dgV (g (i + 1))) ∧ inR (mset m1 6 4 (i + 1) 6 4 + 1) ∧ kW (eX X) 1 M_X8_readNumber T 2 [some (vR 6), some (vI kd), some (vI (dgV (g i) * 10 + dgV (g (i + 1)))), some (vI (dgV (g (i + 1))))] [] (mset (mset m1 6 4 (i + 1)) 6 4 (mset m1 6 4 (i + 1) 6 4 + 1))
    rw [f4]
    refine ⟨by constructor <;> omega, by constructor <;> omega, by constructor <;> omega, judge _ (i + 2) _ _ (tpS_tr s1 (tpS_6 (Or.inl rfl))) ?_ ?_ ?_ (by omega) rfl (fun q => absurd q h2) (fun _ => rfl) (by rw [if_neg h2])⟩
    · rw [k_mset_at, if_neg (by decide)]; exact f5
    · rw [k_mset_ne (by decide)]; exact f8
    · rw [k_mset_at, if_pos rfl]; omega
