/-! PRESS alike: both calls -/
theorem inv_back2 {X : Xv} {w d l : Int} {m m3 m4 : Mem} (hI : Inv X w d l m) (h : ∀ o, ((1 ≤ o ∧ o ≤ 19 ∧ o ≠ 8) ∨ o = 31 ∨ o = 41 ∨ o = 47 ∨ 54 ≤ o) → o ≠ 17 → o ≠ 19 → m3 o = m o) (h19 : rows19 w d l m m3) (h17 : ∀ x, inC w d l x → m3 17 x = m 17 x) (h2 : ∀ o, o < 54 → m4 o = m3 o) (hR : RR w d l m m4) : Inv X w d l m4 := by
  obtain ⟨mH, hmH⟩ : ∃ mH : Mem, mH = fun o => if o = 17 then m 17 else if o = 19 then m 19 else m3 o := ⟨_, rfl⟩
  have e17 : mH 17 = m 17 := by rw [hmH]; rfl
  have e19 : mH 19 = m 19 := by rw [hmH]; rfl
  have eo : ∀ o, o ≠ 17 → o ≠ 19 → mH o = m3 o := fun o a b => by rw [hmH]; show (if o = 17 then _ else if o = 19 then _ else _) = _; rw [if_neg a, if_neg b]
  have hk : ∀ o, ((1 ≤ o ∧ o ≤ 19 ∧ o ≠ 8) ∨ o = 31 ∨ o = 41 ∨ o = 47 ∨ 54 ≤ o) → mH o = m o := by
    intro o ho
    by_cases a : o = 17
    · rw [a]; exact e17
    · by_cases b : o = 19
      · rw [b]; exact e19
      · rw [eo o a b]; exact h o ho a b
  have hIH := inv_k hI hk
  refine inv_back hIH (fun o _ a b => (eo o a b).symm) (fun n x hn hx => ?_) (fun x hx => ?_) h2 (RR_es (Es_of (fun o ho => hk o (by omega))) hR)
  · rw [e19]; exact h19 n x hn hx
  · rw [e17]; exact h17 x hx
set_option maxRecDepth 100000 in
theorem pair_press (X : Xv) (m : Mem) {w d l : Int} (hI : Inv X w d l m) (R pr : Int) : kPair X 147 249 [vI R, vI pr] m (Inv X w d l) := by
  have hD := hI.1.1
  have hc := okD_cells hD
  have hN := hI.1.2.1
  refine kp2 (k1 := 8) (k2 := 10) (by decide) (by decide) ?_
  refine kCall_ofT ok_X11_press rfl (Nat.le_of_ble_eq_true rfl) (fun T hT => ?_)
  refine kW_go ok_X11_press [1] 20 ?_
  refine kCall_mono (c_X11_arePressing _ m R pr) (Nat.le_of_ble_eq_true rfl) ?_
  rintro _ m ⟨rfl, rfl⟩
  refine And.intro (fun h => ?_) (fun h => ?_)
  · have hok := b2i_n.mp h
    refine kW_go ok_X11_press [2] 20 ?_
    refine kCall_mono (c_save X hI) (Nat.le_of_ble_eq_true rfl) ?_
    rintro _ m1 ⟨rfl, hI1, hS1, -⟩
    refine kCall_mono (c_X5_pressAll X m1 hI1.1 (Inv_WS hI1) hI1.2.2.2.2.2 R pr hok.1 hok.2) (Nat.le_of_ble_eq_true rfl) ?_
    rintro _ m2 ⟨res, c1, hP, rfl, hsome, ht, hf⟩
    have hans : ansR res = -1 ↔ res = none := ansR_ne (fun z hz => by have := ht z hz; omega)
    have hW1 := hI1.2.2.1
    refine And.intro (fun hne => ?_) (fun he => ?_)
    · have hne : ¬ ansR res = -1 := hne
      obtain ⟨b1, b2, b3⟩ := hsome (fun z => hne (hans.mpr z))
      refine kW_go ok_X11_press [] 20 ?_
      refine hT _ _ ⟨_, rfl, ?_⟩
      have hR2 : RR w d l m1 m2 := RR_ref (fun o a _ => hf o (by omega)) hI1.2.2.2.1
      refine kCall_mono (c_X12_press X m1 m2 hD (WF_WM hW1) hR2 R pr) (Nat.le_of_ble_eq_true rfl) ?_
      rintro _ m4 (⟨h1, -⟩ | ⟨-, res2, c2, hP2, rfl, hq, hr⟩)
      · exact absurd hok h1
      obtain ⟨rfl, hcc⟩ := prA_one hP hP2
      obtain rfl := hcc (fun z => hne (hans.mpr z))
      rcases hr with ⟨h1, -⟩ | ⟨-, hR4, hM4, -⟩
      · exact absurd (hans.mpr h1) hne
      refine ⟨rfl, inv_mk hI1 (m1 := m2) (c' := c1) (fun o a b => hf o (by omega)) (Es_of (fun o ho => ?_)) (WF_of_WM hW1 b2.1 b3) (by rw [hf 6 (by omega)]) (hf 31 (by omega)) (fun o ho => hq o (by omega)) hR4⟩
      by_cases h9 : 9 ≤ o ∧ o ≤ 19
      · exact b1 o h9.1 h9.2
      · rw [hf o (by omega), b3 o (by omega) (by omega)]
    · have he : ansR res = -1 := he
      have hnone := hans.mp he
      subst hnone
      have hS2 : Sv w d l m1 m2 := Sv_same (hf 20 (by omega)) (hf 21 (by omega)) hS1
      refine kCall_mono (c_back X hN hS2) (Nat.le_of_ble_eq_true rfl) ?_
      rintro _ m3 ⟨rfl, h19, h17, h3⟩
      refine kW_go ok_X11_press [] 20 ?_
      refine hT _ _ ⟨_, rfl, ?_⟩
      have hR3 : RR w d l m1 m3 := RR_ref (fun o a _ => by rw [h3 o (by omega) (by omega)]; exact hf o (by omega)) hI1.2.2.2.1
      refine kCall_mono (c_X12_press X m1 m3 hD (WF_WM hW1) hR3 R pr) (Nat.le_of_ble_eq_true rfl) ?_
      rintro _ m4 (⟨h1, -⟩ | ⟨-, res2, c2, hP2, rfl, hq, hr⟩)
      · exact absurd hok h1
      obtain ⟨rfl, -⟩ := prA_one hP hP2
      rcases hr with ⟨-, hR4⟩ | ⟨h1, -⟩
      · exact ⟨rfl, inv_back2 hI1 (fun o ho a b => by rw [h3 o a b]; exact hf o (by omega)) h19 h17 (fun o ho => hq o (by omega)) hR4⟩
      · exact absurd rfl h1
  · have hno := b2i_0.mp h
    refine hT _ _ ⟨_, rfl, ?_⟩
    refine kCall_mono (c_X12_press X m m hD (WF_WM hI.2.2.1) hI.2.2.2.1 R pr) (Nat.le_of_ble_eq_true rfl) ?_
    rintro _ m4 (⟨-, rfl, rfl⟩ | ⟨h1, -⟩)
    · exact ⟨rfl, hI⟩
    · exact absurd h1 hno
