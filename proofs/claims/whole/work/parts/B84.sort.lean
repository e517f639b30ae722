/-! SORT alike -/
set_option maxRecDepth 100000 in
theorem pair_sort (X : Xv) (m : Mem) {w d l : Int} (hI : Inv X w d l m) : kPair X 133 196 [] m (Inv X w d l) := by
  obtain ⟨hB, hl, hW, hR, h60, h31⟩ := id hI
  obtain ⟨hD, hN, hG⟩ := id hB
  have hL := hD.2.2
  have hg := chA_TPE hW
  have hs6 := hW.1.1
  have hn0 := hg.1
  have h13 : m 54 13 = m 9 13 := hR.1.2.2.1.1
  refine kp2 (k1 := 6) (k2 := 6) (by decide) (by decide) ?_
  refine kCall_ofT ok_X11_sort rfl (Nat.le_of_ble_eq_true rfl) (fun T hT => ?_)
  refine kW_go ok_X11_sort [1, 2] 20 ?_
  refine And.intro (fun h => ?_) (fun h => ?_)
  · have h : 6 ≤ m 9 13 := h
    refine kW_go ok_X11_sort [] 20 ?_
    refine hT _ _ ⟨_, rfl, ?_⟩
    refine kCall_ofT ok_X12_sort rfl (Nat.le_of_ble_eq_true rfl) (fun T hT => ?_)
    refine kW_go ok_X12_sort [1] 20 ?_
    refine And.intro (fun _ => ?_) (fun h2 => ?_)
    · refine kW_go ok_X12_sort [] 20 ?_
      exact hT _ _ ⟨rfl, hI⟩
    · have h2 : ¬ m 54 13 = 6 := h2
      omega
  · have h : m 9 13 < 6 := h
    obtain ⟨R, hRd⟩ : ∃ R, R = scF (chA m) (m 6 3) l 6 0 (st0 l) 0 := ⟨_, rfl⟩
    have hok := scF_ok hg hL 6 0 0 (st0 l) (by omega) (st0_ok hL)
    have hsc := c_X8_scan X m hg hL (inv_CT hI)
    rw [← hRd] at hok hsc
    refine kCall_mono hsc (Nat.le_of_ble_eq_true rfl) ?_
    rintro _ m1 ⟨rfl, h1, hf⟩
    have e13 : m1 54 13 = m 9 13 := by rw [h1.1 54 (by decide) (by decide)]; exact h13
    have hrs : ∀ mx : Mem, RT (chA m) (m 6 3) l mx → kCall (eX X) 5 M_X12_readSort.1 [vR 54, vI (m 9 13)] mx (fun r m' => r = some (vI R.1) ∧ rtS (m 9 13) mx m' ∧ (R.1 = -1 → R5 m' (m 9 13) R.2)) := fun mx hx => by
      have := c_X12_readSort X mx hg hL hx (m 9 13) (by omega)
      rw [← hRd] at this
      exact this
    refine And.intro (fun he => ?_) (fun he => ?_)
    · -- the tape is right
      have he : R.1 = -1 := he
      have hf := hf he
      have hok := hok he
      obtain ⟨mx, hmx⟩ : ∃ mx, mx = mset m1 6 3 0 := ⟨_, rfl⟩
      have x9 : mx 9 = m 9 := by rw [hmx, k_mset_ne (by decide)]; exact h1.1 9 (by decide) (by decide)
      refine kW_go ok_X11_sort [] 20 ?_
      show kCall (eX X) 5 M_X3_addSort.1 [vR 9, vR 8] (mset m1 6 3 0) _
      rw [← hmx]
      refine kCall_mono (c_X3_addSort X mx (by rw [x9]; omega)) (Nat.le_of_ble_eq_true rfl) ?_
      rw [x9]
      rintro _ m2 ⟨rfl, hm2⟩
      have o2 : ∀ o, o ≠ 6 → o ≠ 8 → o ≠ 9 → o ≠ 10 → m2 o = m o := fun o a b c e => by
        rw [hm2]
        unfold fset
        rw [k_mset_ne c, mcpy_ne e, hmx, k_mset_ne a]
        exact h1.1 o a b
      have f9 : ∀ j, m2 9 j = if j = 13 then m 9 13 + 1 else m 9 j := fun j => by
        rw [hm2]
        unfold fset
        rw [k_mset_at, mcpy_ne (by decide), x9]
        rfl
      have f10 : ∀ j, m2 10 j = if m 9 13 * 5 ≤ j ∧ j < m 9 13 * 5 + 5 then m1 8 (j - m 9 13 * 5) else m 10 j := fun j => by
        rw [hm2]
        unfold fset
        rw [k_mset_ne (by decide)]
        show (if (10 : Nat) = 10 then (fun j => if m 9 13 * 5 ≤ j ∧ j < m 9 13 * 5 + 5 then mx 8 (0 + (j - m 9 13 * 5)) else mx 10 j) else mx 10) j = _
        rw [if_pos rfl]
        show (if m 9 13 * 5 ≤ j ∧ j < m 9 13 * 5 + 5 then mx 8 (0 + (j - m 9 13 * 5)) else mx 10 j) = _
        rw [Int.zero_add, hmx, k_mset_ne (by decide), k_mset_ne (by decide), h1.1 10 (by decide) (by decide)]
      have f6 : ∀ j, m2 6 j = if j = 3 then 0 else m1 6 j := fun j => by
        rw [hm2]
        unfold fset
        rw [k_mset_ne (by decide), mcpy_ne (by decide), hmx, k_mset_at]
      have e913 : m2 9 13 = m 9 13 + 1 := by rw [f9, if_pos rfl]
      have e914 : m2 9 14 = m 9 14 := by rw [f9, if_neg (by decide)]
      have e63 : m2 6 3 = 0 := by rw [f6, if_pos rfl]
      have old : ∀ s' k : Int, (0 ≤ s' ∧ s' < m 9 13) → (0 ≤ k ∧ k < 5) → m2 10 (s' * 5 + k) = m 10 (s' * 5 + k) := fun s' k a b => by rw [f10, if_neg (by omega)]
      have new : ∀ k : Int, (0 ≤ k ∧ k < 5) → m2 10 (m 9 13 * 5 + k) = R.2 k := fun k b => by
        rw [f10, if_pos (by omega), show m 9 13 * 5 + k - m 9 13 * 5 = k by omega]
        exact hf k b
      have old0 : ∀ s' : Int, (0 ≤ s' ∧ s' < m 9 13) → m2 10 (s' * 5) = m 10 (s' * 5) := fun s' a => by have := old s' 0 a (by decide); rw [Int.add_zero] at this; exact this
      have new0 : m2 10 (m 9 13 * 5) = R.2 0 := by have := new 0 (by decide); rw [Int.add_zero] at this; exact this
      have hW2 : WF w d l m2 := by
        obtain ⟨⟨b1, b2, b3, b4, b5⟩, c1, c2, c3, c4, c5, c6⟩ := id hW
        have g11 : m2 11 = m 11 := o2 11 (by decide) (by decide) (by decide) (by decide)
        have g12 : m2 12 = m 12 := o2 12 (by decide) (by decide) (by decide) (by decide)
        refine ⟨⟨by rw [e913]; omega, by rw [e914]; exact b2, fun s' hs' => ?_, fun n hn => ?_, fun n hn => by rw [g12]; exact b5 n hn⟩, WFp_o e914 (o2 13 (by decide) (by decide) (by decide) (by decide)) (o2 14 (by decide) (by decide) (by decide) (by decide)) c1, fun n hn => WFn_o e914 (fun o a b _ => o2 o (by omega) (by omega) (by omega) (by omega)) (c2 n hn), fun x hx => ?_, fun x => ?_, ⟨by rw [e63]; omega, fun i hi => by rw [e63] at hi; omega⟩, fun j hj => ?_⟩
        · rw [e913] at hs'
          by_cases e : s' = m 9 13
          · rw [e, new0, new 1 (by decide), new 2 (by decide), new 3 (by decide), new 4 (by decide)]
            exact hok
          · have hs2 : 0 ≤ s' ∧ s' < m 9 13 := by omega
            rw [old0 s' hs2, old s' 1 hs2 (by decide), old s' 2 hs2 (by decide), old s' 3 hs2 (by decide), old s' 4 hs2 (by decide)]
            exact b3 s' hs2
        · rw [e914] at hn
          rw [e913, g11]
          have := b4 n hn
          omega
        · rw [o2 16 (by decide) (by decide) (by decide) (by decide), o2 17 (by decide) (by decide) (by decide) (by decide)]; exact c3 x hx
        · rw [o2 15 (by decide) (by decide) (by decide) (by decide)]; exact c4 x
        · rw [o2 47 (by decide) (by decide) (by decide) (by decide)]; exact c6 j hj
      refine hT _ _ ⟨_, rfl, ?_⟩
      have hRT2 : RT (chA m) (m 6 3) l m2 := by
        have h := inv_RT hI h1
        refine ⟨?_, ?_, fun i hi => ?_⟩
        · rw [o2 54 (by decide) (by decide) (by decide) (by decide), ← h1.1 54 (by decide) (by decide)]; exact h.1
        · rw [o2 54 (by decide) (by decide) (by decide) (by decide), ← h1.1 54 (by decide) (by decide)]; exact h.2.1
        · rw [o2 55 (by decide) (by decide) (by decide) (by decide), ← h1.1 55 (by decide) (by decide)]; exact h.2.2 i hi
      have e13' : m2 54 13 = m 9 13 := by rw [o2 54 (by decide) (by decide) (by decide) (by decide)]; exact h13
      have e13f : fld m2 54 13 = m 9 13 := e13'
      refine kCall_ofT ok_X12_sort rfl (Nat.le_of_ble_eq_true rfl) (fun T hT => ?_)
      refine kW_go ok_X12_sort [1, 2] 20 ?_
      refine And.intro (fun h2 => ?_) (fun h2 => ?_)
      · have h2 : m2 54 13 = 6 := h2
        omega
      show kCall (eX X) 5 194 [vR 54, vI (fld m2 54 13)] m2 _
      rw [e13f]
      refine kCall_mono (hrs m2 hRT2) (Nat.le_of_ble_eq_true rfl) ?_
      rintro _ m3 ⟨rfl, h3, h5⟩
      have h5 := h5 he
      refine And.intro (fun _ => ?_) (fun h4 => absurd he h4)
      have e13'' : m3 54 13 = m 9 13 := by rw [h3.2.2 13 (by decide) (by decide) (by decide)]; exact e13'
      have hRx : RR w d l m m3 := RR_rt (Int.le_refl _) h3 (RR_ref (fun o a _ => o2 o (by omega) (by omega) (by omega) (by omega)) hR)
      obtain ⟨m4, hm4⟩ : ∃ m4, m4 = mset (mset m3 54 5 0) 54 13 (m 9 13 + 1) := ⟨_, rfl⟩
      have hfin : Inv X w d l m4 := by
        have q4 : ∀ o, o ≠ 54 → m4 o = m3 o := fun o ho => by rw [hm4, k_mset_ne ho, k_mset_ne ho]
        have q54 : ∀ i, i ≠ 5 → i ≠ 13 → m4 54 i = m3 54 i := fun i a b => by rw [hm4, k_mset_at, if_neg b, k_mset_at, if_neg a]
        have q5 : m4 54 5 = 0 := by rw [hm4, k_mset_at, if_neg (by decide), k_mset_at, if_pos rfl]
        have q13 : m4 54 13 = m 9 13 + 1 := by rw [hm4, k_mset_at, if_pos rfl]
        have hR4 : RR w d l m2 m4 := by
          unfold RR RRs RRn dimM fld at hRx ⊢
          obtain ⟨⟨a1, a2, ⟨a3, a4⟩, ⟨a5, a5'⟩, a6, a7, a8⟩, b, b28, b30⟩ := hRx
          rw [q4 55 (by decide), q4 56 (by decide), q4 57 (by decide), q4 58 (by decide), q4 59 (by decide), q4 60 (by decide), q4 61 (by decide), q4 62 (by decide), q4 63 (by decide), q4 64 (by decide), q4 65 (by decide), q4 66 (by decide), q4 67 (by decide), q4 68 (by decide), q4 69 (by decide), q4 70 (by decide), q4 71 (by decide), q4 72 (by decide), q4 88 (by decide), q5, q13, q54 26 (by decide) (by decide), q54 28 (by decide) (by decide), q54 30 (by decide) (by decide), e63, e913, e914, o2 11 (by decide) (by decide) (by decide) (by decide), o2 12 (by decide) (by decide) (by decide) (by decide), o2 13 (by decide) (by decide) (by decide) (by decide), o2 14 (by decide) (by decide) (by decide) (by decide), o2 15 (by decide) (by decide) (by decide) (by decide), o2 16 (by decide) (by decide) (by decide) (by decide), o2 17 (by decide) (by decide) (by decide) (by decide), o2 18 (by decide) (by decide) (by decide) (by decide), o2 19 (by decide) (by decide) (by decide) (by decide), o2 47 (by decide) (by decide) (by decide) (by decide)]
          refine ⟨⟨?_, ⟨rfl, fun i hi => by omega⟩, ⟨rfl, fun s' hs' => ?_⟩, ⟨a5, a5'⟩, a6, a7, a8⟩, b, b28, b30⟩
          · obtain ⟨z1, z2, z3, z4⟩ := a1
            exact ⟨(q54 1 (by decide) (by decide)).trans z1, (q54 2 (by decide) (by decide)).trans z2, (q54 3 (by decide) (by decide)).trans z3, z4⟩
          · by_cases e : s' = m 9 13
            · rw [e, new0, new 1 (by decide), new 2 (by decide), new 3 (by decide), new 4 (by decide)]
              exact h5
            · have hs2 : 0 ≤ s' ∧ s' < m 9 13 := by omega
              rw [old0 s' hs2, old s' 1 hs2 (by decide), old s' 2 hs2 (by decide), old s' 3 hs2 (by decide), old s' 4 hs2 (by decide)]
              exact a4 s' hs2
        have hE : ∀ o, o < 54 → m4 o = m2 o := fun o ho => by rw [q4 o (by omega)]; exact h3.1 o (by omega) (by omega)
        have g6 : m2 6 0 = m 6 0 := by rw [f6, if_neg (by decide)]; exact h1.2 0 (by decide) (by decide)
        exact inv_mk (m1 := m2) (c' := m2) hI (fun o a b => o2 o (by omega) (by omega) (by omega) (by omega)) Es_rf hW2 g6 (o2 31 (by decide) (by decide) (by decide) (by decide)) hE hR4
      have hgo : kW (eX X) 5 M_X12_sort T 2 [some (vR 54)] [] m3 := by
        refine kW_go ok_X12_sort [] 20 ?_
        show inR (mset m3 54 5 0 54 13 + 1) ∧ inR (mset (mset m3 54 5 0) 54 13 (mset m3 54 5 0 54 13 + 1) 54 13 - 1) ∧ T (some (vI (mset (mset m3 54 5 0) 54 13 (mset m3 54 5 0 54 13 + 1) 54 13 - 1))) (mset (mset m3 54 5 0) 54 13 (mset m3 54 5 0 54 13 + 1))
        have e : mset m3 54 5 0 54 13 = m 9 13 := by rw [k_mset_at, if_neg (by decide)]; exact e13''
        rw [e, ← hm4]
        have e2 : m4 54 13 = m 9 13 + 1 := by rw [hm4, k_mset_at, if_pos rfl]
        rw [e2, show m 9 13 + 1 - 1 = m 9 13 by omega]
        exact ⟨by constructor <;> omega, by constructor <;> omega, hT _ _ ⟨rfl, hfin⟩⟩
      exact hgo
    · -- the tape is wrong
      have he : ¬ R.1 = -1 := he
      have hgo : kW (eX X) 5 M_X11_sort T 1 [some (vR 0)] [] m1 := by
        refine kW_go ok_X11_sort [] 20 ?_
        refine hT _ _ ⟨_, rfl, ?_⟩
        have e13f : fld m1 54 13 = m 9 13 := e13
        refine kCall_ofT ok_X12_sort rfl (Nat.le_of_ble_eq_true rfl) (fun T hT => ?_)
        refine kW_go ok_X12_sort [1, 2] 20 ?_
        refine And.intro (fun h2 => ?_) (fun h2 => ?_)
        · have h2 : m1 54 13 = 6 := h2
          omega
        show kCall (eX X) 5 194 [vR 54, vI (fld m1 54 13)] m1 _
        rw [e13f]
        refine kCall_mono (hrs m1 (inv_RT hI h1)) (Nat.le_of_ble_eq_true rfl) ?_
        rintro _ m3 ⟨rfl, h3, -⟩
        refine And.intro (fun h4 => absurd h4 he) (fun _ => ?_)
        have hgo2 : kW (eX X) 5 M_X12_sort T 1 [some (vR 54)] [] m3 := by
          refine kW_go ok_X12_sort [] 20 ?_
          exact hT _ _ ⟨rfl, inv_tape hI h1 (Int.le_refl _) h3⟩
        exact hgo2
      exact hgo
