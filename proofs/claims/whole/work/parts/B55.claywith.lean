/-! LATE: the class lays a net with others -/
theorem Ea_tr {a b c : Mem} (h : Ea a b) (h' : Ea b c) : Ea a c := fun o x y => (h' o x y).trans (h o x y)
set_option maxRecDepth 100000 in
theorem c_X1_layWith (X : Xv) (cP m : Mem) {w d l : Int} (hB : Bd X w d l cP) (hM : WS w d l cP) (n s : Int) (hnn : 0 ≤ n ∧ n < cP 9 14) (hs : vSet (cP 9 14) n s) (h31 : ∀ y, inC w d l y → cP 31 y = 0) (hf : ∀ o, o < 17 ∨ o = 18 ∨ o = 31 → m o = cP o) (hS : Sv w d l cP m) (hoff : offS w d l cP m) : kCall (eX X) 6 M_X1_layWith.1 [vR 40, vI n, vI s] m (fun r m' => ∃ ok c', r = some (vI (if ok = true then 1 else 0)) ∧ ((∀ k : Nat, bt s k = true → 0 < cP 13 (k : Int)) → lwA w d l (cP 31) (cS (w * d * l) n s cP) n s ok c') ∧ (¬ (∀ k : Nat, bt s k = true → 0 < cP 13 (k : Int)) → ok = false) ∧ (ok = true → Ea c' m' ∧ WS w d l c' ∧ ∀ o, o ≠ 17 → o ≠ 19 → c' o = cP o) ∧ (∀ o, o < 17 ∨ o = 18 ∨ o = 20 ∨ o = 21 ∨ o = 31 ∨ 36 < o → m' o = m o) ∧ offS w d l cP m') := by
  obtain ⟨hD, hN, hG⟩ := id hB
  have hc4 := okD_cells hD
  have h8 := hM.1.1.2.1
  have hn8 : 0 ≤ n ∧ n < 8 := by omega
  have hpin := hM.1.2.1.1
  obtain ⟨cF, hcF⟩ : ∃ cF, cF = cS (w * d * l) n s cP := ⟨_, rfl⟩
  rw [← hcF]
  refine kCall_ofT ok_X1_layWith rfl (Nat.le_of_ble_eq_true rfl) (fun T hT => ?_)
  refine kW_go ok_X1_layWith [1] 20 ?_
  refine kCall_mono (c_X3_restoreTraces X m) (Nat.le_of_ble_eq_true rfl) ?_
  rintro _ m1 ⟨rfl, hm1⟩
  have e1 : m1 = bckM (w * d * l) m := by
    rw [hm1]
    unfold bckM
    rw [show ((nC X * 8 : Nat) : Int) = w * d * l * 8 by omega, show ((nC X : Nat) : Int) = w * d * l by omega]
  have f1 : ∀ o, o ≠ 17 → o ≠ 19 → m1 o = m o := fun o a b => by rw [e1, bckM_ne a b]
  have e19 : m1 19 = cP 19 := by
    funext j
    by_cases hj : 0 ≤ j ∧ j < w * d * l * 8
    · obtain ⟨n', x, hn', hx, rfl⟩ := cell8 (by omega) hj
      rw [e1, bckM_19 hn' hx, hS.1 n' x hn' hx]
    · rw [e1]
      unfold bckM
      rw [mcpy_ne (by decide), mcpy_at, if_neg (by omega)]
      exact hoff.1 j hj
  have e17 : m1 17 = cP 17 := by
    funext j
    by_cases hj : inC w d l j
    · rw [e1, bckM_17 hj, hS.2 j hj]
    · rw [e1]
      unfold bckM
      have hj' : ¬ (0 ≤ j ∧ j < w * d * l) := hj
      rw [mcpy_at, if_neg hj', mcpy_ne (by decide)]
      exact hoff.2 j hj
  have hE1 : Ea cP m1 := fun o a b => by
    by_cases p : o = 17
    · rw [p]; exact e17
    · by_cases q : o = 19
      · rw [q]; exact e19
      · rw [f1 o p q]; exact hf o (by omega)
  have hB1 : Bd X w d l m1 := Bd_same hB (fun o a b => by rw [f1 o (by omega) (by omega)]; exact hf o (by omega))
  have g4 : ∀ {mm : Mem}, (∀ o, o < 17 → mm o = cP o) → mm 1 4 = (nC X : Int) := fun h => by rw [h 1 (by decide), hG.2.2.2.2.1, hN]
  refine kCall_mono (c_X3_removeTraces X m1 n (by omega) (g4 (fun o ho => by rw [f1 o (by omega) (by omega)]; exact hf o (by omega))) hn8) (Nat.le_of_ble_eq_true rfl) ?_
  rintro _ m2 ⟨rfl, hm2⟩
  rw [← hN] at hm2
  have f2 : ∀ o, o ≠ 17 → o ≠ 19 → m2 o = m o := fun o a b => by rw [hm2, rmT_ne a b]; exact f1 o a b
  have hE2 : Ea (rmT (w * d * l) n cP) m2 := by rw [hm2]; exact Ea_rm hE1
  -- removing the others
  obtain ⟨P, hP⟩ : ∃ P : Prop, P ↔ ∀ k : Nat, bt s k = true → 0 < cP 13 (k : Int) := ⟨_, Iff.rfl⟩
  have lay : ∀ (q : Nat) (k : Int) (c m3 : Mem), k + q = cP 9 14 → 0 ≤ k → Ea c m3 → WS w d l c → (∀ o, o ≠ 17 → o ≠ 19 → c o = cP o) → offS w d l cP c → (∀ o, o < 17 ∨ o = 18 ∨ o = 20 ∨ o = 21 ∨ o = 31 ∨ 36 < o → m3 o = m o) → (∀ k' : Nat, (k' : Int) < k → bt s k' = true → 0 < cP 13 (k' : Int)) → (P → ∀ ok c', lwN w d l (cP 31) s q k c ok c' → lwA w d l (cP 31) cF n s ok c') → kW (eX X) 5 M_X1_layWith T 6 [some (vR 40), some (vI n), some (vI s), some (vI 1), some (vI k)] [] m3 := by
    intro q
    induction q with
    | zero =>
      intro k c m3 hq h0 a1 a2 a3 a4 a5 a6 a7
      have e9 : m3 9 = cP 9 := by rw [a1 9 (by decide) (by decide)]; exact a3 9 (by decide) (by decide)
      have hPt : P := hP.mpr (fun k' hk' => a6 k' (by have := (hs.2 k' hk').1; omega) hk')
      refine kW_go ok_X1_layWith [6] 20 ?_
      refine And.intro (fun _ => hT _ _ ⟨Or.inr rfl, true, c, rfl, fun _ => a7 hPt _ _ ⟨rfl, rfl⟩, fun z => absurd (hP.mp hPt) z, fun _ => ⟨a1, a2, a3⟩, a5, ⟨fun j hj => by rw [a1 19 (by decide) (by decide)]; exact a4.1 j hj, fun x hx => by rw [a1 17 (by decide) (by decide)]; exact a4.2 x hx⟩⟩) (fun h => ?_)
      have h : k < m3 9 14 := h
      rw [e9] at h
      omega
    | succ q ih =>
      intro k c m3 hq h0 a1 a2 a3 a4 a5 a6 a7
      have e9 : m3 9 = cP 9 := by rw [a1 9 (by decide) (by decide)]; exact a3 9 (by decide) (by decide)
      have e9c : c 9 = cP 9 := a3 9 (by decide) (by decide)
      have hk8 : 0 ≤ k ∧ k < 8 := by omega
      have ek : ((k.toNat : Nat) : Int) = k := by omega
      have e13 : c 13 = cP 13 := a3 13 (by decide) (by decide)
      refine kW_go ok_X1_layWith [9] 20 ?_
      refine And.intro (fun h => ?_) (fun _ => And.intro (fun h => absurd h (by decide)) (fun _ => And.intro (fun hb => ?_) (fun hb => ?_)))
      · have h : m3 9 14 ≤ k := h
        rw [e9] at h
        omega
      · have hbk := (k_ask0 h0 (by omega)).mp hb
        refine kW_go ok_X1_layWith [6] 20 ?_
        refine ⟨by constructor <;> omega, ih (k + 1) c m3 (by omega) (by omega) a1 a2 a3 a4 a5 (fun k' h1 h2 => ?_) (fun p ok c' h => a7 p ok c' (Or.inl ⟨(fun z => by rw [hbk] at z; cases z.1), h⟩))⟩
        by_cases e : (k' : Int) = k
        · rw [show k' = k.toNat by omega, hbk] at h2; cases h2
        · exact a6 k' (by omega) h2
      · have hbk := (k_ask_ne h0 (by omega)).mp hb
        have hB3 : Bd X w d l m3 := Bd_same hB (fun o a b => by rw [a5 o (by omega)]; exact hf o (by omega))
        have hW3 := WS_Ea a1 a2
        have e31 : m3 31 = cP 31 := by rw [a5 31 (by omega)]; exact hf 31 (by omega)
        refine kCall_mono (c_X7_layA X m3 hB3 hW3 k (by rw [e9]; omega) (fun y hy => by rw [e31]; exact h31 y hy)) (Nat.le_of_ble_eq_true rfl) ?_
        rintro _ m4 ⟨res, cr, hL, rfl, hf4⟩
        rw [e31] at hL
        have hWr := layA_WS hD (Int.le_refl 6) hW3 (by rw [e9]; omega) hL
        obtain ⟨c4, hL4, hc4⟩ := layA_cong (c := c) a1 hL
        obtain ⟨q1, q2, q3⟩ := layA_WS hD (Int.le_refl 6) a2 (by rw [e9c]; omega) hL4
        have hans := ansR_ne q3
        have hE4 : Ea c4 m4 := fun o a b => by rw [hf4 o (by unfold scr; omega)]; exact hc4 o (a1 o a b)
        have hk4 : ∀ o, o < 17 ∨ o = 18 ∨ o = 20 ∨ o = 21 ∨ o = 31 ∨ 36 < o → m4 o = m o := fun o ho => by rw [hf4 o (by unfold scr; omega), hWr.2.1.1 o (by omega) (by omega)]; exact a5 o ho
        have hc4' : ∀ o, o ≠ 17 → o ≠ 19 → c4 o = cP o := fun o a b => by rw [q2.1 o a b]; exact a3 o a b
        have hof4 := offS_tr a4 (offS_layA hD a2 (by rw [e9c]; omega) hL4)
        refine And.intro (fun he => ?_) (fun hne => ?_)
        · have he : ansR res = -1 := he
          have hlost : kW (eX X) 5 M_X1_layWith T 9 [some (vR 40), some (vI n), some (vI s), some (vI 0), some (vI k)] [] m4 := by
            refine kW_go ok_X1_layWith [10] 20 ?_
            have hten : kW (eX X) 5 M_X1_layWith T 10 [some (vR 40), some (vI n), some (vI s), some (vI 0), some (vI (k + 1))] [] m4 := by
              refine kW_go ok_X1_layWith [] 20 ?_
              refine hT _ _ ⟨Or.inl rfl, false, c4, rfl, fun p => ?_, fun _ => rfl, fun z => (by cases z), hk4, ⟨fun j hj => by rw [hE4 19 (by decide) (by decide)]; exact hof4.1 j hj, fun x hx => by rw [hE4 17 (by decide) (by decide)]; exact hof4.2 x hx⟩⟩
              have hp := p k.toNat hbk
              rw [ek] at hp
              exact a7 (hP.mpr p) _ _ (Or.inr ⟨⟨hbk, by rw [e13]; exact hp⟩, res, c4, hL4, Or.inl ⟨hans.mp he, rfl⟩⟩)
            exact ⟨by constructor <;> omega, And.intro (fun _ => hten) (fun _ => And.intro (fun _ => hten) (fun h => absurd rfl h))⟩
          exact hlost
        · have hne : ¬ ansR res = -1 := hne
          have hpk : 0 < c 13 k := by
            rcases hL4 with ⟨-, e, -⟩ | ⟨hp, -⟩
            · exact absurd (hans.mpr e) hne
            · omega
          refine kW_go ok_X1_layWith [6] 20 ?_
          refine ⟨by constructor <;> omega, ih (k + 1) c4 m4 (by omega) (by omega) hE4 q1 hc4' hof4 hk4 (fun k' h1 h2 => ?_) (fun p ok c' h => a7 p ok c' (Or.inr ⟨⟨hbk, hpk⟩, res, c4, hL4, Or.inr ⟨fun z => hne (hans.mpr z), h⟩⟩))⟩
          by_cases e : (k' : Int) = k
          · rw [e, ← e13]; exact hpk
          · exact a6 k' (by omega) h2
  have hFW : WS w d l cF := by rw [hcF]; exact rmL_WS _ _ _ (by omega) (WS_rmT hM hn8)
  have hFne : ∀ o, o ≠ 17 → o ≠ 19 → cF o = cP o := fun o a b => by rw [hcF]; unfold cS; rw [rmL_ne a b, rmT_ne a b]
  have hFoff : offS w d l cP cF := by rw [hcF]; exact offS_tr (offS_rmT hD hn8) (offS_rmL hD _ _ _ (by omega))
  have rem : ∀ (q : Nat) (k : Int) (c m3 : Mem) (x4 : Option AV), k + q = cP 9 14 → 0 ≤ k → Ea c m3 → rmL (w * d * l) s q k c = cF → (∀ o, o ≠ 17 → o ≠ 19 → m3 o = m o) → kW (eX X) 5 M_X1_layWith T 1 [some (vR 40), some (vI n), some (vI s), some (vI k), x4] [] m3 := by
    intro q
    induction q with
    | zero =>
      intro k c m3 x4 hq h0 a1 a2 a3
      have a2 : c = cF := a2
      subst a2
      have e9 : m3 9 = cP 9 := by rw [a3 9 (by decide) (by decide)]; exact hf 9 (by omega)
      have hB3 : Bd X w d l m3 := Bd_same hB (fun o a b => by rw [a3 o (by omega) (by omega)]; exact hf o (by omega))
      have hW3 := WS_Ea a1 hFW
      have e31 : m3 31 = cP 31 := by rw [a3 31 (by decide) (by decide)]; exact hf 31 (by omega)
      refine kW_go ok_X1_layWith [5] 20 ?_
      refine And.intro (fun _ => ?_) (fun h => ?_)
      · refine kCall_mono (c_X7_layA X m3 hB3 hW3 n (by rw [e9]; exact hnn) (fun y hy => by rw [e31]; exact h31 y hy)) (Nat.le_of_ble_eq_true rfl) ?_
        rintro _ m4 ⟨res, cr, hL, rfl, hf4⟩
        rw [e31] at hL
        have hWr := layA_WS hD (Int.le_refl 6) hW3 (by rw [e9]; exact hnn) hL
        obtain ⟨c4, hL4, hc4⟩ := layA_cong (c := c) a1 hL
        obtain ⟨q1, q2, q3⟩ := layA_WS hD (Int.le_refl 6) hFW (by rw [hFne 9 (by decide) (by decide)]; exact hnn) hL4
        have hans := ansR_ne q3
        have hE4 : Ea c4 m4 := fun o a b => by rw [hf4 o (by unfold scr; omega)]; exact hc4 o (a1 o a b)
        have hk4 : ∀ o, o < 17 ∨ o = 18 ∨ o = 20 ∨ o = 21 ∨ o = 31 ∨ 36 < o → m4 o = m o := fun o ho => by rw [hf4 o (by unfold scr; omega), hWr.2.1.1 o (by omega) (by omega)]; exact a3 o (by omega) (by omega)
        have hc4' : ∀ o, o ≠ 17 → o ≠ 19 → c4 o = cP o := fun o a b => by rw [q2.1 o a b]; exact hFne o a b
        have hof4 := offS_tr hFoff (offS_layA hD hFW (by rw [hFne 9 (by decide) (by decide)]; exact hnn) hL4)
        refine And.intro (fun he => ?_) (fun hne => ?_)
        · have he : ansR res = -1 := he
          have hlost : kW (eX X) 5 M_X1_layWith T 5 [some (vR 40), some (vI n), some (vI s), some (vI k), x4] [vI 0] m4 := by
            refine kW_go ok_X1_layWith [10] 20 ?_
            have hten : kW (eX X) 5 M_X1_layWith T 10 [some (vR 40), some (vI n), some (vI s), some (vI 0), some (vI 0)] [] m4 := by
              refine kW_go ok_X1_layWith [] 20 ?_
              exact hT _ _ ⟨Or.inl rfl, false, c4, rfl, fun p => ⟨res, c4, hL4, Or.inl ⟨hans.mp he, rfl⟩⟩, fun _ => rfl, fun z => (by cases z), hk4, ⟨fun j hj => by rw [hE4 19 (by decide) (by decide)]; exact hof4.1 j hj, fun x hx => by rw [hE4 17 (by decide) (by decide)]; exact hof4.2 x hx⟩⟩
            exact And.intro (fun _ => hten) (fun _ => And.intro (fun _ => hten) (fun h => absurd rfl h))
          exact hlost
        · have hne : ¬ ansR res = -1 := hne
          have hgo := lay (cP 9 14).toNat 0 c4 m4 (by omega) (by omega) hE4 q1 hc4' hof4 hk4 (fun k' h1 _ => by omega) (fun p ok c' h => ⟨res, c4, hL4, Or.inr ⟨fun z => hne (hans.mpr z), by rw [hFne 9 (by decide) (by decide)]; exact h⟩⟩)
          refine kW_go ok_X1_layWith [6] 20 ?_
          exact hgo
      · have h : k < m3 9 14 := h
        rw [e9] at h
        omega
    | succ q ih =>
      intro k c m3 x4 hq h0 a1 a2 a3
      have e9 : m3 9 = cP 9 := by rw [a3 9 (by decide) (by decide)]; exact hf 9 (by omega)
      have hk8 : 0 ≤ k ∧ k < 8 := by omega
      have a2 : rmL (w * d * l) s q (k + 1) (if bt s k.toNat = true then rmT (w * d * l) k c else c) = cF := a2
      refine kW_go ok_X1_layWith [1] 20 ?_
      refine And.intro (fun h => ?_) (fun _ => And.intro (fun hb => ?_) (fun hb => ?_))
      · have h : m3 9 14 ≤ k := h
        rw [e9] at h
        omega
      · have hbk := (k_ask0 h0 (by omega)).mp hb
        rw [hbk, if_neg (by decide)] at a2
        exact ⟨by constructor <;> omega, ih (k + 1) c m3 _ (by omega) (by omega) a1 a2 a3⟩
      · have hbk := (k_ask_ne h0 (by omega)).mp hb
        rw [if_pos hbk] at a2
        refine kCall_mono (c_X3_removeTraces X m3 k (by omega) (g4 (fun o ho => by rw [a3 o (by omega) (by omega)]; exact hf o (by omega))) hk8) (Nat.le_of_ble_eq_true rfl) ?_
        rintro _ m4 ⟨rfl, hm4⟩
        rw [← hN] at hm4
        exact ⟨by constructor <;> omega, ih (k + 1) _ m4 _ (by omega) (by omega) (by rw [hm4]; exact Ea_rm a1) a2 (fun o a b => by rw [hm4, rmT_ne a b]; exact a3 o a b)⟩
  have hgo := rem (cP 9 14).toNat 0 (rmT (w * d * l) n cP) m2 none (by omega) (by omega) hE2 hcF.symm f2
  exact hgo
