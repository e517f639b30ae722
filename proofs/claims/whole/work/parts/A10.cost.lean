/-! trying: the class's tryCost, the reference's tried and plainly -/
set_option maxRecDepth 100000 in
theorem c_X7_tryCost (X : Xv) (m : Mem) {w d l : Int} (hB : Bd X w d l m) (hM : WS w d l m) (n v : Int) (hnn : 0 ≤ n ∧ n < m 9 14) (h31 : ∀ y, inC w d l y → m 31 y = 0) : kCall (eX X) 5 M_X7_tryCost.1 [vR 30, vI n, vI v] m (fun r m' => (m 13 n = 0 ∧ r = some (vI (-1)) ∧ m' = m) ∨ (1 ≤ m 13 n ∧ ∃ (res : Option Int) (c' : Mem), LRw w d l (w * d * l) n (if v = 0 then 4 else 6) (frT w d l (fun _ => True) (rmT (w * d * l) n m) n 0) (csF (m 10 (m 11 n * 5)) (m 10 (m 11 n * 5 + 1)) (m 31)) (m 10 (m 11 n * 5 + 2)) (m 13 n - 1).toNat 1 (rmT (w * d * l) n m) 0 res c' ∧ r = some (vI (ansR res)) ∧ ∀ o, (o < 20 ∨ o = 31 ∨ 36 < o) → m' o = m o)) := by
  obtain ⟨hD, hn, hG⟩ := id hB
  obtain ⟨⟨hWs, hWp, hWn, hWb⟩, hWy⟩ := id hM
  have hs := WFs_srt hWs
  have hc4 := okD_cells hD
  have hn8 : 0 ≤ n ∧ n < 8 := by have := hWs.2.1; omega
  have hnb : 0 ≤ n ∧ n < ((8 : Nat) : Int) := hn8
  have g4 : m 1 4 = (nC X : Int) := by rw [hG.2.2.2.2.1, hn]
  refine kCall_ofT ok_X7_tryCost rfl (Nat.le_of_ble_eq_true rfl) (fun T hT => ?_)
  by_cases hp0 : m 13 n = 0
  · refine kW_go ok_X7_tryCost [] 20 ?_
    exact ⟨hnb, And.intro (fun h => absurd hp0 h) (fun _ => hT _ _ (Or.inl ⟨hp0, rfl, rfl⟩))⟩
  have hP4 := (hWp.1 n hn8).1
  have hp1 : 1 ≤ m 13 n := by omega
  obtain ⟨hO, hM1, e13, e14⟩ := rm_start (q := fun _ => True) hD hM hn8 hp1
  obtain ⟨F, hF⟩ : ∃ F, F = frT w d l (fun _ => True) (rmT (w * d * l) n m) n 0 := ⟨_, rfl⟩
  rw [← hF] at hT hO
  have hpa : ∀ p : Int, (0 ≤ p ∧ p < m 13 n) → inC w d l (m 14 (n * 4 + p)) := fun p hp => hWp.2.1 n p hn8 hp
  refine kW_go ok_X7_tryCost [1] 20 ?_
  refine ⟨hnb, And.intro (fun _ => ?_) (fun h => absurd h hp0)⟩
  refine kW_go ok_X7_tryCost [] 20 ?_
  refine kCall_mono (kCall_in (c_X6_look X m hD hn hG hs n 0 hnn)) (Nat.le_of_ble_eq_true rfl) ?_
  rintro _ m1 ⟨⟨rfl, hf, h22, h26, hb⟩, hin⟩
  have hf' : ∀ o, o < 22 ∨ 26 < o → m1 o = m o := fun o ho => hf o (by omega) (by omega) (by omega) (by omega) (by omega)
  have hlk : looked w d l X m m1 n 0 := ⟨h22.1, h26, hb⟩
  have hso := hs.2 n hnn
  refine kCall_mono (c_X6_mark X m1 hD hn (gridC_same hG (fun o o1 o2 => hf' o (by omega))) 0 n h22.1 hn8 (by rw [hf' 11 (by decide)]; exact hso.1)) (Nat.le_of_ble_eq_true rfl) ?_
  rintro _ m2 ⟨rfl, f2, h27⟩
  have hf2 : ∀ o, o < 22 ∨ 27 < o → m2 o = m o := fun o ho => by rw [f2 o (by omega), hf' o (by omega)]
  have hF2 : ∀ x, inC w d l x → (m2 27 x ≠ 0 ↔ F x) := by
    intro x hx
    have h1 := frC_frT (g := 0) hD hn hs hin hnn (hf' 10 (by decide)) (hf' 11 (by decide)) (hf' 15 (by decide)) hlk hx
    rw [free_rm (X := X) (m := m) hD hn hs hnn hx, ← hF] at h1
    rw [← h1]
    by_cases hc : frC w d m1 0 x
    · rw [(h27 x hx).1 hc]; exact ⟨fun _ => hc, fun _ => by decide⟩
    · rw [(h27 x hx).2 hc]; exact ⟨fun z => absurd rfl z, fun z => absurd z hc⟩
  refine kCall_mono (c_X3_saveTraces X m2) (Nat.le_of_ble_eq_true rfl) ?_
  rintro _ m3 ⟨rfl, hm3⟩
  have f3 : ∀ o, o ≠ 20 → o ≠ 21 → m3 o = m2 o := fun o a b => by rw [hm3, mcpy_ne a, mcpy_ne b]
  have s21 : ∀ j, (0 ≤ j ∧ j < ((nC X * 8 : Nat) : Int)) → m3 21 j = m 19 j := fun j hj => by
    rw [hm3, mcpy_ne (by decide), mcpy_at, if_pos hj, hf2 19 (by decide)]
  have s20 : ∀ j, (0 ≤ j ∧ j < ((nC X : Nat) : Int)) → m3 20 j = m 17 j := fun j hj => by
    rw [hm3, mcpy_at, if_pos hj, mcpy_ne (by decide), hf2 17 (by decide)]
  have hf3 : ∀ o, o < 20 ∨ 27 < o → m3 o = m o := fun o ho => by rw [f3 o (by omega) (by omega), hf2 o (by omega)]
  refine kCall_mono (c_X3_removeTraces X m3 n (by omega) (by rw [hf3 1 (by decide)]; exact g4) hn8) (Nat.le_of_ble_eq_true rfl) ?_
  rintro _ m4 ⟨rfl, hm4⟩
  have e17 : m4 17 = rmT (w * d * l) n m 17 := by
    funext j
    rw [hm4, hn, rmT_17, rmT_17, hf3 17 (by decide)]
  have e19 : m4 19 = rmT (w * d * l) n m 19 := by
    funext j
    rw [hm4, hn, rmT_19, rmT_19, hf3 19 (by decide)]
  have e4 : ∀ o, o ≠ 17 → o ≠ 19 → m4 o = m3 o := fun o a b => by rw [hm4, rmT_ne a b]
  have e4' : ∀ o, o ≠ 17 → o ≠ 19 → o < 20 ∨ 27 < o → m4 o = m o := fun o a b h => by rw [e4 o a b, hf3 o h]
  have hB4 : Bd X w d l m4 := Bd_same hB (fun o a b => e4' o (by omega) (by omega) (by omega))
  have hWs4 : WFs m4 := by
    unfold WFs at hWs ⊢
    rw [e4' 9 (by decide) (by decide) (by decide), e4' 10 (by decide) (by decide) (by decide), e4' 11 (by decide) (by decide) (by decide), e4' 12 (by decide) (by decide) (by decide)]
    exact hWs
  have hWp4 : WFp w d l m4 := by
    unfold WFp at hWp ⊢
    rw [e4' 9 (by decide) (by decide) (by decide), e4' 13 (by decide) (by decide) (by decide), e4' 14 (by decide) (by decide) (by decide)]
    exact hWp
  have hO4 : ownF w d l (nC X) n F m4 := by
    rw [← hn]
    unfold ownF at hO ⊢
    rw [e14] at hO
    rw [e4' 14 (by decide) (by decide) (by decide)]
    refine ⟨hO.1, fun a b ha hst => hO.2 a b ha ?_⟩
    unfold stJ mvB at hst ⊢
    rw [e19, e4' 18 (by decide) (by decide) (by decide)] at hst
    rw [rmT_ne (o := 18) (by decide) (by decide)]
    exact hst
  refine kCall_mono (c_X7_layRows X m4 hB4 hWs4 hWp4 n v (by rw [e4' 9 (by decide) (by decide) (by decide)]; exact hnn) (by rw [e4' 13 (by decide) (by decide) (by decide)]; exact hp1) (F := F) (fun x hx => by rw [e4 27 (by decide) (by decide), f3 27 (by decide) (by decide)]; exact hF2 x hx) hO4 (fun y hy => by rw [e4' 31 (by decide) (by decide) (by decide), h31 y hy]; omega)) (Nat.le_of_ble_eq_true rfl) ?_
  rintro _ m5 ⟨res, c', hL, rfl, f5⟩
  rw [← hn, e4' 10 (by decide) (by decide) (by decide), e4' 11 (by decide) (by decide) (by decide), e4' 13 (by decide) (by decide) (by decide), e4' 31 (by decide) (by decide) (by decide)] at hL
  have hout := LRw_out hn8 (by split <;> omega) (fun q hq => by rw [e4' 14 (by decide) (by decide) (by decide)]; exact hpa q (by omega)) hL
  have hLne := LRw_ne hL
  obtain ⟨c3, hL3, -, -, -⟩ := LRw_cong (c2 := rmT (w * d * l) n m) (by rw [e14, e4' 14 (by decide) (by decide) (by decide)]) e17.symm (by rw [rmT_ne (o := 18) (by decide) (by decide), e4' 18 (by decide) (by decide) (by decide)]) e19.symm hL
  refine kCall_mono (c_X3_restoreTraces X m5) (Nat.le_of_ble_eq_true rfl) ?_
  rintro _ m6 ⟨rfl, hm6⟩
  have g5 : ∀ o, o = 20 ∨ o = 21 → m5 o = m3 o := fun o ho => by
    rw [f5 o (by omega) (by omega) (by omega) (by omega) (by omega) (by omega), hLne o (by omega) (by omega), e4 o (by omega) (by omega)]
  refine hT _ _ (Or.inr ⟨hp1, res, c3, hL3, rfl, fun o ho => ?_⟩)
  by_cases h17 : o = 17
  · subst h17
    funext j
    rw [hm6, mcpy_at, mcpy_ne (show (20 : Nat) ≠ 19 by decide), mcpy_ne (show (17 : Nat) ≠ 19 by decide), g5 20 (Or.inl rfl)]
    by_cases hj : 0 ≤ j ∧ j < ((nC X : Nat) : Int)
    · rw [if_pos hj, s20 j hj]
    · have hj' : ¬ inC w d l j := fun z => hj (by obtain ⟨a, b⟩ := z; omega)
      rw [if_neg hj, f5 17 (by decide) (by decide) (by decide) (by decide) (by decide) (by decide), hout.2 j hj', e17, rmT_17, if_neg (fun z => hj' z)]
  · by_cases h19 : o = 19
    · subst h19
      funext j
      rw [hm6, mcpy_ne (show (19 : Nat) ≠ 17 by decide), mcpy_at, g5 21 (Or.inr rfl)]
      by_cases hj : 0 ≤ j ∧ j < ((nC X * 8 : Nat) : Int)
      · rw [if_pos hj, s21 j hj]
      · have hj' : ¬ (0 ≤ j ∧ j < w * d * l * 8) := fun z => hj (by rw [hn] at z; omega)
        rw [if_neg hj, f5 19 (by decide) (by decide) (by decide) (by decide) (by decide) (by decide), hout.1 j hj', e19, rmT_19]
        refine if_neg (fun z => hj' ?_)
        have h0 := Int.mul_nonneg hn8.1 (show 0 ≤ w * d * l by omega)
        have h8 : (n + 1) * (w * d * l) ≤ 8 * (w * d * l) := Int.mul_le_mul_of_nonneg_right (by omega) (by omega)
        omega
    · rw [hm6, mcpy_ne h17, mcpy_ne h19, f5 o (by omega) (by omega) (by omega) (by omega) (by omega) (by omega), hLne o h17 h19]
      exact e4' o h17 h19 (by omega)
/-- the reference at rest, with or without vias -/
theorem c_X12_plainly (X : Xv) (m : Mem) (b : Int) (hb : b = 0 ∨ b = 1) : kCall (eX X) 1 M_X12_plainly.1 [vR 54, vI b] m (fun r m' => r = none ∧ (∀ o, o ≠ 54 → o ≠ 81 → m' o = m o) ∧ (∀ i : Int, i ≠ 28 → i ≠ 30 → i ≠ 41 → m' 54 i = m 54 i) ∧ m' 54 41 = b ∧ m' 54 28 = 0 ∧ m' 54 30 = 0 ∧ ∀ j : Int, (0 ≤ j ∧ j < 324) → m' 81 j = 0) := by
  refine kCall_ofT ok_X12_plainly rfl (Nat.le_of_ble_eq_true rfl) (fun T hT => ?_)
  generalize hm1 : fset (fset (fset m 54 41 b) 54 28 0) 54 30 0 = m1
  have e1 : ∀ o, o ≠ 54 → m1 o = m o := fun o ho => by rw [← hm1]; unfold fset; rw [k_mset_ne ho, k_mset_ne ho, k_mset_ne ho]
  have e54 : ∀ i : Int, m1 54 i = if i = 30 then 0 else if i = 28 then 0 else if i = 41 then b else m 54 i := fun i => by rw [← hm1]; unfold fset; rw [k_mset_at, k_mset_at, k_mset_at]; rfl
  have loop : ∀ (k : Nat) (i : Int) (m' : Mem), i + k = 324 → 0 ≤ i → (∀ o, o ≠ 81 → m' o = m1 o) → (∀ j : Int, (0 ≤ j ∧ j < i) → m' 81 j = 0) → kW (eX X) 0 M_X12_plainly T 1 [some (vR 54), some (vI b), some (vI i)] [] m' := by
    intro k
    induction k with
    | zero =>
      intro i m' hi h0 hf hz
      refine kW_go ok_X12_plainly [1] 20 ?_
      refine And.intro (fun _ => hT _ _ ⟨rfl, fun o h1 h2 => by rw [hf o h2, e1 o h1], fun i a1 a2 a3 => by rw [hf 54 (by decide), e54, if_neg a2, if_neg a1, if_neg a3], ?_, ?_, ?_, fun j hj => hz j (by omega)⟩) (fun h => absurd h (by omega))
      · rw [hf 54 (by decide), e54, if_neg (by decide), if_neg (by decide), if_pos rfl]
      · rw [hf 54 (by decide), e54, if_neg (by decide), if_pos rfl]
      · rw [hf 54 (by decide), e54, if_pos rfl]
    | succ k ih =>
      intro i m' hi h0 hf hz
      refine kW_go ok_X12_plainly [1] 20 ?_
      refine And.intro (fun h => absurd h (by omega)) (fun _ => ⟨by constructor <;> omega, by constructor <;> omega, ih (i + 1) _ (by omega) (by omega) (fun o ho => by rw [k_mset_ne ho]; exact hf o ho) (fun j hj => ?_)⟩)
      rw [k_mset_at]
      by_cases hji : j = i
      · rw [if_pos hji]
      · rw [if_neg hji]; exact hz j (by omega)
  refine kW_go ok_X12_plainly [1] 20 ?_
  refine ⟨hb, Or.inl rfl, ?_⟩
  have := loop 324 0 m1 (by omega) (by omega) (fun _ _ => rfl) (fun j hj => by omega)
  rw [← hm1] at this
  exact this
/-- the reference tries to lay a net, and all is as it was -/
theorem c_X12_tried (X : Xv) (c m : Mem) {w d l mv st vi be : Int} {ex : Int → Int} {n : Int} (hD : okD w d l) (hM : WM w d l c) (hR : RR0 w d l c m) (hn : 0 ≤ n ∧ n < c 9 14) (hRW : RWf w d l mv st vi be ex n m) (hqn : cntT m n) : kCall (eX X) 9 M_X12_tried.1 [vR 54, vI n] m (fun r m' => (c 13 n = 0 ∧ r = some (vI (-1)) ∧ m' = m) ∨ (1 ≤ c 13 n ∧ ∃ (res : Option Int) (c' : Mem), LRw w d l (w * d * l) n mv (frT w d l (cntT m) (rmT (w * d * l) n c) n 0) (csF st vi ex) be (c 13 n - 1).toNat 1 (rmT (w * d * l) n c) 0 res c' ∧ r = some (vI (ansR res)) ∧ rsm n m m' ∧ RR0 w d l c m')) := by
  have hn8 : 0 ≤ n ∧ n < 8 := by have := hM.1.2.1; omega
  have hcs := RWf_cs hRW
  refine kCall_ofT ok_X12_tried rfl (Nat.le_of_ble_eq_true rfl) (fun T hT => ?_)
  refine kW_go ok_X12_tried [] 20 ?_
  refine kCall_mono (c_X12_layNet X c m hD hM hR hn hRW hqn) (Nat.le_of_ble_eq_true rfl) ?_
  rintro _ m1 (⟨h0, rfl, rfl⟩ | ⟨h1, res, c', hL, rfl, hr1, ht, hM1, hS, hres⟩)
  · exact And.intro (fun _ => hT _ _ (Or.inl ⟨h0, rfl, rfl⟩)) (fun h => absurd rfl h)
  · rcases hres with ⟨rfl, hR1⟩ | ⟨hne, hR1⟩
    · exact And.intro (fun _ => hT _ _ (Or.inr ⟨h1, none, c', hL, rfl, hr1, hR1⟩)) (fun h => absurd rfl h)
    · have hge : ansR res ≠ -1 := by
        cases res with
        | none => exact absurd rfl hne
        | some s =>
          have := LRw_ge hcs.1 hcs.2 (Int.le_refl 0) hL s rfl
          show s ≠ -1
          omega
      refine And.intro (fun h => absurd h hge) (fun _ => ?_)
      refine kCall_mono (c_X12_putBackR X c c' m1 hD hn8 hR1 ht hS (hM.2.2.1 n hn8)) (Nat.le_of_ble_eq_true rfl) ?_
      rintro _ m2 ⟨rfl, hR2, hr2, -⟩
      exact hT _ _ (Or.inr ⟨h1, res, c', hL, rfl, rsm_tr hr1 hr2, hR2⟩)
