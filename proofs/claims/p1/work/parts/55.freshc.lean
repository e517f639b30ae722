/-! the class's longer methods on a board without nets -/
theorem f_X8_scan (X : Xv) (m : Mem) {l : Int} (hl : 1 ≤ l ∧ l ≤ 4) (g : m 6 0 = l) (h3 : m 6 3 = 0) : kCall (eX X) 5 M_X8_scan.1 [vR 6] m (fun r m' => r = some (vI 0) ∧ ∀ o, o ≠ 6 → o ≠ 8 → m' o = m o) := by
  refine kCall_ofT ok_X8_scan rfl (Nat.le_of_ble_eq_true rfl) (fun T hT => ?_)
  have hs : ∀ m' : Mem, m' 6 3 = 0 → m' 6 4 = 0 → kCall (eX X) 3 M_X8_readSetting.1 [vR 6] m' (cP 0 m') := by
    intro m' e3 e4
    have hb : kCall (eX X) 1 M_X8_skipBlanks.1 [vR 6] m' (fun r m2 => r = none ∧ m2 = m') := by
      refine kCall_of ok_X8_skipBlanks rfl (Nat.le_of_ble_eq_true rfl) ?_
      refine kW_go ok_X8_skipBlanks [] 10 ?_
      refine And.intro (fun _ => ⟨rfl, rfl⟩) (fun h => ?_)
      have h : m' 6 4 < m' 6 3 := h
      omega
    have hk : kCall (eX X) 1 M_X8_kindHere.1 [vR 6] m' (cP (-1) m') := by
      refine kCall_of ok_X8_kindHere rfl (Nat.le_of_ble_eq_true rfl) ?_
      refine kW_go ok_X8_kindHere [1] 10 ?_
      refine And.intro (fun _ => ⟨rfl, rfl⟩) (fun h => ?_)
      have h : m' 6 4 < m' 6 3 := h
      omega
    refine kCall_of ok_X8_readSetting rfl (Nat.le_of_ble_eq_true rfl) ?_
    refine kW_go ok_X8_readSetting [] 20 ?_
    refine kCall_mono hb (Nat.le_of_ble_eq_true rfl) ?_
    rintro _ m' ⟨rfl, rfl⟩
    refine kCall_mono hk (Nat.le_of_ble_eq_true rfl) ?_
    rintro _ m' ⟨rfl, rfl⟩
    exact And.intro (fun _ => ⟨Or.inl rfl, rfl, rfl⟩) (fun h => absurd rfl h)
  have loop : ∀ (k : Nat) (i : Int) (m' : Mem), i + k = 4 → 0 ≤ i → (∀ o, o ≠ 6 → o ≠ 8 → m' o = m o) → m' 6 0 = l → m' 6 3 = 0 → m' 6 4 = 0 → kW (eX X) 4 M_X8_scan T 1 [some (vR 6), some (vI i)] [] m' := by
    intro k
    induction k with
    | zero =>
      intro i m' hi h0 hf e0 e3 e4
      have : i = 4 := by omega
      subst this
      refine kW_go ok_X8_scan [1] 20 ?_
      refine And.intro (fun _ => ?_) (fun h => absurd h (by decide))
      have hm := k_msk_in (l := l) (by omega) (by omega)
      show inR (kshl 1 (m' 6 0) - 1) ∧ _
      rw [e0]
      refine ⟨by constructor <;> omega, ⟨by decide, by decide⟩, And.intro (fun h => absurd h (by decide)) (fun _ => ?_)⟩
      refine kCall_mono (hs _ e3 e4) (Nat.le_of_ble_eq_true rfl) ?_
      rintro _ m2 ⟨rfl, rfl⟩
      refine And.intro (fun h => absurd rfl h) (fun _ => ?_)
      refine hT _ _ ⟨congrArg (fun z => some (vI z)) (show m' 6 4 = 0 from e4), fun o h6 h8 => ?_⟩
      rw [k_mset_ne h8]
      exact hf o h6 h8
    | succ k ih =>
      intro i m' hi h0 hf e0 e3 e4
      refine kW_go ok_X8_scan [1, 2] 20 ?_
      refine And.intro (fun h => absurd h (by omega)) (fun _ => ?_)
      refine ⟨⟨h0, by omega⟩, ⟨h0, by omega⟩, by constructor <;> omega, ?_⟩
      exact ih (i + 1) _ (by omega) (by omega) (fun o h6 h8 => by rw [k_mset_ne h8]; exact hf o h6 h8) e0 e3 e4
  refine kW_go ok_X8_scan [1] 20 ?_
  refine loop 4 0 _ (by omega) (by omega) (fun o h6 h8 => ?_) g h3 rfl
  show fset (fset m 6 4 0) 6 5 0 o = m o
  unfold fset
  rw [k_mset_ne h6, k_mset_ne h6]
theorem f_X11_fault (X : Xv) (m : Mem) {l : Int} (hl : 1 ≤ l ∧ l ≤ 4) (g : m 6 0 = l) (h3 : m 6 3 = 0) : kCall (eX X) 6 M_X11_fault.1 [vR 0] m (fun r m' => r = some (vI 0) ∧ ∀ o, 54 ≤ o → m' o = m o) := by
  refine kCall_of ok_X11_fault rfl (Nat.le_of_ble_eq_true rfl) ?_
  refine kW_go ok_X11_fault [] 20 ?_
  refine kCall_mono (f_X8_scan X m hl g h3) (Nat.le_of_ble_eq_true rfl) ?_
  rintro _ m2 ⟨rfl, hf⟩
  exact ⟨rfl, fun o ho => hf o (by omega) (by omega)⟩
theorem f_X11_sort (X : Xv) (m : Mem) {l : Int} (hl : 1 ≤ l ∧ l ≤ 4) (g : m 6 0 = l) (h3 : m 6 3 = 0) (hN : noN m) : kCall (eX X) 6 M_X11_sort.1 [vR 0] m (fun r m' => r = some (vI (-1)) ∧ ∀ o, 54 ≤ o → m' o = m o) := by
  refine kCall_of ok_X11_sort rfl (Nat.le_of_ble_eq_true rfl) ?_
  refine kW_go ok_X11_sort [] 20 ?_
  refine And.intro (fun h => ?_) (fun _ => ?_)
  · have h : 6 ≤ m 9 13 := h
    have := hN.1
    omega
  refine kCall_mono (f_X8_scan X m hl g h3) (Nat.le_of_ble_eq_true rfl) ?_
  rintro _ m2 ⟨rfl, hf⟩
  exact And.intro (fun h => absurd h (by decide)) (fun _ => ⟨rfl, fun o ho => hf o (by omega) (by omega)⟩)
theorem c_X3_removeAllTraces (X : Xv) (m : Mem) (hn : nC X ≤ 324) : kCall (eX X) 2 M_X3_removeAllTraces.1 [vR 9] m (fun r m' => r = none ∧ m' = mfill (mfill m 19 0 ((nC X * 8 : Nat) : Int) 0) 17 0 ((nC X : Nat) : Int) 0) := by
  refine kCall_of ok_X3_removeAllTraces rfl (Nat.le_of_ble_eq_true rfl) ?_
  refine kW_go ok_X3_removeAllTraces [] 20 ?_
  refine kCall_mono (c_fill (eX X) m 19 (nC X * 8) 0 (by decide) rfl (by omega)) (Nat.le_of_ble_eq_true rfl) ?_
  rintro _ m2 ⟨rfl, rfl⟩
  refine kCall_mono (c_fill (eX X) _ 17 (nC X) 0 (by decide) rfl (by omega)) (Nat.le_of_ble_eq_true rfl) ?_
  rintro _ m2 ⟨rfl, rfl⟩
  exact ⟨rfl, rfl⟩
theorem c_X3_saveTraces (X : Xv) (m : Mem) : kCall (eX X) 1 M_X3_saveTraces.1 [vR 9] m (fun r m' => r = none ∧ m' = mcpy (mcpy m 19 0 21 0 ((nC X * 8 : Nat) : Int)) 17 0 20 0 ((nC X : Nat) : Int)) := by
  refine kCall_of ok_X3_saveTraces rfl (Nat.le_of_ble_eq_true rfl) ?_
  refine kW_go ok_X3_saveTraces [] 20 ?_
  exact ⟨⟨⟨by omega, by omega, by omega⟩, by omega, by omega⟩, ⟨⟨by omega, by omega, by omega⟩, by omega, by omega⟩, rfl, rfl⟩
theorem c_X3_restoreTraces (X : Xv) (m : Mem) : kCall (eX X) 1 M_X3_restoreTraces.1 [vR 9] m (fun r m' => r = none ∧ m' = mcpy (mcpy m 21 0 19 0 ((nC X * 8 : Nat) : Int)) 20 0 17 0 ((nC X : Nat) : Int)) := by
  refine kCall_of ok_X3_restoreTraces rfl (Nat.le_of_ble_eq_true rfl) ?_
  refine kW_go ok_X3_restoreTraces [] 20 ?_
  exact ⟨⟨⟨by omega, by omega, by omega⟩, by omega, by omega⟩, ⟨⟨by omega, by omega, by omega⟩, by omega, by omega⟩, rfl, rfl⟩
theorem mcpy_ne {m : Mem} {a b p : Nat} {sp dp n : Int} (h : p ≠ b) : mcpy m a sp b dp n p = m p := by simp [mcpy, h]
theorem mcpy_at {m : Mem} {a b : Nat} {n j : Int} : mcpy m a 0 b 0 n b j = if 0 ≤ j ∧ j < n then m a j else m b j := by
  simp [mcpy]
theorem c_X3_isAsSaved (X : Xv) (m : Mem) (hn : nC X ≤ 324) : kCall (eX X) 1 M_X3_isAsSaved.1 [vR 9] m (fun r m' => (((∀ i : Int, 0 ≤ i → i < ((nC X * 8 : Nat) : Int) → m 19 i = m 21 i) ∧ r = some (vI 1)) ∨ (¬ (∀ i : Int, 0 ≤ i → i < ((nC X * 8 : Nat) : Int) → m 19 i = m 21 i) ∧ r = some (vI 0))) ∧ m' = m) := by
  refine kCall_ofT ok_X3_isAsSaved rfl (Nat.le_of_ble_eq_true rfl) (fun T hT => ?_)
  have loop : ∀ (k : Nat) (i : Int), i + k = ((nC X * 8 : Nat) : Int) → 0 ≤ i → (∀ j : Int, 0 ≤ j → j < i → m 19 j = m 21 j) → kW (eX X) 0 M_X3_isAsSaved T 1 [some (vR 9), some (vI i)] [] m := by
    intro k
    induction k with
    | zero =>
      intro i hi h0 hall
      refine kW_go ok_X3_isAsSaved [1] 20 ?_
      refine And.intro (fun _ => hT _ _ ⟨Or.inr rfl, Or.inl ⟨fun j h1 h2 => hall j h1 (by omega), rfl⟩, rfl⟩) (fun h => ?_)
      have h : i < ((nC X * 8 : Nat) : Int) := h
      omega
    | succ k ih =>
      intro i hi h0 hall
      have hb : 0 ≤ i ∧ i < ((nC X * 8 : Nat) : Int) := by omega
      refine kW_go ok_X3_isAsSaved [1] 20 ?_
      refine And.intro (fun h => ?_) (fun _ => ⟨hb, hb, And.intro (fun h => ⟨by constructor <;> omega, ih (i + 1) (by omega) (by omega) (fun j h1 h2 => ?_)⟩) (fun h => hT _ _ ⟨Or.inl rfl, Or.inr ⟨fun hall => h (hall i h0 hb.2), rfl⟩, rfl⟩)⟩)
      · have h : ((nC X * 8 : Nat) : Int) ≤ i := h
        omega
      · by_cases he : j = i
        · rw [he]; exact h
        · exact hall j h1 (by omega)
  refine kW_go ok_X3_isAsSaved [1] 20 ?_
  exact loop (nC X * 8) 0 (by omega) (by omega) (fun j h1 h2 => by omega)
theorem f_X5_layInOrder (X : Xv) (m : Mem) (hn : nC X ≤ 324) (hN : noN m) : kCall (eX X) 3 M_X5_layInOrder.1 [vR 37] m (cP 0 (mfill (mfill m 19 0 ((nC X * 8 : Nat) : Int) 0) 17 0 ((nC X : Nat) : Int) 0)) := by
  refine kCall_ofT ok_X5_layInOrder rfl (Nat.le_of_ble_eq_true rfl) (fun T hT => ?_)
  refine kW_go ok_X5_layInOrder [1] 20 ?_
  refine kCall_mono (c_X3_removeAllTraces X m hn) (Nat.le_of_ble_eq_true rfl) ?_
  rintro _ m2 ⟨rfl, rfl⟩
  generalize hm2 : mfill (mfill m 19 0 ((nC X * 8 : Nat) : Int) 0) 17 0 ((nC X : Nat) : Int) 0 = m2 at hT ⊢
  have ea : m2 9 14 = 0 := by rw [← hm2, mfill_ne (by decide), mfill_ne (by decide)]; exact hN.2
  have loop : ∀ (k : Nat) (t : Int) (x3 : Option AV), t + k = 100 → 0 ≤ t → kW (eX X) 2 M_X5_layInOrder T 1 [some (vR 37), some (vI 0), some (vI t), x3] [] m2 := by
    intro k
    induction k with
    | zero =>
      intro t x3 ht h0
      refine kW_go ok_X5_layInOrder [1] 20 ?_
      exact And.intro (fun _ => hT _ _ ⟨rfl, rfl⟩) (fun h => absurd h (by omega))
    | succ k ih =>
      intro t x3 ht h0
      refine kW_go ok_X5_layInOrder [1] 20 ?_
      refine And.intro (fun h => absurd h (by omega)) (fun _ => And.intro (fun h => ⟨by constructor <;> omega, ih (t + 1) _ (by omega) (by omega)⟩) (fun h => ?_))
      have h : 0 < m2 9 14 := h
      omega
  exact loop 100 0 none (by omega) (by omega)
theorem f_X11_order (X : Xv) (m : Mem) (hn : nC X ≤ 324) (hN : noN m) : kCall (eX X) 4 M_X11_order.1 [vR 0] m (fun r m' => r = some (vI 0) ∧ ∀ o, 54 ≤ o → m' o = m o) := by
  refine kCall_of ok_X11_order rfl (Nat.le_of_ble_eq_true rfl) ?_
  refine kW_go ok_X11_order [] 20 ?_
  refine kCall_mono (f_X5_layInOrder X m hn hN) (Nat.le_of_ble_eq_true rfl) ?_
  rintro _ m2 ⟨rfl, rfl⟩
  exact ⟨rfl, fun o ho => by rw [mfill_ne (by omega), mfill_ne (by omega)]⟩
theorem f_X5_layTurn (X : Xv) (m : Mem) (hn : nC X ≤ 324) (hN : noN m) (a : Int) : kCall (eX X) 3 M_X5_layTurn.1 [vR 37, vI a] m (cP 1 (mfill m 31 0 ((nC X : Nat) : Int) 0)) := by
  refine kCall_ofT ok_X5_layTurn rfl (Nat.le_of_ble_eq_true rfl) (fun T hT => ?_)
  refine kW_go ok_X5_layTurn [1] 20 ?_
  refine kW_go ok_X5_layTurn [] 20 ?_
  refine And.intro (fun _ => ?_) (fun h => ?_)
  · refine kCall_mono (c_fill (eX X) m 31 (nC X) 0 (by decide) rfl (by omega)) (Nat.le_of_ble_eq_true rfl) ?_
    rintro _ m2 ⟨rfl, rfl⟩
    exact hT _ _ ⟨Or.inr rfl, rfl, rfl⟩
  · have h : 0 < m 9 14 := h
    have := hN.2
    omega
theorem f_X5_warmCrowded (X : Xv) (m : Mem) {w d l : Int} (hn : w * d * l = (nC X : Int)) (hn' : nC X ≤ 324) (hG : gridC m w d l) (hN : noN m) (hz : ∀ i : Int, 0 ≤ i → i < (nC X : Int) → m 38 i = 0) : kCall (eX X) 3 M_X5_warmCrowded.1 [vR 37] m (fun r m' => r = some (vI 0) ∧ (∀ i : Int, 0 ≤ i → i < (nC X : Int) → m' 38 i = 0) ∧ ∀ o, o ≠ 38 → o ≠ 39 → m' o = m o) := by
  refine kCall_ofT ok_X5_warmCrowded rfl (Nat.le_of_ble_eq_true rfl) (fun T hT => ?_)
  refine kW_go ok_X5_warmCrowded [1] 20 ?_
  refine kCall_mono (c_fill (eX X) m 39 (nC X) 0 (by decide) rfl (by omega)) (Nat.le_of_ble_eq_true rfl) ?_
  rintro _ m2 ⟨rfl, rfl⟩
  have ec : ∀ i : Int, 0 ≤ i → i < (nC X : Int) → mfill m 39 0 ((nC X : Nat) : Int) 0 39 i = 0 := fun i h0 h1 => by rw [mfill_at, if_pos ⟨h0, h1⟩]
  have loop : ∀ (k : Nat) (i : Int) (m' : Mem) (x3 : Option AV), i + k = (nC X : Int) → 0 ≤ i → (∀ i : Int, 0 ≤ i → i < (nC X : Int) → m' 38 i = 0) → (∀ i : Int, 0 ≤ i → i < (nC X : Int) → m' 39 i = 0) → (∀ o, o ≠ 38 → o ≠ 39 → m' o = m o) → kW (eX X) 2 M_X5_warmCrowded T 6 [some (vR 37), some (vI 0), some (vI i), x3] [] m' := by
    intro k
    induction k with
    | zero =>
      intro i m' x3 hi h0 e8 e9 hf
      refine kW_go ok_X5_warmCrowded [6] 20 ?_
      refine And.intro (fun _ => hT _ _ ⟨Or.inl rfl, rfl, e8, hf⟩) (fun h => ?_)
      have h : i < m' 1 4 := h
      rw [hf 1 (by decide) (by decide), hG.2.2.2.2.1] at h
      omega
    | succ k ih =>
      intro i m' x3 hi h0 e8 e9 hf
      have hb : 0 ≤ i ∧ i < (nC X : Int) := by omega
      refine kW_go ok_X5_warmCrowded [6] 20 ?_
      refine And.intro (fun h => ?_) (fun _ => ?_)
      · have h : m' 1 4 ≤ i := h
        rw [hf 1 (by decide) (by decide), hG.2.2.2.2.1] at h
        omega
      · have e1 := e8 i hb.1 hb.2
        have e2 := e9 i hb.1 hb.2
        show (0 ≤ i ∧ i < (nC X : Int)) ∧ (0 ≤ i ∧ i < (nC X : Int)) ∧ inR (m' 38 i + m' 39 i) ∧ (0 ≤ i ∧ i < (nC X : Int)) ∧ inR (i + 1) ∧ kW (eX X) 2 M_X5_warmCrowded T 6 [some (vR 37), some (vI 0), some (vI (i + 1)), x3] [] (mset m' 38 i (m' 38 i + m' 39 i))
        rw [e1, e2]
        refine ⟨hb, hb, by constructor <;> omega, hb, by constructor <;> omega, ih (i + 1) _ x3 (by omega) (by omega) (fun j h1 h2 => ?_) (fun j h1 h2 => ?_) (fun o h1 h2 => ?_)⟩
        · rw [k_mset_at]
          split
          · rfl
          · exact e8 j h1 h2
        · rw [k_mset_ne (by decide)]
          exact e9 j h1 h2
        · rw [k_mset_ne h1]
          exact hf o h1 h2
  refine kW_go ok_X5_warmCrowded [6] 20 ?_
  refine And.intro (fun _ => ?_) (fun h => ?_)
  · exact loop (nC X) 0 _ none (by omega) (by omega) (fun i h0 h1 => by rw [mfill_ne (by decide)]; exact hz i h0 h1) ec (fun o h1 h2 => by rw [mfill_ne h2])
  · have h : 0 < mfill m 39 0 ((nC X : Nat) : Int) 0 9 14 := h
    rw [mfill_ne (by decide), hN.2] at h
    omega
theorem f_X5_pressAll (X : Xv) (m : Mem) {w d l : Int} (hn : w * d * l = (nC X : Int)) (hn' : nC X ≤ 324) (hG : gridC m w d l) (hN : noN m) (a b : Int) (ha : 1 ≤ a) : kCall (eX X) 4 M_X5_pressAll.1 [vR 37, vI a, vI b] m (fun r m' => r = some (vI 1) ∧ ∀ o, o ≠ 17 → o ≠ 19 → o ≠ 31 → o ≠ 38 → o ≠ 39 → m' o = m o) := by
  refine kCall_ofT ok_X5_pressAll rfl (Nat.le_of_ble_eq_true rfl) (fun T hT => ?_)
  refine kW_go ok_X5_pressAll [1] 20 ?_
  refine kCall_mono (c_X3_removeAllTraces X m hn') (Nat.le_of_ble_eq_true rfl) ?_
  rintro _ m2 ⟨rfl, hm2⟩
  have e2 : ∀ o, o ≠ 17 → o ≠ 19 → m2 o = m o := fun o h1 h2 => by rw [hm2, mfill_ne h1, mfill_ne h2]
  clear hm2
  refine kCall_mono (c_fill (eX X) m2 38 (nC X) 0 (by decide) rfl (by omega)) (Nat.le_of_ble_eq_true rfl) ?_
  rintro _ m3 ⟨rfl, hm3⟩
  have e3 : ∀ o, o ≠ 17 → o ≠ 19 → o ≠ 38 → m3 o = m o := fun o h1 h2 h3 => by rw [hm3, mfill_ne h3, e2 o h1 h2]
  have z3 : ∀ i : Int, 0 ≤ i → i < (nC X : Int) → m3 38 i = 0 := fun i h0 h1 => by rw [hm3, mfill_at, if_pos ⟨h0, h1⟩]
  clear hm3
  refine kW_go ok_X5_pressAll [] 20 ?_
  refine And.intro (fun h => absurd h (by omega)) (fun _ => ?_)
  refine kCall_mono (f_X5_layTurn X m3 hn' ⟨by rw [e3 9 (by decide) (by decide) (by decide)]; exact hN.1, by rw [e3 9 (by decide) (by decide) (by decide)]; exact hN.2⟩ b) (Nat.le_of_ble_eq_true rfl) ?_
  rintro _ m4 ⟨rfl, hm4⟩
  have e4 : ∀ o, o ≠ 17 → o ≠ 19 → o ≠ 31 → o ≠ 38 → m4 o = m o := fun o h1 h2 h3 h4 => by rw [hm4, mfill_ne h3, e3 o h1 h2 h4]
  have z4 : ∀ i : Int, 0 ≤ i → i < (nC X : Int) → m4 38 i = 0 := fun i h0 h1 => by rw [hm4, mfill_ne (by decide)]; exact z3 i h0 h1
  clear hm4
  refine And.intro (fun _ => ?_) (fun h => absurd h (by decide))
  refine kCall_mono (f_X5_warmCrowded X m4 hn hn' (gridC_same hG (fun o o1 o2 => e4 o (by omega) (by omega) (by omega) (by omega))) ⟨by rw [e4 9 (by decide) (by decide) (by decide) (by decide)]; exact hN.1, by rw [e4 9 (by decide) (by decide) (by decide) (by decide)]; exact hN.2⟩ z4) (Nat.le_of_ble_eq_true rfl) ?_
  rintro _ m5 ⟨rfl, z5, e5⟩
  refine And.intro (fun h => absurd rfl h) (fun _ => hT _ _ ⟨rfl, fun o h1 h2 h3 h4 h5 => by rw [e5 o h4 h5, e4 o h1 h2 h3 h4]⟩)
theorem f_X11_press (X : Xv) (m : Mem) {w d l : Int} (hn : w * d * l = (nC X : Int)) (hn' : nC X ≤ 324) (hG : gridC m w d l) (hN : noN m) (a b : Int) : kCall (eX X) 6 M_X11_press.1 [vR 0, vI a, vI b] m (fun r m' => r = some (vI (if (1 ≤ a ∧ a ≤ 20) ∧ (1 ≤ b ∧ b ≤ 20) then 1 else -1)) ∧ ∀ o, 54 ≤ o → m' o = m o) := by
  refine kCall_ofT ok_X11_press rfl (Nat.le_of_ble_eq_true rfl) (fun T hT => ?_)
  refine kW_go ok_X11_press [] 20 ?_
  refine kCall_mono (c_X11_arePressing _ m a b) (Nat.le_of_ble_eq_true rfl) ?_
  rintro _ m ⟨rfl, rfl⟩
  refine And.intro (fun h => ?_) (fun h => ?_)
  · have h := b2i_n.mp h
    rw [if_pos h] at hT
    refine kCall_mono (c_X3_saveTraces X m) (Nat.le_of_ble_eq_true rfl) ?_
    rintro _ m2 ⟨rfl, hm2⟩
    have e2 : ∀ o, o ≠ 20 → o ≠ 21 → m2 o = m o := fun o h1 h2 => by rw [hm2, mcpy_ne h1, mcpy_ne h2]
    clear hm2
    refine kCall_mono (f_X5_pressAll X m2 hn hn' (gridC_same hG (fun o o1 o2 => e2 o (by omega) (by omega))) ⟨by rw [e2 9 (by decide) (by decide)]; exact hN.1, by rw [e2 9 (by decide) (by decide)]; exact hN.2⟩ a b h.1.1) (Nat.le_of_ble_eq_true rfl) ?_
    rintro _ m3 ⟨rfl, e3⟩
    exact And.intro (fun _ => hT _ _ ⟨rfl, fun o ho => by rw [e3 o (by omega) (by omega) (by omega) (by omega) (by omega), e2 o (by omega) (by omega)]⟩) (fun h => absurd h (by decide))
  · have h := b2i_0.mp h
    rw [if_neg h] at hT
    exact hT _ _ ⟨rfl, fun _ _ => rfl⟩
