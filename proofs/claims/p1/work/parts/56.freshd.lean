/-! the rest of the class on a board without nets -/
theorem f_X11_steady (X : Xv) (m : Mem) (hn' : nC X ≤ 324) (hN : noN m) (hz : ∀ i : Int, 0 ≤ i → i < ((nC X * 8 : Nat) : Int) → m 19 i = 0) : kCall (eX X) 6 M_X11_steady.1 [vR 0] m (fun r m' => r = some (vI 1) ∧ ∀ o, 54 ≤ o → m' o = m o) := by
  refine kCall_ofT ok_X11_steady rfl (Nat.le_of_ble_eq_true rfl) (fun T hT => ?_)
  refine kW_go ok_X11_steady [] 20 ?_
  refine kCall_mono (c_X3_saveTraces X m) (Nat.le_of_ble_eq_true rfl) ?_
  rintro _ m2 ⟨rfl, hm2⟩
  have e2 : ∀ o, o ≠ 20 → o ≠ 21 → m2 o = m o := fun o h1 h2 => by rw [hm2, mcpy_ne h1, mcpy_ne h2]
  have z2 : ∀ i : Int, 0 ≤ i → i < ((nC X * 8 : Nat) : Int) → m2 21 i = 0 := fun i h0 h1 => by rw [hm2, mcpy_ne (by decide), mcpy_at, if_pos ⟨h0, h1⟩]; exact hz i h0 h1
  clear hm2
  refine kCall_mono (f_X5_layInOrder X m2 hn' ⟨by rw [e2 9 (by decide) (by decide)]; exact hN.1, by rw [e2 9 (by decide) (by decide)]; exact hN.2⟩) (Nat.le_of_ble_eq_true rfl) ?_
  rintro _ m3 ⟨rfl, hm3⟩
  have e3 : ∀ o, o ≠ 17 → o ≠ 19 → m3 o = m2 o := fun o h1 h2 => by rw [hm3, mfill_ne h1, mfill_ne h2]
  have z3 : ∀ i : Int, 0 ≤ i → i < ((nC X * 8 : Nat) : Int) → m3 19 i = 0 := fun i h0 h1 => by rw [hm3, mfill_ne (by decide), mfill_at, if_pos ⟨h0, h1⟩]
  clear hm3
  refine kCall_mono (c_X3_isAsSaved X m3 hn') (Nat.le_of_ble_eq_true rfl) ?_
  rintro r m4 ⟨hr, rfl⟩
  rcases hr with ⟨-, rfl⟩ | ⟨hne, -⟩
  · refine kCall_mono (c_X3_restoreTraces X m4) (Nat.le_of_ble_eq_true rfl) ?_
    rintro _ m5 ⟨rfl, hm5⟩
    exact hT _ _ ⟨Or.inr rfl, rfl, fun o ho => by rw [hm5, mcpy_ne (by omega), mcpy_ne (by omega), e3 o (by omega) (by omega), e2 o (by omega) (by omega)]⟩
  · exact absurd (fun i h0 h1 => by rw [z3 i h0 h1, e3 21 (by decide) (by decide), z2 i h0 h1]) hne
theorem f_X5_withPins (X : Xv) (m : Mem) (hN : noN m) : kCall (eX X) 1 M_X5_withPins.1 [vR 37] m (cP 0 m) := by
  refine kCall_of ok_X5_withPins rfl (Nat.le_of_ble_eq_true rfl) ?_
  refine kW_go ok_X5_withPins [1] 20 ?_
  refine kW_go ok_X5_withPins [] 20 ?_
  refine And.intro (fun _ => ⟨rfl, rfl⟩) (fun h => ?_)
  have h : 0 < m 9 14 := h
  have := hN.2
  omega
theorem f_X5_wholeFigure (X : Xv) (m : Mem) (hN : noN m) (a : Int) : kCall (eX X) 2 M_X5_wholeFigure.1 [vR 37, vI a] m (cP 0 m) := by
  refine kCall_of ok_X5_wholeFigure rfl (Nat.le_of_ble_eq_true rfl) ?_
  refine kW_go ok_X5_wholeFigure [1] 20 ?_
  refine kW_go ok_X5_wholeFigure [] 20 ?_
  refine And.intro (fun _ => ⟨rfl, rfl⟩) (fun h => ?_)
  have h : 0 < m 9 14 := h
  have := hN.2
  omega
theorem pop_0 : pop 0 = 0 := by decide +kernel
theorem f_X5_orderFigure (X : Xv) (m : Mem) (hn' : nC X ≤ 324) (hN : noN m) (a : Int) : kCall (eX X) 5 M_X5_orderFigure.1 [vR 37, vI a] m (fun r m' => r = some (vI 0) ∧ ∀ o, 22 ≤ o → m' o = m o) := by
  refine kCall_ofT ok_X5_orderFigure rfl (Nat.le_of_ble_eq_true rfl) (fun T hT => ?_)
  refine kW_go ok_X5_orderFigure [] 20 ?_
  refine kCall_mono (f_X5_layInOrder X m hn' hN) (Nat.le_of_ble_eq_true rfl) ?_
  rintro _ m3 ⟨rfl, hm3⟩
  have e3 : ∀ o, o ≠ 17 → o ≠ 19 → m3 o = m o := fun o h1 h2 => by rw [hm3, mfill_ne h1, mfill_ne h2]
  clear hm3
  have hN3 : noN m3 := ⟨by rw [e3 9 (by decide) (by decide)]; exact hN.1, by rw [e3 9 (by decide) (by decide)]; exact hN.2⟩
  refine And.intro (fun _ => And.intro (fun _ => ?_) (fun _ => ?_)) (fun _ => ?_)
  · refine kCall_mono (f_X5_wholeFigure X m3 hN3 0) (Nat.le_of_ble_eq_true rfl) ?_
    rintro _ m4 ⟨rfl, rfl⟩
    exact hT _ _ ⟨rfl, fun o ho => e3 o (by omega) (by omega)⟩
  · refine kCall_mono (f_X5_wholeFigure X m3 hN3 1) (Nat.le_of_ble_eq_true rfl) ?_
    rintro _ m4 ⟨rfl, rfl⟩
    exact hT _ _ ⟨rfl, fun o ho => e3 o (by omega) (by omega)⟩
  · refine kCall_mono (f_X5_withPins X m3 hN3) (Nat.le_of_ble_eq_true rfl) ?_
    rintro _ m4 ⟨rfl, rfl⟩
    refine kCall_mono (c_bitCount _ _ 0 (by decide) (by decide)) (Nat.le_of_ble_eq_true rfl) ?_
    rintro _ m5 ⟨rfl, rfl⟩
    rw [pop_0]
    exact ⟨by decide, hT _ _ ⟨rfl, fun o ho => e3 o (by omega) (by omega)⟩⟩
theorem f_X5_pressFigure (X : Xv) (m : Mem) {w d l : Int} (hn : w * d * l = (nC X : Int)) (hn' : nC X ≤ 324) (hG : gridC m w d l) (hN : noN m) (a b c : Int) (ha : 1 ≤ a) : kCall (eX X) 6 M_X5_pressFigure.1 [vR 37, vI a, vI b, vI c] m (fun r m' => r = some (vI (if c = 3 then 1 else 0)) ∧ ∀ o, 54 ≤ o → m' o = m o) := by
  refine kCall_ofT ok_X5_pressFigure rfl (Nat.le_of_ble_eq_true rfl) (fun T hT => ?_)
  refine kW_go ok_X5_pressFigure [] 20 ?_
  refine kCall_mono (f_X5_pressAll X m hn hn' hG hN a b ha) (Nat.le_of_ble_eq_true rfl) ?_
  rintro _ m3 ⟨rfl, e3⟩
  have hN3 : noN m3 := ⟨by rw [e3 9 (by decide) (by decide) (by decide) (by decide) (by decide)]; exact hN.1, by rw [e3 9 (by decide) (by decide) (by decide) (by decide) (by decide)]; exact hN.2⟩
  have hf : ∀ o, 54 ≤ o → m3 o = m o := fun o ho => e3 o (by omega) (by omega) (by omega) (by omega) (by omega)
  refine And.intro (fun h => absurd h (by decide)) (fun _ => ?_)
  refine And.intro (fun h3 => ?_) (fun h3 => ?_)
  · rw [if_neg h3] at hT
    refine And.intro (fun h => absurd h (by decide)) (fun _ => And.intro (fun _ => ?_) (fun _ => ?_))
    · refine kCall_mono (f_X5_wholeFigure X m3 hN3 0) (Nat.le_of_ble_eq_true rfl) ?_
      rintro _ m4 ⟨rfl, rfl⟩
      exact hT _ _ ⟨rfl, hf⟩
    · refine kCall_mono (f_X5_wholeFigure X m3 hN3 1) (Nat.le_of_ble_eq_true rfl) ?_
      rintro _ m4 ⟨rfl, rfl⟩
      exact hT _ _ ⟨rfl, hf⟩
  · rw [if_pos h3] at hT
    exact And.intro (fun h => absurd h (by decide)) (fun _ => hT _ _ ⟨rfl, hf⟩)
/-- BESIDE's answer on a board without nets -/
def besN (a b c : Int) : Int := if ((1 ≤ a ∧ a ≤ 20) ∧ (1 ≤ b ∧ b ≤ 20)) ∧ (0 ≤ c ∧ c ≤ 5) then (if c = 3 then 1 else 0) else -1
theorem f_X11_beside (X : Xv) (m : Mem) {w d l : Int} (hn : w * d * l = (nC X : Int)) (hn' : nC X ≤ 324) (hG : gridC m w d l) (hN : noN m) (a b c : Int) : kCall (eX X) 8 M_X11_beside.1 [vR 0, vI a, vI b, vI c] m (fun r m' => r = some (vI (besN a b c)) ∧ ∀ o, 54 ≤ o → m' o = m o) := by
  refine kCall_ofT ok_X11_beside rfl (Nat.le_of_ble_eq_true rfl) (fun T hT => ?_)
  have hno : ¬ (((1 ≤ a ∧ a ≤ 20) ∧ (1 ≤ b ∧ b ≤ 20)) ∧ (0 ≤ c ∧ c ≤ 5)) → T (some (vI (-1))) m := fun h => hT _ _ ⟨by unfold besN; rw [if_neg h], fun _ _ => rfl⟩
  have hyes : (((1 ≤ a ∧ a ≤ 20) ∧ (1 ≤ b ∧ b ≤ 20)) ∧ (0 ≤ c ∧ c ≤ 5)) → ∀ m', (∀ o, 54 ≤ o → m' o = m o) → T (some (vI (if c = 3 then 1 else 0))) m' := fun h m' hf => hT _ _ ⟨by unfold besN; rw [if_pos h], hf⟩
  refine kW_go ok_X11_beside [] 20 ?_
  refine kCall_mono (c_X11_arePressing _ m a b) (Nat.le_of_ble_eq_true rfl) ?_
  rintro _ m ⟨rfl, rfl⟩
  refine And.intro (fun h1 => hno (fun h => b2i_0.mp h1 h.1)) (fun h1 => And.intro (fun h2 => hno (fun h => by omega)) (fun h2 => And.intro (fun h3 => ?_) (fun h3 => hno (fun h => by omega))))
  have h1 := b2i_n.mp h1
  have hok := And.intro h1 (And.intro h2 h3)
  refine kCall_mono (c_X3_saveTraces X m) (Nat.le_of_ble_eq_true rfl) ?_
  rintro _ m2 ⟨rfl, hm2⟩
  have e2 : ∀ o, o ≠ 20 → o ≠ 21 → m2 o = m o := fun o h1 h2 => by rw [hm2, mcpy_ne h1, mcpy_ne h2]
  clear hm2
  have hN2 : noN m2 := ⟨by rw [e2 9 (by decide) (by decide)]; exact hN.1, by rw [e2 9 (by decide) (by decide)]; exact hN.2⟩
  refine And.intro (fun h4 => ?_) (fun h4 => ?_)
  · refine kCall_mono (f_X5_pressFigure X m2 hn hn' (gridC_same hG (fun o o1 o2 => e2 o (by omega) (by omega))) hN2 a b c h1.1.1) (Nat.le_of_ble_eq_true rfl) ?_
    rintro _ m3 ⟨rfl, e3⟩
    refine kCall_mono (c_X3_restoreTraces X m3) (Nat.le_of_ble_eq_true rfl) ?_
    rintro _ m5 ⟨rfl, hm5⟩
    exact hyes hok _ (fun o ho => by rw [hm5, mcpy_ne (by omega), mcpy_ne (by omega), e3 o (by omega), e2 o (by omega) (by omega)])
  · refine kCall_mono (f_X5_orderFigure X m2 hn' hN2 c) (Nat.le_of_ble_eq_true rfl) ?_
    rintro _ m3 ⟨rfl, e3⟩
    refine kCall_mono (c_X3_restoreTraces X m3) (Nat.le_of_ble_eq_true rfl) ?_
    rintro _ m5 ⟨rfl, hm5⟩
    have := hyes hok m5 (fun o ho => by rw [hm5, mcpy_ne (by omega), mcpy_ne (by omega), e3 o (by omega), e2 o (by omega) (by omega)])
    rw [if_neg (by omega)] at this
    exact this
/-- no copper anywhere -/
def noCu (X : Xv) (m : Mem) : Prop := ∀ i : Int, 0 ≤ i → i < (nC X : Int) → m 16 i = 0 ∧ m 17 i = 0
theorem k_or00 : kor 0 0 = 0 := by decide +kernel
theorem f_X0_joinAll (X : Xv) (m : Mem) {w d l : Int} (hn : w * d * l = (nC X : Int)) (hn' : nC X ≤ 324) (hG : gridC m w d l) (hC : noCu X m) : kCall (eX X) 5 M_X0_joinAll.1 [vR 46] m (fun r m' => r = none ∧ ∀ o, o ≠ 46 → o ≠ 48 → m' o = m o) := by
  refine kCall_ofT ok_X0_joinAll rfl (Nat.le_of_ble_eq_true rfl) (fun T hT => ?_)
  refine kW_go ok_X0_joinAll [1] 20 ?_
  refine kCall_mono (c_fill (eX X) m 48 (nC X) (-1) (by decide) rfl (by omega)) (Nat.le_of_ble_eq_true rfl) ?_
  rintro _ m2 ⟨rfl, hm2⟩
  have e3 : ∀ o, o ≠ 46 → o ≠ 48 → fset m2 46 8 0 o = m o := fun o h1 h2 => by unfold fset; rw [k_mset_ne h1, hm2, mfill_ne h2]
  have z3 : ∀ i : Int, 0 ≤ i → i < (nC X : Int) → fset m2 46 8 0 48 i = -1 := fun i h0 h1 => by unfold fset; rw [k_mset_ne (by decide), hm2, mfill_at, if_pos ⟨h0, h1⟩]
  have hgo : ∀ m3 : Mem, (∀ o, o ≠ 46 → o ≠ 48 → m3 o = m o) → (∀ i : Int, 0 ≤ i → i < (nC X : Int) → m3 48 i = -1) → ∀ (k : Nat) (i : Int), i + k = (nC X : Int) → 0 ≤ i → kW (eX X) 4 M_X0_joinAll T 1 [some (vR 46), some (vI i)] [] m3 := by
    intro m3 e3 z3 k
    induction k with
    | zero =>
      intro i hi h0
      refine kW_go ok_X0_joinAll [1] 20 ?_
      refine And.intro (fun _ => hT _ _ ⟨rfl, e3⟩) (fun h => ?_)
      have h : i < m3 1 4 := h
      rw [e3 1 (by decide) (by decide), hG.2.2.2.2.1] at h
      omega
    | succ k ih =>
      intro i hi h0
      have hb : 0 ≤ i ∧ i < (nC X : Int) := by omega
      refine kW_go ok_X0_joinAll [1] 20 ?_
      refine And.intro (fun h => ?_) (fun _ => ⟨hb, And.intro (fun h => absurd (z3 i hb.1 hb.2) h) (fun _ => ?_)⟩)
      · have h : m3 1 4 ≤ i := h
        rw [e3 1 (by decide) (by decide), hG.2.2.2.2.1] at h
        omega
      · refine kCall_mono (c_X3_copperAt X m3 i hb) (Nat.le_of_ble_eq_true rfl) ?_
        rintro _ m4 ⟨rfl, rfl⟩
        rw [e3 16 (by decide) (by decide), e3 17 (by decide) (by decide), (hC i hb.1 hb.2).1, (hC i hb.1 hb.2).2, k_or00]
        exact And.intro (fun _ => ⟨by constructor <;> omega, ih (i + 1) (by omega) (by omega)⟩) (fun h => absurd rfl h)
  exact hgo _ e3 z3 (nC X) 0 (by omega) (by omega)
theorem f_X0_joinedPairs (X : Xv) (m : Mem) (hN : noN m) : kCall (eX X) 3 M_X0_joinedPairs.1 [vR 46] m (cP 0 m) := by
  refine kCall_of ok_X0_joinedPairs rfl (Nat.le_of_ble_eq_true rfl) ?_
  refine kW_go ok_X0_joinedPairs [1] 20 ?_
  refine kW_go ok_X0_joinedPairs [2] 20 ?_
  refine And.intro (fun _ => ⟨rfl, rfl⟩) (fun h => ?_)
  have h : 0 < m 9 14 := h
  have := hN.2
  omega
theorem f_X0_openParts (X : Xv) (m : Mem) (hN : noN m) : kCall (eX X) 3 M_X0_openParts.1 [vR 46] m (cP 0 m) := by
  refine kCall_of ok_X0_openParts rfl (Nat.le_of_ble_eq_true rfl) ?_
  refine kW_go ok_X0_openParts [1] 20 ?_
  refine kW_go ok_X0_openParts [2] 20 ?_
  refine And.intro (fun _ => ⟨rfl, rfl⟩) (fun h => ?_)
  have h : 0 < m 9 14 := h
  have := hN.2
  omega
theorem f_X11_netlist (X : Xv) (m : Mem) {w d l : Int} (hn : w * d * l = (nC X : Int)) (hn' : nC X ≤ 324) (hG : gridC m w d l) (hC : noCu X m) (hN : noN m) (a : Int) : kCall (eX X) 6 M_X11_netlist.1 [vR 0, vI a] m (fun r m' => r = some (vI (if 0 ≤ a ∧ a ≤ 1 then 0 else -1)) ∧ ∀ o, 54 ≤ o → m' o = m o) := by
  refine kCall_ofT ok_X11_netlist rfl (Nat.le_of_ble_eq_true rfl) (fun T hT => ?_)
  refine kW_go ok_X11_netlist [] 20 ?_
  refine And.intro (fun h1 => ?_) (fun h1 => And.intro (fun h2 => ?_) (fun h2 => ?_))
  · rw [if_neg (by omega)] at hT
    exact hT _ _ ⟨rfl, fun _ _ => rfl⟩
  · rw [if_pos (by omega)] at hT
    refine kCall_mono (f_X0_joinAll X m hn hn' hG hC) (Nat.le_of_ble_eq_true rfl) ?_
    rintro _ m3 ⟨rfl, e3⟩
    have hN3 : noN m3 := ⟨by rw [e3 9 (by decide) (by decide)]; exact hN.1, by rw [e3 9 (by decide) (by decide)]; exact hN.2⟩
    have hf : ∀ o, 54 ≤ o → m3 o = m o := fun o ho => e3 o (by omega) (by omega)
    refine And.intro (fun _ => ?_) (fun _ => ?_)
    · refine kCall_mono (f_X0_openParts X m3 hN3) (Nat.le_of_ble_eq_true rfl) ?_
      rintro _ m4 ⟨rfl, rfl⟩
      exact hT _ _ ⟨rfl, hf⟩
    · refine kCall_mono (f_X0_joinedPairs X m3 hN3) (Nat.le_of_ble_eq_true rfl) ?_
      rintro _ m4 ⟨rfl, rfl⟩
      exact hT _ _ ⟨rfl, hf⟩
  · rw [if_neg (by omega)] at hT
    exact hT _ _ ⟨rfl, fun _ _ => rfl⟩
theorem f_X0_reachable (X : Xv) (m : Mem) {w d l : Int} (hD : okD w d l) (hn : w * d * l = (nC X : Int)) (hG : gridC m w d l) (hC : noCu X m) (a : Int) (ha : 0 ≤ a ∧ a < l) : kCall (eX X) 5 M_X0_reachable.1 [vR 46, vI a] m (cP 0 m) := by
  have hff := okD_floor hD
  have g3 : m 1 3 = w * d := hG.2.2.2.1
  obtain ⟨⟨w1, w2⟩, ⟨d1, d2⟩, l1, l2⟩ := id hD
  have hp : 0 ≤ a * (w * d) := Int.mul_nonneg ha.1 (by omega)
  have hp2 : (a + 1) * (w * d) ≤ l * (w * d) := Int.mul_le_mul_of_nonneg_right (by omega) (by omega)
  have hcc := okD_cells hD
  have hle : l * (w * d) = (nC X : Int) := by rw [← hn, Int.mul_comm]
  have hp3 : a * (w * d) + w * d = (a + 1) * (w * d) := by rw [Int.add_mul, Int.one_mul]
  refine kCall_ofT ok_X0_reachable rfl (Nat.le_of_ble_eq_true rfl) (fun T hT => ?_)
  have loop : ∀ (k : Nat) (i : Int) (x4 : Option AV), i + k = (a + 1) * (w * d) → 0 ≤ i → kW (eX X) 4 M_X0_reachable T 1 [some (vR 46), some (vI a), some (vI 0), some (vI i), x4] [] m := by
    intro k
    induction k with
    | zero =>
      intro i x4 hi h0
      refine kW_go ok_X0_reachable [1] 20 ?_
      show inR (a + 1) ∧ inR ((a + 1) * m 1 3) ∧ (((a + 1) * m 1 3 ≤ i → _) ∧ (i < (a + 1) * m 1 3 → _))
      rw [g3]
      exact ⟨by constructor <;> omega, by constructor <;> omega, fun _ => hT _ _ ⟨rfl, rfl⟩, fun h => absurd h (by omega)⟩
    | succ k ih =>
      intro i x4 hi h0
      have hb : 0 ≤ i ∧ i < (nC X : Int) := by omega
      refine kW_go ok_X0_reachable [1] 20 ?_
      show inR (a + 1) ∧ inR ((a + 1) * m 1 3) ∧ (((a + 1) * m 1 3 ≤ i → _) ∧ (i < (a + 1) * m 1 3 → _))
      rw [g3]
      refine ⟨by constructor <;> omega, by constructor <;> omega, fun h => absurd h (by omega), fun _ => ?_⟩
      refine kCall_mono (c_X3_copperAt X m i hb) (Nat.le_of_ble_eq_true rfl) ?_
      rintro _ m ⟨rfl, rfl⟩
      rw [(hC i hb.1 hb.2).1, (hC i hb.1 hb.2).2, k_or00]
      refine kCall_mono (c_bitCount _ _ 0 (by decide) (by decide)) (Nat.le_of_ble_eq_true rfl) ?_
      rintro _ m ⟨rfl, rfl⟩
      rw [pop_0]
      exact And.intro (fun _ => ⟨by constructor <;> omega, ih (i + 1) _ (by omega) (by omega)⟩) (fun h => absurd h (by decide))
  refine kW_go ok_X0_reachable [1] 20 ?_
  show inR (a * m 1 3) ∧ kW (eX X) 4 M_X0_reachable T 1 [some (vR 46), some (vI a), some (vI 0), some (vI (a * m 1 3)), none] [] m
  rw [g3]
  refine ⟨by constructor <;> omega, loop (w * d).toNat _ none ?_ hp⟩
  rw [Int.add_mul, Int.one_mul]
  omega
theorem f_X11_test (X : Xv) (m : Mem) {w d l : Int} (hD : okD w d l) (hn : w * d * l = (nC X : Int)) (hG : gridC m w d l) (hC : noCu X m) (a : Int) : kCall (eX X) 6 M_X11_test.1 [vR 0, vI a] m (cP (if 0 ≤ a ∧ a < l then 0 else -1) m) := by
  refine kCall_ofT ok_X11_test rfl (Nat.le_of_ble_eq_true rfl) (fun T hT => ?_)
  refine kW_go ok_X11_test [] 20 ?_
  refine kCall_mono (c_X11_isLayer X m a) (Nat.le_of_ble_eq_true rfl) ?_
  rintro _ m ⟨rfl, rfl⟩
  have g2 : m 1 2 = l := hG.2.2.1
  refine And.intro (fun h => ?_) (fun h => ?_)
  · have h := b2i_0.mp h
    rw [g2] at h
    rw [if_neg h] at hT
    exact hT _ _ ⟨rfl, rfl⟩
  · have h := b2i_n.mp h
    rw [g2] at h
    rw [if_pos h] at hT
    refine kCall_mono (f_X0_reachable X m hD hn hG hC a h) (Nat.le_of_ble_eq_true rfl) ?_
    rintro _ m ⟨rfl, rfl⟩
    exact hT _ _ ⟨rfl, rfl⟩
theorem f_X0_shiftVias (X : Xv) (m : Mem) (hN : noN m) (a b : Int) : kCall (eX X) 5 M_X0_shiftVias.1 [vR 46, vI a, vI b] m (fun r m' => r = none ∧ m' 46 3 = 0 ∧ m' 46 4 = 0 ∧ ∀ o, o ≠ 46 → m' o = m o) := by
  refine kCall_of ok_X0_shiftVias rfl (Nat.le_of_ble_eq_true rfl) ?_
  refine kW_go ok_X0_shiftVias [1] 20 ?_
  refine kW_go ok_X0_shiftVias [2] 20 ?_
  refine And.intro (fun _ => ⟨rfl, rfl, rfl, fun o ho => ?_⟩) (fun h => ?_)
  · show fset (fset m 46 3 0) 46 4 0 o = m o
    unfold fset
    rw [k_mset_ne ho, k_mset_ne ho]
  · have h : 0 < fset (fset m 46 3 0) 46 4 0 9 14 := h
    unfold fset at h
    rw [k_mset_ne (by decide), k_mset_ne (by decide), hN.2] at h
    omega
theorem f_X11_wander (X : Xv) (m : Mem) (hN : noN m) (a b c : Int) : kCall (eX X) 6 M_X11_wander.1 [vR 0, vI a, vI b, vI c] m (fun r m' => r = some (vI (if (-3 ≤ a ∧ a ≤ 3) ∧ (-3 ≤ b ∧ b ≤ 3) ∧ (0 ≤ c ∧ c ≤ 1) then 0 else -1)) ∧ ∀ o, 54 ≤ o → m' o = m o) := by
  refine kCall_ofT ok_X11_wander rfl (Nat.le_of_ble_eq_true rfl) (fun T hT => ?_)
  have hno : ¬ ((-3 ≤ a ∧ a ≤ 3) ∧ (-3 ≤ b ∧ b ≤ 3) ∧ (0 ≤ c ∧ c ≤ 1)) → T (some (vI (-1))) m := fun h => hT _ _ ⟨by rw [if_neg h], fun _ _ => rfl⟩
  refine kW_go ok_X11_wander [] 20 ?_
  refine And.intro (fun h1 => hno (by omega)) (fun h1 => And.intro (fun h2 => hno (by omega)) (fun h2 => And.intro (fun h3 => hno (by omega)) (fun h3 => And.intro (fun h4 => hno (by omega)) (fun h4 => And.intro (fun h5 => hno (by omega)) (fun h5 => And.intro (fun h6 => ?_) (fun h6 => hno (by omega)))))))
  rw [if_pos (by omega)] at hT
  refine kCall_mono (f_X0_shiftVias X m hN a b) (Nat.le_of_ble_eq_true rfl) ?_
  rintro _ m3 ⟨rfl, s1, s2, e3⟩
  exact And.intro (fun _ => hT _ _ ⟨congrArg (fun z => some (vI z)) s2, fun o ho => e3 o (by omega)⟩) (fun _ => hT _ _ ⟨congrArg (fun z => some (vI z)) s1, fun o ho => e3 o (by omega)⟩)
