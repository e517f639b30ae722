/-! saved and brought back in the class; STEADY alike -/
theorem WF_pt {w d l : Int} {c c' : Mem} (hc : ∀ o, o ≠ 17 → o ≠ 19 → c' o = c o) (h19 : rows19 w d l c c') (h17 : ∀ x, inC w d l x → c' 17 x = c 17 x) (h : WF w d l c) : WF w d l c' := by
  obtain ⟨a1, a2, a3, a4, a5, a6, a7⟩ := h
  refine WF_of_WM ⟨a1, a2, a3, a4, a5, a6, a7⟩ ⟨?_, ?_, fun n hn => ?_, fun x hx => ?_⟩ hc
  · unfold WFs at a1 ⊢
    rw [hc 9 (by decide) (by decide), hc 10 (by decide) (by decide), hc 11 (by decide) (by decide), hc 12 (by decide) (by decide)]
    exact a1
  · unfold WFp at a2 ⊢
    rw [hc 9 (by decide) (by decide), hc 13 (by decide) (by decide), hc 14 (by decide) (by decide)]
    exact a2
  · obtain ⟨w1, w2⟩ := a3 n hn
    unfold WFn pinT at *
    rw [hc 9 (by decide) (by decide), hc 13 (by decide) (by decide), hc 14 (by decide) (by decide), hc 16 (by decide) (by decide), hc 18 (by decide) (by decide)]
    refine ⟨fun x hx => ?_, fun hcc x hx => ?_⟩
    · rw [h19 n x hn hx, h17 x hx]; exact w1 x hx
    · rw [h19 n x hn hx]; exact w2 hcc x hx
  · rw [hc 16 (by decide) (by decide), h17 x hx]
    exact a4 x hx
/-- a memory that is another one but for the traces, these brought back -/
theorem inv_back {X : Xv} {w d l : Int} {m m3 m4 : Mem} (hI : Inv X w d l m) (h : ∀ o, scr o → o ≠ 17 → o ≠ 19 → m3 o = m o) (h19 : rows19 w d l m m3) (h17 : ∀ x, inC w d l x → m3 17 x = m 17 x) (h2 : ∀ o, o < 54 → m4 o = m3 o) (hR : RR w d l m m4) : Inv X w d l m4 := by
  obtain ⟨mx, hmx⟩ : ∃ mx : Mem, mx = fun o => if o = 17 then m3 17 else if o = 19 then m3 19 else m o := ⟨_, rfl⟩
  have e17 : mx 17 = m3 17 := by rw [hmx]; rfl
  have e19 : mx 19 = m3 19 := by rw [hmx]; rfl
  have eo : ∀ o, o ≠ 17 → o ≠ 19 → mx o = m o := fun o a b => by rw [hmx]; simp only [if_neg a, if_neg b]
  have r19 : rows19 w d l m mx := fun n x hn hx => by rw [e19]; exact h19 n x hn hx
  have r17 : ∀ x, inC w d l x → mx 17 x = m 17 x := fun x hx => by rw [e17]; exact h17 x hx
  have hE : Es mx m3 := by
    refine Es_of (fun o ho => ?_)
    by_cases a : o = 17
    · rw [a, e17]
    · by_cases b : o = 19
      · rw [b, e19]
      · rw [eo o a b]
        exact h o (by rcases ho with z | z <;> (unfold scr; omega)) a b
  have hR0 := RR0_pt hI.1.1 eo r19 (fun x o hx _ => by rw [r17 x hx]) (RR_0 hR)
  refine inv_mk (m1 := m3) (c' := mx) hI (fun o a b => h o (by unfold scr; omega) (by omega) (by omega)) hE (WF_pt eo r19 r17 hI.2.2.1) ?_ ?_ h2 ⟨hR0.1, hR0.2, hR.2.2⟩
  · rw [h 6 (by unfold scr; omega) (by decide) (by decide)]
  · exact h 31 (by unfold scr; omega) (by decide) (by decide)
/-- the class's traces saved, brought back -/
def savM (N : Int) (m : Mem) : Mem := mcpy (mcpy m 19 0 21 0 (N * 8)) 17 0 20 0 N
def bckM (N : Int) (m : Mem) : Mem := mcpy (mcpy m 21 0 19 0 (N * 8)) 20 0 17 0 N
theorem savM_ne {N : Int} {m : Mem} {o : Nat} (h0 : o ≠ 20) (h1 : o ≠ 21) : savM N m o = m o := by
  unfold savM
  rw [mcpy_ne h0, mcpy_ne h1]
theorem bckM_ne {N : Int} {m : Mem} {o : Nat} (h0 : o ≠ 17) (h1 : o ≠ 19) : bckM N m o = m o := by
  unfold bckM
  rw [mcpy_ne h0, mcpy_ne h1]
theorem savM_21 {w d l n x : Int} {m : Mem} (hn : 0 ≤ n ∧ n < 8) (hx : inC w d l x) : savM (w * d * l) m 21 (n * (w * d * l) + x) = m 19 (n * (w * d * l) + x) := by
  unfold savM
  rw [mcpy_ne (by decide), mcpy_at, if_pos (row8 hn hx)]
theorem savM_20 {w d l x : Int} {m : Mem} (hx : inC w d l x) : savM (w * d * l) m 20 x = m 17 x := by
  unfold savM
  rw [mcpy_at, if_pos hx, mcpy_ne (by decide)]
theorem bckM_19 {w d l n x : Int} {m : Mem} (hn : 0 ≤ n ∧ n < 8) (hx : inC w d l x) : bckM (w * d * l) m 19 (n * (w * d * l) + x) = m 21 (n * (w * d * l) + x) := by
  unfold bckM
  rw [mcpy_ne (by decide), mcpy_at, if_pos (row8 hn hx)]
theorem bckM_17 {w d l x : Int} {m : Mem} (hx : inC w d l x) : bckM (w * d * l) m 17 x = m 20 x := by
  unfold bckM
  rw [mcpy_at, if_pos hx, mcpy_ne (by decide)]
/-- the class's saved traces are those of c -/
def Sv (w d l : Int) (c m : Mem) : Prop := (∀ n x : Int, (0 ≤ n ∧ n < 8) → inC w d l x → m 21 (n * (w * d * l) + x) = c 19 (n * (w * d * l) + x)) ∧ ∀ x, inC w d l x → m 20 x = c 17 x
theorem Sv_same {w d l : Int} {c m m' : Mem} (h0 : m' 20 = m 20) (h1 : m' 21 = m 21) (h : Sv w d l c m) : Sv w d l c m' := by
  unfold Sv at *
  rw [h0, h1]
  exact h
theorem c_save (X : Xv) {m : Mem} {w d l : Int} (hI : Inv X w d l m) : kCall (eX X) 1 M_X3_saveTraces.1 [vR 9] m (fun r m' => r = none ∧ Inv X w d l m' ∧ Sv w d l m' m' ∧ ∀ o, o ≠ 20 → o ≠ 21 → m' o = m o) := by
  have hN := hI.1.2.1
  refine kCall_mono (c_X3_saveTraces X m) (Nat.le_refl _) ?_
  rintro _ m' ⟨rfl, hm⟩
  have e : m' = savM (w * d * l) m := by
    rw [hm]
    unfold savM
    rw [show ((nC X * 8 : Nat) : Int) = w * d * l * 8 by omega, show ((nC X : Nat) : Int) = w * d * l by omega]
  have hne : ∀ o, o ≠ 20 → o ≠ 21 → m' o = m o := fun o a b => by rw [e, savM_ne a b]
  refine ⟨rfl, inv_mk (c' := m) hI (fun o a b => hne o (by omega) (by omega)) (Es_of (fun o ho => hne o (by omega) (by omega))) hI.2.2.1 (by rw [hne 6 (by decide) (by decide)]) (hne 31 (by decide) (by decide)) (fun _ _ => rfl) (RR_ref (fun o h1 _ => hne o (by omega) (by omega)) hI.2.2.2.1), ⟨fun n x hn hx => ?_, fun x hx => ?_⟩, hne⟩
  · rw [hne 19 (by decide) (by decide), e, savM_21 hn hx]
  · rw [hne 17 (by decide) (by decide), e, savM_20 hx]
theorem c_back (X : Xv) {c m : Mem} {w d l : Int} (hN : w * d * l = (nC X : Int)) (hS : Sv w d l c m) : kCall (eX X) 1 M_X3_restoreTraces.1 [vR 9] m (fun r m' => r = none ∧ rows19 w d l c m' ∧ (∀ x, inC w d l x → m' 17 x = c 17 x) ∧ ∀ o, o ≠ 17 → o ≠ 19 → m' o = m o) := by
  refine kCall_mono (c_X3_restoreTraces X m) (Nat.le_refl _) ?_
  rintro _ m' ⟨rfl, hm⟩
  have e : m' = bckM (w * d * l) m := by
    rw [hm]
    unfold bckM
    rw [show ((nC X * 8 : Nat) : Int) = w * d * l * 8 by omega, show ((nC X : Nat) : Int) = w * d * l by omega]
  refine ⟨rfl, fun n x hn hx => ?_, fun x hx => ?_, fun o a b => by rw [e, bckM_ne a b]⟩
  · rw [e, bckM_19 hn hx]; exact hS.1 n x hn hx
  · rw [e, bckM_17 hx]; exact hS.2 x hx
theorem cell8 {w d l i : Int} (hN : 0 < w * d * l) (h : 0 ≤ i ∧ i < w * d * l * 8) : ∃ n x : Int, (0 ≤ n ∧ n < 8) ∧ inC w d l x ∧ i = n * (w * d * l) + x := by
  have h1 := Int.emod_nonneg i (show w * d * l ≠ 0 by omega)
  have h2 := Int.emod_lt_of_pos i hN
  have h3 := Int.mul_ediv_add_emod i (w * d * l)
  refine ⟨i / (w * d * l), i % (w * d * l), ⟨Int.ediv_nonneg h.1 (by omega), ?_⟩, ⟨h1, h2⟩, by rw [Int.mul_comm]; exact h3.symm⟩
  exact Int.ediv_lt_of_lt_mul hN (by rw [Int.mul_comm]; exact h.2)
set_option maxRecDepth 100000 in
theorem pair_steady (X : Xv) (m : Mem) {w d l : Int} (hI : Inv X w d l m) : kPair X 168 310 [] m (Inv X w d l) := by
  have hD := hI.1.1
  have hc := okD_cells hD
  have hN := hI.1.2.1
  refine kp2 (k1 := 8) (k2 := 10) (by decide) (by decide) ?_
  refine kCall_ofT ok_X11_steady rfl (Nat.le_of_ble_eq_true rfl) (fun T hT => ?_)
  refine kW_go ok_X11_steady [] 20 ?_
  refine kCall_mono (c_save X hI) (Nat.le_of_ble_eq_true rfl) ?_
  rintro _ m1 ⟨rfl, hI1, hS1, -⟩
  refine kCall_mono (c_X5_layInOrder X m1 hI1.1 (Inv_WS hI1) hI1.2.2.2.2.2) (Nat.le_of_ble_eq_true rfl) ?_
  rintro _ m2 ⟨s, c', hO, hs, rfl, hf, hWS, hc'⟩
  have hS2 : Sv w d l m1 m2 := Sv_same (by rw [hf 20 (by unfold scr; omega), hc' 20 (by decide) (by decide)]) (by rw [hf 21 (by unfold scr; omega), hc' 21 (by decide) (by decide)]) hS1
  have hz : ∀ z : Int, z = iv (rows19 w d l m1 c') 1 → ∀ m3 : Mem, rows19 w d l m1 m3 → (∀ x, inC w d l x → m3 17 x = m1 17 x) → (∀ o, o ≠ 17 → o ≠ 19 → m3 o = m2 o) → kCall (eX X) 10 310 [vR 54] m3 (fun r2 m4 => r2 = some (vI z) ∧ Inv X w d l m4) := by
    intro z hz m3 h19 h17 h3
    have e3 : ∀ o, scr o → o ≠ 17 → o ≠ 19 → m3 o = m1 o := fun o ho a b => by rw [h3 o a b, hf o ho, hc' o a b]
    refine kCall_mono (c_X12_steady X m1 m3 (ex := m1 31) hD (WF_WM hI1.2.2.1) (RR_ref (fun o h1 _ => e3 o (by unfold scr; omega) (by omega) (by omega)) hI1.2.2.2.1) hI1.2.2.2.2.2) (Nat.le_of_ble_eq_true rfl) ?_
    rintro _ m4 ⟨s2, c2, hO2, rfl, hR4, h4⟩
    obtain ⟨-, rfl⟩ := oR_one hO hO2
    exact ⟨by rw [hz], inv_back hI1 e3 h19 h17 h4 hR4⟩
  refine kCall_mono (c_X3_isAsSaved X m2 (by omega)) (Nat.le_of_ble_eq_true rfl) ?_
  rintro _ m3 ⟨hr, rfl⟩
  have hq : (∀ i : Int, 0 ≤ i → i < ((nC X * 8 : Nat) : Int) → m3 19 i = m3 21 i) ↔ rows19 w d l m1 c' := by
    constructor
    · intro h n x hn hx
      have hr8 := row8 hn hx
      have h1 := h (n * (w * d * l) + x) hr8.1 (by omega)
      rw [hS2.1 n x hn hx, hf 19 (by unfold scr; omega)] at h1
      exact h1
    · intro h i h0 h1
      obtain ⟨n, x, hn, hx, rfl⟩ := cell8 (w := w) (d := d) (l := l) (by omega) ⟨h0, by omega⟩
      rw [hS2.1 n x hn hx, hf 19 (by unfold scr; omega)]
      exact h n x hn hx
  rcases hr with ⟨hall, rfl⟩ | ⟨hall, rfl⟩
  · refine kCall_mono (c_back X hN hS2) (Nat.le_of_ble_eq_true rfl) ?_
    rintro _ m4 ⟨rfl, b1, b2, b3⟩
    exact hT _ _ ⟨Or.inr rfl, 1, rfl, hz 1 (by rw [iv_t (hq.mp hall)]) m4 b1 b2 b3⟩
  · refine kCall_mono (c_back X hN hS2) (Nat.le_of_ble_eq_true rfl) ?_
    rintro _ m4 ⟨rfl, b1, b2, b3⟩
    exact hT _ _ ⟨Or.inl rfl, 0, rfl, hz 0 (by rw [iv_f (fun z => hall (hq.mpr z))]) m4 b1 b2 b3⟩
