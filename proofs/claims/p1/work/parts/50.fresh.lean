/-! small methods of both sides -/
theorem b2i_0 {p : Prop} [Decidable p] : b2i p = 0 ↔ ¬ p := by
  by_cases h : p
  · simp [b2i, h]
  · simp [b2i, h]
theorem b2i_n {p : Prop} [Decidable p] : ¬ b2i p = 0 ↔ p := by
  by_cases h : p
  · simp [b2i, h]
  · simp [b2i, h]
theorem b2i_01 (p : Prop) [Decidable p] : b2i p = 0 ∨ b2i p = 1 := by
  by_cases h : p
  · exact Or.inr (b2i_t h)
  · exact Or.inl (b2i_f h)
theorem c_X11_isNet (X : Xv) (m : Mem) (n : Int) : kCall (eX X) 1 M_X11_isNet.1 [vR 0, vI n] m (cP (b2i (0 ≤ n ∧ n < m 9 14)) m) := by
  refine kCall_of ok_X11_isNet rfl (Nat.le_of_ble_eq_true rfl) ?_
  refine kW_go ok_X11_isNet [] 10 ?_
  refine And.intro (fun h1 => ?_) (fun h1 => And.intro (fun h2 => ?_) (fun h2 => ?_))
  · rw [b2i_f (by omega)]
    exact ⟨Or.inl rfl, rfl, rfl⟩
  · have h2 : m 9 14 ≤ n := h2
    rw [b2i_f (by omega)]
    exact ⟨Or.inl rfl, rfl, rfl⟩
  · have h2 : n < m 9 14 := h2
    rw [b2i_t (by omega)]
    exact ⟨Or.inr rfl, rfl, rfl⟩
theorem c_X11_isLayer (X : Xv) (m : Mem) (n : Int) : kCall (eX X) 1 M_X11_isLayer.1 [vR 0, vI n] m (cP (b2i (0 ≤ n ∧ n < m 1 2)) m) := by
  refine kCall_of ok_X11_isLayer rfl (Nat.le_of_ble_eq_true rfl) ?_
  refine kW_go ok_X11_isLayer [] 10 ?_
  refine And.intro (fun h1 => ?_) (fun h1 => And.intro (fun h2 => ?_) (fun h2 => ?_))
  · rw [b2i_f (by omega)]
    exact ⟨Or.inl rfl, rfl, rfl⟩
  · have h2 : m 1 2 ≤ n := h2
    rw [b2i_f (by omega)]
    exact ⟨Or.inl rfl, rfl, rfl⟩
  · have h2 : n < m 1 2 := h2
    rw [b2i_t (by omega)]
    exact ⟨Or.inr rfl, rfl, rfl⟩
theorem c_X11_arePressing (E : Ev) (m : Mem) (a b : Int) : kCall E 1 M_X11_arePressing.1 [vI a, vI b] m (cP (b2i ((1 ≤ a ∧ a ≤ 20) ∧ (1 ≤ b ∧ b ≤ 20))) m) := by
  refine kCall_of ok_X11_arePressing rfl (Nat.le_of_ble_eq_true rfl) ?_
  refine kW_go ok_X11_arePressing [] 10 ?_
  refine And.intro (fun h1 => ?_) (fun h1 => And.intro (fun h2 => ?_) (fun h2 => And.intro (fun h3 => ?_) (fun h3 => And.intro (fun h4 => ?_) (fun h4 => ?_))))
  · rw [b2i_f (by omega)]; exact ⟨Or.inl rfl, rfl, rfl⟩
  · rw [b2i_f (by omega)]; exact ⟨Or.inl rfl, rfl, rfl⟩
  · rw [b2i_f (by omega)]; exact ⟨Or.inl rfl, rfl, rfl⟩
  · rw [b2i_f (by omega)]; exact ⟨Or.inl rfl, rfl, rfl⟩
  · rw [b2i_t (by omega)]; exact ⟨Or.inr rfl, rfl, rfl⟩
/-- the cell at a place, or -1 -/
def cAt (w d l x y z : Int) : Int := if (0 ≤ x ∧ x < w) ∧ (0 ≤ y ∧ y < d) ∧ (0 ≤ z ∧ z < l) then ix w d x y z else -1
theorem c_X2_cellAt (X : Xv) (m : Mem) {w d l : Int} (hD : okD w d l) (hG : gridC m w d l) (x y z : Int) : kCall (eX X) 1 M_X2_cellAt.1 [vR 1, vI x, vI y, vI z] m (cP (cAt w d l x y z) m) := by
  obtain ⟨g0, g1, g2, g3, -⟩ := hG
  have hff := okD_floor hD
  refine kCall_of ok_X2_cellAt rfl (Nat.le_of_ble_eq_true rfl) ?_
  refine kW_go ok_X2_cellAt [] 10 ?_
  have hno : ¬ ((0 ≤ x ∧ x < w) ∧ (0 ≤ y ∧ y < d) ∧ (0 ≤ z ∧ z < l)) → k_T (some .int) (cP (cAt w d l x y z) m) (some (vI (-1))) m := by
    intro h
    unfold cAt
    rw [if_neg h]
    exact ⟨rfl, rfl⟩
  refine And.intro (fun h1 => hno (by omega)) (fun h1 => And.intro (fun h2 => hno ?_) (fun h2 => And.intro (fun h3 => hno (by omega)) (fun h3 => And.intro (fun h4 => hno ?_) (fun h4 => And.intro (fun h5 => hno (by omega)) (fun h5 => And.intro (fun h6 => ?_) (fun h6 => hno ?_))))))
  · have h2 : m 1 0 ≤ x := h2
    omega
  · have h4 : m 1 1 ≤ y := h4
    omega
  · have h2 : x < m 1 0 := h2
    have h4 : y < m 1 1 := h4
    have h6 : z < m 1 2 := h6
    obtain ⟨⟨w1, w2⟩, ⟨d1, d2⟩, l1, l2⟩ := id hD
    have e1 := mb (a := z) (b := w * d) (A := 4) (B := 81) (by omega) (by omega)
    have e2 := mb (a := y) (b := w) (A := 9) (B := 9) (by omega) (by omega)
    show inR (z * m 1 3) ∧ inR (y * m 1 0) ∧ inR (z * m 1 3 + y * m 1 0) ∧ inR (z * m 1 3 + y * m 1 0 + x) ∧ k_T (some .int) (cP (cAt w d l x y z) m) (some (vI (z * m 1 3 + y * m 1 0 + x))) m
    rw [g3, g0]
    refine ⟨by constructor <;> omega, by constructor <;> omega, by constructor <;> omega, by constructor <;> omega, ?_⟩
    unfold cAt
    rw [if_pos (by omega)]
    exact ⟨rfl, rfl⟩
  · have h6 : m 1 2 ≤ z := h6
    omega
theorem c_X12_isNet (X : Xv) (m : Mem) (n : Int) (hn : 0 ≤ m 54 26 ∧ m 54 26 ≤ 8) : kCall (eX X) 2 M_X12_isNet.1 [vR 54, vI n] m (cP (b2i (0 ≤ n ∧ n < m 54 26)) m) := by
  refine kCall_of ok_X12_isNet rfl (Nat.le_of_ble_eq_true rfl) ?_
  refine kW_go ok_X12_isNet [] 10 ?_
  show inR (m 54 26 - 1) ∧ _
  refine ⟨by constructor <;> omega, ?_⟩
  refine kCall_mono (c_X12_in _ m n 0 (m 54 26 - 1)) (Nat.le_of_ble_eq_true rfl) ?_
  rintro _ m ⟨rfl, rfl⟩
  have e : b2i (0 ≤ n ∧ n ≤ m 54 26 - 1) = b2i (0 ≤ n ∧ n < m 54 26) := by
    by_cases h : 0 ≤ n ∧ n < m 54 26
    · rw [b2i_t h, b2i_t (by omega)]
    · rw [b2i_f h, b2i_f (by omega)]
  show k_T (some .boolean) (cP (b2i (0 ≤ n ∧ n < m 54 26)) m) (some (vI (b2i (0 ≤ n ∧ n ≤ m 54 26 - 1)))) m
  rw [e]
  exact ⟨b2i_01 _, rfl, rfl⟩
/-! on a new object: no classes, no nets -/
def noN (m : Mem) : Prop := m 9 13 = 0 ∧ m 9 14 = 0
def noR (m : Mem) : Prop := m 54 13 = 0 ∧ m 54 26 = 0
theorem f_isNet (X : Xv) (m : Mem) (h : noN m) (n : Int) : kCall (eX X) 1 M_X11_isNet.1 [vR 0, vI n] m (cP 0 m) := by
  have := c_X11_isNet X m n
  rwa [b2i_f (by have := h.2; omega)] at this
theorem f_isNetR (X : Xv) (m : Mem) (h : noR m) (n : Int) : kCall (eX X) 2 M_X12_isNet.1 [vR 54, vI n] m (cP 0 m) := by
  have := c_X12_isNet X m n (by have := h.2; omega)
  rwa [b2i_f (by have := h.2; omega)] at this
theorem f_isStretched (X : Xv) (m : Mem) (h : noR m) (n : Int) : kCall (eX X) 3 M_X12_isStretched.1 [vR 54, vI n] m (cP 0 m) := by
  refine kCall_of ok_X12_isStretched rfl (Nat.le_of_ble_eq_true rfl) ?_
  refine kW_go ok_X12_isStretched [] 10 ?_
  refine kCall_mono (f_isNetR X m h n) (Nat.le_of_ble_eq_true rfl) ?_
  rintro _ _ ⟨rfl, rfl⟩
  exact And.intro (fun _ => ⟨Or.inl rfl, rfl, rfl⟩) (fun h => absurd rfl h)
theorem f_areNets (X : Xv) (m : Mem) (h : noN m) (n : Int) (hn : inR n) : kCall (eX X) 1 M_X11_areNets.1 [vR 0, vI n] m (cP 0 m) := by
  refine kCall_of ok_X11_areNets rfl (Nat.le_of_ble_eq_true rfl) ?_
  refine kW_go ok_X11_areNets [] 10 ?_
  refine And.intro (fun _ => ⟨Or.inl rfl, rfl, rfl⟩) (fun h1 => ?_)
  show inR (kshl 1 (m 9 14) - 1) ∧ ((¬ kand n (kxor (kshl 1 (m 9 14) - 1) (-1)) = 0 → _) ∧ (kand n (kxor (kshl 1 (m 9 14) - 1) (-1)) = 0 → _))
  rw [h.2]
  have e1 : kshl 1 0 - 1 = 0 := by decide +kernel
  have e2 : kxor 0 (-1) = -1 := by decide +kernel
  have e3 : kand n (-1) = n := bt_ext (k_in_kand _ _) hn (fun k hk => by rw [bt_and, bt_neg1 hk, Bool.and_true])
  rw [e1, e2, e3]
  exact ⟨k_inR0, fun _ => ⟨Or.inl rfl, rfl, rfl⟩, fun h => absurd h h1⟩
theorem f_X11_lay (X : Xv) (m : Mem) (h : noN m) (a : Int) : kCall (eX X) 5 M_X11_lay.1 [vR 0, vI a] m (cP (-1) m) := by
  refine kCall_of ok_X11_lay rfl (Nat.le_of_ble_eq_true rfl) ?_
  refine kW_go ok_X11_lay [] 20 ?_
  refine kCall_mono (f_isNet X _ h a) (Nat.le_of_ble_eq_true rfl) ?_
  rintro _ _ ⟨rfl, rfl⟩
  exact And.intro (fun _ => ⟨rfl, rfl⟩) (fun h => absurd rfl h)
theorem f_X11_cost (X : Xv) (m : Mem) (h : noN m) (a b : Int) : kCall (eX X) 5 M_X11_cost.1 [vR 0, vI a, vI b] m (cP (-1) m) := by
  refine kCall_of ok_X11_cost rfl (Nat.le_of_ble_eq_true rfl) ?_
  refine kW_go ok_X11_cost [] 20 ?_
  refine kCall_mono (f_isNet X _ h a) (Nat.le_of_ble_eq_true rfl) ?_
  rintro _ _ ⟨rfl, rfl⟩
  exact And.intro (fun _ => ⟨rfl, rfl⟩) (fun h => absurd rfl h)
theorem f_X11_rip (X : Xv) (m : Mem) (h : noN m) (a : Int) : kCall (eX X) 5 M_X11_rip.1 [vR 0, vI a] m (cP 0 m) := by
  refine kCall_of ok_X11_rip rfl (Nat.le_of_ble_eq_true rfl) ?_
  refine kW_go ok_X11_rip [] 20 ?_
  refine kCall_mono (f_isNet X _ h a) (Nat.le_of_ble_eq_true rfl) ?_
  rintro _ _ ⟨rfl, rfl⟩
  exact And.intro (fun _ => ⟨Or.inl rfl, rfl, rfl⟩) (fun h => absurd rfl h)
theorem f_X11_rank (X : Xv) (m : Mem) (h : noN m) (a b : Int) : kCall (eX X) 5 M_X11_rank.1 [vR 0, vI a, vI b] m (cP 0 m) := by
  refine kCall_of ok_X11_rank rfl (Nat.le_of_ble_eq_true rfl) ?_
  refine kW_go ok_X11_rank [] 20 ?_
  refine kCall_mono (f_isNet X _ h a) (Nat.le_of_ble_eq_true rfl) ?_
  rintro _ _ ⟨rfl, rfl⟩
  exact And.intro (fun _ => ⟨Or.inl rfl, rfl, rfl⟩) (fun h => absurd rfl h)
theorem f_X11_cut (X : Xv) (m : Mem) (h : noN m) (a b : Int) : kCall (eX X) 5 M_X11_cut.1 [vR 0, vI a, vI b] m (cP (-1) m) := by
  refine kCall_of ok_X11_cut rfl (Nat.le_of_ble_eq_true rfl) ?_
  refine kW_go ok_X11_cut [] 20 ?_
  refine kCall_mono (f_isNet X _ h a) (Nat.le_of_ble_eq_true rfl) ?_
  rintro _ _ ⟨rfl, rfl⟩
  exact And.intro (fun _ => ⟨rfl, rfl⟩) (fun h => absurd rfl h)
theorem f_X11_bars (X : Xv) (m : Mem) (h : noN m) (a : Int) : kCall (eX X) 5 M_X11_bars.1 [vR 0, vI a] m (cP (-1) m) := by
  refine kCall_of ok_X11_bars rfl (Nat.le_of_ble_eq_true rfl) ?_
  refine kW_go ok_X11_bars [] 20 ?_
  refine kCall_mono (f_isNet X _ h a) (Nat.le_of_ble_eq_true rfl) ?_
  rintro _ _ ⟨rfl, rfl⟩
  exact And.intro (fun _ => ⟨rfl, rfl⟩) (fun h => absurd rfl h)
theorem f_X11_stretch (X : Xv) (m : Mem) (h : noN m) (a b : Int) : kCall (eX X) 5 M_X11_stretch.1 [vR 0, vI a, vI b] m (cP (-1) m) := by
  refine kCall_of ok_X11_stretch rfl (Nat.le_of_ble_eq_true rfl) ?_
  refine kW_go ok_X11_stretch [] 20 ?_
  refine kCall_mono (f_isNet X _ h a) (Nat.le_of_ble_eq_true rfl) ?_
  rintro _ _ ⟨rfl, rfl⟩
  exact And.intro (fun _ => ⟨rfl, rfl⟩) (fun h => absurd rfl h)
theorem f_X11_span (X : Xv) (m : Mem) (h : noN m) (a : Int) : kCall (eX X) 5 M_X11_span.1 [vR 0, vI a] m (cP (-1) m) := by
  refine kCall_of ok_X11_span rfl (Nat.le_of_ble_eq_true rfl) ?_
  refine kW_go ok_X11_span [] 20 ?_
  refine kCall_mono (f_isNet X _ h a) (Nat.le_of_ble_eq_true rfl) ?_
  rintro _ _ ⟨rfl, rfl⟩
  exact And.intro (fun _ => ⟨rfl, rfl⟩) (fun h => absurd rfl h)
theorem f_X11_plane (X : Xv) (m : Mem) (h : noN m) (a b c : Int) : kCall (eX X) 5 M_X11_plane.1 [vR 0, vI a, vI b, vI c] m (cP (-1) m) := by
  refine kCall_of ok_X11_plane rfl (Nat.le_of_ble_eq_true rfl) ?_
  refine kW_go ok_X11_plane [] 20 ?_
  refine kCall_mono (f_isNet X _ h a) (Nat.le_of_ble_eq_true rfl) ?_
  rintro _ _ ⟨rfl, rfl⟩
  exact And.intro (fun _ => ⟨rfl, rfl⟩) (fun h => absurd rfl h)
theorem f_X11_spokes (X : Xv) (m : Mem) (h : noN m) (a b : Int) : kCall (eX X) 5 M_X11_spokes.1 [vR 0, vI a, vI b] m (cP (-1) m) := by
  refine kCall_of ok_X11_spokes rfl (Nat.le_of_ble_eq_true rfl) ?_
  refine kW_go ok_X11_spokes [] 20 ?_
  refine kCall_mono (f_isNet X _ h a) (Nat.le_of_ble_eq_true rfl) ?_
  rintro _ _ ⟨rfl, rfl⟩
  exact And.intro (fun _ => ⟨rfl, rfl⟩) (fun h => absurd rfl h)
theorem f_X11_back (X : Xv) (m : Mem) (h : noN m) (a b c : Int) : kCall (eX X) 5 M_X11_back.1 [vR 0, vI a, vI b, vI c] m (cP (-1) m) := by
  refine kCall_of ok_X11_back rfl (Nat.le_of_ble_eq_true rfl) ?_
  refine kW_go ok_X11_back [] 20 ?_
  refine kCall_mono (f_isNet X _ h a) (Nat.le_of_ble_eq_true rfl) ?_
  rintro _ _ ⟨rfl, rfl⟩
  exact And.intro (fun _ => ⟨rfl, rfl⟩) (fun h => absurd rfl h)
theorem f_X11_delay (X : Xv) (m : Mem) (h : noN m) (a : Int) : kCall (eX X) 5 M_X11_delay.1 [vR 0, vI a] m (cP (-1) m) := by
  refine kCall_of ok_X11_delay rfl (Nat.le_of_ble_eq_true rfl) ?_
  refine kW_go ok_X11_delay [] 20 ?_
  refine kCall_mono (f_isNet X _ h a) (Nat.le_of_ble_eq_true rfl) ?_
  rintro _ _ ⟨rfl, rfl⟩
  exact And.intro (fun _ => ⟨rfl, rfl⟩) (fun h => absurd rfl h)
theorem f_X11_pair (X : Xv) (m : Mem) (h : noN m) (a b c : Int) : kCall (eX X) 5 M_X11_pair.1 [vR 0, vI a, vI b, vI c] m (cP (-1000) m) := by
  refine kCall_of ok_X11_pair rfl (Nat.le_of_ble_eq_true rfl) ?_
  refine kW_go ok_X11_pair [] 20 ?_
  refine kCall_mono (f_isNet X _ h a) (Nat.le_of_ble_eq_true rfl) ?_
  rintro _ _ ⟨rfl, rfl⟩
  exact And.intro (fun _ => ⟨rfl, rfl⟩) (fun h => absurd rfl h)
theorem f_X11_why (X : Xv) (m : Mem) (h : noN m) (a : Int) : kCall (eX X) 5 M_X11_why.1 [vR 0, vI a] m (cP (-1) m) := by
  refine kCall_of ok_X11_why rfl (Nat.le_of_ble_eq_true rfl) ?_
  refine kW_go ok_X11_why [] 20 ?_
  refine kCall_mono (f_isNet X _ h a) (Nat.le_of_ble_eq_true rfl) ?_
  rintro _ _ ⟨rfl, rfl⟩
  exact And.intro (fun _ => ⟨rfl, rfl⟩) (fun h => absurd rfl h)
theorem f_X11_unwire (X : Xv) (m : Mem) (h : noN m) (a : Int) : kCall (eX X) 5 M_X11_unwire.1 [vR 0, vI a] m (cP 0 m) := by
  refine kCall_of ok_X11_unwire rfl (Nat.le_of_ble_eq_true rfl) ?_
  refine kW_go ok_X11_unwire [] 20 ?_
  refine kCall_mono (f_isNet X _ h a) (Nat.le_of_ble_eq_true rfl) ?_
  rintro _ _ ⟨rfl, rfl⟩
  exact And.intro (fun _ => ⟨Or.inl rfl, rfl, rfl⟩) (fun h => absurd rfl h)
theorem f_X11_about (X : Xv) (m : Mem) (h : noN m) (a b : Int) : kCall (eX X) 5 M_X11_about.1 [vR 0, vI a, vI b] m (cP (-1) m) := by
  refine kCall_of ok_X11_about rfl (Nat.le_of_ble_eq_true rfl) ?_
  refine kW_go ok_X11_about [] 20 ?_
  refine kCall_mono (f_isNet X _ h a) (Nat.le_of_ble_eq_true rfl) ?_
  rintro _ _ ⟨rfl, rfl⟩
  exact And.intro (fun h => absurd rfl h) (fun _ => ⟨rfl, rfl⟩)
theorem f_X11_together (X : Xv) (m : Mem) (h : noN m) (a : Int) (ha : inR a) : kCall (eX X) 5 M_X11_together.1 [vR 0, vI a] m (cP (-1) m) := by
  refine kCall_of ok_X11_together rfl (Nat.le_of_ble_eq_true rfl) ?_
  refine kW_go ok_X11_together [] 20 ?_
  refine kCall_mono (f_areNets X _ h a ha) (Nat.le_of_ble_eq_true rfl) ?_
  rintro _ _ ⟨rfl, rfl⟩
  exact And.intro (fun _ => ⟨rfl, rfl⟩) (fun h => absurd rfl h)
theorem f_X11_equal (X : Xv) (m : Mem) (h : noN m) (a b : Int) (ha : inR a) : kCall (eX X) 5 M_X11_equal.1 [vR 0, vI a, vI b] m (cP (-1) m) := by
  refine kCall_of ok_X11_equal rfl (Nat.le_of_ble_eq_true rfl) ?_
  refine kW_go ok_X11_equal [] 20 ?_
  refine kCall_mono (f_areNets X _ h a ha) (Nat.le_of_ble_eq_true rfl) ?_
  rintro _ _ ⟨rfl, rfl⟩
  exact And.intro (fun _ => ⟨rfl, rfl⟩) (fun h => absurd rfl h)
theorem f_X11_pin (X : Xv) (m : Mem) (h : noN m) {w d l : Int} (hD : okD w d l) (hG : gridC m w d l) (a b c d : Int) : kCall (eX X) 5 M_X11_pin.1 [vR 0, vI a, vI b, vI c, vI d] m (cP (-1) m) := by
  refine kCall_of ok_X11_pin rfl (Nat.le_of_ble_eq_true rfl) ?_
  refine kW_go ok_X11_pin [] 20 ?_
  refine kCall_mono (c_X2_cellAt X _ hD hG b c d) (Nat.le_of_ble_eq_true rfl) ?_
  rintro _ _ ⟨rfl, rfl⟩
  refine kCall_mono (f_isNet X _ h a) (Nat.le_of_ble_eq_true rfl) ?_
  rintro _ _ ⟨rfl, rfl⟩
  exact And.intro (fun _ => ⟨rfl, rfl⟩) (fun h => absurd rfl h)
theorem f_X11_wire (X : Xv) (m : Mem) (h : noN m) {w d l : Int} (hD : okD w d l) (hG : gridC m w d l) (a b c d e f : Int) : kCall (eX X) 5 M_X11_wire.1 [vR 0, vI a, vI b, vI c, vI d, vI e, vI f] m (cP 0 m) := by
  refine kCall_of ok_X11_wire rfl (Nat.le_of_ble_eq_true rfl) ?_
  refine kW_go ok_X11_wire [] 20 ?_
  refine kCall_mono (c_X2_cellAt X _ hD hG b c f) (Nat.le_of_ble_eq_true rfl) ?_
  rintro _ _ ⟨rfl, rfl⟩
  refine kCall_mono (c_X2_cellAt X _ hD hG d e f) (Nat.le_of_ble_eq_true rfl) ?_
  rintro _ _ ⟨rfl, rfl⟩
  refine kCall_mono (f_isNet X _ h a) (Nat.le_of_ble_eq_true rfl) ?_
  rintro _ _ ⟨rfl, rfl⟩
  exact And.intro (fun _ => ⟨Or.inl rfl, rfl, rfl⟩) (fun h => absurd rfl h)
theorem f_X11_hole (X : Xv) (m : Mem) (h : noN m) {w d l : Int} (hD : okD w d l) (hG : gridC m w d l) (a b c d : Int) : kCall (eX X) 5 M_X11_hole.1 [vR 0, vI a, vI b, vI c, vI d] m (cP 0 m) := by
  refine kCall_of ok_X11_hole rfl (Nat.le_of_ble_eq_true rfl) ?_
  refine kW_go ok_X11_hole [] 20 ?_
  refine kCall_mono (c_X2_cellAt X _ hD hG b c d) (Nat.le_of_ble_eq_true rfl) ?_
  rintro _ _ ⟨rfl, rfl⟩
  refine kCall_mono (f_isNet X _ h a) (Nat.le_of_ble_eq_true rfl) ?_
  rintro _ _ ⟨rfl, rfl⟩
  exact And.intro (fun _ => ⟨Or.inl rfl, rfl, rfl⟩) (fun h => absurd rfl h)
theorem f_X11_free (X : Xv) (m : Mem) (h : noN m) {w d l : Int} (hD : okD w d l) (hG : gridC m w d l) (a b c d : Int) : kCall (eX X) 5 M_X11_free.1 [vR 0, vI a, vI b, vI c, vI d] m (cP (-1) m) := by
  refine kCall_of ok_X11_free rfl (Nat.le_of_ble_eq_true rfl) ?_
  refine kW_go ok_X11_free [] 20 ?_
  refine kCall_mono (c_X2_cellAt X _ hD hG b c d) (Nat.le_of_ble_eq_true rfl) ?_
  rintro _ _ ⟨rfl, rfl⟩
  refine kCall_mono (f_isNet X _ h a) (Nat.le_of_ble_eq_true rfl) ?_
  rintro _ _ ⟨rfl, rfl⟩
  exact And.intro (fun _ => ⟨rfl, rfl⟩) (fun h => absurd rfl h)
theorem f_X11_late (X : Xv) (m : Mem) (h : noN m) {w d l : Int} (hD : okD w d l) (hG : gridC m w d l) (a b c d e : Int) : kCall (eX X) 5 M_X11_late.1 [vR 0, vI a, vI b, vI c, vI d, vI e] m (cP (-1) m) := by
  refine kCall_of ok_X11_late rfl (Nat.le_of_ble_eq_true rfl) ?_
  refine kW_go ok_X11_late [] 20 ?_
  refine kCall_mono (c_X2_cellAt X _ hD hG c d e) (Nat.le_of_ble_eq_true rfl) ?_
  rintro _ _ ⟨rfl, rfl⟩
  refine kCall_mono (f_isNet X _ h a) (Nat.le_of_ble_eq_true rfl) ?_
  rintro _ _ ⟨rfl, rfl⟩
  exact And.intro (fun _ => ⟨rfl, rfl⟩) (fun h => absurd rfl h)
theorem f_X12_rip (X : Xv) (m : Mem) (h : noR m) (a : Int) : kCall (eX X) 5 M_X12_rip.1 [vR 54, vI a] m (cP 0 m) := by
  refine kCall_of ok_X12_rip rfl (Nat.le_of_ble_eq_true rfl) ?_
  refine kW_go ok_X12_rip [] 20 ?_
  refine kCall_mono (f_isNetR X _ h a) (Nat.le_of_ble_eq_true rfl) ?_
  rintro _ _ ⟨rfl, rfl⟩
  exact And.intro (fun _ => ⟨Or.inl rfl, rfl, rfl⟩) (fun h => absurd rfl h)
theorem f_X12_rank (X : Xv) (m : Mem) (h : noR m) (a b : Int) : kCall (eX X) 5 M_X12_rank.1 [vR 54, vI a, vI b] m (cP 0 m) := by
  refine kCall_of ok_X12_rank rfl (Nat.le_of_ble_eq_true rfl) ?_
  refine kW_go ok_X12_rank [] 20 ?_
  refine kCall_mono (f_isNetR X _ h a) (Nat.le_of_ble_eq_true rfl) ?_
  rintro _ _ ⟨rfl, rfl⟩
  exact And.intro (fun _ => ⟨Or.inl rfl, rfl, rfl⟩) (fun h => absurd rfl h)
theorem f_X12_cut (X : Xv) (m : Mem) (h : noR m) (a b : Int) : kCall (eX X) 5 M_X12_cut.1 [vR 54, vI a, vI b] m (cP (-1) m) := by
  refine kCall_of ok_X12_cut rfl (Nat.le_of_ble_eq_true rfl) ?_
  refine kW_go ok_X12_cut [] 20 ?_
  refine kCall_mono (f_isNetR X _ h a) (Nat.le_of_ble_eq_true rfl) ?_
  rintro _ _ ⟨rfl, rfl⟩
  exact And.intro (fun _ => ⟨rfl, rfl⟩) (fun h => absurd rfl h)
theorem f_X12_bars (X : Xv) (m : Mem) (h : noR m) (a : Int) : kCall (eX X) 5 M_X12_bars.1 [vR 54, vI a] m (cP (-1) m) := by
  refine kCall_of ok_X12_bars rfl (Nat.le_of_ble_eq_true rfl) ?_
  refine kW_go ok_X12_bars [] 20 ?_
  refine kCall_mono (f_isNetR X _ h a) (Nat.le_of_ble_eq_true rfl) ?_
  rintro _ _ ⟨rfl, rfl⟩
  exact And.intro (fun _ => ⟨rfl, rfl⟩) (fun h => absurd rfl h)
theorem f_X12_about (X : Xv) (m : Mem) (h : noR m) (a b : Int) : kCall (eX X) 5 M_X12_about.1 [vR 54, vI a, vI b] m (cP (-1) m) := by
  refine kCall_of ok_X12_about rfl (Nat.le_of_ble_eq_true rfl) ?_
  refine kW_go ok_X12_about [] 20 ?_
  refine kCall_mono (f_isNetR X _ h a) (Nat.le_of_ble_eq_true rfl) ?_
  rintro _ _ ⟨rfl, rfl⟩
  exact And.intro (fun _ => ⟨rfl, rfl⟩) (fun h => absurd rfl h)
theorem f_X12_plane (X : Xv) (m : Mem) (h : noR m) (a b c : Int) : kCall (eX X) 5 M_X12_plane.1 [vR 54, vI a, vI b, vI c] m (cP (-1) m) := by
  refine kCall_of ok_X12_plane rfl (Nat.le_of_ble_eq_true rfl) ?_
  refine kW_go ok_X12_plane [] 20 ?_
  refine kCall_mono (f_isNetR X _ h a) (Nat.le_of_ble_eq_true rfl) ?_
  rintro _ _ ⟨rfl, rfl⟩
  exact And.intro (fun _ => ⟨rfl, rfl⟩) (fun h => absurd rfl h)
theorem f_X12_spokes (X : Xv) (m : Mem) (h : noR m) (a b : Int) : kCall (eX X) 5 M_X12_spokes.1 [vR 54, vI a, vI b] m (cP (-1) m) := by
  refine kCall_of ok_X12_spokes rfl (Nat.le_of_ble_eq_true rfl) ?_
  refine kW_go ok_X12_spokes [] 20 ?_
  refine kCall_mono (f_isNetR X _ h a) (Nat.le_of_ble_eq_true rfl) ?_
  rintro _ _ ⟨rfl, rfl⟩
  exact And.intro (fun _ => ⟨rfl, rfl⟩) (fun h => absurd rfl h)
theorem f_X12_back (X : Xv) (m : Mem) (h : noR m) (a b c : Int) : kCall (eX X) 5 M_X12_back.1 [vR 54, vI a, vI b, vI c] m (cP (-1) m) := by
  refine kCall_of ok_X12_back rfl (Nat.le_of_ble_eq_true rfl) ?_
  refine kW_go ok_X12_back [] 20 ?_
  refine kCall_mono (f_isNetR X _ h a) (Nat.le_of_ble_eq_true rfl) ?_
  rintro _ _ ⟨rfl, rfl⟩
  exact And.intro (fun _ => ⟨rfl, rfl⟩) (fun h => absurd rfl h)
theorem f_X12_delay (X : Xv) (m : Mem) (h : noR m) (a : Int) : kCall (eX X) 5 M_X12_delay.1 [vR 54, vI a] m (cP (-1) m) := by
  refine kCall_of ok_X12_delay rfl (Nat.le_of_ble_eq_true rfl) ?_
  refine kW_go ok_X12_delay [] 20 ?_
  refine kCall_mono (f_isNetR X _ h a) (Nat.le_of_ble_eq_true rfl) ?_
  rintro _ _ ⟨rfl, rfl⟩
  exact And.intro (fun _ => ⟨rfl, rfl⟩) (fun h => absurd rfl h)
theorem f_X12_pair (X : Xv) (m : Mem) (h : noR m) (a b c : Int) : kCall (eX X) 5 M_X12_pair.1 [vR 54, vI a, vI b, vI c] m (cP (-1000) m) := by
  refine kCall_of ok_X12_pair rfl (Nat.le_of_ble_eq_true rfl) ?_
  refine kW_go ok_X12_pair [] 20 ?_
  refine kCall_mono (f_isNetR X _ h a) (Nat.le_of_ble_eq_true rfl) ?_
  rintro _ _ ⟨rfl, rfl⟩
  exact And.intro (fun _ => ⟨rfl, rfl⟩) (fun h => absurd rfl h)
theorem f_X12_why (X : Xv) (m : Mem) (h : noR m) (a : Int) : kCall (eX X) 5 M_X12_why.1 [vR 54, vI a] m (cP (-1) m) := by
  refine kCall_of ok_X12_why rfl (Nat.le_of_ble_eq_true rfl) ?_
  refine kW_go ok_X12_why [] 20 ?_
  refine kCall_mono (f_isNetR X _ h a) (Nat.le_of_ble_eq_true rfl) ?_
  rintro _ _ ⟨rfl, rfl⟩
  exact And.intro (fun _ => ⟨rfl, rfl⟩) (fun h => absurd rfl h)
theorem f_X12_unwire (X : Xv) (m : Mem) (h : noR m) (a : Int) : kCall (eX X) 5 M_X12_unwire.1 [vR 54, vI a] m (cP 0 m) := by
  refine kCall_of ok_X12_unwire rfl (Nat.le_of_ble_eq_true rfl) ?_
  refine kW_go ok_X12_unwire [] 20 ?_
  refine kCall_mono (f_isNetR X _ h a) (Nat.le_of_ble_eq_true rfl) ?_
  rintro _ _ ⟨rfl, rfl⟩
  exact And.intro (fun _ => ⟨Or.inl rfl, rfl, rfl⟩) (fun h => absurd rfl h)
theorem f_X12_pin (X : Xv) (m : Mem) (h : noR m) (a b c d : Int) : kCall (eX X) 5 M_X12_pin.1 [vR 54, vI a, vI b, vI c, vI d] m (cP (-1) m) := by
  refine kCall_of ok_X12_pin rfl (Nat.le_of_ble_eq_true rfl) ?_
  refine kW_go ok_X12_pin [] 20 ?_
  refine kCall_mono (f_isNetR X _ h a) (Nat.le_of_ble_eq_true rfl) ?_
  rintro _ _ ⟨rfl, rfl⟩
  exact And.intro (fun _ => ⟨rfl, rfl⟩) (fun h => absurd rfl h)
theorem f_X12_wire (X : Xv) (m : Mem) (h : noR m) (a b c d e f : Int) : kCall (eX X) 5 M_X12_wire.1 [vR 54, vI a, vI b, vI c, vI d, vI e, vI f] m (cP 0 m) := by
  refine kCall_of ok_X12_wire rfl (Nat.le_of_ble_eq_true rfl) ?_
  refine kW_go ok_X12_wire [] 20 ?_
  refine kCall_mono (f_isNetR X _ h a) (Nat.le_of_ble_eq_true rfl) ?_
  rintro _ _ ⟨rfl, rfl⟩
  exact And.intro (fun _ => ⟨Or.inl rfl, rfl, rfl⟩) (fun h => absurd rfl h)
theorem f_X12_hole (X : Xv) (m : Mem) (h : noR m) (a b c d : Int) : kCall (eX X) 5 M_X12_hole.1 [vR 54, vI a, vI b, vI c, vI d] m (cP 0 m) := by
  refine kCall_of ok_X12_hole rfl (Nat.le_of_ble_eq_true rfl) ?_
  refine kW_go ok_X12_hole [] 20 ?_
  refine kCall_mono (f_isNetR X _ h a) (Nat.le_of_ble_eq_true rfl) ?_
  rintro _ _ ⟨rfl, rfl⟩
  exact And.intro (fun _ => ⟨Or.inl rfl, rfl, rfl⟩) (fun h => absurd rfl h)
theorem f_X12_free (X : Xv) (m : Mem) (h : noR m) (a b c d : Int) : kCall (eX X) 5 M_X12_free.1 [vR 54, vI a, vI b, vI c, vI d] m (cP (-1) m) := by
  refine kCall_of ok_X12_free rfl (Nat.le_of_ble_eq_true rfl) ?_
  refine kW_go ok_X12_free [] 20 ?_
  refine kCall_mono (f_isNetR X _ h a) (Nat.le_of_ble_eq_true rfl) ?_
  rintro _ _ ⟨rfl, rfl⟩
  exact And.intro (fun _ => ⟨rfl, rfl⟩) (fun h => absurd rfl h)
theorem f_X12_late (X : Xv) (m : Mem) (h : noR m) (a b c d e : Int) : kCall (eX X) 5 M_X12_late.1 [vR 54, vI a, vI b, vI c, vI d, vI e] m (cP (-1) m) := by
  refine kCall_of ok_X12_late rfl (Nat.le_of_ble_eq_true rfl) ?_
  refine kW_go ok_X12_late [] 20 ?_
  refine kCall_mono (f_isNetR X _ h a) (Nat.le_of_ble_eq_true rfl) ?_
  rintro _ _ ⟨rfl, rfl⟩
  exact And.intro (fun _ => ⟨rfl, rfl⟩) (fun h => absurd rfl h)
theorem f_X12_lay (X : Xv) (m : Mem) (h : noR m) (a : Int) : kCall (eX X) 5 M_X12_lay.1 [vR 54, vI a] m (cP (-1) m) := by
  refine kCall_of ok_X12_lay rfl (Nat.le_of_ble_eq_true rfl) ?_
  refine kW_go ok_X12_lay [] 20 ?_
  refine kCall_mono (f_isNetR X _ h a) (Nat.le_of_ble_eq_true rfl) ?_
  rintro _ _ ⟨rfl, rfl⟩
  exact And.intro (fun h => absurd rfl h) (fun _ => ⟨rfl, rfl⟩)
theorem f_X12_cost (X : Xv) (m : Mem) (h : noR m) (a b : Int) : kCall (eX X) 5 M_X12_cost.1 [vR 54, vI a, vI b] m (cP (-1) m) := by
  refine kCall_of ok_X12_cost rfl (Nat.le_of_ble_eq_true rfl) ?_
  refine kW_go ok_X12_cost [] 20 ?_
  refine kCall_mono (f_isNetR X _ h a) (Nat.le_of_ble_eq_true rfl) ?_
  rintro _ _ ⟨rfl, rfl⟩
  exact And.intro (fun h => absurd rfl h) (fun _ => ⟨rfl, rfl⟩)
theorem f_X12_stretch (X : Xv) (m : Mem) (h : noR m) (a b : Int) : kCall (eX X) 5 M_X12_stretch.1 [vR 54, vI a, vI b] m (cP (-1) m) := by
  refine kCall_of ok_X12_stretch rfl (Nat.le_of_ble_eq_true rfl) ?_
  refine kW_go ok_X12_stretch [] 20 ?_
  refine kCall_mono (f_isStretched X _ h a) (Nat.le_of_ble_eq_true rfl) ?_
  rintro _ _ ⟨rfl, rfl⟩
  exact And.intro (fun _ => ⟨rfl, rfl⟩) (fun h => absurd rfl h)
theorem f_X12_span (X : Xv) (m : Mem) (h : noR m) (a : Int) : kCall (eX X) 5 M_X12_span.1 [vR 54, vI a] m (cP (-1) m) := by
  refine kCall_of ok_X12_span rfl (Nat.le_of_ble_eq_true rfl) ?_
  refine kW_go ok_X12_span [] 20 ?_
  refine kCall_mono (f_isStretched X _ h a) (Nat.le_of_ble_eq_true rfl) ?_
  rintro _ _ ⟨rfl, rfl⟩
  exact And.intro (fun h => absurd rfl h) (fun _ => ⟨rfl, rfl⟩)
theorem k_shr0 {a : Int} (ha : inR a) : kshr a 0 = a := by
  refine bt_ext (k_in_kshr _ _) ha (fun k hk => ?_)
  rw [bt_shr (by omega) (by omega)]
  simp [hk]
theorem f_X12_together (X : Xv) (m : Mem) (h : noR m) (a : Int) (ha : inR a) : kCall (eX X) 5 M_X12_together.1 [vR 54, vI a] m (cP (-1) m) := by
  refine kCall_of ok_X12_together rfl (Nat.le_of_ble_eq_true rfl) ?_
  refine kW_go ok_X12_together [] 20 ?_
  refine And.intro (fun _ => ⟨rfl, rfl⟩) (fun h1 => ?_)
  show (¬ kshr a (m 54 26) = 0 → _) ∧ (kshr a (m 54 26) = 0 → _)
  rw [h.2, k_shr0 ha]
  exact And.intro (fun _ => ⟨rfl, rfl⟩) (fun h2 => by omega)
theorem f_X12_equal (X : Xv) (m : Mem) (h : noR m) (a b : Int) (ha : inR a) : kCall (eX X) 5 M_X12_equal.1 [vR 54, vI a, vI b] m (cP (-1) m) := by
  refine kCall_of ok_X12_equal rfl (Nat.le_of_ble_eq_true rfl) ?_
  refine kW_go ok_X12_equal [] 20 ?_
  refine And.intro (fun _ => ⟨rfl, rfl⟩) (fun h1 => ?_)
  show (¬ kshr a (m 54 26) = 0 → _) ∧ (kshr a (m 54 26) = 0 → _)
  rw [h.2, k_shr0 ha]
  exact And.intro (fun _ => ⟨rfl, rfl⟩) (fun h2 => by omega)
