/-! HOLE alike -/
set_option maxRecDepth 100000 in
theorem c_X12_addWire (X : Xv) (m : Mem) (n a b : Int) (hn : 0 ≤ n ∧ n < 8) (ha : 0 ≤ a ∧ a < 324) (hb : 0 ≤ b ∧ b < 324) (hab : a ≠ b) (hq : 0 ≤ m 65 n ∧ m 65 n < 1200) : kCall (eX X) 2 M_X12_addWire.1 [vR 54, vI n, vI a, vI b] m (fun r m' => r = none ∧ addW n a b m m') := by
  refine kCall_ofT ok_X12_addWire rfl (Nat.le_of_ble_eq_true rfl) (fun T hT => ?_)
  have hnb : 0 ≤ n ∧ n < ((8 : Nat) : Int) := hn
  have tail : ∀ m1 : Mem, m1 72 = m 72 → (∀ o, o ≠ 65 → o ≠ 66 → o ≠ 67 → o ≠ 72 → m1 o = m o) → ((wrR m n (min a b) (max a b) ∧ m1 65 = m 65 ∧ m1 66 = m 66 ∧ m1 67 = m 67) ∨ (¬ wrR m n (min a b) (max a b) ∧ (∀ j, m1 65 j = if j = n then m 65 n + 1 else m 65 j) ∧ (∀ j, m1 66 j = if j = 1200 * n + m 65 n then min a b else m 66 j) ∧ ∀ j, m1 67 j = if j = 1200 * n + m 65 n then max a b else m 67 j)) → kW (eX X) 1 M_X12_addWire T 1 [some (vR 54), some (vI n), some (vI a), some (vI b), some (vI (min a b)), some (vI (max a b))] [] m1 := by
    intro m1 h72 h1 h2
    refine kW_go ok_X12_addWire [] 20 ?_
    refine ⟨by constructor <;> omega, by constructor <;> omega, by omega, by omega, by constructor <;> omega, by constructor <;> omega, by omega, by omega, hT _ _ ⟨rfl, ?_⟩⟩
    refine ⟨fun o p q r s => by rw [k_mset_ne s, k_mset_ne s]; exact h1 o p q r s, ?_, fun j => ?_⟩
    · rw [k_mset_ne (show (65 : Nat) ≠ 72 by decide), k_mset_ne (show (65 : Nat) ≠ 72 by decide), k_mset_ne (show (66 : Nat) ≠ 72 by decide), k_mset_ne (show (66 : Nat) ≠ 72 by decide), k_mset_ne (show (67 : Nat) ≠ 72 by decide), k_mset_ne (show (67 : Nat) ≠ 72 by decide)]
      exact h2
    · rw [k_mset_at, k_mset_at, k_mset_at, if_neg (show ¬ 324 * n + b = 324 * n + a by omega), h72]
      by_cases e1 : j = 324 * n + b
      · rw [if_pos e1, if_pos (Or.inr e1), e1]
      · rw [if_neg e1]
        by_cases e2 : j = 324 * n + a
        · rw [if_pos e2, if_pos (Or.inl e2), e2]
        · rw [if_neg e2, if_neg (fun q => q.elim e2 e1)]
  refine kW_go ok_X12_addWire [1] 20 ?_
  refine kCall_mono (c_X12_hasWire X m n (min a b) (max a b) hn (by omega)) (Nat.le_of_ble_eq_true rfl) ?_
  rintro _ m1 ⟨hr, rfl⟩
  rcases hr with ⟨hw, rfl⟩ | ⟨hw, rfl⟩
  · exact And.intro (fun _ => tail m1 rfl (fun _ _ _ _ _ => rfl) (Or.inl ⟨hw, rfl, rfl, rfl⟩)) (fun h => absurd h (by decide))
  · refine And.intro (fun h => absurd rfl h) (fun _ => ?_)
    have hix : 0 ≤ 1200 * n + m1 65 n ∧ 1200 * n + m1 65 n < ((9600 : Nat) : Int) := by omega
    show inR (1200 * n) ∧ (0 ≤ n ∧ n < ((8 : Nat) : Int)) ∧ inR (1200 * n + m1 65 n) ∧ (0 ≤ 1200 * n + m1 65 n ∧ 1200 * n + m1 65 n < ((9600 : Nat) : Int)) ∧ inR (1200 * n) ∧ (0 ≤ n ∧ n < ((8 : Nat) : Int)) ∧ inR (1200 * n + mset m1 66 (1200 * n + m1 65 n) (min a b) 65 n) ∧ _
    rw [k_mset_ne (show (65 : Nat) ≠ 66 by decide)]
    refine ⟨by constructor <;> omega, hnb, by constructor <;> omega, hix, by constructor <;> omega, hnb, by constructor <;> omega, ?_⟩
    show (0 ≤ 1200 * n + mset m1 66 (1200 * n + m1 65 n) (min a b) 65 n ∧ 1200 * n + mset m1 66 (1200 * n + m1 65 n) (min a b) 65 n < ((9600 : Nat) : Int)) ∧ (0 ≤ n ∧ n < ((8 : Nat) : Int)) ∧ inR (mset (mset m1 66 (1200 * n + m1 65 n) (min a b)) 67 (1200 * n + mset m1 66 (1200 * n + m1 65 n) (min a b) 65 n) (max a b) 65 n + 1) ∧ (0 ≤ n ∧ n < ((8 : Nat) : Int)) ∧ kW (eX X) 1 M_X12_addWire T 1 [some (vR 54), some (vI n), some (vI a), some (vI b), some (vI (min a b)), some (vI (max a b))] [] (mset (mset (mset m1 66 (1200 * n + m1 65 n) (min a b)) 67 (1200 * n + mset m1 66 (1200 * n + m1 65 n) (min a b) 65 n) (max a b)) 65 n (mset (mset m1 66 (1200 * n + m1 65 n) (min a b)) 67 (1200 * n + mset m1 66 (1200 * n + m1 65 n) (min a b) 65 n) (max a b) 65 n + 1))
    simp only [k_mset_ne (show (65 : Nat) ≠ 66 by decide), k_mset_ne (show (65 : Nat) ≠ 67 by decide)]
    refine ⟨hix, hnb, by constructor <;> omega, hnb, tail _ ?_ (fun o p q r s => ?_) (Or.inr ⟨hw, fun j => ?_, fun j => ?_, fun j => ?_⟩)⟩
    · rw [k_mset_ne (by decide), k_mset_ne (by decide), k_mset_ne (by decide)]
    · rw [k_mset_ne p, k_mset_ne r, k_mset_ne q]
    · rw [k_mset_at, k_mset_ne (by decide), k_mset_ne (by decide)]
    · rw [k_mset_ne (by decide), k_mset_ne (by decide), k_mset_at]
    · rw [k_mset_ne (by decide), k_mset_at, k_mset_ne (by decide)]
/-- where a hole can come -/
def hlOk (w d l : Int) (m : Mem) (n x y z : Int) : Prop := (0 ≤ n ∧ n < m 9 14) ∧ ((0 ≤ x ∧ x < w) ∧ (0 ≤ y ∧ y < d) ∧ (0 ≤ z ∧ z < l)) ∧ z + 1 < l
theorem c_X11_hole (X : Xv) (m : Mem) {w d l : Int} (hB : Bd X w d l m) (h8 : m 9 14 ≤ 8) (n x y z : Int) : kCall (eX X) 3 M_X11_hole.1 [vR 0, vI n, vI x, vI y, vI z] m (fun r m' => (hlOk w d l m n x y z ∧ r = some (vI 1) ∧ m' = jn 18 16 (n * (w * d * l)) n (ix w d x y z) 4 (nx w d l (ix w d x y z) 4) m) ∨ (¬ hlOk w d l m n x y z ∧ r = some (vI 0) ∧ m' = m)) := by
  obtain ⟨hD, hN, hG⟩ := id hB
  have hc3 := okD_cells hD
  refine kCall_ofT ok_X11_hole rfl (Nat.le_of_ble_eq_true rfl) (fun T hT => ?_)
  have hno : ¬ hlOk w d l m n x y z → T (some (vI 0)) m := fun h => hT _ _ ⟨Or.inl rfl, Or.inr ⟨h, rfl, rfl⟩⟩
  refine kW_go ok_X11_hole [] 20 ?_
  refine kCall_mono (c_X2_cellAt X m hD hG x y z) (Nat.le_of_ble_eq_true rfl) ?_
  rintro _ m ⟨rfl, rfl⟩
  refine kCall_mono (c_X11_isNet X m n) (Nat.le_of_ble_eq_true rfl) ?_
  rintro _ m ⟨rfl, rfl⟩
  refine And.intro (fun h => hno (fun q => b2i_0.mp h q.1)) (fun h => ?_)
  have hnn := b2i_n.mp h
  have hn8 : 0 ≤ n ∧ n < 8 := by omega
  by_cases hc : (0 ≤ x ∧ x < w) ∧ (0 ≤ y ∧ y < d) ∧ (0 ≤ z ∧ z < l)
  · have hi := ix_in (w := w) (d := d) (l := l) hc.1 hc.2.1 hc.2.2
    have e : cAt w d l x y z = ix w d x y z := if_pos hc
    have hl4 : l ≤ 4 := hD.2.2.2
    rw [e]
    refine And.intro (fun h2 => absurd h2 (by have := hi.1; omega)) (fun _ => ?_)
    show inR (z + 1) ∧ (z + 1 < m 1 2 → _) ∧ (m 1 2 ≤ z + 1 → T (some (vI 0)) m)
    rw [hG.2.2.1]
    refine ⟨by constructor <;> omega, fun hz => ?_, fun hz => hno (fun q => by have := q.2.2; omega)⟩
    have hi' : 0 ≤ ix w d x y z ∧ ix w d x y z < (nC X : Int) := by obtain ⟨a, b⟩ := hi; omega
    have hnx := hG.2.2.2.2.2 _ hi |>.2.2.2 4 (by decide) (by decide)
    refine kCall_mono (c_X3_addWire X m n (ix w d x y z) 4 1 (by omega) (by rw [hG.2.2.2.2.1]; omega) hn8 (Or.inr hi') (by decide) (fun u hu => ?_) (by decide)) (Nat.le_of_ble_eq_true rfl) ?_
    · have hu' : inC w d l u := ⟨hu.1, by omega⟩
      rw [hG.2.2.2.2.2 u hu' |>.2.2.2 4 (by decide) (by decide)]
      by_cases hq : nx w d l u 4 = -1
      · exact Or.inl hq
      · have := (nx_in hq).1
        exact Or.inr ⟨this.1, by have := this.2; omega⟩
    · rintro _ m2 ⟨rfl, rfl⟩
      refine hT _ _ ⟨Or.inr rfl, Or.inl ⟨⟨hnn, hc, hz⟩, rfl, ?_⟩⟩
      have hne : nx w d l (ix w d x y z) 4 ≠ -1 := nx_of (by rw [ix_X hc.1, ix_Y hc.1 hc.2.1, ix_Z hc.1 hc.2.1, show dX 4 = 0 from rfl, show dY 4 = 0 from rfl, show dZ 4 = 1 from rfl]; omega)
      show (if ix w d x y z = -1 then m else if m 2 (ix w d x y z * 6 + 4) = -1 then m else wJ (nC X) n 4 0 (m 2 (ix w d x y z * 6 + 4)) (jn 18 16 (n * (nC X : Int)) n (ix w d x y z) 4 (m 2 (ix w d x y z * 6 + 4)) m)) = _
      rw [hnx, if_neg (by omega), if_neg hne, ← hN]
      rfl
  · have e : cAt w d l x y z = -1 := if_neg hc
    rw [e]
    exact And.intro (fun _ => hno (fun q => hc q.2.1)) (fun h2 => absurd rfl h2)
theorem c_X12_hole (X : Xv) (c m : Mem) {w d l : Int} (hD : okD w d l) (hW : WF w d l c) (hR : RR w d l c m) (n x y z : Int) : kCall (eX X) 3 M_X12_hole.1 [vR 54, vI n, vI x, vI y, vI z] m (fun r m' => (hlOk w d l c n x y z ∧ r = some (vI 1) ∧ addW n (cR w d (ix w d x y z)) (cR w d (nx w d l (ix w d x y z) 4)) m m') ∨ (¬ hlOk w d l c n x y z ∧ r = some (vI 0) ∧ m' = m)) := by
  have h8 := hW.1.2.1
  have h26 : m 54 26 = c 9 14 := hR.1.2.2.2.1.1
  obtain ⟨⟨u1, u2⟩, ⟨u3, u4⟩, u5, u6⟩ := id hD
  refine kCall_ofT ok_X12_hole rfl (Nat.le_of_ble_eq_true rfl) (fun T hT => ?_)
  have hno : ¬ hlOk w d l c n x y z → T (some (vI 0)) m := fun h => hT _ _ ⟨Or.inl rfl, Or.inr ⟨h, rfl, rfl⟩⟩
  refine kW_go ok_X12_hole [] 20 ?_
  refine kCall_mono (c_X12_isNet X m n (by omega)) (Nat.le_of_ble_eq_true rfl) ?_
  rintro _ m ⟨rfl, rfl⟩
  rw [h26]
  refine And.intro (fun h => hno (fun q => b2i_0.mp h q.1)) (fun h => ?_)
  have hnn := b2i_n.mp h
  have hn8 : 0 ≤ n ∧ n < 8 := by omega
  refine kCall_mono (c_X12_isCell X m hR.1.1 x y z) (Nat.le_of_ble_eq_true rfl) ?_
  rintro _ m ⟨rfl, rfl⟩
  refine And.intro (fun h => hno (fun q => b2i_0.mp h q.2.1)) (fun h => ?_)
  have hc := b2i_n.mp h
  refine ⟨by constructor <;> omega, ?_⟩
  refine kCall_mono (c_X12_isCell X m hR.1.1 x y (z + 1)) (Nat.le_of_ble_eq_true rfl) ?_
  rintro _ m ⟨rfl, rfl⟩
  refine And.intro (fun h => ?_) (fun h => hno (fun q => b2i_0.mp h ⟨hc.1, hc.2.1, by omega, q.2.2⟩))
  have hz := (b2i_n.mp h).2.2.2
  have hi := ix_in (w := w) (d := d) (l := l) hc.1 hc.2.1 hc.2.2
  have hcr : cR w d (ix w d x y z) = 81 * z + 9 * y + x := cR_ix (l := l) hc.1 hc.2.1
  have hne : nx w d l (ix w d x y z) 4 ≠ -1 := nx_of (by rw [ix_X hc.1, ix_Y hc.1 hc.2.1, ix_Z hc.1 hc.2.1, show dX 4 = 0 from rfl, show dY 4 = 0 from rfl, show dZ 4 = 1 from rfl]; omega)
  have hnx : cR w d (nx w d l (ix w d x y z) 4) = 81 * (z + 1) + 9 * y + x := by
    have := (nx_in hne).2
    unfold cR
    rw [this.1, this.2.1, this.2.2, ix_X hc.1, ix_Y hc.1 hc.2.1, ix_Z hc.1 hc.2.1, show dX 4 = 0 from rfl, show dY 4 = 0 from rfl, show dZ 4 = 1 from rfl]
    omega
  refine kCall_mono (c_X12_cell (eX X) m x y z (by omega) (by omega) (by omega)) (Nat.le_of_ble_eq_true rfl) ?_
  rintro _ m ⟨rfl, rfl⟩
  refine ⟨by constructor <;> omega, ?_⟩
  refine kCall_mono (c_X12_cell (eX X) m x y (z + 1) (by omega) (by omega) (by omega)) (Nat.le_of_ble_eq_true rfl) ?_
  rintro _ m ⟨rfl, rfl⟩
  have hq := (hR.2.1 n hn8).1.1
  have hq9 := okL_le hD hq
  refine kCall_mono (c_X12_addWire X m n (81 * z + 9 * y + x) (81 * (z + 1) + 9 * y + x) hn8 (by omega) (by omega) (by omega) ⟨hq.1, by omega⟩) (Nat.le_of_ble_eq_true rfl) ?_
  rintro _ m2 ⟨rfl, hA⟩
  exact hT _ _ ⟨Or.inr rfl, Or.inl ⟨⟨hnn, hc, hz⟩, rfl, by rw [hcr, hnx]; exact hA⟩⟩
theorem pair_hole (X : Xv) (m : Mem) {w d l : Int} (hI : Inv X w d l m) (n x y z : Int) : kPair X 139 212 [vI n, vI x, vI y, vI z] m (Inv X w d l) := by
  obtain ⟨hB, hl, hW, hR, h60, h31⟩ := id hI
  have hD := hB.1
  refine kp2 (k1 := 3) (k2 := 3) (by decide) (by decide) (kCall_mono (c_X11_hole X m hB hW.1.2.1.2 n x y z) (Nat.le_refl _) ?_)
  rintro _ m1 (⟨h, rfl, hm1⟩ | ⟨h, rfl, rfl⟩)
  · have f : ∀ o, o ≠ 16 → o ≠ 18 → m1 o = m o := fun o a b => by rw [hm1]; exact jn_ne b a
    have hR1 : RR w d l m m1 := RR_ref (fun o a _ => f o (by omega) (by omega)) hR
    refine ⟨1, rfl, kCall_mono (c_X12_hole X m m1 hD hW hR1 n x y z) (Nat.le_refl _) ?_⟩
    rintro _ m2 (⟨-, rfl, hA⟩ | ⟨h2, -⟩)
    · obtain ⟨hnn, hc, hz⟩ := id h
      have hi := ix_in (w := w) (d := d) (l := l) hc.1 hc.2.1 hc.2.2
      have hne : nx w d l (ix w d x y z) 4 ≠ -1 := nx_of (by rw [ix_X hc.1, ix_Y hc.1 hc.2.1, ix_Z hc.1 hc.2.1, show dX 4 = 0 from rfl, show dY 4 = 0 from rfl, show dZ 4 = 1 from rfl]; omega)
      have h8 := hW.1.2.1
      obtain ⟨hW', hR'⟩ := wire_step hD ⟨hnn.1, by omega⟩ hnn.2 hi (k := 4) (by decide) hne hW hR1 hA
      rw [← hm1] at hW' hR'
      exact ⟨rfl, inv_mk (m1 := m1) (c' := m1) hI (fun o a b => f o (by omega) (by omega)) Es_rf hW' (by rw [f 6 (by decide) (by decide)]) (f 31 (by decide) (by decide)) (fun o ho => hA.1 o (by omega) (by omega) (by omega) (by omega)) hR'⟩
    · exact absurd h h2
  · refine ⟨0, rfl, kCall_mono (c_X12_hole X m1 m1 hD hW hR n x y z) (Nat.le_refl _) ?_⟩
    rintro _ m2 (⟨h2, -⟩ | ⟨-, rfl, rfl⟩)
    · exact absurd h2 h
    · exact ⟨rfl, hI⟩
