/-! FREE, both sides -/
def freeA (w d l : Int) (c : Mem) (n x y z : Int) (r : Option AV) : Prop :=
  (¬ ((0 ≤ n ∧ n < c 9 14) ∧ (0 ≤ x ∧ x < w) ∧ (0 ≤ y ∧ y < d) ∧ (0 ≤ z ∧ z < l)) ∧ r = some (vI (-1))) ∨
  (((0 ≤ n ∧ n < c 9 14) ∧ (0 ≤ x ∧ x < w) ∧ (0 ≤ y ∧ y < d) ∧ (0 ≤ z ∧ z < l)) ∧ ((frG w d l c n 0 (ix w d x y z) ∧ r = some (vI 1)) ∨ (¬ frG w d l c n 0 (ix w d x y z) ∧ r = some (vI 0))))
theorem c_X11_free (X : Xv) (m : Mem) {w d l : Int} (hD : okD w d l) (hn : w * d * l = (nC X : Int)) (hG : gridC m w d l) (hs : srt m) (n x y z : Int) : kCall (eX X) 5 M_X11_free.1 [vR 0, vI n, vI x, vI y, vI z] m (fun r m' => freeA w d l m n x y z r ∧ ∀ o, o < 22 ∨ 27 < o → m' o = m o) := by
  obtain ⟨⟨w1, w2⟩, ⟨d1, d2⟩, l1, l2⟩ := id hD
  refine kCall_ofT ok_X11_free rfl (Nat.le_of_ble_eq_true rfl) (fun T hT => ?_)
  have hno : ¬ ((0 ≤ n ∧ n < m 9 14) ∧ (0 ≤ x ∧ x < w) ∧ (0 ≤ y ∧ y < d) ∧ (0 ≤ z ∧ z < l)) → T (some (vI (-1))) m := fun h => hT _ _ ⟨Or.inl ⟨h, rfl⟩, fun _ _ => rfl⟩
  refine kW_go ok_X11_free [] 20 ?_
  refine kCall_mono (c_X2_cellAt X m hD hG x y z) (Nat.le_of_ble_eq_true rfl) ?_
  rintro _ m ⟨rfl, rfl⟩
  refine kCall_mono (c_X11_isNet X m n) (Nat.le_of_ble_eq_true rfl) ?_
  rintro _ m ⟨rfl, rfl⟩
  refine And.intro (fun h => hno (fun q => b2i_0.mp h q.1)) (fun h => ?_)
  have hnn := b2i_n.mp h
  by_cases hc : (0 ≤ x ∧ x < w) ∧ (0 ≤ y ∧ y < d) ∧ (0 ≤ z ∧ z < l)
  · have hi := ix_in (w := w) (d := d) (l := l) hc.1 hc.2.1 hc.2.2
    have e : cAt w d l x y z = ix w d x y z := if_pos hc
    rw [e]
    have hib : 0 ≤ ix w d x y z ∧ ix w d x y z < (nC X : Int) := by obtain ⟨a, b⟩ := hi; omega
    refine And.intro (fun _ => ?_) (fun h2 => absurd h2 (by omega))
    refine kCall_mono (kCall_in (c_X6_look X m hD hn hG hs n 1 hnn)) (Nat.le_of_ble_eq_true rfl) ?_
    rintro _ m2 ⟨⟨rfl, hf, h22, h26, hb⟩, hin⟩
    have e11 : m2 11 = m 11 := hf 11 (by decide) (by decide) (by decide) (by decide) (by decide)
    refine kCall_mono (c_X6_mark X m2 hD hn (gridC_same hG (fun o o1 o2 => hf o (by omega) (by omega) (by omega) (by omega) (by omega))) 0 n h22.1 (by have := hs.1; omega) (by rw [e11]; exact (hs.2 n hnn).1)) (Nat.le_of_ble_eq_true rfl) ?_
    rintro _ m3 ⟨rfl, f3, h27⟩
    have hfr := frC_frG (X := X) (m := m) (m' := m2) hD hn hs hin hnn (hf 10 (by decide) (by decide) (by decide) (by decide) (by decide)) e11 (hf 15 (by decide) (by decide) (by decide) (by decide) (by decide)) h22.1 (fun c hc => by rw [h26 c hc, if_neg (by decide)]) hb _ hi
    have hframe : ∀ o, o < 22 ∨ 27 < o → m3 o = m o := fun o ho => by rw [f3 o (by omega), hf o (by omega) (by omega) (by omega) (by omega) (by omega)]
    refine ⟨hib, ?_⟩
    by_cases hq : frG w d l m n 0 (ix w d x y z)
    · exact hT _ _ ⟨Or.inr ⟨⟨hnn, hc⟩, Or.inl ⟨hq, congrArg (fun v => some (vI v)) ((h27 _ hi).1 (hfr.mpr hq))⟩⟩, hframe⟩
    · exact hT _ _ ⟨Or.inr ⟨⟨hnn, hc⟩, Or.inr ⟨hq, congrArg (fun v => some (vI v)) ((h27 _ hi).2 (fun z => hq (hfr.mp z)))⟩⟩, hframe⟩
  · have e : cAt w d l x y z = -1 := if_neg hc
    rw [e]
    exact And.intro (fun h2 => absurd rfl h2) (fun _ => hno (fun q => hc q.2))
theorem c_X12_free (X : Xv) (c m : Mem) {w d l : Int} (hD : okD w d l) (hs : srt c) (hr : RelF w d l c m) (n x y z : Int) : kCall (eX X) 5 M_X12_free.1 [vR 54, vI n, vI x, vI y, vI z] m (fun r m' => freeA w d l c n x y z r ∧ m' = m) := by
  have h26 := hr.2.1
  have ha := hs.1
  refine kCall_ofT ok_X12_free rfl (Nat.le_of_ble_eq_true rfl) (fun T hT => ?_)
  have hno : ¬ ((0 ≤ n ∧ n < c 9 14) ∧ (0 ≤ x ∧ x < w) ∧ (0 ≤ y ∧ y < d) ∧ (0 ≤ z ∧ z < l)) → T (some (vI (-1))) m := fun h => hT _ _ ⟨Or.inl ⟨h, rfl⟩, rfl⟩
  refine kW_go ok_X12_free [] 20 ?_
  refine kCall_mono (c_X12_isNet X m n (by omega)) (Nat.le_of_ble_eq_true rfl) ?_
  rintro _ m ⟨rfl, rfl⟩
  rw [h26]
  refine And.intro (fun h => hno (fun q => b2i_0.mp h q.1)) (fun h => ?_)
  have hnn := b2i_n.mp h
  refine kCall_mono (c_X12_isCell X m hr.1 x y z) (Nat.le_of_ble_eq_true rfl) ?_
  rintro _ m ⟨rfl, rfl⟩
  refine And.intro (fun h => hno (fun q => b2i_0.mp h q.2)) (fun h => ?_)
  have hc := b2i_n.mp h
  have hi := ix_in (w := w) (d := d) (l := l) hc.1 hc.2.1 hc.2.2
  obtain ⟨⟨w1, w2⟩, ⟨d1, d2⟩, l1, l2⟩ := id hD
  refine kCall_mono (c_X12_cell _ m x y z (by omega) (by omega) (by omega)) (Nat.le_of_ble_eq_true rfl) ?_
  rintro _ m ⟨rfl, rfl⟩
  have hcr : cR w d (ix w d x y z) = 81 * z + 9 * y + x := cR_ix (l := l) hc.1 hc.2.1
  rw [← hcr]
  have hso := hr.2.2.1
  refine kCall_mono (c_X12_isFree X m hr.1 n _ 0 (by omega) (by omega) (cR_in hD hi).1 (fun o ho => ?_)) (Nat.le_of_ble_eq_true rfl) ?_
  · rw [h26] at ho
    have h1 := hso o ho
    have h2 := hs.2 o ho
    rw [h1.2.1, h1.1]
    exact ⟨⟨h2.1.1, by omega⟩, h2.2⟩
  · rintro _ m ⟨⟨hp, rfl⟩ | ⟨hp, rfl⟩, rfl⟩
    · rw [frR_frG hD hs hr hnn hi] at hp
      exact And.intro (fun h => absurd h (by decide)) (fun _ => hT _ _ ⟨Or.inr ⟨⟨hnn, hc⟩, Or.inl ⟨hp, rfl⟩⟩, rfl⟩)
    · rw [frR_frG hD hs hr hnn hi] at hp
      exact And.intro (fun _ => hT _ _ ⟨Or.inr ⟨⟨hnn, hc⟩, Or.inr ⟨hp, rfl⟩⟩, rfl⟩) (fun h => absurd rfl h)
