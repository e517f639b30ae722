/-! PIN alike -/
/-- the first pin in a cell, in the reference -/
theorem c_X12_pinOn (X : Xv) (m : Mem) (c : Int) (h8 : 0 ≤ m 54 26 ∧ m 54 26 ≤ 8) (hp : ∀ n, (0 ≤ n ∧ n < 8) → 0 ≤ m 63 n ∧ m 63 n ≤ 4) : kCall (eX X) 1 M_X12_pinOn.1 [vR 54, vI c] m (fun r m' => ((r = some (vI (-1)) ∧ ∀ n p : Int, (0 ≤ n ∧ n < m 54 26) → (0 ≤ p ∧ p < m 63 n) → m 64 (4 * n + p) ≠ c) ∨ (∃ n p : Int, (0 ≤ n ∧ n < m 54 26) ∧ (0 ≤ p ∧ p < m 63 n) ∧ m 64 (4 * n + p) = c ∧ r = some (vI (4 * n + p)))) ∧ m' = m) := by
  refine kCall_ofT ok_X12_pinOn rfl (Nat.le_of_ble_eq_true rfl) (fun T hT => ?_)
  have outer : ∀ (q : Nat) (n : Int) (x3 : Option AV), n + q = m 54 26 → 0 ≤ n → (∀ n' p : Int, (0 ≤ n' ∧ n' < n) → (0 ≤ p ∧ p < m 63 n') → m 64 (4 * n' + p) ≠ c) → kW (eX X) 0 M_X12_pinOn T 1 [some (vR 54), some (vI c), some (vI n), x3] [] m := by
    intro q
    induction q with
    | zero =>
      intro n x3 hnq h0 hno
      refine kW_go ok_X12_pinOn [1, 2] 20 ?_
      refine And.intro (fun _ => hT _ _ ⟨Or.inl ⟨rfl, fun n' p hn' hp' => hno n' p (by omega) hp'⟩, rfl⟩) (fun h => ?_)
      have h : n < m 54 26 := h
      omega
    | succ q ih =>
      intro n x3 hnq h0 hno
      have hn8 : 0 ≤ n ∧ n < 8 := by omega
      have hnb : 0 ≤ n ∧ n < ((8 : Nat) : Int) := hn8
      have hpn := hp n hn8
      have inner : ∀ (k : Nat) (p : Int), p + k = m 63 n → 0 ≤ p → (∀ p' : Int, (0 ≤ p' ∧ p' < p) → m 64 (4 * n + p') ≠ c) → kW (eX X) 0 M_X12_pinOn T 2 [some (vR 54), some (vI c), some (vI n), some (vI p)] [] m := by
        intro k
        induction k with
        | zero =>
          intro p hpk hp0 hnp
          refine kW_go ok_X12_pinOn [1, 2] 20 ?_
          refine ⟨hnb, And.intro (fun _ => ⟨by constructor <;> omega, ih (n + 1) _ (by omega) (by omega) (fun n' p' hn' hp' => ?_)⟩) (fun h => ?_)⟩
          · by_cases e : n' = n
            · rw [e] at hp' ⊢; exact hnp p' (by omega)
            · exact hno n' p' (by omega) hp'
          · have h : p < m 63 n := h
            omega
        | succ k ihk =>
          intro p hpk hp0 hnp
          have hix : 0 ≤ 4 * n + p ∧ 4 * n + p < ((32 : Nat) : Int) := by omega
          refine kW_go ok_X12_pinOn [1, 2] 20 ?_
          refine ⟨hnb, And.intro (fun h => ?_) (fun _ => ⟨by constructor <;> omega, by constructor <;> omega, hix, And.intro (fun h => ⟨by constructor <;> omega, ihk (p + 1) (by omega) (by omega) (fun p' hp' => ?_)⟩) (fun h => ⟨by constructor <;> omega, by constructor <;> omega, hT _ _ ⟨Or.inr ⟨n, p, by omega, by omega, h, rfl⟩, rfl⟩⟩)⟩)⟩
          · have h : m 63 n ≤ p := h
            omega
          · by_cases e : p' = p
            · rw [e]; exact h
            · exact hnp p' (by omega)
      refine kW_go ok_X12_pinOn [2] 20 ?_
      refine And.intro (fun h => ?_) (fun _ => inner (m 63 n).toNat 0 (by omega) (by omega) (fun p' hp' => by omega))
      have h : m 54 26 ≤ n := h
      omega
  refine kW_go ok_X12_pinOn [1] 20 ?_
  exact outer (m 54 26).toNat 0 none (by omega) (by omega) (fun n' p hn' => by omega)
/-- a pin can come there -/
def pnOk (w d l : Int) (m : Mem) (n x y z : Int) : Prop := (0 ≤ n ∧ n < m 9 14) ∧ ((0 ≤ x ∧ x < w) ∧ (0 ≤ y ∧ y < d) ∧ (0 ≤ z ∧ z < l)) ∧ m 13 n < 4 ∧ ∀ n' p : Int, (0 ≤ n' ∧ n' < m 9 14) → (0 ≤ p ∧ p < m 13 n') → m 14 (n' * 4 + p) ≠ ix w d x y z
theorem c_X11_pin (X : Xv) (m : Mem) {w d l : Int} (hB : Bd X w d l m) (hW : WM w d l m) (n x y z : Int) : kCall (eX X) 3 M_X11_pin.1 [vR 0, vI n, vI x, vI y, vI z] m (fun r m' => (pnOk w d l m n x y z ∧ r = some (vI (m 13 n)) ∧ m' = mset (mset (mset m 14 (n * 4 + m 13 n) (ix w d x y z)) 13 n (m 13 n + 1)) 16 (ix w d x y z) (kor (m 16 (ix w d x y z)) (kshl 1 n))) ∨ (¬ pnOk w d l m n x y z ∧ r = some (vI (-1)) ∧ m' = m)) := by
  obtain ⟨hD, hN, hG⟩ := hB
  have h8 := hW.1.2.1
  refine kCall_ofT ok_X11_pin rfl (Nat.le_of_ble_eq_true rfl) (fun T hT => ?_)
  have hno : ¬ pnOk w d l m n x y z → T (some (vI (-1))) m := fun h => hT _ _ (Or.inr ⟨h, rfl, rfl⟩)
  refine kW_go ok_X11_pin [] 20 ?_
  refine kCall_mono (c_X2_cellAt X m hD hG x y z) (Nat.le_of_ble_eq_true rfl) ?_
  rintro _ m ⟨rfl, rfl⟩
  refine kCall_mono (c_X11_isNet X m n) (Nat.le_of_ble_eq_true rfl) ?_
  rintro _ m ⟨rfl, rfl⟩
  refine And.intro (fun h => hno (fun q => b2i_0.mp h q.1)) (fun h => ?_)
  have hnn := b2i_n.mp h
  have hn8 : 0 ≤ n ∧ n < 8 := by omega
  by_cases hc : (0 ≤ x ∧ x < w) ∧ (0 ≤ y ∧ y < d) ∧ (0 ≤ z ∧ z < l)
  · have hi := ix_in (w := w) (d := d) (l := l) hc.1 hc.2.1 hc.2.2
    have e : cAt w d l x y z = ix w d x y z := if_pos hc
    have hib : 0 ≤ ix w d x y z ∧ ix w d x y z < (nC X : Int) := by obtain ⟨a, b⟩ := hi; omega
    have hp13 := (hW.2.1.1 n hn8).1
    rw [e]
    refine And.intro (fun h2 => absurd h2 (by omega)) (fun _ => ?_)
    refine kCall_mono (c_X3_hasPin X m (ix w d x y z) h8 (fun n h0 h1 => (hW.2.1.1 n ⟨h0, h1⟩).1)) (Nat.le_of_ble_eq_true rfl) ?_
    rintro _ m3 ⟨hr, rfl⟩
    rcases hr with ⟨⟨n', p, a, b, q⟩, rfl⟩ | ⟨hall, rfl⟩
    · exact And.intro (fun _ => hno (fun t => t.2.2.2 n' p a b q)) (fun h => absurd h (by decide))
    · refine And.intro (fun h => absurd rfl h) (fun _ => ⟨hn8, And.intro (fun h4 => ?_) (fun h4 => hno (fun t => ?_))⟩)
      · have h4 : m3 13 n < 4 := h4
        refine kCall_mono (c_X3_addPin X m3 n (ix w d x y z) (m3 13 n) hn8 hib rfl (by omega)) (Nat.le_of_ble_eq_true rfl) ?_
        rintro _ m4 ⟨rfl, rfl⟩
        exact hT _ _ (Or.inl ⟨⟨hnn, hc, h4, hall⟩, rfl, rfl⟩)
      · have h4 : 4 ≤ m3 13 n := h4
        have := t.2.2.1
        omega
  · have e : cAt w d l x y z = -1 := if_neg hc
    rw [e]
    exact And.intro (fun _ => hno (fun q => hc q.2.1)) (fun h2 => absurd rfl h2)
theorem c_X12_pin (X : Xv) (c m : Mem) {w d l : Int} (hD : okD w d l) (hW : WM w d l c) (hR : RR0 w d l c m) (n x y z : Int) : kCall (eX X) 3 M_X12_pin.1 [vR 54, vI n, vI x, vI y, vI z] m (fun r m' => (pnOk w d l c n x y z ∧ r = some (vI (c 13 n)) ∧ m' = mset (mset (mset m 64 (4 * n + c 13 n) (cR w d (ix w d x y z))) 63 n (c 13 n + 1)) 72 (324 * n + cR w d (ix w d x y z)) (kor (m 72 (324 * n + cR w d (ix w d x y z))) 1)) ∨ (¬ pnOk w d l c n x y z ∧ r = some (vI (-1)) ∧ m' = m)) := by
  have h8 := hW.1.2.1
  have h26 : m 54 26 = c 9 14 := hR.1.2.2.2.1.1
  obtain ⟨⟨u1, u2⟩, ⟨u3, u4⟩, u5, u6⟩ := id hD
  have h63 : ∀ n, (0 ≤ n ∧ n < 8) → m 63 n = c 13 n := fun n hn => (hR.1.2.2.2.2.1 n hn).2.1
  refine kCall_ofT ok_X12_pin rfl (Nat.le_of_ble_eq_true rfl) (fun T hT => ?_)
  have hno : ¬ pnOk w d l c n x y z → T (some (vI (-1))) m := fun h => hT _ _ (Or.inr ⟨h, rfl, rfl⟩)
  refine kW_go ok_X12_pin [2] 20 ?_
  refine kCall_mono (c_X12_isNet X m n (by omega)) (Nat.le_of_ble_eq_true rfl) ?_
  rintro _ m ⟨rfl, rfl⟩
  rw [h26]
  refine And.intro (fun h => hno (fun q => b2i_0.mp h q.1)) (fun h => ?_)
  have hnn := b2i_n.mp h
  have hn8 : 0 ≤ n ∧ n < 8 := by omega
  have hnb : 0 ≤ n ∧ n < ((8 : Nat) : Int) := hn8
  refine kCall_mono (c_X12_isCell X m hR.1.1 x y z) (Nat.le_of_ble_eq_true rfl) ?_
  rintro _ m ⟨rfl, rfl⟩
  refine And.intro (fun h => hno (fun q => b2i_0.mp h q.2.1)) (fun h => ?_)
  have hc := b2i_n.mp h
  have hx := ix_in (w := w) (d := d) (l := l) hc.1 hc.2.1 hc.2.2
  have hcr : cR w d (ix w d x y z) = 81 * z + 9 * y + x := cR_ix (l := l) hc.1 hc.2.1
  have hg := (cR_geo hD hx).1
  have h13 := (hW.2.1.1 n hn8).1
  have e63 := h63 n hn8
  refine ⟨hnb, And.intro (fun h4 => hno (fun q => ?_)) (fun h4 => ?_)⟩
  · have h4 : m 63 n = 4 := h4
    have := q.2.2.1
    omega
  have h4 : m 63 n ≠ 4 := h4
  refine kCall_mono (c_X12_cell (eX X) m x y z (by omega) (by omega) (by omega)) (Nat.le_of_ble_eq_true rfl) ?_
  rintro _ m ⟨rfl, rfl⟩
  rw [← hcr]
  refine kCall_mono (c_X12_pinOn X m (cR w d (ix w d x y z)) (by omega) (fun n' hn' => by rw [h63 n' hn']; exact (hW.2.1.1 n' hn').1)) (Nat.le_of_ble_eq_true rfl) ?_
  have hpin : ∀ n' p : Int, (0 ≤ n' ∧ n' < 8) → (0 ≤ p ∧ p < c 13 n') → (m 64 (4 * n' + p) = cR w d (ix w d x y z) ↔ c 14 (n' * 4 + p) = ix w d x y z) := by
    intro n' p hn' hp'
    rw [(hR.1.2.2.2.2.1 n' hn').2.2 p hp']
    exact ⟨fun q => cR_inj hD (hW.2.1.2.1 n' p hn' hp') hx q, fun q => by rw [q]⟩
  rintro _ m3 ⟨hr, rfl⟩
  rcases hr with ⟨rfl, hall⟩ | ⟨n', p, a, b, q, rfl⟩
  · refine And.intro (fun _ => ?_) (fun h => absurd rfl h)
    have hq : pnOk w d l c n x y z := ⟨hnn, hc, by omega, fun n' p hn' hp' q => hall n' p (by omega) (by rw [h63 n' (by omega)]; exact hp') ((hpin n' p (by omega) hp').mpr q)⟩
    have hcell := fun mm : Mem => c_X12_cell (eX X) mm x y z (by omega) (by omega) (by omega)
    rw [← hcr] at hcell
    refine kW_go ok_X12_pin [] 20 ?_
    refine ⟨show inR (4 * n) by constructor <;> omega, hnb, show inR (4 * n + m3 63 n) by constructor <;> omega, ?_⟩
    refine kCall_mono (hcell m3) (Nat.le_of_ble_eq_true rfl) ?_
    rintro _ m4 ⟨rfl, rfl⟩
    show (0 ≤ 4 * n + m4 63 n ∧ 4 * n + m4 63 n < ((32 : Nat) : Int)) ∧ (0 ≤ n ∧ n < ((8 : Nat) : Int)) ∧ inR (mset m4 64 (4 * n + m4 63 n) (cR w d (ix w d x y z)) 63 n + 1) ∧ (0 ≤ n ∧ n < ((8 : Nat) : Int)) ∧ inR (324 * n) ∧ _
    rw [k_mset_ne (show (63 : Nat) ≠ 64 by decide), e63]
    refine ⟨by omega, hnb, by constructor <;> omega, hnb, by constructor <;> omega, ?_⟩
    refine kCall_mono (hcell _) (Nat.le_of_ble_eq_true rfl) ?_
    rintro _ m5 ⟨rfl, rfl⟩
    show inR (324 * n + cR w d (ix w d x y z)) ∧ (0 ≤ 324 * n + cR w d (ix w d x y z) ∧ 324 * n + cR w d (ix w d x y z) < ((2592 : Nat) : Int)) ∧ (0 ≤ 324 * n + cR w d (ix w d x y z) ∧ 324 * n + cR w d (ix w d x y z) < ((2592 : Nat) : Int)) ∧ (0 ≤ n ∧ n < ((8 : Nat) : Int)) ∧ _
    refine ⟨by constructor <;> omega, by omega, by omega, hnb, ?_⟩
    have hM : ∀ v, mset (mset (mset m4 64 (4 * n + c 13 n) (cR w d (ix w d x y z))) 63 n (c 13 n + 1)) 72 (324 * n + cR w d (ix w d x y z)) v 63 n = c 13 n + 1 := fun v => by rw [k_mset_ne (by decide), k_mset_at, if_pos rfl]
    show inR (mset (mset (mset m4 64 (4 * n + c 13 n) (cR w d (ix w d x y z))) 63 n (c 13 n + 1)) 72 (324 * n + cR w d (ix w d x y z)) (kor (mset (mset m4 64 (4 * n + c 13 n) (cR w d (ix w d x y z))) 63 n (c 13 n + 1) 72 (324 * n + cR w d (ix w d x y z))) 1) 63 n - 1) ∧ T (some (vI (mset (mset (mset m4 64 (4 * n + c 13 n) (cR w d (ix w d x y z))) 63 n (c 13 n + 1)) 72 (324 * n + cR w d (ix w d x y z)) (kor (mset (mset m4 64 (4 * n + c 13 n) (cR w d (ix w d x y z))) 63 n (c 13 n + 1) 72 (324 * n + cR w d (ix w d x y z))) 1) 63 n - 1))) (mset (mset (mset m4 64 (4 * n + c 13 n) (cR w d (ix w d x y z))) 63 n (c 13 n + 1)) 72 (324 * n + cR w d (ix w d x y z)) (kor (mset (mset m4 64 (4 * n + c 13 n) (cR w d (ix w d x y z))) 63 n (c 13 n + 1) 72 (324 * n + cR w d (ix w d x y z))) 1))
    rw [hM, k_mset_ne (show (72 : Nat) ≠ 63 by decide), k_mset_ne (show (72 : Nat) ≠ 64 by decide), show c 13 n + 1 - 1 = c 13 n by omega]
    exact ⟨by constructor <;> omega, hT _ _ (Or.inl ⟨hq, rfl, rfl⟩)⟩
  · refine And.intro (fun h => absurd h (by omega)) (fun _ => hno (fun t => ?_))
    rw [h63 n' (by omega)] at b
    exact t.2.2.2 n' p (by omega) b ((hpin n' p (by omega) b).mp q)
