/-! KEEP, COPPER of the reference -/
theorem mset_self (m : Mem) (o : Nat) (i : Int) : mset m o i (m o i) = m := by
  funext p j
  by_cases hp : p = o
  · subst hp
    rw [k_mset_at]
    by_cases hj : j = i
    · rw [if_pos hj, hj]
    · rw [if_neg hj]
  · rw [k_mset_ne hp]
def rectR (x y x2 y2 z c : Int) : Prop := ∃ a b, (x ≤ a ∧ a ≤ x2) ∧ (y ≤ b ∧ b ≤ y2) ∧ c = 81 * z + 9 * b + a
theorem clr_set {m m' : Mem} {o : Nat} {S : Int → Prop} {i v : Int} {p : Prop} (h : clr m m' o S) (hv : (p ∧ v = 1) ∨ (¬ p ∧ v = m' o i)) : clr m (mset m' o i v) o (fun c => S c ∨ (p ∧ c = i)) := by
  rcases hv with ⟨hp, rfl⟩ | ⟨hp, rfl⟩
  · exact clr_cong (clr_put h) (fun c => by constructor; (rintro (q | q); exact Or.inl q; exact Or.inr q.2); (rintro (q | q); exact Or.inl q; exact Or.inr ⟨hp, q⟩))
  · rw [mset_self]
    exact clr_cong h (fun c => by constructor; (rintro (q | q); exact q; exact absurd q.1 hp); exact Or.inl)
theorem c_X12_keep (X : Xv) (m : Mem) {w d l : Int} (hd : dimM m w d l) (hk : ∀ c, m 71 c = 0 ∨ m 71 c = 1) (x y x2 y2 v : Int) (hv : inR v) : kCall (eX X) 4 M_X12_keep.1 [vR 54, vI x, vI y, vI x2, vI y2, vI v] m (fun r m' => (kpOk w d l x y x2 y2 v ∧ r = some (vI 1) ∧ clr m m' 71 (fun c => ∃ z, (0 ≤ z ∧ z < l) ∧ bt v z.toNat = true ∧ rectR x y x2 y2 z c)) ∨ (¬ kpOk w d l x y x2 y2 v ∧ r = some (vI 0) ∧ m' = m)) := by
  obtain ⟨g0, g1, g2, ⟨w1, w2⟩, ⟨d1, d2⟩, l1, l2⟩ := id hd
  refine kCall_ofT ok_X12_keep rfl (Nat.le_of_ble_eq_true rfl) (fun T hT => ?_)
  have hno : ¬ kpOk w d l x y x2 y2 v → T (some (vI 0)) m := fun h => hT _ _ ⟨Or.inl rfl, Or.inr ⟨h, rfl, rfl⟩⟩
  have loopx : kpOk w d l x y x2 y2 v → ∀ (z b : Int) (mb0 : Mem), (0 ≤ z ∧ z < l) → (y ≤ b ∧ b ≤ y2) → (∀ c, mb0 71 c = 0 ∨ mb0 71 c = 1) → (∀ m', clr mb0 m' 71 (fun c => bt v z.toNat = true ∧ ∃ a, (x ≤ a ∧ a ≤ x2) ∧ c = 81 * z + 9 * b + a) → kW (eX X) 3 M_X12_keep T 9 [some (vR 54), some (vI x), some (vI y), some (vI x2), some (vI y2), some (vI v), some (vI z), some (vI b), some (vI (x2 + 1))] [] m') →
      ∀ (k : Nat) (a : Int) (m' : Mem), a + k = x2 + 1 → x ≤ a → clr mb0 m' 71 (fun c => bt v z.toNat = true ∧ ∃ a', (x ≤ a' ∧ a' < a) ∧ c = 81 * z + 9 * b + a') → kW (eX X) 3 M_X12_keep T 5 [some (vR 54), some (vI x), some (vI y), some (vI x2), some (vI y2), some (vI v), some (vI z), some (vI b), some (vI a)] [] m' := by
    intro hok z b mb0 hz hb hkb hout k
    obtain ⟨⟨k1, k2⟩, ⟨k3, k4⟩, k5, k6⟩ := id hok
    induction k with
    | zero =>
      intro a m' ha hxa hc
      have : a = x2 + 1 := by omega
      subst this
      refine kW_go ok_X12_keep [3, 4, 5, 9, 10] 20 ?_
      refine And.intro (fun _ => hout m' (clr_cong hc (fun c => ?_))) (fun h => absurd h (by omega))
      constructor <;> (rintro ⟨h0, a, h1, h2⟩; exact ⟨h0, a, by omega, h2⟩)
    | succ k ih =>
      intro a m' ha hxa hc
      have hkm : m' 71 (81 * z + 9 * b + a) = 0 ∨ m' 71 (81 * z + 9 * b + a) = 1 := by
        by_cases hs : bt v z.toNat = true ∧ ∃ a', (x ≤ a' ∧ a' < a) ∧ (81 * z + 9 * b + a) = 81 * z + 9 * b + a'
        · exact Or.inr ((hc.2 _).1 hs)
        · rw [(hc.2 _).2 hs]; exact hkb _
      have hnext : ∀ vv : Int, ((bt v z.toNat = true ∧ vv = 1) ∨ (¬ bt v z.toNat = true ∧ vv = m' 71 (81 * z + 9 * b + a))) → kW (eX X) 3 M_X12_keep T 5 [some (vR 54), some (vI x), some (vI y), some (vI x2), some (vI y2), some (vI v), some (vI z), some (vI b), some (vI (a + 1))] [] (mset m' 71 (81 * z + 9 * b + a) vv) := by
        intro vv hvv
        refine ih (a + 1) _ (by omega) (by omega) (clr_cong (clr_set hc hvv) (fun c => ?_))
        constructor
        · rintro ⟨h0, a', h1, h2⟩
          by_cases he : a' = a
          · exact Or.inr ⟨h0, by rw [h2, he]⟩
          · exact Or.inl ⟨h0, a', by omega, h2⟩
        · rintro (⟨h0, a', h1, h2⟩ | ⟨h0, h⟩)
          · exact ⟨h0, a', by omega, h2⟩
          · exact ⟨h0, a, by omega, h⟩
      refine kW_go ok_X12_keep [3, 4, 5, 9, 10] 20 ?_
      refine And.intro (fun h => absurd h (by omega)) (fun _ => ?_)
      refine kCall_mono (c_X12_cell _ m' a b z (by omega) (by omega) (by omega)) (Nat.le_of_ble_eq_true rfl) ?_
      rintro _ m' ⟨rfl, rfl⟩
      refine kCall_mono (c_X12_cell _ m' a b z (by omega) (by omega) (by omega)) (Nat.le_of_ble_eq_true rfl) ?_
      rintro _ m' ⟨rfl, rfl⟩
      have hb1 : 0 ≤ 81 * z + 9 * b + a ∧ 81 * z + 9 * b + a < ((324 : Nat) : Int) := by omega
      refine ⟨hb1, And.intro (fun h1 => ⟨hb1, Or.inr rfl, by constructor <;> omega, hnext 1 ?_⟩) (fun h1 => ?_)⟩
      · by_cases hbt : bt v z.toNat = true
        · exact Or.inl ⟨hbt, rfl⟩
        · refine Or.inr ⟨hbt, ?_⟩
          rcases hkm with q | q
          · exact absurd q h1
          · exact q.symm
      · refine And.intro (fun h2 => ⟨hb1, Or.inl rfl, by constructor <;> omega, hnext 0 ?_⟩) (fun h2 => ⟨hb1, Or.inr rfl, by constructor <;> omega, hnext 1 ?_⟩)
        · refine Or.inr ⟨fun hbt => h2 ((k_ask1 (by omega) (by omega)).mpr hbt), h1.symm⟩
        · exact Or.inl ⟨(k_ask1 (by omega) (by omega)).mp h2, rfl⟩
  have clr_01 : ∀ {m1 m2 : Mem} {S : Int → Prop}, (∀ c, m1 71 c = 0 ∨ m1 71 c = 1) → clr m1 m2 71 S → ∀ c, m2 71 c = 0 ∨ m2 71 c = 1 := by
    intro m1 m2 S h1 h2 c
    by_cases hs : S c
    · exact Or.inr ((h2.2 c).1 hs)
    · rw [(h2.2 c).2 hs]; exact h1 c
  have loopy : kpOk w d l x y x2 y2 v → ∀ (z : Int) (mz0 : Mem), (0 ≤ z ∧ z < l) → (∀ c, mz0 71 c = 0 ∨ mz0 71 c = 1) → (∀ m' x8, clr mz0 m' 71 (fun c => bt v z.toNat = true ∧ rectR x y x2 y2 z c) → kW (eX X) 3 M_X12_keep T 10 [some (vR 54), some (vI x), some (vI y), some (vI x2), some (vI y2), some (vI v), some (vI z), some (vI (y2 + 1)), x8] [] m') →
      ∀ (k : Nat) (b : Int) (m' : Mem) (x8 : Option AV), b + k = y2 + 1 → y ≤ b → clr mz0 m' 71 (fun c => bt v z.toNat = true ∧ ∃ a b', (x ≤ a ∧ a ≤ x2) ∧ (y ≤ b' ∧ b' < b) ∧ c = 81 * z + 9 * b' + a) → kW (eX X) 3 M_X12_keep T 4 [some (vR 54), some (vI x), some (vI y), some (vI x2), some (vI y2), some (vI v), some (vI z), some (vI b), x8] [] m' := by
    intro hok z mz0 hz hkz hout k
    obtain ⟨⟨k1, k2⟩, ⟨k3, k4⟩, k5, k6⟩ := id hok
    induction k with
    | zero =>
      intro b m' x8 hb hyb hc
      have : b = y2 + 1 := by omega
      subst this
      refine kW_go ok_X12_keep [3, 4, 5, 9, 10] 20 ?_
      refine And.intro (fun _ => hout m' x8 (clr_cong hc (fun c => ?_))) (fun h => absurd h (by omega))
      constructor <;> (rintro ⟨h0, a, b', h1, h2, h3⟩; exact ⟨h0, a, b', h1, by omega, h3⟩)
    | succ k ih =>
      intro b m' x8 hb hyb hc
      refine kW_go ok_X12_keep [3, 4, 5, 9, 10] 20 ?_
      refine And.intro (fun h => absurd h (by omega)) (fun _ => ?_)
      refine loopx hok z b m' hz ⟨hyb, by omega⟩ (clr_01 hkz hc) (fun m2 h2 => ?_) (x2 + 1 - x).toNat x m' (by omega) (by omega) (clr_rf (fun c ⟨_, a, h, _⟩ => by omega))
      refine kW_go ok_X12_keep [3, 4, 5, 10] 20 ?_
      refine ⟨by constructor <;> omega, ih (b + 1) m2 _ (by omega) (by omega) (clr_cong (clr_tr hc h2) (fun c => ?_))⟩
      constructor
      · rintro ⟨h0, a, b', h1, h3, h4⟩
        by_cases he : b' = b
        · exact Or.inr ⟨h0, a, h1, by rw [h4, he]⟩
        · exact Or.inl ⟨h0, a, b', h1, by omega, h4⟩
      · rintro (⟨h0, a, b', h1, h3, h4⟩ | ⟨h0, a, h1, h4⟩)
        · exact ⟨h0, a, b', h1, by omega, h4⟩
        · exact ⟨h0, a, b, h1, by omega, h4⟩
  have loopz : kpOk w d l x y x2 y2 v → ∀ (k : Nat) (z : Int) (m' : Mem) (x7 x8 : Option AV), z + k = l → 0 ≤ z → clr m m' 71 (fun c => ∃ z', (0 ≤ z' ∧ z' < z) ∧ bt v z'.toNat = true ∧ rectR x y x2 y2 z' c) → kW (eX X) 3 M_X12_keep T 3 [some (vR 54), some (vI x), some (vI y), some (vI x2), some (vI y2), some (vI v), some (vI z), x7, x8] [] m' := by
    intro hok k
    obtain ⟨⟨k1, k2⟩, ⟨k3, k4⟩, k5, k6⟩ := id hok
    induction k with
    | zero =>
      intro z m' x7 x8 hz h0 hc
      have : z = l := by omega
      subst this
      refine kW_go ok_X12_keep [3, 4, 5, 9, 10] 20 ?_
      refine And.intro (fun _ => hT _ _ ⟨Or.inr rfl, Or.inl ⟨hok, rfl, hc⟩⟩) (fun h => ?_)
      have h : z < m' 54 3 := h
      have g2 : m 54 3 = z := g2
      rw [hc.1 54 (by decide), g2] at h
      omega
    | succ k ih =>
      intro z m' x7 x8 hz h0 hc
      refine kW_go ok_X12_keep [3, 4, 5, 9, 10] 20 ?_
      refine And.intro (fun h => ?_) (fun _ => ?_)
      · have h : m' 54 3 ≤ z := h
        have g2 : m 54 3 = l := g2
        rw [hc.1 54 (by decide), g2] at h
        omega
      · refine loopy hok z m' ⟨h0, by omega⟩ (clr_01 hk hc) (fun m2 y8 h2 => ?_) (y2 + 1 - y).toNat y m' x8 (by omega) (by omega) (clr_rf (fun c ⟨_, a, b, _, h, _⟩ => by omega))
        refine kW_go ok_X12_keep [3, 4, 5] 20 ?_
        refine ⟨by constructor <;> omega, ih (z + 1) m2 _ _ (by omega) (by omega) (clr_cong (clr_tr hc h2) (fun c => ?_))⟩
        constructor
        · rintro ⟨z', q1, q2, q3⟩
          by_cases he : z' = z
          · exact Or.inr (he ▸ ⟨q2, q3⟩)
          · exact Or.inl ⟨z', by omega, q2, q3⟩
        · rintro (⟨z', q1, q2, q3⟩ | ⟨q2, q3⟩)
          · exact ⟨z', by omega, q2, q3⟩
          · exact ⟨z, by omega, q2, q3⟩
  refine kW_go ok_X12_keep [3] 20 ?_
  refine kCall_mono (c_X12_isCell X m hd x y 0) (Nat.le_of_ble_eq_true rfl) ?_
  rintro _ m ⟨rfl, rfl⟩
  refine And.intro (fun h1 => hno (fun h => b2i_0.mp h1 ⟨h.1.1, h.1.2, by omega⟩)) (fun h1 => ?_)
  have h1 := b2i_n.mp h1
  refine kCall_mono (c_X12_isCell X m hd x2 y2 0) (Nat.le_of_ble_eq_true rfl) ?_
  rintro _ m ⟨rfl, rfl⟩
  refine And.intro (fun h2 => hno (fun h => b2i_0.mp h2 ⟨h.2.1.1, h.2.1.2, by omega⟩)) (fun h2 => ?_)
  have h2 := b2i_n.mp h2
  refine And.intro (fun h3 => hno (fun h => by have := h.2.2.1; omega)) (fun h3 => And.intro (fun h4 => hno (fun h => by have := h.2.2.1; omega)) (fun h4 => And.intro (fun h5 => hno (fun h => ?_)) (fun h5 => ?_)))
  · have h6 := h.2.2.2
    have h7 := h6.2.1
    omega
  · have e3 : m 54 3 = l := g2
    show (kshr v (m 54 3) = 0 → _) ∧ (¬ kshr v (m 54 3) = 0 → _)
    rw [e3]
    refine And.intro (fun h6 => ?_) (fun h6 => hno (fun h => h6 ((k_shr_hi hv (by omega) (by omega)).mpr h.2.2.2.2)))
    have hok : kpOk w d l x y x2 y2 v := ⟨⟨h1.1, h1.2.1⟩, ⟨h2.1, h2.2.1⟩, ⟨h3, h4⟩, by omega, (k_shr_hi hv (by omega) (by omega)).mp h6⟩
    exact loopz hok l.toNat 0 m none none (by omega) (by omega) (clr_rf (fun c ⟨z, h, _⟩ => by omega))
theorem c_X3_copperAt (X : Xv) (m : Mem) (c : Int) (hc : 0 ≤ c ∧ c < (nC X : Int)) : kCall (eX X) 1 M_X3_copperAt.1 [vR 9, vI c] m (cP (kor (m 16 c) (m 17 c)) m) := by
  refine kCall_of ok_X3_copperAt rfl (Nat.le_of_ble_eq_true rfl) ?_
  refine kW_go ok_X3_copperAt [] 20 ?_
  exact ⟨hc, hc, rfl, rfl⟩
theorem c_X11_copper (X : Xv) (m : Mem) {w d l : Int} (hD : okD w d l) (hn : w * d * l = (nC X : Int)) (hG : gridC m w d l) (x y z : Int) : kCall (eX X) 3 M_X11_copper.1 [vR 0, vI x, vI y, vI z] m (cP (if (0 ≤ x ∧ x < w) ∧ (0 ≤ y ∧ y < d) ∧ (0 ≤ z ∧ z < l) then kor (m 16 (ix w d x y z)) (m 17 (ix w d x y z)) else -1) m) := by
  obtain ⟨⟨w1, w2⟩, ⟨d1, d2⟩, l1, l2⟩ := id hD
  refine kCall_ofT ok_X11_copper rfl (Nat.le_of_ble_eq_true rfl) (fun T hT => ?_)
  refine kW_go ok_X11_copper [] 20 ?_
  refine kCall_mono (c_X2_cellAt X m hD hG x y z) (Nat.le_of_ble_eq_true rfl) ?_
  rintro _ m ⟨rfl, rfl⟩
  by_cases h : (0 ≤ x ∧ x < w) ∧ (0 ≤ y ∧ y < d) ∧ (0 ≤ z ∧ z < l)
  · have hin := ix_in (w := w) (d := d) (l := l) h.1 h.2.1 h.2.2
    have e : cAt w d l x y z = ix w d x y z := if_pos h
    rw [if_pos h] at hT
    rw [e]
    refine And.intro (fun _ => ?_) (fun h2 => ?_)
    · refine kCall_mono (c_X3_copperAt X m _ (by obtain ⟨a, b⟩ := hin; omega)) (Nat.le_of_ble_eq_true rfl) ?_
      rintro _ m ⟨rfl, rfl⟩
      exact hT _ _ ⟨rfl, rfl⟩
    · obtain ⟨a, b⟩ := hin
      omega
  · have e : cAt w d l x y z = -1 := if_neg h
    rw [if_neg h] at hT
    rw [e]
    exact And.intro (fun h => absurd rfl h) (fun _ => hT _ _ ⟨rfl, rfl⟩)
