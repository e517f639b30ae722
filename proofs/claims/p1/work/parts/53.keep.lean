/-! KEEP, COPPER -/
theorem bt_hi {l : Int} (h0 : 0 ≤ l) (h1 : l ≤ 8) {k : Nat} (hk : k < 32) : bt (kxor (kshl 1 l - 1) (-1)) k = decide (l.toNat ≤ k) := by
  have : ∀ (i : Fin 9) (j : Fin 32), bt (kxor (kshl 1 (i.val : Int) - 1) (-1)) j.val = decide (i.val ≤ j.val) := by decide +kernel
  have h := this ⟨l.toNat, by omega⟩ ⟨k, hk⟩
  simp only [Int.toNat_of_nonneg h0] at h
  exact h
theorem k_msk_in {l : Int} (h0 : 0 ≤ l) (h1 : l ≤ 8) : 0 ≤ kshl 1 l - 1 ∧ kshl 1 l - 1 ≤ 255 := by
  have : ∀ (i : Fin 9), 0 ≤ kshl 1 (i.val : Int) - 1 ∧ kshl 1 (i.val : Int) - 1 ≤ 255 := by decide +kernel
  have h := this ⟨l.toNat, by omega⟩
  simp only [Int.toNat_of_nonneg h0] at h
  exact h
/-- bits below l alone -/
def ltB (v l : Int) : Prop := 0 ≤ v ∧ v < ((2 ^ l.toNat : Nat) : Int)
theorem ltB_bt {v l : Int} (hv : inR v) (h1 : l ≤ 31) (h0 : 0 ≤ l) : ltB v l ↔ ∀ k : Nat, l.toNat ≤ k → k < 32 → bt v k = false := by
  constructor
  · rintro ⟨a, b⟩ k hk _
    exact bt_small (n := l.toNat) hv a (by exact_mod_cast b) hk
  · intro h
    exact k_lt_bits hv (by omega) h
theorem k_and_hi {v l : Int} (hv : inR v) (h0 : 0 ≤ l) (h1 : l ≤ 8) : kand v (kxor (kshl 1 l - 1) (-1)) = 0 ↔ ltB v l := by
  rw [k_and0, ltB_bt hv (by omega) h0]
  constructor
  · intro h k h2 h3
    have := h k h3
    rw [bt_hi h0 h1 h3] at this
    cases hb : bt v k with
    | false => rfl
    | true => exact absurd ⟨hb, by simpa using h2⟩ this
  · intro h k h3 h4
    rw [bt_hi h0 h1 h3] at h4
    have h5 : l.toNat ≤ k := by simpa using h4.2
    rw [h k h5 h3] at h4
    cases h4.1
theorem k_shr_hi {v l : Int} (hv : inR v) (h0 : 0 ≤ l) (h1 : l ≤ 8) : kshr v l = 0 ↔ ltB v l := by
  rw [ltB_bt hv (by omega) h0]
  constructor
  · intro h k h2 h3
    have e := bt_shr (a := v) h0 (show l < 32 by omega) (k - l.toNat)
    rw [h, bt_zero, if_pos (by omega), show l.toNat + (k - l.toNat) = k by omega] at e
    have h5 : ¬ 32 ≤ k - l.toNat := by omega
    simp [h5] at e
    exact e
  · intro h
    refine bt_ext (k_in_kshr _ _) k_inR0 (fun k hk => ?_)
    rw [bt_shr h0 (by omega), bt_zero]
    split
    · rw [h _ (by omega) (by omega), Bool.and_false]
    · rw [h 31 (by omega) (by decide), Bool.and_false]
theorem k_ask1 {v n : Int} (h0 : 0 ≤ n) (h1 : n < 32) : kand (kshr v n) 1 = 1 ↔ bt v n.toNat = true := by
  rw [k_ask h0 h1]
  cases bt v n.toNat <;> simp
/-- m' has 1 at o where S says so, and is else as m was -/
def clr (m m' : Mem) (o : Nat) (S : Int → Prop) : Prop := (∀ p, p ≠ o → m' p = m p) ∧ ∀ c, (S c → m' o c = 1) ∧ (¬ S c → m' o c = m o c)
theorem clr_rf {m : Mem} {o : Nat} {S : Int → Prop} (h : ∀ c, ¬ S c) : clr m m o S := ⟨fun _ _ => rfl, fun c => ⟨fun hs => absurd hs (h c), fun _ => rfl⟩⟩
theorem clr_cong {m m' : Mem} {o : Nat} {S S' : Int → Prop} (h : clr m m' o S) (hs : ∀ c, S' c ↔ S c) : clr m m' o S' := ⟨h.1, fun c => ⟨fun q => (h.2 c).1 ((hs c).mp q), fun q => (h.2 c).2 (fun z => q ((hs c).mpr z))⟩⟩
theorem clr_put {m m' : Mem} {o : Nat} {S : Int → Prop} {i : Int} (h : clr m m' o S) : clr m (mset m' o i 1) o (fun c => S c ∨ c = i) := by
  refine ⟨fun p hp => by rw [k_mset_ne hp]; exact h.1 p hp, fun c => ⟨fun q => ?_, fun q => ?_⟩⟩
  · rw [k_mset_at]
    by_cases hc : c = i
    · rw [if_pos hc]
    · rw [if_neg hc]
      rcases q with q | q
      · exact (h.2 c).1 q
      · exact absurd q hc
  · rw [k_mset_at, if_neg (fun z => q (Or.inr z))]
    exact (h.2 c).2 (fun z => q (Or.inl z))
theorem clr_tr {m m1 m2 : Mem} {o : Nat} {S S' : Int → Prop} (h1 : clr m m1 o S) (h2 : clr m1 m2 o S') : clr m m2 o (fun c => S c ∨ S' c) := by
  refine ⟨fun p hp => by rw [h2.1 p hp]; exact h1.1 p hp, fun c => ⟨fun q => ?_, fun q => ?_⟩⟩
  · by_cases hc : S' c
    · exact (h2.2 c).1 hc
    · rw [(h2.2 c).2 hc]
      rcases q with q | q
      · exact (h1.2 c).1 q
      · exact absurd q hc
  · rw [(h2.2 c).2 (fun z => q (Or.inr z))]
    exact (h1.2 c).2 (fun z => q (Or.inl z))
/-- the cells of a part of one layer -/
def inRect (w d x y x2 y2 z c : Int) : Prop := ∃ a b, (x ≤ a ∧ a ≤ x2) ∧ (y ≤ b ∧ b ≤ y2) ∧ c = ix w d a b z
theorem c_X3_close (X : Xv) (m : Mem) {w d l : Int} (hD : okD w d l) (hn : w * d * l = (nC X : Int)) (hG : gridC m w d l) (x y x2 y2 z : Int) (hx : 0 ≤ x ∧ x2 < w) (hy : 0 ≤ y ∧ y2 < d) (hxx : x ≤ x2 ∧ y ≤ y2) (hz : 0 ≤ z ∧ z < l) : kCall (eX X) 1 M_X3_close.1 [vR 9, vI x, vI y, vI x2, vI y2, vI z] m (fun r m' => r = none ∧ clr m m' 15 (inRect w d x y x2 y2 z)) := by
  have hff := okD_floor hD
  have hcc := okD_cells hD
  have g0 := hG.1
  have g3 := hG.2.2.2.1
  obtain ⟨⟨w1, w2⟩, ⟨d1, d2⟩, l1, l2⟩ := id hD
  refine kCall_ofT ok_X3_close rfl (Nat.le_of_ble_eq_true rfl) (fun T hT => ?_)
  have loopx : ∀ (b : Int) (mb0 : Mem), (y ≤ b ∧ b ≤ y2) → mb0 1 = m 1 → (∀ m', clr mb0 m' 15 (fun c => ∃ a, (x ≤ a ∧ a ≤ x2) ∧ c = ix w d a b z) → kW (eX X) 0 M_X3_close T 3 [some (vR 9), some (vI x), some (vI y), some (vI x2), some (vI y2), some (vI z), some (vI b), some (vI (x2 + 1))] [] m') →
      ∀ (k : Nat) (a : Int) (m' : Mem), a + k = x2 + 1 → x ≤ a → clr mb0 m' 15 (fun c => ∃ a', (x ≤ a' ∧ a' < a) ∧ c = ix w d a' b z) → kW (eX X) 0 M_X3_close T 2 [some (vR 9), some (vI x), some (vI y), some (vI x2), some (vI y2), some (vI z), some (vI b), some (vI a)] [] m' := by
    intro b mb0 hb hm1 hout k
    induction k with
    | zero =>
      intro a m' ha hxa hc
      have : a = x2 + 1 := by omega
      subst this
      refine kW_go ok_X3_close [1, 2, 3] 20 ?_
      refine And.intro (fun _ => hout m' (clr_cong hc (fun c => ?_))) (fun h => absurd h (by omega))
      constructor <;> (rintro ⟨a, h1, h2⟩; exact ⟨a, by omega, h2⟩)
    | succ k ih =>
      intro a m' ha hxa hc
      have em : m' 1 = m 1 := by rw [hc.1 1 (by decide)]; exact hm1
      have hin := ix_in (w := w) (d := d) (l := l) (x := a) (y := b) (z := z) (by omega) (by omega) hz
      have e1 := mb (a := z) (b := w * d) (A := 4) (B := 81) (by omega) (by omega)
      have e2 := mb (a := b) (b := w) (A := 9) (B := 9) (by omega) (by omega)
      refine kW_go ok_X3_close [1, 2, 3] 20 ?_
      refine And.intro (fun h => absurd h (by omega)) (fun _ => ?_)
      show inR (z * m' 1 3) ∧ inR (b * m' 1 0) ∧ inR (z * m' 1 3 + b * m' 1 0) ∧ inR (z * m' 1 3 + b * m' 1 0 + a) ∧ (0 ≤ z * m' 1 3 + b * m' 1 0 + a ∧ z * m' 1 3 + b * m' 1 0 + a < (nC X : Int)) ∧ inR (a + 1) ∧ kW (eX X) 0 M_X3_close T 2 [some (vR 9), some (vI x), some (vI y), some (vI x2), some (vI y2), some (vI z), some (vI b), some (vI (a + 1))] [] (mset m' 15 (z * m' 1 3 + b * m' 1 0 + a) 1)
      rw [em, g3, g0]
      have ei : z * (w * d) + b * w + a = ix w d a b z := rfl
      rw [ei]
      refine ⟨by constructor <;> omega, by constructor <;> omega, by constructor <;> omega, by constructor <;> (obtain ⟨q1, q2⟩ := hin; omega), by obtain ⟨q1, q2⟩ := hin; omega, by constructor <;> omega, ?_⟩
      refine ih (a + 1) _ (by omega) (by omega) (clr_cong (clr_put hc) (fun c => ?_))
      constructor
      · rintro ⟨a', h1, h2⟩
        by_cases he : a' = a
        · exact Or.inr (by rw [h2, he])
        · exact Or.inl ⟨a', by omega, h2⟩
      · rintro (⟨a', h1, h2⟩ | h)
        · exact ⟨a', by omega, h2⟩
        · exact ⟨a, by omega, h⟩
  have loopy : ∀ (k : Nat) (b : Int) (m' : Mem) (x7 : Option AV), b + k = y2 + 1 → y ≤ b → clr m m' 15 (fun c => ∃ a b', (x ≤ a ∧ a ≤ x2) ∧ (y ≤ b' ∧ b' < b) ∧ c = ix w d a b' z) → kW (eX X) 0 M_X3_close T 1 [some (vR 9), some (vI x), some (vI y), some (vI x2), some (vI y2), some (vI z), some (vI b), x7] [] m' := by
    intro k
    induction k with
    | zero =>
      intro b m' x7 hb hyb hc
      refine kW_go ok_X3_close [1, 2, 3] 20 ?_
      refine And.intro (fun _ => hT _ _ ⟨rfl, clr_cong hc (fun c => ?_)⟩) (fun h => absurd h (by omega))
      constructor <;> (rintro ⟨a, b', h1, h2, h3⟩; exact ⟨a, b', h1, by omega, h3⟩)
    | succ k ih =>
      intro b m' x7 hb hyb hc
      refine kW_go ok_X3_close [1, 2, 3] 20 ?_
      refine And.intro (fun h => absurd h (by omega)) (fun _ => ?_)
      refine loopx b m' ⟨hyb, by omega⟩ (by rw [hc.1 1 (by decide)]) (fun m2 h2 => ?_) (x2 + 1 - x).toNat x m' (by omega) (by omega) (clr_rf (fun c ⟨a, h, _⟩ => by omega))
      refine kW_go ok_X3_close [1, 2] 20 ?_
      refine ⟨by constructor <;> omega, ih (b + 1) m2 _ (by omega) (by omega) (clr_cong (clr_tr hc h2) (fun c => ?_))⟩
      constructor
      · rintro ⟨a, b', h1, h3, h4⟩
        by_cases he : b' = b
        · exact Or.inr ⟨a, h1, by rw [h4, he]⟩
        · exact Or.inl ⟨a, b', h1, by omega, h4⟩
      · rintro (⟨a, b', h1, h3, h4⟩ | ⟨a, h1, h4⟩)
        · exact ⟨a, b', h1, by omega, h4⟩
        · exact ⟨a, b, h1, by omega, h4⟩
  refine kW_go ok_X3_close [1] 20 ?_
  exact loopy (y2 + 1 - y).toNat y m none (by omega) (by omega) (clr_rf (fun c ⟨a, b', _, h, _⟩ => by omega))
theorem c_X2_allLayers (X : Xv) (m : Mem) {l : Int} (g : m 1 2 = l) (hl : 1 ≤ l ∧ l ≤ 4) : kCall (eX X) 1 M_X2_allLayers.1 [vR 1] m (cP (kshl 1 l - 1) m) := by
  refine kCall_of ok_X2_allLayers rfl (Nat.le_of_ble_eq_true rfl) ?_
  refine kW_go ok_X2_allLayers [] 20 ?_
  subst g
  have := k_msk_in (l := m 1 2) (by omega) (by omega)
  exact ⟨show inR (kshl 1 (m 1 2) - 1) by constructor <;> omega, rfl, rfl⟩
def kpOk (w d l x y x2 y2 v : Int) : Prop := ((0 ≤ x ∧ x < w) ∧ (0 ≤ y ∧ y < d)) ∧ ((0 ≤ x2 ∧ x2 < w) ∧ (0 ≤ y2 ∧ y2 < d)) ∧ (x ≤ x2 ∧ y ≤ y2) ∧ (v ≠ 0 ∧ ltB v l)
theorem cAt_no {w d l x y z : Int} (hl : 1 ≤ l) (hw : 2 ≤ w ∧ 2 ≤ d) : cAt w d l x y z = -1 ↔ ¬ ((0 ≤ x ∧ x < w) ∧ (0 ≤ y ∧ y < d) ∧ (0 ≤ z ∧ z < l)) := by
  unfold cAt
  split
  · rename_i h
    have := (ix_in h.1 h.2.1 h.2.2).1
    constructor
    · intro q; omega
    · intro q; exact absurd h q
  · rename_i h
    simp [h]
theorem c_X11_keep (X : Xv) (m : Mem) {w d l : Int} (hD : okD w d l) (hn : w * d * l = (nC X : Int)) (hG : gridC m w d l) (x y x2 y2 v : Int) (hv : inR v) : kCall (eX X) 3 M_X11_keep.1 [vR 0, vI x, vI y, vI x2, vI y2, vI v] m (fun r m' => (kpOk w d l x y x2 y2 v ∧ r = some (vI 1) ∧ clr m m' 15 (fun c => ∃ z, (0 ≤ z ∧ z < l) ∧ bt v z.toNat = true ∧ inRect w d x y x2 y2 z c)) ∨ (¬ kpOk w d l x y x2 y2 v ∧ r = some (vI 0) ∧ m' = m)) := by
  obtain ⟨⟨w1, w2⟩, ⟨d1, d2⟩, l1, l2⟩ := id hD
  have g2 := hG.2.2.1
  refine kCall_ofT ok_X11_keep rfl (Nat.le_of_ble_eq_true rfl) (fun T hT => ?_)
  have hno : ¬ kpOk w d l x y x2 y2 v → T (some (vI 0)) m := fun h => hT _ _ ⟨Or.inl rfl, Or.inr ⟨h, rfl, rfl⟩⟩
  have loop : kpOk w d l x y x2 y2 v → ∀ (k : Nat) (z : Int) (m' : Mem), z + k = l → 0 ≤ z → clr m m' 15 (fun c => ∃ z', (0 ≤ z' ∧ z' < z) ∧ bt v z'.toNat = true ∧ inRect w d x y x2 y2 z' c) → kW (eX X) 2 M_X11_keep T 5 [some (vR 0), some (vI x), some (vI y), some (vI x2), some (vI y2), some (vI v), some (vI z)] [] m' := by
    intro hok k
    obtain ⟨⟨k1, k2⟩, ⟨k3, k4⟩, k5, k6⟩ := id hok
    induction k with
    | zero =>
      intro z m' hz h0 hc
      have : z = l := by omega
      subst this
      refine kW_go ok_X11_keep [5] 20 ?_
      refine And.intro (fun _ => hT _ _ ⟨Or.inr rfl, Or.inl ⟨hok, rfl, hc⟩⟩) (fun h => ?_)
      have h : z < m' 1 2 := h
      rw [hc.1 1 (by decide), g2] at h
      omega
    | succ k ih =>
      intro z m' hz h0 hc
      have hG' : gridC m' w d l := gridC_same hG (fun o o1 o2 => hc.1 o (by omega))
      refine kW_go ok_X11_keep [5] 20 ?_
      refine And.intro (fun h => ?_) (fun _ => And.intro (fun h => ?_) (fun h => ?_))
      · have h : m' 1 2 ≤ z := h
        rw [hc.1 1 (by decide), g2] at h
        omega
      · have h := (k_ask0 (by omega) (by omega)).mp h
        refine ⟨by constructor <;> omega, ih (z + 1) m' (by omega) (by omega) (clr_cong hc (fun c => ?_))⟩
        constructor
        · rintro ⟨z', q1, q2, q3⟩
          by_cases he : z' = z
          · rw [he, h] at q2; cases q2
          · exact ⟨z', by omega, q2, q3⟩
        · rintro ⟨z', q1, q2, q3⟩
          exact ⟨z', by omega, q2, q3⟩
      · have hb : bt v z.toNat = true := by
          cases hb : bt v z.toNat with
          | true => rfl
          | false => exact absurd ((k_ask0 (by omega) (by omega)).mpr hb) h
        refine kCall_mono (c_X3_close X m' hD hn hG' x y x2 y2 z (by omega) (by omega) k5 (by omega)) (Nat.le_of_ble_eq_true rfl) ?_
        rintro _ m2 ⟨rfl, h2⟩
        refine ⟨by constructor <;> omega, ih (z + 1) m2 (by omega) (by omega) (clr_cong (clr_tr hc h2) (fun c => ?_))⟩
        constructor
        · rintro ⟨z', q1, q2, q3⟩
          by_cases he : z' = z
          · exact Or.inr (he ▸ q3)
          · exact Or.inl ⟨z', by omega, q2, q3⟩
        · rintro (⟨z', q1, q2, q3⟩ | q3)
          · exact ⟨z', by omega, q2, q3⟩
          · exact ⟨z, by omega, hb, q3⟩
  refine kW_go ok_X11_keep [5] 20 ?_
  refine kCall_mono (c_X2_cellAt X m hD hG x y 0) (Nat.le_of_ble_eq_true rfl) ?_
  rintro _ m ⟨rfl, rfl⟩
  refine And.intro (fun h1 => hno (fun h => (cAt_no l1 ⟨w1, d1⟩).mp h1 ⟨h.1.1, h.1.2, by omega⟩)) (fun h1 => ?_)
  refine kCall_mono (c_X2_cellAt X m hD hG x2 y2 0) (Nat.le_of_ble_eq_true rfl) ?_
  rintro _ m ⟨rfl, rfl⟩
  refine And.intro (fun h2 => hno (fun h => (cAt_no l1 ⟨w1, d1⟩).mp h2 ⟨h.2.1.1, h.2.1.2, by omega⟩)) (fun h2 => ?_)
  have h1' := Decidable.not_not.mp (fun q => h1 ((cAt_no (l := l) (z := 0) l1 ⟨w1, d1⟩).mpr q))
  have h2' := Decidable.not_not.mp (fun q => h2 ((cAt_no (l := l) (z := 0) l1 ⟨w1, d1⟩).mpr q))
  refine And.intro (fun h3 => hno (fun h => by have := h.2.2.1; omega)) (fun h3 => And.intro (fun h4 => ?_) (fun h4 => hno (fun h => by have := h.2.2.1; omega)))
  refine And.intro (fun h5 => hno (fun h => h.2.2.2.1 h5)) (fun h5 => ?_)
  refine kCall_mono (c_X2_allLayers X m g2 ⟨l1, l2⟩) (Nat.le_of_ble_eq_true rfl) ?_
  rintro _ m ⟨rfl, rfl⟩
  refine And.intro (fun h6 => ?_) (fun h6 => hno (fun h => h6 ((k_and_hi hv (by omega) (by omega)).mpr h.2.2.2.2)))
  have hok : kpOk w d l x y x2 y2 v := ⟨⟨h1'.1, h1'.2.1⟩, ⟨h2'.1, h2'.2.1⟩, ⟨h3, h4⟩, h5, (k_and_hi hv (by omega) (by omega)).mp h6⟩
  exact loop hok l.toNat 0 m (by omega) (by omega) (clr_rf (fun c ⟨z, h, _⟩ => by omega))
