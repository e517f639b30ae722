/-! STEADY alike -/
theorem sumN_eqs {f g : Int → Int} : ∀ {k : Nat}, (∀ i : Int, 0 ≤ i → i < k → f i ≤ g i) → sumN f k = sumN g k → ∀ i : Int, 0 ≤ i → i < k → f i = g i := by
  intro k
  induction k with
  | zero => intro _ _ i h0 h1; omega
  | succ k ih =>
    intro h he i h0 h1
    have h2 := sumN_ge (f := f) (g := g) (k := k) (fun j a b => h j a (by omega))
    have h3 := h (k : Int) (by omega) (by omega)
    have he : sumN f k + f k = sumN g k + g k := he
    by_cases hik : i = k
    · rw [hik]; omega
    · exact ih (fun j a b => h j a (by omega)) (by omega) i h0 (by omega)
theorem e3_le {P Q : Int → Prop} (h : ∀ k, can k → P k → Q k) : e3 P (fun _ => 1) ≤ e3 Q (fun _ => 1) ∧ (e3 P (fun _ => 1) = e3 Q (fun _ => 1) → ∀ k, can k → Q k → P k) := by
  have hv : ∀ k, can k → iv (P k) 1 ≤ iv (Q k) 1 ∧ (iv (P k) 1 = iv (Q k) 1 → Q k → P k) := by
    intro k hk
    by_cases hP : P k
    · rw [iv_t hP, iv_t (h k hk hP)]
      exact ⟨Int.le_refl _, fun _ _ => hP⟩
    · rw [iv_f hP]
      by_cases hQ : Q k
      · rw [iv_t hQ]
        exact ⟨by decide, fun h => absurd h (by decide)⟩
      · rw [iv_f hQ]
        exact ⟨Int.le_refl _, fun _ q => absurd q hQ⟩
  have v1 := hv 1 (Or.inl rfl)
  have v2 := hv 2 (Or.inr (Or.inl rfl))
  have v4 := hv 4 (Or.inr (Or.inr rfl))
  show iv (P 1) 1 + iv (P 2) 1 + iv (P 4) 1 ≤ iv (Q 1) 1 + iv (Q 2) 1 + iv (Q 4) 1 ∧ (iv (P 1) 1 + iv (P 2) 1 + iv (P 4) 1 = iv (Q 1) 1 + iv (Q 2) 1 + iv (Q 4) 1 → _)
  refine ⟨by omega, fun he k hk => ?_⟩
  rcases hk with rfl | rfl | rfl
  · exact v1.2 (by omega)
  · exact v2.2 (by omega)
  · exact v4.2 (by omega)
/-- the i-th of the one list is in the other, in one direction or the other -/
def wasT (f t f' t' : Int → Int) (p i : Int) : Prop := ∃ j : Int, (0 ≤ j ∧ j < p) ∧ ((f' j = f i ∧ t' j = t i) ∨ (f' j = t i ∧ t' j = f i))
theorem list_n {w d l : Int} (hD : okD w d l) {f t : Int → Int} {q : Int} (h : okL w d l f t q) : q = sumN (fun x => e3 (fun k => nx w d l x k ≠ -1 ∧ eds w d l f t q x k) (fun _ => 1)) (w * d * l).toNat := by
  have hc := okD_cells hD
  have hn : w * d * l = ((w * d * l).toNat : Int) := by omega
  have hq : ((q.toNat : Nat) : Int) = q := by have := h.1; omega
  have hs := sum_list hD hn (f := f) (t := t) (fun _ _ => 1) (fun _ _ => 1) (fun _ _ _ _ _ => ⟨rfl, rfl⟩) q.toNat (by rw [hq]; exact h)
  rw [hq] at hs
  rw [← hs]
  have : ∀ k : Nat, sumN (fun _ => (1 : Int)) k = k := by
    intro k
    induction k with
    | zero => rfl
    | succ k ih => show sumN (fun _ => (1 : Int)) k + 1 = _; rw [ih]; omega
  rw [this, hq]
theorem lists_eq {w d l : Int} (hD : okD w d l) {f t f' t' row row' : Int → Int} {q p : Int} (h : LT w d l f t q row) (h' : LT w d l f' t' p row') (hr : ∀ x, inC w d l x → (0 ≤ row x ∧ row x < 64) ∧ (0 ≤ row' x ∧ row' x < 64) ∧ ∀ k : Int, (0 ≤ k ∧ k < 6) → nx w d l x k = -1 → bt (row x) k.toNat = false ∧ bt (row' x) k.toNat = false) : (q = p ∧ ∀ i : Int, (0 ≤ i ∧ i < q) → wasT f t f' t' p i) ↔ ∀ x, inC w d l x → row x = row' x := by
  constructor
  · rintro ⟨hqp, hw⟩
    have hsub : ∀ x k, eds w d l f t q x k → eds w d l f' t' p x k := by
      rintro x k ⟨i, hi, hh⟩
      obtain ⟨j, hj, hm⟩ := hw i hi
      refine ⟨j, hj, ?_⟩
      rcases hh with ⟨a, b⟩ | ⟨a, b⟩ <;> rcases hm with ⟨e, g⟩ | ⟨e, g⟩
      · exact Or.inl ⟨by rw [e, a], by rw [g, b]⟩
      · exact Or.inr ⟨by rw [e, b], by rw [g, a]⟩
      · exact Or.inr ⟨by rw [e, a], by rw [g, b]⟩
      · exact Or.inl ⟨by rw [e, b], by rw [g, a]⟩
    have n1 := list_n hD h.1
    have n2 := list_n hD h'.1
    have hle : ∀ x, e3 (fun k => nx w d l x k ≠ -1 ∧ eds w d l f t q x k) (fun _ => 1) ≤ e3 (fun k => nx w d l x k ≠ -1 ∧ eds w d l f' t' p x k) (fun _ => 1) := fun x => (e3_le (fun k _ z => ⟨z.1, hsub x k z.2⟩)).1
    have heq := sumN_eqs (fun x _ _ => hle x) (by rw [← n1, ← n2]; exact hqp)
    have hback : ∀ x k, inC w d l x → can k → nx w d l x k ≠ -1 → eds w d l f' t' p x k → eds w d l f t q x k := fun x k hx hk hne z => ((e3_le (P := fun k => nx w d l x k ≠ -1 ∧ eds w d l f t q x k) (Q := fun k => nx w d l x k ≠ -1 ∧ eds w d l f' t' p x k) (fun k _ z => ⟨z.1, hsub x k z.2⟩)).2 (heq x hx.1 (by have := hx.2; omega)) k hk ⟨hne, z⟩).2
    intro x hx
    obtain ⟨v1, v2, v3⟩ := hr x hx
    refine bt_ext (inR_small (by omega)) (inR_small (by omega)) (fun k hk => ?_)
    by_cases h6 : k < 6
    · by_cases hne : nx w d l x (k : Int) = -1
      · have := v3 (k : Int) (by omega) hne
        rw [Int.toNat_natCast] at this
        rw [this.1, this.2]
      · have e1 := h.2 x (k : Int) hx (by omega) hne
        have e2 := h'.2 x (k : Int) hx (by omega) hne
        rw [Int.toNat_natCast] at e1 e2
        have he : eds w d l f t q x (k : Int) ↔ eds w d l f' t' p x (k : Int) := by
          refine ⟨hsub x _, fun z => ?_⟩
          by_cases hc : can (k : Int)
          · exact hback x _ hx hc hne z
          · have hc' : can (oppF (k : Int)) := Decidable.byContradiction (fun y => hc ((can_opp (by omega)).mpr y))
            rw [← eds_opp hD hx (by omega) hne] at z ⊢
            exact hback _ _ (nx_in hne).1 hc' (nx_opp_ne hD hx (by omega) hne) z
        rw [he, ← e2] at e1
        exact Bool.eq_iff_iff.mpr e1
    · rw [bt_small (n := 6) (inR_small (by omega)) v1.1 v1.2 (by omega), bt_small (n := 6) (inR_small (by omega)) v2.1 v2.2 (by omega)]
  · intro hall
    have he : ∀ x k, inC w d l x → (0 ≤ k ∧ k < 6) → nx w d l x k ≠ -1 → (eds w d l f t q x k ↔ eds w d l f' t' p x k) := fun x k hx hk hne => by rw [← h.2 x k hx hk hne, ← h'.2 x k hx hk hne, hall x hx]
    refine ⟨?_, fun i hi => ?_⟩
    · rw [list_n hD h.1, list_n hD h'.1]
      refine sumN_cong (fun x h0 h1 => ?_)
      have hx : inC w d l x := ⟨h0, by omega⟩
      refine e3_cong (fun k hk => ?_) (fun _ _ _ => rfl)
      exact and_congr_right (fun hne => he x k hx (can_in hk) hne)
    · obtain ⟨x, k, hx, hk, hne, e1, e2⟩ := h.1.2.1 i hi
      obtain ⟨j, hj, hm⟩ := (he x k hx hk hne).mp ⟨i, hi, Or.inl ⟨e1, e2⟩⟩
      refine ⟨j, hj, ?_⟩
      rw [e1, e2]
      exact hm
theorem c_X12_wasThere (X : Xv) (m : Mem) (n i : Int) (hn : 0 ≤ n ∧ n < 8) (hi : 0 ≤ i ∧ i < 2400) (hp : 0 ≤ m 91 n ∧ m 91 n ≤ 2400) : kCall (eX X) 1 M_X12_wasThere.1 [vR 54, vI n, vI i] m (fun r m' => r = some (vI (iv (wasT (fun j => m 69 (2400 * n + j)) (fun j => m 70 (2400 * n + j)) (fun j => m 89 (2400 * n + j)) (fun j => m 90 (2400 * n + j)) (m 91 n) i) 1)) ∧ m' = m) := by
  have hnb : 0 ≤ n ∧ n < ((8 : Nat) : Int) := hn
  refine kCall_ofT ok_X12_wasThere rfl (Nat.le_of_ble_eq_true rfl) (fun T hT => ?_)
  have loop : ∀ (q : Nat) (j : Int) (x6 x7 : Option AV), j + q = m 91 n → 0 ≤ j → (∀ j' : Int, (0 ≤ j' ∧ j' < j) → ¬ ((m 89 (2400 * n + j') = m 69 (2400 * n + i) ∧ m 90 (2400 * n + j') = m 70 (2400 * n + i)) ∨ (m 89 (2400 * n + j') = m 70 (2400 * n + i) ∧ m 90 (2400 * n + j') = m 69 (2400 * n + i)))) → kW (eX X) 0 M_X12_wasThere T 1 [some (vR 54), some (vI n), some (vI i), some (vI (m 69 (2400 * n + i))), some (vI (m 70 (2400 * n + i))), some (vI j), x6, x7] [] m := by
    intro q
    induction q with
    | zero =>
      intro j x6 x7 hjq h0 hno
      refine kW_go ok_X12_wasThere [1, 2] 20 ?_
      refine ⟨hnb, And.intro (fun _ => hT _ _ ⟨Or.inl rfl, ?_, rfl⟩) (fun h => ?_)⟩
      · rw [iv_f]
        rintro ⟨j', hj', hh⟩
        exact hno j' (by omega) hh
      · have h : j < m 91 n := h
        omega
    | succ q ih =>
      intro j x6 x7 hjq h0 hno
      have hix : 0 ≤ 2400 * n + j ∧ 2400 * n + j < ((19200 : Nat) : Int) := by omega
      have hy : ((m 89 (2400 * n + j) = m 69 (2400 * n + i) ∧ m 90 (2400 * n + j) = m 70 (2400 * n + i)) ∨ (m 89 (2400 * n + j) = m 70 (2400 * n + i) ∧ m 90 (2400 * n + j) = m 69 (2400 * n + i))) → (some (vI 1) : Option AV) = some (vI (iv (wasT (fun j => m 69 (2400 * n + j)) (fun j => m 70 (2400 * n + j)) (fun j => m 89 (2400 * n + j)) (fun j => m 90 (2400 * n + j)) (m 91 n) i) 1)) := by
        intro hh
        rw [iv_t ⟨j, by omega, hh⟩]
      have hn' : ¬ ((m 89 (2400 * n + j) = m 69 (2400 * n + i) ∧ m 90 (2400 * n + j) = m 70 (2400 * n + i)) ∨ (m 89 (2400 * n + j) = m 70 (2400 * n + i) ∧ m 90 (2400 * n + j) = m 69 (2400 * n + i))) → inR (j + 1) ∧ kW (eX X) 0 M_X12_wasThere T 1 [some (vR 54), some (vI n), some (vI i), some (vI (m 69 (2400 * n + i))), some (vI (m 70 (2400 * n + i))), some (vI (j + 1)), some (vI (m 89 (2400 * n + j))), some (vI (m 90 (2400 * n + j)))] [] m := by
        intro hh
        refine ⟨by constructor <;> omega, ih (j + 1) _ _ (by omega) (by omega) (fun j' hj' => ?_)⟩
        by_cases he : j' = j
        · rw [he]; exact hh
        · exact hno j' (by omega)
      refine kW_go ok_X12_wasThere [1, 2] 20 ?_
      refine ⟨hnb, And.intro (fun h => ?_) (fun _ => ⟨by constructor <;> omega, by constructor <;> omega, hix, by constructor <;> omega, by constructor <;> omega, hix, ?_⟩)⟩
      · have h : m 91 n ≤ j := h
        omega
      · have k2 : (m 89 (2400 * n + j) ≠ m 69 (2400 * n + i) ∨ m 90 (2400 * n + j) ≠ m 70 (2400 * n + i)) → kW (eX X) 0 M_X12_wasThere T 2 [some (vR 54), some (vI n), some (vI i), some (vI (m 69 (2400 * n + i))), some (vI (m 70 (2400 * n + i))), some (vI j), some (vI (m 89 (2400 * n + j))), some (vI (m 90 (2400 * n + j)))] [] m := by
          intro hd
          refine kW_go ok_X12_wasThere [1] 20 ?_
          refine And.intro (fun h => hn' ?_) (fun h => And.intro (fun h2 => hn' ?_) (fun h2 => hT _ _ ⟨Or.inr rfl, hy (Or.inr ⟨h, h2⟩), rfl⟩))
          · rintro (⟨a, b⟩ | ⟨a, b⟩)
            · exact hd.elim (fun z => z a) (fun z => z b)
            · exact h a
          · rintro (⟨a, b⟩ | ⟨a, b⟩)
            · exact hd.elim (fun z => z a) (fun z => z b)
            · exact h2 b
        refine And.intro (fun h => k2 (Or.inl h)) (fun h => And.intro (fun h2 => hT _ _ ⟨Or.inr rfl, hy (Or.inl ⟨h, h2⟩), rfl⟩) (fun h2 => k2 (Or.inr h2)))
  refine kW_go ok_X12_wasThere [1] 20 ?_
  have hix : 0 ≤ 2400 * n + i ∧ 2400 * n + i < ((19200 : Nat) : Int) := by omega
  exact ⟨by constructor <;> omega, by constructor <;> omega, hix, by constructor <;> omega, by constructor <;> omega, hix, loop (m 91 n).toNat 0 none none (by omega) (by omega) (fun j' hj' => by omega)⟩
/-- the rows of traces alike -/
def rows19 (w d l : Int) (c c' : Mem) : Prop := ∀ n x : Int, (0 ≤ n ∧ n < 8) → inC w d l x → c' 19 (n * (w * d * l) + x) = c 19 (n * (w * d * l) + x)
set_option maxRecDepth 100000 in
theorem c_X12_steady (X : Xv) (c m : Mem) {w d l : Int} {ex : Int → Int} (hD : okD w d l) (hM : WM w d l c) (hR : RR w d l c m) (hex : ∀ y, inC w d l y → ex y = 0) : kCall (eX X) 10 M_X12_steady.1 [vR 54] m (fun r m' => ∃ s c', ordA w d l ex c s c' ∧ r = some (vI (iv (rows19 w d l c c') 1)) ∧ RR w d l c m' ∧ ∀ o, o < 54 → m' o = m o) := by
  have h8 := hM.1.2.1
  refine kCall_ofT ok_X12_steady rfl (Nat.le_of_ble_eq_true rfl) (fun T hT => ?_)
  refine kW_go ok_X12_steady [1] 20 ?_
  refine kCall_mono (c_X12_keepNow X c m hD h8 (RR_0 hR)) (Nat.le_of_ble_eq_true rfl) ?_
  rintro _ m1 ⟨rfl, hS1, hf1⟩
  have hR1 : RR w d l c m1 := RR_ref (fun o h1 h2 => hf1 o (by omega) (by omega) (by omega)) hR
  refine kCall_mono (c_X12_order X c m1 hD hM hR1 hex) (Nat.le_of_ble_eq_true rfl) ?_
  rintro _ m2 ⟨s, c', hO, rfl, hR2, hM2, hc2, hf2, hst⟩
  have hS2 : SA 89 90 91 w d l c m2 := SA_same (hf2.1 89 (by omega)) (hf2.1 90 (by omega)) (hf2.1 91 (by omega)) hS1
  have h26 : m2 54 26 = c 9 14 := by rw [hR2.1.2.2.2.1.1, hc2 9 (by decide) (by decide)]
  -- a net's list is as it was
  obtain ⟨A, hA⟩ : ∃ A : Int → Prop, ∀ n, A n ↔ (m2 68 n = m2 91 n ∧ ∀ i : Int, (0 ≤ i ∧ i < m2 68 n) → wasT (fun j => m2 69 (2400 * n + j)) (fun j => m2 70 (2400 * n + j)) (fun j => m2 89 (2400 * n + j)) (fun j => m2 90 (2400 * n + j)) (m2 91 n) i) := ⟨_, fun _ => Iff.rfl⟩
  have hAr : ∀ n : Int, (0 ≤ n ∧ n < c 9 14) → (A n ↔ ∀ x, inC w d l x → c' 19 (n * (w * d * l) + x) = c 19 (n * (w * d * l) + x)) := by
    intro n hn
    have hk := RRn_k.mp (hR2.2.1 n (by omega))
    rw [hA]
    refine lists_eq hD hk.1.2.2.1 (hS2 n hn).1 (fun x hx => ?_)
    have w1 := (hM2.2.2.1 n (by omega)).1 x hx
    have w2 := (hM.2.2.1 n (by omega)).1 x hx
    exact ⟨w1.1.2, w2.1.2, fun k hk hne => ⟨(w1.2.1 k hk hne).2, (w2.2.1 k hk hne).2⟩⟩
  have hle : ∀ n : Int, (0 ≤ n ∧ n < c 9 14) → (0 ≤ m2 68 n ∧ m2 68 n ≤ 972) ∧ (0 ≤ m2 91 n ∧ m2 91 n ≤ 972) := fun n hn => ⟨⟨(RRn_k.mp (hR2.2.1 n (by omega))).1.2.2.1.1.1, okL_le hD (RRn_k.mp (hR2.2.1 n (by omega))).1.2.2.1.1⟩, (hS2 n hn).1.1.1, okL_le hD (hS2 n hn).1.1⟩
  have hall : (∀ n : Int, (0 ≤ n ∧ n < c 9 14) → A n) ↔ rows19 w d l c c' := by
    constructor
    · intro h n x hn hx
      by_cases hnn : n < c 9 14
      · exact (hAr n ⟨hn.1, hnn⟩).mp (h n ⟨hn.1, hnn⟩) x hx
      · rw [((hM2.2.2.1 n hn).2 (by rw [hc2 9 (by decide) (by decide)]; omega) x hx).2, ((hM.2.2.1 n hn).2 (by omega) x hx).2]
    · exact fun h n hn => (hAr n hn).mpr (fun x hx => h n x (by omega) hx)
  -- what is brought back
  have fin : ∀ z : Int, kCall (eX X) 2 M_X12_bringNow.1 [vR 54] m2 (fun r m' => r = none ∧ RR w d l c m' ∧ ∀ o, o < 54 → m' o = m o) := by
    intro z
    refine kCall_mono (c_X12_bringNow X c c' m2 hD hM hM2 hc2 (RR_0 hR2) hS2) (Nat.le_of_ble_eq_true rfl) ?_
    rintro _ m3 ⟨rfl, hR3, hf3⟩
    have e54 := hf3 54 (by decide) (by decide) (by decide) (by decide)
    exact ⟨rfl, ⟨hR3.1, hR3.2, by rw [e54]; exact hst.1, by rw [e54]; exact hst.2.1⟩, fun o ho => by rw [hf3 o (by omega) (by omega) (by omega) (by omega), hf2.1 o (by omega), hf1 o (by omega) (by omega) (by omega)]⟩
  have outer : ∀ (q : Nat) (n : Int) (x3 : Option AV), n + q = c 9 14 → 0 ≤ n → kW (eX X) 9 M_X12_steady T 1 [some (vR 54), some (vI (iv (∀ n' : Int, (0 ≤ n' ∧ n' < n) → A n') 1)), some (vI n), x3] [] m2 := by
    intro q
    induction q with
    | zero =>
      intro n x3 hnq h0
      by_cases hs : ∀ n' : Int, (0 ≤ n' ∧ n' < n) → A n'
      · rw [iv_t hs]
        refine kW_go ok_X12_steady [1, 4] 20 ?_
        refine And.intro (fun _ => ?_) (fun h => ?_)
        · refine kCall_mono (fin 0) (Nat.le_of_ble_eq_true rfl) ?_
          rintro _ m3 ⟨rfl, hR3, hf3⟩
          refine hT _ _ ⟨Or.inr rfl, s, c', hO, ?_, hR3, hf3⟩
          rw [iv_t (hall.mp (fun n' hn' => hs n' (by omega)))]
        · have h : n < m2 54 26 := h
          omega
      · rw [iv_f hs]
        refine kW_go ok_X12_steady [1, 4] 20 ?_
        refine And.intro (fun _ => ?_) (fun h => ?_)
        · refine kCall_mono (fin 0) (Nat.le_of_ble_eq_true rfl) ?_
          rintro _ m3 ⟨rfl, hR3, hf3⟩
          refine hT _ _ ⟨Or.inl rfl, s, c', hO, ?_, hR3, hf3⟩
          rw [iv_f (fun z => hs (fun n' hn' => hall.mpr z n' (by omega)))]
        · have h : n < m2 54 26 := h
          omega
    | succ q ih =>
      intro n x3 hnq h0
      have hn8 : 0 ≤ n ∧ n < 8 := by omega
      have hnb : 0 ≤ n ∧ n < ((8 : Nat) : Int) := hn8
      have hl := hle n (by omega)
      have inner : ∀ (p : Nat) (k : Int), k + p = m2 68 n → 0 ≤ k → kW (eX X) 9 M_X12_steady T 4 [some (vR 54), some (vI (iv ((∀ n' : Int, (0 ≤ n' ∧ n' < n) → A n') ∧ m2 68 n = m2 91 n ∧ ∀ i : Int, (0 ≤ i ∧ i < k) → wasT (fun j => m2 69 (2400 * n + j)) (fun j => m2 70 (2400 * n + j)) (fun j => m2 89 (2400 * n + j)) (fun j => m2 90 (2400 * n + j)) (m2 91 n) i) 1)), some (vI n), some (vI k)] [] m2 := by
        intro p
        induction p with
        | zero =>
          intro k hkp hk0
          have he : ((∀ n' : Int, (0 ≤ n' ∧ n' < n) → A n') ∧ m2 68 n = m2 91 n ∧ ∀ i : Int, (0 ≤ i ∧ i < k) → wasT (fun j => m2 69 (2400 * n + j)) (fun j => m2 70 (2400 * n + j)) (fun j => m2 89 (2400 * n + j)) (fun j => m2 90 (2400 * n + j)) (m2 91 n) i) ↔ ∀ n' : Int, (0 ≤ n' ∧ n' < n + 1) → A n' := by
            have hk : k = m2 68 n := by omega
            rw [hk, ← hA]
            constructor
            · rintro ⟨a, b⟩ n' hn'
              by_cases e : n' = n
              · rw [e]; exact b
              · exact a n' (by omega)
            · exact fun z => ⟨fun n' hn' => z n' (by omega), z n (by omega)⟩
          rw [iv_cong he]
          refine kW_go ok_X12_steady [1, 4] 20 ?_
          refine ⟨hnb, And.intro (fun _ => ⟨by constructor <;> omega, ih (n + 1) _ (by omega) (by omega)⟩) (fun h => ?_)⟩
          have h : k < m2 68 n := h
          omega
        | succ p ihp =>
          intro k hkp hk0
          have hih := ihp (k + 1) (by omega) (by omega)
          by_cases hs : (∀ n' : Int, (0 ≤ n' ∧ n' < n) → A n') ∧ m2 68 n = m2 91 n ∧ ∀ i : Int, (0 ≤ i ∧ i < k) → wasT (fun j => m2 69 (2400 * n + j)) (fun j => m2 70 (2400 * n + j)) (fun j => m2 89 (2400 * n + j)) (fun j => m2 90 (2400 * n + j)) (m2 91 n) i
          · rw [iv_t hs]
            refine kW_go ok_X12_steady [1, 4] 20 ?_
            refine ⟨hnb, And.intro (fun h => ?_) (fun _ => And.intro (fun h => absurd h (by decide)) (fun _ => ?_))⟩
            · have h : m2 68 n ≤ k := h
              omega
            · refine kCall_mono (c_X12_wasThere X m2 n k hn8 (by omega) (by omega)) (Nat.le_of_ble_eq_true rfl) ?_
              rintro _ m3 ⟨rfl, rfl⟩
              by_cases hw : wasT (fun j => m3 69 (2400 * n + j)) (fun j => m3 70 (2400 * n + j)) (fun j => m3 89 (2400 * n + j)) (fun j => m3 90 (2400 * n + j)) (m3 91 n) k
              · rw [iv_t hw]
                refine And.intro (fun h => absurd h (by decide)) (fun _ => ⟨by constructor <;> omega, ?_⟩)
                rw [iv_t] at hih
                · exact hih
                · refine ⟨hs.1, hs.2.1, fun i hi => ?_⟩
                  by_cases e : i = k
                  · rw [e]; exact hw
                  · exact hs.2.2 i (by omega)
              · rw [iv_f hw]
                refine And.intro (fun _ => ⟨by constructor <;> omega, ?_⟩) (fun h => absurd rfl h)
                rw [iv_f] at hih
                · exact hih
                · exact fun z => hw (z.2.2 k (by omega))
          · rw [iv_f hs]
            refine kW_go ok_X12_steady [1, 4] 20 ?_
            refine ⟨hnb, And.intro (fun h => ?_) (fun _ => And.intro (fun _ => ⟨by constructor <;> omega, ?_⟩) (fun h => absurd rfl h))⟩
            · have h : m2 68 n ≤ k := h
              omega
            · rw [iv_f] at hih
              · exact hih
              · exact fun z => hs ⟨z.1, z.2.1, fun i hi => z.2.2 i (by omega)⟩
      have hin := inner (m2 68 n).toNat 0 (by omega) (by omega)
      have h0i : ∀ i : Int, (0 ≤ i ∧ i < 0) → wasT (fun j => m2 69 (2400 * n + j)) (fun j => m2 70 (2400 * n + j)) (fun j => m2 89 (2400 * n + j)) (fun j => m2 90 (2400 * n + j)) (m2 91 n) i := fun i hi => by omega
      by_cases hs : ∀ n' : Int, (0 ≤ n' ∧ n' < n) → A n'
      · rw [iv_t hs]
        refine kW_go ok_X12_steady [1, 4] 20 ?_
        refine And.intro (fun h => ?_) (fun _ => And.intro (fun h => absurd h (by decide)) (fun _ => ⟨hnb, hnb, And.intro (fun h => ?_) (fun h => ?_)⟩))
        · have h : m2 54 26 ≤ n := h
          omega
        · rw [iv_f (fun z => h z.2.1)] at hin
          exact hin
        · rw [iv_t ⟨hs, h, h0i⟩] at hin
          exact hin
      · rw [iv_f hs]
        refine kW_go ok_X12_steady [1, 4] 20 ?_
        refine And.intro (fun h => ?_) (fun _ => And.intro (fun _ => ?_) (fun h => absurd rfl h))
        · have h : m2 54 26 ≤ n := h
          omega
        · rw [iv_f (fun z => hs z.1)] at hin
          exact hin
  have := outer (c 9 14).toNat 0 none (by omega) (by omega)
  rw [iv_t (fun n' hn' => by omega)] at this
  exact this
