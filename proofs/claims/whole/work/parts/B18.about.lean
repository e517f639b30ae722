/-! ABOUT and EQUAL alike -/
/-- what a row's bits count, of the three moves that count -/
def r3 (v : Int) (h : Int → Int) : Int := (if bt v 1 = true then h 1 else 0) + (if bt v 2 = true then h 2 else 0) + (if bt v 4 = true then h 4 else 0)
theorem e3_r3 {w d l : Int} {f t row : Int → Int} {q x : Int} (h : LT w d l f t q row) (hx : inC w d l x) (hz : ∀ k : Int, (0 ≤ k ∧ k < 6) → nx w d l x k = -1 → bt (row x) k.toNat = false) (g : Int → Int) : e3 (fun k => nx w d l x k ≠ -1 ∧ eds w d l f t q x k) g = r3 (row x) g := by
  have hv : ∀ k, can k → iv (nx w d l x k ≠ -1 ∧ eds w d l f t q x k) (g k) = if bt (row x) k.toNat = true then g k else 0 := by
    intro k hk
    by_cases hne : nx w d l x k = -1
    · rw [iv_f (fun z => z.1 hne), hz k (can_in hk) hne]
      rfl
    · have hq := h.2 x k hx (can_in hk) hne
      by_cases hb : bt (row x) k.toNat = true
      · rw [if_pos hb, iv_t ⟨hne, hq.mp hb⟩]
      · rw [if_neg hb, iv_f (fun z => hb (hq.mpr z.2))]
  show iv _ (g 1) + iv _ (g 2) + iv _ (g 4) = _
  rw [hv 1 (Or.inl rfl), hv 2 (Or.inr (Or.inl rfl)), hv 4 (Or.inr (Or.inr rfl))]
  rfl
/-- a sum over a list, told by the rows of bits -/
theorem sum_rows {w d l : Int} (hD : okD w d l) {N : Nat} (hN : w * d * l = (N : Int)) {f t row : Int → Int} {q : Int} (hL : LT w d l f t q row) (hz : ∀ x, inC w d l x → ∀ k : Int, (0 ≤ k ∧ k < 6) → nx w d l x k = -1 → bt (row x) k.toNat = false) (H : Int → Int → Int) (h : Int → Int → Int) (hH : ∀ x k, inC w d l x → can k → nx w d l x k ≠ -1 → H (cR w d x) (cR w d (nx w d l x k)) = h x k ∧ H (cR w d (nx w d l x k)) (cR w d x) = h x k) : sumN (fun i => H (f i) (t i)) q.toNat = sumN (fun x => r3 (row x) (h x)) N := by
  have hq : ((q.toNat : Nat) : Int) = q := by have := hL.1.1; omega
  rw [sum_list hD hN H h hH q.toNat (by rw [hq]; exact hL.1), hq]
  exact sumN_cong (fun x h0 h1 => e3_r3 hL ⟨h0, by omega⟩ (hz x ⟨h0, by omega⟩) (h x))
theorem sumN_nn {f : Int → Int} : ∀ {k : Nat}, (∀ i : Int, 0 ≤ i → i < k → 0 ≤ f i) → 0 ≤ sumN f k := by
  intro k
  induction k with
  | zero => intro _; exact Int.le_refl _
  | succ k ih =>
    intro h
    have h1 := ih (fun i a b => h i a (by omega))
    have h2 := h (k : Int) (by omega) (by omega)
    show 0 ≤ sumN f k + f k
    omega
theorem sumN_one (k : Nat) : sumN (fun _ => (1 : Int)) k = k := by
  induction k with
  | zero => rfl
  | succ k ih => show sumN (fun _ => (1 : Int)) k + 1 = _; rw [ih]; omega
theorem list_rows {w d l : Int} (hD : okD w d l) {N : Nat} (hN : w * d * l = (N : Int)) {f t row : Int → Int} {q : Int} (hL : LT w d l f t q row) (hz : ∀ x, inC w d l x → ∀ k : Int, (0 ≤ k ∧ k < 6) → nx w d l x k = -1 → bt (row x) k.toNat = false) : q = sumN (fun x => r3 (row x) (fun _ => 1)) N := by
  have hs := sum_rows hD hN hL hz (fun _ _ => 1) (fun _ _ => 1) (fun _ _ _ _ _ => ⟨rfl, rfl⟩)
  rw [sumN_one] at hs
  rw [← hs]
  have := hL.1.1
  omega
theorem lay_eq {w d l x k : Int} (hD : okD w d l) (hx : inC w d l x) (hk : can k) (hne : nx w d l x k ≠ -1) : (cR w d x / 81 = cR w d (nx w d l x k) / 81) ↔ k ≠ 4 := by
  have h1 := (cR_geo hD hx).2.2.2
  have h2 := nx_in hne
  have h3 := (cR_geo hD h2.1).2.2.2
  rw [h1, h3, h2.2.2.2]
  rcases hk with rfl | rfl | rfl
  · rw [show dZ 1 = 0 from rfl]; omega
  · rw [show dZ 2 = 0 from rfl]; omega
  · rw [show dZ 4 = 1 from rfl]; omega
/-- the length of a net's traces -/
def lenA (N : Nat) (c : Mem) (n : Int) : Int := sumN (fun x => pop (kand (c 19 (n * (N : Int) + x)) 6)) N
theorem pop6 {v : Int} (h : 0 ≤ v ∧ v < 64) : pop (kand v 6) = r3 v (fun k => if k = 4 then 0 else 1) ∧ kand (kshr v 4) 1 = r3 v (fun k => if k = 4 then 1 else 0) := by
  have : ∀ i : Fin 64, pop (kand (i.val : Int) 6) = r3 (i.val : Int) (fun k => if k = 4 then 0 else 1) ∧ kand (kshr (i.val : Int) 4) 1 = r3 (i.val : Int) (fun k => if k = 4 then 1 else 0) := by decide +kernel
  exact k_fin (P := fun v => pop (kand v 6) = r3 v (fun k => if k = 4 then 0 else 1) ∧ kand (kshr v 4) 1 = r3 v (fun k => if k = 4 then 1 else 0)) this h.1 (by omega)
theorem r3_plus (v : Int) (g h : Int → Int) : r3 v (fun k => g k + h k) = r3 v g + r3 v h := by
  unfold r3
  dsimp only
  split <;> split <;> split <;> omega
/-- the length and the vias of a list -/
theorem len_list {w d l : Int} (hD : okD w d l) {N : Nat} (hN : w * d * l = (N : Int)) {c r : Mem} {n : Int} (hn : 0 ≤ n ∧ n < 8) (hW : WFn w d l c n) (hR : RRk w d l c r n) : sumN (fun i => if r 69 (2400 * n + i) / 81 = r 70 (2400 * n + i) / 81 then 1 else 0) (r 68 n).toNat = lenA N c n ∧ r 68 n - lenA N c n = sumN (fun x => kand (kshr (c 19 (n * (N : Int) + x)) 4) 1) N ∧ 0 ≤ lenA N c n ∧ lenA N c n ≤ 972 := by
  have hL := hR.2.2.1
  have hz : ∀ x, inC w d l x → ∀ k : Int, (0 ≤ k ∧ k < 6) → nx w d l x k = -1 → bt (c 19 (n * (w * d * l) + x)) k.toNat = false := fun x hx k hk hne => ((hW.1 x hx).2.1 k hk hne).2
  have h1 := sum_rows hD hN hL hz (fun a b => if a / 81 = b / 81 then 1 else 0) (fun _ k => if k = 4 then 0 else 1) (fun x k hx hk hne => by
    have := lay_eq hD hx hk hne
    by_cases e : k = 4
    · rw [if_pos e, if_neg (fun z => this.mp z e), if_neg (fun z => this.mp z.symm e)]
      exact ⟨rfl, rfl⟩
    · rw [if_neg e, if_pos (this.mpr e), if_pos (this.mpr e).symm]
      exact ⟨rfl, rfl⟩)
  have e6 : sumN (fun x => r3 (c 19 (n * (w * d * l) + x)) (fun k => if k = 4 then 0 else 1)) N = lenA N c n := by
    unfold lenA
    refine sumN_cong (fun x h0 h1 => ?_)
    have hx : inC w d l x := ⟨h0, by omega⟩
    rw [← hN, (pop6 (hW.1 x hx).1.2).1]
  have hq := list_rows hD hN hL hz
  have e4 : sumN (fun x => r3 (c 19 (n * (w * d * l) + x)) (fun k => if k = 4 then 1 else 0)) N = sumN (fun x => kand (kshr (c 19 (n * (N : Int) + x)) 4) 1) N := by
    refine sumN_cong (fun x h0 h1 => ?_)
    have hx : inC w d l x := ⟨h0, by omega⟩
    rw [← hN, (pop6 (hW.1 x hx).1.2).2]
  have hsum : r 68 n = lenA N c n + sumN (fun x => kand (kshr (c 19 (n * (N : Int) + x)) 4) 1) N := by
    rw [← e6, ← e4, ← sumN_plus, hq]
    refine sumN_cong (fun x _ _ => ?_)
    rw [← r3_plus]
    refine congrArg (r3 _) (funext (fun k => ?_))
    by_cases e : k = 4
    · rw [if_pos e, if_pos e]; rfl
    · rw [if_neg e, if_neg e]; rfl
  have hle := okL_le hD hL.1
  have hnn : 0 ≤ lenA N c n := by
    rw [← h1.trans e6]
    exact sumN_nn (fun i _ _ => by show (0 : Int) ≤ if _ then 1 else 0; split <;> decide)
  have hn4 : 0 ≤ sumN (fun x => kand (kshr (c 19 (n * (N : Int) + x)) 4) 1) N := by
    rw [← e4]
    refine sumN_nn (fun i _ _ => ?_)
    show 0 ≤ r3 _ _
    unfold r3
    split <;> split <;> split <;> decide
  exact ⟨h1.trans e6, by omega, hnn, by omega⟩
theorem c_X12_lengthOf (X : Xv) (c m : Mem) {w d l : Int} (hD : okD w d l) (hN : w * d * l = (nC X : Int)) (n : Int) (hn : 0 ≤ n ∧ n < 8) (hW : WFn w d l c n) (hR : RRk w d l c m n) : kCall (eX X) 2 M_X12_lengthOf.1 [vR 54, vI n] m (cP (lenA (nC X) c n) m) := by
  have hnb : 0 ≤ n ∧ n < ((8 : Nat) : Int) := hn
  have hle := okL_le hD hR.2.2.1.1
  have h0 := hR.2.2.1.1.1
  have hval : ∀ i : Int, (0 ≤ i ∧ i < m 68 n) → (0 ≤ m 69 (2400 * n + i) ∧ m 69 (2400 * n + i) < 324) ∧ (0 ≤ m 70 (2400 * n + i) ∧ m 70 (2400 * n + i) < 324) := fun i hi => by
    have := LT_val hD hR.2.2.1 hi
    exact ⟨this.1, this.2.1⟩
  refine kCall_ofT ok_X12_lengthOf rfl (Nat.le_of_ble_eq_true rfl) (fun T hT => ?_)
  have loop : ∀ (k : Nat) (i : Int), i + k = m 68 n → 0 ≤ i → (0 ≤ sumN (fun i => if m 69 (2400 * n + i) / 81 = m 70 (2400 * n + i) / 81 then 1 else 0) i.toNat ∧ sumN (fun i => if m 69 (2400 * n + i) / 81 = m 70 (2400 * n + i) / 81 then 1 else 0) i.toNat ≤ i) → kW (eX X) 1 M_X12_lengthOf T 1 [some (vR 54), some (vI n), some (vI (sumN (fun i => if m 69 (2400 * n + i) / 81 = m 70 (2400 * n + i) / 81 then 1 else 0) i.toNat)), some (vI i)] [] m := by
    intro k
    induction k with
    | zero =>
      intro i hik hi0 hs
      refine kW_go ok_X12_lengthOf [1] 20 ?_
      refine ⟨hnb, And.intro (fun _ => hT _ _ ⟨?_, rfl⟩) (fun h => ?_)⟩
      · rw [show i = m 68 n by omega, (len_list hD hN hn hW hR).1]
      · have h : i < m 68 n := h
        omega
    | succ k ih =>
      intro i hik hi0 hs
      have hv := hval i (by omega)
      have hix : 0 ≤ 2400 * n + i ∧ 2400 * n + i < ((19200 : Nat) : Int) := by omega
      have hstep : ∀ v : Int, v = (if m 69 (2400 * n + i) / 81 = m 70 (2400 * n + i) / 81 then 1 else 0) → inR (sumN (fun i => if m 69 (2400 * n + i) / 81 = m 70 (2400 * n + i) / 81 then 1 else 0) i.toNat + v) ∧ inR (i + 1) ∧ kW (eX X) 1 M_X12_lengthOf T 1 [some (vR 54), some (vI n), some (vI (sumN (fun i => if m 69 (2400 * n + i) / 81 = m 70 (2400 * n + i) / 81 then 1 else 0) i.toNat + v)), some (vI (i + 1))] [] m := by
        intro v hv
        have e : sumN (fun i => if m 69 (2400 * n + i) / 81 = m 70 (2400 * n + i) / 81 then 1 else 0) (i + 1).toNat = sumN (fun i => if m 69 (2400 * n + i) / 81 = m 70 (2400 * n + i) / 81 then 1 else 0) i.toNat + v := by
          rw [show (i + 1).toNat = i.toNat + 1 by omega]
          show sumN _ i.toNat + (if m 69 (2400 * n + ((i.toNat : Nat) : Int)) / 81 = m 70 (2400 * n + ((i.toNat : Nat) : Int)) / 81 then 1 else 0) = _
          rw [show ((i.toNat : Nat) : Int) = i by omega, hv]
        have hvb : 0 ≤ v ∧ v ≤ 1 := by rw [hv]; split <;> omega
        have := ih (i + 1) (by omega) (by omega) (by rw [e]; omega)
        rw [e] at this
        exact ⟨by constructor <;> omega, by constructor <;> omega, this⟩
      refine kW_go ok_X12_lengthOf [1] 20 ?_
      refine ⟨hnb, And.intro (fun h => ?_) (fun _ => ⟨by constructor <;> omega, by constructor <;> omega, hix, ?_⟩)⟩
      · have h : m 68 n ≤ i := h
        omega
      refine kCall_mono (c_X12_layerOf (eX X) m _ hv.1.1 (by omega)) (Nat.le_of_ble_eq_true rfl) ?_
      rintro _ m2 ⟨rfl, rfl⟩
      refine ⟨by constructor <;> omega, by constructor <;> omega, hix, ?_⟩
      refine kCall_mono (c_X12_layerOf (eX X) m2 _ hv.2.1 (by omega)) (Nat.le_of_ble_eq_true rfl) ?_
      rintro _ m3 ⟨rfl, rfl⟩
      exact And.intro (fun h => hstep 0 (by rw [if_neg h])) (fun h => hstep 1 (by rw [if_pos h]))
  refine kW_go ok_X12_lengthOf [1] 20 ?_
  exact loop (m 68 n).toNat 0 (by omega) (by omega) (by show 0 ≤ (0 : Int) ∧ (0 : Int) ≤ 0; omega)
