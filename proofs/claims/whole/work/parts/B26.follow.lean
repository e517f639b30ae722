/-! a trail followed -/
/-- the cells and moves of a trail, told by bits of moves -/
def TrL (w d l : Int) (row : Int → Int) (q : Int) (P K : Int → Int) : Prop := (∀ i : Int, (0 ≤ i ∧ i ≤ q) → inC w d l (P i)) ∧ (∀ i : Int, (0 ≤ i ∧ i < q) → (0 ≤ K i ∧ K i < 6) ∧ nx w d l (P i) (K i) ≠ -1 ∧ nx w d l (P i) (K i) = P (i + 1)) ∧ (∀ i j : Int, (0 ≤ i ∧ i < j ∧ j ≤ q) → P i ≠ P j) ∧ ∀ x k : Int, inC w d l x → (0 ≤ k ∧ k < 6) → nx w d l x k ≠ -1 → (bt (row x) k.toNat = true ↔ ∃ i : Int, (0 ≤ i ∧ i < q) ∧ ((P i = x ∧ K i = k) ∨ (P (i + 1) = x ∧ oppF (K i) = k)))
theorem CH_TrL {w d l : Int} (hD : okD w d l) {f t row : Int → Int} {q p1 : Int} (hp : inC w d l p1) (hL : LT w d l f t q row) (hC : CH f t q (cR w d p1)) : ∃ P K : Int → Int, TrL w d l row q P K ∧ P 0 = p1 ∧ ∀ i : Int, (0 ≤ i ∧ i < q) → f i = cR w d (P i) ∧ t i = cR w d (P (i + 1)) := by
  obtain ⟨⟨h0, h1, -⟩, h4⟩ := hL
  obtain ⟨c1, c2, c3, c4⟩ := hC
  obtain ⟨P, hP⟩ : ∃ P : Int → Int, ∀ i, P i = if i < q then cC w d (f i) else if 0 < q then cC w d (t (q - 1)) else p1 := ⟨_, fun _ => rfl⟩
  have hK : ∀ i : Int, ∃ k : Int, (0 ≤ i ∧ i < q) → (0 ≤ k ∧ k < 6) ∧ ∃ x, inC w d l x ∧ nx w d l x k ≠ -1 ∧ f i = cR w d x ∧ t i = cR w d (nx w d l x k) := by
    intro i
    by_cases hi : 0 ≤ i ∧ i < q
    · obtain ⟨x, k, hx, hk, hne, e1, e2⟩ := h1 i hi
      exact ⟨k, fun _ => ⟨hk, x, hx, hne, e1, e2⟩⟩
    · exact ⟨0, fun z => absurd z hi⟩
  obtain ⟨K, hK⟩ := Classical.axiomOfChoice hK
  have hPi : ∀ i : Int, (0 ≤ i ∧ i < q) → (0 ≤ K i ∧ K i < 6) ∧ inC w d l (P i) ∧ nx w d l (P i) (K i) ≠ -1 ∧ f i = cR w d (P i) ∧ t i = cR w d (nx w d l (P i) (K i)) := by
    intro i hi
    obtain ⟨hk, x, hx, hne, e1, e2⟩ := hK i hi
    have e : P i = x := by rw [hP, if_pos hi.2, e1, (cR_in hD hx).2]
    rw [e]
    exact ⟨hk, hx, hne, e1, e2⟩
  have hnx : ∀ i : Int, (0 ≤ i ∧ i < q) → nx w d l (P i) (K i) = P (i + 1) := by
    intro i hi
    obtain ⟨hk, hx, hne, e1, e2⟩ := hPi i hi
    have hyi := (nx_in hne).1
    have e3 : cC w d (t i) = nx w d l (P i) (K i) := by rw [e2, (cR_in hD hyi).2]
    rw [← e3, hP (i + 1)]
    by_cases hlt : i + 1 < q
    · rw [if_pos hlt, c2 i hi.1 hlt]
    · rw [if_neg hlt, if_pos (by omega), show q - 1 = i by omega]
  have hPin : ∀ i : Int, (0 ≤ i ∧ i ≤ q) → inC w d l (P i) := by
    intro i hi
    by_cases hlt : i < q
    · exact (hPi i ⟨hi.1, hlt⟩).2.1
    · by_cases hq : 0 < q
      · have := hPi (q - 1) (by omega)
        have e := hnx (q - 1) (by omega)
        rw [show i = q - 1 + 1 by omega, ← e]
        exact (nx_in this.2.2.1).1
      · rw [hP, if_neg hlt, if_neg hq]
        exact hp
  refine ⟨P, K, ⟨hPin, fun i hi => ⟨(hPi i hi).1, (hPi i hi).2.2.1, hnx i hi⟩, fun i j hij e => ?_, fun x k hx hk hne => ?_⟩, ?_, fun i hi => ⟨(hPi i hi).2.2.2.1, by rw [← hnx i hi]; exact (hPi i hi).2.2.2.2⟩⟩
  · have ei := (hPi i (by omega)).2.2.2.1
    by_cases hj : j < q
    · have ej := (hPi j (by omega)).2.2.2.1
      exact c3 i j ⟨hij.1, hij.2.1, hj⟩ (by rw [ei, ej, e])
    · have ej := (hPi (q - 1) (by omega)).2.2.2.2
      have e' := hnx (q - 1) (by omega)
      rw [show q - 1 + 1 = j by omega] at e'
      exact c4 i (by omega) (by rw [ei, ej, e', e])
  · rw [h4 x k hx hk hne]
    constructor
    · rintro ⟨i, hi, ⟨a, b⟩ | ⟨a, b⟩⟩
      · obtain ⟨hk', hx', hne', e1, e2⟩ := hPi i hi
        have ex : P i = x := cR_inj hD hx' hx (by rw [← e1, a])
        refine ⟨i, hi, Or.inl ⟨ex, ?_⟩⟩
        rw [ex] at hne' e2
        exact nx_inj hk' hk hne' (cR_inj hD (nx_in hne').1 (nx_in hne).1 (by rw [← e2, b]))
      · obtain ⟨hk', hx', hne', e1, e2⟩ := hPi i hi
        have hyi := (nx_in hne).1
        have ex : P i = nx w d l x k := cR_inj hD hx' hyi (by rw [← e1, a])
        have ey : nx w d l (P i) (K i) = x := cR_inj hD (nx_in hne').1 hx (by rw [← e2, b])
        refine ⟨i, hi, Or.inr ⟨by rw [← hnx i hi, ey], ?_⟩⟩
        have hb := nx_opp hD hx' hk' hne'
        rw [ey] at hb
        exact nx_inj (opp_in hk') hk (by rw [hb]; have := hx'.1; omega) (by rw [hb, ex])
    · rintro ⟨i, hi, ⟨a, b⟩ | ⟨a, b⟩⟩
      · obtain ⟨hk', hx', hne', e1, e2⟩ := hPi i hi
        exact ⟨i, hi, Or.inl ⟨by rw [← a]; exact e1, by rw [← a, ← b]; exact e2⟩⟩
      · obtain ⟨hk', hx', hne', e1, e2⟩ := hPi i hi
        rw [← hnx i hi] at a
        have hb := nx_opp hD hx' hk' hne'
        rw [a, b] at hb
        exact ⟨i, hi, Or.inr ⟨by rw [hb]; exact e1, by rw [← a]; exact e2⟩⟩
  · by_cases hq : 0 < q
    · have := (hPi 0 (by omega)).2.2.2.1
      exact cR_inj hD (hPin 0 (by omega)) hp (by rw [← this]; exact c1 hq)
    · rw [hP, if_neg (by omega), if_neg hq]
