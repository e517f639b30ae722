/-! reaching, and the class's flood -/
def rch (st : Int → Int → Prop) : Nat → Int → Int → Prop
  | 0, a, b => a = b
  | k + 1, a, b => ∃ c, rch st k a c ∧ st c b
def Rch (st : Int → Int → Prop) (a b : Int) : Prop := ∃ k, rch st k a b
theorem Rch_rf {st : Int → Int → Prop} {a : Int} : Rch st a a := ⟨0, rfl⟩
theorem Rch_to {st : Int → Int → Prop} {a b c : Int} (h : Rch st a b) (hs : st b c) : Rch st a c := by
  obtain ⟨k, hk⟩ := h
  exact ⟨k + 1, b, hk, hs⟩
theorem Rch_ind {st : Int → Int → Prop} {a b : Int} {P : Int → Prop} (hP : ∀ c e, P c → st c e → P e) (ha : P a) (h : Rch st a b) : P b := by
  obtain ⟨k, hk⟩ := h
  induction k generalizing b with
  | zero => exact hk ▸ ha
  | succ k ih =>
    obtain ⟨c, h1, h2⟩ := hk
    exact hP c b (ih h1) h2
theorem Rch_mono {st st' : Int → Int → Prop} {a b : Int} (hs : ∀ c e, st c e → st' c e) (h : Rch st a b) : Rch st' a b := Rch_ind (P := fun e => Rch st' a e) (fun c e h1 h2 => Rch_to h1 (hs c e h2)) Rch_rf h
theorem Rch_tr {st : Int → Int → Prop} {a b c : Int} (h1 : Rch st a b) (h2 : Rch st b c) : Rch st a c := Rch_ind (P := fun e => Rch st a e) (fun _ _ h h' => Rch_to h h') h1 h2
theorem sumN_cong {f g : Int → Int} {k : Nat} (h : ∀ c : Int, 0 ≤ c → c < k → f c = g c) : sumN f k = sumN g k := by
  induction k with
  | zero => rfl
  | succ k ih =>
    unfold sumN
    rw [ih (fun c h0 h1 => h c h0 (by omega)), h (k : Int) (by omega) (by omega)]
theorem sumN_set {f g : Int → Int} {k : Nat} {i : Int} (hi : 0 ≤ i ∧ i < k) (h : ∀ c, c ≠ i → g c = f c) : sumN g k = sumN f k + (g i - f i) := by
  induction k with
  | zero => omega
  | succ k ih =>
    unfold sumN
    by_cases he : i = (k : Int)
    · rw [sumN_cong (f := g) (g := f) (fun c h0 h1 => h c (by omega)), he]
      omega
    · rw [ih (by omega), h (k : Int) (fun z => he z.symm)]
      omega
/-- 1 where an array isn't 0 -/
def flg (f : Int → Int) (c : Int) : Int := if f c = 0 then 0 else 1
theorem flg_in (f : Int → Int) (c : Int) : 0 ≤ flg f c ∧ flg f c ≤ 1 := by unfold flg; split <;> decide
/-- one move of the first so many into a free cell that was not reached before -/
def stF (w d l : Int) (m : Mem) (v a b : Int) : Prop := ∃ k : Int, (0 ≤ k ∧ k < v) ∧ nx w d l a k = b ∧ b ≠ -1 ∧ m 27 b ≠ 0 ∧ m 28 b = 0
theorem c_X6_floodMore (X : Xv) (m : Mem) {w d l : Int} (hD : okD w d l) (hn : w * d * l = (nC X : Int)) (hG : gridC m w d l) (a v : Int) (ha : inC w d l a) (hv : 0 ≤ v ∧ v ≤ 6) (h0a : m 28 a = 0) : kCall (eX X) 1 M_X6_floodMore.1 [vR 22, vI a, vI v] m (fun r m' => ∃ q : Int, r = some (vI q) ∧ (0 ≤ q ∧ q ≤ (nC X : Int)) ∧ (∀ o, o ≠ 28 → o ≠ 29 → m' o = m o) ∧ (∀ c, inC w d l c → (m' 28 c ≠ 0 ↔ m 28 c ≠ 0 ∨ Rch (stF w d l m v) a c)) ∧ (∀ c, m' 28 c = m 28 c ∨ m' 28 c = 1) ∧ sumN (flg (m' 28)) (nC X) = sumN (flg (m 28)) (nC X) + q ∧ ∀ c, (∃ j : Int, (0 ≤ j ∧ j < q) ∧ m' 29 j = c) ↔ Rch (stF w d l m v) a c) := by
  have hcc := okD_cells hD
  have hac : 0 ≤ a ∧ a < (nC X : Int) := by obtain ⟨p, q⟩ := ha; omega
  have g4 := hG.2.2.2.2.1
  refine kCall_ofT ok_X6_floodMore rfl (Nat.le_of_ble_eq_true rfl) (fun T hT => ?_)
  have hsum : ∀ f : Int → Int, 0 ≤ sumN (flg f) (nC X) ∧ sumN (flg f) (nC X) ≤ (nC X : Int) := fun f => by have := sumN_le (flg_in f) (nC X); omega
  -- what holds with q cells in the row
  have hJ : ∀ (q : Int) (m' : Mem), ((1 ≤ q ∧ (∀ o, o ≠ 28 → o ≠ 29 → m' o = m o) ∧ (∀ j : Int, (0 ≤ j ∧ j < q) → inC w d l (m' 29 j) ∧ Rch (stF w d l m v) a (m' 29 j)) ∧ (∀ c, (m' 28 c = m 28 c ∨ m' 28 c = 1) ∧ (m' 28 c ≠ 0 ↔ m 28 c ≠ 0 ∨ ∃ j : Int, (0 ≤ j ∧ j < q) ∧ m' 29 j = c)) ∧ (∃ j : Int, (0 ≤ j ∧ j < q) ∧ m' 29 j = a) ∧ sumN (flg (m' 28)) (nC X) = sumN (flg (m 28)) (nC X) + q) ↔ (1 ≤ q ∧ (∀ o, o ≠ 28 → o ≠ 29 → m' o = m o) ∧ (∀ j : Int, (0 ≤ j ∧ j < q) → inC w d l (m' 29 j) ∧ Rch (stF w d l m v) a (m' 29 j)) ∧ (∀ c, (m' 28 c = m 28 c ∨ m' 28 c = 1) ∧ (m' 28 c ≠ 0 ↔ m 28 c ≠ 0 ∨ ∃ j : Int, (0 ≤ j ∧ j < q) ∧ m' 29 j = c)) ∧ (∃ j : Int, (0 ≤ j ∧ j < q) ∧ m' 29 j = a) ∧ sumN (flg (m' 28)) (nC X) = sumN (flg (m 28)) (nC X) + q)) := fun _ _ => Iff.rfl
  obtain ⟨J, hJd⟩ : ∃ J : Int → Mem → Prop, ∀ q m', J q m' ↔ (1 ≤ q ∧ (∀ o, o ≠ 28 → o ≠ 29 → m' o = m o) ∧ (∀ j : Int, (0 ≤ j ∧ j < q) → inC w d l (m' 29 j) ∧ Rch (stF w d l m v) a (m' 29 j)) ∧ (∀ c, (m' 28 c = m 28 c ∨ m' 28 c = 1) ∧ (m' 28 c ≠ 0 ↔ m 28 c ≠ 0 ∨ ∃ j : Int, (0 ≤ j ∧ j < q) ∧ m' 29 j = c)) ∧ (∃ j : Int, (0 ≤ j ∧ j < q) ∧ m' 29 j = a) ∧ sumN (flg (m' 28)) (nC X) = sumN (flg (m 28)) (nC X) + q) := ⟨_, fun _ _ => Iff.rfl⟩
  clear hJ
  -- the cells before i in the row have no way on that isn't reached
  obtain ⟨C, hCd⟩ : ∃ C : Int → Int → Mem → Prop, ∀ i k m', C i k m' ↔ (∀ j : Int, (0 ≤ j ∧ j < i) → ∀ e : Int, (0 ≤ e ∧ e < v) → nx w d l (m' 29 j) e ≠ -1 → m 27 (nx w d l (m' 29 j) e) ≠ 0 → m' 28 (nx w d l (m' 29 j) e) ≠ 0) ∧ (∀ e : Int, (0 ≤ e ∧ e < k) → nx w d l (m' 29 i) e ≠ -1 → m 27 (nx w d l (m' 29 i) e) ≠ 0 → m' 28 (nx w d l (m' 29 i) e) ≠ 0) := ⟨_, fun _ _ _ => Iff.rfl⟩
  have inner : ∀ (i : Int), 0 ≤ i → (∀ q m' x5 x6, i < q → J q m' → C (i + 1) 0 m' → kW (eX X) 0 M_X6_floodMore T 4 [some (vR 22), some (vI a), some (vI v), some (vI q), some (vI i), x5, x6] [] m') →
      ∀ (k : Nat) (e q : Int) (m' : Mem) (x6 : Option AV), e + k = v → 0 ≤ e → i < q → J q m' → C i e m' → kW (eX X) 0 M_X6_floodMore T 2 [some (vR 22), some (vI a), some (vI v), some (vI q), some (vI i), some (vI e), x6] [] m' := by
    intro i hi hout k
    induction k with
    | zero =>
      intro e q m' x6 hk he hq hj hc
      refine kW_go ok_X6_floodMore [2, 3, 4] 20 ?_
      refine ⟨fun _ => hout q m' _ _ hq hj ((hCd _ _ _).mpr ⟨fun j hj' e' he' => ?_, fun e' he' => by omega⟩), fun h => absurd h (by omega)⟩
      have hc' := (hCd _ _ _).mp hc
      by_cases hji : j = i
      · rw [hji]; exact hc'.2 e' (by omega)
      · exact hc'.1 j (by omega) e' he'
    | succ k ih =>
      intro e q m' x6 hk he hq hj hc
      have hj' := (hJd _ _).mp hj
      obtain ⟨q1, hf, hrow, hre, hain, hsm⟩ := hj'
      have hc' := (hCd _ _ _).mp hc
      have hqN : q ≤ (nC X : Int) := by have := hsum (m' 28); have := hsum (m 28); omega
      have hcell := (hrow i ⟨hi, hq⟩).1
      have hnx : m 2 (m' 29 i * 6 + e) = nx w d l (m' 29 i) e := (hG.2.2.2.2.2 _ hcell).2.2.2 e he (by omega)
      have hcb : 0 ≤ m' 29 i ∧ m' 29 i < (nC X : Int) := by obtain ⟨p1, p2⟩ := hcell; omega
      have f2 : m' 2 = m 2 := hf 2 (by decide) (by decide)
      have f27 : m' 27 = m 27 := hf 27 (by decide) (by decide)
      have hend : ∀ (q' : Int) (m4 : Mem), i < q' → J q' m4 → C i (e + 1) m4 → kW (eX X) 0 M_X6_floodMore T 3 [some (vR 22), some (vI a), some (vI v), some (vI q'), some (vI i), some (vI e), some (vI (nx w d l (m' 29 i) e))] [] m4 := by
        intro q' m4 h1 h2 h3
        refine kW_go ok_X6_floodMore [2] 20 ?_
        exact ⟨by constructor <;> omega, ih (e + 1) q' m4 _ (by omega) (by omega) h1 h2 h3⟩
      -- nothing to add
      have hsame : (nx w d l (m' 29 i) e ≠ -1 → m 27 (nx w d l (m' 29 i) e) ≠ 0 → m' 28 (nx w d l (m' 29 i) e) ≠ 0) → C i (e + 1) m' := by
        intro h
        refine (hCd _ _ _).mpr ⟨hc'.1, fun e' he' => ?_⟩
        by_cases hee : e' = e
        · rw [hee]; exact h
        · exact hc'.2 e' (by omega)
      refine kW_go ok_X6_floodMore [2, 3, 4] 20 ?_
      refine ⟨fun h => absurd h (by omega), fun _ => ?_⟩
      show (0 ≤ i ∧ i < (nC X : Int)) ∧ inR (m' 29 i * 6) ∧ inR (m' 29 i * 6 + e) ∧ (0 ≤ m' 29 i * 6 + e ∧ m' 29 i * 6 + e < ((nC X * 6 : Nat) : Int)) ∧ (m' 2 (m' 29 i * 6 + e) = -1 → kW (eX X) 0 M_X6_floodMore T 3 [some (vR 22), some (vI a), some (vI v), some (vI q), some (vI i), some (vI e), some (vI (m' 2 (m' 29 i * 6 + e)))] [] m') ∧ (¬ m' 2 (m' 29 i * 6 + e) = -1 → (0 ≤ m' 2 (m' 29 i * 6 + e) ∧ m' 2 (m' 29 i * 6 + e) < (nC X : Int)) ∧ (m' 27 (m' 2 (m' 29 i * 6 + e)) = 0 → kW (eX X) 0 M_X6_floodMore T 3 [some (vR 22), some (vI a), some (vI v), some (vI q), some (vI i), some (vI e), some (vI (m' 2 (m' 29 i * 6 + e)))] [] m') ∧ (¬ m' 27 (m' 2 (m' 29 i * 6 + e)) = 0 → (0 ≤ m' 2 (m' 29 i * 6 + e) ∧ m' 2 (m' 29 i * 6 + e) < (nC X : Int)) ∧ (¬ m' 28 (m' 2 (m' 29 i * 6 + e)) = 0 → kW (eX X) 0 M_X6_floodMore T 3 [some (vR 22), some (vI a), some (vI v), some (vI q), some (vI i), some (vI e), some (vI (m' 2 (m' 29 i * 6 + e)))] [] m') ∧ (m' 28 (m' 2 (m' 29 i * 6 + e)) = 0 → (0 ≤ m' 2 (m' 29 i * 6 + e) ∧ m' 2 (m' 29 i * 6 + e) < (nC X : Int)) ∧ (0 ≤ q ∧ q < (nC X : Int)) ∧ inR (q + 1) ∧ kW (eX X) 0 M_X6_floodMore T 3 [some (vR 22), some (vI a), some (vI v), some (vI (q + 1)), some (vI i), some (vI e), some (vI (m' 2 (m' 29 i * 6 + e)))] [] (mset (mset m' 28 (m' 2 (m' 29 i * 6 + e)) 1) 29 q (m' 2 (m' 29 i * 6 + e))))))
      rw [f2, f27, hnx]
      refine ⟨by omega, by constructor <;> omega, by constructor <;> omega, by constructor <;> omega, fun h => hend q m' hq hj (hsame (fun z => absurd h z)), fun h => ?_⟩
      have hti := (nx_in h).1
      have htb : 0 ≤ nx w d l (m' 29 i) e ∧ nx w d l (m' 29 i) e < (nC X : Int) := by obtain ⟨p1, p2⟩ := hti; omega
      refine ⟨htb, fun h2 => hend q m' hq hj (hsame (fun _ z => absurd h2 z)), fun h2 => ⟨htb, fun h3 => hend q m' hq hj (hsame (fun _ _ => h3)), fun h3 => ?_⟩⟩
      generalize ht : nx w d l (m' 29 i) e = t at *
      have hold : m 28 t = 0 := Decidable.byContradiction (fun z => ((hre t).2.mpr (Or.inl z)) h3)
      have hnew : ∀ j : Int, (0 ≤ j ∧ j < q) → m' 29 j ≠ t := fun j hj'' z => ((hre t).2.mpr (Or.inr ⟨j, hj'', z⟩)) h3
      have hst : stF w d l m v (m' 29 i) t := ⟨e, by omega, ht, h, h2, hold⟩
      have e28 : ∀ c, mset (mset m' 28 t 1) 29 q t 28 c = if c = t then 1 else m' 28 c := fun c => by rw [k_mset_ne (by decide), k_mset_at]
      have e29 : ∀ j, mset (mset m' 28 t 1) 29 q t 29 j = if j = q then t else m' 29 j := fun j => by rw [k_mset_at, k_mset_ne (show (29 : Nat) ≠ 28 by decide)]
      have hsum' : sumN (flg (mset (mset m' 28 t 1) 29 q t 28)) (nC X) = sumN (flg (m' 28)) (nC X) + 1 := by
        rw [sumN_set (f := flg (m' 28)) (i := t) htb (fun c hc => by unfold flg; rw [e28, if_neg hc])]
        unfold flg
        rw [e28, if_pos rfl, if_neg (by decide), if_pos h3]
        rfl
      have hqN' : q < (nC X : Int) := by have := hsum (mset (mset m' 28 t 1) 29 q t 28); have := hsum (m 28); omega
      refine ⟨htb, ⟨by omega, hqN'⟩, by constructor <;> omega, hend (q + 1) _ (by omega) ((hJd _ _).mpr ⟨by omega, fun o a b => by rw [k_mset_ne b, k_mset_ne a]; exact hf o a b, fun j hj'' => ?_, fun c => ?_, ?_, by rw [hsum', hsm]; omega⟩) ((hCd _ _ _).mpr ⟨fun j hj'' e' he' => ?_, fun e' he' => ?_⟩)⟩
      · rw [e29]
        by_cases hjq : j = q
        · rw [if_pos hjq]; exact ⟨hti, Rch_to (hrow i ⟨hi, hq⟩).2 hst⟩
        · rw [if_neg hjq]; exact hrow j (by omega)
      · rw [e28]
        constructor
        · by_cases hct : c = t
          · rw [if_pos hct]; exact Or.inr rfl
          · rw [if_neg hct]; exact (hre c).1
        · constructor
          · intro z
            by_cases hct : c = t
            · exact Or.inr ⟨q, by omega, by rw [e29, if_pos rfl, hct]⟩
            · rw [if_neg hct] at z
              rcases (hre c).2.mp z with z | ⟨j, z1, z2⟩
              · exact Or.inl z
              · exact Or.inr ⟨j, by omega, by rw [e29, if_neg (by omega)]; exact z2⟩
          · intro z
            by_cases hct : c = t
            · rw [if_pos hct]; decide
            · rw [if_neg hct]
              refine (hre c).2.mpr ?_
              rcases z with z | ⟨j, z1, z2⟩
              · exact Or.inl z
              · rw [e29] at z2
                by_cases hjq : j = q
                · rw [if_pos hjq] at z2; exact absurd z2.symm hct
                · rw [if_neg hjq] at z2; exact Or.inr ⟨j, by omega, z2⟩
      · obtain ⟨j, z1, z2⟩ := hain
        exact ⟨j, by omega, by rw [e29, if_neg (by omega)]; exact z2⟩
      · rw [e29, if_neg (by omega), e28]
        intro z1 z2
        split
        · decide
        · exact hc'.1 j hj'' e' he' z1 z2
      · rw [e29, if_neg (by omega), e28]
        intro z1 z2
        split
        · decide
        · rename_i hct
          by_cases hee : e' = e
          · rw [hee] at hct; exact absurd ht hct
          · exact hc'.2 e' (by omega) z1 z2
  have outer : ∀ (k : Nat) (i q : Int) (m' : Mem) (x5 x6 : Option AV), i + k = (nC X : Int) → 0 ≤ i → i ≤ q → J q m' → C i 0 m' → kW (eX X) 0 M_X6_floodMore T 1 [some (vR 22), some (vI a), some (vI v), some (vI q), some (vI i), x5, x6] [] m' := by
    intro k
    have hfin : ∀ (q : Int) (m' : Mem), J q m' → C q 0 m' → T (some (vI q)) m' := by
      intro q m' hj hc
      obtain ⟨q1, hf, hrow, hre, hain, hsm⟩ := (hJd _ _).mp hj
      have hc' := (hCd _ _ _).mp hc
      have hall : ∀ c, (∃ j : Int, (0 ≤ j ∧ j < q) ∧ m' 29 j = c) ↔ Rch (stF w d l m v) a c := by
        intro c
        constructor
        · rintro ⟨j, z1, rfl⟩
          exact (hrow j z1).2
        · intro z
          refine Rch_ind (P := fun c => ∃ j : Int, (0 ≤ j ∧ j < q) ∧ m' 29 j = c) ?_ hain z
          rintro c b ⟨j, z1, rfl⟩ ⟨e, z2, rfl, z3, z4, z5⟩
          rcases (hre _).2.mp (hc'.1 j z1 e z2 z3 z4) with z6 | z6
          · exact absurd z5 z6
          · exact z6
      refine hT _ _ ⟨q, rfl, ⟨by omega, by have := hsum (m' 28); have := hsum (m 28); omega⟩, hf, fun c _ => ?_, fun c => (hre c).1, hsm, hall⟩
      rw [(hre c).2, hall]
    induction k with
    | zero =>
      intro i q m' x5 x6 hk h0 hq hj hc
      have hqN : q ≤ (nC X : Int) := by have h := (hJd _ _).mp hj; have := hsum (m' 28); have := hsum (m 28); have := h.2.2.2.2.2; omega
      have : i = q := by omega
      subst this
      refine kW_go ok_X6_floodMore [1, 2] 20 ?_
      exact ⟨fun _ => hfin i m' hj hc, fun h => absurd h (by omega)⟩
    | succ k ih =>
      intro i q m' x5 x6 hk h0 hq hj hc
      have h1 : m' 1 = m 1 := ((hJd _ _).mp hj).2.1 1 (by decide) (by decide)
      refine kW_go ok_X6_floodMore [1, 2] 20 ?_
      refine ⟨fun h => ?_, fun h => ⟨fun h2 => ?_, fun _ => ?_⟩⟩
      · have : i = q := by omega
        subst this
        exact hfin i m' hj hc
      · have h2 : m' 1 4 ≤ i := h2
        rw [h1, g4] at h2
        omega
      · refine inner i h0 (fun q' m2 y5 y6 z1 z2 z3 => ?_) v.toNat 0 q m' x6 (by omega) (by omega) h hj hc
        refine kW_go ok_X6_floodMore [1] 20 ?_
        exact ⟨by constructor <;> omega, ih (i + 1) q' m2 _ _ (by omega) (by omega) (by omega) z2 z3⟩
  refine kW_go ok_X6_floodMore [1] 20 ?_
  have e28 : ∀ c, mset (mset m 28 a 1) 29 0 a 28 c = if c = a then 1 else m 28 c := fun c => by rw [k_mset_ne (by decide), k_mset_at]
  have e29 : mset (mset m 28 a 1) 29 0 a 29 0 = a := by rw [k_mset_at, if_pos rfl]
  have hpos : (0 : Int) < (nC X : Int) := by omega
  refine ⟨hac, ⟨by omega, hpos⟩, outer (nC X) 0 1 _ none none (by omega) (by omega) (by omega) ((hJd _ _).mpr ⟨by omega, fun o z1 z2 => by rw [k_mset_ne z2, k_mset_ne z1], fun j hj => ?_, fun c => ?_, ⟨0, by omega, e29⟩, ?_⟩) ((hCd _ _ _).mpr ⟨fun j hj => by omega, fun e he => by omega⟩)⟩
  · have : j = 0 := by omega
    rw [this, e29]
    exact ⟨ha, Rch_rf⟩
  · rw [e28]
    constructor
    · by_cases hc : c = a
      · rw [if_pos hc]; exact Or.inr rfl
      · rw [if_neg hc]; exact Or.inl rfl
    · by_cases hc : c = a
      · rw [if_pos hc]
        exact ⟨fun _ => Or.inr ⟨0, by omega, by rw [e29, hc]⟩, fun _ => by decide⟩
      · rw [if_neg hc]
        constructor
        · exact Or.inl
        · rintro (z | ⟨j, z1, z2⟩)
          · exact z
          · have : j = 0 := by omega
            rw [this, e29] at z2
            exact absurd z2.symm hc
  · rw [sumN_set (f := flg (m 28)) (i := a) hac (fun c hc => by unfold flg; rw [e28, if_neg hc])]
    unfold flg
    rw [e28, if_pos rfl, if_neg (by decide), if_pos h0a]
    rfl
