/-! the class's nets: more small methods -/
theorem c_X3_viasOf (X : Xv) (m : Mem) (n : Int) (h324 : nC X ≤ 324) (g4 : m 1 4 = (nC X : Int)) (hn : 0 ≤ n ∧ n < 8) : kCall (eX X) 2 M_X3_viasOf.1 [vR 9, vI n] m (cP (sumN (fun c => kand (kshr (m 19 (n * (nC X : Int) + c)) 4) 1) (nC X)) m) := by
  refine kCall_ofT ok_X3_viasOf rfl (Nat.le_of_ble_eq_true rfl) (fun T hT => ?_)
  generalize hf : (fun c : Int => kand (kshr (m 19 (n * (nC X : Int) + c)) 4) 1) = f at hT
  have hfv : ∀ c, f c = kand (kshr (m 19 (n * (nC X : Int) + c)) 4) 1 := fun c => by rw [← hf]
  have hfb : ∀ c, 0 ≤ f c ∧ f c ≤ 1 := fun c => by rw [hfv]; exact k_and1 _
  have loop : ∀ (k j : Nat), j + k = nC X → kW (eX X) 1 M_X3_viasOf T 1 [some (vR 9), some (vI n), some (vI (sumN f j)), some (vI (j : Int))] [] m := by
    intro k
    induction k with
    | zero =>
      intro j hj
      refine kW_go ok_X3_viasOf [1] 20 ?_
      show (m 1 4 ≤ (j : Int) → _) ∧ ((j : Int) < m 1 4 → _)
      rw [g4]
      refine And.intro (fun _ => hT _ _ ⟨?_, rfl⟩) (fun h => absurd h (by omega))
      rw [show j = nC X by omega]
    | succ k ih =>
      intro j hj
      have hi := ixn (N := (nC X : Int)) (n := n) (c := (j : Int)) (by omega) hn (by omega)
      have hs := sumN_le hfb j
      have hv := hfv (j : Int)
      have hb := hfb (j : Int)
      refine kW_go ok_X3_viasOf [1] 20 ?_
      show (m 1 4 ≤ (j : Int) → _) ∧ ((j : Int) < m 1 4 → inR (n * m 1 4) ∧ inR (n * m 1 4 + (j : Int)) ∧ (0 ≤ n * m 1 4 + (j : Int) ∧ n * m 1 4 + (j : Int) < ((nC X * 8 : Nat) : Int)) ∧ inR (sumN f j + kand (kshr (m 19 (n * m 1 4 + (j : Int))) 4) 1) ∧ inR ((j : Int) + 1) ∧ kW (eX X) 1 M_X3_viasOf T 1 [some (vR 9), some (vI n), some (vI (sumN f j + kand (kshr (m 19 (n * m 1 4 + (j : Int))) 4) 1)), some (vI ((j : Int) + 1))] [] m)
      rw [g4, ← hv]
      refine And.intro (fun h => absurd h (by omega)) (fun _ => ⟨by constructor <;> omega, by constructor <;> omega, by constructor <;> omega, by constructor <;> omega, by constructor <;> omega, ?_⟩)
      have := ih (j + 1) (by omega)
      rw [show ((j + 1 : Nat) : Int) = (j : Int) + 1 by omega] at this
      exact this
  refine kW_go ok_X3_viasOf [1] 20 ?_
  exact loop (nC X) 0 (by omega)
theorem c_X3_cellsOf (X : Xv) (m : Mem) (n : Int) (h324 : nC X ≤ 324) (g4 : m 1 4 = (nC X : Int)) : kCall (eX X) 3 M_X3_cellsOf.1 [vR 9, vI n] m (cP (sumN (fun c => kand (kshr (kor (m 16 c) (m 17 c)) n) 1) (nC X)) m) := by
  refine kCall_ofT ok_X3_cellsOf rfl (Nat.le_of_ble_eq_true rfl) (fun T hT => ?_)
  generalize hf : (fun c : Int => kand (kshr (kor (m 16 c) (m 17 c)) n) 1) = f at hT
  have hfv : ∀ c, f c = kand (kshr (kor (m 16 c) (m 17 c)) n) 1 := fun c => by rw [← hf]
  have hfb : ∀ c, 0 ≤ f c ∧ f c ≤ 1 := fun c => by rw [hfv]; exact k_and1 _
  have loop : ∀ (k j : Nat), j + k = nC X → kW (eX X) 2 M_X3_cellsOf T 1 [some (vR 9), some (vI n), some (vI (sumN f j)), some (vI (j : Int))] [] m := by
    intro k
    induction k with
    | zero =>
      intro j hj
      refine kW_go ok_X3_cellsOf [1] 20 ?_
      show (m 1 4 ≤ (j : Int) → _) ∧ ((j : Int) < m 1 4 → _)
      rw [g4]
      refine And.intro (fun _ => hT _ _ ⟨?_, rfl⟩) (fun h => absurd h (by omega))
      rw [show j = nC X by omega]
    | succ k ih =>
      intro j hj
      have hs := sumN_le hfb j
      have hv := hfv (j : Int)
      have hb := hfb (j : Int)
      refine kW_go ok_X3_cellsOf [1] 20 ?_
      show (m 1 4 ≤ (j : Int) → _) ∧ ((j : Int) < m 1 4 → _)
      rw [g4]
      refine And.intro (fun h => absurd h (by omega)) (fun _ => ?_)
      refine kCall_mono (c_X3_copperAt X m (j : Int) (by omega)) (Nat.le_of_ble_eq_true rfl) ?_
      rintro _ m ⟨rfl, rfl⟩
      show inR (sumN f j + kand (kshr (kor (m 16 (j : Int)) (m 17 (j : Int))) n) 1) ∧ inR ((j : Int) + 1) ∧ kW (eX X) 2 M_X3_cellsOf T 1 [some (vR 9), some (vI n), some (vI (sumN f j + kand (kshr (kor (m 16 (j : Int)) (m 17 (j : Int))) n) 1)), some (vI ((j : Int) + 1))] [] m
      rw [← hv]
      refine ⟨by constructor <;> omega, by constructor <;> omega, ?_⟩
      have := ih (j + 1) (by omega)
      rw [show ((j + 1 : Nat) : Int) = (j : Int) + 1 by omega] at this
      exact this
  refine kW_go ok_X3_cellsOf [1] 20 ?_
  exact loop (nC X) 0 (by omega)
/-- an array changed place by place -/
def mmap (m : Mem) (o : Nat) (lo hi : Int) (F : Int → Int) : Mem := fun p => if p = o then (fun j => if lo ≤ j ∧ j < hi then F j else m o j) else m p
theorem mmap_e (m : Mem) (o : Nat) (lo : Int) (F : Int → Int) : mmap m o lo lo F = m := by
  funext p j
  unfold mmap
  by_cases hp : p = o
  · subst hp
    rw [if_pos rfl]
    show (if lo ≤ j ∧ j < lo then F j else m p j) = m p j
    rw [if_neg (by omega)]
  · rw [if_neg hp]
theorem mmap_s (m : Mem) (o : Nat) (lo hi : Int) (F : Int → Int) (h : lo ≤ hi) : mset (mmap m o lo hi F) o hi (F hi) = mmap m o lo (hi + 1) F := by
  funext p j
  by_cases hp : p = o
  · subst hp
    rw [k_mset_at]
    unfold mmap
    rw [if_pos rfl, if_pos rfl]
    by_cases hj : j = hi
    · subst hj
      rw [if_pos rfl]
      show F j = if lo ≤ j ∧ j < j + 1 then F j else m p j
      rw [if_pos (by omega)]
    · rw [if_neg hj]
      show (if lo ≤ j ∧ j < hi then F j else m p j) = if lo ≤ j ∧ j < hi + 1 then F j else m p j
      by_cases h2 : lo ≤ j ∧ j < hi
      · rw [if_pos h2, if_pos (by omega)]
      · rw [if_neg h2, if_neg (by omega)]
  · rw [k_mset_ne hp]
    unfold mmap
    rw [if_neg hp, if_neg hp]
theorem mmap_ne {m : Mem} {o p : Nat} {lo hi : Int} {F : Int → Int} (h : p ≠ o) : mmap m o lo hi F p = m p := by unfold mmap; rw [if_neg h]
theorem mmap_at {m : Mem} {o : Nat} {lo hi j : Int} {F : Int → Int} : mmap m o lo hi F o j = if lo ≤ j ∧ j < hi then F j else m o j := by unfold mmap; rw [if_pos rfl]
/-- a net's bit, and all but it -/
abbrev nbit (n : Int) : Int := kshl 1 n
abbrev nall (n : Int) : Int := kxor (kshl 1 n) (-1)
/-- the board without a net's traces -/
def rmT (N n : Int) (m : Mem) : Mem := mmap (mfill m 19 (n * N) ((n + 1) * N) 0) 17 0 N (fun c => kand (m 17 c) (nall n))
theorem c_X3_removeTraces (X : Xv) (m : Mem) (n : Int) (h324 : nC X ≤ 324) (g4 : m 1 4 = (nC X : Int)) (hn : 0 ≤ n ∧ n < 8) : kCall (eX X) 3 M_X3_removeTraces.1 [vR 9, vI n] m (fun r m' => r = none ∧ m' = rmT (nC X) n m) := by
  have hp := mb (a := n) (b := (nC X : Int)) (A := 7) (B := 324) (by omega) (by omega)
  have hp2 : (n + 1) * (nC X : Int) ≤ 8 * (nC X : Int) := Int.mul_le_mul_of_nonneg_right (by omega) (by omega)
  have hp3 : (n + 1) * (nC X : Int) = n * (nC X : Int) + (nC X : Int) := by rw [Int.add_mul, Int.one_mul]
  refine kCall_ofT ok_X3_removeTraces rfl (Nat.le_of_ble_eq_true rfl) (fun T hT => ?_)
  generalize hm1 : mfill m 19 (n * (nC X : Int)) ((n + 1) * (nC X : Int)) 0 = m1
  have hT : T none (mmap m1 17 0 (nC X : Int) (fun c => kand (m 17 c) (nall n))) := by
    refine hT _ _ ⟨rfl, ?_⟩
    unfold rmT
    rw [hm1]
  have e1 : m1 1 = m 1 := by rw [← hm1, mfill_ne (by decide)]
  have e17 : m1 17 = m 17 := by rw [← hm1, mfill_ne (by decide)]
  have loop : ∀ (k : Nat) (c : Int), c + k = (nC X : Int) → 0 ≤ c → kW (eX X) 2 M_X3_removeTraces T 1 [some (vR 9), some (vI n), some (vI c)] [] (mmap m1 17 0 c (fun c => kand (m 17 c) (nall n))) := by
    intro k
    induction k with
    | zero =>
      intro c hc h0
      have hcc : c = (nC X : Int) := by omega
      refine kW_go ok_X3_removeTraces [1] 20 ?_
      refine And.intro (fun _ => by rw [hcc]; exact hT) (fun h => ?_)
      have h : c < mmap m1 17 0 c (fun c => kand (m 17 c) (nall n)) 1 4 := h
      rw [mmap_ne (by decide), e1, g4] at h
      omega
    | succ k ih =>
      intro c hc h0
      have hb : 0 ≤ c ∧ c < (nC X : Int) := by omega
      refine kW_go ok_X3_removeTraces [1] 20 ?_
      refine And.intro (fun h => ?_) (fun _ => ⟨hb, hb, by constructor <;> omega, ?_⟩)
      · have h : mmap m1 17 0 c (fun c => kand (m 17 c) (nall n)) 1 4 ≤ c := h
        rw [mmap_ne (by decide), e1, g4] at h
        omega
      · have := ih (c + 1) (by omega) (by omega)
        rw [← mmap_s m1 17 0 c (fun c => kand (m 17 c) (nall n)) h0] at this
        have ev : mmap m1 17 0 c (fun c => kand (m 17 c) (nall n)) 17 c = m 17 c := by rw [mmap_at, if_neg (by omega), e17]
        show kW (eX X) 2 M_X3_removeTraces T 1 [some (vR 9), some (vI n), some (vI (c + 1))] [] (mset (mmap m1 17 0 c (fun c => kand (m 17 c) (nall n))) 17 c (kand (mmap m1 17 0 c (fun c => kand (m 17 c) (nall n)) 17 c) (kxor (kshl 1 n) (-1))))
        rw [ev]
        exact this
  refine kW_go ok_X3_removeTraces [1] 20 ?_
  show inR (n * m 1 4) ∧ inR (n + 1) ∧ inR ((n + 1) * m 1 4) ∧ kCall (eX X) 2 M_J7_fill_fda19.1 [vR 19, vI (n * m 1 4), vI ((n + 1) * m 1 4), vI 0] m _
  rw [g4]
  refine ⟨by constructor <;> omega, by constructor <;> omega, by constructor <;> omega, ?_⟩
  refine kCall_mono (c_fill4 (eX X) m 19 (nC X * 8) (n * (nC X : Int)) ((n + 1) * (nC X : Int)) 0 (by decide) rfl (by omega) (by omega)) (Nat.le_of_ble_eq_true rfl) ?_
  rintro _ m2 ⟨rfl, hm2⟩
  rw [hm1] at hm2
  subst hm2
  have := loop (nC X) 0 (by omega) (by omega)
  rw [mmap_e] at this
  exact this
theorem c_X3_addNet (X : Xv) (m : Mem) (k : Int) (h : 0 ≤ m 9 14 ∧ m 9 14 < 8) : kCall (eX X) 1 M_X3_addNet.1 [vR 9, vI k] m (fun r m' => r = some (vI (m 9 14)) ∧ m' = fset (mset m 11 (m 9 14) k) 9 14 (m 9 14 + 1)) := by
  refine kCall_ofT ok_X3_addNet rfl (Nat.le_of_ble_eq_true rfl) (fun T hT => ?_)
  refine kW_go ok_X3_addNet [] 20 ?_
  show (0 ≤ m 9 14 ∧ m 9 14 < ((8 : Nat) : Int)) ∧ inR (m 9 14 + 1) ∧ inR (m 9 14 + 1 - 1) ∧ T (some (vI (m 9 14 + 1 - 1))) (fset (mset m 11 (m 9 14) k) 9 14 (m 9 14 + 1))
  refine ⟨h, by constructor <;> omega, by constructor <;> omega, ?_⟩
  rw [show m 9 14 + 1 - 1 = m 9 14 by omega]
  exact hT _ _ ⟨rfl, rfl⟩
theorem c_X3_hasPin (X : Xv) (m : Mem) (c : Int) (ha : 0 ≤ m 9 14 ∧ m 9 14 ≤ 8) (hp : ∀ n, 0 ≤ n → n < 8 → 0 ≤ m 13 n ∧ m 13 n ≤ 4) : kCall (eX X) 2 M_X3_hasPin.1 [vR 9, vI c] m (fun r m' => (((∃ n p : Int, (0 ≤ n ∧ n < m 9 14) ∧ (0 ≤ p ∧ p < m 13 n) ∧ m 14 (n * 4 + p) = c) ∧ r = some (vI 1)) ∨ ((∀ n p : Int, (0 ≤ n ∧ n < m 9 14) → (0 ≤ p ∧ p < m 13 n) → m 14 (n * 4 + p) ≠ c) ∧ r = some (vI 0))) ∧ m' = m) := by
  refine kCall_ofT ok_X3_hasPin rfl (Nat.le_of_ble_eq_true rfl) (fun T hT => ?_)
  have inner : ∀ (n : Int), (0 ≤ n ∧ n < m 9 14) → ((∀ p : Int, (0 ≤ p ∧ p < m 13 n) → m 14 (n * 4 + p) ≠ c) → ∀ x3, kW (eX X) 1 M_X3_hasPin T 4 [some (vR 9), some (vI c), some (vI n), x3] [] m) → ∀ (k : Nat) (p : Int), p + k = m 13 n → 0 ≤ p → (∀ q : Int, (0 ≤ q ∧ q < p) → m 14 (n * 4 + q) ≠ c) → kW (eX X) 1 M_X3_hasPin T 2 [some (vR 9), some (vI c), some (vI n), some (vI p)] [] m := by
    intro n hn hout k
    have hpn := hp n (by omega) (by omega)
    induction k with
    | zero =>
      intro p hk h0 hall
      refine kW_go ok_X3_hasPin [4] 20 ?_
      exact ⟨⟨by omega, by show n < ((8 : Nat) : Int); omega⟩, fun _ => hout (fun q hq => hall q (by omega)) _, fun h => absurd (show p < m 13 n from h) (by omega)⟩
    | succ k ih =>
      intro p hk h0 hall
      refine kW_go ok_X3_hasPin [2, 4] 20 ?_
      refine ⟨⟨by omega, by show n < ((8 : Nat) : Int); omega⟩, fun h => absurd (show m 13 n ≤ p from h) (by omega), fun _ => ?_⟩
      refine kCall_mono (c_X3_pinCell X m n p (by omega) (by omega)) (Nat.le_of_ble_eq_true rfl) ?_
      rintro _ m ⟨rfl, rfl⟩
      refine And.intro (fun h => ⟨by constructor <;> omega, ih (p + 1) (by omega) (by omega) (fun q hq => ?_)⟩) (fun h => hT _ _ ⟨Or.inr rfl, Or.inl ⟨⟨n, p, hn, by omega, h⟩, rfl⟩, rfl⟩)
      by_cases he : q = p
      · rw [he]; exact h
      · exact hall q (by omega)
  have outer : ∀ (k : Nat) (n : Int) (x3 : Option AV), n + k = m 9 14 → 0 ≤ n → (∀ n' p : Int, (0 ≤ n' ∧ n' < n) → (0 ≤ p ∧ p < m 13 n') → m 14 (n' * 4 + p) ≠ c) → kW (eX X) 1 M_X3_hasPin T 1 [some (vR 9), some (vI c), some (vI n), x3] [] m := by
    intro k
    induction k with
    | zero =>
      intro n x3 hk h0 hall
      refine kW_go ok_X3_hasPin [1, 2, 4] 20 ?_
      exact ⟨fun _ => hT _ _ ⟨Or.inl rfl, Or.inr ⟨fun n' p h1 h2 => hall n' p (by omega) h2, rfl⟩, rfl⟩, fun h => absurd (show n < m 9 14 from h) (by omega)⟩
    | succ k ih =>
      intro n x3 hk h0 hall
      have hpn := hp n (by omega) (by omega)
      refine kW_go ok_X3_hasPin [1, 2, 4] 20 ?_
      refine ⟨fun h => absurd (show m 9 14 ≤ n from h) (by omega), fun _ => ?_⟩
      refine inner n (by omega) (fun hno y3 => ?_) (m 13 n).toNat 0 (by omega) (by omega) (fun q hq => by omega)
      refine kW_go ok_X3_hasPin [1, 2] 20 ?_
      refine ⟨by constructor <;> omega, ih (n + 1) _ (by omega) (by omega) (fun n' p h1 h2 => ?_)⟩
      by_cases he : n' = n
      · rw [he] at h2 ⊢; exact hno p h2
      · exact hall n' p (by omega) h2
  refine kW_go ok_X3_hasPin [1, 2, 4] 20 ?_
  exact outer (m 9 14).toNat 0 none (by omega) (by omega) (fun n' p h1 _ => by omega)
