/-! the JDK's methods: fill, bitCount, numberOfTrailingZeros -/
theorem k_len_of {G : Gr} {RO : Ro} {o t n : Nat} {K : Nat → Prop} (ho : o < 1000) (hG : G[o]? = some (.inr (t, n))) (h : K n) : k_len G RO o K := by
  unfold k_len
  rw [show Nat.blt o 1000 = true from Nat.ble_eq_true_of_le ho, hG]
  exact h
theorem k_wr_of {G : Gr} {o ty n : Nat} {K : Nat → Prop} (hG : G[o]? = some (.inr (ty, n))) (h : K n) : k_wr G o ty K := by
  unfold k_wr
  rw [hG]
  show k_if (Nat.beq ty ty) (K n)
  rw [show Nat.beq ty ty = true from Nat.beq_refl ty]
  exact h
def mfill (m : Mem) (o : Nat) (lo hi v : Int) : Mem := fun p => if p = o then (fun j => if lo ≤ j ∧ j < hi then v else m o j) else m p
theorem mfill_e (m : Mem) (o : Nat) (lo v : Int) : mfill m o lo lo v = m := by
  funext p j
  unfold mfill
  split
  · rename_i h
    subst h
    simp only
    rw [if_neg (by omega)]
  · rfl
theorem mfill_s (m : Mem) (o : Nat) (lo hi v : Int) (h : lo ≤ hi) : mset (mfill m o lo hi v) o hi v = mfill m o lo (hi + 1) v := by
  funext p j
  unfold mset mfill
  by_cases hp : p = o
  · simp only [hp, if_true]
    by_cases hj : j = hi
    · rw [if_pos hj, if_pos (by omega)]
    · rw [if_neg hj]
      by_cases h2 : lo ≤ j ∧ j < hi
      · rw [if_pos h2, if_pos (by omega)]
      · rw [if_neg h2, if_neg (by omega)]
  · simp only [hp, if_false]
theorem mfill_ne {m : Mem} {o p : Nat} {lo hi v : Int} (h : p ≠ o) : mfill m o lo hi v p = m p := by simp [mfill, h]
theorem mfill_at {m : Mem} {o : Nat} {lo hi v j : Int} : mfill m o lo hi v o j = if lo ≤ j ∧ j < hi then v else m o j := by simp [mfill]
set_option maxRecDepth 100000 in
theorem c_fill (E : Ev) (m : Mem) (o n : Nat) (v : Int) (ho : o < 1000) (hG : E.2.2.2.1[o]? = some (.inr (0, n))) (hn : n ≤ 2147483646) : kCall E 1 M_J7_fill_53178.1 [vR o, vI v] m (fun r m' => r = none ∧ m' = mfill m o 0 n v) := by
  refine kCall_of ok_J7_fill_53178 rfl (Nat.le_of_ble_eq_true rfl) ?_
  obtain ⟨T, hT⟩ : ∃ T, T = k_T M_J7_fill_53178.2.2.2.1 (fun r m' => r = none ∧ m' = mfill m o 0 n v) := ⟨_, rfl⟩
  rw [← hT]
  have loop : ∀ (k : Nat) (i : Int), 0 ≤ i → i + k = n → kW E 0 M_J7_fill_53178 T 1 [some (vR o), some (vI v), some (vI i), some (vI n)] [] (mfill m o 0 i v) := by
    intro k
    induction k with
    | zero =>
      intro i h0 h1
      refine kW_go ok_J7_fill_53178 [1] 10 ?_
      refine And.intro (fun h2 => ?_) (fun h2 => absurd h2 (by omega))
      rw [show i = n by omega, hT]
      exact ⟨rfl, rfl⟩
    | succ k ih =>
      intro i h0 h1
      refine kW_go ok_J7_fill_53178 [1] 10 ?_
      refine And.intro (fun h2 => absurd h2 (by omega)) (fun h2 => ?_)
      refine k_wr_of hG ?_
      refine ⟨⟨h0, by omega⟩, by omega, ?_⟩
      have := ih (i + 1) (by omega) (by omega)
      rw [← mfill_s m o 0 i v h0] at this
      exact this
  refine kW_go ok_J7_fill_53178 [1] 10 ?_
  refine k_len_of ho hG ?_
  have := loop n 0 (by omega) (by omega)
  rw [mfill_e] at this
  exact this
theorem c_rangeCheck (E : Ev) (m : Mem) (n lo hi : Int) (h : 0 ≤ lo ∧ lo ≤ hi ∧ hi ≤ n) : kCall E 1 M_J7_rangeCheck_23922.1 [vI n, vI lo, vI hi] m (fun r m' => r = none ∧ m' = m) := by
  refine kCall_of ok_J7_rangeCheck_23922 rfl (Nat.le_of_ble_eq_true rfl) ?_
  refine kW_go ok_J7_rangeCheck_23922 [] 10 ?_
  refine And.intro (fun _ => And.intro (fun _ => And.intro (fun _ => ⟨rfl, rfl⟩) (fun h2 => absurd h2 (by omega))) (fun h2 => absurd h2 (by omega))) (fun h2 => absurd h2 (by omega))
set_option maxRecDepth 100000 in
theorem c_fill4 (E : Ev) (m : Mem) (o n : Nat) (lo hi v : Int) (ho : o < 1000) (hG : E.2.2.2.1[o]? = some (.inr (0, n))) (hn : n ≤ 2147483646) (h : 0 ≤ lo ∧ lo ≤ hi ∧ hi ≤ n) : kCall E 2 M_J7_fill_fda19.1 [vR o, vI lo, vI hi, vI v] m (fun r m' => r = none ∧ m' = mfill m o lo hi v) := by
  refine kCall_of ok_J7_fill_fda19 rfl (Nat.le_of_ble_eq_true rfl) ?_
  obtain ⟨T, hT⟩ : ∃ T, T = k_T M_J7_fill_fda19.2.2.2.1 (fun r m' => r = none ∧ m' = mfill m o lo hi v) := ⟨_, rfl⟩
  rw [← hT]
  have loop : ∀ (k : Nat) (i : Int), lo ≤ i → i + k = hi → kW E 1 M_J7_fill_fda19 T 1 [some (vR o), some (vI lo), some (vI hi), some (vI v), some (vI i)] [] (mfill m o lo i v) := by
    intro k
    induction k with
    | zero =>
      intro i h0 h1
      refine kW_go ok_J7_fill_fda19 [1] 10 ?_
      refine And.intro (fun h2 => ?_) (fun h2 => absurd h2 (by omega))
      rw [show i = hi by omega, hT]
      exact ⟨rfl, rfl⟩
    | succ k ih =>
      intro i h0 h1
      refine kW_go ok_J7_fill_fda19 [1] 10 ?_
      refine And.intro (fun h2 => absurd h2 (by omega)) (fun h2 => ?_)
      refine k_wr_of hG ?_
      refine ⟨⟨by omega, by omega⟩, by omega, ?_⟩
      have := ih (i + 1) (by omega) (by omega)
      rw [← mfill_s m o lo i v h0] at this
      exact this
  refine kW_go ok_J7_fill_fda19 [1] 10 ?_
  refine k_len_of ho hG ?_
  refine kCall_mono (c_rangeCheck E m n lo hi h) (Nat.le_refl _) ?_
  rintro _ _ ⟨rfl, rfl⟩
  have := loop (hi - lo).toNat lo (by omega) (by omega)
  rw [mfill_e] at this
  exact this
/-- how many bits, of a small number -/
def pop (x : Int) : Int := x % 2 + x / 2 % 2 + x / 4 % 2 + x / 8 % 2 + x / 16 % 2 + x / 32 % 2 + x / 64 % 2 + x / 128 % 2
def bcF (x : Int) : Int :=
  let x1 := w32 (x - kand (kushr x 1) 1431655765)
  let x2 := w32 (kand x1 858993459 + kand (kushr x1 2) 858993459)
  let x3 := kand (w32 (x2 + kushr x2 4)) 252645135
  let x4 := w32 (x3 + kushr x3 8)
  let x5 := w32 (x4 + kushr x4 16)
  kand x5 63
theorem bcF_pop : ∀ i : Fin 256, bcF (i.val : Int) = pop (i.val : Int) := by decide +kernel
theorem c_bitCount (E : Ev) (m : Mem) (x : Int) (h0 : 0 ≤ x) (h1 : x < 256) : kCall E 1 M_J6_bitCount_0f7a4.1 [vI x] m (cP (pop x) m) := by
  refine kCall_of ok_J6_bitCount_0f7a4 rfl (Nat.le_of_ble_eq_true rfl) ?_
  refine kW_go ok_J6_bitCount_0f7a4 [] 10 ?_
  exact ⟨congrArg (fun z => some (vI z)) (show bcF x = pop x from k_fin (P := fun x => bcF x = pop x) bcF_pop h0 h1), rfl⟩
/-- the number of zeros below the lowest bit, of a small number (32 of 0) -/
def ntz (x : Int) : Int := if x = 0 then 32 else if x % 2 = 1 then 0 else if x % 4 = 2 then 1 else if x % 8 = 4 then 2 else if x % 16 = 8 then 3 else if x % 32 = 16 then 4 else if x % 64 = 32 then 5 else if x % 128 = 64 then 6 else 7
def nzA (x : Int) : Int := kand (kxor x (-1)) (w32 (x - 1))
def nzB (y : Int) : Int := if 16 < y then kushr y 4 else y
def nzC (y : Int) : Int := if 4 < y then kushr y 2 else y
def nzF (x : Int) : Int := if 0 < nzA x then w32 (1 + (if 16 < nzA x then 4 else 0) + (if 4 < nzB (nzA x) then 2 else 0) + kushr (nzC (nzB (nzA x))) 1) else kand (nzA x) 32
theorem nzF_ntz : ∀ i : Fin 256, nzF (i.val : Int) = ntz (i.val : Int) ∧ nzA (i.val : Int) ≤ 256 := by decide +kernel
theorem c_ntz (E : Ev) (m : Mem) (x : Int) (h0 : 0 ≤ x) (h1 : x < 256) : kCall E 1 M_J6_numberOfTrailingZeros_0f7a4.1 [vI x] m (cP (ntz x) m) := by
  obtain ⟨e1, e2⟩ := k_fin (P := fun x => nzF x = ntz x ∧ nzA x ≤ 256) nzF_ntz h0 h1
  rw [← e1]
  refine kCall_of ok_J6_numberOfTrailingZeros_0f7a4 rfl (Nat.le_of_ble_eq_true rfl) ?_
  refine kW_go ok_J6_numberOfTrailingZeros_0f7a4 [] 10 ?_
  refine And.intro (fun g1 => ?_) (fun g1 => ?_)
  · have g1 : 0 < nzA x := g1
    refine And.intro (fun _ => ?_) (fun g2 => absurd (show (65536 : Int) < nzA x from g2) (by omega))
    refine And.intro (fun _ => ?_) (fun g2 => absurd (show (256 : Int) < nzA x from g2) (by omega))
    refine And.intro (fun g2 => ?_) (fun g2 => ⟨by decide, ?_⟩)
    · have g2 : nzA x ≤ 16 := g2
      refine And.intro (fun g3 => ?_) (fun g3 => ⟨by decide, ?_⟩)
      · have g3 : nzA x ≤ 4 := g3
        refine ⟨congrArg (fun z => some (vI z)) ?_, rfl⟩
        unfold nzF nzC nzB
        rw [if_pos g1, if_neg (by omega : ¬ 16 < nzA x), if_neg (by omega : ¬ 16 < nzA x), if_neg (by omega : ¬ 4 < nzA x), if_neg (by omega : ¬ 4 < nzA x)]
        rfl
      · have g3 : 4 < nzA x := g3
        refine ⟨congrArg (fun z => some (vI z)) ?_, rfl⟩
        unfold nzF nzC nzB
        rw [if_pos g1, if_neg (by omega : ¬ 16 < nzA x), if_neg (by omega : ¬ 16 < nzA x), if_pos g3, if_pos g3]
        rfl
    · have g2 : 16 < nzA x := g2
      refine And.intro (fun g3 => ?_) (fun g3 => ⟨by decide, ?_⟩)
      · have g3 : kushr (nzA x) 4 ≤ 4 := g3
        refine ⟨congrArg (fun z => some (vI z)) ?_, rfl⟩
        unfold nzF nzC nzB
        rw [if_pos g1, if_pos g2, if_pos g2, if_neg (by omega : ¬ 4 < kushr (nzA x) 4), if_neg (by omega : ¬ 4 < kushr (nzA x) 4)]
        rfl
      · have g3 : 4 < kushr (nzA x) 4 := g3
        refine ⟨congrArg (fun z => some (vI z)) ?_, rfl⟩
        unfold nzF nzC nzB
        rw [if_pos g1, if_pos g2, if_pos g2, if_pos g3, if_pos g3]
        rfl
  · have g1 : nzA x ≤ 0 := g1
    refine ⟨congrArg (fun z => some (vI z)) ?_, rfl⟩
    unfold nzF
    rw [if_neg (by omega : ¬ 0 < nzA x)]
    rfl
