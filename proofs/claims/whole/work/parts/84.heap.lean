/-! the heap of the class's router -/
theorem k_shr_div {a : Int} (ha : inR a) (h0 : 0 ≤ a) (n : Nat) (hn : n < 32) : kshr a (n : Int) = a / ((2 ^ n : Nat) : Int) := by
  obtain ⟨A, rfl⟩ : ∃ A : Nat, a = (A : Int) := ⟨a.toNat, by omega⟩
  have e : (A : Int) / ((2 ^ n : Nat) : Int) = ((A / 2 ^ n : Nat) : Int) := rfl
  have hle : A / 2 ^ n ≤ A := Nat.div_le_self _ _
  rw [e]
  clear e
  generalize hB : A / 2 ^ n = B at *
  have hr : inR (B : Int) := by constructor <;> omega
  refine bt_ext (k_in_kshr _ _) hr (fun k hk => ?_)
  rw [bt_shr (by omega) (by omega), bt_nat hr (by omega), Int.toNat_natCast, Int.toNat_natCast, ← hB, Nat.testBit_div_two_pow, bt_nat ha (by omega), bt_nat ha (by omega), Int.toNat_natCast]
  have hA : A < 2 ^ 31 := by omega
  by_cases h : n + k < 32
  · rw [if_pos h, Nat.add_comm n k]
    simp; omega
  · rw [if_neg h, Nat.testBit_lt_two_pow (show A < 2 ^ 31 from hA), Nat.testBit_lt_two_pow (Nat.lt_of_lt_of_le hA (Nat.pow_le_pow_right (by decide) (by omega)))]
    simp
theorem k_shl_mul {a : Int} (h0 : 0 ≤ a) (n : Nat) (hn : n < 32) (h : a * ((2 ^ n : Nat) : Int) < 2147483648) : kshl a (n : Int) = a * ((2 ^ n : Nat) : Int) := by
  obtain ⟨A, rfl⟩ : ∃ A : Nat, a = (A : Int) := ⟨a.toNat, by omega⟩
  have e : (A : Int) * ((2 ^ n : Nat) : Int) = ((A * 2 ^ n : Nat) : Int) := (Int.natCast_mul _ _).symm
  rw [e] at h ⊢
  have hp : 0 < 2 ^ n := Nat.pos_of_ne_zero (by simp)
  have hle : A ≤ A * 2 ^ n := Nat.le_mul_of_pos_right _ hp
  have hr : inR ((A * 2 ^ n : Nat) : Int) := by constructor <;> omega
  have ha : inR (A : Int) := by constructor <;> omega
  refine bt_ext (k_in_kshl _ _) hr (fun k hk => ?_)
  rw [bt_shl (by omega) (by omega), bt_nat hr (by omega), Int.toNat_natCast, Int.toNat_natCast, bt_nat ha (by omega), Int.toNat_natCast, Nat.mul_comm A, Nat.testBit_two_pow_mul]
  by_cases hkn : k < n
  · simp [hkn]; omega
  · simp [hk, hkn]; omega
theorem k_shr1 {a : Int} (h0 : 0 ≤ a) (h1 : a ≤ 4095) : kshr a 1 = a / 2 := k_shr_div (by constructor <;> omega) h0 1 (by decide)
/-- the heap is in order: S states, the keys in 34, the heap in 35, the places in 36 -/
def HI (S : Int) (m : Mem) : Prop := (0 ≤ m 30 9 ∧ m 30 9 ≤ S) ∧ (∀ i : Int, (0 ≤ i ∧ i < m 30 9) → (0 ≤ m 35 i ∧ m 35 i < S) ∧ m 36 (m 35 i) = i) ∧
  (∀ s : Int, (0 ≤ s ∧ s < S) → m 36 s = -1 ∨ ((0 ≤ m 36 s ∧ m 36 s < m 30 9) ∧ m 35 (m 36 s) = s)) ∧
  ∀ i : Int, (0 < i ∧ i < m 30 9) → m 34 (m 35 ((i - 1) / 2)) ≤ m 34 (m 35 i)
/-- the heap with a hole, going up -/
def HU (S q h s0 key : Int) (m : Mem) : Prop := (0 ≤ h ∧ h < q) ∧ (∀ i : Int, (0 ≤ i ∧ i < q) → i ≠ h → (0 ≤ m 35 i ∧ m 35 i < S) ∧ m 35 i ≠ s0 ∧ m 36 (m 35 i) = i) ∧
  (∀ s : Int, (0 ≤ s ∧ s < S) → s ≠ s0 → m 36 s = -1 ∨ ((0 ≤ m 36 s ∧ m 36 s < q) ∧ m 36 s ≠ h ∧ m 35 (m 36 s) = s)) ∧
  (∀ i : Int, (0 < i ∧ i < q) → i ≠ h → (i - 1) / 2 ≠ h → m 34 (m 35 ((i - 1) / 2)) ≤ m 34 (m 35 i)) ∧
  (∀ i : Int, (0 < i ∧ i < q) → (i - 1) / 2 = h → key ≤ m 34 (m 35 i) ∧ (0 < h → m 34 (m 35 ((h - 1) / 2)) ≤ m 34 (m 35 i))) ∧ m 34 s0 = key
theorem HU_step {S q h s0 key : Int} {m : Mem} (H : HU S q h s0 key m) (hh : 0 < h) (hk : key < m 34 (m 35 ((h - 1) / 2))) : HU S q ((h - 1) / 2) s0 key (mset (mset m 35 h (m 35 ((h - 1) / 2))) 36 (m 35 ((h - 1) / 2)) h) := by
  obtain ⟨h1, h2, h3, h4, h5, h6⟩ := H
  obtain ⟨p, hp⟩ : ∃ p, (h - 1) / 2 = p := ⟨_, rfl⟩
  rw [hp] at hk ⊢
  have hpb : 0 ≤ p ∧ p < h := by omega
  obtain ⟨u, hu⟩ : ∃ u, m 35 p = u := ⟨_, rfl⟩
  rw [hu] at hk ⊢
  obtain ⟨p1, p2, p3⟩ := h2 p (by omega) (by omega)
  rw [hu] at p1 p2 p3
  generalize hm : mset (mset m 35 h u) 36 u h = m'
  have e34 : m' 34 = m 34 := by rw [← hm, k_mset_ne (by decide), k_mset_ne (by decide)]
  have e35 : ∀ i, m' 35 i = if i = h then u else m 35 i := fun i => by rw [← hm, k_mset_ne (by decide), k_mset_at]
  have e36 : ∀ s, m' 36 s = if s = u then h else m 36 s := fun s => by rw [← hm, k_mset_at, k_mset_ne (by decide)]
  have hne : ∀ i, (0 ≤ i ∧ i < q) → i ≠ h → i ≠ p → m 35 i ≠ u := by
    intro i hi hih hip hz
    have := (h2 i hi hih).2.2
    rw [hz, p3] at this
    exact hip this.symm
  refine ⟨by omega, fun i hi hip => ?_, fun s hs hss => ?_, fun i hi hip hpp => ?_, fun i hi hpp => ?_, by rw [e34]; exact h6⟩
  · rw [e35]
    by_cases hih : i = h
    · rw [if_pos hih]
      exact ⟨p1, p2, by rw [e36, if_pos rfl, hih]⟩
    · rw [if_neg hih]
      obtain ⟨a, b, c⟩ := h2 i hi hih
      exact ⟨a, b, by rw [e36, if_neg (hne i hi hih hip)]; exact c⟩
  · rw [e36]
    by_cases hsu : s = u
    · rw [if_pos hsu]
      exact Or.inr ⟨h1, by omega, by rw [e35, if_pos rfl, hsu]⟩
    · rw [if_neg hsu]
      rcases h3 s hs hss with z | ⟨z1, z2, z3⟩
      · exact Or.inl z
      · refine Or.inr ⟨z1, fun z => ?_, by rw [e35, if_neg z2]; exact z3⟩
        rw [z, hu] at z3
        exact hsu z3.symm
  · have hih : i ≠ h := fun z => hpp (by rw [z]; exact hp)
    rw [e34, e35 i, if_neg hih, e35]
    by_cases hq : (i - 1) / 2 = h
    · rw [if_pos hq]
      have := (h5 i hi hq).2 hh
      rw [hp, hu] at this
      exact this
    · rw [if_neg hq]
      exact h4 i hi hih hq
  · have hpar : 0 < p → m 34 (m 35 ((p - 1) / 2)) ≤ m 34 u := fun z => by
      have := h4 p ⟨z, by omega⟩ (by omega) (by omega)
      rw [hu] at this
      exact this
    have hpp35 : 0 < p → m' 35 ((p - 1) / 2) = m 35 ((p - 1) / 2) := fun z => by rw [e35, if_neg (by omega)]
    rw [e34, e35 i]
    by_cases hih : i = h
    · rw [if_pos hih]
      exact ⟨by omega, fun z => by rw [hpp35 z]; exact hpar z⟩
    · rw [if_neg hih]
      have hs := h4 i hi hih (by omega)
      rw [hpp, hu] at hs
      exact ⟨by omega, fun z => by rw [hpp35 z]; exact Int.le_trans (hpar z) hs⟩
theorem HU_end {S h s0 key : Int} {m : Mem} (H : HU S (m 30 9) h s0 key m) (hs0 : 0 ≤ s0 ∧ s0 < S) (hqS : m 30 9 ≤ S) (hk : 0 < h → m 34 (m 35 ((h - 1) / 2)) ≤ key) : HI S (mset (mset m 35 h s0) 36 s0 h) := by
  obtain ⟨h1, h2, h3, h4, h5, h6⟩ := H
  generalize hm : mset (mset m 35 h s0) 36 s0 h = m'
  have e30 : m' 30 = m 30 := by rw [← hm, k_mset_ne (by decide), k_mset_ne (by decide)]
  have e34 : m' 34 = m 34 := by rw [← hm, k_mset_ne (by decide), k_mset_ne (by decide)]
  have e35 : ∀ i, m' 35 i = if i = h then s0 else m 35 i := fun i => by rw [← hm, k_mset_ne (by decide), k_mset_at]
  have e36 : ∀ s, m' 36 s = if s = s0 then h else m 36 s := fun s => by rw [← hm, k_mset_at, k_mset_ne (by decide)]
  unfold HI
  rw [e30, e34]
  refine ⟨by omega, fun i hi => ?_, fun s hs => ?_, fun i hi => ?_⟩
  · rw [e35]
    by_cases hih : i = h
    · rw [if_pos hih]; exact ⟨hs0, by rw [e36, if_pos rfl, hih]⟩
    · rw [if_neg hih]
      obtain ⟨a, b, c⟩ := h2 i hi hih
      exact ⟨a, by rw [e36, if_neg b]; exact c⟩
  · rw [e36]
    by_cases hss : s = s0
    · rw [if_pos hss]; exact Or.inr ⟨h1, by rw [e35, if_pos rfl, hss]⟩
    · rw [if_neg hss]
      rcases h3 s hs hss with z | ⟨z1, z2, z3⟩
      · exact Or.inl z
      · exact Or.inr ⟨z1, by rw [e35, if_neg z2]; exact z3⟩
  · rw [e35, e35]
    by_cases hih : i = h
    · rw [if_pos hih, hih, if_neg (by omega), h6]
      exact hk (by omega)
    · rw [if_neg hih]
      by_cases hq : (i - 1) / 2 = h
      · rw [if_pos hq, h6]; exact (h5 i hi hq).1
      · rw [if_neg hq]; exact h4 i hi hih hq
/-- what an offer leaves -/
def ofP (S s k : Int) (m m' : Mem) : Prop := HI S m' ∧ (∀ o, o ≠ 30 → o ≠ 34 → o ≠ 35 → o ≠ 36 → m' o = m o) ∧ (∀ i, i ≠ 9 → m' 30 i = m 30 i) ∧ (∀ t, m' 34 t = if t = s ∧ k < m 34 s then k else m 34 t) ∧ ∀ t, (0 ≤ t ∧ t < S) → (m' 36 t ≠ -1 ↔ m 36 t ≠ -1 ∨ (t = s ∧ k < m 34 s))
set_option maxRecDepth 100000 in
theorem c_X7_offer (X : Xv) (m : Mem) (S s k : Int) (h324 : nC X ≤ 324) (hS : S ≤ ((nC X * 5 : Nat) : Int)) (hH : HI S m) (hs : 0 ≤ s ∧ s < S) : kCall (eX X) 1 M_X7_offer.1 [vR 30, vI s, vI k] m (fun r m' => r = none ∧ ofP S s k m m') := by
  refine kCall_ofT ok_X7_offer rfl (Nat.le_of_ble_eq_true rfl) (fun T hT => ?_)
  have hSn : S ≤ 1620 := by omega
  have hsb : 0 ≤ s ∧ s < ((nC X * 5 : Nat) : Int) := by omega
  by_cases hk : m 34 s ≤ k
  · refine kW_go ok_X7_offer [] 20 ?_
    refine ⟨hsb, And.intro (fun h => absurd (show k < m 34 s from h) (by omega)) (fun _ => hT _ _ ⟨rfl, hH, fun _ _ _ _ _ => rfl, fun _ _ => rfl, fun t => ?_, fun t _ => ?_⟩)⟩
    · rw [if_neg (by omega)]
    · exact ⟨Or.inl, fun z => z.elim id (fun z => absurd z.2 (by omega))⟩
  · have hk : k < m 34 s := by omega
    -- the loop
    have loop : ∀ (n : Nat) (h : Int) (m' : Mem), h.toNat = n → HU S (m' 30 9) h s k m' → m' 30 9 ≤ S → (∀ o, o ≠ 30 → o ≠ 34 → o ≠ 35 → o ≠ 36 → m' o = m o) → (∀ i, i ≠ 9 → m' 30 i = m 30 i) → (∀ t, m' 34 t = if t = s ∧ k < m 34 s then k else m 34 t) → (∀ t, (0 ≤ t ∧ t < S) → t ≠ s → (m' 36 t ≠ -1 ↔ m 36 t ≠ -1)) → kW (eX X) 0 M_X7_offer T 2 [some (vR 30), some (vI s), some (vI k), some (vI h)] [] m' := by
      intro n
      induction n using Nat.strongRecOn with
      | ind n ih =>
        intro h m' hn hU hq hf hf30 h34 h36
        have hU1 := hU.1
        have hend : (0 < h → m' 34 (m' 35 ((h - 1) / 2)) ≤ k) → kW (eX X) 0 M_X7_offer T 3 [some (vR 30), some (vI s), some (vI k), some (vI h)] [] m' := by
          intro hz
          refine kW_go ok_X7_offer [] 20 ?_
          refine ⟨⟨by omega, by show h < ((nC X * 5 : Nat) : Int); omega⟩, hsb, hT _ _ ⟨rfl, HU_end hU hs hq hz, fun o a b c d => ?_, fun i hi => ?_, fun t => ?_, fun t ht => ?_⟩⟩
          · rw [k_mset_ne d, k_mset_ne c]; exact hf o a b c d
          · rw [k_mset_ne (by decide), k_mset_ne (by decide)]; exact hf30 i hi
          · rw [k_mset_ne (by decide), k_mset_ne (by decide)]; exact h34 t
          · rw [k_mset_at]
            by_cases hts : t = s
            · rw [if_pos hts]
              exact ⟨fun _ => Or.inr ⟨hts, hk⟩, fun _ => by omega⟩
            · rw [if_neg hts, k_mset_ne (by decide), h36 t ht hts]
              exact ⟨Or.inl, fun z => z.elim id (fun z => absurd z.1 hts)⟩
        refine kW_go ok_X7_offer [2, 3] 20 ?_
        refine And.intro (fun h0 => hend (fun z => absurd h0 (by omega))) (fun h0 => ?_)
        have h0 : 0 < h := h0
        have ek : kshr (h - 1) 1 = (h - 1) / 2 := k_shr1 (by omega) (by omega)
        have hpb : 0 ≤ (h - 1) / 2 ∧ (h - 1) / 2 < ((nC X * 5 : Nat) : Int) := by omega
        have hi1 : inR (h - 1) := by constructor <;> omega
        have hp := hU.2.1 ((h - 1) / 2) (by omega) (by omega)
        have hpv : 0 ≤ m' 35 ((h - 1) / 2) ∧ m' 35 ((h - 1) / 2) < ((nC X * 5 : Nat) : Int) := by omega
        have hhb : 0 ≤ h ∧ h < ((nC X * 5 : Nat) : Int) := by omega
        show inR (h - 1) ∧ (0 ≤ kshr (h - 1) 1 ∧ kshr (h - 1) 1 < ((nC X * 5 : Nat) : Int)) ∧ (0 ≤ m' 35 (kshr (h - 1) 1) ∧ m' 35 (kshr (h - 1) 1) < ((nC X * 5 : Nat) : Int)) ∧ (m' 34 (m' 35 (kshr (h - 1) 1)) ≤ k → kW (eX X) 0 M_X7_offer T 3 [some (vR 30), some (vI s), some (vI k), some (vI h)] [] m') ∧ (k < m' 34 (m' 35 (kshr (h - 1) 1)) → inR (h - 1) ∧ (0 ≤ kshr (h - 1) 1 ∧ kshr (h - 1) 1 < ((nC X * 5 : Nat) : Int)) ∧ (0 ≤ h ∧ h < ((nC X * 5 : Nat) : Int)) ∧ (0 ≤ h ∧ h < ((nC X * 5 : Nat) : Int)) ∧ (0 ≤ mset m' 35 h (m' 35 (kshr (h - 1) 1)) 35 h ∧ mset m' 35 h (m' 35 (kshr (h - 1) 1)) 35 h < ((nC X * 5 : Nat) : Int)) ∧ inR (h - 1) ∧ kW (eX X) 0 M_X7_offer T 2 [some (vR 30), some (vI s), some (vI k), some (vI (kshr (h - 1) 1))] [] (mset (mset m' 35 h (m' 35 (kshr (h - 1) 1))) 36 (mset m' 35 h (m' 35 (kshr (h - 1) 1)) 35 h) h))
        rw [ek, k_mset_at, if_pos rfl]
        refine ⟨hi1, hpb, hpv, fun h1 => hend (fun _ => h1), fun h1 => ⟨hi1, hpb, hhb, hhb, hpv, hi1, ?_⟩⟩
        refine ih ((h - 1) / 2).toNat (by omega) _ _ rfl ?_ ?_ (fun o a b c d => ?_) (fun i hi => ?_) (fun t => ?_) (fun t ht hts => ?_)
        · rw [k_mset_ne (by decide), k_mset_ne (by decide)]
          exact HU_step hU h0 h1
        · rw [k_mset_ne (by decide), k_mset_ne (by decide)]; exact hq
        · rw [k_mset_ne d, k_mset_ne c]; exact hf o a b c d
        · rw [k_mset_ne (by decide), k_mset_ne (by decide)]; exact hf30 i hi
        · rw [k_mset_ne (by decide), k_mset_ne (by decide)]; exact h34 t
        · rw [k_mset_at]
          by_cases htu : t = m' 35 ((h - 1) / 2)
          · rw [if_pos htu, ← h36 t ht hts, htu, hp.2.2]
            constructor <;> intro _ <;> omega
          · rw [if_neg htu, k_mset_ne (by decide)]
            exact h36 t ht hts
    obtain ⟨i1, i2, i3, i4⟩ := id hH
    generalize hm1 : mset m 34 s k = m1
    have e1 : ∀ o, o ≠ 34 → m1 o = m o := fun o ho => by rw [← hm1, k_mset_ne ho]
    have e34 : ∀ t, m1 34 t = if t = s then k else m 34 t := fun t => by rw [← hm1, k_mset_at]
    have e34' : ∀ t, m1 34 t = if t = s ∧ k < m 34 s then k else m 34 t := fun t => by
      rw [e34]
      by_cases ht : t = s
      · rw [if_pos ht, if_pos ⟨ht, hk⟩]
      · rw [if_neg ht, if_neg (fun z => ht z.1)]
    refine kW_go ok_X7_offer [2] 20 ?_
    show (0 ≤ s ∧ s < ((nC X * 5 : Nat) : Int)) ∧ (k < m 34 s → (0 ≤ s ∧ s < ((nC X * 5 : Nat) : Int)) ∧ (0 ≤ s ∧ s < ((nC X * 5 : Nat) : Int)) ∧ (¬ mset m 34 s k 36 s = -1 → kW (eX X) 0 M_X7_offer T 2 [some (vR 30), some (vI s), some (vI k), some (vI (mset m 34 s k 36 s))] [] (mset m 34 s k)) ∧ (mset m 34 s k 36 s = -1 → inR (mset m 34 s k 30 9 + 1) ∧ kW (eX X) 0 M_X7_offer T 2 [some (vR 30), some (vI s), some (vI k), some (vI (mset m 34 s k 30 9))] [] (fset (mset m 34 s k) 30 9 (mset m 34 s k 30 9 + 1)))) ∧ (m 34 s ≤ k → T none m)
    rw [hm1, e1 36 (by decide), e1 30 (by decide)]
    refine ⟨hsb, fun _ => ⟨hsb, hsb, fun hp => ?_, fun hp => ⟨by constructor <;> omega, ?_⟩⟩, fun h => absurd hk (by omega)⟩
    · rcases i3 s hs with z | ⟨z1, z2⟩
      · exact absurd z hp
      · have hdis : ∀ i, (0 ≤ i ∧ i < m 30 9) → i ≠ m 36 s → m 35 i ≠ s := by
          intro i hi hih z
          have := (i2 i hi).2
          rw [z] at this
          exact hih this.symm
        have hval : ∀ i, (0 ≤ i ∧ i < m 30 9) → i ≠ m 36 s → m1 34 (m 35 i) = m 34 (m 35 i) := fun i hi hih => by rw [e34, if_neg (hdis i hi hih)]
        refine loop _ (m 36 s) m1 rfl ?_ (by rw [e1 30 (by decide)]; exact i1.2) (fun o _ b _ _ => e1 o b) (fun i _ => by rw [e1 30 (by decide)]) e34' (fun t _ _ => by rw [e1 36 (by decide)])
        rw [e1 30 (by decide)]
        unfold HU
        rw [e1 35 (by decide), e1 36 (by decide)]
        refine ⟨z1, fun i hi hih => ⟨(i2 i hi).1, hdis i hi hih, (i2 i hi).2⟩, fun t ht hts => ?_, fun i hi hih hpp => ?_, fun i hi hpp => ?_, by rw [e34, if_pos rfl]⟩
        · rcases i3 t ht with y | ⟨y1, y2⟩
          · exact Or.inl y
          · exact Or.inr ⟨y1, fun z => hts (by rw [← y2, z, z2]), y2⟩
        · rw [hval _ (by omega) hpp, hval _ (by omega) hih]
          exact i4 i hi
        · have hih : i ≠ m 36 s := by omega
          rw [hval _ (by omega) hih]
          have a := i4 i hi
          rw [hpp, z2] at a
          refine ⟨by omega, fun h0 => ?_⟩
          rw [hval _ (by omega) (by omega)]
          have b := i4 (m 36 s) ⟨h0, z1.2⟩
          rw [z2] at b
          omega
    · have hdis : ∀ i, (0 ≤ i ∧ i < m 30 9) → m 35 i ≠ s := by
        intro i hi z
        have := (i2 i hi).2
        rw [z, hp] at this
        omega
      have hval : ∀ i, (0 ≤ i ∧ i < m 30 9) → m1 34 (m 35 i) = m 34 (m 35 i) := fun i hi => by rw [e34, if_neg (hdis i hi)]
      -- not all states wait
      have hlt : m 30 9 < S := by
        have hN : ((List.range (m 30 9).toNat).map (fun i : Nat => m 35 (i : Int))).Nodup := by
          rw [List.nodup_iff_pairwise_ne, List.pairwise_map]
          refine List.Pairwise.imp_of_mem ?_ (List.nodup_range (n := (m 30 9).toNat))
          intro a b ha hb hab z
          rw [List.mem_range] at ha hb
          have h1 := (i2 (a : Int) (by omega)).2
          have h2 := (i2 (b : Int) (by omega)).2
          rw [z, h2] at h1
          omega
        have h2 := pigeon S.toNat (s :: (List.range (m 30 9).toNat).map (fun i : Nat => m 35 (i : Int))) (List.nodup_cons.mpr ⟨fun z => by
            obtain ⟨i, h1, h2⟩ := List.mem_map.mp z
            rw [List.mem_range] at h1
            exact hdis (i : Int) (by omega) h2, hN⟩) (fun x hx => by
            rcases List.mem_cons.mp hx with rfl | hx
            · omega
            · obtain ⟨i, h1, h2⟩ := List.mem_map.mp hx
              rw [List.mem_range] at h1
              have := (i2 (i : Int) (by omega)).1
              omega)
        simp only [List.length_cons, List.length_map, List.length_range] at h2
        omega
      have f1 : ∀ o, o ≠ 30 → fset m1 30 9 (m 30 9 + 1) o = m1 o := fun o ho => by unfold fset; rw [k_mset_ne ho]
      have f2 : fset m1 30 9 (m 30 9 + 1) 30 9 = m 30 9 + 1 := by unfold fset; rw [k_mset_at]; rfl
      refine loop _ (m 30 9) _ rfl ?_ (by rw [f2]; omega) (fun o a b _ _ => by rw [f1 o a]; exact e1 o b) (fun i hi => by unfold fset; rw [k_mset_at, if_neg (show i ≠ ((9 : Nat) : Int) from hi), e1 30 (by decide)]) (fun t => by rw [f1 34 (by decide)]; exact e34' t) (fun t _ _ => by rw [f1 36 (by decide), e1 36 (by decide)])
      rw [f2]
      unfold HU
      rw [f1 34 (by decide), f1 35 (by decide), f1 36 (by decide), e1 35 (by decide), e1 36 (by decide)]
      refine ⟨by omega, fun i hi hih => ⟨(i2 i (by omega)).1, hdis i (by omega), (i2 i (by omega)).2⟩, fun t ht hts => ?_, fun i hi hih hpp => ?_, fun i hi hpp => absurd hpp (by omega), by rw [e34, if_pos rfl]⟩
      · rcases i3 t ht with y | ⟨y1, y2⟩
        · exact Or.inl y
        · exact Or.inr ⟨by omega, by omega, y2⟩
      · rw [hval _ (by omega), hval _ (by omega)]
        exact i4 i (by omega)
