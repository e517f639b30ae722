/-! BARS, WHY, LATE: the order of sets -/
def rvA (j : Int) : Nat → Int
  | 0 => 0
  | k + 1 => kor (rvA j k) (kshl (kand (kshr j (7 - (k : Int))) 1) (k : Int))
/-- a set's bits the other way round -/
def rvS (j : Int) : Int := rvA j 8
theorem rvS_all : ∀ j : Fin 256, (0 ≤ rvS (j.val : Int) ∧ rvS (j.val : Int) < 256) ∧ rvS (rvS (j.val : Int)) = (j.val : Int) ∧ ∀ k : Fin 8, bt (rvS (j.val : Int)) k.val = (j.val : Nat).testBit (7 - k.val) := by decide +kernel
theorem rvS_in {j : Int} (h : 0 ≤ j ∧ j < 256) : (0 ≤ rvS j ∧ rvS j < 256) ∧ rvS (rvS j) = j ∧ ∀ k : Nat, k < 8 → bt (rvS j) k = j.toNat.testBit (7 - k) := by
  have := rvS_all ⟨j.toNat, by omega⟩
  simp only [Int.toNat_of_nonneg h.1] at this
  exact ⟨this.1, this.2.1, fun k hk => this.2.2 ⟨k, hk⟩⟩
theorem rvS_pop1 : ∀ j : Fin 256, pop (rvS (j.val : Int)) = pop (j.val : Int) := by decide +kernel
theorem rvS_pop {j : Int} (h : 0 ≤ j ∧ j < 256) : pop (rvS j) = pop j := by
  have := rvS_pop1 ⟨j.toNat, by omega⟩
  simp only [Int.toNat_of_nonneg h.1] at this
  exact this
/-- at the lowest bit where two sets differ, the first has it -/
def lexA (a b : Int) : Prop := ∃ p : Nat, p < 8 ∧ bt a p = true ∧ bt b p = false ∧ ∀ q, q < p → bt a q = bt b q
def ahd (a b : Int) : Prop := pop a < pop b ∨ (pop a = pop b ∧ lexA a b)
theorem lexA_no {a b : Int} (h : lexA a b) (h' : lexA b a) : False := by
  obtain ⟨p, -, h1, h2, h3⟩ := h
  obtain ⟨p', -, h1', h2', h3'⟩ := h'
  rcases Nat.lt_trichotomy p p' with h | h | h
  · have := h3' p h
    rw [h1, h2] at this
    cases this
  · rw [h, h2'] at h1
    cases h1
  · have := h3 p' h
    rw [h1', h2'] at this
    cases this
theorem lexA_tr {a b c : Int} (h : lexA a b) (h' : lexA b c) : lexA a c := by
  obtain ⟨p, p8, h1, h2, h3⟩ := h
  obtain ⟨p', p8', h1', h2', h3'⟩ := h'
  rcases Nat.lt_trichotomy p p' with h | h | h
  · exact ⟨p, p8, h1, by rw [← h3' p h]; exact h2, fun q hq => (h3 q hq).trans (h3' q (by omega))⟩
  · rw [h, h1'] at h2
    cases h2
  · exact ⟨p', p8', by rw [h3 p' h]; exact h1', h2', fun q hq => (h3 q (by omega)).trans (h3' q hq)⟩
theorem bits_eq {a b : Int} (ha : 0 ≤ a ∧ a < 256) (hb : 0 ≤ b ∧ b < 256) (h : ∀ k, k < 8 → bt a k = bt b k) : a = b := by
  refine bt_ext (inR_small (by omega)) (inR_small (by omega)) (fun k hk => ?_)
  by_cases h8 : k < 8
  · exact h k h8
  · rw [bt_small (n := 8) (inR_small (by omega)) ha.1 ha.2 (by omega), bt_small (n := 8) (inR_small (by omega)) hb.1 hb.2 (by omega)]
theorem lexA_or {a b : Int} (ha : 0 ≤ a ∧ a < 256) (hb : 0 ≤ b ∧ b < 256) (hne : a ≠ b) : lexA a b ∨ lexA b a := by
  have key : ∀ n : Nat, n ≤ 8 → (∀ q, q < n → bt a q = bt b q) ∨ lexA a b ∨ lexA b a := by
    intro n
    induction n with
    | zero => exact fun _ => Or.inl (fun q hq => by omega)
    | succ n ih =>
      intro hn
      rcases ih (by omega) with h | h
      · by_cases e : bt a n = bt b n
        · refine Or.inl (fun q hq => ?_)
          by_cases hqn : q = n
          · rw [hqn]; exact e
          · exact h q (by omega)
        · refine Or.inr ?_
          cases h1 : bt a n with
          | true =>
            cases h2 : bt b n with
            | true => rw [h1, h2] at e; exact absurd rfl e
            | false => exact Or.inl ⟨n, by omega, h1, h2, h⟩
          | false =>
            cases h2 : bt b n with
            | false => rw [h1, h2] at e; exact absurd rfl e
            | true => exact Or.inr ⟨n, by omega, h2, h1, fun q hq => (h q hq).symm⟩
      · exact Or.inr h
  rcases key 8 (Nat.le_refl _) with h | h
  · exact absurd (bits_eq ha hb h) hne
  · exact h
theorem tb_dm (x k : Nat) : x.testBit k = true ↔ x / 2 ^ k % 2 = 1 := by
  rw [Nat.testBit_eq_decide_div_mod_eq, decide_eq_true_eq]
theorem top_eq {i j : Nat} (hi : i < 256) (hj : j < 256) : ∀ (m k : Nat), k + m = 8 → (∀ t, k ≤ t → t < 8 → i.testBit t = j.testBit t) → i / 2 ^ k = j / 2 ^ k
  | 0, k, hk, _ => by
    rw [show k = 8 by omega, Nat.div_eq_of_lt (show i < 2 ^ 8 from hi), Nat.div_eq_of_lt (show j < 2 ^ 8 from hj)]
  | m + 1, k, hk, h => by
    have ih := top_eq hi hj m (k + 1) (by omega) (fun t h1 h2 => h t (by omega) h2)
    have hb := h k (Nat.le_refl _) (by omega)
    have h1 := tb_dm i k
    have h2 := tb_dm j k
    rw [hb] at h1
    have h3 := h1.symm.trans h2
    rw [Nat.pow_succ, ← Nat.div_div_eq_div_mul, ← Nat.div_div_eq_div_mul] at ih
    generalize i / 2 ^ k = A at *
    generalize j / 2 ^ k = B at *
    omega
theorem lexA_lt {i j : Int} (hi : 0 ≤ i ∧ i < 256) (hj : 0 ≤ j ∧ j < 256) (h : lexA (rvS j) (rvS i)) : i < j := by
  obtain ⟨p, p8, h1, h2, h3⟩ := h
  have ri := (rvS_in hi).2.2
  have rj := (rvS_in hj).2.2
  rw [rj p p8] at h1
  rw [ri p p8] at h2
  have ht := top_eq (i := i.toNat) (j := j.toNat) (by omega) (by omega) p (8 - p) (by omega) (fun t h1 h2 => by
    have := h3 (7 - t) (by omega)
    rw [rj _ (by omega), ri _ (by omega), show 7 - (7 - t) = t by omega] at this
    exact this.symm)
  rw [show 8 - p = (7 - p) + 1 by omega, Nat.pow_succ, ← Nat.div_div_eq_div_mul, ← Nat.div_div_eq_div_mul] at ht
  have h1 := (tb_dm _ _).mp h1
  have h2 : ¬ i.toNat / 2 ^ (7 - p) % 2 = 1 := fun z => by
    have := (tb_dm _ _).mpr z
    rw [h2] at this
    cases this
  have hlt : i.toNat < j.toNat := by
    refine Nat.lt_of_not_le (fun hle => ?_)
    have := Nat.div_le_div_right (c := 2 ^ (7 - p)) hle
    generalize i.toNat / 2 ^ (7 - p) = A at *
    generalize j.toNat / 2 ^ (7 - p) = B at *
    omega
  omega
theorem ahd_no {a b : Int} (h : ahd a b) (h' : ahd b a) : False := by
  rcases h with h | ⟨h, l⟩ <;> rcases h' with h' | ⟨h', l'⟩
  · omega
  · omega
  · omega
  · exact lexA_no l l'
theorem ahd_tr {a b c : Int} (h : ahd a b) (h' : ahd b c) : ahd a c := by
  rcases h with h | ⟨h, l⟩ <;> rcases h' with h' | ⟨h', l'⟩
  · exact Or.inl (by omega)
  · exact Or.inl (by omega)
  · exact Or.inl (by omega)
  · exact Or.inr ⟨h.trans h', lexA_tr l l'⟩
theorem ahd_or {a b : Int} (ha : 0 ≤ a ∧ a < 256) (hb : 0 ≤ b ∧ b < 256) (hne : a ≠ b) : ahd a b ∨ ahd b a := by
  rcases Int.lt_trichotomy (pop a) (pop b) with h | h | h
  · exact Or.inl (Or.inl h)
  · rcases lexA_or ha hb hne with l | l
    · exact Or.inl (Or.inr ⟨h, l⟩)
    · exact Or.inr (Or.inr ⟨h.symm, l⟩)
  · exact Or.inr (Or.inl h)
/-- sets of other nets, and the least that is good -/
def vSet (N n s : Int) : Prop := (0 ≤ s ∧ s < 256) ∧ ∀ k : Nat, bt s k = true → (k : Int) < N ∧ (k : Int) ≠ n
def leastS (N n : Int) (ok : Int → Prop) (z : Int) : Prop := (z = -1 ∧ ∀ s, vSet N n s → ¬ ok s) ∨ (vSet N n z ∧ ok z ∧ ∀ s, vSet N n s → ok s → s = z ∨ ahd z s)
theorem leastS_one {N n : Int} {ok ok' : Int → Prop} {z z' : Int} (he : ∀ s, vSet N n s → (ok s ↔ ok' s)) (h : leastS N n ok z) (h' : leastS N n ok' z') : z = z' := by
  rcases h with ⟨h1, h2⟩ | ⟨h1, h2, h3⟩ <;> rcases h' with ⟨h1', h2'⟩ | ⟨h1', h2', h3'⟩
  · omega
  · exact absurd ((he _ h1').mpr h2') (h2 _ h1')
  · exact absurd ((he _ h1).mp h2) (h2' _ h1)
  · rcases h3 _ h1' ((he _ h1').mpr h2') with e | a
    · exact e.symm
    · rcases h3' _ h1 ((he _ h1).mp h2) with e | b
      · exact e
      · exact (ahd_no a b).elim
theorem pop_and {a b : Int} (ha : 0 ≤ a ∧ a < 256) : (0 ≤ kand a b ∧ kand a b < 256) ∧ pop (kand a b) ≤ pop a ∧ (pop (kand a b) = pop a → kand a b = a) := by
  have h8 := and8 (u := b) ha
  rw [pop_sum h8, pop_sum ha]
  have hle : ∀ i : Int, 0 ≤ i → i < (8 : Nat) → (if bt (kand a b) i.toNat = true then (1 : Int) else 0) ≤ (if bt a i.toNat = true then 1 else 0) := by
    intro i _ _
    rw [bt_and]
    cases bt a i.toNat <;> cases bt b i.toNat <;> decide
  refine ⟨h8, sumN_ge hle, fun h => ?_⟩
  have he := sumN_eqs hle h
  refine bits_eq h8 ha (fun k hk => ?_)
  have := he (k : Int) (by omega) (by omega)
  simp only [Int.toNat_natCast] at this
  by_cases h1 : bt (kand a b) k = true
  · by_cases h2 : bt a k = true
    · rw [h1, h2]
    · rw [if_pos h1, if_neg h2] at this; exact absurd this (by decide)
  · by_cases h2 : bt a k = true
    · rw [if_neg h1, if_pos h2] at this; exact absurd this (by decide)
    · rw [Bool.not_eq_true] at h1 h2
      rw [h1, h2]
theorem pop_sub {a b : Int} (ha : 0 ≤ a ∧ a < 256) (hb : 0 ≤ b ∧ b < 256) (h : ∀ k, bt a k = true → bt b k = true) : pop a ≤ pop b := by
  rw [pop_sum ha, pop_sum hb]
  refine sumN_ge (fun i _ _ => ?_)
  show (if bt a i.toNat = true then (1 : Int) else 0) ≤ if bt b i.toNat = true then 1 else 0
  by_cases e : bt a i.toNat = true
  · rw [if_pos e, if_pos (h _ e)]; decide
  · rw [if_neg e]; split <;> decide
/-- what a search from the small sets on has found; M: the nets that matter -/
theorem found_least {N n M c i : Int} {ok : Int → Prop} (hM : 0 ≤ M ∧ M < 256) (hMv : ∀ s, vSet N n s → vSet N n (kand s M)) (hMo : ∀ s, vSet N n s → ok s → ok (kand s M)) (hi : 0 ≤ i ∧ i < 256) (hc : pop (rvS i) = c) (hz : vSet N n (rvS i)) (hok : ok (rvS i)) (hsub : ∀ k, bt (rvS i) k = true → bt M k = true) (hall : ∀ j : Int, (0 ≤ j ∧ j < 256) → (pop (rvS j) < c ∨ (pop (rvS j) = c ∧ i < j)) → (∀ k, bt (rvS j) k = true → bt M k = true) → ¬ ok (rvS j)) : leastS N n ok (rvS i) := by
  refine Or.inr ⟨hz, hok, fun s hs hso => ?_⟩
  have h1 := pop_and (b := M) hs.1
  have h2 := hMo s hs hso
  have hr := rvS_in h1.1
  have hsubM : ∀ k, bt (kand s M) k = true → bt M k = true := fun k hk => by rw [bt_and, Bool.and_eq_true] at hk; exact hk.2
  have hn := hall (rvS (kand s M)) hr.1
  rw [hr.2.1] at hn
  have hge : ¬ pop (kand s M) < c := fun z => hn (Or.inl z) hsubM h2
  by_cases hgt : c < pop s
  · exact Or.inr (Or.inl (by omega))
  · have hsM : kand s M = s := h1.2.2 (by omega)
    rw [hsM] at hn hsubM hr
    have hle : ¬ i < rvS s := fun z => hn (Or.inr ⟨by omega, z⟩) hsubM hso
    by_cases e : rvS s = i
    · left
      rw [← e, hr.2.1]
    · right
      refine Or.inr ⟨by rw [hc]; omega, ?_⟩
      have hri := rvS_in hi
      have hne : rvS i ≠ s := fun z => e (by rw [← z]; exact hri.2.1)
      rcases lexA_or hri.1 hs.1 hne with l | l
      · exact l
      · have := lexA_lt (i := i) (j := rvS s) hi hr.1 (by rw [hr.2.1]; exact l)
        omega
theorem none_least {N n M : Int} {ok : Int → Prop} (hM : 0 ≤ M ∧ M < 256) (hMo : ∀ s, vSet N n s → ok s → ok (kand s M)) (hall : ∀ j : Int, (0 ≤ j ∧ j < 256) → pop (rvS j) ≤ pop M → (∀ k, bt (rvS j) k = true → bt M k = true) → ¬ ok (rvS j)) : leastS N n ok (-1) := by
  refine Or.inl ⟨rfl, fun s hs hso => ?_⟩
  have h1 := pop_and (b := M) hs.1
  have hr := rvS_in h1.1
  have hsubM : ∀ k, bt (kand s M) k = true → bt M k = true := fun k hk => by rw [bt_and, Bool.and_eq_true] at hk; exact hk.2
  have hn := hall (rvS (kand s M)) hr.1
  rw [hr.2.1] at hn
  exact hn (pop_sub h1.1 hM hsubM) hsubM (hMo s hs hso)
/-- the reference's order -/
theorem low_bit : ∀ (x : Fin 256) (k : Fin 32), (bt (x.val : Int) k.val = true ∧ bt (-(x.val : Int)) k.val = true) ↔ (bt (x.val : Int) k.val = true ∧ ∀ q : Fin 8, q.val < k.val → bt (x.val : Int) q.val = false) := by decide +kernel
