/-! STRETCH: the class's single bend -/
theorem dn_ne {b c k to : Int} {m : Mem} {o : Nat} (h : o ≠ 19) : dn b c k to m o = m o := by
  unfold dn
  rw [k_mset_ne h, k_mset_ne h]
theorem dn_19 {b x k y : Int} {m : Mem} (hxy : x ≠ y) (j : Int) : dn b x k y m 19 j = if j = b + y then kand (m 19 (b + y)) (kxor (kshl 1 (oppF k)) (-1)) else if j = b + x then kand (m 19 (b + x)) (kxor (kshl 1 k) (-1)) else m 19 j := by
  unfold dn
  rw [k_mset_at]
  by_cases h : j = b + y
  · rw [if_pos h, if_pos h, k_mset_at, if_neg (by omega)]
  · rw [if_neg h, if_neg h, k_mset_at]
theorem dn_bit {w d l n x k z : Int} {m : Mem} (hk : 0 ≤ k ∧ k < 6) (hne : nx w d l x k ≠ -1) (j : Int) (hj : 0 ≤ j ∧ j < 6) : bt (dn (n * (w * d * l)) x k (nx w d l x k) m 19 (n * (w * d * l) + z)) j.toNat = true ↔ bt (m 19 (n * (w * d * l) + z)) j.toNat = true ∧ ¬ (z = x ∧ j = k) ∧ ¬ (z = nx w d l x k ∧ j = oppF k) := by
  have hself := nx_self hk hne
  have ho := opp_in hk
  have hjn : ((j.toNat : Nat) : Int) = j := by omega
  rw [dn_19 (fun z => hself z.symm)]
  by_cases h1 : z = nx w d l x k
  · rw [if_pos (by rw [h1]), bt_and, bt_nall ho.1 (by omega) (by omega), hjn, ← h1, Bool.and_eq_true, decide_eq_true_iff]
    exact ⟨fun q => ⟨q.1, fun e => hself (by rw [← h1, e.1]), fun e => q.2 e.2⟩, fun q => ⟨q.1, fun e => q.2.2 ⟨rfl, e⟩⟩⟩
  · rw [if_neg (by omega)]
    by_cases h2 : z = x
    · rw [if_pos (by rw [h2]), bt_and, bt_nall hk.1 (by omega) (by omega), hjn, h2, Bool.and_eq_true, decide_eq_true_iff]
      exact ⟨fun q => ⟨q.1, fun e => q.2 e.2, fun e => hself e.1.symm⟩, fun q => ⟨q.1, fun e => q.2.1 ⟨rfl, e⟩⟩⟩
    · rw [if_neg (by omega)]
      exact ⟨fun q => ⟨q, fun e => h2 e.1, fun e => h1 e.1⟩, fun q => q.1⟩
theorem dn_tsame {w d l n x k : Int} {c : Mem} (hx : inC w d l x) (hk : 0 ≤ k ∧ k < 6) (hne : nx w d l x k ≠ -1) : tsame w d l n c (dn (n * (w * d * l)) x k (nx w d l x k) c) := by
  have hself := nx_self hk hne
  have hyi := (nx_in hne).1
  refine ⟨fun o _ h2 => dn_ne h2, fun n' z hn' hnn hz => ?_, fun z o hz ho => by rw [dn_ne (by decide)]⟩
  obtain ⟨N, hN⟩ : ∃ N, N = w * d * l := ⟨_, rfl⟩
  obtain ⟨x1, x2⟩ := hx
  obtain ⟨y1, y2⟩ := hyi
  obtain ⟨z1, z2⟩ := hz
  rw [← hN] at x2 y2 z2 ⊢
  have hne2 : ∀ a, 0 ≤ a → a < N → n' * N + z ≠ n * N + a := by
    intro a a1 a2 e
    rcases Int.lt_or_gt_of_ne hnn with h | h
    · have h3 : (n' + 1) * N ≤ n * N := Int.mul_le_mul_of_nonneg_right (by omega) (by omega)
      rw [Int.add_mul, Int.one_mul] at h3
      omega
    · have h3 : (n + 1) * N ≤ n' * N := Int.mul_le_mul_of_nonneg_right (by omega) (by omega)
      rw [Int.add_mul, Int.one_mul] at h3
      omega
  rw [dn_19 (fun z => hself z.symm), if_neg (hne2 _ y1 y2), if_neg (hne2 _ x1 x2)]
theorem dn_in {w d l n x k z : Int} {m : Mem} (hk : 0 ≤ k ∧ k < 6) (hne : nx w d l x k ≠ -1) (hx : 0 ≤ m 19 (n * (w * d * l) + x) ∧ m 19 (n * (w * d * l) + x) < 64) (hy : 0 ≤ m 19 (n * (w * d * l) + nx w d l x k) ∧ m 19 (n * (w * d * l) + nx w d l x k) < 64) (hz : 0 ≤ m 19 (n * (w * d * l) + z) ∧ m 19 (n * (w * d * l) + z) < 64) : 0 ≤ dn (n * (w * d * l)) x k (nx w d l x k) m 19 (n * (w * d * l) + z) ∧ dn (n * (w * d * l)) x k (nx w d l x k) m 19 (n * (w * d * l) + z) < 64 := by
  have hself := nx_self hk hne
  have hand : ∀ {v u : Int}, (0 ≤ v ∧ v < 64) → 0 ≤ kand v u ∧ kand v u < 64 := fun {v u} h => k_lt_bits (n := 6) (k_in_kand _ _) (by decide) (fun k h1 _ => by rw [bt_and, bt_small (n := 6) (inR_small (by omega)) h.1 h.2 h1]; rfl)
  rw [dn_19 (fun z => hself z.symm)]
  split
  · exact hand hy
  · split
    · exact hand hx
    · exact hz
theorem jn_in {w d l n x k z : Int} {m : Mem} (hk : 0 ≤ k ∧ k < 6) (hne : nx w d l x k ≠ -1) (hx : 0 ≤ m 19 (n * (w * d * l) + x) ∧ m 19 (n * (w * d * l) + x) < 64) (hy : 0 ≤ m 19 (n * (w * d * l) + nx w d l x k) ∧ m 19 (n * (w * d * l) + nx w d l x k) < 64) (hz : 0 ≤ m 19 (n * (w * d * l) + z) ∧ m 19 (n * (w * d * l) + z) < 64) : 0 ≤ jn 19 17 (n * (w * d * l)) n x k (nx w d l x k) m 19 (n * (w * d * l) + z) ∧ jn 19 17 (n * (w * d * l)) n x k (nx w d l x k) m 19 (n * (w * d * l) + z) < 64 := by
  have hself := nx_self hk hne
  have hor : ∀ {v k : Int}, (0 ≤ v ∧ v < 64) → (0 ≤ k ∧ k < 6) → 0 ≤ kor v (kshl 1 k) ∧ kor v (kshl 1 k) < 64 := fun {v k} h hk => by
    have := shl6 hk
    exact kor_lt (n := 6) (by decide) (inR_small (by omega)) (k_in_kshl _ _) h ⟨this.1, this.2.1⟩
  rw [jn_19 (fun z => hself z.symm)]
  split
  · exact hor hy (opp_in hk)
  · split
    · exact hor hx hk
    · exact hz
theorem jn_cu {w d l n x k z : Int} {m : Mem} (hn : 0 ≤ n ∧ n < 8) (hk : 0 ≤ k ∧ k < 6) (hne : nx w d l x k ≠ -1) : cuN (jn 19 17 (n * (w * d * l)) n x k (nx w d l x k) m) n z ↔ cuN m n z ∨ z = x ∨ z = nx w d l x k := by
  have hself := nx_self hk hne
  unfold cuN
  rw [jn_ne (p := 16) (by decide) (by decide), jn_17 (fun z => hself z.symm)]
  have hone : ∀ v : Int, bt (kor v (kshl 1 n)) n.toNat = true := fun v => (bt_kor_n hn 0).2
  by_cases h1 : z = nx w d l x k
  · rw [if_pos h1, hone]
    exact ⟨fun _ => Or.inr (Or.inr h1), fun _ => Or.inr rfl⟩
  · rw [if_neg h1]
    by_cases h2 : z = x
    · rw [if_pos h2, hone]
      exact ⟨fun _ => Or.inr (Or.inl h2), fun _ => Or.inr rfl⟩
    · rw [if_neg h2]
      exact ⟨Or.inl, fun q => q.elim id (fun q => q.elim (fun q => absurd q h2) (fun q => absurd q h1))⟩
theorem jn_17in {w d l n x k z : Int} {m : Mem} (hn : 0 ≤ n ∧ n < 8) (hx : 0 ≤ m 17 x ∧ m 17 x < 256) (hk : 0 ≤ k ∧ k < 6) (hne : nx w d l x k ≠ -1) (hy : 0 ≤ m 17 (nx w d l x k) ∧ m 17 (nx w d l x k) < 256) (hz : 0 ≤ m 17 z ∧ m 17 z < 256) : 0 ≤ jn 19 17 (n * (w * d * l)) n x k (nx w d l x k) m 17 z ∧ jn 19 17 (n * (w * d * l)) n x k (nx w d l x k) m 17 z < 256 := by
  have hself := nx_self hk hne
  have hbit : 0 ≤ kshl 1 n ∧ kshl 1 n < 256 := bits8 (k_in_kshl _ _) (fun o ho => by rw [bt_bit hn.1 (by omega), decide_eq_false (by omega)])
  rw [jn_17 (fun z => hself z.symm)]
  split
  · exact kor8 hy hbit
  · split
    · exact kor8 hx hbit
    · exact hz
