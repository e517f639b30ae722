/-! one more trace on both sides -/
/-- the same but for a net's traces -/
def tsame (w d l n : Int) (c c' : Mem) : Prop := (∀ o, o ≠ 17 → o ≠ 19 → c' o = c o) ∧ (∀ n' x : Int, (0 ≤ n' ∧ n' < 8) → n' ≠ n → inC w d l x → c' 19 (n' * (w * d * l) + x) = c 19 (n' * (w * d * l) + x)) ∧ ∀ (x : Int) (o : Nat), inC w d l x → (o : Int) ≠ n → bt (c' 17 x) o = bt (c 17 x) o
theorem tsame_rf {w d l n : Int} {c : Mem} : tsame w d l n c c := ⟨fun _ _ _ => rfl, fun _ _ _ _ _ => rfl, fun _ _ _ _ => rfl⟩
theorem tsame_tr {w d l n : Int} {a b c : Mem} (h : tsame w d l n a b) (h' : tsame w d l n b c) : tsame w d l n a c := ⟨fun o p q => (h'.1 o p q).trans (h.1 o p q), fun n' x a1 a2 a3 => (h'.2.1 n' x a1 a2 a3).trans (h.2.1 n' x a1 a2 a3), fun x o a1 a2 => (h'.2.2 x o a1 a2).trans (h.2.2 x o a1 a2)⟩
theorem tsame_sy {w d l n : Int} {a b : Mem} (h : tsame w d l n a b) : tsame w d l n b a := ⟨fun o p q => (h.1 o p q).symm, fun n' x a1 a2 a3 => (h.2.1 n' x a1 a2 a3).symm, fun x o a1 a2 => (h.2.2 x o a1 a2).symm⟩
/-- the same in the reference but for a net's list of traces and its copper -/
def rsame (n : Int) (m m' : Mem) : Prop := (∀ o, o ≠ 68 → o ≠ 69 → o ≠ 70 → o ≠ 72 → m' o = m o) ∧ (∀ j : Int, j ≠ n → m' 68 j = m 68 j) ∧ (∀ j : Int, ¬ (2400 * n ≤ j ∧ j < 2400 * n + 2400) → m' 69 j = m 69 j ∧ m' 70 j = m 70 j) ∧ ∀ j : Int, ¬ (324 * n ≤ j ∧ j < 324 * n + 324) → m' 72 j = m 72 j
theorem rsame_rf {n : Int} {m : Mem} : rsame n m m := ⟨fun _ _ _ _ _ => rfl, fun _ _ => rfl, fun _ _ => ⟨rfl, rfl⟩, fun _ _ => rfl⟩
theorem rsame_tr {n : Int} {a b c : Mem} (h : rsame n a b) (h' : rsame n b c) : rsame n a c := ⟨fun o p q r s => (h'.1 o p q r s).trans (h.1 o p q r s), fun j hj => (h'.2.1 j hj).trans (h.2.1 j hj), fun j hj => ⟨(h'.2.2.1 j hj).1.trans (h.2.2.1 j hj).1, (h'.2.2.1 j hj).2.trans (h.2.2.1 j hj).2⟩, fun j hj => (h'.2.2.2 j hj).trans (h.2.2.2 j hj)⟩
/-- lists and copper of all nets, and the numbers -/
def RR0 (w d l : Int) (c r : Mem) : Prop := RRs w d l c r ∧ ∀ n : Int, (0 ≤ n ∧ n < 8) → RRn w d l c r n
theorem LT_cong {w d l : Int} {f t f' t' : Int → Int} {q : Int} {row row' : Int → Int} (hf : ∀ i, (0 ≤ i ∧ i < q) → f' i = f i ∧ t' i = t i) (hr : ∀ x, inC w d l x → row' x = row x) (h : LT w d l f t q row) : LT w d l f' t' q row' := by
  obtain ⟨⟨h1, h2, h3⟩, h4⟩ := h
  have he : ∀ x k, eds w d l f' t' q x k ↔ eds w d l f t q x k := by
    intro x k
    unfold eds
    constructor
    · rintro ⟨i, hi, h⟩
      rw [(hf i hi).1, (hf i hi).2] at h
      exact ⟨i, hi, h⟩
    · rintro ⟨i, hi, h⟩
      rw [← (hf i hi).1, ← (hf i hi).2] at h
      exact ⟨i, hi, h⟩
  refine ⟨⟨h1, fun i hi => ?_, fun i j hij => ?_⟩, fun x k hx hk hne => ?_⟩
  · rw [(hf i hi).1, (hf i hi).2]
    exact h2 i hi
  · have a := hf i ⟨hij.1, by omega⟩
    have b := hf j ⟨by omega, hij.2.2⟩
    rw [a.1, a.2, b.1, b.2]
    exact h3 i j hij
  · rw [hr x hx, he]
    exact h4 x k hx hk hne
theorem CH_cong {f t f' t' : Int → Int} {q a : Int} (hf : ∀ i, (0 ≤ i ∧ i < q) → f' i = f i ∧ t' i = t i) (h : CH f t q a) : CH f' t' q a := by
  obtain ⟨h1, h2, h3, h4⟩ := h
  refine ⟨fun h0 => ?_, fun i h0 h1' => ?_, fun i j hij => ?_, fun i hi => ?_⟩
  · rw [(hf 0 (by omega)).1]; exact h1 h0
  · rw [(hf i (by omega)).2, (hf (i + 1) (by omega)).1]; exact h2 i h0 h1'
  · rw [(hf i (by omega)).1, (hf j (by omega)).1]; exact h3 i j hij
  · rw [(hf i hi).1, (hf (q - 1) (by omega)).2]; exact h4 i hi
/-- another net's lists stand as they stood -/
theorem RRn_other {w d l n n' : Int} {c c' m m' : Mem} (hD : okD w d l) (hn : 0 ≤ n ∧ n < 8) (hn' : 0 ≤ n' ∧ n' < 8) (hne : n' ≠ n) (ht : tsame w d l n c c') (hr : rsame n m m') (h : RRn w d l c m n') : RRn w d l c' m' n' := by
  obtain ⟨h1, h2, h3, ⟨h4, h4'⟩, h5, h6⟩ := h
  obtain ⟨t1, t2, t3⟩ := ht
  obtain ⟨r1, r2, r3, r4⟩ := hr
  have e65 : m' 65 = m 65 := r1 65 (by decide) (by decide) (by decide) (by decide)
  have e66 : m' 66 = m 66 := r1 66 (by decide) (by decide) (by decide) (by decide)
  have e67 : m' 67 = m 67 := r1 67 (by decide) (by decide) (by decide) (by decide)
  have e68 : m' 68 n' = m 68 n' := r2 n' hne
  have hle := okL_le hD h3.1
  have e69 : ∀ i : Int, (0 ≤ i ∧ i < m 68 n') → m' 69 (2400 * n' + i) = m 69 (2400 * n' + i) ∧ m' 70 (2400 * n' + i) = m 70 (2400 * n' + i) := fun i hi => r3 _ (by omega)
  have e72 : ∀ j : Int, (0 ≤ j ∧ j < 324) → m' 72 (324 * n' + j) = m 72 (324 * n' + j) := fun j hj => r4 _ (by omega)
  unfold RRn
  rw [e65, e66, e67, e68, t1 13 (by decide) (by decide), t1 14 (by decide) (by decide), t1 16 (by decide) (by decide), t1 18 (by decide) (by decide)]
  refine ⟨h1, h2, LT_cong e69 (fun x hx => t2 n' x hn' hne hx) h3, ⟨h4, fun hp => CH_cong e69 (h4' hp)⟩, fun x hx => ?_, fun j hj hj2 => by rw [e72 j hj]; exact h6 j hj hj2⟩
  have hg := (cR_geo hD hx).1
  rw [e72 _ hg, t3 x n'.toNat hx (by omega)]
  exact h5 x hx
theorem WFn_other {w d l n n' : Int} {c c' : Mem} (hn' : 0 ≤ n' ∧ n' < 8) (hne : n' ≠ n) (ht : tsame w d l n c c') (h : WFn w d l c n') : WFn w d l c' n' := by
  obtain ⟨h1, h2⟩ := h
  obtain ⟨t1, t2, t3⟩ := ht
  unfold WFn pinT
  rw [t1 9 (by decide) (by decide), t1 13 (by decide) (by decide), t1 14 (by decide) (by decide), t1 16 (by decide) (by decide), t1 18 (by decide) (by decide)]
  refine ⟨fun x hx => ?_, fun hc x hx => ?_⟩
  · rw [t2 n' x hn' hne hx, t3 x n'.toNat hx (by omega)]
    exact h1 x hx
  · rw [t2 n' x hn' hne hx]
    exact h2 hc x hx
theorem RRs_c {w d l : Int} {c c' m m' : Mem} (hc : ∀ o, o ≠ 17 → o ≠ 19 → c' o = c o) (hm : ∀ o, 54 ≤ o → o ≤ 64 ∨ o = 71 ∨ o = 88 → m' o = m o) (h : RRs w d l c m) : RRs w d l c' m' := by
  unfold RRs dimM fld at h ⊢
  rw [hc 6 (by decide) (by decide), hc 7 (by decide) (by decide), hc 9 (by decide) (by decide), hc 10 (by decide) (by decide), hc 11 (by decide) (by decide), hc 12 (by decide) (by decide), hc 13 (by decide) (by decide), hc 14 (by decide) (by decide), hc 15 (by decide) (by decide), hc 47 (by decide) (by decide), hm 54 (by decide) (by decide), hm 55 (by decide) (by decide), hm 56 (by decide) (by decide), hm 57 (by decide) (by decide), hm 58 (by decide) (by decide), hm 59 (by decide) (by decide), hm 60 (by decide) (by decide), hm 61 (by decide) (by decide), hm 62 (by decide) (by decide), hm 63 (by decide) (by decide), hm 64 (by decide) (by decide), hm 71 (by decide) (by decide), hm 88 (by decide) (by decide)]
  exact h
/-- a list with one move more -/
theorem LT_add {w d l : Int} (hD : okD w d l) {f t f' t' : Int → Int} {q : Int} {row row' : Int → Int} {x k : Int} (hx : inC w d l x) (hk : 0 ≤ k ∧ k < 6) (hne : nx w d l x k ≠ -1) (h : LT w d l f t q row) (hno : bt (row x) k.toNat = false) (hf : ∀ i, (0 ≤ i ∧ i < q) → f' i = f i ∧ t' i = t i) (hq : f' q = cR w d x ∧ t' q = cR w d (nx w d l x k)) (hr : ∀ z j, inC w d l z → (0 ≤ j ∧ j < 6) → (bt (row' z) j.toNat = true ↔ bt (row z) j.toNat = true ∨ (z = x ∧ j = k) ∨ (z = nx w d l x k ∧ j = oppF k))) : LT w d l f' t' (q + 1) row' := by
  obtain ⟨⟨h1, h2, h3⟩, h4⟩ := h
  have hyi := (nx_in hne).1
  have hback := nx_opp hD hx hk hne
  have hnew : ¬ eds w d l f t q x k := fun z => by
    rw [← h4 x k hx hk hne, hno] at z
    cases z
  refine ⟨⟨by omega, fun i hi => ?_, fun i j hij => ?_⟩, fun z j hz hj hzn => ?_⟩
  · by_cases hiq : i = q
    · rw [hiq]; exact ⟨x, k, hx, hk, hne, hq⟩
    · rw [(hf i (by omega)).1, (hf i (by omega)).2]; exact h2 i (by omega)
  · have a := hf i (by omega)
    by_cases hjq : j = q
    · rw [hjq, a.1, a.2, hq.1, hq.2]
      exact ⟨fun z => hnew ⟨i, by omega, Or.inl z⟩, fun z => hnew ⟨i, by omega, Or.inr z⟩⟩
    · have b := hf j (by omega)
      rw [a.1, a.2, b.1, b.2]
      exact h3 i j (by omega)
  · rw [hr z j hz hj, h4 z j hz hj hzn]
    have hzi := (nx_in hzn).1
    constructor
    · rintro (⟨i, hi, h⟩ | ⟨rfl, rfl⟩ | ⟨rfl, rfl⟩)
      · exact ⟨i, by omega, by rw [(hf i hi).1, (hf i hi).2]; exact h⟩
      · exact ⟨q, by omega, Or.inl hq⟩
      · exact ⟨q, by omega, Or.inr (by rw [hback]; exact hq)⟩
    · rintro ⟨i, hi, h⟩
      by_cases hiq : i = q
      · rw [hiq, hq.1, hq.2] at h
        right
        rcases h with ⟨a, b⟩ | ⟨a, b⟩
        · have e1 := cR_inj hD hx hz a
          have e2 := cR_inj hD hyi hzi b
          subst e1
          exact Or.inl ⟨rfl, nx_inj hj hk hzn e2.symm⟩
        · have e1 := cR_inj hD hx hzi a
          have e2 := cR_inj hD hyi hz b
          subst e2
          exact Or.inr ⟨rfl, nx_inj hj (opp_in hk) hzn (by rw [hback]; exact e1.symm)⟩
      · have hi' : 0 ≤ i ∧ i < q := by omega
        rw [(hf i hi').1, (hf i hi').2] at h
        exact Or.inl ⟨i, hi', h⟩
theorem kor_lt {a b : Int} {n : Nat} (hn : n ≤ 31) (ha : inR a) (hb : inR b) (ha' : 0 ≤ a ∧ a < ((2 ^ n : Nat) : Int)) (hb' : 0 ≤ b ∧ b < ((2 ^ n : Nat) : Int)) : 0 ≤ kor a b ∧ kor a b < ((2 ^ n : Nat) : Int) :=
  k_lt_bits (k_in_kor _ _) hn (fun k h1 h2 => by rw [bt_or, bt_small ha ha'.1 ha'.2 h1, bt_small hb hb'.1 hb'.2 h1]; rfl)
theorem shl6 {k : Int} (hk : 0 ≤ k ∧ k < 6) : 0 ≤ kshl 1 k ∧ kshl 1 k < ((2 ^ 6 : Nat) : Int) ∧ kshl 1 k ≠ 0 := by
  have : ∀ i : Fin 6, 0 ≤ kshl 1 (i.val : Int) ∧ kshl 1 (i.val : Int) < ((2 ^ 6 : Nat) : Int) ∧ kshl 1 (i.val : Int) ≠ 0 := by decide +kernel
  exact k_fin (P := fun k => 0 ≤ kshl 1 k ∧ kshl 1 k < ((2 ^ 6 : Nat) : Int) ∧ kshl 1 k ≠ 0) this hk.1 (by omega)
theorem kor_ne0 {a b : Int} (hb : inR b) (h : b ≠ 0) : kor a b ≠ 0 := by
  obtain ⟨k, hk, hbk⟩ := (k_ne0 hb).mp h
  exact (k_ne0 (k_in_kor _ _)).mpr ⟨k, hk, by rw [bt_or, hbk, Bool.or_true]⟩
theorem jn_tsame {w d l n x k : Int} {c : Mem} (hn : 0 ≤ n ∧ n < 8) (hx : inC w d l x) (hk : 0 ≤ k ∧ k < 6) (hne : nx w d l x k ≠ -1) : tsame w d l n c (jn 19 17 (n * (w * d * l)) n x k (nx w d l x k) c) := by
  have hself := nx_self hk hne
  have hyi := (nx_in hne).1
  refine ⟨fun o h1 h2 => jn_ne h2 h1, fun n' z hn' hnn hz => ?_, fun z o hz ho => ?_⟩
  · rw [jn_19 (fun q => hself q.symm), if_neg (fun q => hnn (ixn_inj hz hyi q).1), if_neg (fun q => hnn (ixn_inj hz hx q).1)]
  · have hb : ∀ v : Int, bt (kor v (kshl 1 n)) o = bt v o := by
      intro v
      rw [bt_or, bt_bit hn.1 (by omega), decide_eq_false ho, Bool.or_false]
    rw [jn_17 (fun q => hself q.symm)]
    split
    · rename_i h; rw [hb, h]
    · split
      · rename_i h; rw [hb, h]
      · rfl
theorem aT_rsame {n a b : Int} {m : Mem} (hn : 0 ≤ n ∧ n < 8) (ha : 0 ≤ a ∧ a < 324) (hb : 0 ≤ b ∧ b < 324) (hq : 0 ≤ m 68 n ∧ m 68 n < 2400) : rsame n m (aT n a b m) := by
  refine ⟨fun o h1 h2 h3 h4 => aT_ne h1 h2 h3 h4, fun j hj => ?_, fun j hj => ?_, fun j hj => ?_⟩
  · rw [aT_68]
    exact if_neg hj
  · rw [aT_69, aT_70]
    exact ⟨if_neg (by omega), if_neg (by omega)⟩
  · rw [aT_72]
    simp only
    rw [if_neg (by omega), if_neg (by omega)]
