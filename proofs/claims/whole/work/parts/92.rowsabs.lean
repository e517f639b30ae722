/-! laying rows, told of the memory alone -/
theorem ms2 {m : Mem} {o : Nat} {x y : Int} (f g : Int → Int) (hxy : x ≠ y) (j : Int) : mset (mset m o x (f (m o x))) o y (g (mset m o x (f (m o x)) o y)) o j = if j = y then g (m o y) else if j = x then f (m o x) else m o j := by
  have e : (y = x) = False := eq_false (fun z => hxy z.symm)
  simp only [k_mset_at, e, if_false]
theorem ms_c {m m' : Mem} {o : Nat} {i v : Int} (h : m' o = m o) : mset m' o i v o = mset m o i v o := by
  funext j
  rw [k_mset_at, k_mset_at, h]
/-- the two arrays of a move, each by itself -/
def jnA (b x y : Int) (k : Int) (f : Int → Int) : Int → Int := fun j => if j = b + y then kor (if b + y = b + x then kor (f (b + x)) (kshl 1 k) else f (b + y)) (kshl 1 (oppF k)) else if j = b + x then kor (f (b + x)) (kshl 1 k) else f j
def jnB (n x y : Int) (f : Int → Int) : Int → Int := fun j => if j = y then kor (if y = x then kor (f x) (kshl 1 n) else f y) (kshl 1 n) else if j = x then kor (f x) (kshl 1 n) else f j
theorem jn_A {b n x k y : Int} {m : Mem} : jn 19 17 b n x k y m 19 = jnA b x y k (m 19) := by
  funext j
  unfold jn jnA
  show mset (mset _ 17 x _) 17 y _ 19 j = _
  rw [k_mset_ne (by decide), k_mset_ne (by decide)]
  simp only [k_mset_at]
theorem jn_B {b n x k y : Int} {m : Mem} : jn 19 17 b n x k y m 17 = jnB n x y (m 17) := by
  funext j
  unfold jn jnB
  show mset (mset (mset (mset m 19 _ _) 19 _ _) 17 x _) 17 y _ 17 j = _
  have e : ∀ (i v i' v' z : Int), mset (mset m 19 i v) 19 i' v' 17 z = m 17 z := fun i v i' v' z => by rw [k_mset_ne (by decide), k_mset_ne (by decide)]
  simp only [k_mset_at, e]
theorem jn_19 {b n x k y : Int} {m : Mem} (hxy : x ≠ y) (j : Int) : jn 19 17 b n x k y m 19 j = if j = b + y then kor (m 19 (b + y)) (kshl 1 (oppF k)) else if j = b + x then kor (m 19 (b + x)) (kshl 1 k) else m 19 j := by
  rw [jn_A]
  unfold jnA
  have e : (b + y = b + x) = False := eq_false (fun z => hxy (by omega))
  simp only [e, if_false]
theorem jn_17 {b n x k y : Int} {m : Mem} (hxy : x ≠ y) (j : Int) : jn 19 17 b n x k y m 17 j = if j = y then kor (m 17 y) (kshl 1 n) else if j = x then kor (m 17 x) (kshl 1 n) else m 17 j := by
  rw [jn_B]
  unfold jnB
  have e : (y = x) = False := eq_false (fun z => hxy z.symm)
  simp only [e, if_false]
theorem jn_cong {b n x k y : Int} {m m' : Mem} (h9 : m' 19 = m 19) (h7 : m' 17 = m 17) : jn 19 17 b n x k y m' 19 = jn 19 17 b n x k y m 19 ∧ jn 19 17 b n x k y m' 17 = jn 19 17 b n x k y m 17 := by
  rw [jn_A, jn_A, jn_B, jn_B, h9, h7]
  exact ⟨rfl, rfl⟩
theorem adP_cong {w d l N n : Int} : ∀ (ks : List Int) (x : Int) {m m' : Mem}, m' 19 = m 19 → m' 17 = m 17 → adP w d l N n ks x m' 19 = adP w d l N n ks x m 19 ∧ adP w d l N n ks x m' 17 = adP w d l N n ks x m 17
  | [], _, _, _, h9, h7 => ⟨h9, h7⟩
  | k :: ks, x, m, m', h9, h7 => by
    have h := jn_cong (b := n * N) (n := n) (x := x) (k := k) (y := nx w d l x k) h9 h7
    exact adP_cong ks (nx w d l x k) h.1 h.2
/-- the bits of a net's moves behind one more -/
theorem jn_bit {w d l N n x k z : Int} {m : Mem} (hN : w * d * l = N) (hx : inC w d l x) (hk : 0 ≤ k ∧ k < 6) (hne : nx w d l x k ≠ -1) (hz : inC w d l z) (j : Nat) : bt (jn 19 17 (n * N) n x k (nx w d l x k) m 19 (n * N + z)) j = true ↔ bt (m 19 (n * N + z)) j = true ∨ (z = x ∧ (j : Int) = k) ∨ (z = nx w d l x k ∧ (j : Int) = oppF k) := by
  have hself := nx_self hk hne
  have ho := opp_in hk
  rw [jn_19 (fun z => hself z.symm)]
  by_cases h1 : z = nx w d l x k
  · rw [if_pos (by rw [h1]), bt_kor_bit (by omega) (by omega), ← h1]
    constructor
    · rintro (q | q)
      · exact Or.inl q
      · exact Or.inr (Or.inr ⟨rfl, q⟩)
    · rintro (q | ⟨q, -⟩ | ⟨-, q⟩)
      · exact Or.inl q
      · exact absurd (by rw [← h1, q]) hself
      · exact Or.inr q
  · rw [if_neg (by omega)]
    by_cases h2 : z = x
    · rw [if_pos (by rw [h2]), bt_kor_bit (by omega) (by omega), h2]
      constructor
      · rintro (q | q)
        · exact Or.inl q
        · exact Or.inr (Or.inl ⟨rfl, q⟩)
      · rintro (q | ⟨-, q⟩ | ⟨q, -⟩)
        · exact Or.inl q
        · exact Or.inr q
        · exact absurd q.symm hself
    · rw [if_neg (by omega)]
      constructor
      · exact Or.inl
      · rintro (q | ⟨q, -⟩ | ⟨q, -⟩)
        · exact q
        · exact absurd q h2
        · exact absurd q h1
theorem jn_st {w d l N n x k : Int} {m : Mem} (hD : okD w d l) (hN : w * d * l = N) (hx : inC w d l x) (hk : 0 ≤ k ∧ k < 6) (hne : nx w d l x k ≠ -1) {a b : Int} (ha : inC w d l a) : stJ w d l N n (jn 19 17 (n * N) n x k (nx w d l x k) m) a b ↔ stJ w d l N n m a b ∨ (a = x ∧ b = nx w d l x k) ∨ (a = nx w d l x k ∧ b = x) := by
  have ho := opp_in hk
  have hback := nx_opp hD hx hk hne
  unfold stJ mvB
  constructor
  · rintro ⟨e, he, h1, h2, h3⟩
    rw [bt_or, jn_ne (by decide) (by decide), Bool.or_eq_true, jn_bit hN hx hk hne ha] at h3
    rcases h3 with h3 | h3 | ⟨h3, h4⟩ | ⟨h3, h4⟩
    · exact Or.inl ⟨e, he, h1, h2, by rw [bt_or, h3]; rfl⟩
    · exact Or.inl ⟨e, he, h1, h2, by rw [bt_or, h3, Bool.or_true]⟩
    · have : e = k := by omega
      rw [this, h3] at h1
      exact Or.inr (Or.inl ⟨h3, h1.symm⟩)
    · have : e = oppF k := by omega
      rw [this, h3, hback] at h1
      exact Or.inr (Or.inr ⟨h3, h1.symm⟩)
  · rintro (⟨e, he, h1, h2, h3⟩ | ⟨rfl, rfl⟩ | ⟨rfl, rfl⟩)
    · refine ⟨e, he, h1, h2, ?_⟩
      rw [bt_or, Bool.or_eq_true] at h3
      rw [bt_or, jn_ne (by decide) (by decide), Bool.or_eq_true, jn_bit hN hx hk hne ha]
      exact h3.elim Or.inl (fun z => Or.inr (Or.inl z))
    · refine ⟨k, hk, rfl, hne, ?_⟩
      rw [bt_or, Bool.or_eq_true, jn_bit hN hx hk hne ha]
      exact Or.inr (Or.inr (Or.inl ⟨rfl, by omega⟩))
    · refine ⟨oppF k, ho, hback, by have := hx.1; omega, ?_⟩
      rw [bt_or, Bool.or_eq_true, jn_bit hN hx hk hne ha]
      exact Or.inr (Or.inr (Or.inr ⟨rfl, by omega⟩))
/-- what a net's own moves join with its first pin -/
def joi (w d l N n : Int) (c : Mem) (x : Int) : Prop := Rch (stJ w d l N n c) (c 14 (n * 4)) x
theorem joi_in {w d l N n : Int} {c : Mem} (ha : inC w d l (c 14 (n * 4))) {x : Int} (h : joi w d l N n c x) : inC w d l x := by
  refine Rch_ind (P := fun x => inC w d l x) ?_ ha h
  rintro a b _ ⟨k, hk, rfl, hne, -⟩
  exact (nx_in hne).1
/-- rows laid pin by pin: the price so far, the answer, the memory then -/
def LRw (w d l N n mv : Int) (F : Int → Prop) (cs : Int → Int → Int) (be : Int) : Nat → Int → Mem → Int → Option Int → Mem → Prop
  | 0, _, c, s, r, c' => r = some s ∧ c' = c
  | j + 1, p, c, s, r, c' => (joi w d l N n c (c 14 (n * 4 + p)) ∧ LRw w d l N n mv F cs be j (p + 1) c s r c') ∨
    (¬ joi w d l N n c (c 14 (n * 4 + p)) ∧ (∀ ks C, ¬ row w d l mv F (joi w d l N n c) cs be ks (c 14 (n * 4 + p)) 4 C) ∧ r = none ∧ c' = c) ∨
    (¬ joi w d l N n c (c 14 (n * 4 + p)) ∧ ∃ (C : Int) (q : Nat) (ks : List Int), Ls w d l mv F (joi w d l N n c) cs be (c 14 (n * 4 + p)) 4 C q ∧ pth w d l mv F (joi w d l N n c) cs be ks (c 14 (n * 4 + p)) 4 ∧ LRw w d l N n mv F cs be j (p + 1) (adP w d l N n ks (c 14 (n * 4 + p)) c) (s + C) r c')
theorem LRw_one {w d l N n mv : Int} {F : Int → Prop} {cs : Int → Int → Int} {be : Int} : ∀ {j : Nat} {p : Int} {c : Mem} {s : Int} {r r' : Option Int} {c1 c2 : Mem}, LRw w d l N n mv F cs be j p c s r c1 → LRw w d l N n mv F cs be j p c s r' c2 → r = r' ∧ c1 = c2
  | 0, _, _, _, _, _, _, _, h, h' => ⟨h.1.trans h'.1.symm, h.2.trans h'.2.symm⟩
  | j + 1, p, c, s, r, r', c1, c2, h, h' => by
    rcases h with ⟨a1, a2⟩ | ⟨a1, a2, a3, a4⟩ | ⟨a1, C, q, ks, a2, a3, a4⟩ <;> rcases h' with ⟨b1, b2⟩ | ⟨b1, b2, b3, b4⟩ | ⟨b1, C', q', ks', b2, b3, b4⟩
    · exact LRw_one a2 b2
    · exact absurd a1 b1
    · exact absurd a1 b1
    · exact absurd b1 a1
    · exact ⟨a3.trans b3.symm, a4.trans b4.symm⟩
    · obtain ⟨⟨ks1, -, r1⟩, -⟩ := b2
      exact absurd r1 (a2 _ _)
    · exact absurd b1 a1
    · obtain ⟨⟨ks1, -, r1⟩, -⟩ := a2
      exact absurd r1 (b2 _ _)
    · obtain ⟨rfl, rfl⟩ := Ls_one a2 b2
      have := pth_one a3 b3
      subst this
      exact LRw_one a4 b4
/-- the ends of own moves are free -/
def ownF (w d l N n : Int) (F : Int → Prop) (c : Mem) : Prop := F (c 14 (n * 4)) ∧ ∀ a b, inC w d l a → stJ w d l N n c a b → F b
theorem ownF_joi {w d l N n : Int} {F : Int → Prop} {c : Mem} (ha : inC w d l (c 14 (n * 4))) (h : ownF w d l N n F c) {x : Int} (hx : joi w d l N n c x) : F x := by
  have : inC w d l x ∧ F x := by
    refine Rch_ind (P := fun x => inC w d l x ∧ F x) ?_ ⟨ha, h.1⟩ hx
    intro a b hab hs
    have hF := h.2 a b hab.1 hs
    obtain ⟨k, hk, rfl, hne, -⟩ := hs
    exact ⟨(nx_in hne).1, hF⟩
  exact this.2
theorem ownF_jn {w d l N n : Int} {F : Int → Prop} {c : Mem} (hD : okD w d l) (hN : w * d * l = N) (h : ownF w d l N n F c) {x k : Int} (hx : inC w d l x) (hk : 0 ≤ k ∧ k < 6) (hne : nx w d l x k ≠ -1) (h1 : F x) (h2 : F (nx w d l x k)) : ownF w d l N n F (jn 19 17 (n * N) n x k (nx w d l x k) c) := by
  refine ⟨by rw [jn_ne (by decide) (by decide)]; exact h.1, fun a b ha hs => ?_⟩
  rw [jn_st hD hN hx hk hne ha] at hs
  rcases hs with hs | ⟨-, rfl⟩ | ⟨-, rfl⟩
  · exact h.2 a b ha hs
  · exact h2
  · exact h1
theorem ownF_adP {w d l N n mv : Int} {F J : Int → Prop} {cs : Int → Int → Int} {be : Int} (hD : okD w d l) (hN : w * d * l = N) (hmv : mv ≤ 6) (hJF : ∀ x, J x → F x) : ∀ {ks : List Int} {x dir C : Int} {c : Mem}, inC w d l x → ownF w d l N n F c → row w d l mv F J cs be ks x dir C → ownF w d l N n F (adP w d l N n ks x c)
  | [], _, _, _, _, _, h, _ => h
  | k :: ks, x, dir, C, c, hx, h, hr => by
    obtain ⟨r1, r2, r3, r4, r5⟩ := hr
    have hy := (nx_in r4).1
    have hFy : F (nx w d l x k) := by
      cases ks with
      | nil => exact hJF _ r5.1
      | cons k' ks => exact r5.2.1
    show ownF w d l N n F (adP w d l N n ks (nx w d l x k) (jn 19 17 (n * N) n x k (nx w d l x k) c))
    exact ownF_adP (ks := ks) (x := nx w d l x k) hD hN hmv hJF hy (ownF_jn hD hN h hx (by omega) r4 r2 hFy) r5
