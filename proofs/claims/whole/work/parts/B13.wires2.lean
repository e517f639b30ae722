/-! wires: a move laid on both sides -/
theorem jnw_A {b n x k y : Int} {m : Mem} : jn 18 16 b n x k y m 18 = jnA b x y k (m 18) := by
  funext j
  unfold jn jnA
  show mset (mset _ 16 x _) 16 y _ 18 j = _
  rw [k_mset_ne (by decide), k_mset_ne (by decide)]
  simp only [k_mset_at]
theorem jnw_B {b n x k y : Int} {m : Mem} : jn 18 16 b n x k y m 16 = jnB n x y (m 16) := by
  funext j
  unfold jn jnB
  show mset (mset (mset (mset m 18 _ _) 18 _ _) 16 x _) 16 y _ 16 j = _
  have e : ∀ (i v i' v' z : Int), mset (mset m 18 i v) 18 i' v' 16 z = m 16 z := fun i v i' v' z => by rw [k_mset_ne (by decide), k_mset_ne (by decide)]
  simp only [k_mset_at, e]
theorem jnw_18 {b n x k y : Int} {m : Mem} (hxy : x ≠ y) (j : Int) : jn 18 16 b n x k y m 18 j = if j = b + y then kor (m 18 (b + y)) (kshl 1 (oppF k)) else if j = b + x then kor (m 18 (b + x)) (kshl 1 k) else m 18 j := by
  rw [jnw_A]
  unfold jnA
  have e : (b + y = b + x) = False := eq_false (fun z => hxy (by omega))
  simp only [e, if_false]
theorem jnw_16 {b n x k y : Int} {m : Mem} (hxy : x ≠ y) (j : Int) : jn 18 16 b n x k y m 16 j = if j = y then kor (m 16 y) (kshl 1 n) else if j = x then kor (m 16 x) (kshl 1 n) else m 16 j := by
  rw [jnw_B]
  unfold jnB
  have e : (y = x) = False := eq_false (fun z => hxy z.symm)
  simp only [e, if_false]
/-- the bits of a net's moves behind one more -/
theorem jnw_bit {w d l N n x k z : Int} {m : Mem} (hN : w * d * l = N) (hx : inC w d l x) (hk : 0 ≤ k ∧ k < 6) (hne : nx w d l x k ≠ -1) (hz : inC w d l z) (j : Nat) : bt (jn 18 16 (n * N) n x k (nx w d l x k) m 18 (n * N + z)) j = true ↔ bt (m 18 (n * N + z)) j = true ∨ (z = x ∧ (j : Int) = k) ∨ (z = nx w d l x k ∧ (j : Int) = oppF k) := by
  have hself := nx_self hk hne
  have ho := opp_in hk
  rw [jnw_18 (fun z => hself z.symm)]
  by_cases h1 : z = nx w d l x k
  · rw [if_pos (by rw [h1]), bt_kor_bit (by omega) (by omega), ← h1]
    constructor
    · rintro (q | q)
      · exact Or.inl q
      · exact Or.inr (Or.inr ⟨rfl, q⟩)
    · rintro (q | ⟨q, -⟩ | ⟨-, q⟩)
      · exact Or.inl q
      · exact absurd (by rw [← h1, q]) hself
      · exact Or.inr q
  · rw [if_neg (by omega)]
    by_cases h2 : z = x
    · rw [if_pos (by rw [h2]), bt_kor_bit (by omega) (by omega), h2]
      constructor
      · rintro (q | q)
        · exact Or.inl q
        · exact Or.inr (Or.inl ⟨rfl, q⟩)
      · rintro (q | ⟨-, q⟩ | ⟨q, -⟩)
        · exact Or.inl q
        · exact Or.inr q
        · exact absurd q.symm hself
    · rw [if_neg (by omega)]
      constructor
      · exact Or.inl
      · rintro (q | ⟨q, -⟩ | ⟨q, -⟩)
        · exact q
        · exact absurd q h2
        · exact absurd q h1
/-- but for one net's wires the same -/
def wsame (w d l n : Int) (c c' : Mem) : Prop := (∀ o, o ≠ 16 → o ≠ 18 → c' o = c o) ∧ (∀ n' x : Int, (0 ≤ n' ∧ n' < 8) → n' ≠ n → inC w d l x → c' 18 (n' * (w * d * l) + x) = c 18 (n' * (w * d * l) + x)) ∧ ∀ (x : Int) (o : Nat), inC w d l x → (o : Int) ≠ n → bt (c' 16 x) o = bt (c 16 x) o
def wrs (n : Int) (m m' : Mem) : Prop := (∀ o, o ≠ 65 → o ≠ 66 → o ≠ 67 → o ≠ 72 → m' o = m o) ∧ (∀ j : Int, j ≠ n → m' 65 j = m 65 j) ∧ (∀ j : Int, ¬ (1200 * n ≤ j ∧ j < 1200 * n + 1200) → m' 66 j = m 66 j ∧ m' 67 j = m 67 j) ∧ ∀ j : Int, ¬ (324 * n ≤ j ∧ j < 324 * n + 324) → m' 72 j = m 72 j
theorem WFn_otherW {w d l n n' : Int} {c c' : Mem} (hn' : 0 ≤ n' ∧ n' < 8) (hne : n' ≠ n) (ht : wsame w d l n c c') (h : WFn w d l c n') : WFn w d l c' n' := by
  obtain ⟨h1, h2⟩ := h
  obtain ⟨t1, t2, t3⟩ := ht
  unfold WFn pinT
  rw [t1 9 (by decide) (by decide), t1 13 (by decide) (by decide), t1 14 (by decide) (by decide), t1 17 (by decide) (by decide), t1 19 (by decide) (by decide)]
  refine ⟨fun x hx => ?_, fun hc x hx => ?_⟩
  · rw [t2 n' x hn' hne hx, t3 x n'.toNat hx (by omega)]
    exact h1 x hx
  · rw [t2 n' x hn' hne hx]
    exact h2 hc x hx
theorem RRn_otherW {w d l n n' : Int} {c c' m m' : Mem} (hD : okD w d l) (hn' : 0 ≤ n' ∧ n' < 8) (hne : n' ≠ n) (ht : wsame w d l n c c') (hr : wrs n m m') (h : RRn w d l c m n') : RRn w d l c' m' n' := by
  obtain ⟨h1, h2, h3, h4, h5, h6⟩ := h
  obtain ⟨t1, t2, t3⟩ := ht
  obtain ⟨r1, r2, r3, r4⟩ := hr
  have e65 : m' 65 n' = m 65 n' := r2 n' hne
  have hle := okL_le hD h1.1
  have e66 : ∀ i : Int, (0 ≤ i ∧ i < m 65 n') → m' 66 (1200 * n' + i) = m 66 (1200 * n' + i) ∧ m' 67 (1200 * n' + i) = m 67 (1200 * n' + i) := fun i hi => r3 _ (by omega)
  have e72 : ∀ j : Int, (0 ≤ j ∧ j < 324) → m' 72 (324 * n' + j) = m 72 (324 * n' + j) := fun j hj => r4 _ (by omega)
  unfold RRn
  rw [e65, r1 68 (by decide) (by decide) (by decide) (by decide), r1 69 (by decide) (by decide) (by decide) (by decide), r1 70 (by decide) (by decide) (by decide) (by decide), t1 13 (by decide) (by decide), t1 14 (by decide) (by decide), t1 17 (by decide) (by decide), t1 19 (by decide) (by decide)]
  refine ⟨LT_cong e66 (fun x hx => t2 n' x hn' hne hx) h1, fun i hi => ?_, h3, h4, fun x hx => ?_, fun j hj hj2 => by rw [e72 j hj]; exact h6 j hj hj2⟩
  · rw [(e66 i hi).1, (e66 i hi).2]
    exact h2 i hi
  · have hg := (cR_geo hD hx).1
    rw [e72 _ hg, t3 x n'.toNat hx (by omega)]
    exact h5 x hx
theorem RRs_cw {w d l : Int} {c c' m m' : Mem} (hc : ∀ o, o ≠ 16 → o ≠ 18 → c' o = c o) (hm : ∀ o, 54 ≤ o → o ≤ 64 ∨ o = 71 ∨ o = 88 → m' o = m o) (h : RRs w d l c m) : RRs w d l c' m' := by
  unfold RRs dimM fld at h ⊢
  rw [hc 6 (by decide) (by decide), hc 7 (by decide) (by decide), hc 9 (by decide) (by decide), hc 10 (by decide) (by decide), hc 11 (by decide) (by decide), hc 12 (by decide) (by decide), hc 13 (by decide) (by decide), hc 14 (by decide) (by decide), hc 15 (by decide) (by decide), hc 47 (by decide) (by decide), hm 54 (by decide) (by decide), hm 55 (by decide) (by decide), hm 56 (by decide) (by decide), hm 57 (by decide) (by decide), hm 58 (by decide) (by decide), hm 59 (by decide) (by decide), hm 60 (by decide) (by decide), hm 61 (by decide) (by decide), hm 62 (by decide) (by decide), hm 63 (by decide) (by decide), hm 64 (by decide) (by decide), hm 71 (by decide) (by decide), hm 88 (by decide) (by decide)]
  exact h
theorem WF_w {w d l n : Int} {c c' : Mem} (h : WF w d l c) (ht : wsame w d l n c c') (hn : WFn w d l c' n) (h16 : ∀ x, inC w d l x → 0 ≤ c' 16 x ∧ c' 16 x < 256) : WF w d l c' := by
  obtain ⟨a1, a2, a3, a4, a5, a6, a7⟩ := h
  have f := ht.1
  refine ⟨WFs_o (fun o a b => f o (by omega) (by omega)) a1, WFp_o (by rw [f 9 (by decide) (by decide)]) (f 13 (by decide) (by decide)) (f 14 (by decide) (by decide)) a2, fun n' hn' => ?_, fun x hx => ?_, ?_, ?_, ?_⟩
  · by_cases e : n' = n
    · rw [e]; exact hn
    · exact WFn_otherW hn' e ht (a3 n' hn')
  · rw [f 17 (by decide) (by decide)]
    exact ⟨h16 x hx, (a4 x hx).2⟩
  · rw [f 15 (by decide) (by decide)]; exact a5
  · rw [f 6 (by decide) (by decide), f 7 (by decide) (by decide)]; exact a6
  · rw [f 47 (by decide) (by decide)]; exact a7
theorem RR_w {w d l n : Int} {c c' m m' : Mem} (hD : okD w d l) (h : RR w d l c m) (ht : wsame w d l n c c') (hr : wrs n m m') (hn : RRn w d l c' m' n) : RR w d l c' m' := by
  have e54 := hr.1 54 (by decide) (by decide) (by decide) (by decide)
  refine ⟨RRs_cw ht.1 (fun o a b => hr.1 o (by omega) (by omega) (by omega) (by omega)) h.1, fun n' hn' => ?_, by rw [e54]; exact h.2.2.1, by rw [e54]; exact h.2.2.2⟩
  by_cases e : n' = n
  · rw [e]; exact hn
  · exact RRn_otherW hD hn' e ht hr (h.2.1 n' hn')
/-- a wire told to the reference -/
def addW (n a b : Int) (m m' : Mem) : Prop := (∀ o, o ≠ 65 → o ≠ 66 → o ≠ 67 → o ≠ 72 → m' o = m o) ∧ ((wrR m n (min a b) (max a b) ∧ m' 65 = m 65 ∧ m' 66 = m 66 ∧ m' 67 = m 67) ∨ (¬ wrR m n (min a b) (max a b) ∧ (∀ j, m' 65 j = if j = n then m 65 n + 1 else m 65 j) ∧ (∀ j, m' 66 j = if j = 1200 * n + m 65 n then min a b else m 66 j) ∧ ∀ j, m' 67 j = if j = 1200 * n + m 65 n then max a b else m 67 j)) ∧ ∀ j, m' 72 j = if j = 324 * n + a ∨ j = 324 * n + b then kor (m 72 j) 1 else m 72 j
theorem jnw_wsame {w d l n x k : Int} {c : Mem} (hn : 0 ≤ n ∧ n < 8) (hx : inC w d l x) (hk : 0 ≤ k ∧ k < 6) (hne : nx w d l x k ≠ -1) : wsame w d l n c (jn 18 16 (n * (w * d * l)) n x k (nx w d l x k) c) := by
  have hself := nx_self hk hne
  have hyi := (nx_in hne).1
  refine ⟨fun o h1 h2 => jn_ne h2 h1, fun n' z hn' hnn hz => ?_, fun z o hz ho => ?_⟩
  · rw [jnw_18 (fun q => hself q.symm), if_neg (fun q => hnn (ixn_inj hz hyi q).1), if_neg (fun q => hnn (ixn_inj hz hx q).1)]
  · have hb : ∀ v : Int, bt (kor v (kshl 1 n)) o = bt v o := by
      intro v
      rw [bt_or, bt_bit hn.1 (by omega), decide_eq_false ho, Bool.or_false]
    rw [jnw_16 (fun q => hself q.symm)]
    split
    · rename_i h; rw [hb, h]
    · split
      · rename_i h; rw [hb, h]
      · rfl
theorem addW_wrs {n a b : Int} {m m' : Mem} (ha : 0 ≤ a ∧ a < 324) (hb : 0 ≤ b ∧ b < 324) (hq : 0 ≤ m 65 n ∧ m 65 n < 1200) (h : addW n a b m m') : wrs n m m' := by
  obtain ⟨h1, h2, h3⟩ := h
  refine ⟨h1, fun j hj => ?_, fun j hj => ?_, fun j hj => ?_⟩
  · rcases h2 with ⟨-, e, -⟩ | ⟨-, e, -⟩
    · rw [e]
    · rw [e, if_neg hj]
  · rcases h2 with ⟨-, -, e, e'⟩ | ⟨-, -, e, e'⟩
    · rw [e, e']; exact ⟨rfl, rfl⟩
    · rw [e, e', if_neg (by omega), if_neg (by omega)]; exact ⟨rfl, rfl⟩
  · rw [h3, if_neg (by omega)]
set_option maxRecDepth 100000 in
/-- a wire laid on both sides -/
theorem wire_step {w d l n x k : Int} {c m m2 : Mem} (hD : okD w d l) (hn : 0 ≤ n ∧ n < 8) (hna : n < c 9 14) (hx : inC w d l x) (hk : 0 ≤ k ∧ k < 6) (hne : nx w d l x k ≠ -1) (hW : WF w d l c) (hR : RR w d l c m) (hA : addW n (cR w d x) (cR w d (nx w d l x k)) m m2) : WF w d l (jn 18 16 (n * (w * d * l)) n x k (nx w d l x k) c) ∧ RR w d l (jn 18 16 (n * (w * d * l)) n x k (nx w d l x k) c) m2 := by
  obtain ⟨h1, h2, h3, h4, h5, h6⟩ := hR.2.1 n hn
  obtain ⟨w1, w2⟩ := hW.2.2.1 n hn
  have h16 := hW.2.2.2.1
  have hyi := (nx_in hne).1
  have hself := nx_self hk hne
  have hsx : x ≠ nx w d l x k := fun z => hself z.symm
  have hgx := (cR_geo hD hx).1
  have hgy := (cR_geo hD hyi).1
  have hq0 := h1.1.1
  have hq9 := okL_le hD h1.1
  have hopp := opp_in hk
  have hback := nx_opp hD hx hk hne
  have hts := jnw_wsame (c := c) hn hx hk hne
  have hrs := addW_wrs hgx hgy (by omega) hA
  obtain ⟨c2, hc2⟩ : ∃ c2, jn 18 16 (n * (w * d * l)) n x k (nx w d l x k) c = c2 := ⟨_, rfl⟩
  have j18 := fun j => jnw_18 (b := n * (w * d * l)) (n := n) (k := k) (m := c) hsx j
  have j16 := fun j => jnw_16 (b := n * (w * d * l)) (n := n) (k := k) (m := c) hsx j
  have jbit := fun z hz j => jnw_bit (n := n) (m := c) rfl hx hk hne (z := z) hz j
  have jne : ∀ o, o ≠ 16 → o ≠ 18 → c2 o = c o := fun o a b => by rw [← hc2]; exact jn_ne b a
  rw [hc2] at j18 j16 jbit hts ⊢
  have hcne : cR w d (nx w d l x k) ≠ cR w d x := fun z => hself (cR_inj hD hyi hx z)
  have hwr : wrR m n (min (cR w d x) (cR w d (nx w d l x k))) (max (cR w d x) (cR w d (nx w d l x k))) ↔ bt (c 18 (n * (w * d * l) + x)) k.toNat = true := by
    rw [h1.2 x k hx hk hne]
    constructor
    · rintro ⟨i, hi, e1, e2⟩
      refine ⟨i, hi, ?_⟩
      by_cases hlt : cR w d x ≤ cR w d (nx w d l x k)
      · exact Or.inl ⟨by show m 66 (1200 * n + i) = _; omega, by show m 67 (1200 * n + i) = _; omega⟩
      · exact Or.inr ⟨by show m 66 (1200 * n + i) = _; omega, by show m 67 (1200 * n + i) = _; omega⟩
    · rintro ⟨i, hi, ⟨e1, e2⟩ | ⟨e1, e2⟩⟩
      · have e1 : m 66 (1200 * n + i) = _ := e1
        have e2 : m 67 (1200 * n + i) = _ := e2
        have := h2 i hi
        exact ⟨i, hi, by omega, by omega⟩
      · have e1 : m 66 (1200 * n + i) = _ := e1
        have e2 : m 67 (1200 * n + i) = _ := e2
        have := h2 i hi
        exact ⟨i, hi, by omega, by omega⟩
  have b16 : ∀ z, inC w d l z → (bt (c2 16 z) n.toNat = true ↔ bt (c 16 z) n.toNat = true ∨ z = x ∨ z = nx w d l x k) := by
    intro z hz
    rw [j16]
    have hb : ∀ v : Int, bt (kor v (kshl 1 n)) n.toNat = true := fun v => by rw [bt_or, bt_bit hn.1 (by omega), decide_eq_true (by omega), Bool.or_true]
    by_cases h1 : z = nx w d l x k
    · rw [if_pos h1]
      exact ⟨fun _ => Or.inr (Or.inr h1), fun _ => hb _⟩
    · rw [if_neg h1]
      by_cases h2 : z = x
      · rw [if_pos h2]
        exact ⟨fun _ => Or.inr (Or.inl h2), fun _ => hb _⟩
      · rw [if_neg h2]
        exact ⟨Or.inl, fun q => q.elim id (fun q => q.elim (fun q => absurd q h2) (fun q => absurd q h1))⟩
  have v16 : ∀ z, inC w d l z → 0 ≤ c2 16 z ∧ c2 16 z < 256 := by
    intro z hz
    rw [j16]
    split
    · exact kor8 (h16 _ hyi).1 (bit8 hn)
    · split
      · exact kor8 (h16 _ hx).1 (bit8 hn)
      · exact (h16 z hz).1
  have hjb : ∀ z j, inC w d l z → (0 ≤ j ∧ j < 6) → (bt (c2 18 (n * (w * d * l) + z)) j.toNat = true ↔ bt (c 18 (n * (w * d * l) + z)) j.toNat = true ∨ (z = x ∧ j = k) ∨ (z = nx w d l x k ∧ j = oppF k)) := by
    intro z j hz hj
    rw [jbit z hz]
    constructor
    · rintro (q | ⟨q1, q2⟩ | ⟨q1, q2⟩)
      · exact Or.inl q
      · exact Or.inr (Or.inl ⟨q1, by omega⟩)
      · exact Or.inr (Or.inr ⟨q1, by omega⟩)
    · rintro (q | ⟨q1, q2⟩ | ⟨q1, q2⟩)
      · exact Or.inl q
      · exact Or.inr (Or.inl ⟨q1, by omega⟩)
      · exact Or.inr (Or.inr ⟨q1, by omega⟩)
  have hsym : bt (c 18 (n * (w * d * l) + nx w d l x k)) (oppF k).toNat = true ↔ bt (c 18 (n * (w * d * l) + x)) k.toNat = true := by
    rw [h1.2 x k hx hk hne, h1.2 _ _ hyi hopp (nx_opp_ne hD hx hk hne)]
    exact eds_opp hD hx hk hne
  obtain ⟨a1, a2, a3⟩ := hA
  refine ⟨WF_w hW hts ⟨fun z hz => ?_, fun hc z hz => ?_⟩ v16, RR_w hD hR hts hrs ⟨?_, ?_, ?_, ?_, fun z hz => ?_, fun j hj hj2 => ?_⟩⟩
  · obtain ⟨⟨z1, z2⟩, z3, z4, z5⟩ := w1 z hz
    rw [jne 17 (by decide) (by decide), jne 19 (by decide) (by decide)]
    have hsh := shl6 hk
    have hso := shl6 hopp
    have hval : (0 ≤ c2 18 (n * (w * d * l) + z) ∧ c2 18 (n * (w * d * l) + z) < 64) ∧ (c2 18 (n * (w * d * l) + z) ≠ 0 ↔ c 18 (n * (w * d * l) + z) ≠ 0 ∨ z = x ∨ z = nx w d l x k) := by
      rw [j18]
      by_cases hz1 : z = nx w d l x k
      · rw [if_pos (by rw [hz1]), ← hz1]
        exact ⟨kor_lt (n := 6) (by decide) (inR_small (by omega)) (k_in_kshl _ _) z1 ⟨hso.1, hso.2.1⟩, fun _ => Or.inr (Or.inr rfl), fun _ => kor_ne0 (k_in_kshl _ _) hso.2.2⟩
      · rw [if_neg (by omega)]
        by_cases hz2 : z = x
        · rw [if_pos (by rw [hz2]), ← hz2]
          exact ⟨kor_lt (n := 6) (by decide) (inR_small (by omega)) (k_in_kshl _ _) z1 ⟨hsh.1, hsh.2.1⟩, fun _ => Or.inr (Or.inl rfl), fun _ => kor_ne0 (k_in_kshl _ _) hsh.2.2⟩
        · rw [if_neg (by omega)]
          exact ⟨z1, Or.inl, fun q => q.elim id (fun q => q.elim (fun q => absurd q hz2) (fun q => absurd q hz1))⟩
    refine ⟨⟨hval.1, z2⟩, fun j hj hjn => ⟨?_, (z3 j hj hjn).2⟩, z4, ?_⟩
    · cases hb : bt (c2 18 (n * (w * d * l) + z)) j.toNat with
      | false => rfl
      | true =>
        rcases (hjb z j hz hj).mp hb with q | ⟨q1, q2⟩ | ⟨q1, q2⟩
        · rw [(z3 j hj hjn).1] at q; cases q
        · exfalso
          rw [q1, q2] at hjn
          exact hne hjn
        · exfalso
          rw [q1, q2, hback] at hjn
          have := hx.1
          omega
    · unfold pinT at z5 ⊢
      rw [b16 z hz, hval.2, jne 13 (by decide) (by decide), jne 14 (by decide) (by decide), z5]
      constructor
      · rintro ((q | q) | q)
        · exact Or.inl (Or.inl q)
        · exact Or.inr q
        · exact Or.inl (Or.inr q)
      · rintro ((q | q) | q)
        · exact Or.inl (Or.inl q)
        · exact Or.inr q
        · exact Or.inl (Or.inr q)
  · rw [jne 9 (by decide) (by decide)] at hc
    omega
  · rcases a2 with ⟨b1, b2, b3, b4⟩ | ⟨b1, b2, b3, b4⟩
    · rw [b2, b3, b4]
      refine ⟨h1.1, fun z j hz hj hjn => ?_⟩
      rw [← h1.2 z j hz hj hjn]
      show bt (c2 18 (n * (w * d * l) + z)) j.toNat = true ↔ _
      rw [hjb z j hz hj]
      refine ⟨fun q => ?_, Or.inl⟩
      rcases q with q | ⟨q1, q2⟩ | ⟨q1, q2⟩
      · exact q
      · rw [q1, q2]; exact hwr.mp b1
      · rw [q1, q2]; exact hsym.mpr (hwr.mp b1)
    · rw [b2, if_pos rfl]
      have hno : bt (c 18 (n * (w * d * l) + x)) k.toNat = false := Bool.eq_false_iff.mpr (fun q => b1 (hwr.mpr q))
      by_cases hlt : cR w d x ≤ cR w d (nx w d l x k)
      · refine LT_add hD hx hk hne h1 hno (fun i hi => ?_) ?_ (fun z j hz hj => hjb z j hz hj)
        · show m2 66 (1200 * n + i) = _ ∧ m2 67 (1200 * n + i) = _
          rw [b3, b4, if_neg (by omega), if_neg (by omega)]
          exact ⟨rfl, rfl⟩
        · show m2 66 (1200 * n + m 65 n) = _ ∧ m2 67 (1200 * n + m 65 n) = _
          rw [b3, b4, if_pos rfl, if_pos rfl]
          exact ⟨by omega, by omega⟩
      · refine LT_add hD hyi hopp (nx_opp_ne hD hx hk hne) h1 (Bool.eq_false_iff.mpr (fun q => b1 (hwr.mpr (hsym.mp q)))) (fun i hi => ?_) ?_ (fun z j hz hj => ?_)
        · show m2 66 (1200 * n + i) = _ ∧ m2 67 (1200 * n + i) = _
          rw [b3, b4, if_neg (by omega), if_neg (by omega)]
          exact ⟨rfl, rfl⟩
        · show m2 66 (1200 * n + m 65 n) = _ ∧ m2 67 (1200 * n + m 65 n) = _
          rw [b3, b4, if_pos rfl, if_pos rfl, hback]
          exact ⟨by omega, by omega⟩
        · rw [hback, opp_opp hk]
          show bt (c2 18 (n * (w * d * l) + z)) j.toNat = true ↔ _
          rw [hjb z j hz hj]
          constructor
          · rintro (q | q | q)
            · exact Or.inl q
            · exact Or.inr (Or.inr q)
            · exact Or.inr (Or.inl q)
          · rintro (q | q | q)
            · exact Or.inl q
            · exact Or.inr (Or.inr q)
            · exact Or.inr (Or.inl q)
  · intro i hi
    rcases a2 with ⟨b1, b2, b3, b4⟩ | ⟨b1, b2, b3, b4⟩
    · rw [b2] at hi
      rw [b3, b4]
      exact h2 i hi
    · rw [b2, if_pos rfl] at hi
      rw [b3, b4]
      by_cases e : i = m 65 n
      · rw [e, if_pos rfl, if_pos rfl]
        omega
      · rw [if_neg (by omega), if_neg (by omega)]
        exact h2 i (by omega)
  · rw [a1 68 (by decide) (by decide) (by decide) (by decide), a1 69 (by decide) (by decide) (by decide) (by decide), a1 70 (by decide) (by decide) (by decide) (by decide), jne 19 (by decide) (by decide)]
    exact h3
  · rw [a1 68 (by decide) (by decide) (by decide) (by decide), a1 69 (by decide) (by decide) (by decide) (by decide), a1 70 (by decide) (by decide) (by decide) (by decide), jne 13 (by decide) (by decide), jne 14 (by decide) (by decide)]
    exact h4
  · rw [jne 17 (by decide) (by decide), b16 z hz, a3]
    obtain ⟨v1, v2, v3⟩ := h5 z hz
    by_cases hz1 : z = x ∨ z = nx w d l x k
    · rw [if_pos (by rcases hz1 with q | q <;> rw [q] <;> simp)]
      obtain ⟨k1, k2, k3⟩ := or1_v4 v1
      exact ⟨k1, by rw [k2]; exact ⟨fun _ => Or.inr hz1, fun _ => rfl⟩, by rw [k3]; exact v3⟩
    · rw [if_neg (fun q => hz1 (q.elim (fun q => Or.inl (cR_inj hD hz hx (by omega))) (fun q => Or.inr (cR_inj hD hz hyi (by omega)))))]
      exact ⟨v1, v2.trans ⟨Or.inl, fun q => q.elim id (fun q => absurd q hz1)⟩, v3⟩
  · rw [a3, if_neg (fun q => hj2 ?_)]
    · exact h6 j hj hj2
    · rcases q with q | q
      · rw [show j = cR w d x by omega]; exact (cR_in hD hx).1
      · rw [show j = cR w d (nx w d l x k) by omega]; exact (cR_in hD hyi).1
