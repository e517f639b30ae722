/-! rows keep the class's memory in order -/
/-- moves are told at both their ends -/
def SYn (w d l : Int) (c : Mem) (n : Int) : Prop := ∀ a k : Int, inC w d l a → (0 ≤ k ∧ k < 6) → nx w d l a k ≠ -1 → (bt (c 18 (n * (w * d * l) + a)) k.toNat = true → bt (c 18 (n * (w * d * l) + nx w d l a k)) (oppF k).toNat = true) ∧ (bt (c 19 (n * (w * d * l) + a)) k.toNat = true → bt (c 19 (n * (w * d * l) + nx w d l a k)) (oppF k).toNat = true)
theorem RRk_SYn {w d l n : Int} {c m : Mem} (hD : okD w d l) (hR : RRk w d l c m n) : SYn w d l c n := by
  intro a k ha hk hne
  have hyi := (nx_in hne).1
  have hbn := nx_opp_ne hD ha hk hne
  constructor
  · intro h
    have h1 := (hR.1.2 a k ha hk hne).mp h
    exact (hR.1.2 _ _ hyi (opp_in hk) hbn).mpr ((eds_opp hD ha hk hne).mpr h1)
  · intro h
    have h1 := (hR.2.2.1.2 a k ha hk hne).mp h
    exact (hR.2.2.1.2 _ _ hyi (opp_in hk) hbn).mpr ((eds_opp hD ha hk hne).mpr h1)
theorem jn_SYn {w d l n x k : Int} {c : Mem} (hD : okD w d l) (hx : inC w d l x) (hk : 0 ≤ k ∧ k < 6) (hne : nx w d l x k ≠ -1) (h : SYn w d l c n) : SYn w d l (jn 19 17 (n * (w * d * l)) n x k (nx w d l x k) c) n := by
  intro a j ha hj hjn
  have hyi := (nx_in hjn).1
  have ho := opp_in hj
  have hok := opp_in hk
  have hback := nx_opp hD hx hk hne
  rw [jn_ne (by decide) (by decide)]
  refine ⟨(h a j ha hj hjn).1, fun hb => ?_⟩
  rw [jn_bit rfl hx hk hne hyi]
  rcases (jn_bit rfl hx hk hne ha j.toNat).mp hb with q | ⟨q1, q2⟩ | ⟨q1, q2⟩
  · exact Or.inl ((h a j ha hj hjn).2 q)
  · have : j = k := by omega
    subst this
    subst q1
    exact Or.inr (Or.inr ⟨rfl, by omega⟩)
  · have : j = oppF k := by omega
    subst this
    subst q1
    rw [hback, opp_opp hk]
    exact Or.inr (Or.inl ⟨rfl, by omega⟩)
theorem SYn_t {w d l n n' : Int} {c c' : Mem} (hn' : 0 ≤ n' ∧ n' < 8) (hne : n' ≠ n) (ht : tsame w d l n c c') (h : SYn w d l c n') : SYn w d l c' n' := by
  intro a k ha hk hkn
  rw [ht.1 18 (by decide) (by decide), ht.2.1 n' a hn' hne ha, ht.2.1 n' _ hn' hne (nx_in hkn).1]
  exact h a k ha hk hkn
theorem rmT_SYn {w d l n : Int} {c : Mem} (h : SYn w d l c n) : SYn w d l (rmT (w * d * l) n c) n := by
  intro a k ha hk hkn
  rw [rmT_ne (by decide) (by decide), rmT_row ha, if_pos rfl]
  exact ⟨(h a k ha hk hkn).1, fun z => by rw [bt_zero] at z; cases z⟩
theorem jn_WFn {w d l n x k : Int} {c : Mem} (hD : okD w d l) (hn : 0 ≤ n ∧ n < 8) (hx : inC w d l x) (hk : 0 ≤ k ∧ k < 6) (hne : nx w d l x k ≠ -1) (hW : WFn w d l c n) (h17 : ∀ z, inC w d l z → 0 ≤ c 17 z ∧ c 17 z < 256) (ha : n < c 9 14) :
    WFn w d l (jn 19 17 (n * (w * d * l)) n x k (nx w d l x k) c) n ∧ ∀ z, inC w d l z → 0 ≤ jn 19 17 (n * (w * d * l)) n x k (nx w d l x k) c 17 z ∧ jn 19 17 (n * (w * d * l)) n x k (nx w d l x k) c 17 z < 256 := by
  obtain ⟨w1, w2⟩ := hW
  have hyi := (nx_in hne).1
  have hself := nx_self hk hne
  have hsx : x ≠ nx w d l x k := fun z => hself z.symm
  have hopp := opp_in hk
  have hback := nx_opp hD hx hk hne
  obtain ⟨c2, hc2⟩ : ∃ c2, jn 19 17 (n * (w * d * l)) n x k (nx w d l x k) c = c2 := ⟨_, rfl⟩
  have j19 := fun j => jn_19 (b := n * (w * d * l)) (n := n) (k := k) (m := c) hsx j
  have j17 := fun j => jn_17 (b := n * (w * d * l)) (n := n) (k := k) (m := c) hsx j
  have jbit := fun z hz j => jn_bit (n := n) (m := c) rfl hx hk hne (z := z) hz j
  have jne : ∀ o, o ≠ 17 → o ≠ 19 → c2 o = c o := fun o a b => by rw [← hc2]; exact jn_ne b a
  rw [hc2] at j19 j17 jbit ⊢
  have b17 : ∀ z, inC w d l z → (bt (c2 17 z) n.toNat = true ↔ bt (c 17 z) n.toNat = true ∨ z = x ∨ z = nx w d l x k) := by
    intro z hz
    rw [j17]
    have hb : ∀ v : Int, bt (kor v (kshl 1 n)) n.toNat = true := fun v => by rw [bt_or, bt_bit hn.1 (by omega), decide_eq_true (by omega), Bool.or_true]
    by_cases h1 : z = nx w d l x k
    · rw [if_pos h1]
      exact ⟨fun _ => Or.inr (Or.inr h1), fun _ => hb _⟩
    · rw [if_neg h1]
      by_cases h2 : z = x
      · rw [if_pos h2]
        exact ⟨fun _ => Or.inr (Or.inl h2), fun _ => hb _⟩
      · rw [if_neg h2]
        exact ⟨Or.inl, fun q => q.elim id (fun q => q.elim (fun q => absurd q h2) (fun q => absurd q h1))⟩
  refine ⟨⟨fun z hz => ?_, fun hc z hz => ?_⟩, fun z hz => ?_⟩
  · obtain ⟨⟨z1, z2⟩, z3, z4, z5⟩ := w1 z hz
    rw [jne 16 (by decide) (by decide), jne 18 (by decide) (by decide)]
    have hsh := shl6 hk
    have hso := shl6 hopp
    have hval : (0 ≤ c2 19 (n * (w * d * l) + z) ∧ c2 19 (n * (w * d * l) + z) < 64) ∧ (c2 19 (n * (w * d * l) + z) ≠ 0 ↔ c 19 (n * (w * d * l) + z) ≠ 0 ∨ z = x ∨ z = nx w d l x k) := by
      rw [j19]
      by_cases hz1 : z = nx w d l x k
      · rw [if_pos (by rw [hz1]), ← hz1]
        exact ⟨kor_lt (n := 6) (by decide) (inR_small (by omega)) (k_in_kshl _ _) z2 ⟨hso.1, hso.2.1⟩, fun _ => Or.inr (Or.inr rfl), fun _ => kor_ne0 (k_in_kshl _ _) hso.2.2⟩
      · rw [if_neg (by omega)]
        by_cases hz2 : z = x
        · rw [if_pos (by rw [hz2]), ← hz2]
          exact ⟨kor_lt (n := 6) (by decide) (inR_small (by omega)) (k_in_kshl _ _) z2 ⟨hsh.1, hsh.2.1⟩, fun _ => Or.inr (Or.inl rfl), fun _ => kor_ne0 (k_in_kshl _ _) hsh.2.2⟩
        · rw [if_neg (by omega)]
          exact ⟨z2, Or.inl, fun q => q.elim id (fun q => q.elim (fun q => absurd q hz2) (fun q => absurd q hz1))⟩
    refine ⟨⟨z1, hval.1⟩, fun j hj hjn => ⟨(z3 j hj hjn).1, ?_⟩, ?_, ?_⟩
    · cases hb : bt (c2 19 (n * (w * d * l) + z)) j.toNat with
      | false => rfl
      | true =>
        rcases (jbit z hz j.toNat).mp hb with q | ⟨q1, q2⟩ | ⟨q1, q2⟩
        · rw [(z3 j hj hjn).2] at q; cases q
        · exfalso
          rw [q1, show j = k by omega] at hjn
          exact hne hjn
        · exfalso
          rw [q1, show j = oppF k by omega, hback] at hjn
          have := hx.1
          omega
    · rw [b17 z hz, hval.2, z4]
    · unfold pinT
      rw [jne 13 (by decide) (by decide), jne 14 (by decide) (by decide)]
      exact z5
  · rw [jne 9 (by decide) (by decide)] at hc
    omega
  · rw [j17]
    have hb8 : 0 ≤ kshl 1 n ∧ kshl 1 n < ((2 ^ 8 : Nat) : Int) := by
      have : ∀ i : Fin 8, 0 ≤ kshl 1 (i.val : Int) ∧ kshl 1 (i.val : Int) < ((2 ^ 8 : Nat) : Int) := by decide +kernel
      exact k_fin (P := fun k => 0 ≤ kshl 1 k ∧ kshl 1 k < ((2 ^ 8 : Nat) : Int)) this hn.1 (by omega)
    have hk8 : ∀ v : Int, (0 ≤ v ∧ v < 256) → 0 ≤ kor v (kshl 1 n) ∧ kor v (kshl 1 n) < 256 := fun v hv => kor_lt (n := 8) (by decide) (inR_small (by omega)) (k_in_kshl _ _) hv hb8
    split
    · exact hk8 _ (h17 _ hyi)
    · split
      · exact hk8 _ (h17 _ hx)
      · exact h17 z hz
/-- all that lasts of moves and copper, moves at both their ends -/
def WS (w d l : Int) (c : Mem) : Prop := WM w d l c ∧ ∀ n : Int, (0 ≤ n ∧ n < 8) → SYn w d l c n
theorem WS_t {w d l n : Int} {c c' : Mem} (h : WS w d l c) (ht : tsame w d l n c c') (hW : WFn w d l c' n) (hS : SYn w d l c' n) (h17 : ∀ x, inC w d l x → 0 ≤ c' 17 x ∧ c' 17 x < 256) : WS w d l c' := by
  refine ⟨WM_t h.1 ht hW h17, fun n' hn' => ?_⟩
  by_cases hne : n' = n
  · rw [hne]; exact hS
  · exact SYn_t hn' hne ht (h.2 n' hn')
theorem WS_rmT {w d l n : Int} {c : Mem} (h : WS w d l c) (hn : 0 ≤ n ∧ n < 8) : WS w d l (rmT (w * d * l) n c) :=
  WS_t h (rmT_tsame hn (fun x hx => (h.1.2.2.2 x hx).2)) (rmT_WFn hn (h.1.2.2.1 n hn)) (rmT_SYn (h.2 n hn)) (fun x hx => rmT_17b hx (h.1.2.2.2 x hx).2)
theorem WS_adP {w d l n : Int} (hD : okD w d l) (hn : 0 ≤ n ∧ n < 8) : ∀ {ks : List Int} {x : Int} {c : Mem}, inC w d l x → okm w d l ks x → WS w d l c → n < c 9 14 → WS w d l (adP w d l (w * d * l) n ks x c) ∧ tsame w d l n c (adP w d l (w * d * l) n ks x c)
  | [], _, _, _, _, h, _ => ⟨h, tsame_rf⟩
  | k :: ks, x, c, hx, hok, h, ha => by
    obtain ⟨o1, o2, o3⟩ := hok
    have ts := jn_tsame (c := c) hn hx o1 o2
    have hw := jn_WFn hD hn hx o1 o2 (h.1.2.2.1 n hn) (fun z hz => (h.1.2.2.2 z hz).2) ha
    have h1 := WS_t h ts hw.1 (jn_SYn hD hx o1 o2 (h.2 n hn)) hw.2
    have h2 := WS_adP hD hn (ks := ks) (x := nx w d l x k) (nx_in o2).1 o3 h1 (by rw [ts.1 9 (by decide) (by decide)]; exact ha)
    exact ⟨h2.1, tsame_tr ts h2.2⟩
theorem LRw_WS {w d l n mv : Int} {F : Int → Prop} {cs : Int → Int → Int} {be : Int} (hD : okD w d l) (hn : 0 ≤ n ∧ n < 8) (hmv : mv ≤ 6) : ∀ {j : Nat} {p : Int} {c : Mem} {s : Int} {r : Option Int} {c1 : Mem}, (∀ q, (p ≤ q ∧ q < p + j) → inC w d l (c 14 (n * 4 + q))) → WS w d l c → n < c 9 14 → LRw w d l (w * d * l) n mv F cs be j p c s r c1 → WS w d l c1 ∧ tsame w d l n c c1
  | 0, p, c, s, r, c1, _, hW, _, h => by rw [h.2]; exact ⟨hW, tsame_rf⟩
  | j + 1, p, c, s, r, c1, hp, hW, ha, h => by
    rcases h with ⟨a1, a2⟩ | ⟨a1, a2, a3, a4⟩ | ⟨a1, C, q, ks, a2, a3, a4⟩
    · exact LRw_WS hD hn hmv (fun q hq => hp q (by omega)) hW ha a2
    · rw [a4]; exact ⟨hW, tsame_rf⟩
    · have e14 : adP w d l (w * d * l) n ks (c 14 (n * 4 + p)) c 14 = c 14 := adP_ne (by decide) (by decide) _ _ _
      have hxi := hp p (by omega)
      obtain ⟨h1, h2⟩ := WS_adP hD hn hxi (row_okm hmv (pth_row a3 a2).1) hW ha
      obtain ⟨h3, h4⟩ := LRw_WS hD hn hmv (fun q hq => by rw [e14]; exact hp q (by omega)) h1 (by rw [h2.1 9 (by decide) (by decide)]; exact ha) a4
      exact ⟨h3, tsame_tr h2 h4⟩
theorem stJ_symS {w d l n : Int} {c : Mem} (hD : okD w d l) (hS : SYn w d l c n) {a b : Int} (ha : inC w d l a) (h : stJ w d l (w * d * l) n c a b) : stJ w d l (w * d * l) n c b a := by
  obtain ⟨k, hk, rfl, hne, hb⟩ := h
  have hback := nx_opp hD ha hk hne
  have hs := hS a k ha hk hne
  refine ⟨oppF k, opp_in hk, hback, by have := ha.1; omega, ?_⟩
  unfold mvB at hb ⊢
  rw [bt_or, Bool.or_eq_true] at hb ⊢
  exact hb.elim (fun z => Or.inl (hs.1 z)) (fun z => Or.inr (hs.2 z))
theorem ownF_0S {w d l n : Int} {q : Int → Prop} {c : Mem} (hD : okD w d l) (hS : SYn w d l c n) (hW : WFn w d l c n) (hp : pinT c n (c 14 (n * 4))) (hpi : inC w d l (c 14 (n * 4))) (h19 : ∀ x, inC w d l x → c 19 (n * (w * d * l) + x) = 0) : ownF w d l (w * d * l) n (frT w d l q c n 0) c := by
  have hsolid : ∀ x, inC w d l x → (c 18 (n * (w * d * l) + x) ≠ 0 ∨ pinT c n x) → frT w d l q c n 0 x := fun x hx h => Or.inl (Or.inl ((hW.1 x hx).2.2.2.mpr h))
  refine ⟨hsolid _ hpi (Or.inr hp), fun a b ha hst => ?_⟩
  have hb : inC w d l b := by
    obtain ⟨k, hk, rfl, hne, -⟩ := hst
    exact (nx_in hne).1
  obtain ⟨k, hk, -, hne, hbit⟩ := stJ_symS hD hS ha hst
  refine hsolid b hb (Or.inl (fun z => ?_))
  unfold mvB at hbit
  rw [z, h19 b hb, bt_or, bt_zero] at hbit
  cases hbit
