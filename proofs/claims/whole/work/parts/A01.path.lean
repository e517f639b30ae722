/-! a row of traces on both sides -/
/-- a net's lists and copper, but for what is said of one trace behind another -/
def RRk (w d l : Int) (c r : Mem) (n : Int) : Prop := LT w d l (fun i => r 66 (1200 * n + i)) (fun i => r 67 (1200 * n + i)) (r 65 n) (fun x => c 18 (n * (w * d * l) + x)) ∧ (∀ i : Int, (0 ≤ i ∧ i < r 65 n) → r 66 (1200 * n + i) < r 67 (1200 * n + i)) ∧
  LT w d l (fun i => r 69 (2400 * n + i)) (fun i => r 70 (2400 * n + i)) (r 68 n) (fun x => c 19 (n * (w * d * l) + x)) ∧
  (∀ x : Int, inC w d l x → (0 ≤ r 72 (324 * n + cR w d x) ∧ r 72 (324 * n + cR w d x) < 4) ∧ (bt (r 72 (324 * n + cR w d x)) 0 = true ↔ bt (c 16 x) n.toNat = true) ∧ (bt (r 72 (324 * n + cR w d x)) 1 = true ↔ bt (c 17 x) n.toNat = true)) ∧
  ∀ j : Int, (0 ≤ j ∧ j < 324) → ¬ inRf w d l j → r 72 (324 * n + j) = 0
def CHn (w d : Int) (c r : Mem) (n : Int) : Prop := (c 13 n ≤ 1 → r 68 n = 0) ∧ (c 13 n = 2 → CH (fun i => r 69 (2400 * n + i)) (fun i => r 70 (2400 * n + i)) (r 68 n) (cR w d (c 14 (n * 4 + 1))))
theorem RRn_k {w d l : Int} {c r : Mem} {n : Int} : RRn w d l c r n ↔ RRk w d l c r n ∧ CHn w d c r n := ⟨fun ⟨a, b, e, f, g, h⟩ => ⟨⟨a, b, e, g, h⟩, f⟩, fun ⟨⟨a, b, e, g, h⟩, f⟩ => ⟨a, b, e, f, g, h⟩⟩
theorem kor2 {v : Int} (h : 0 ≤ v ∧ v < 4) : (0 ≤ kor v 2 ∧ kor v 2 < 4) ∧ bt (kor v 2) 0 = bt v 0 ∧ bt (kor v 2) 1 = true := by
  have : ∀ i : Fin 4, (0 ≤ kor (i.val : Int) 2 ∧ kor (i.val : Int) 2 < 4) ∧ bt (kor (i.val : Int) 2) 0 = bt (i.val : Int) 0 ∧ bt (kor (i.val : Int) 2) 1 = true := by decide +kernel
  exact k_fin (P := fun v => (0 ≤ kor v 2 ∧ kor v 2 < 4) ∧ bt (kor v 2) 0 = bt v 0 ∧ bt (kor v 2) 1 = true) this h.1 (by omega)
theorem kor2_2 {v : Int} (h : 0 ≤ v ∧ v < 4) : kor (kor v 2) 2 = kor v 2 := k_or_or v 2
theorem inR_small {v : Int} (h : 0 ≤ v ∧ v < 1000000) : inR v := by constructor <;> omega
theorem add_step {w d l n x k : Int} {c m : Mem} (hD : okD w d l) (hn : 0 ≤ n ∧ n < 8) (hx : inC w d l x) (hk : 0 ≤ k ∧ k < 6) (hne : nx w d l x k ≠ -1) (hR : RRk w d l c m n) (hW : WFn w d l c n) (h17 : ∀ z, inC w d l z → 0 ≤ c 17 z ∧ c 17 z < 256) (ha : n < c 9 14) (hno : bt (c 19 (n * (w * d * l) + x)) k.toNat = false) :
    RRk w d l (jn 19 17 (n * (w * d * l)) n x k (nx w d l x k) c) (aT n (cR w d x) (cR w d (nx w d l x k)) m) n ∧ WFn w d l (jn 19 17 (n * (w * d * l)) n x k (nx w d l x k) c) n ∧ ∀ z, inC w d l z → 0 ≤ jn 19 17 (n * (w * d * l)) n x k (nx w d l x k) c 17 z ∧ jn 19 17 (n * (w * d * l)) n x k (nx w d l x k) c 17 z < 256 := by
  obtain ⟨h1, h2, h3, h5, h6⟩ := hR
  obtain ⟨w1, w2⟩ := hW
  have hyi := (nx_in hne).1
  have hself := nx_self hk hne
  have hsx : x ≠ nx w d l x k := fun z => hself z.symm
  have hgx := (cR_geo hD hx).1
  have hgy := (cR_geo hD hyi).1
  obtain ⟨y, hy⟩ : ∃ y, nx w d l x k = y := ⟨_, rfl⟩
  have hq0 := h3.1.1
  have hopp := opp_in hk
  have hback := nx_opp hD hx hk hne
  obtain ⟨c2, hc2⟩ : ∃ c2, jn 19 17 (n * (w * d * l)) n x k (nx w d l x k) c = c2 := ⟨_, rfl⟩
  obtain ⟨m2, hm2⟩ : ∃ m2, aT n (cR w d x) (cR w d (nx w d l x k)) m = m2 := ⟨_, rfl⟩
  have j19 := fun j => jn_19 (b := n * (w * d * l)) (n := n) (k := k) (m := c) hsx j
  have j17 := fun j => jn_17 (b := n * (w * d * l)) (n := n) (k := k) (m := c) hsx j
  have jbit := fun z hz j => jn_bit (n := n) (m := c) rfl hx hk hne (z := z) hz j
  have jne : ∀ o, o ≠ 17 → o ≠ 19 → c2 o = c o := fun o a b => by rw [← hc2]; exact jn_ne b a
  rw [hc2] at j19 j17 jbit ⊢
  have ane : ∀ o, o ≠ 68 → o ≠ 69 → o ≠ 70 → o ≠ 72 → m2 o = m o := fun o a b e f => by rw [← hm2]; exact aT_ne a b e f
  have a68 : m2 68 n = m 68 n + 1 := by rw [← hm2, aT_68]; simp
  have a69 : ∀ j, m2 69 j = if j = 2400 * n + m 68 n then cR w d x else m 69 j := fun j => by rw [← hm2, aT_69]
  have a70 : ∀ j, m2 70 j = if j = 2400 * n + m 68 n then cR w d (nx w d l x k) else m 70 j := fun j => by rw [← hm2, aT_70]
  have hcne : cR w d (nx w d l x k) ≠ cR w d x := fun z => hself (cR_inj hD hyi hx z)
  have a72 : ∀ j, m2 72 j = if j = 324 * n + cR w d (nx w d l x k) then kor (m 72 (324 * n + cR w d (nx w d l x k))) 2 else if j = 324 * n + cR w d x then kor (m 72 (324 * n + cR w d x)) 2 else m 72 j := fun j => by
    rw [← hm2, aT_72]
    have e : (324 * n + cR w d (nx w d l x k) = 324 * n + cR w d x) = False := eq_false (by omega)
    simp only [e, if_false]
  rw [hm2]
  have b17 : ∀ z, inC w d l z → (bt (c2 17 z) n.toNat = true ↔ bt (c 17 z) n.toNat = true ∨ z = x ∨ z = nx w d l x k) := by
    intro z hz
    rw [j17]
    have hb : ∀ v : Int, bt (kor v (kshl 1 n)) n.toNat = true := fun v => by rw [bt_or, bt_bit hn.1 (by omega), decide_eq_true (by omega), Bool.or_true]
    by_cases h1 : z = nx w d l x k
    · rw [if_pos h1]
      exact ⟨fun _ => Or.inr (Or.inr h1), fun _ => hb _⟩
    · rw [if_neg h1]
      by_cases h2 : z = x
      · rw [if_pos h2]
        exact ⟨fun _ => Or.inr (Or.inl h2), fun _ => hb _⟩
      · rw [if_neg h2]
        exact ⟨Or.inl, fun q => q.elim id (fun q => q.elim (fun q => absurd q h2) (fun q => absurd q h1))⟩
  refine ⟨⟨?_, ?_, ?_, fun z hz => ?_, fun j hj hj2 => ?_⟩, ⟨fun z hz => ?_, fun hc z hz => ?_⟩, fun z hz => ?_⟩
  · rw [ane 65 (by decide) (by decide) (by decide) (by decide), ane 66 (by decide) (by decide) (by decide) (by decide), ane 67 (by decide) (by decide) (by decide) (by decide), jne 18 (by decide) (by decide)]
    exact h1
  · rw [ane 65 (by decide) (by decide) (by decide) (by decide), ane 66 (by decide) (by decide) (by decide) (by decide), ane 67 (by decide) (by decide) (by decide) (by decide)]
    exact h2
  · rw [a68]
    refine LT_add hD hx hk hne h3 hno (fun i hi => ?_) ?_ (fun z j hz hj => ?_)
    · rw [a69, a70, if_neg (by omega), if_neg (by omega)]
      exact ⟨rfl, rfl⟩
    · rw [a69, a70, if_pos rfl, if_pos rfl]
      exact ⟨rfl, rfl⟩
    · rw [jbit z hz]
      constructor
      · rintro (q | ⟨q1, q2⟩ | ⟨q1, q2⟩)
        · exact Or.inl q
        · exact Or.inr (Or.inl ⟨q1, by omega⟩)
        · exact Or.inr (Or.inr ⟨q1, by omega⟩)
      · rintro (q | ⟨q1, q2⟩ | ⟨q1, q2⟩)
        · exact Or.inl q
        · exact Or.inr (Or.inl ⟨q1, by omega⟩)
        · exact Or.inr (Or.inr ⟨q1, by omega⟩)
  · rw [jne 16 (by decide) (by decide), b17 z hz, a72]
    obtain ⟨v1, v2, v3⟩ := h5 z hz
    by_cases hz1 : z = nx w d l x k
    · rw [if_pos (by rw [hz1]), ← hz1]
      obtain ⟨k1, k2, k3⟩ := kor2 v1
      exact ⟨k1, by rw [k2]; exact v2, by rw [k3]; exact ⟨fun _ => Or.inr (Or.inr rfl), fun _ => rfl⟩⟩
    · rw [if_neg (fun q => hz1 (cR_inj hD hz hyi (by omega)))]
      by_cases hz2 : z = x
      · rw [if_pos (by rw [hz2]), ← hz2]
        obtain ⟨k1, k2, k3⟩ := kor2 v1
        exact ⟨k1, by rw [k2]; exact v2, by rw [k3]; exact ⟨fun _ => Or.inr (Or.inl rfl), fun _ => rfl⟩⟩
      · rw [if_neg (fun q => hz2 (cR_inj hD hz hx (by omega)))]
        exact ⟨v1, v2, v3.trans ⟨Or.inl, fun q => q.elim id (fun q => q.elim (fun q => absurd q hz2) (fun q => absurd q hz1))⟩⟩
  · rw [a72, if_neg (fun q => hj2 ?_), if_neg (fun q => hj2 ?_)]
    · exact h6 j hj hj2
    · rw [show j = cR w d x by omega]; exact (cR_in hD hx).1
    · rw [show j = cR w d (nx w d l x k) by omega]; exact (cR_in hD hyi).1
  · obtain ⟨⟨z1, z2⟩, z3, z4, z5⟩ := w1 z hz
    rw [jne 16 (by decide) (by decide), jne 18 (by decide) (by decide)]
    have hsh := shl6 hk
    have hso := shl6 hopp
    have hval : (0 ≤ c2 19 (n * (w * d * l) + z) ∧ c2 19 (n * (w * d * l) + z) < 64) ∧ (c2 19 (n * (w * d * l) + z) ≠ 0 ↔ c 19 (n * (w * d * l) + z) ≠ 0 ∨ z = x ∨ z = nx w d l x k) := by
      rw [j19]
      by_cases hz1 : z = nx w d l x k
      · rw [if_pos (by rw [hz1]), ← hz1]
        exact ⟨kor_lt (n := 6) (by decide) (inR_small (by omega)) (k_in_kshl _ _) z2 ⟨hso.1, hso.2.1⟩, fun _ => Or.inr (Or.inr rfl), fun _ => kor_ne0 (k_in_kshl _ _) hso.2.2⟩
      · rw [if_neg (by omega)]
        by_cases hz2 : z = x
        · rw [if_pos (by rw [hz2]), ← hz2]
          exact ⟨kor_lt (n := 6) (by decide) (inR_small (by omega)) (k_in_kshl _ _) z2 ⟨hsh.1, hsh.2.1⟩, fun _ => Or.inr (Or.inl rfl), fun _ => kor_ne0 (k_in_kshl _ _) hsh.2.2⟩
        · rw [if_neg (by omega)]
          exact ⟨z2, Or.inl, fun q => q.elim id (fun q => q.elim (fun q => absurd q hz2) (fun q => absurd q hz1))⟩
    refine ⟨⟨z1, hval.1⟩, fun j hj hjn => ⟨(z3 j hj hjn).1, ?_⟩, ?_, ?_⟩
    · cases hb : bt (c2 19 (n * (w * d * l) + z)) j.toNat with
      | false => rfl
      | true =>
        rcases (jbit z hz j.toNat).mp hb with q | ⟨q1, q2⟩ | ⟨q1, q2⟩
        · rw [(z3 j hj hjn).2] at q; cases q
        · exfalso
          rw [q1, show j = k by omega] at hjn
          exact hne hjn
        · exfalso
          rw [q1, show j = oppF k by omega, hback] at hjn
          have := hx.1
          omega
    · rw [b17 z hz, hval.2, z4]
    · unfold pinT
      rw [jne 13 (by decide) (by decide), jne 14 (by decide) (by decide)]
      exact z5
  · rw [jne 9 (by decide) (by decide)] at hc
    omega
  · rw [j17]
    have hb8 : 0 ≤ kshl 1 n ∧ kshl 1 n < ((2 ^ 8 : Nat) : Int) := by
      have : ∀ i : Fin 8, 0 ≤ kshl 1 (i.val : Int) ∧ kshl 1 (i.val : Int) < ((2 ^ 8 : Nat) : Int) := by decide +kernel
      exact k_fin (P := fun k => 0 ≤ kshl 1 k ∧ kshl 1 k < ((2 ^ 8 : Nat) : Int)) this hn.1 (by omega)
    have hk8 : ∀ v : Int, (0 ≤ v ∧ v < 256) → 0 ≤ kor v (kshl 1 n) ∧ kor v (kshl 1 n) < 256 := fun v hv => kor_lt (n := 8) (by decide) (inR_small (by omega)) (k_in_kshl _ _) hv hb8
    split
    · exact hk8 _ (h17 _ hyi)
    · split
      · exact hk8 _ (h17 _ hx)
      · exact h17 z hz
/-- moves that lead from cell to cell -/
def okm (w d l : Int) : List Int → Int → Prop
  | [], _ => True
  | k :: ks, x => (0 ≤ k ∧ k < 6) ∧ nx w d l x k ≠ -1 ∧ okm w d l ks (nx w d l x k)
theorem row_okm {w d l mv : Int} {F J : Int → Prop} {cs : Int → Int → Int} {be : Int} (hmv : mv ≤ 6) : ∀ {ks : List Int} {x dir C : Int}, row w d l mv F J cs be ks x dir C → okm w d l ks x
  | [], _, _, _, _ => trivial
  | k :: ks, x, dir, C, h => ⟨by have := h.2.2.1; omega, h.2.2.2.1, row_okm hmv h.2.2.2.2⟩
/-- no trace of the net lies between two cells of the row -/
def noE (w d l n : Int) (c : Mem) (L : List Int) : Prop := ∀ z k : Int, z ∈ L → inC w d l z → (0 ≤ k ∧ k < 6) → nx w d l z k ≠ -1 → nx w d l z k ∈ L → bt (c 19 (n * (w * d * l) + z)) k.toNat = false
theorem path_step {w d l n : Int} (hD : okD w d l) (hn : 0 ≤ n ∧ n < 8) : ∀ (ks : List Int) (x : Int) (c m : Mem), inC w d l x → okm w d l ks x → (x :: vis w d l ks x).Nodup → noE w d l n c (x :: vis w d l ks x) → RRk w d l c m n → WFn w d l c n → (∀ z, inC w d l z → 0 ≤ c 17 z ∧ c 17 z < 256) → n < c 9 14 → m 68 n + (ks.length : Int) ≤ 2400 →
    RRk w d l (adP w d l (w * d * l) n ks x c) (adR w d l n ks x m) n ∧ WFn w d l (adP w d l (w * d * l) n ks x c) n ∧ (∀ z, inC w d l z → 0 ≤ adP w d l (w * d * l) n ks x c 17 z ∧ adP w d l (w * d * l) n ks x c 17 z < 256) ∧ tsame w d l n c (adP w d l (w * d * l) n ks x c) ∧ rsame n m (adR w d l n ks x m) ∧ adR w d l n ks x m 68 n = m 68 n + (ks.length : Int) ∧ (∀ i : Nat, i < ks.length → adR w d l n ks x m 69 (2400 * n + m 68 n + (i : Int)) = cR w d ((x :: vis w d l ks x).getD i 0) ∧ adR w d l n ks x m 70 (2400 * n + m 68 n + (i : Int)) = cR w d ((x :: vis w d l ks x).getD (i + 1) 0)) ∧ ∀ j : Int, j < 2400 * n + m 68 n → adR w d l n ks x m 69 j = m 69 j ∧ adR w d l n ks x m 70 j = m 70 j
  | [], x, c, m, _, _, _, _, hR, hW, h17, _, _ => ⟨hR, hW, h17, tsame_rf, rsame_rf, by simp [adR], fun i hi => absurd hi (by simp), fun _ _ => ⟨rfl, rfl⟩⟩
  | k :: ks, x, c, m, hx, hok, hnd, hE, hR, hW, h17, ha, hq => by
    obtain ⟨o1, o2, o3⟩ := hok
    have hyi := (nx_in o2).1
    have hself := nx_self o1 o2
    have hgx := (cR_geo hD hx).1
    have hgy := (cR_geo hD hyi).1
    have hq0 := hR.2.2.1.1.1
    simp only [List.length_cons] at hq
    rw [show vis w d l (k :: ks) x = nx w d l x k :: vis w d l ks (nx w d l x k) from rfl] at hnd hE ⊢
    rw [List.nodup_cons] at hnd
    have hno : bt (c 19 (n * (w * d * l) + x)) k.toNat = false := hE x k List.mem_cons_self hx o1 o2 (List.mem_cons_of_mem _ List.mem_cons_self)
    obtain ⟨s1, s2, s3⟩ := add_step hD hn hx o1 o2 hR hW h17 ha hno
    have ts := jn_tsame (c := c) hn hx o1 o2
    have rs := aT_rsame (m := m) hn hgx hgy (by omega)
    have jbit := fun z hz j => jn_bit (n := n) (m := c) rfl hx o1 o2 (z := z) hz j
    show RRk w d l (adP w d l (w * d * l) n ks (nx w d l x k) (jn 19 17 (n * (w * d * l)) n x k (nx w d l x k) c)) (adR w d l n ks (nx w d l x k) (aT n (cR w d x) (cR w d (nx w d l x k)) m)) n ∧ WFn w d l (adP w d l (w * d * l) n ks (nx w d l x k) (jn 19 17 (n * (w * d * l)) n x k (nx w d l x k) c)) n ∧ (∀ z, inC w d l z → 0 ≤ adP w d l (w * d * l) n ks (nx w d l x k) (jn 19 17 (n * (w * d * l)) n x k (nx w d l x k) c) 17 z ∧ adP w d l (w * d * l) n ks (nx w d l x k) (jn 19 17 (n * (w * d * l)) n x k (nx w d l x k) c) 17 z < 256) ∧ tsame w d l n c (adP w d l (w * d * l) n ks (nx w d l x k) (jn 19 17 (n * (w * d * l)) n x k (nx w d l x k) c)) ∧ rsame n m (adR w d l n ks (nx w d l x k) (aT n (cR w d x) (cR w d (nx w d l x k)) m)) ∧ adR w d l n ks (nx w d l x k) (aT n (cR w d x) (cR w d (nx w d l x k)) m) 68 n = m 68 n + ((ks.length + 1 : Nat) : Int) ∧ (∀ i : Nat, i < ks.length + 1 → adR w d l n ks (nx w d l x k) (aT n (cR w d x) (cR w d (nx w d l x k)) m) 69 (2400 * n + m 68 n + (i : Int)) = cR w d ((x :: nx w d l x k :: vis w d l ks (nx w d l x k)).getD i 0) ∧ adR w d l n ks (nx w d l x k) (aT n (cR w d x) (cR w d (nx w d l x k)) m) 70 (2400 * n + m 68 n + (i : Int)) = cR w d ((x :: nx w d l x k :: vis w d l ks (nx w d l x k)).getD (i + 1) 0)) ∧ ∀ j : Int, j < 2400 * n + m 68 n → adR w d l n ks (nx w d l x k) (aT n (cR w d x) (cR w d (nx w d l x k)) m) 69 j = m 69 j ∧ adR w d l n ks (nx w d l x k) (aT n (cR w d x) (cR w d (nx w d l x k)) m) 70 j = m 70 j
    generalize hc2 : jn 19 17 (n * (w * d * l)) n x k (nx w d l x k) c = c2 at *
    have a69 : ∀ j, aT n (cR w d x) (cR w d (nx w d l x k)) m 69 j = if j = 2400 * n + m 68 n then cR w d x else m 69 j := fun j => by rw [aT_69]
    have a70 : ∀ j, aT n (cR w d x) (cR w d (nx w d l x k)) m 70 j = if j = 2400 * n + m 68 n then cR w d (nx w d l x k) else m 70 j := fun j => by rw [aT_70]
    have a68 : aT n (cR w d x) (cR w d (nx w d l x k)) m 68 n = m 68 n + 1 := by rw [aT_68]; simp
    generalize hm2 : aT n (cR w d x) (cR w d (nx w d l x k)) m = m2 at *
    have hE2 : noE w d l n c2 (nx w d l x k :: vis w d l ks (nx w d l x k)) := by
      intro z j hz hzi hj hzn hzm
      have h1 := hE z j (List.mem_cons_of_mem _ hz) hzi hj hzn (List.mem_cons_of_mem _ hzm)
      cases hb : bt (c2 19 (n * (w * d * l) + z)) j.toNat with
      | false => rfl
      | true =>
        exfalso
        rcases (jbit z hzi j.toNat).mp hb with q | ⟨q1, q2⟩ | ⟨q1, q2⟩
        · rw [h1] at q; cases q
        · rw [q1] at hz
          exact hnd.1 hz
        · rw [q1, show j = oppF k by omega, nx_opp hD hx o1 o2] at hzm
          exact hnd.1 hzm
    obtain ⟨i1, i2, i3, i4, i5, i6, i7, i8⟩ := path_step hD hn ks (nx w d l x k) c2 m2 hyi o3 hnd.2 hE2 s1 s2 s3 (by rw [ts.1 9 (by decide) (by decide)]; exact ha) (by omega)
    refine ⟨i1, i2, i3, tsame_tr ts i4, rsame_tr rs i5, by rw [i6, a68]; omega, fun i hi => ?_, fun j hj => ?_⟩
    · rcases i with _ | i
      · have := i8 (2400 * n + m 68 n + ((0 : Nat) : Int)) (by omega)
        rw [this.1, this.2, a69, a70, if_pos (by simp), if_pos (by simp)]
        exact ⟨rfl, rfl⟩
      · have := i7 i (by omega)
        rw [a68] at this
        rw [show 2400 * n + m 68 n + ((i + 1 : Nat) : Int) = 2400 * n + (m 68 n + 1) + (i : Int) by omega]
        exact this
    · have := i8 j (by omega)
      rw [this.1, this.2, a69, a70, if_neg (by omega), if_neg (by omega)]
      exact ⟨rfl, rfl⟩
