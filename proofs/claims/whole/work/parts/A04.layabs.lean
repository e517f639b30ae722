/-! what rows leave joined and free, on both sides -/
theorem RR0_RelG {w d l : Int} {c r : Mem} (h : WFs c) (hr : RR0 w d l c r) : RelG w d l c r := by
  obtain ⟨h1, h2, h3, h4, -⟩ := h
  obtain ⟨⟨r1, -, ⟨-, r3⟩, ⟨r4, r5⟩, -, ⟨r6, -⟩, -⟩, hn⟩ := hr
  refine ⟨r1, r4, fun n hnn => ?_, r6, fun n x hnn hx => ?_⟩
  · have a := h4 n hnn
    have b := r3 (c 11 n) a
    exact ⟨r5 n hnn, by rw [r5 n hnn]; exact b.2.2.2.1, by rw [r5 n hnn]; exact b.2.2.2.2⟩
  · obtain ⟨-, -, -, -, h72, -⟩ := hn n hnn
    obtain ⟨v1, v2, v3⟩ := h72 x hx
    have := k_bit4 v1
    exact ⟨this.1, by rw [this.2, ← v2]; simp, v3⟩
theorem WFs_srt {c : Mem} (h : WFs c) : srt c := by
  obtain ⟨h1, h2, h3, h4, -⟩ := h
  refine ⟨h2, fun o ho => ?_⟩
  have a := h4 o ho
  have b := h3 (c 11 o) a
  exact ⟨by omega, b.2.2.2.1⟩
theorem WFs_c {c c' : Mem} (hc : ∀ o, o ≠ 17 → o ≠ 19 → c' o = c o) (h : WFs c) : WFs c' := by
  unfold WFs at h ⊢
  rw [hc 9 (by decide) (by decide), hc 10 (by decide) (by decide), hc 11 (by decide) (by decide), hc 12 (by decide) (by decide)]
  exact h
theorem WFp_c {w d l : Int} {c c' : Mem} (hc : ∀ o, o ≠ 17 → o ≠ 19 → c' o = c o) (h : WFp w d l c) : WFp w d l c' := by
  unfold WFp at h ⊢
  rw [hc 9 (by decide) (by decide), hc 13 (by decide) (by decide), hc 14 (by decide) (by decide)]
  exact h
/-- a move of the lists is a move of the bits, told from either end -/
theorem eds_st {w d l n : Int} {c m : Mem} (hR : RRk w d l c m n) {a k : Int} (ha : inC w d l a) (hk : 0 ≤ k ∧ k < 6) (hne : nx w d l a k ≠ -1) : bt (mvB (w * d * l) n c a) k.toNat = true ↔ eds w d l (fun i => m 66 (1200 * n + i)) (fun i => m 67 (1200 * n + i)) (m 65 n) a k ∨ eds w d l (fun i => m 69 (2400 * n + i)) (fun i => m 70 (2400 * n + i)) (m 68 n) a k := by
  unfold mvB
  rw [bt_or, Bool.or_eq_true, hR.1.2 a k ha hk hne, hR.2.2.1.2 a k ha hk hne]
theorem stJ_sym {w d l n : Int} {c m : Mem} (hD : okD w d l) (hR : RRk w d l c m n) {a b : Int} (ha : inC w d l a) (h : stJ w d l (w * d * l) n c a b) : stJ w d l (w * d * l) n c b a := by
  obtain ⟨k, hk, rfl, hne, hb⟩ := h
  have hback := nx_opp hD ha hk hne
  have hbn := nx_opp_ne hD ha hk hne
  refine ⟨oppF k, opp_in hk, hback, by have := ha.1; omega, ?_⟩
  rw [eds_st hR ha hk hne] at hb
  rw [eds_st hR (nx_in hne).1 (opp_in hk) hbn, eds_opp hD ha hk hne, eds_opp hD ha hk hne]
  exact hb
theorem erR_stJ {w d l n : Int} {c m : Mem} (hD : okD w d l) (hR : RRk w d l c m n) {u v : Int} : erR m n u v ↔ ∃ a b, inC w d l a ∧ inC w d l b ∧ u = cR w d a ∧ v = cR w d b ∧ stJ w d l (w * d * l) n c a b := by
  have key : ∀ (f t : Int → Int) (q : Int), okL w d l f t q → (∀ a k, inC w d l a → (0 ≤ k ∧ k < 6) → nx w d l a k ≠ -1 → eds w d l f t q a k → bt (mvB (w * d * l) n c a) k.toNat = true) → (∃ i : Int, (0 ≤ i ∧ i < q) ∧ ((f i = u ∧ t i = v) ∨ (f i = v ∧ t i = u))) → ∃ a b, inC w d l a ∧ inC w d l b ∧ u = cR w d a ∧ v = cR w d b ∧ stJ w d l (w * d * l) n c a b := by
    rintro f t q hok hbit ⟨i, hi, hh⟩
    obtain ⟨x, k, hx, hk, hne, e1, e2⟩ := hok.2.1 i hi
    have hyi := (nx_in hne).1
    rcases hh with ⟨h1, h2⟩ | ⟨h1, h2⟩
    · exact ⟨x, nx w d l x k, hx, hyi, by rw [← h1, e1], by rw [← h2, e2], k, hk, rfl, hne, hbit x k hx hk hne ⟨i, hi, Or.inl ⟨e1, e2⟩⟩⟩
    · have hback := nx_opp hD hx hk hne
      refine ⟨nx w d l x k, x, hyi, hx, by rw [← h2, e2], by rw [← h1, e1], oppF k, opp_in hk, hback, by have := hx.1; omega, hbit _ _ hyi (opp_in hk) (nx_opp_ne hD hx hk hne) ⟨i, hi, Or.inr ⟨by rw [hback]; exact e1, e2⟩⟩⟩
  constructor
  · rintro (h | h)
    · exact key (fun i => m 66 (1200 * n + i)) (fun i => m 67 (1200 * n + i)) (m 65 n) hR.1.1 (fun a k ha hk hne he => (eds_st hR ha hk hne).mpr (Or.inl he)) h
    · exact key (fun i => m 69 (2400 * n + i)) (fun i => m 70 (2400 * n + i)) (m 68 n) hR.2.2.1.1 (fun a k ha hk hne he => (eds_st hR ha hk hne).mpr (Or.inr he)) h
  · rintro ⟨a, b, ha, hb, rfl, rfl, k, hk, rfl, hne, hbit⟩
    rcases (eds_st hR ha hk hne).mp hbit with ⟨i, hi, h⟩ | ⟨i, hi, h⟩
    · exact Or.inl ⟨i, hi, h⟩
    · exact Or.inr ⟨i, hi, h⟩
/-- what the lists join is what the bits join -/
theorem joi_R {w d l n : Int} {c m : Mem} (hD : okD w d l) (hR : RRk w d l c m n) (hp : inC w d l (c 14 (n * 4))) {x : Int} (hx : inC w d l x) : Rch (erR m n) (cR w d (c 14 (n * 4))) (cR w d x) ↔ joi w d l (w * d * l) n c x := by
  constructor
  · intro h
    have : ∀ y, Rch (erR m n) (cR w d (c 14 (n * 4))) y → ∃ z, inC w d l z ∧ y = cR w d z ∧ joi w d l (w * d * l) n c z := by
      intro y hy
      refine Rch_ind (P := fun y => ∃ z, inC w d l z ∧ y = cR w d z ∧ joi w d l (w * d * l) n c z) ?_ ⟨_, hp, rfl, Rch_rf⟩ hy
      rintro u v ⟨z, hz, rfl, hj⟩ hs
      obtain ⟨a, b, ha, hb, e1, rfl, hst⟩ := (erR_stJ hD hR).mp hs
      have : z = a := cR_inj hD hz ha e1
      subst this
      exact ⟨b, hb, rfl, Rch_to hj hst⟩
    obtain ⟨z, hz, e, hj⟩ := this _ h
    have : x = z := cR_inj hD hx hz e
    rw [this]; exact hj
  · intro h
    have : inC w d l x ∧ Rch (erR m n) (cR w d (c 14 (n * 4))) (cR w d x) := by
      refine Rch_ind (P := fun x => inC w d l x ∧ Rch (erR m n) (cR w d (c 14 (n * 4))) (cR w d x)) ?_ ⟨hp, Rch_rf⟩ h
      rintro a b ⟨ha, hr⟩ hst
      have hb : inC w d l b := by
        obtain ⟨k, hk, rfl, hne, -⟩ := hst
        exact (nx_in hne).1
      exact ⟨hb, Rch_to hr ((erR_stJ hD hR).mpr ⟨a, b, ha, hb, rfl, rfl, hst⟩)⟩
    exact this.2
/-- two cells one behind the other in a row -/
def pe (w d l : Int) : List Int → Int → Int → Int → Prop
  | [], _, _, _ => False
  | k :: ks, x, a, b => (a = x ∧ b = nx w d l x k) ∨ (a = nx w d l x k ∧ b = x) ∨ pe w d l ks (nx w d l x k) a b
theorem adP_st {w d l n : Int} (hD : okD w d l) : ∀ {ks : List Int} {x : Int} {c : Mem} {a b : Int}, inC w d l x → okm w d l ks x → inC w d l a → (stJ w d l (w * d * l) n (adP w d l (w * d * l) n ks x c) a b ↔ stJ w d l (w * d * l) n c a b ∨ pe w d l ks x a b)
  | [], x, c, a, b, _, _, _ => ⟨Or.inl, fun h => h.elim id False.elim⟩
  | k :: ks, x, c, a, b, hx, hok, ha => by
    obtain ⟨o1, o2, o3⟩ := hok
    have h1 := adP_st (n := n) hD (ks := ks) (x := nx w d l x k) (c := jn 19 17 (n * (w * d * l)) n x k (nx w d l x k) c) (a := a) (b := b) (nx_in o2).1 o3 ha
    have h2 := jn_st (n := n) (m := c) hD rfl hx o1 o2 (a := a) (b := b) ha
    show stJ w d l (w * d * l) n (adP w d l (w * d * l) n ks (nx w d l x k) (jn 19 17 (n * (w * d * l)) n x k (nx w d l x k) c)) a b ↔ stJ w d l (w * d * l) n c a b ∨ ((a = x ∧ b = nx w d l x k) ∨ (a = nx w d l x k ∧ b = x) ∨ pe w d l ks (nx w d l x k) a b)
    rw [h1, h2]
    constructor
    · rintro ((h | h | h) | h)
      · exact Or.inl h
      · exact Or.inr (Or.inl h)
      · exact Or.inr (Or.inr (Or.inl h))
      · exact Or.inr (Or.inr (Or.inr h))
    · rintro (h | h | h | h)
      · exact Or.inl (Or.inl h)
      · exact Or.inl (Or.inr (Or.inl h))
      · exact Or.inl (Or.inr (Or.inr h))
      · exact Or.inr h
/-- all cells of a row are joined behind it -/
theorem row_joins {w d l mv : Int} {F J : Int → Prop} {cs : Int → Int → Int} {be : Int} {G : Int → Int → Prop} {s : Int} (hJ : ∀ y, J y → Rch G s y) : ∀ {ks : List Int} {x dir C : Int}, row w d l mv F J cs be ks x dir C → (∀ a b, pe w d l ks x a b → G a b) → ∀ z, z ∈ x :: vis w d l ks x → Rch G s z
  | [], x, dir, C, h, hG, z, hz => by
    rcases List.mem_cons.mp hz with rfl | hz
    · exact hJ _ h.1
    · simp [vis] at hz
  | k :: ks, x, dir, C, h, hG, z, hz => by
    have ih := row_joins hJ h.2.2.2.2 (fun a b hab => hG a b (Or.inr (Or.inr hab)))
    rcases List.mem_cons.mp hz with rfl | hz
    · exact Rch_to (ih (nx w d l z k) List.mem_cons_self) (hG _ _ (Or.inr (Or.inl ⟨rfl, rfl⟩)))
    · exact ih z hz
/-- a joined cell of a row is its end -/
def endc (w d l : Int) : List Int → Int → Int
  | [], x => x
  | k :: ks, x => endc w d l ks (nx w d l x k)
theorem row_J {w d l mv : Int} {F J : Int → Prop} {cs : Int → Int → Int} {be : Int} : ∀ {ks : List Int} {x dir C z : Int}, row w d l mv F J cs be ks x dir C → z ∈ x :: vis w d l ks x → J z → z = endc w d l ks x
  | [], x, dir, C, z, h, hz, hj => by
    rcases List.mem_cons.mp hz with rfl | hz
    · rfl
    · simp [vis] at hz
  | k :: ks, x, dir, C, z, h, hz, hj => by
    rcases List.mem_cons.mp hz with rfl | hz
    · exact absurd hj h.1
    · show z = endc w d l ks (nx w d l x k)
      exact row_J (ks := ks) (x := nx w d l x k) h.2.2.2.2 hz hj
/-- the ends of own traces are joined -/
def TJ (w d l n : Int) (c : Mem) : Prop := ∀ z k : Int, inC w d l z → (0 ≤ k ∧ k < 6) → nx w d l z k ≠ -1 → bt (c 19 (n * (w * d * l) + z)) k.toNat = true → joi w d l (w * d * l) n c z
theorem TJ_noE {w d l n mv : Int} {F : Int → Prop} {cs : Int → Int → Int} {be : Int} {c : Mem} (h : TJ w d l n c) {ks : List Int} {x dir C : Int} (hr : row w d l mv F (joi w d l (w * d * l) n c) cs be ks x dir C) : noE w d l n c (x :: vis w d l ks x) := by
  intro z k hz hzi hk hne hz2
  cases hb : bt (c 19 (n * (w * d * l) + z)) k.toNat with
  | false => rfl
  | true =>
    exfalso
    have h1 := h z k hzi hk hne hb
    have h2 : joi w d l (w * d * l) n c (nx w d l z k) := Rch_to h1 ⟨k, hk, rfl, hne, by unfold mvB; rw [bt_or, hb, Bool.or_true]⟩
    have e1 := row_J hr hz h1
    have e2 := row_J hr hz2 h2
    exact nx_self hk hne (by rw [e2, ← e1])
theorem pe_mem {w d l : Int} : ∀ {ks : List Int} {x a b : Int}, pe w d l ks x a b → a ∈ x :: vis w d l ks x ∧ b ∈ x :: vis w d l ks x
  | [], _, _, _, h => h.elim
  | k :: ks, x, a, b, h => by
    rcases h with ⟨rfl, rfl⟩ | ⟨rfl, rfl⟩ | h
    · exact ⟨List.mem_cons_self, List.mem_cons_of_mem _ List.mem_cons_self⟩
    · exact ⟨List.mem_cons_of_mem _ List.mem_cons_self, List.mem_cons_self⟩
    · exact ⟨List.mem_cons_of_mem _ (pe_mem h).1, List.mem_cons_of_mem _ (pe_mem h).2⟩
theorem okm_in {w d l : Int} : ∀ {ks : List Int} {x y : Int}, inC w d l x → okm w d l ks x → y ∈ x :: vis w d l ks x → inC w d l y
  | [], x, y, hx, _, hy => by
    rcases List.mem_cons.mp hy with rfl | hy
    · exact hx
    · simp [vis] at hy
  | k :: ks, x, y, hx, h, hy => by
    rcases List.mem_cons.mp hy with rfl | hy
    · exact hx
    · exact okm_in (nx_in h.2.1).1 h.2.2 hy
theorem adP_bit {w d l n : Int} (hD : okD w d l) : ∀ {ks : List Int} {x : Int} {c : Mem} {z j : Int}, inC w d l x → okm w d l ks x → inC w d l z → (0 ≤ j ∧ j < 6) → nx w d l z j ≠ -1 → (bt (adP w d l (w * d * l) n ks x c 19 (n * (w * d * l) + z)) j.toNat = true ↔ bt (c 19 (n * (w * d * l) + z)) j.toNat = true ∨ pe w d l ks x z (nx w d l z j))
  | [], x, c, z, j, _, _, _, _, _ => ⟨Or.inl, fun h => h.elim id False.elim⟩
  | k :: ks, x, c, z, j, hx, hok, hz, hj, hne => by
    obtain ⟨o1, o2, o3⟩ := hok
    have h1 := adP_bit (n := n) hD (ks := ks) (x := nx w d l x k) (c := jn 19 17 (n * (w * d * l)) n x k (nx w d l x k) c) (z := z) (j := j) (nx_in o2).1 o3 hz hj hne
    have h2 := jn_bit (n := n) (m := c) rfl hx o1 o2 (z := z) hz j.toNat
    have hback := nx_opp hD hx o1 o2
    show bt (adP w d l (w * d * l) n ks (nx w d l x k) (jn 19 17 (n * (w * d * l)) n x k (nx w d l x k) c) 19 (n * (w * d * l) + z)) j.toNat = true ↔ bt (c 19 (n * (w * d * l) + z)) j.toNat = true ∨ ((z = x ∧ nx w d l z j = nx w d l x k) ∨ (z = nx w d l x k ∧ nx w d l z j = x) ∨ pe w d l ks (nx w d l x k) z (nx w d l z j))
    rw [h1, h2]
    constructor
    · rintro ((h | ⟨h, h'⟩ | ⟨h, h'⟩) | h)
      · exact Or.inl h
      · refine Or.inr (Or.inl ⟨h, ?_⟩)
        rw [h, show j = k by omega]
      · refine Or.inr (Or.inr (Or.inl ⟨h, ?_⟩))
        rw [h, show j = oppF k by omega, hback]
      · exact Or.inr (Or.inr (Or.inr h))
    · rintro (h | ⟨h, h'⟩ | ⟨h, h'⟩ | h)
      · exact Or.inl (Or.inl h)
      · refine Or.inl (Or.inr (Or.inl ⟨h, ?_⟩))
        subst h
        have := nx_inj hj o1 hne h'
        omega
      · refine Or.inl (Or.inr (Or.inr ⟨h, ?_⟩))
        subst h
        have := nx_inj hj (opp_in o1) hne (by rw [h', hback])
        have := opp_in o1
        omega
      · exact Or.inr h
theorem joi_adP {w d l n : Int} {c : Mem} (hD : okD w d l) {ks : List Int} {x : Int} (hx : inC w d l x) (hok : okm w d l ks x) (hp : inC w d l (c 14 (n * 4))) {y : Int} (hy : joi w d l (w * d * l) n c y) : joi w d l (w * d * l) n (adP w d l (w * d * l) n ks x c) y := by
  unfold joi
  rw [adP_ne (by decide) (by decide) ks x c]
  have : inC w d l y ∧ Rch (stJ w d l (w * d * l) n (adP w d l (w * d * l) n ks x c)) (c 14 (n * 4)) y := by
    refine Rch_ind (P := fun y => inC w d l y ∧ Rch (stJ w d l (w * d * l) n (adP w d l (w * d * l) n ks x c)) (c 14 (n * 4)) y) ?_ ⟨hp, Rch_rf⟩ hy
    rintro a b ⟨ha, h1⟩ hst
    refine ⟨?_, Rch_to h1 ((adP_st hD hx hok ha).mpr (Or.inl hst))⟩
    obtain ⟨k, hk, rfl, hne, -⟩ := hst
    exact (nx_in hne).1
  exact this.2
theorem TJ_adP {w d l n mv : Int} {F : Int → Prop} {cs : Int → Int → Int} {be : Int} {c : Mem} (hD : okD w d l) (hmv : mv ≤ 6) (hp : inC w d l (c 14 (n * 4))) (h : TJ w d l n c) {ks : List Int} {x dir C : Int} (hx : inC w d l x) (hr : row w d l mv F (joi w d l (w * d * l) n c) cs be ks x dir C) : TJ w d l n (adP w d l (w * d * l) n ks x c) ∧ ∀ z, z ∈ x :: vis w d l ks x → joi w d l (w * d * l) n (adP w d l (w * d * l) n ks x c) z := by
  have hok := row_okm hmv hr
  have h14 : adP w d l (w * d * l) n ks x c 14 = c 14 := adP_ne (by decide) (by decide) ks x c
  have hall : ∀ z, z ∈ x :: vis w d l ks x → joi w d l (w * d * l) n (adP w d l (w * d * l) n ks x c) z := by
    intro z hz
    have := row_joins (G := stJ w d l (w * d * l) n (adP w d l (w * d * l) n ks x c)) (s := c 14 (n * 4)) (fun y hy => by
      have := joi_adP (n := n) hD hx hok hp hy
      unfold joi at this
      rw [h14] at this
      exact this) hr (fun a b hab => (adP_st hD hx hok (okm_in hx hok (pe_mem hab).1)).mpr (Or.inr hab)) z hz
    unfold joi
    rw [h14]
    exact this
  refine ⟨fun z k hz hk hne hb => ?_, hall⟩
  rcases (adP_bit hD hx hok hz hk hne).mp hb with hb | hb
  · exact joi_adP (n := n) hD hx hok hp (h z k hz hk hne hb)
  · exact hall z (pe_mem hb).1
/-- own traces lie in free cells alone: nothing else becomes free by them -/
theorem frT_own {w d l n : Int} {q : Int → Prop} {c c' : Mem} {F : Int → Prop} (ht : tsame w d l n c c') (hF : ∀ x, inC w d l x → (F x ↔ frT w d l q c n 0 x)) (h0 : ∀ x, inC w d l x → bt (c 17 x) n.toNat = false) (h1 : ∀ x, inC w d l x → bt (c' 17 x) n.toNat = true → F x) {x : Int} (hx : inC w d l x) : F x ↔ frT w d l q c' n 0 x := by
  obtain ⟨t1, t2, t3⟩ := ht
  have hcl : clT w d l q c' n x ↔ clT w d l q c n x := by
    unfold clT aptC cuT
    rw [t1 9 (by decide) (by decide), t1 10 (by decide) (by decide), t1 11 (by decide) (by decide), t1 16 (by decide) (by decide)]
    constructor
    · rintro h o ho hon ⟨y, y1, y2, y3⟩
      refine h o ho hon ⟨y, y1, ?_, y3⟩
      rw [t3 y o.toNat y1 (by omega)]
      exact y2
    · rintro h o ho hon ⟨y, y1, y2, y3⟩
      refine h o ho hon ⟨y, y1, ?_, y3⟩
      rw [t3 y o.toNat y1 (by omega)] at y2
      exact y2
  have e : frT w d l q c' n 0 x ↔ (cuT q c' n x ∨ (c 15 x = 0 ∧ ((0 : Int) ≠ 0 ∨ bt (c 10 (c 11 n * 5 + 4)) (gZ w d x).toNat = true) ∧ clT w d l q c n x)) := by
    unfold frT
    rw [hcl, t1 10 (by decide) (by decide), t1 11 (by decide) (by decide), t1 15 (by decide) (by decide)]
  rw [e]
  constructor
  · intro hf
    rcases (hF x hx).mp hf with hf | hf
    · left
      unfold cuT at hf ⊢
      rw [t1 16 (by decide) (by decide)]
      rcases hf with hf | ⟨-, hf⟩
      · exact Or.inl hf
      · rw [h0 x hx] at hf; cases hf
    · exact Or.inr hf
  · rintro (hf | hf)
    · unfold cuT at hf
      rw [t1 16 (by decide) (by decide)] at hf
      rcases hf with hf | ⟨-, hf⟩
      · exact (hF x hx).mpr (Or.inl (Or.inl hf))
      · exact h1 x hx hf
    · exact (hF x hx).mpr (Or.inr hf)
/-- a cell with own traces is free, where the ends of own moves are -/
theorem own_17 {w d l n : Int} {F : Int → Prop} {c m : Mem} (hD : okD w d l) (hn : 0 ≤ n ∧ n < 8) (hR : RRk w d l c m n) (hW : WFn w d l c n) (hO : ownF w d l (w * d * l) n F c) {x : Int} (hx : inC w d l x) (hb : bt (c 17 x) n.toNat = true) : F x := by
  obtain ⟨⟨-, w19⟩, w3, w4, -⟩ := hW.1 x hx
  have hne := w4.mp hb
  obtain ⟨k, hk, hkb⟩ := (k_ne0 (inR_small (by omega))).mp hne
  have hk6 : k < 6 := Decidable.byContradiction (fun z => by
    rw [bt_small (n := 6) (inR_small (by omega)) w19.1 w19.2 (by omega)] at hkb
    cases hkb)
  have hk' : 0 ≤ (k : Int) ∧ (k : Int) < 6 := by omega
  have hnn : nx w d l x (k : Int) ≠ -1 := fun z => by
    have := (w3 (k : Int) hk' z).2
    rw [Int.toNat_natCast, hkb] at this
    cases this
  have hst : stJ w d l (w * d * l) n c x (nx w d l x (k : Int)) := ⟨(k : Int), hk', rfl, hnn, by unfold mvB; rw [bt_or, Int.toNat_natCast, hkb, Bool.or_true]⟩
  exact hO.2 _ _ (nx_in hnn).1 (stJ_sym hD hR hx hst)
/-- at first, without traces, the ends of own moves are free -/
theorem ownF_0 {w d l n : Int} {q : Int → Prop} {c m : Mem} (hD : okD w d l) (hR : RRk w d l c m n) (hW : WFn w d l c n) (hp : pinT c n (c 14 (n * 4))) (hpi : inC w d l (c 14 (n * 4))) (h19 : ∀ x, inC w d l x → c 19 (n * (w * d * l) + x) = 0) : ownF w d l (w * d * l) n (frT w d l q c n 0) c := by
  have hsolid : ∀ x, inC w d l x → (c 18 (n * (w * d * l) + x) ≠ 0 ∨ pinT c n x) → frT w d l q c n 0 x := fun x hx h => Or.inl (Or.inl ((hW.1 x hx).2.2.2.mpr h))
  refine ⟨hsolid _ hpi (Or.inr hp), fun a b ha hst => ?_⟩
  have hb : inC w d l b := by
    obtain ⟨k, hk, rfl, hne, -⟩ := hst
    exact (nx_in hne).1
  obtain ⟨k, hk, -, hne, hbit⟩ := stJ_sym hD hR ha hst
  refine hsolid b hb (Or.inl (fun z => ?_))
  unfold mvB at hbit
  rw [z, h19 b hb, bt_or, bt_zero] at hbit
  cases hbit
