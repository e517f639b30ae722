/-! the router: what leads to a state is offered -/
/-- the router's numbers for a net -/
def RCf (w d l L mv st vi be : Int) (ex : Int → Int) (m : Mem) : Prop := (m 30 10 = L ∧ m 30 11 = mv ∧ m 30 12 = 2048 * st + 1 ∧ m 30 13 = 2048 * vi + 1 ∧ m 30 14 = 2048 * be) ∧ ((L = 1 ∧ be = 0) ∨ L = 5) ∧ (mv = 4 ∨ mv = 6) ∧ ((1 ≤ st ∧ st ≤ 9) ∧ (0 ≤ vi ∧ vi ≤ 99) ∧ (0 ≤ be ∧ be ≤ 99)) ∧ (∀ y, m 31 y = ex y) ∧ ∀ y, inC w d l y → 0 ≤ ex y ∧ ex y ≤ 160
theorem RCf_same {w d l L mv st vi be : Int} {ex : Int → Int} {m m' : Mem} (h : RCf w d l L mv st vi be ex m) (h30 : ∀ i, i ≠ 9 → m' 30 i = m 30 i) (h31 : m' 31 = m 31) : RCf w d l L mv st vi be ex m' := by
  obtain ⟨⟨a1, a2, a3, a4, a5⟩, h2, h3, h4, h5, h6⟩ := h
  exact ⟨⟨by rw [h30 10 (by decide)]; exact a1, by rw [h30 11 (by decide)]; exact a2, by rw [h30 12 (by decide)]; exact a3, by rw [h30 13 (by decide)]; exact a4, by rw [h30 14 (by decide)]; exact a5⟩, h2, h3, h4, fun y => by rw [h31]; exact h5 y, h6⟩
/-- what a move to a cell costs -/
def csF (st vi : Int) (ex : Int → Int) (k y : Int) : Int := (if 4 ≤ k then vi else st) + max 0 (ex y)
/-- the direction that a lane stands for, and the lane behind a move -/
def dO (L a : Int) : Int := if L = 1 then 4 else a
def lb (L a k : Int) : Int := if L = 1 ∨ 4 ≤ k then a else k
/-- the key of a move from a lane -/
def we (L st vi be : Int) (ex : Int → Int) (a k y : Int) : Int := 2048 * wt (csF st vi ex) be (dO L a) k y + 1
def bw (be a k : Int) : Int := if a = 4 ∨ a = k then 0 else 2048 * be
theorem we_via {w d l L mv st vi be : Int} {ex : Int → Int} {m : Mem} (h : RCf w d l L mv st vi be ex m) {a k y : Int} (hy : inC w d l y) (hk : 4 ≤ k) : we L st vi be ex a k y = 2048 * ex y + (2048 * vi + 1) := by
  have := h.2.2.2.2.2 y hy
  unfold we wt csF
  rw [if_pos hk, if_neg (by omega)]
  omega
theorem we_step {w d l L mv st vi be : Int} {ex : Int → Int} {m : Mem} (h : RCf w d l L mv st vi be ex m) {a k y : Int} (hy : inC w d l y) (hk : k < 4) (ha : 0 ≤ a ∧ a < L) : we L st vi be ex a k y = 2048 * ex y + (2048 * st + 1) + (if L = 1 then 0 else bw be a k) := by
  have := h.2.2.2.2.2 y hy
  unfold we
  rcases h.2.1 with ⟨rfl, rfl⟩ | rfl
  · have e1 : dO 1 a = 4 := if_pos rfl
    rw [e1, if_pos rfl]
    unfold wt csF
    rw [if_neg (by omega : ¬ 4 ≤ k)]
    split <;> omega
  · have e5 : dO 5 a = a := if_neg (by decide)
    rw [e5, if_neg (by decide : ¬ (5 : Int) = 1)]
    unfold wt csF bw
    rw [if_neg (by omega : ¬ 4 ≤ k)]
    by_cases h1 : a = 4 ∨ a = k
    · rw [if_pos h1, if_neg (by omega)]; omega
    · rw [if_neg h1, if_pos (by omega)]; omega
theorem we_in {w d l L mv st vi be : Int} {ex : Int → Int} {m : Mem} (h : RCf w d l L mv st vi be ex m) {a k y : Int} (hy : inC w d l y) : 1 ≤ we L st vi be ex a k y ∧ we L st vi be ex a k y ≤ 2048 * 358 + 1 := by
  have h1 := h.2.2.2.2.2 y hy
  obtain ⟨h2, h3, h4⟩ := h.2.2.2.1
  unfold we wt csF
  split <;> split <;> omega
theorem c_X7_bendFrom (X : Xv) (m : Mem) (be a k : Int) (h : m 30 14 = 2048 * be) : kCall (eX X) 1 M_X7_bendFrom.1 [vR 30, vI a, vI k] m (cP (bw be a k) m) := by
  refine kCall_ofT ok_X7_bendFrom rfl (Nat.le_of_ble_eq_true rfl) (fun T hT => ?_)
  refine kW_go ok_X7_bendFrom [] 20 ?_
  unfold bw at hT
  refine And.intro (fun h1 => ?_) (fun h1 => And.intro (fun h2 => ?_) (fun h2 => ?_))
  · rw [if_pos (Or.inl h1)] at hT; exact hT _ _ ⟨rfl, rfl⟩
  · rw [if_neg (by omega)] at hT
    show T (some (vI (m 30 14))) m
    rw [h]
    exact hT _ _ ⟨rfl, rfl⟩
  · rw [if_pos (Or.inr h2)] at hT; exact hT _ _ ⟨rfl, rfl⟩
theorem c_X7_laneBehind (X : Xv) (m : Mem) (L a k : Int) (h : m 30 10 = L) : kCall (eX X) 1 M_X7_laneBehind.1 [vR 30, vI a, vI k] m (cP (lb L a k) m) := by
  refine kCall_ofT ok_X7_laneBehind rfl (Nat.le_of_ble_eq_true rfl) (fun T hT => ?_)
  refine kW_go ok_X7_laneBehind [] 20 ?_
  show (m 30 10 = 1 → T (some (vI a)) m) ∧ (¬ m 30 10 = 1 → (k < 4 → T (some (vI k)) m) ∧ (4 ≤ k → T (some (vI a)) m))
  rw [h]
  unfold lb at hT
  refine And.intro (fun h1 => ?_) (fun h1 => And.intro (fun h2 => ?_) (fun h2 => ?_))
  · rw [if_pos (Or.inl h1)] at hT; exact hT _ _ ⟨rfl, rfl⟩
  · rw [if_neg (by omega)] at hT; exact hT _ _ ⟨rfl, rfl⟩
  · rw [if_pos (Or.inr h2)] at hT; exact hT _ _ ⟨rfl, rfl⟩
/-- offers that were made, all of a kind -/
def ofJ (S : Int) (Off : Int → Int → Prop) (m m' : Mem) : Prop := HI S m' ∧ (∀ o, o ≠ 30 → o ≠ 34 → o ≠ 35 → o ≠ 36 → m' o = m o) ∧ (∀ i, i ≠ 9 → m' 30 i = m 30 i) ∧ (∀ t, m' 34 t = m 34 t ∨ (m' 34 t < m 34 t ∧ Off t (m' 34 t))) ∧ ∀ t, (0 ≤ t ∧ t < S) → (m' 36 t ≠ -1 ↔ m 36 t ≠ -1 ∨ m' 34 t < m 34 t)
theorem ofJ_rf {S : Int} {Off : Int → Int → Prop} {m : Mem} (h : HI S m) : ofJ S Off m m := ⟨h, fun _ _ _ _ _ => rfl, fun _ _ => rfl, fun _ => Or.inl rfl, fun _ _ => ⟨Or.inl, fun z => z.elim id (fun z => absurd z (by omega))⟩⟩
theorem ofJ_le {S : Int} {Off : Int → Int → Prop} {m m' : Mem} (h : ofJ S Off m m') (t : Int) : m' 34 t ≤ m 34 t := by
  rcases h.2.2.2.1 t with z | z <;> omega
theorem ofJ_step {S : Int} {Off : Int → Int → Prop} {m m' m2 : Mem} {s k : Int} (h : ofJ S Off m m') (h2 : ofP S s k m' m2) (ho : Off s k) : ofJ S Off m m2 ∧ m2 34 s ≤ k ∧ ∀ t, m2 34 t ≤ m' 34 t := by
  obtain ⟨a1, a2, a3, a4, a5⟩ := h
  obtain ⟨b1, b2, b3, b4, b5⟩ := h2
  refine ⟨⟨b1, fun o p q r u => by rw [b2 o p q r u]; exact a2 o p q r u, fun i hi => by rw [b3 i hi]; exact a3 i hi, fun t => ?_, fun t ht => ?_⟩, ?_, fun t => ?_⟩
  · rw [b4]
    split
    · rename_i hc
      have := ofJ_le (h := (⟨a1, a2, a3, a4, a5⟩ : ofJ S Off m m')) t
      rw [hc.1] at this ⊢
      exact Or.inr ⟨by omega, ho⟩
    · exact a4 t
  · rw [b5 t ht, a5 t ht, b4]
    split
    · rename_i hc
      have := ofJ_le (h := (⟨a1, a2, a3, a4, a5⟩ : ofJ S Off m m')) t
      rw [hc.1] at this ⊢
      exact ⟨fun _ => Or.inr (by omega), fun _ => Or.inr ⟨rfl, hc.2⟩⟩
    · rename_i hc
      exact ⟨fun z => z.elim id (fun z => absurd z hc), Or.inl⟩
  · rw [b4]
    split <;> omega
  · rw [b4]
    split
    · rename_i hc; rw [hc.1]; omega
    · exact Int.le_refl _
/-- a move that leads from lane a of x to lane b of y -/
def Eg (w d l L mv : Int) (F : Int → Prop) (x a k y b : Int) : Prop := inC w d l x ∧ (0 ≤ k ∧ k < mv) ∧ nx w d l x k = y ∧ F x ∧ (0 ≤ a ∧ a < L) ∧ lb L a k = b
theorem nx_back {w d l x y k : Int} (hD : okD w d l) (hy : inC w d l y) (hk : 0 ≤ k ∧ k < 6) : (inC w d l x ∧ nx w d l x k = y) ↔ (nx w d l y (oppF k) ≠ -1 ∧ nx w d l y (oppF k) = x) := by
  constructor
  · rintro ⟨h1, h2⟩
    have hne : nx w d l x k ≠ -1 := by rw [h2]; have := hy.1; omega
    have := nx_opp hD h1 hk hne
    rw [h2] at this
    rw [this]
    exact ⟨by have := h1.1; omega, rfl⟩
  · rintro ⟨h1, h2⟩
    have := nx_opp hD hy (opp_in hk) h1
    rw [opp_opp hk, h2] at this
    exact ⟨by rw [← h2]; exact (nx_in h1).1, this⟩
/-- the states, told by cell and lane -/
theorem st_in {w d l L x a : Int} {N : Nat} (hn : w * d * l = (N : Int)) (hL : L = 1 ∨ L = 5) (hx : inC w d l x) (ha : 0 ≤ a ∧ a < L) : 0 ≤ x * L + a ∧ x * L + a < N * L := by
  obtain ⟨h1, h2⟩ := hx
  rcases hL with rfl | rfl <;> omega
theorem st_inj {L x a x' a' : Int} (hL : L = 1 ∨ L = 5) (ha : 0 ≤ a ∧ a < L) (ha' : 0 ≤ a' ∧ a' < L) (h : x * L + a = x' * L + a') : x = x' ∧ a = a' := by
  rcases hL with rfl | rfl <;> omega
theorem st_ex {w d l L t : Int} {N : Nat} (hn : w * d * l = (N : Int)) (hL : L = 1 ∨ L = 5) (ht : 0 ≤ t ∧ t < N * L) : ∃ x a, inC w d l x ∧ (0 ≤ a ∧ a < L) ∧ t = x * L + a := by
  rcases hL with rfl | rfl
  · exact ⟨t, 0, ⟨by omega, by omega⟩, by omega, by omega⟩
  · exact ⟨t / 5, t % 5, ⟨by omega, by omega⟩, by omega, by omega⟩
set_option maxRecDepth 100000 in
set_option maxHeartbeats 4000000 in
theorem c_X7_comeFrom (X : Xv) (m : Mem) {w d l L mv st vi be : Int} {ex : Int → Int} {F : Int → Prop} (hB : Bd X w d l m) (hR : RCf w d l L mv st vi be ex m) (hF : ∀ x, inC w d l x → (m 27 x ≠ 0 ↔ F x)) (hH : HI ((nC X : Int) * L) m) (y b : Int) (hy : inC w d l y) (hb : 0 ≤ b ∧ b < L) (hk : 0 ≤ m 34 (y * L + b) ∧ m 34 (y * L + b) ≤ 1000000000) : kCall (eX X) 2 M_X7_comeFrom.1 [vR 30, vI (y * L + b)] m (fun r m' => r = none ∧ ofJ ((nC X : Int) * L) (fun t v => ∃ x a k, t = x * L + a ∧ Eg w d l L mv F x a k y b ∧ v = m 34 (y * L + b) + we L st vi be ex a k y) m m' ∧ ∀ x a k, Eg w d l L mv F x a k y b → m' 34 (x * L + a) ≤ m 34 (y * L + b) + we L st vi be ex a k y) := by
  obtain ⟨hD, hn, hG⟩ := hB
  have hc4 := okD_cells hD
  have h324 : nC X ≤ 324 := by omega
  have hL15 : L = 1 ∨ L = 5 := hR.2.1.elim (fun z => Or.inl z.1) Or.inr
  have hex := hR.2.2.2.2.2 y hy
  obtain ⟨V, hV⟩ : ∃ V, m 34 (y * L + b) = V := ⟨_, rfl⟩
  rw [hV] at hk ⊢
  obtain ⟨s, hs⟩ : ∃ s, y * L + b = s := ⟨_, rfl⟩
  rw [hs] at hV ⊢
  obtain ⟨S, hS⟩ : ∃ S, (nC X : Int) * L = S := ⟨_, rfl⟩
  rw [hS] at hH ⊢
  have hSb : S ≤ ((nC X * 5 : Nat) : Int) := by rw [← hS]; rcases hL15 with rfl | rfl <;> omega
  have hst := st_in hn hL15 hy hb
  have hyb : 0 ≤ y ∧ y < (nC X : Int) := by obtain ⟨a, b⟩ := hy; omega
  refine kCall_ofT ok_X7_comeFrom rfl (Nat.le_of_ble_eq_true rfl) (fun T hT => ?_)
  generalize hOff : (fun t v => ∃ x a k, t = x * L + a ∧ Eg w d l L mv F x a k y b ∧ v = V + we L st vi be ex a k y) = Off at hT
  have hOffd : ∀ t v, Off t v ↔ ∃ x a k, t = x * L + a ∧ Eg w d l L mv F x a k y b ∧ v = V + we L st vi be ex a k y := fun t v => by rw [← hOff]
  -- the moves, one by one
  have loop : ∀ (q : Nat) (k : Int) (m' : Mem) (x6 x7 : Option AV), k + q = mv → 0 ≤ k → ofJ S Off m m' → (∀ x a j, j < k → Eg w d l L mv F x a j y b → m' 34 (x * L + a) ≤ V + we L st vi be ex a j y) → kW (eX X) 1 M_X7_comeFrom T 3 [some (vR 30), some (vI s), some (vI y), some (vI b), some (vI (V + 2048 * ex y)), some (vI k), x6, x7] [] m' := by
    intro q
    induction q with
    | zero =>
      intro k m' x6 x7 hkq h0 hJ hall
      have e11 : m' 30 11 = mv := by rw [hJ.2.2.1 11 (by decide)]; exact hR.1.2.1
      refine kW_go ok_X7_comeFrom [3] 20 ?_
      refine And.intro (fun _ => hT _ _ ⟨rfl, hJ, fun x a j hE => hall x a j (by have := hE.2.1; omega) hE⟩) (fun h => ?_)
      have h : k < m' 30 11 := h
      omega
    | succ q ih =>
      intro k m' x6 x7 hkq h0 hJ hall
      have hR' : RCf w d l L mv st vi be ex m' := RCf_same hR hJ.2.2.1 (hJ.2.1 31 (by decide) (by decide) (by decide) (by decide))
      obtain ⟨⟨f10, f11, f12, f13, f14⟩, -⟩ := id hR'
      have hk6 : 0 ≤ k ∧ k < 6 := by have := hR.2.2.1; omega
      have hok := opp_in hk6
      have f2 : m' 2 = m 2 := hJ.2.1 2 (by decide) (by decide) (by decide) (by decide)
      have f27 : m' 27 = m 27 := hJ.2.1 27 (by decide) (by decide) (by decide) (by decide)
      have hnx : m 2 (y * 6 + oppF k) = nx w d l y (oppF k) := (hG.2.2.2.2.2 y hy).2.2.2 _ hok.1 hok.2
      have hnext : ∀ (m3 : Mem) (z6 z7 : Option AV), ofJ S Off m m3 → (∀ x a j, j < k + 1 → Eg w d l L mv F x a j y b → m3 34 (x * L + a) ≤ V + we L st vi be ex a j y) → kW (eX X) 1 M_X7_comeFrom T 8 [some (vR 30), some (vI s), some (vI y), some (vI b), some (vI (V + 2048 * ex y)), some (vI k), z6, z7] [] m3 := by
        intro m3 z6 z7 g1 g2
        refine kW_go ok_X7_comeFrom [3] 20 ?_
        exact ⟨by constructor <;> omega, ih (k + 1) m3 z6 z7 (by omega) (by omega) g1 g2⟩
      have hskip : ∀ (z6 z7 : Option AV), (∀ x a, ¬ Eg w d l L mv F x a k y b) → kW (eX X) 1 M_X7_comeFrom T 8 [some (vR 30), some (vI s), some (vI y), some (vI b), some (vI (V + 2048 * ex y)), some (vI k), z6, z7] [] m' := by
        intro z6 z7 hno
        refine hnext m' z6 z7 hJ (fun x a j hj hE => ?_)
        by_cases hjk : j = k
        · rw [hjk] at hE; exact absurd hE (hno x a)
        · exact hall x a j (by omega) hE
      refine kW_go ok_X7_comeFrom [4, 8] 20 ?_
      show (m' 30 11 ≤ k → _) ∧ (k < m' 30 11 → inR (y * 6) ∧ (0 ≤ k ∧ k < ((6 : Nat) : Int)) ∧ inR (y * 6 + oppF k) ∧ (0 ≤ y * 6 + oppF k ∧ y * 6 + oppF k < ((nC X * 6 : Nat) : Int)) ∧ (m' 2 (y * 6 + oppF k) = -1 → kW (eX X) 1 M_X7_comeFrom T 8 [some (vR 30), some (vI s), some (vI y), some (vI b), some (vI (V + 2048 * ex y)), some (vI k), some (vI (m' 2 (y * 6 + oppF k))), x7] [] m') ∧ (¬ m' 2 (y * 6 + oppF k) = -1 → (0 ≤ m' 2 (y * 6 + oppF k) ∧ m' 2 (y * 6 + oppF k) < (nC X : Int)) ∧ (¬ m' 27 (m' 2 (y * 6 + oppF k)) = 0 → kW (eX X) 1 M_X7_comeFrom T 4 [some (vR 30), some (vI s), some (vI y), some (vI b), some (vI (V + 2048 * ex y)), some (vI k), some (vI (m' 2 (y * 6 + oppF k))), x7] [] m') ∧ (m' 27 (m' 2 (y * 6 + oppF k)) = 0 → kW (eX X) 1 M_X7_comeFrom T 8 [some (vR 30), some (vI s), some (vI y), some (vI b), some (vI (V + 2048 * ex y)), some (vI k), some (vI (m' 2 (y * 6 + oppF k))), x7] [] m')))
      rw [f2, f27, hnx, f11]
      have hEx : ∀ x a, Eg w d l L mv F x a k y b → nx w d l y (oppF k) ≠ -1 ∧ nx w d l y (oppF k) = x := fun x a hE => (nx_back hD hy hk6).mp ⟨hE.1, hE.2.2.1⟩
      refine And.intro (fun h => absurd h (by omega)) (fun _ => ⟨by constructor <;> omega, hk6, by constructor <;> omega, by constructor <;> omega, fun h => hskip _ _ (fun x a hE => (hEx x a hE).1 h), fun h => ?_⟩)
      obtain ⟨fr, hfr⟩ : ∃ fr, nx w d l y (oppF k) = fr := ⟨_, rfl⟩
      rw [hfr] at h ⊢
      have hfi : inC w d l fr ∧ nx w d l fr k = y := (nx_back hD hy hk6).mpr ⟨by rw [hfr]; exact h, hfr⟩
      have hfb : 0 ≤ fr ∧ fr < (nC X : Int) := by obtain ⟨a, b⟩ := hfi.1; omega
      refine ⟨hfb, fun hfree => ?_, fun hz => hskip _ _ (fun x a hE => ?_)⟩
      rotate_left
      · have := (hEx x a hE).2
        rw [hfr] at this
        subst this
        exact (hF _ hfi.1).mpr hE.2.2.2.1 hz
      have hFf := (hF fr hfi.1).mp hfree
      -- an offer to a lane of that cell
      have hoff : ∀ (a : Int) (m1 m2 : Mem), (0 ≤ a ∧ a < L) → lb L a k = b → ofJ S Off m m1 → ofP S (fr * L + a) (V + we L st vi be ex a k y) m1 m2 → ofJ S Off m m2 ∧ m2 34 (fr * L + a) ≤ V + we L st vi be ex a k y ∧ ∀ t, m2 34 t ≤ m1 34 t := by
        intro a m1 m2 ha hlb g1 g2
        exact ofJ_step g1 g2 ((hOffd _ _).mpr ⟨fr, a, k, rfl, ⟨hfi.1, by omega, hfi.2, hFf, ha, hlb⟩, rfl⟩)
      have hsf : ∀ a, (0 ≤ a ∧ a < L) → 0 ≤ fr * L + a ∧ fr * L + a < S := fun a ha => by rw [← hS]; exact st_in hn hL15 hfi.1 ha
      have hdone : ∀ (m3 : Mem) (z7 : Option AV), ofJ S Off m m3 → (∀ t, m3 34 t ≤ m' 34 t) → (∀ a, (0 ≤ a ∧ a < L) → lb L a k = b → m3 34 (fr * L + a) ≤ V + we L st vi be ex a k y) → kW (eX X) 1 M_X7_comeFrom T 8 [some (vR 30), some (vI s), some (vI y), some (vI b), some (vI (V + 2048 * ex y)), some (vI k), some (vI fr), z7] [] m3 := by
        intro m3 z7 g1 g2 g3
        refine hnext m3 _ _ g1 (fun x a j hj hE => ?_)
        by_cases hjk : j = k
        · rw [hjk] at hE ⊢
          have := (hEx x a hE).2
          rw [hfr] at this
          rw [← this]
          exact g3 a hE.2.2.2.2.1 hE.2.2.2.2.2
        · exact Int.le_trans (g2 _) (hall x a j (by omega) hE)
      by_cases hk4 : 4 ≤ k
      · -- a via
        refine kW_go ok_X7_comeFrom [5, 8] 20 ?_
        refine And.intro (fun h => absurd h (by omega)) (fun _ => ?_)
        have hlb : ∀ a, lb L a k = a := fun a => if_pos (Or.inr hk4)
        have hwe := we_via hR hy hk4 (a := b)
        show inR (fr * m' 30 10) ∧ inR (fr * m' 30 10 + b) ∧ inR (V + 2048 * ex y + m' 30 13) ∧ kCall (eX X) 1 M_X7_offer.1 [vR 30, vI (fr * m' 30 10 + b), vI (V + 2048 * ex y + m' 30 13)] m' _
        rw [f10, f13]
        have hv := hR.2.2.2.1.2.1
        have hr1 : inR (fr * L) ∧ inR (fr * L + b) := by rcases hL15 with rfl | rfl <;> (constructor <;> constructor <;> omega)
        refine ⟨hr1.1, hr1.2, by constructor <;> omega, ?_⟩
        refine kCall_mono (c_X7_offer X m' S (fr * L + b) (V + 2048 * ex y + (2048 * vi + 1)) h324 hSb hJ.1 (hsf b hb)) (Nat.le_of_ble_eq_true rfl) ?_
        rintro _ m2 ⟨rfl, hp⟩
        rw [show V + 2048 * ex y + (2048 * vi + 1) = V + we L st vi be ex b k y by omega] at hp
        obtain ⟨g1, g2, g3⟩ := hoff b m' m2 hb (hlb b) hJ hp
        refine hdone m2 _ g1 g3 (fun a ha hab => ?_)
        rw [hlb] at hab
        rw [hab]
        exact g2
      · have hk4 : k < 4 := by omega
        have hst9 := hR.2.2.2.1.1
        have hbe9 := hR.2.2.2.1.2.2
        refine kW_go ok_X7_comeFrom [5, 8] 20 ?_
        refine And.intro (fun _ => ?_) (fun h => absurd h (by omega))
        rcases hR.2.1 with ⟨rfl, rfl⟩ | rfl
        · -- one lane
          refine kW_go ok_X7_comeFrom [6, 8] 20 ?_
          show (¬ m' 30 10 = 1 → _) ∧ (m' 30 10 = 1 → inR (V + 2048 * ex y + m' 30 12) ∧ kCall (eX X) 1 M_X7_offer.1 [vR 30, vI fr, vI (V + 2048 * ex y + m' 30 12)] m' _)
          rw [f10, f12]
          refine And.intro (fun h => absurd rfl h) (fun _ => ⟨by constructor <;> omega, ?_⟩)
          have hwe := we_step hR hy hk4 (a := 0) (by omega)
          rw [if_pos rfl] at hwe
          have e0 : fr = fr * 1 + 0 := by omega
          refine kCall_mono (c_X7_offer X m' S fr (V + 2048 * ex y + (2048 * st + 1)) h324 hSb hJ.1 (by have := hsf 0 (by omega); omega)) (Nat.le_of_ble_eq_true rfl) ?_
          rintro _ m2 ⟨rfl, hp⟩
          rw [show V + 2048 * ex y + (2048 * st + 1) = V + we 1 st vi 0 ex 0 k y by omega] at hp
          have hp' : ofP S (fr * 1 + 0) (V + we 1 st vi 0 ex 0 k y) m' m2 := by rw [← e0]; exact hp
          obtain ⟨g1, g2, g3⟩ := hoff 0 m' m2 (by omega) (by have : lb 1 0 k = 0 := if_pos (Or.inl rfl); omega) hJ hp'
          refine hdone m2 _ g1 g3 (fun a ha hab => ?_)
          have : a = 0 := by omega
          rw [this]
          exact g2
        · -- five lanes
          have hlb : ∀ a, lb 5 a k = k := fun a => if_neg (by omega)
          refine kW_go ok_X7_comeFrom [6, 8] 20 ?_
          show (¬ m' 30 10 = 1 → _) ∧ (m' 30 10 = 1 → _)
          rw [f10]
          refine And.intro (fun _ => ?_) (fun h => absurd h (by decide))
          refine kW_go ok_X7_comeFrom [7, 8] 20 ?_
          refine And.intro (fun h => hdone m' _ hJ (fun t => Int.le_refl _) (fun a ha hab => absurd (by rw [hlb] at hab; exact hab) h)) (fun hkb => ?_)
          have hkb : k = b := hkb
          have lanes : ∀ (p : Nat) (a : Int) (m1 : Mem), a + p = 5 → 0 ≤ a → ofJ S Off m m1 → (∀ t, m1 34 t ≤ m' 34 t) → (∀ e, (0 ≤ e ∧ e < a) → m1 34 (fr * 5 + e) ≤ V + we 5 st vi be ex e k y) → kW (eX X) 1 M_X7_comeFrom T 7 [some (vR 30), some (vI s), some (vI y), some (vI b), some (vI (V + 2048 * ex y)), some (vI k), some (vI fr), some (vI a)] [] m1 := by
            intro p
            induction p with
            | zero =>
              intro a m1 hap ha g1 g2 g3
              refine kW_go ok_X7_comeFrom [7, 8] 20 ?_
              exact And.intro (fun _ => hdone m1 _ g1 g2 (fun e he _ => g3 e (by omega))) (fun h => absurd h (by omega))
            | succ p ihp =>
              intro a m1 hap ha g1 g2 g3
              have hR1 : RCf w d l 5 mv st vi be ex m1 := RCf_same hR g1.2.2.1 (g1.2.1 31 (by decide) (by decide) (by decide) (by decide))
              obtain ⟨⟨-, -, u12, -, u14⟩, -⟩ := id hR1
              have hwe := we_step hR hy hk4 (a := a) (by omega)
              rw [if_neg (by decide)] at hwe
              have hbw : 0 ≤ bw be a k ∧ bw be a k ≤ 2048 * 99 := by unfold bw; split <;> omega
              refine kW_go ok_X7_comeFrom [7, 8] 20 ?_
              show (5 ≤ a → _) ∧ (a < 5 → inR (fr * 5) ∧ inR (fr * 5 + a) ∧ inR (V + 2048 * ex y + m1 30 12) ∧ kCall (eX X) 1 M_X7_bendFrom.1 [vR 30, vI a, vI k] m1 _)
              rw [u12]
              refine And.intro (fun h => absurd h (by omega)) (fun _ => ⟨by constructor <;> omega, by constructor <;> omega, by constructor <;> omega, ?_⟩)
              refine kCall_mono (c_X7_bendFrom X m1 be a k u14) (Nat.le_of_ble_eq_true rfl) ?_
              rintro _ m1 ⟨rfl, rfl⟩
              show inR (V + 2048 * ex y + m1 30 12 + bw be a k) ∧ kCall (eX X) 1 M_X7_offer.1 [vR 30, vI (fr * 5 + a), vI (V + 2048 * ex y + m1 30 12 + bw be a k)] m1 _
              rw [u12]
              refine ⟨by constructor <;> omega, ?_⟩
              refine kCall_mono (c_X7_offer X _ S (fr * 5 + a) (V + 2048 * ex y + (2048 * st + 1) + bw be a k) h324 hSb g1.1 (hsf a (by omega))) (Nat.le_of_ble_eq_true rfl) ?_
              rintro _ m2 ⟨rfl, hp⟩
              rw [show V + 2048 * ex y + (2048 * st + 1) + bw be a k = V + we 5 st vi be ex a k y by omega] at hp
              obtain ⟨q1, q2, q3⟩ := hoff a _ m2 (by omega) (by rw [hlb]; exact hkb) g1 hp
              refine ⟨by constructor <;> omega, ihp (a + 1) m2 (by omega) (by omega) q1 (fun t => Int.le_trans (q3 t) (g2 t)) (fun e he => ?_)⟩
              by_cases hea : e = a
              · rw [hea]; exact q2
              · exact Int.le_trans (q3 _) (g3 e (by omega))
          exact lanes 5 0 m' (by omega) (by omega) hJ (fun t => Int.le_refl _) (fun e he => absurd he (by omega))
  have hfinal : kW (eX X) 1 M_X7_comeFrom T 3 [some (vR 30), some (vI s), some (vI y), some (vI b), some (vI (V + 2048 * ex y)), some (vI 0), none, none] [] m := loop mv.toNat 0 m none none (by have := hR.2.2.1; omega) (by omega) (ofJ_rf hH) (fun x a j hj hE => by have := hE.2.1; omega)
  have hstb : 0 ≤ s ∧ s < ((nC X * 5 : Nat) : Int) := by rw [hS, hs] at hst; omega
  have e31 : m 31 y = ex y := hR.2.2.2.2.1 y
  have esh : kshl (ex y) 11 = 2048 * ex y := by
    have := k_shl_mul (a := ex y) hex.1 11 (by decide) (by omega)
    rw [show ((11 : Nat) : Int) = 11 from rfl] at this
    rw [this]; omega
  have g10 : m 30 10 = L := hR.1.1
  rcases hL15 with rfl | rfl
  · have hsy : s = y := by omega
    rw [hsy] at hfinal hV hstb ⊢
    have hb0 : b = 0 := by omega
    rw [hb0] at hfinal
    refine kW_go ok_X7_comeFrom [3] 20 ?_
    show (¬ m 30 10 = 1 → _) ∧ (m 30 10 = 1 → inR (y * m 30 10) ∧ inR (y - y * m 30 10) ∧ (0 ≤ y ∧ y < ((nC X * 5 : Nat) : Int)) ∧ (0 ≤ y ∧ y < (nC X : Int)) ∧ inR (m 34 y + kshl (m 31 y) 11) ∧ kW (eX X) 1 M_X7_comeFrom T 3 [some (vR 30), some (vI y), some (vI y), some (vI (y - y * m 30 10)), some (vI (m 34 y + kshl (m 31 y) 11)), some (vI 0), none, none] [] m)
    rw [g10, e31, esh, hV, show y - y * 1 = 0 by omega]
    exact And.intro (fun h => absurd rfl h) (fun _ => ⟨by constructor <;> omega, by constructor <;> omega, hstb, hyb, by constructor <;> omega, hfinal⟩)
  · have hdv : s.tdiv 5 = y := by rw [Int.tdiv_eq_ediv_of_nonneg hstb.1]; omega
    refine kW_go ok_X7_comeFrom [3] 20 ?_
    show (¬ m 30 10 = 1 → ¬ (5 : Int) = 0 ∧ inR (s.tdiv 5) ∧ inR (s.tdiv 5 * m 30 10) ∧ inR (s - s.tdiv 5 * m 30 10) ∧ (0 ≤ s ∧ s < ((nC X * 5 : Nat) : Int)) ∧ (0 ≤ s.tdiv 5 ∧ s.tdiv 5 < (nC X : Int)) ∧ inR (m 34 s + kshl (m 31 (s.tdiv 5)) 11) ∧ kW (eX X) 1 M_X7_comeFrom T 3 [some (vR 30), some (vI s), some (vI (s.tdiv 5)), some (vI (s - s.tdiv 5 * m 30 10)), some (vI (m 34 s + kshl (m 31 (s.tdiv 5)) 11)), some (vI 0), none, none] [] m) ∧ (m 30 10 = 1 → _)
    rw [g10, hdv, e31, esh, hV, show s - y * 5 = b by omega]
    exact And.intro (fun _ => ⟨by decide, by constructor <;> omega, by constructor <;> omega, by constructor <;> omega, hstb, hyb, by constructor <;> omega, hfinal⟩) (fun h => absurd h (by decide))
