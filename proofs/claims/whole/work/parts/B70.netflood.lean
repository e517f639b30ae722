/-! NETLIST: the class's parts of joined copper -/
/-- a net has a move from a cell -/
def mvK (w d l : Int) (c : Mem) (x k : Int) : Prop := ∃ o : Int, (0 ≤ o ∧ o < c 9 14) ∧ (bt (c 18 (o * (w * d * l) + x)) k.toNat = true ∨ bt (c 19 (o * (w * d * l) + x)) k.toNat = true)
/-- one move of any net -/
def stN (w d l : Int) (c : Mem) (a b : Int) : Prop := ∃ k : Int, (0 ≤ k ∧ k < 6) ∧ nx w d l a k = b ∧ b ≠ -1 ∧ mvK w d l c a k
theorem stN_in {w d l : Int} {c : Mem} {a b : Int} (h : stN w d l c a b) : inC w d l b := by
  obtain ⟨k, hk, hn, hne, -⟩ := h
  rw [← hn]
  exact (nx_in (by rw [hn]; exact hne)).1
theorem stN_sym {w d l : Int} {c r : Mem} (hD : okD w d l) (hM : WM w d l c) (hR : ∀ n : Int, (0 ≤ n ∧ n < 8) → RRn w d l c r n) {a b : Int} (ha : inC w d l a) (h : stN w d l c a b) : stN w d l c b a := by
  have h8 := hM.1.2.1
  obtain ⟨k, hk, hn, hne, o, ho, hb⟩ := h
  have hne' : nx w d l a k ≠ -1 := by rw [hn]; exact hne
  have hop := nx_opp hD ha hk hne'
  have hno := nx_opp_ne hD ha hk hne'
  rw [hn] at hop hno
  have hRo := hR o (by omega)
  have hbi : inC w d l b := by rw [← hn]; exact (nx_in hne').1
  refine ⟨oppF k, opp_in hk, hop, by have := ha.1; omega, o, ho, ?_⟩
  rcases hb with hb | hb
  · have h1 := (hRo.1.2 a k ha hk hne').mp hb
    rw [← eds_opp hD ha hk hne', hn] at h1
    exact Or.inl ((hRo.1.2 b (oppF k) hbi (opp_in hk) hno).mpr h1)
  · have h1 := (hRo.2.2.1.2 a k ha hk hne').mp hb
    rw [← eds_opp hD ha hk hne', hn] at h1
    exact Or.inr ((hRo.2.2.1.2 b (oppF k) hbi (opp_in hk) hno).mpr h1)
theorem RchN_sym {w d l : Int} {c : Mem} (hs : ∀ a b, inC w d l a → stN w d l c a b → stN w d l c b a) {a b : Int} (ha : inC w d l a) (h : Rch (stN w d l c) a b) : inC w d l b ∧ Rch (stN w d l c) b a := by
  refine Rch_ind (P := fun e => inC w d l e ∧ Rch (stN w d l c) e a) ?_ ⟨ha, Rch_rf⟩ h
  rintro x y ⟨hx, hr⟩ hst
  exact ⟨stN_in hst, Rch_tr (Rch_to Rch_rf (hs x y hx hst)) hr⟩
theorem stN_cu {w d l : Int} {c : Mem} (hM : WM w d l c) {a b : Int} (ha : inC w d l a) (h : stN w d l c a b) : ∃ o : Int, (0 ≤ o ∧ o < c 9 14) ∧ cuN c o a := by
  have h8 := hM.1.2.1
  obtain ⟨k, hk, hn, hne, o, ho, hb⟩ := h
  refine ⟨o, ho, ?_⟩
  have hW := (hM.2.2.1 o (by omega)).1 a ha
  have hnz : ∀ v : Int, bt v k.toNat = true → v ≠ 0 := by
    intro v h e
    rw [e, bt_zero] at h
    cases h
  rcases hb with hb | hb
  · exact Or.inl (hW.2.2.2.mpr (Or.inl (hnz _ hb)))
  · exact Or.inr (hW.2.2.1.mpr (hnz _ hb))
theorem c_X0_allMovesAt (X : Xv) (m : Mem) {w d l : Int} (hB : Bd X w d l m) (hM : WM w d l m) (x : Int) (hx : inC w d l x) : kCall (eX X) 2 M_X0_allMovesAt.1 [vR 46, vI x] m (fun r m' => (∃ v, r = some (vI v) ∧ inR v ∧ ∀ k : Int, (0 ≤ k ∧ k < 6) → (bt v k.toNat = true ↔ mvK w d l m x k)) ∧ m' = m) := by
  obtain ⟨hD, hN, hG⟩ := id hB
  have hc4 := okD_cells hD
  have h8 := hM.1.2.1
  have hxb : 0 ≤ x ∧ x < (nC X : Int) := by obtain ⟨a, b⟩ := hx; omega
  refine kCall_ofT ok_X0_allMovesAt rfl (Nat.le_of_ble_eq_true rfl) (fun T hT => ?_)
  have loop : ∀ (q : Nat) (o v : Int), o + q = m 9 14 → 0 ≤ o → inR v → (∀ k : Int, (0 ≤ k ∧ k < 6) → (bt v k.toNat = true ↔ ∃ j : Int, (0 ≤ j ∧ j < o) ∧ (bt (m 18 (j * (w * d * l) + x)) k.toNat = true ∨ bt (m 19 (j * (w * d * l) + x)) k.toNat = true))) → kW (eX X) 1 M_X0_allMovesAt T 1 [some (vR 46), some (vI x), some (vI v), some (vI o)] [] m := by
    intro q
    induction q with
    | zero =>
      intro o v hq h0 hv hb
      have ho : o = m 9 14 := by omega
      refine kW_go ok_X0_allMovesAt [1] 20 ?_
      refine And.intro (fun _ => hT _ _ ⟨⟨v, rfl, hv, fun k hk => ?_⟩, rfl⟩) (fun h => ?_)
      · rw [hb k hk, ho]
        exact Iff.rfl
      · have h : o < m 9 14 := h
        omega
    | succ q ih =>
      intro o v hq h0 hv hb
      refine kW_go ok_X0_allMovesAt [1] 20 ?_
      refine And.intro (fun h => ?_) (fun _ => ?_)
      · have h : m 9 14 ≤ o := h
        omega
      · refine kCall_mono (c_X3_movesAt X m o x (by omega) (hG.2.2.2.2.1.trans hN) (by omega) hxb) (Nat.le_of_ble_eq_true rfl) ?_
        rintro _ m2 ⟨rfl, rfl⟩
        refine ⟨by constructor <;> omega, ih (o + 1) _ (by omega) (by omega) (k_in_kor _ _) (fun k hk => ?_)⟩
        rw [bt_or, bt_or, Bool.or_eq_true, Bool.or_eq_true, hb k hk, ← hN]
        constructor
        · rintro (⟨j, hj, z⟩ | z)
          · exact ⟨j, by omega, z⟩
          · exact ⟨o, by omega, z⟩
        · rintro ⟨j, hj, z⟩
          by_cases e : j = o
          · rw [e] at z; exact Or.inr z
          · exact Or.inl ⟨j, by omega, z⟩
  refine kW_go ok_X0_allMovesAt [1] 20 ?_
  exact loop (m 9 14).toNat 0 0 (by omega) (by omega) (by decide) (fun k hk => by
    rw [bt_zero]
    exact ⟨fun z => (by cases z), fun ⟨j, hj, _⟩ => by omega⟩)
/-- one move of any net into a cell without a label -/
def stLb (w d l : Int) (m : Mem) (a b : Int) : Prop := stN w d l m a b ∧ m 48 b = -1
theorem mvK_same {w d l : Int} {c m : Mem} (h9 : m 9 14 = c 9 14) (h18 : m 18 = c 18) (h19 : m 19 = c 19) (x k : Int) : mvK w d l m x k ↔ mvK w d l c x k := by
  unfold mvK
  rw [h9, h18, h19]
theorem cuN_same {c m : Mem} (h16 : m 16 = c 16) (h17 : m 17 = c 17) (n x : Int) : cuN m n x ↔ cuN c n x := by
  unfold cuN
  rw [h16, h17]
theorem flg_add {f g : Int → Int} {N : Nat} {i : Int} (hi : 0 ≤ i ∧ i < N) (hf : f i = 0) (hg : g i ≠ 0) (h : ∀ c, c ≠ i → g c = f c) : sumN (flg g) N = sumN (flg f) N + 1 := by
  rw [sumN_set (f := flg f) (g := flg g) hi (fun c hc => by unfold flg; rw [h c hc])]
  unfold flg
  rw [hf, if_pos rfl, if_neg hg]
  rfl
theorem WM_o {w d l : Int} {c c' : Mem} (h : ∀ o, 9 ≤ o → o ≤ 19 → c' o = c o) (hM : WM w d l c) : WM w d l c' :=
  ⟨WFs_o (fun o a b => h o a (by omega)) hM.1, WFp_o (by rw [h 9 (by decide) (by decide)]) (h 13 (by decide) (by decide)) (h 14 (by decide) (by decide)) hM.2.1, fun n hn => WFn_o (by rw [h 9 (by decide) (by decide)]) (fun o a b _ => h o (by omega) b) (hM.2.2.1 n hn), fun x hx => by rw [h 16 (by decide) (by decide), h 17 (by decide) (by decide)]; exact hM.2.2.2 x hx⟩
set_option maxRecDepth 100000 in
theorem c_X0_joinFrom (X : Xv) (m : Mem) {w d l : Int} (hB : Bd X w d l m) (hM : WM w d l m) (a lb : Int) (ha : inC w d l a) (hlb : m 46 8 = lb) (hlb0 : 0 ≤ lb ∧ lb ≤ 324) (h0a : m 48 a = -1) : kCall (eX X) 3 M_X0_joinFrom.1 [vR 46, vI a] m (fun r m' => ∃ v : Int, r = some (vI v) ∧ (0 ≤ v ∧ v < 256) ∧ (∀ o : Nat, o < 8 → (bt v o = true ↔ ∃ x, Rch (stLb w d l m) a x ∧ cuN m (o : Int) x)) ∧ (∀ o, o ≠ 48 → o ≠ 49 → m' o = m o) ∧ ∀ x, (Rch (stLb w d l m) a x → m' 48 x = lb) ∧ (¬ Rch (stLb w d l m) a x → m' 48 x = m 48 x)) := by
  obtain ⟨hD, hN, hG⟩ := id hB
  have hcc := okD_cells hD
  have hac : 0 ≤ a ∧ a < (nC X : Int) := by obtain ⟨p, q⟩ := ha; omega
  have g4 : m 1 4 = (nC X : Int) := hG.2.2.2.2.1.trans hN
  have hWM : ∀ m' : Mem, (∀ o, o ≠ 48 → o ≠ 49 → m' o = m o) → WM w d l m' := fun m' h => WM_o (fun o a b => h o (by omega) (by omega)) hM
  have hBd : ∀ m' : Mem, (∀ o, o ≠ 48 → o ≠ 49 → m' o = m o) → Bd X w d l m' := fun m' h => Bd_same hB (fun o a b => h o (by omega) (by omega))
  refine kCall_ofT ok_X0_joinFrom rfl (Nat.le_of_ble_eq_true rfl) (fun T hT => ?_)
  have hsum : ∀ f : Int → Int, 0 ≤ sumN (flg f) (nC X) ∧ sumN (flg f) (nC X) ≤ (nC X : Int) := fun f => by have := sumN_le (flg_in f) (nC X); omega
  obtain ⟨J, hJd⟩ : ∃ J : Int → Mem → Prop, ∀ q m', J q m' ↔ (1 ≤ q ∧ (∀ o, o ≠ 48 → o ≠ 49 → m' o = m o) ∧ (∀ j : Int, (0 ≤ j ∧ j < q) → inC w d l (m' 49 j) ∧ Rch (stLb w d l m) a (m' 49 j)) ∧ (∀ x, ((∃ j : Int, (0 ≤ j ∧ j < q) ∧ m' 49 j = x) → m' 48 x = lb) ∧ (¬ (∃ j : Int, (0 ≤ j ∧ j < q) ∧ m' 49 j = x) → m' 48 x = m 48 x)) ∧ (∃ j : Int, (0 ≤ j ∧ j < q) ∧ m' 49 j = a) ∧ sumN (flg (fun x => m' 48 x + 1)) (nC X) = sumN (flg (fun x => m 48 x + 1)) (nC X) + q) := ⟨_, fun _ _ => Iff.rfl⟩
  obtain ⟨C, hCd⟩ : ∃ C : Int → Int → Mem → Prop, ∀ i k m', C i k m' ↔ (∀ j : Int, (0 ≤ j ∧ j < i) → ∀ e : Int, (0 ≤ e ∧ e < 6) → nx w d l (m' 49 j) e ≠ -1 → mvK w d l m (m' 49 j) e → m' 48 (nx w d l (m' 49 j) e) ≠ -1) ∧ (∀ e : Int, (0 ≤ e ∧ e < k) → nx w d l (m' 49 i) e ≠ -1 → mvK w d l m (m' 49 i) e → m' 48 (nx w d l (m' 49 i) e) ≠ -1) := ⟨_, fun _ _ _ => Iff.rfl⟩
  obtain ⟨A, hAd⟩ : ∃ A : Int → Int → Mem → Prop, ∀ i v m', A i v m' ↔ ((0 ≤ v ∧ v < 256) ∧ ∀ o : Nat, o < 8 → (bt v o = true ↔ ∃ j : Int, (0 ≤ j ∧ j < i) ∧ cuN m (o : Int) (m' 49 j))) := ⟨_, fun _ _ _ => Iff.rfl⟩
  have hqN : ∀ q m', J q m' → q ≤ (nC X : Int) := by
    intro q m' hj
    have h := ((hJd _ _).mp hj).2.2.2.2.2
    have := hsum (fun x => m' 48 x + 1)
    have := hsum (fun x => m 48 x + 1)
    omega
  have inner : ∀ (i v mv : Int), 0 ≤ i → (∀ q m' x6 x7, i < q → J q m' → C (i + 1) 0 m' → A (i + 1) v m' → kW (eX X) 2 M_X0_joinFrom T 4 [some (vR 46), some (vI a), some (vI q), some (vI v), some (vI i), some (vI mv), x6, x7] [] m') →
      ∀ (k : Nat) (e q : Int) (m' : Mem) (x7 : Option AV), e + k = 6 → 0 ≤ e → i < q → J q m' → C i e m' → A (i + 1) v m' → (∀ k : Int, (0 ≤ k ∧ k < 6) → (bt mv k.toNat = true ↔ mvK w d l m (m' 49 i) k)) → kW (eX X) 2 M_X0_joinFrom T 2 [some (vR 46), some (vI a), some (vI q), some (vI v), some (vI i), some (vI mv), some (vI e), x7] [] m' := by
    intro i v mv hi hout k
    induction k with
    | zero =>
      intro e q m' x7 hk he hq hj hc hA hmv
      refine kW_go ok_X0_joinFrom [4] 20 ?_
      refine And.intro (fun _ => hout q m' _ _ hq hj ((hCd _ _ _).mpr ⟨fun j hj' e' he' => ?_, fun e' he' => by omega⟩) hA) (fun h => absurd h (by omega))
      have hc' := (hCd _ _ _).mp hc
      by_cases hji : j = i
      · rw [hji]; exact hc'.2 e' (by omega)
      · exact hc'.1 j (by omega) e' he'
    | succ k ih =>
      intro e q m' x7 hk he hq hj hc hA hmv
      obtain ⟨q1, hf, hrow, hre, hain, hsm⟩ := (hJd _ _).mp hj
      have hc' := (hCd _ _ _).mp hc
      have hA' := (hAd _ _ _).mp hA
      have hqN1 := hqN q m' hj
      have hcell := (hrow i ⟨hi, hq⟩).1
      have hcb : 0 ≤ m' 49 i ∧ m' 49 i < (nC X : Int) := by obtain ⟨p1, p2⟩ := hcell; omega
      have hnx : m 2 (m' 49 i * 6 + e) = nx w d l (m' 49 i) e := (hG.2.2.2.2.2 _ hcell).2.2.2 e he (by omega)
      have f2 : m' 2 = m 2 := hf 2 (by decide) (by decide)
      have f46 : fld m' 46 8 = lb := by
        show m' 46 8 = lb
        rw [hf 46 (by decide) (by decide)]
        exact hlb
      have hask := k_ask (v := mv) (n := e) he (by omega)
      have hend : ∀ (q' : Int) (m4 : Mem), i < q' → J q' m4 → C i (e + 1) m4 → A (i + 1) v m4 → m4 49 i = m' 49 i → kW (eX X) 2 M_X0_joinFrom T 3 [some (vR 46), some (vI a), some (vI q'), some (vI v), some (vI i), some (vI mv), some (vI e), some (vI (nx w d l (m' 49 i) e))] [] m4 := by
        intro q' m4 h1 h2 h3 h4 h5
        refine kW_go ok_X0_joinFrom [2] 20 ?_
        exact ⟨by constructor <;> omega, ih (e + 1) q' m4 _ (by omega) (by omega) h1 h2 h3 h4 (by rw [h5]; exact hmv)⟩
      have hsame : (nx w d l (m' 49 i) e ≠ -1 → mvK w d l m (m' 49 i) e → m' 48 (nx w d l (m' 49 i) e) ≠ -1) → C i (e + 1) m' := by
        intro h
        refine (hCd _ _ _).mpr ⟨hc'.1, fun e' he' => ?_⟩
        by_cases hee : e' = e
        · rw [hee]; exact h
        · exact hc'.2 e' (by omega)
      refine kW_go ok_X0_joinFrom [3] 20 ?_
      show (6 ≤ e → _) ∧ (e < 6 → (0 ≤ i ∧ i < (nC X : Int)) ∧ inR (m' 49 i * 6) ∧ inR (m' 49 i * 6 + e) ∧ (0 ≤ m' 49 i * 6 + e ∧ m' 49 i * 6 + e < ((nC X * 6 : Nat) : Int)) ∧ (kand (kshr mv e) 1 = 0 → kW (eX X) 2 M_X0_joinFrom T 3 [some (vR 46), some (vI a), some (vI q), some (vI v), some (vI i), some (vI mv), some (vI e), some (vI (m' 2 (m' 49 i * 6 + e)))] [] m') ∧ (¬ kand (kshr mv e) 1 = 0 → (m' 2 (m' 49 i * 6 + e) = -1 → kW (eX X) 2 M_X0_joinFrom T 3 [some (vR 46), some (vI a), some (vI q), some (vI v), some (vI i), some (vI mv), some (vI e), some (vI (m' 2 (m' 49 i * 6 + e)))] [] m') ∧ (¬ m' 2 (m' 49 i * 6 + e) = -1 → (0 ≤ m' 2 (m' 49 i * 6 + e) ∧ m' 2 (m' 49 i * 6 + e) < (nC X : Int)) ∧ (¬ m' 48 (m' 2 (m' 49 i * 6 + e)) = -1 → kW (eX X) 2 M_X0_joinFrom T 3 [some (vR 46), some (vI a), some (vI q), some (vI v), some (vI i), some (vI mv), some (vI e), some (vI (m' 2 (m' 49 i * 6 + e)))] [] m') ∧ (m' 48 (m' 2 (m' 49 i * 6 + e)) = -1 → (0 ≤ m' 2 (m' 49 i * 6 + e) ∧ m' 2 (m' 49 i * 6 + e) < (nC X : Int)) ∧ (0 ≤ q ∧ q < (nC X : Int)) ∧ inR (q + 1) ∧ kW (eX X) 2 M_X0_joinFrom T 3 [some (vR 46), some (vI a), some (vI (q + 1)), some (vI v), some (vI i), some (vI mv), some (vI e), some (vI (m' 2 (m' 49 i * 6 + e)))] [] (mset (mset m' 48 (m' 2 (m' 49 i * 6 + e)) (fld m' 46 8)) 49 q (m' 2 (m' 49 i * 6 + e)))))))
      rw [f2, hnx, f46]
      refine ⟨fun h => absurd h (by omega), fun _ => ⟨by omega, by constructor <;> omega, by constructor <;> omega, by constructor <;> omega, fun h => hend q m' hq hj (hsame (fun _ z => ?_)) hA rfl, fun h0 => ⟨fun h => hend q m' hq hj (hsame (fun z => absurd h z)) hA rfl, fun h => ?_⟩⟩⟩
      · rw [k_ask0 he (by omega)] at h
        have := (hmv e (by omega)).mpr z
        rw [h] at this
        cases this
      · have hmvk : mvK w d l m (m' 49 i) e := (hmv e (by omega)).mp ((k_ask_ne he (by omega)).mp h0)
        have hti := (nx_in h).1
        have htb : 0 ≤ nx w d l (m' 49 i) e ∧ nx w d l (m' 49 i) e < (nC X : Int) := by obtain ⟨p1, p2⟩ := hti; omega
        refine ⟨htb, fun h3 => hend q m' hq hj (hsame (fun _ _ => h3)) hA rfl, fun h3 => ?_⟩
        generalize ht : nx w d l (m' 49 i) e = t at *
        have hnr : ¬ ∃ j : Int, (0 ≤ j ∧ j < q) ∧ m' 49 j = t := fun z => by
          have := (hre t).1 z
          omega
        have hold : m 48 t = -1 := by rw [← (hre t).2 hnr]; exact h3
        have hst : stLb w d l m (m' 49 i) t := ⟨⟨e, by omega, ht, h, hmvk⟩, hold⟩
        have e48 : ∀ c, mset (mset m' 48 t lb) 49 q t 48 c = if c = t then lb else m' 48 c := fun c => by rw [k_mset_ne (by decide), k_mset_at]
        have e49 : ∀ j, mset (mset m' 48 t lb) 49 q t 49 j = if j = q then t else m' 49 j := fun j => by rw [k_mset_at, k_mset_ne (show (49 : Nat) ≠ 48 by decide)]
        have hsum' : sumN (flg (fun x => mset (mset m' 48 t lb) 49 q t 48 x + 1)) (nC X) = sumN (flg (fun x => m' 48 x + 1)) (nC X) + 1 := by
          exact flg_add htb (show m' 48 t + 1 = 0 by omega) (by
            show mset (mset m' 48 t lb) 49 q t 48 t + 1 ≠ 0
            rw [e48, if_pos rfl]
            omega) (fun c hc => by
            show mset (mset m' 48 t lb) 49 q t 48 c + 1 = m' 48 c + 1
            rw [e48, if_neg hc])
        have hqN' : q < (nC X : Int) := by
          have := hsum (fun x => mset (mset m' 48 t lb) 49 q t 48 x + 1)
          have := hsum (fun x => m 48 x + 1)
          omega
        refine ⟨htb, ⟨by omega, hqN'⟩, by constructor <;> omega, hend (q + 1) _ (by omega) ((hJd _ _).mpr ⟨by omega, fun o a b => by rw [k_mset_ne b, k_mset_ne a]; exact hf o a b, fun j hj'' => ?_, fun c => ?_, ?_, by rw [hsum', hsm]; omega⟩) ((hCd _ _ _).mpr ⟨fun j hj'' e' he' => ?_, fun e' he' => ?_⟩) ((hAd _ _ _).mpr ⟨hA'.1, fun o ho => ?_⟩) (by rw [e49, if_neg (by omega)])⟩
        · rw [e49]
          by_cases hjq : j = q
          · rw [if_pos hjq]; exact ⟨hti, Rch_to (hrow i ⟨hi, hq⟩).2 hst⟩
          · rw [if_neg hjq]; exact hrow j (by omega)
        · rw [e48]
          have hex : (∃ j : Int, (0 ≤ j ∧ j < q + 1) ∧ mset (mset m' 48 t lb) 49 q t 49 j = c) ↔ c = t ∨ ∃ j : Int, (0 ≤ j ∧ j < q) ∧ m' 49 j = c := by
            constructor
            · rintro ⟨j, z1, z2⟩
              rw [e49] at z2
              by_cases hjq : j = q
              · rw [if_pos hjq] at z2; exact Or.inl z2.symm
              · rw [if_neg hjq] at z2; exact Or.inr ⟨j, by omega, z2⟩
            · rintro (z | ⟨j, z1, z2⟩)
              · exact ⟨q, by omega, by rw [e49, if_pos rfl, z]⟩
              · exact ⟨j, by omega, by rw [e49, if_neg (by omega)]; exact z2⟩
          rw [hex]
          by_cases hct : c = t
          · rw [if_pos hct]
            exact ⟨fun _ => rfl, fun z => absurd (Or.inl hct) z⟩
          · rw [if_neg hct]
            exact ⟨fun z => (hre c).1 (z.resolve_left hct), fun z => (hre c).2 (fun y => z (Or.inr y))⟩
        · obtain ⟨j, z1, z2⟩ := hain
          exact ⟨j, by omega, by rw [e49, if_neg (by omega)]; exact z2⟩
        · rw [e49, if_neg (by omega), e48]
          intro z1 z2
          split
          · omega
          · exact hc'.1 j hj'' e' he' z1 z2
        · rw [e49, if_neg (by omega), e48]
          intro z1 z2
          split
          · omega
          · rename_i hct
            by_cases hee : e' = e
            · rw [hee] at hct; exact absurd ht hct
            · exact hc'.2 e' (by omega) z1 z2
        · rw [hA'.2 o ho]
          constructor
          · rintro ⟨j, z1, z2⟩
            exact ⟨j, z1, by rw [e49, if_neg (by omega)]; exact z2⟩
          · rintro ⟨j, z1, z2⟩
            rw [e49, if_neg (by omega)] at z2
            exact ⟨j, z1, z2⟩
  have outer : ∀ (k : Nat) (i q v : Int) (m' : Mem) (x5 x6 x7 : Option AV), i + k = (nC X : Int) → 0 ≤ i → i ≤ q → J q m' → C i 0 m' → A i v m' → kW (eX X) 2 M_X0_joinFrom T 1 [some (vR 46), some (vI a), some (vI q), some (vI v), some (vI i), x5, x6, x7] [] m' := by
    intro k
    have hfin : ∀ (q v : Int) (m' : Mem), J q m' → C q 0 m' → A q v m' → T (some (vI v)) m' := by
      intro q v m' hj hc hA
      obtain ⟨q1, hf, hrow, hre, hain, hsm⟩ := (hJd _ _).mp hj
      have hc' := (hCd _ _ _).mp hc
      have hA' := (hAd _ _ _).mp hA
      have hall : ∀ c, (∃ j : Int, (0 ≤ j ∧ j < q) ∧ m' 49 j = c) ↔ Rch (stLb w d l m) a c := by
        intro c
        constructor
        · rintro ⟨j, z1, rfl⟩
          exact (hrow j z1).2
        · intro z
          refine Rch_ind (P := fun c => ∃ j : Int, (0 ≤ j ∧ j < q) ∧ m' 49 j = c) ?_ hain z
          rintro c b ⟨j, z1, rfl⟩ ⟨⟨e, z2, rfl, z3, z4⟩, z5⟩
          have z6 := hc'.1 j z1 e z2 z3 z4
          refine Classical.byContradiction (fun z7 => z6 ?_)
          rw [(hre _).2 z7]
          exact z5
      refine hT _ _ ⟨v, rfl, hA'.1, fun o ho => ?_, hf, fun x => ?_⟩
      · rw [hA'.2 o ho]
        constructor
        · rintro ⟨j, z1, z2⟩
          exact ⟨_, (hall _).mp ⟨j, z1, rfl⟩, z2⟩
        · rintro ⟨x, z1, z2⟩
          obtain ⟨j, z3, z4⟩ := (hall _).mpr z1
          exact ⟨j, z3, by rw [z4]; exact z2⟩
      · rw [← hall]
        exact hre x
    induction k with
    | zero =>
      intro i q v m' x5 x6 x7 hk h0 hq hj hc hA
      have := hqN q m' hj
      have : i = q := by omega
      subst this
      refine kW_go ok_X0_joinFrom [1] 20 ?_
      exact And.intro (fun _ => hfin i v m' hj hc hA) (fun h => absurd h (by omega))
    | succ k ih =>
      intro i q v m' x5 x6 x7 hk h0 hq hj hc hA
      obtain ⟨q1, hf, hrow, hre, hain, hsm⟩ := (hJd _ _).mp hj
      have hA' := (hAd _ _ _).mp hA
      have h1 : m' 1 = m 1 := hf 1 (by decide) (by decide)
      refine kW_go ok_X0_joinFrom [1, 2] 20 ?_
      refine And.intro (fun h => ?_) (fun h => And.intro (fun h2 => ?_) (fun _ => ?_))
      · have : i = q := by omega
        subst this
        exact hfin i v m' hj hc hA
      · have h2 : m' 1 4 ≤ i := h2
        rw [h1, g4] at h2
        omega
      · have h : i < q := h
        have hcell := (hrow i ⟨h0, h⟩).1
        have hcb : 0 ≤ m' 49 i ∧ m' 49 i < (nC X : Int) := by obtain ⟨p1, p2⟩ := hcell; omega
        have hib : 0 ≤ i ∧ i < (nC X : Int) := by omega
        refine ⟨hib, ?_⟩
        refine kCall_mono (c_X3_copperAt X m' (m' 49 i) hcb) (Nat.le_of_ble_eq_true rfl) ?_
        rintro _ m2 ⟨rfl, rfl⟩
        refine ⟨hib, ?_⟩
        refine kCall_mono (c_X0_allMovesAt X m2 (hBd m2 hf) (hWM m2 hf) (m2 49 i) hcell) (Nat.le_of_ble_eq_true rfl) ?_
        rintro _ m3 ⟨⟨mv, rfl, hmv0, hmv⟩, rfl⟩
        have hcell8 := (hWM m3 hf).2.2.2 _ hcell
        refine inner i (kor v (kor (m3 16 (m3 49 i)) (m3 17 (m3 49 i)))) mv h0 (fun q' m4 y6 y7 z1 z2 z3 z4 => ?_) 6 0 q m3 _ (by omega) (by omega) h hj hc ((hAd _ _ _).mpr ⟨kor8 hA'.1 (kor8 hcell8.1 hcell8.2), fun o ho => ?_⟩) (fun k hk => ?_)
        · refine kW_go ok_X0_joinFrom [1] 20 ?_
          exact ⟨by constructor <;> omega, ih (i + 1) q' _ m4 _ _ _ (by omega) (by omega) (by omega) z2 z3 z4⟩
        · rw [bt_or, Bool.or_eq_true, hA'.2 o ho, bt_or, Bool.or_eq_true, hf 16 (by decide) (by decide), hf 17 (by decide) (by decide)]
          have hcu : (bt (m 16 (m3 49 i)) o = true ∨ bt (m 17 (m3 49 i)) o = true) ↔ cuN m (o : Int) (m3 49 i) := by
            unfold cuN
            rw [Int.toNat_natCast]
          rw [hcu]
          constructor
          · rintro (⟨j, z1, z2⟩ | z)
            · exact ⟨j, by omega, z2⟩
            · exact ⟨i, by omega, z⟩
          · rintro ⟨j, z1, z2⟩
            by_cases e : j = i
            · rw [e] at z2; exact Or.inr z2
            · exact Or.inl ⟨j, by omega, z2⟩
        · rw [hmv k hk]
          exact mvK_same (by rw [hf 9 (by decide) (by decide)]) (hf 18 (by decide) (by decide)) (hf 19 (by decide) (by decide)) _ _
  have e48 : ∀ c, mset (mset m 48 a lb) 49 0 a 48 c = if c = a then lb else m 48 c := fun c => by rw [k_mset_ne (by decide), k_mset_at]
  have e49 : mset (mset m 48 a lb) 49 0 a 49 0 = a := by rw [k_mset_at, if_pos rfl]
  have hpos : (0 : Int) < (nC X : Int) := by omega
  have hgo := outer (nC X) 0 1 0 (mset (mset m 48 a lb) 49 0 a) none none none (by omega) (by omega) (by omega) ((hJd _ _).mpr ⟨by omega, fun o z1 z2 => by rw [k_mset_ne z2, k_mset_ne z1], fun j hj => ?_, fun c => ?_, ⟨0, by omega, e49⟩, ?_⟩) ((hCd _ _ _).mpr ⟨fun j hj => by omega, fun e he => by omega⟩) ((hAd _ _ _).mpr ⟨by decide, fun o ho => by
    rw [bt_zero]
    exact ⟨fun z => (by cases z), fun ⟨j, hj, _⟩ => by omega⟩⟩)
  · refine kW_go ok_X0_joinFrom [1] 20 ?_
    show (0 ≤ a ∧ a < (nC X : Int)) ∧ (0 ≤ (0 : Int) ∧ (0 : Int) < (nC X : Int)) ∧ kW (eX X) 2 M_X0_joinFrom T 1 [some (vR 46), some (vI a), some (vI 1), some (vI 0), some (vI 0), none, none, none] [] (mset (mset m 48 a (m 46 8)) 49 0 a)
    rw [hlb]
    exact ⟨hac, ⟨by omega, hpos⟩, hgo⟩
  · have : j = 0 := by omega
    rw [this, e49]
    exact ⟨ha, Rch_rf⟩
  · rw [e48]
    have hex : (∃ j : Int, (0 ≤ j ∧ j < 1) ∧ mset (mset m 48 a lb) 49 0 a 49 j = c) ↔ c = a := by
      constructor
      · rintro ⟨j, z1, z2⟩
        have : j = 0 := by omega
        rw [this, e49] at z2
        exact z2.symm
      · rintro rfl
        exact ⟨0, by omega, e49⟩
    rw [hex]
    by_cases e : c = a
    · rw [if_pos e]
      exact ⟨fun _ => rfl, fun z => absurd e z⟩
    · rw [if_neg e]
      exact ⟨fun z => absurd z e, fun _ => rfl⟩
  · exact flg_add hac (show m 48 a + 1 = 0 by omega) (by
      show mset (mset m 48 a lb) 49 0 a 48 a + 1 ≠ 0
      rw [e48, if_pos rfl]
      omega) (fun c hc => by
      show mset (mset m 48 a lb) 49 0 a 48 c + 1 = m 48 c + 1
      rw [e48, if_neg hc])
