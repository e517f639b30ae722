/-! NETLIST: the reference's trees -/
def unF (ρ : Int → Int) (a b i : Int) : Int := if ρ i = ρ a then ρ b else ρ i
def UF (m : Mem) (ρ : Int → Int) : Prop := ∃ h : Int → Nat, ∀ i : Int, (0 ≤ i ∧ i < 2592) → (0 ≤ m 87 i ∧ m 87 i < 2592) ∧ (0 ≤ ρ i ∧ ρ i < 2592) ∧ m 87 (ρ i) = ρ i ∧ ρ (m 87 i) = ρ i ∧ (m 87 i = i → ρ i = i) ∧ (m 87 i ≠ i → h (m 87 i) < h i)
theorem c_X12_find (X : Xv) (m : Mem) (ρ : Int → Int) (hU : UF m ρ) (i : Int) (hi : 0 ≤ i ∧ i < 2592) : kCall (eX X) 1 M_X12_find.1 [vR 54, vI i] m (cP (ρ i) m) := by
  obtain ⟨h, hU⟩ := hU
  refine kCall_ofT ok_X12_find rfl (Nat.le_of_ble_eq_true rfl) (fun T hT => ?_)
  have loop : ∀ (N : Nat) (j : Int), (0 ≤ j ∧ j < 2592) → h j ≤ N → ρ j = ρ i → kW (eX X) 0 M_X12_find T 1 [some (vR 54), some (vI i), some (vI j)] [] m := by
    intro N
    induction N with
    | zero =>
      intro j hj hN hr
      have hjb : 0 ≤ j ∧ j < ((2592 : Nat) : Int) := hj
      obtain ⟨a1, a2, a3, a4, a5, a6⟩ := hU j hj
      refine kW_go ok_X12_find [1] 20 ?_
      refine ⟨hjb, And.intro (fun e => hT _ _ ⟨by rw [← hr, a5 e], rfl⟩) (fun e => ?_)⟩
      have := a6 e
      omega
    | succ N ih =>
      intro j hj hN hr
      have hjb : 0 ≤ j ∧ j < ((2592 : Nat) : Int) := hj
      obtain ⟨a1, a2, a3, a4, a5, a6⟩ := hU j hj
      refine kW_go ok_X12_find [1] 20 ?_
      refine ⟨hjb, And.intro (fun e => hT _ _ ⟨by rw [← hr, a5 e], rfl⟩) (fun e => ⟨hjb, ih _ a1 ?_ (by rw [a4, hr])⟩)⟩
      have := a6 e
      omega
  refine kW_go ok_X12_find [1] 20 ?_
  exact loop (h i) i hi (Nat.le_refl _) rfl
theorem UF_step {m : Mem} {ρ : Int → Int} (hU : UF m ρ) {a b : Int} (ha : 0 ≤ a ∧ a < 2592) (hb : 0 ≤ b ∧ b < 2592) : UF (mset m 87 (ρ a) (ρ b)) (unF ρ a b) := by
  obtain ⟨h, hU⟩ := hU
  obtain ⟨-, a2, a3, -, -, -⟩ := hU a ha
  obtain ⟨-, b2, b3, -, -, -⟩ := hU b hb
  have ra : ρ (ρ a) = ρ a := (hU _ a2).2.2.2.2.1 a3
  have rb : ρ (ρ b) = ρ b := (hU _ b2).2.2.2.2.1 b3
  have hm : ∀ i, mset m 87 (ρ a) (ρ b) 87 i = if i = ρ a then ρ b else m 87 i := fun i => by rw [k_mset_at]
  obtain ⟨H, hH⟩ : ∃ H : Int → Nat, ∀ i, H i = if ρ i = ρ a ∧ ρ a ≠ ρ b then h i + h (ρ b) + 1 else h i := ⟨_, fun _ => rfl⟩
  refine ⟨H, fun i hi => ?_⟩
  obtain ⟨i1, i2, i3, i4, i5, i6⟩ := hU i hi
  rw [hm, hm]
  unfold unF
  by_cases e : ρ i = ρ a
  · rw [if_pos e]
    have hmb : (if ρ b = ρ a then ρ b else m 87 (ρ b)) = ρ b := by
      split
      · rfl
      · exact b3
    rw [hmb]
    by_cases ei : i = ρ a
    · rw [if_pos ei, rb]
      refine ⟨b2, b2, rfl, by split <;> rfl, fun z => z, fun z => ?_⟩
      have hne : ρ a ≠ ρ b := fun q => z (by rw [ei]; exact q.symm)
      rw [hH, hH, if_neg (fun q => hne (q.1.symm.trans rb)), if_pos ⟨e, hne⟩]
      omega
    · rw [if_neg ei, i4, if_pos e]
      refine ⟨i1, b2, rfl, rfl, fun z => ?_, fun z => ?_⟩
      · exact absurd ((i5 z).symm.trans e) ei
      · have := i6 z
        rw [hH, hH, i4]
        split <;> omega
  · rw [if_neg e, if_neg e]
    have ei : i ≠ ρ a := fun z => e (by rw [z]; exact ra)
    rw [if_neg ei, i4, if_neg e]
    refine ⟨i1, i2, i3, rfl, i5, fun z => ?_⟩
    rw [hH, hH, i4, if_neg (fun q => e q.1), if_neg (fun q => e q.1)]
    exact i6 z
/-- two places of the trees with joined copper -/
def sameS (w d l : Int) (c : Mem) (i j : Int) : Prop := i = j ∨ ∃ x y, (inC w d l x ∧ inC w d l y) ∧ i % 324 = cR w d x ∧ j % 324 = cR w d y ∧ Rch (stN w d l c) x y
def KU (w d l : Int) (c m mm : Mem) (P : Int → Int → Prop) : Prop := (∀ o, o ≠ 87 → mm o = m o) ∧ ∃ ρ : Int → Int, UF mm ρ ∧ (∀ i : Int, (0 ≤ i ∧ i < 2592) → sameS w d l c i (ρ i)) ∧ ∀ a b, P a b → ρ a = ρ b
theorem KU_mono {w d l : Int} {c m mm : Mem} {P P' : Int → Int → Prop} (h : KU w d l c m mm P) (hp : ∀ a b, P' a b → P a b) : KU w d l c m mm P' := by
  obtain ⟨a, ρ, b, e, f⟩ := h
  exact ⟨a, ρ, b, e, fun x y z => f x y (hp x y z)⟩
theorem sameS_sym {w d l : Int} {c : Mem} (hs : ∀ a b, inC w d l a → stN w d l c a b → stN w d l c b a) {i j : Int} (h : sameS w d l c i j) : sameS w d l c j i := by
  rcases h with h | ⟨x, y, ⟨hx, hy⟩, e1, e2, hr⟩
  · exact Or.inl h.symm
  · exact Or.inr ⟨y, x, ⟨hy, hx⟩, e2, e1, (RchN_sym hs hx hr).2⟩
theorem sameS_tr {w d l : Int} {c : Mem} (hD : okD w d l) {i j k : Int} (h : sameS w d l c i j) (h2 : sameS w d l c j k) : sameS w d l c i k := by
  rcases h with h | ⟨x, y, ⟨hx, hy⟩, e1, e2, hr⟩
  · rw [h]; exact h2
  · rcases h2 with h2 | ⟨x2, y2, ⟨hx2, hy2⟩, e3, e4, hr2⟩
    · rw [← h2]; exact Or.inr ⟨x, y, ⟨hx, hy⟩, e1, e2, hr⟩
    · have e : y = x2 := cR_inj hD hy hx2 (by rw [← e2, e3])
      rw [← e] at hr2
      exact Or.inr ⟨x, y2, ⟨hx, hy2⟩, e1, e4, Rch_tr hr hr2⟩
theorem c_X12_uniteK (X : Xv) (c m mm : Mem) {w d l : Int} (hD : okD w d l) (hs : ∀ a b, inC w d l a → stN w d l c a b → stN w d l c b a) {P : Int → Int → Prop} (hK : KU w d l c m mm P) (a b : Int) (ha : 0 ≤ a ∧ a < 2592) (hb : 0 ≤ b ∧ b < 2592) (hS : sameS w d l c a b) : kCall (eX X) 2 M_X12_unite.1 [vR 54, vI a, vI b] mm (fun r m' => r = none ∧ KU w d l c m m' (fun x y => P x y ∨ (x = a ∧ y = b))) := by
  obtain ⟨hf, ρ, hU, hso, hP⟩ := hK
  refine kCall_ofT ok_X12_unite rfl (Nat.le_of_ble_eq_true rfl) (fun T hT => ?_)
  have h2 : 0 ≤ ρ a ∧ ρ a < ((2592 : Nat) : Int) := by obtain ⟨h, hU'⟩ := hU; exact (hU' a ha).2.1
  refine kW_go ok_X12_unite [] 20 ?_
  refine kCall_mono (c_X12_find X mm ρ hU a ha) (Nat.le_of_ble_eq_true rfl) ?_
  rintro _ m2 ⟨rfl, rfl⟩
  refine kCall_mono (c_X12_find X m2 ρ hU b hb) (Nat.le_of_ble_eq_true rfl) ?_
  rintro _ m3 ⟨rfl, rfl⟩
  refine ⟨h2, hT _ _ ⟨rfl, fun o ho => by rw [k_mset_ne ho]; exact hf o ho, unF ρ a b, UF_step hU ha hb, fun i hi => ?_, fun x y hxy => ?_⟩⟩
  · unfold unF
    split
    · rename_i e
      have h1 := hso i hi
      rw [e] at h1
      exact sameS_tr hD (sameS_tr hD h1 (sameS_sym hs (hso a ha))) (sameS_tr hD hS (hso b hb))
    · exact hso i hi
  · unfold unF
    rcases hxy with hxy | ⟨rfl, rfl⟩
    · rw [hP x y hxy]
    · rw [if_pos rfl]
      split <;> rfl
/-- what is put together of a net -/
def prO (m : Mem) (o a b : Int) : Prop := (∃ e : Int, (0 ≤ e ∧ e < m 65 o) ∧ a = 324 * o + m 66 (1200 * o + e) ∧ b = 324 * o + m 67 (1200 * o + e)) ∨ (∃ e : Int, (0 ≤ e ∧ e < m 68 o) ∧ a = 324 * o + m 69 (2400 * o + e) ∧ b = 324 * o + m 70 (2400 * o + e)) ∨ ∃ k i : Int, (0 ≤ k ∧ k < o) ∧ (0 ≤ i ∧ i < 324) ∧ (m 72 (324 * o + i) ≠ 0 ∧ m 72 (324 * k + i) ≠ 0) ∧ a = 324 * o + i ∧ b = 324 * k + i
theorem LT_same {w d l : Int} (hD : okD w d l) {c : Mem} {f t row : Int → Int} {q o : Int} (h : LT w d l f t q row) (ho : 0 ≤ o ∧ o < c 9 14) (h8 : c 9 14 ≤ 8) (hrow : ∀ x, row x = c 18 (o * (w * d * l) + x) ∨ row x = c 19 (o * (w * d * l) + x)) (e : Int) (he : 0 ≤ e ∧ e < q) : (0 ≤ f e ∧ f e < 324) ∧ (0 ≤ t e ∧ t e < 324) ∧ sameS w d l c (324 * o + f e) (324 * o + t e) := by
  obtain ⟨x, k, hx, hk, hne, e1, e2⟩ := h.1.2.1 e he
  have hy := (nx_in hne).1
  have g1 := (cR_geo hD hx).1
  have g2 := (cR_geo hD hy).1
  have hb : bt (row x) k.toNat = true := (h.2 x k hx hk hne).mpr ⟨e, he, Or.inl ⟨e1, e2⟩⟩
  refine ⟨by omega, by omega, Or.inr ⟨x, nx w d l x k, ⟨hx, hy⟩, by omega, by omega, Rch_to Rch_rf ⟨k, hk, rfl, hne, o, ho, ?_⟩⟩⟩
  rcases hrow x with z | z
  · rw [z] at hb; exact Or.inl hb
  · rw [z] at hb; exact Or.inr hb
set_option maxRecDepth 100000 in
theorem c_X12_uniteAll (X : Xv) (c m : Mem) {w d l : Int} (hD : okD w d l) (hM : WM w d l c) (hR : RR w d l c m) : kCall (eX X) 3 M_X12_uniteAll.1 [vR 54] m (fun r m' => r = none ∧ KU w d l c m m' (fun a b => ∃ o : Int, (0 ≤ o ∧ o < c 9 14) ∧ prO m o a b)) := by
  have h8 := hM.1.2.1
  have g26 : m 54 26 = c 9 14 := hR.1.2.2.2.1.1
  have hs : ∀ a b, inC w d l a → stN w d l c a b → stN w d l c b a := fun a b ha h => stN_sym hD hM hR.2.1 ha h
  refine kCall_ofT ok_X12_uniteAll rfl (Nat.le_of_ble_eq_true rfl) (fun T hT => ?_)
  obtain ⟨P0, hP0⟩ : ∃ P0 : Int → Int → Int → Prop, ∀ n a b, P0 n a b ↔ ∃ o : Int, (0 ≤ o ∧ o < n) ∧ prO m o a b := ⟨_, fun _ _ _ => Iff.rfl⟩
  have main : ∀ (q : Nat) (n : Int) (mm : Mem) (x2 x3 : Option AV), n + q = c 9 14 → 0 ≤ n → KU w d l c m mm (P0 n) → kW (eX X) 2 M_X12_uniteAll T 3 [some (vR 54), some (vI n), x2, x3] [] mm := by
    intro q
    induction q with
    | zero =>
      intro n mm x2 x3 hq h0 hK
      have hn : n = c 9 14 := by omega
      refine kW_go ok_X12_uniteAll [3] 20 ?_
      refine And.intro (fun _ => hT _ _ ⟨rfl, KU_mono hK (fun a b z => (hP0 n a b).mpr (by rw [hn]; exact z))⟩) (fun h => ?_)
      have h : n < mm 54 26 := h
      rw [hK.1 54 (by decide), g26] at h
      omega
    | succ q ih =>
      intro n mm x2 x3 hq h0 hK
      have hn8 : 0 ≤ n ∧ n < 8 := by omega
      have hnb : 0 ≤ n ∧ n < ((8 : Nat) : Int) := hn8
      have hRn := hR.2.1 n hn8
      obtain ⟨PW, hPW⟩ : ∃ PW : Int → Int → Int → Prop, ∀ i a b, PW i a b ↔ ∃ e : Int, (0 ≤ e ∧ e < i) ∧ a = 324 * n + m 66 (1200 * n + e) ∧ b = 324 * n + m 67 (1200 * n + e) := ⟨_, fun _ _ _ => Iff.rfl⟩
      obtain ⟨PT, hPT⟩ : ∃ PT : Int → Int → Int → Prop, ∀ i a b, PT i a b ↔ ∃ e : Int, (0 ≤ e ∧ e < i) ∧ a = 324 * n + m 69 (2400 * n + e) ∧ b = 324 * n + m 70 (2400 * n + e) := ⟨_, fun _ _ _ => Iff.rfl⟩
      obtain ⟨PC, hPC⟩ : ∃ PC : Int → Int → Int → Prop, ∀ k a b, PC k a b ↔ ∃ k' i : Int, (0 ≤ k' ∧ k' < k) ∧ (0 ≤ i ∧ i < 324) ∧ (m 72 (324 * n + i) ≠ 0 ∧ m 72 (324 * k' + i) ≠ 0) ∧ a = 324 * n + i ∧ b = 324 * k' + i := ⟨_, fun _ _ _ => Iff.rfl⟩
      have w0 := hRn.1.1.1
      have w1 := okL_le hD hRn.1.1
      have t0 := hRn.2.2.1.1.1
      have t1 := okL_le hD hRn.2.2.1.1
      -- the cells of two nets
      have cells : ∀ (r : Nat) (k : Int) (mm : Mem) (x3 : Option AV), k + r = n → 0 ≤ k → KU w d l c m mm (fun a b => P0 n a b ∨ PW (m 65 n) a b ∨ PT (m 68 n) a b ∨ PC k a b) → kW (eX X) 2 M_X12_uniteAll T 8 [some (vR 54), some (vI n), some (vI k), x3] [] mm := by
        intro r
        induction r with
        | zero =>
          intro k mm x3 hr hk0 hK
          have hkn : k = n := by omega
          subst hkn
          refine kW_go ok_X12_uniteAll [3] 20 ?_
          refine And.intro (fun _ => ⟨by constructor <;> omega, ih (k + 1) mm _ _ (by omega) (by omega) (KU_mono hK (fun a b z => ?_))⟩) (fun h => absurd h (by omega))
          obtain ⟨o, ho, z⟩ := (hP0 _ a b).mp z
          by_cases e : o = k
          · rw [e] at z
            rcases z with z | z | z
            · exact Or.inr (Or.inl ((hPW _ _ _).mpr z))
            · exact Or.inr (Or.inr (Or.inl ((hPT _ _ _).mpr z)))
            · exact Or.inr (Or.inr (Or.inr ((hPC _ _ _).mpr z)))
          · exact Or.inl ((hP0 _ a b).mpr ⟨o, by omega, z⟩)
        | succ r ih2 =>
          intro k mm x3 hr hk0 hK
          have hk8 : 0 ≤ k ∧ k < 8 := by omega
          have inner : ∀ (s : Nat) (i : Int) (mm : Mem), i + s = 324 → 0 ≤ i → KU w d l c m mm (fun a b => (P0 n a b ∨ PW (m 65 n) a b ∨ PT (m 68 n) a b ∨ PC k a b) ∨ ∃ i' : Int, (0 ≤ i' ∧ i' < i) ∧ (m 72 (324 * n + i') ≠ 0 ∧ m 72 (324 * k + i') ≠ 0) ∧ a = 324 * n + i' ∧ b = 324 * k + i') → kW (eX X) 2 M_X12_uniteAll T 9 [some (vR 54), some (vI n), some (vI k), some (vI i)] [] mm := by
            intro s
            induction s with
            | zero =>
              intro i mm hs' hi0 hK
              have hi : i = 324 := by omega
              subst hi
              refine kW_go ok_X12_uniteAll [8] 20 ?_
              refine And.intro (fun _ => ⟨by constructor <;> omega, ih2 (k + 1) mm _ (by omega) (by omega) (KU_mono hK (fun a b z => ?_))⟩) (fun h => absurd h (by decide))
              rcases z with z | z | z | z
              · exact Or.inl (Or.inl z)
              · exact Or.inl (Or.inr (Or.inl z))
              · exact Or.inl (Or.inr (Or.inr (Or.inl z)))
              · obtain ⟨k', i, a1, a2, a3, a4, a5⟩ := (hPC _ _ _).mp z
                by_cases e : k' = k
                · rw [e] at a3 a5
                  exact Or.inr ⟨i, a2, a3, a4, a5⟩
                · exact Or.inl (Or.inr (Or.inr (Or.inr ((hPC _ _ _).mpr ⟨k', i, by omega, a2, a3, a4, a5⟩))))
            | succ s ih3 =>
              intro i mm hs' hi0 hK
              have hi3 : 0 ≤ i ∧ i < 324 := by omega
              have e72 : mm 72 = m 72 := hK.1 72 (by decide)
              have hskip : ¬ (m 72 (324 * n + i) ≠ 0 ∧ m 72 (324 * k + i) ≠ 0) → kW (eX X) 2 M_X12_uniteAll T 10 [some (vR 54), some (vI n), some (vI k), some (vI i)] [] mm := by
                intro hno
                refine kW_go ok_X12_uniteAll [9] 20 ?_
                refine ⟨by constructor <;> omega, ih3 (i + 1) mm (by omega) (by omega) (KU_mono hK (fun a b z => ?_))⟩
                rcases z with z | ⟨i', a1, a2, a3⟩
                · exact Or.inl z
                · by_cases e : i' = i
                  · rw [e] at a2; exact absurd a2 hno
                  · exact Or.inr ⟨i', by omega, a2, a3⟩
              refine kW_go ok_X12_uniteAll [10] 20 ?_
              refine And.intro (fun h => absurd h (by omega)) (fun _ => ?_)
              refine kCall_mono (c_X12_has X mm n i hn8 hi3) (Nat.le_of_ble_eq_true rfl) ?_
              rw [e72]
              rintro _ m2 ⟨⟨hh, rfl⟩ | ⟨hh, rfl⟩, rfl⟩
              · refine And.intro (fun h => absurd h (by decide)) (fun _ => ?_)
                refine kCall_mono (c_X12_has X m2 k i hk8 hi3) (Nat.le_of_ble_eq_true rfl) ?_
                rw [e72]
                rintro _ m3 ⟨⟨hh2, rfl⟩ | ⟨hh2, rfl⟩, rfl⟩
                · refine And.intro (fun h => absurd h (by decide)) (fun _ => ⟨by constructor <;> omega, by constructor <;> omega, by constructor <;> omega, by constructor <;> omega, ?_⟩)
                  have hin : inRf w d l i := Classical.byContradiction (fun q => hh (hRn.2.2.2.2.2 _ hi3 q))
                  obtain ⟨hci, hcr⟩ := cC_in hin
                  refine kCall_mono (c_X12_uniteK X c m m3 hD hs hK (324 * n + i) (324 * k + i) (by omega) (by omega) (Or.inr ⟨_, _, ⟨hci, hci⟩, by rw [hcr]; omega, by rw [hcr]; omega, Rch_rf⟩)) (Nat.le_of_ble_eq_true rfl) ?_
                  rintro _ m4 ⟨rfl, hK4⟩
                  have hgo : kW (eX X) 2 M_X12_uniteAll T 10 [some (vR 54), some (vI n), some (vI k), some (vI i)] [] m4 := by
                    refine kW_go ok_X12_uniteAll [9] 20 ?_
                    refine ⟨by constructor <;> omega, ih3 (i + 1) m4 (by omega) (by omega) (KU_mono hK4 (fun a b z => ?_))⟩
                    rcases z with z | ⟨i', a1, a2, a3⟩
                    · exact Or.inl (Or.inl z)
                    · by_cases e : i' = i
                      · rw [e] at a3; exact Or.inr a3
                      · exact Or.inl (Or.inr ⟨i', by omega, a2, a3⟩)
                  exact hgo
                · exact And.intro (fun _ => hskip (fun q => hh2 q.2)) (fun h => absurd rfl h)
              · exact And.intro (fun _ => hskip (fun q => hh q.1)) (fun h => absurd rfl h)
          refine kW_go ok_X12_uniteAll [9] 20 ?_
          exact And.intro (fun h => absurd h (by omega)) (fun _ => inner 324 0 mm (by omega) (by omega) (KU_mono hK (fun a b z => z.elim (fun z => z) (fun ⟨i', a1, _⟩ => by omega))))
      -- the traces
      have traces : ∀ (r : Nat) (i : Int) (mm : Mem) (x3 : Option AV), i + r = m 68 n → 0 ≤ i → KU w d l c m mm (fun a b => P0 n a b ∨ PW (m 65 n) a b ∨ PT i a b) → kW (eX X) 2 M_X12_uniteAll T 6 [some (vR 54), some (vI n), some (vI i), x3] [] mm := by
        intro r
        induction r with
        | zero =>
          intro i mm x3 hr hi0 hK
          have hi : i = m 68 n := by omega
          have e68 : mm 68 = m 68 := hK.1 68 (by decide)
          have hgo := cells n.toNat 0 mm x3 (by omega) (by omega) (KU_mono hK (fun a b z => by
            rcases z with z | z | z | z
            · exact Or.inl z
            · exact Or.inr (Or.inl z)
            · exact Or.inr (Or.inr (by rw [hi]; exact z))
            · obtain ⟨k', i, a1, _⟩ := (hPC _ _ _).mp z
              omega))
          refine kW_go ok_X12_uniteAll [8] 20 ?_
          refine ⟨hnb, And.intro (fun _ => hgo) (fun h => ?_)⟩
          have h : i < mm 68 n := h
          rw [e68] at h
          omega
        | succ r ih2 =>
          intro i mm x3 hr hi0 hK
          have e68 : mm 68 = m 68 := hK.1 68 (by decide)
          have e69 : mm 69 = m 69 := hK.1 69 (by decide)
          have e70 : mm 70 = m 70 := hK.1 70 (by decide)
          obtain ⟨f1, f2, f3⟩ := LT_same hD (c := c) (o := n) hRn.2.2.1 (by omega) h8.2 (fun x => Or.inr rfl) i (by omega)
          have f1 : 0 ≤ m 69 (2400 * n + i) ∧ m 69 (2400 * n + i) < 324 := f1
          have f2 : 0 ≤ m 70 (2400 * n + i) ∧ m 70 (2400 * n + i) < 324 := f2
          have hib : 0 ≤ 2400 * n + i ∧ 2400 * n + i < ((19200 : Nat) : Int) := by omega
          refine kW_go ok_X12_uniteAll [6] 20 ?_
          show (0 ≤ n ∧ n < ((8 : Nat) : Int)) ∧ (mm 68 n ≤ i → _) ∧ (i < mm 68 n → inR (324 * n) ∧ inR (2400 * n) ∧ inR (2400 * n + i) ∧ (0 ≤ 2400 * n + i ∧ 2400 * n + i < ((19200 : Nat) : Int)) ∧ inR (324 * n + mm 69 (2400 * n + i)) ∧ inR (324 * n) ∧ inR (2400 * n) ∧ inR (2400 * n + i) ∧ (0 ≤ 2400 * n + i ∧ 2400 * n + i < ((19200 : Nat) : Int)) ∧ inR (324 * n + mm 70 (2400 * n + i)) ∧ kCall (eX X) 2 287 [vR 54, vI (324 * n + mm 69 (2400 * n + i)), vI (324 * n + mm 70 (2400 * n + i))] mm _)
          rw [e68, e69, e70]
          refine ⟨hnb, fun h => absurd h (by omega), fun _ => ⟨by constructor <;> omega, by constructor <;> omega, by constructor <;> omega, hib, by constructor <;> omega, by constructor <;> omega, by constructor <;> omega, by constructor <;> omega, hib, by constructor <;> omega, ?_⟩⟩
          refine kCall_mono (c_X12_uniteK X c m mm hD hs hK _ _ (by omega) (by omega) f3) (Nat.le_of_ble_eq_true rfl) ?_
          rintro _ m4 ⟨rfl, hK4⟩
          refine ⟨by constructor <;> omega, ih2 (i + 1) m4 _ (by omega) (by omega) (KU_mono hK4 (fun a b z => ?_))⟩
          rcases z with z | z | z
          · exact Or.inl (Or.inl z)
          · exact Or.inl (Or.inr (Or.inl z))
          · obtain ⟨e, a1, a2⟩ := (hPT _ _ _).mp z
            by_cases ee : e = i
            · rw [ee] at a2; exact Or.inr a2
            · exact Or.inl (Or.inr (Or.inr ((hPT _ _ _).mpr ⟨e, by omega, a2⟩)))
      have wires : ∀ (r : Nat) (i : Int) (mm : Mem) (x3 : Option AV), i + r = m 65 n → 0 ≤ i → KU w d l c m mm (fun a b => P0 n a b ∨ PW i a b) → kW (eX X) 2 M_X12_uniteAll T 4 [some (vR 54), some (vI n), some (vI i), x3] [] mm := by
        intro r
        induction r with
        | zero =>
          intro i mm x3 hr hi0 hK
          have hi : i = m 65 n := by omega
          have e65 : mm 65 = m 65 := hK.1 65 (by decide)
          have hgo := traces (m 68 n).toNat 0 mm x3 (by omega) (by omega) (KU_mono hK (fun a b z => by
            rcases z with z | z | z
            · exact Or.inl z
            · exact Or.inr (by rw [hi]; exact z)
            · obtain ⟨e, a1, _⟩ := (hPT _ _ _).mp z
              omega))
          refine kW_go ok_X12_uniteAll [6] 20 ?_
          refine ⟨hnb, And.intro (fun _ => hgo) (fun h => ?_)⟩
          have h : i < mm 65 n := h
          rw [e65] at h
          omega
        | succ r ih2 =>
          intro i mm x3 hr hi0 hK
          have e65 : mm 65 = m 65 := hK.1 65 (by decide)
          have e66 : mm 66 = m 66 := hK.1 66 (by decide)
          have e67 : mm 67 = m 67 := hK.1 67 (by decide)
          obtain ⟨f1, f2, f3⟩ := LT_same hD (c := c) (o := n) hRn.1 (by omega) h8.2 (fun x => Or.inl rfl) i (by omega)
          have f1 : 0 ≤ m 66 (1200 * n + i) ∧ m 66 (1200 * n + i) < 324 := f1
          have f2 : 0 ≤ m 67 (1200 * n + i) ∧ m 67 (1200 * n + i) < 324 := f2
          have hib : 0 ≤ 1200 * n + i ∧ 1200 * n + i < ((9600 : Nat) : Int) := by omega
          refine kW_go ok_X12_uniteAll [4] 20 ?_
          show (0 ≤ n ∧ n < ((8 : Nat) : Int)) ∧ (mm 65 n ≤ i → _) ∧ (i < mm 65 n → inR (324 * n) ∧ inR (1200 * n) ∧ inR (1200 * n + i) ∧ (0 ≤ 1200 * n + i ∧ 1200 * n + i < ((9600 : Nat) : Int)) ∧ inR (324 * n + mm 66 (1200 * n + i)) ∧ inR (324 * n) ∧ inR (1200 * n) ∧ inR (1200 * n + i) ∧ (0 ≤ 1200 * n + i ∧ 1200 * n + i < ((9600 : Nat) : Int)) ∧ inR (324 * n + mm 67 (1200 * n + i)) ∧ kCall (eX X) 2 287 [vR 54, vI (324 * n + mm 66 (1200 * n + i)), vI (324 * n + mm 67 (1200 * n + i))] mm _)
          rw [e65, e66, e67]
          refine ⟨hnb, fun h => absurd h (by omega), fun _ => ⟨by constructor <;> omega, by constructor <;> omega, by constructor <;> omega, hib, by constructor <;> omega, by constructor <;> omega, by constructor <;> omega, by constructor <;> omega, hib, by constructor <;> omega, ?_⟩⟩
          refine kCall_mono (c_X12_uniteK X c m mm hD hs hK _ _ (by omega) (by omega) f3) (Nat.le_of_ble_eq_true rfl) ?_
          rintro _ m4 ⟨rfl, hK4⟩
          refine ⟨by constructor <;> omega, ih2 (i + 1) m4 _ (by omega) (by omega) (KU_mono hK4 (fun a b z => ?_))⟩
          rcases z with z | z
          · exact Or.inl (Or.inl z)
          · obtain ⟨e, a1, a2⟩ := (hPW _ _ _).mp z
            by_cases ee : e = i
            · rw [ee] at a2; exact Or.inr a2
            · exact Or.inl (Or.inr ((hPW _ _ _).mpr ⟨e, by omega, a2⟩))
      refine kW_go ok_X12_uniteAll [4] 20 ?_
      refine And.intro (fun h => ?_) (fun _ => wires (m 65 n).toNat 0 mm _ (by omega) (by omega) (KU_mono hK (fun a b z => ?_)))
      · have h : mm 54 26 ≤ n := h
        rw [hK.1 54 (by decide), g26] at h
        omega
      · rcases z with z | z
        · exact z
        · obtain ⟨e, a1, _⟩ := (hPW _ _ _).mp z
          omega
  have init : ∀ (q : Nat) (i : Int) (mm : Mem), i + q = 2592 → 0 ≤ i → (∀ o, o ≠ 87 → mm o = m o) → (∀ j : Int, (0 ≤ j ∧ j < i) → mm 87 j = j) → kW (eX X) 2 M_X12_uniteAll T 1 [some (vR 54), some (vI i), none, none] [] mm := by
    intro q
    induction q with
    | zero =>
      intro i mm hq h0 hf hj
      have hi : i = 2592 := by omega
      subst hi
      refine kW_go ok_X12_uniteAll [3] 20 ?_
      refine And.intro (fun _ => main (c 9 14).toNat 0 mm _ _ (by omega) (by omega) ⟨hf, fun i => i, ⟨fun _ => 0, fun i hi => ?_⟩, fun i _ => Or.inl rfl, fun a b z => ?_⟩) (fun h => absurd h (by decide))
      · rw [hj i hi]
        exact ⟨hi, hi, rfl, rfl, fun _ => rfl, fun z => absurd rfl z⟩
      · obtain ⟨o, ho, _⟩ := (hP0 0 a b).mp z
        omega
    | succ q ih =>
      intro i mm hq h0 hf hj
      have hib : 0 ≤ i ∧ i < ((2592 : Nat) : Int) := by omega
      refine kW_go ok_X12_uniteAll [1] 20 ?_
      refine And.intro (fun h => absurd h (by omega)) (fun _ => ⟨hib, by constructor <;> omega, ih (i + 1) _ (by omega) (by omega) (fun o ho => by rw [k_mset_ne ho]; exact hf o ho) (fun j hj' => ?_)⟩)
      rw [k_mset_at]
      by_cases e : j = i
      · rw [if_pos e]; exact e.symm
      · rw [if_neg e]; exact hj j (by omega)
  refine kW_go ok_X12_uniteAll [1] 20 ?_
  exact init 2592 0 m (by omega) (by omega) (fun _ _ => rfl) (fun j hj => by omega)
