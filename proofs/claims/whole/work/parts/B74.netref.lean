/-! NETLIST alike -/
theorem stN_both {w d l : Int} {c m : Mem} (hD : okD w d l) (hM : WM w d l c) (hR : RR w d l c m) {a b : Int} (ha : inC w d l a) (h : stN w d l c a b) : ∃ o : Int, (0 ≤ o ∧ o < c 9 14) ∧ cuN c o a ∧ cuN c o b ∧ (prO m o (324 * o + cR w d a) (324 * o + cR w d b) ∨ prO m o (324 * o + cR w d b) (324 * o + cR w d a)) := by
  have h8 := hM.1.2.1
  obtain ⟨k, hk, hn, hne, o, ho, hb⟩ := h
  have ho8 : 0 ≤ o ∧ o < 8 := by omega
  have hne' : nx w d l a k ≠ -1 := by rw [hn]; exact hne
  have hbi : inC w d l b := by rw [← hn]; exact (nx_in hne').1
  have hRo := hR.2.1 o ho8
  have hop := nx_opp hD ha hk hne'
  have hno := nx_opp_ne hD ha hk hne'
  rw [hn] at hop hno
  have hWa := (hM.2.2.1 o ho8).1 a ha
  have hWb := (hM.2.2.1 o ho8).1 b hbi
  have hnz : ∀ (v : Int) (k : Nat), bt v k = true → v ≠ 0 := by
    intro v k h e
    rw [e, bt_zero] at h
    cases h
  refine ⟨o, ho, ?_⟩
  rcases hb with hb | hb
  · have h1 := (hRo.1.2 a k ha hk hne').mp hb
    have h2 := h1
    rw [← eds_opp hD ha hk hne', hn] at h2
    have hb2 := (hRo.1.2 b (oppF k) hbi (opp_in hk) hno).mpr h2
    refine ⟨Or.inl (hWa.2.2.2.mpr (Or.inl (hnz _ _ hb))), Or.inl (hWb.2.2.2.mpr (Or.inl (hnz _ _ hb2))), ?_⟩
    obtain ⟨i, hi, e | e⟩ := h1
    · have e1 : m 66 (1200 * o + i) = cR w d a := e.1
      have e2 : m 67 (1200 * o + i) = cR w d b := by rw [← hn]; exact e.2
      exact Or.inl (Or.inl ⟨i, hi, by rw [e1], by rw [e2]⟩)
    · have e1 : m 66 (1200 * o + i) = cR w d b := by rw [← hn]; exact e.1
      have e2 : m 67 (1200 * o + i) = cR w d a := e.2
      exact Or.inr (Or.inl ⟨i, hi, by rw [e1], by rw [e2]⟩)
  · have h1 := (hRo.2.2.1.2 a k ha hk hne').mp hb
    have h2 := h1
    rw [← eds_opp hD ha hk hne', hn] at h2
    have hb2 := (hRo.2.2.1.2 b (oppF k) hbi (opp_in hk) hno).mpr h2
    refine ⟨Or.inr (hWa.2.2.1.mpr (hnz _ _ hb)), Or.inr (hWb.2.2.1.mpr (hnz _ _ hb2)), ?_⟩
    obtain ⟨i, hi, e | e⟩ := h1
    · have e1 : m 69 (2400 * o + i) = cR w d a := e.1
      have e2 : m 70 (2400 * o + i) = cR w d b := by rw [← hn]; exact e.2
      exact Or.inl (Or.inr (Or.inl ⟨i, hi, by rw [e1], by rw [e2]⟩))
    · have e1 : m 69 (2400 * o + i) = cR w d b := by rw [← hn]; exact e.1
      have e2 : m 70 (2400 * o + i) = cR w d a := e.2
      exact Or.inr (Or.inr (Or.inl ⟨i, hi, by rw [e1], by rw [e2]⟩))
/-- the trees of joined copper -/
def UFN (w d l : Int) (c mm : Mem) (ρ : Int → Int) : Prop := UF mm ρ ∧ ∀ n k x y : Int, (0 ≤ n ∧ n < c 9 14) → (0 ≤ k ∧ k < c 9 14) → inC w d l x → inC w d l y → cuN c n x → cuN c k y → (ρ (324 * n + cR w d x) = ρ (324 * k + cR w d y) ↔ Rch (stN w d l c) x y)
theorem KU_UFN {w d l : Int} {c m mm : Mem} (hD : okD w d l) (hM : WM w d l c) (hR : RR w d l c m) (hK : KU w d l c m mm (fun a b => ∃ o : Int, (0 ≤ o ∧ o < c 9 14) ∧ prO m o a b)) : ∃ ρ, UFN w d l c mm ρ := by
  have h8 := hM.1.2.1
  have hs : ∀ a b, inC w d l a → stN w d l c a b → stN w d l c b a := fun a b ha h => stN_sym hD hM hR.2.1 ha h
  obtain ⟨-, ρ, hU, hso, hP⟩ := hK
  refine ⟨ρ, hU, fun n k x y hn hk hx hy cx cy => ?_⟩
  have g1 := (cR_geo hD hx).1
  have g2 := (cR_geo hD hy).1
  have same : ∀ n k x : Int, (0 ≤ n ∧ n < c 9 14) → (0 ≤ k ∧ k < c 9 14) → inC w d l x → cuN c n x → cuN c k x → ρ (324 * n + cR w d x) = ρ (324 * k + cR w d x) := by
    intro n k x hn hk hx cx cy
    have g1 := (cR_geo hD hx).1
    have z1 := (cuN_72 (hR.2.1 n (by omega)) hx).mpr cx
    have z2 := (cuN_72 (hR.2.1 k (by omega)) hx).mpr cy
    by_cases e : n = k
    · rw [e]
    · by_cases e2 : k < n
      · exact hP _ _ ⟨n, hn, Or.inr (Or.inr ⟨k, cR w d x, ⟨hk.1, e2⟩, g1, ⟨z1, z2⟩, rfl, rfl⟩)⟩
      · exact (hP _ _ ⟨k, hk, Or.inr (Or.inr ⟨n, cR w d x, ⟨hn.1, by omega⟩, g1, ⟨z2, z1⟩, rfl, rfl⟩)⟩).symm
  constructor
  · intro h
    have s1 := hso (324 * n + cR w d x) (by omega)
    have s2 := hso (324 * k + cR w d y) (by omega)
    rw [← h] at s2
    rcases sameS_tr hD s1 (sameS_sym hs s2) with e | ⟨x', y', ⟨hx', hy'⟩, e1, e2, hr⟩
    · have : x = y := cR_inj hD hx hy (by omega)
      rw [this]
      exact Rch_rf
    · have ex : x = x' := cR_inj hD hx hx' (by omega)
      have ey : y = y' := cR_inj hD hy hy' (by omega)
      rw [ex, ey]
      exact hr
  · intro h
    refine (Rch_ind (P := fun e => inC w d l e ∧ ∀ k : Int, (0 ≤ k ∧ k < c 9 14) → cuN c k e → ρ (324 * n + cR w d x) = ρ (324 * k + cR w d e)) ?_ ⟨hx, fun k hk ck => same n k x hn hk hx cx ck⟩ h).2 k hk cy
    rintro a b ⟨ha, hia⟩ hst
    have hb := stN_in hst
    obtain ⟨o, ho, ca, cb, hpr⟩ := stN_both hD hM hR ha hst
    refine ⟨hb, fun k hk ck => ?_⟩
    rw [hia o ho ca]
    rw [← same o k b ho hk hb cb ck]
    rcases hpr with z | z
    · exact hP _ _ ⟨o, ho, z⟩
    · exact (hP _ _ ⟨o, ho, z⟩).symm
theorem c_X12_areShort (X : Xv) (c m : Mem) {w d l : Int} (hD : okD w d l) (hM : WM w d l c) (hR : ∀ n : Int, (0 ≤ n ∧ n < 8) → RRn w d l c m n) (ρ : Int → Int) (hU : UFN w d l c m ρ) (n k : Int) (hn : 0 ≤ n ∧ n < c 9 14) (hk : 0 ≤ k ∧ k < c 9 14) : kCall (eX X) 2 M_X12_areShort.1 [vR 54, vI n, vI k] m (bP (shP w d l c n k) m) := by
  have h8 := hM.1.2.1
  have hn8 : 0 ≤ n ∧ n < 8 := by omega
  have hk8 : 0 ≤ k ∧ k < 8 := by omega
  refine kCall_ofT ok_X12_areShort rfl (Nat.le_of_ble_eq_true rfl) (fun T hT => ?_)
  obtain ⟨F, hF⟩ : ∃ F : Int → Int → Prop, ∀ i j, F i j ↔ (m 72 (324 * n + i) ≠ 0 ∧ m 72 (324 * k + j) ≠ 0 ∧ ρ (324 * n + i) = ρ (324 * k + j)) := ⟨_, fun _ _ => Iff.rfl⟩
  have hcell : ∀ (o i : Int), (0 ≤ o ∧ o < 8) → (0 ≤ i ∧ i < 324) → m 72 (324 * o + i) ≠ 0 → inC w d l (cC w d i) ∧ cR w d (cC w d i) = i ∧ cuN c o (cC w d i) := by
    intro o i ho hi h
    have hin : inRf w d l i := Classical.byContradiction (fun q => h ((hR o ho).2.2.2.2.2 _ hi q))
    obtain ⟨hci, hcr⟩ := cC_in hin
    refine ⟨hci, hcr, (cuN_72 (hR o ho) hci).mp ?_⟩
    rw [hcr]
    exact h
  have hsh : shP w d l c n k ↔ ∃ i j : Int, (0 ≤ i ∧ i < 324) ∧ (0 ≤ j ∧ j < 324) ∧ F i j := by
    constructor
    · rintro ⟨x, y, ⟨hx, cx⟩, ⟨hy, cy⟩, hr⟩
      exact ⟨cR w d x, cR w d y, (cR_geo hD hx).1, (cR_geo hD hy).1, (hF _ _).mpr ⟨(cuN_72 (hR n hn8) hx).mpr cx, (cuN_72 (hR k hk8) hy).mpr cy, (hU.2 n k x y hn hk hx hy cx cy).mpr hr⟩⟩
    · rintro ⟨i, j, hi, hj, hf⟩
      obtain ⟨h1, h2, h3⟩ := (hF _ _).mp hf
      obtain ⟨a1, a2, a3⟩ := hcell n i hn8 hi h1
      obtain ⟨b1, b2, b3⟩ := hcell k j hk8 hj h2
      exact ⟨_, _, ⟨a1, a3⟩, ⟨b1, b3⟩, (hU.2 n k _ _ hn hk a1 b1 a3 b3).mp (by rw [a2, b2]; exact h3)⟩
  rw [hsh] at hT
  have outer : ∀ (q : Nat) (i : Int) (x4 : Option AV), i + q = 324 → 0 ≤ i → (∀ i' j : Int, (0 ≤ i' ∧ i' < i) → (0 ≤ j ∧ j < 324) → ¬ F i' j) → kW (eX X) 1 M_X12_areShort T 1 [some (vR 54), some (vI n), some (vI k), some (vI i), x4] [] m := by
    intro q
    induction q with
    | zero =>
      intro i x4 hq h0 hno
      refine kW_go ok_X12_areShort [1] 20 ?_
      exact And.intro (fun _ => hT _ _ ⟨Or.inl rfl, Or.inr ⟨fun ⟨i', j, hi, hj, z⟩ => hno i' j (by omega) hj z, rfl⟩, rfl⟩) (fun h => absurd h (by omega))
    | succ q ih =>
      intro i x4 hq h0 hno
      have hi3 : 0 ≤ i ∧ i < 324 := by omega
      have hnext : ∀ x4, (∀ j : Int, (0 ≤ j ∧ j < 324) → ¬ F i j) → kW (eX X) 1 M_X12_areShort T 4 [some (vR 54), some (vI n), some (vI k), some (vI i), x4] [] m := by
        intro x4 hf
        refine kW_go ok_X12_areShort [1] 20 ?_
        refine ⟨by constructor <;> omega, ih (i + 1) x4 (by omega) (by omega) (fun i' j hi' hj => ?_)⟩
        by_cases e : i' = i
        · rw [e]; exact hf j hj
        · exact hno i' j (by omega) hj
      have inner : ∀ (s : Nat) (j : Int), j + s = 324 → 0 ≤ j → (∀ j' : Int, (0 ≤ j' ∧ j' < j) → ¬ F i j') → kW (eX X) 1 M_X12_areShort T 2 [some (vR 54), some (vI n), some (vI k), some (vI i), some (vI j)] [] m := by
        intro s
        induction s with
        | zero =>
          intro j hs hj0 hf
          refine kW_go ok_X12_areShort [4] 20 ?_
          exact And.intro (fun _ => hnext _ (fun j' hj' => hf j' (by omega))) (fun h => absurd h (by omega))
        | succ s ih2 =>
          intro j hs hj0 hf
          have hj3 : 0 ≤ j ∧ j < 324 := by omega
          have hstep : ¬ F i j → kW (eX X) 1 M_X12_areShort T 3 [some (vR 54), some (vI n), some (vI k), some (vI i), some (vI j)] [] m := by
            intro h
            refine kW_go ok_X12_areShort [2] 20 ?_
            refine ⟨by constructor <;> omega, ih2 (j + 1) (by omega) (by omega) (fun j' hj' => ?_)⟩
            by_cases e : j' = j
            · rw [e]; exact h
            · exact hf j' (by omega)
          refine kW_go ok_X12_areShort [3, 4] 20 ?_
          refine And.intro (fun h => absurd h (by omega)) (fun _ => ?_)
          refine kCall_mono (c_X12_has X m n i hn8 hi3) (Nat.le_of_ble_eq_true rfl) ?_
          rintro _ m2 ⟨⟨hh, rfl⟩ | ⟨hh, rfl⟩, rfl⟩
          · refine And.intro (fun h => absurd h (by decide)) (fun _ => ?_)
            refine kCall_mono (c_X12_has X m2 k j hk8 hj3) (Nat.le_of_ble_eq_true rfl) ?_
            rintro _ m3 ⟨⟨hh2, rfl⟩ | ⟨hh2, rfl⟩, rfl⟩
            · refine And.intro (fun h => absurd h (by decide)) (fun _ => ⟨by constructor <;> omega, by constructor <;> omega, ?_⟩)
              refine kCall_mono (c_X12_find X m3 ρ hU.1 (324 * n + i) (by omega)) (Nat.le_of_ble_eq_true rfl) ?_
              rintro _ m4 ⟨rfl, rfl⟩
              refine ⟨by constructor <;> omega, by constructor <;> omega, ?_⟩
              refine kCall_mono (c_X12_find X m4 ρ hU.1 (324 * k + j) (by omega)) (Nat.le_of_ble_eq_true rfl) ?_
              rintro _ m5 ⟨rfl, rfl⟩
              refine And.intro (fun h => hstep (fun z => h ((hF _ _).mp z).2.2)) (fun h => hT _ _ ⟨Or.inr rfl, Or.inl ⟨⟨i, j, hi3, hj3, (hF _ _).mpr ⟨hh, hh2, h⟩⟩, rfl⟩, rfl⟩)
            · exact And.intro (fun _ => hstep (fun z => hh2 ((hF _ _).mp z).2.1)) (fun h => absurd rfl h)
          · exact And.intro (fun _ => hnext _ (fun j' hj' z => hh ((hF _ _).mp z).1)) (fun h => absurd rfl h)
      refine kW_go ok_X12_areShort [2] 20 ?_
      exact And.intro (fun h => absurd h (by omega)) (fun _ => inner 324 0 (by omega) (by omega) (fun j' hj' => by omega))
  refine kW_go ok_X12_areShort [1] 20 ?_
  exact outer 324 0 none (by omega) (by omega) (fun i' j hi' => by omega)
theorem sum_swap (f : Int → Int → Int) (M : Nat) : ∀ N : Nat, sumN (fun a => sumN (f a) M) N = sumN (fun b => sumN (fun a => f a b) N) M := by
  intro N
  induction N with
  | zero =>
    symm
    exact sumN_z (fun _ _ _ => rfl)
  | succ N ih =>
    show sumN (fun a => sumN (f a) M) N + sumN (f N) M = sumN (fun b => sumN (fun a => f a b) N + f N b) M
    rw [ih, sumN_plus]
theorem shP_sym {w d l : Int} {c : Mem} (hs : ∀ a b, inC w d l a → stN w d l c a b → stN w d l c b a) {a b : Int} (h : shP w d l c a b) : shP w d l c b a := by
  obtain ⟨x, y, hx, hy, hr⟩ := h
  exact ⟨y, x, hy, hx, (RchN_sym hs hx.1 hr).2⟩
