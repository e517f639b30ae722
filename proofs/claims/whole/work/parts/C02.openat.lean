/-! TOGETHER, the class: cells open for a way behind the ways laid -/
abbrev LO (w d l A : Int) (Y : Lay) : Prop := (Y.st = stM w d l) ∧ (∀ i, 0 ≤ i → i < A → inC w d l (Y.a i) ∧ inC w d l (Y.t i)) ∧ (∀ i, 0 ≤ i → i < A → Y.a i ≠ Y.t i) ∧ (∀ i j, 0 ≤ i → i < A → 0 ≤ j → j < A → i ≠ j → (Y.a i ≠ Y.a j ∧ Y.a i ≠ Y.t j ∧ Y.t i ≠ Y.t j) ∧ ¬ Y.B i (Y.a j) ∧ ¬ Y.B i (Y.t j)) ∧ (∀ i j, 0 ≤ i → i < A → 0 ≤ j → j < A → ∀ x, inC w d l x → Y.nr i j x x)
theorem LO.st {w d l A : Int} {Y : Lay} (h : LO w d l A Y) : Y.st = stM w d l := h.1
theorem LO.pin {w d l A : Int} {Y : Lay} (h : LO w d l A Y) : ∀ i, 0 ≤ i → i < A → inC w d l (Y.a i) ∧ inC w d l (Y.t i) := h.2.1
theorem LO.ne {w d l A : Int} {Y : Lay} (h : LO w d l A Y) : ∀ i, 0 ≤ i → i < A → Y.a i ≠ Y.t i := h.2.2.1
theorem LO.nn {w d l A : Int} {Y : Lay} (h : LO w d l A Y) : ∀ i j, 0 ≤ i → i < A → 0 ≤ j → j < A → i ≠ j → (Y.a i ≠ Y.a j ∧ Y.a i ≠ Y.t j ∧ Y.t i ≠ Y.t j) ∧ ¬ Y.B i (Y.a j) ∧ ¬ Y.B i (Y.t j) := h.2.2.2.1
theorem LO.nf {w d l A : Int} {Y : Lay} (h : LO w d l A Y) : ∀ i j, 0 ≤ i → i < A → 0 ≤ j → j < A → ∀ x, inC w d l x → Y.nr i j x x := h.2.2.2.2
abbrev TB (w d l A : Int) (Y : Lay) (m : Mem) : Prop := (gridC m w d l) ∧ (LO w d l A Y) ∧ (MK w d l m) ∧ (m 41 6 = A ∧ 0 ≤ A ∧ A ≤ 3) ∧ (∀ i, 0 ≤ i → i < A → (0 ≤ m 42 i ∧ m 42 i < 8) ∧ (0 ≤ m 11 (m 42 i) ∧ m 11 (m 42 i) < 6) ∧ (0 ≤ m 10 (m 11 (m 42 i) * 5 + 3) ∧ m 10 (m 11 (m 42 i) * 5 + 3) ≤ 2) ∧ inC w d l (Y.a i) ∧ inC w d l (Y.t i) ∧ mloC w d l (m 43 i)) ∧ (∀ i, Y.a i = m 14 (m 42 i * 4 + 0)) ∧ (∀ i, Y.t i = m 14 (m 42 i * 4 + 1)) ∧ (∀ i, 0 ≤ i → i < A → ∀ y, Y.B i y ↔ mbt (m 43 i) y) ∧ (∀ i j, 0 ≤ i → i < A → 0 ≤ j → j < A → ∀ x y, Y.nr i j x y ↔ box w d l x (aptC m (m 42 i) (m 42 j)) y)
theorem TB.grid {w d l A : Int} {Y : Lay} {m : Mem} (h : TB w d l A Y m) : gridC m w d l := h.1
theorem TB.lo {w d l A : Int} {Y : Lay} {m : Mem} (h : TB w d l A Y m) : LO w d l A Y := h.2.1
theorem TB.msk {w d l A : Int} {Y : Lay} {m : Mem} (h : TB w d l A Y m) : MK w d l m := h.2.2.1
theorem TB.am {w d l A : Int} {Y : Lay} {m : Mem} (h : TB w d l A Y m) : m 41 6 = A ∧ 0 ≤ A ∧ A ≤ 3 := h.2.2.2.1
theorem TB.ch {w d l A : Int} {Y : Lay} {m : Mem} (h : TB w d l A Y m) : ∀ i, 0 ≤ i → i < A → (0 ≤ m 42 i ∧ m 42 i < 8) ∧ (0 ≤ m 11 (m 42 i) ∧ m 11 (m 42 i) < 6) ∧ (0 ≤ m 10 (m 11 (m 42 i) * 5 + 3) ∧ m 10 (m 11 (m 42 i) * 5 + 3) ≤ 2) ∧ inC w d l (Y.a i) ∧ inC w d l (Y.t i) ∧ mloC w d l (m 43 i) := h.2.2.2.2.1
theorem TB.pa {w d l A : Int} {Y : Lay} {m : Mem} (h : TB w d l A Y m) : ∀ i, Y.a i = m 14 (m 42 i * 4 + 0) := h.2.2.2.2.2.1
theorem TB.pt {w d l A : Int} {Y : Lay} {m : Mem} (h : TB w d l A Y m) : ∀ i, Y.t i = m 14 (m 42 i * 4 + 1) := h.2.2.2.2.2.2.1
theorem TB.pb {w d l A : Int} {Y : Lay} {m : Mem} (h : TB w d l A Y m) : ∀ i, 0 ≤ i → i < A → ∀ y, Y.B i y ↔ mbt (m 43 i) y := h.2.2.2.2.2.2.2.1
theorem TB.pn {w d l A : Int} {Y : Lay} {m : Mem} (h : TB w d l A Y m) : ∀ i j, 0 ≤ i → i < A → 0 ≤ j → j < A → ∀ x y, Y.nr i j x y ↔ box w d l x (aptC m (m 42 i) (m 42 j)) y := h.2.2.2.2.2.2.2.2
theorem TB_same {w d l A : Int} {Y : Lay} {m m' : Mem} (h : TB w d l A Y m) (e : ∀ o, o ≠ 44 → m' o = m o) : TB w d l A Y m' := by
  have e1 := e 1 (by decide)
  have e2 := e 2 (by decide)
  have e3 := e 3 (by decide)
  have e4 := e 4 (by decide)
  have e5 := e 5 (by decide)
  have e10 := e 10 (by decide)
  have e11 := e 11 (by decide)
  have e14 := e 14 (by decide)
  have e41 := e 41 (by decide)
  have e42 := e 42 (by decide)
  have e43 := e 43 (by decide)
  have hg : gridC m' w d l := by
    have := h.grid
    unfold gridC at this ⊢
    rw [e1, e2, e3, e4, e5]
    exact this
  have ha : ∀ i j, aptC m' i j = aptC m i j := fun i j => by unfold aptC; rw [e10, e11]
  exact ⟨hg, h.lo, MK_same e41 h.msk, by rw [e41]; exact h.am, by rw [e42, e11, e10, e43]; exact h.ch, by rw [e14, e42]; exact h.pa, by rw [e14, e42]; exact h.pt, by rw [e43]; exact h.pb, by intro i j a b c e x y; rw [ha, e42]; exact h.pn i j a b c e x y⟩
/-- the cells of the ways laid -/
def Wy (w d l : Int) (m : Mem) (U : List (Int × Int)) (i : Int) : Prop := ∀ j, 0 ≤ j → j < i → mloC w d l (m 44 j) ∧ ∀ x, mbt (m 44 j) x ↔ (j, x) ∈ U
def UB (w d l : Int) (Y : Lay) (U : List (Int × Int)) (i : Int) : Prop := ∀ u ∈ U, (0 ≤ u.1 ∧ u.1 < i) ∧ inC w d l u.2 ∧ (u.2 = Y.a u.1 ∨ u.2 = Y.t u.1 ∨ Y.B u.1 u.2)
set_option maxRecDepth 100000 in
theorem c_X10_openAt (X : Xv) (m : Mem) {w d l A : Int} {Y : Lay} (hD : okD w d l) (h24 : w * d * l ≤ 24) (hT : TB w d l A Y m) (i lj : Int) (hi : 0 ≤ i ∧ i < A) (hlj : 0 ≤ lj ∧ lj ≤ A) {U : List (Int × Int)} (hU : ∀ u ∈ U, 0 ≤ u.1 ∧ u.1 < lj) (hW : Wy w d l m U lj) : kCall (eX X) 2 M_X10_openAt.1 [vR 41, vI i, vI lj] m (fun r m' => ∃ z, (r = some (vI z) ∧ mloC w d l z ∧ ∀ y, mbt z y ↔ Y.fr i U y) ∧ m' = m) := by
  refine kCall_ofT ok_X10_openAt rfl (Nat.le_of_ble_eq_true rfl) (fun T hTT => ?_)
  have hA := hT.am
  have hci := hT.ch i hi.1 hi.2
  have h3i : 0 ≤ i ∧ i < ((3 : Nat) : Int) := by omega
  have loop : ∀ (k : Nat) (j v : Int), j + k = lj → 0 ≤ j → mloC w d l v → (∀ y, mbt v y ↔ Y.B i y ∧ ∀ u ∈ U, u.1 < j → ¬ Y.nr i u.1 u.2 y) → kW (eX X) 1 M_X10_openAt T 1 [some (vR 41), some (vI i), some (vI lj), some (vI v), some (vI (m 10 (m 11 (m 42 i) * 5 + 3))), some (vI j)] [] m := by
    intro k
    induction k with
    | zero =>
      intro j v hk hj hv hb
      have hfin : kW (eX X) 1 M_X10_openAt T 2 [some (vR 41), some (vI i), some (vI lj), some (vI v), some (vI (m 10 (m 11 (m 42 i) * 5 + 3))), some (vI j)] [] m := by
        refine kW_go ok_X10_openAt [] 40 ?_
        refine ⟨h3i, ?_⟩
        refine kCall_mono (c_X3_pinCell X m (m 42 i) 0 hci.1 (by omega)) (Nat.le_of_ble_eq_true rfl) ?_
        rintro _ m ⟨rfl, rfl⟩
        refine ⟨h3i, ?_⟩
        refine kCall_mono (c_X3_pinCell X m (m 42 i) 1 hci.1 (by omega)) (Nat.le_of_ble_eq_true rfl) ?_
        rintro _ m ⟨rfl, rfl⟩
        have p0 := hT.pa i
        have p1 := hT.pt i
        have i0 := hci.2.2.2.1
        have i1 := hci.2.2.2.2.1
        rw [p0] at i0
        rw [p1] at i1
        have hb0 : ∀ x, mbt (kshl 1 (m 14 (m 42 i * 4 + 0))) x ↔ x = m 14 (m 42 i * 4 + 0) := fun x => mbt_bit (by obtain ⟨a, b⟩ := i0; omega)
        have hb1 : ∀ x, mbt (kshl 1 (m 14 (m 42 i * 4 + 1))) x ↔ x = m 14 (m 42 i * 4 + 1) := fun x => mbt_bit (by obtain ⟨a, b⟩ := i1; omega)
        have hz : ∀ y, mbt (kor v (kor (kshl 1 (m 14 (m 42 i * 4 + 0))) (kshl 1 (m 14 (m 42 i * 4 + 1))))) y ↔ Y.fr i U y := by
          intro y
          rw [mbt_or, mbt_or, hb0, hb1, hb]
          unfold Lay.fr
          rw [p0, p1]
          constructor
          · rintro (⟨h1, h2⟩ | h | h)
            · exact Or.inr (Or.inr ⟨h1, fun u hu => h2 u hu (by have := hU u hu; omega)⟩)
            · exact Or.inl h
            · exact Or.inr (Or.inl h)
          · rintro (h | h | ⟨h1, h2⟩)
            · exact Or.inr (Or.inl h)
            · exact Or.inr (Or.inr h)
            · exact Or.inl ⟨h1, fun u hu _ => h2 u hu⟩
        refine hTT _ _ ⟨_, ⟨rfl, ⟨k_in_kor _ _, fun x hx => ?_⟩, hz⟩, rfl⟩
        rcases mbt_or.mp hx with h | h
        · exact hv.2 x h
        · rcases mbt_or.mp h with h | h
          · rw [(hb0 x).mp h]; exact i0
          · rw [(hb1 x).mp h]; exact i1
      refine kW_go ok_X10_openAt [2] 40 ?_
      exact ⟨fun _ => hfin, fun h => absurd h (by omega)⟩
    | succ k ih =>
      intro j v hk hj hv hb
      have hj3 : 0 ≤ j ∧ j < ((3 : Nat) : Int) := by omega
      have hcj := hT.ch j hj (by omega)
      have hWj := hW j hj (by omega)
      have hA6 : m 41 6 = A := hA.1
      have hA7 : fld m 41 6 = A := hA.1
      refine kW_go ok_X10_openAt [1, 2] 40 ?_
      refine ⟨fun h => absurd h (by omega), fun _ => ⟨fun h => absurd h (by omega), fun _ => ⟨hj3, hj3, ?_⟩⟩⟩
      refine kCall_mono (c_X3_setting X m (m 42 j) 3 hcj.1 (by omega) hcj.2.1) (Nat.le_of_ble_eq_true rfl) ?_
      rintro _ m ⟨rfl, rfl⟩
      refine kCall_mono (c_X10_widened X m hD hT.grid hT.msk h24 (m 44 j) (max (m 10 (m 11 (m 42 i) * 5 + 3)) (m 10 (m 11 (m 42 j) * 5 + 3))) hWj.1 (by omega)) (Nat.le_of_ble_eq_true rfl) ?_
      rintro _ m ⟨z, ⟨rfl, hz1, hz2⟩, rfl⟩
      refine ⟨by constructor <;> omega, ih (j + 1) _ (by omega) (by omega) ⟨k_in_kand _ _, fun x hx => hv.2 x (mbt_and.mp hx).1⟩ (fun y => ?_)⟩
      rw [mbt_and]
      constructor
      · rintro ⟨h1, h2⟩
        rw [mbt_not h2.1] at h2
        have h1' := (hb y).mp h1
        refine ⟨h1'.1, fun u hu hlt => ?_⟩
        by_cases e : u.1 = j
        · intro hn
          rw [e, hT.pn i j hi.1 hi.2 hj (by omega)] at hn
          exact h2 ((hz2 y).mpr ⟨u.2, (hWj.2 _).mpr (by rw [← e]; exact hu), hn⟩)
        · exact h1'.2 u hu (by omega)
      · rintro ⟨h1, h2⟩
        have hv' := (hb y).mpr ⟨h1, fun u hu hlt => h2 u hu (by omega)⟩
        refine ⟨hv', (mbt_not hv'.1).mpr (fun q => ?_)⟩
        obtain ⟨x, x1, x2⟩ := (hz2 y).mp q
        exact h2 (j, x) ((hWj.2 x).mp x1) (by show j < j + 1; omega) ((hT.pn i j hi.1 hi.2 hj (by omega) x y).mpr x2)
  refine kW_go ok_X10_openAt [1] 20 ?_
  refine ⟨h3i, h3i, ?_⟩
  refine kCall_mono (c_X3_setting X m (m 42 i) 3 hci.1 (by omega) hci.2.1) (Nat.le_of_ble_eq_true rfl) ?_
  rintro _ m ⟨rfl, rfl⟩
  refine loop lj.toNat 0 (m 43 i) (by omega) (by omega) hci.2.2.2.2.2 (fun y => ?_)
  rw [← hT.pb i hi.1 hi.2]
  exact ⟨fun h => ⟨h, fun u hu hlt => by have := hU u hu; omega⟩, fun h => h.1⟩
theorem c_X10_laterCanJoin (X : Xv) (m : Mem) {w d l A : Int} {Y : Lay} (hD : okD w d l) (hN : w * d * l = (nC X : Int)) (h24 : w * d * l ≤ 24) (hT : TB w d l A Y m) (f lj : Int) (hf : 0 ≤ f ∧ f ≤ A) (hlj : 0 ≤ lj ∧ lj ≤ A) {U : List (Int × Int)} (hU : ∀ u ∈ U, 0 ≤ u.1 ∧ u.1 < lj) (hW : Wy w d l m U lj) : kCall (eX X) 3 M_X10_laterCanJoin.1 [vR 41, vI f, vI lj] m (bP (∀ j, f ≤ j → j < A → Rt Y.st (Y.fr j U) (Y.t j) (Y.a j)) m) := by
  refine kCall_ofT ok_X10_laterCanJoin rfl (Nat.le_of_ble_eq_true rfl) (fun T hTT => ?_)
  have hA := hT.am
  have loop : ∀ (k : Nat) (j : Int) (x4 x5 : Option AV), j + k = A → 0 ≤ j → f ≤ j → (∀ j', f ≤ j' → j' < j → Rt Y.st (Y.fr j' U) (Y.t j') (Y.a j')) → kW (eX X) 2 M_X10_laterCanJoin T 1 [some (vR 41), some (vI f), some (vI lj), some (vI j), x4, x5] [] m := by
    intro k
    induction k with
    | zero =>
      intro j x4 x5 hk hj hfj hb
      have hA6 : m 41 6 = A := hA.1
      have hA7 : fld m 41 6 = A := hA.1
      refine kW_go ok_X10_laterCanJoin [1] 40 ?_
      exact ⟨fun _ => hTT _ _ ⟨Or.inr rfl, Or.inl ⟨fun j' a b => hb j' a (by omega), rfl⟩, rfl⟩, fun h => absurd h (by omega)⟩
    | succ k ih =>
      intro j x4 x5 hk hj hfj hb
      have hj3 : 0 ≤ j ∧ j < ((3 : Nat) : Int) := by omega
      have hcj := hT.ch j hj (by omega)
      have hA6 : m 41 6 = A := hA.1
      have hA7 : fld m 41 6 = A := hA.1
      refine kW_go ok_X10_laterCanJoin [1] 40 ?_
      refine ⟨fun h => absurd h (by omega), fun _ => ⟨hj3, ?_⟩⟩
      refine kCall_mono (c_X3_pinCell X m (m 42 j) 0 hcj.1 (by omega)) (Nat.le_of_ble_eq_true rfl) ?_
      rintro _ m ⟨rfl, rfl⟩
      refine ⟨hj3, ?_⟩
      refine kCall_mono (c_X3_pinCell X m (m 42 j) 1 hcj.1 (by omega)) (Nat.le_of_ble_eq_true rfl) ?_
      rintro _ m ⟨rfl, rfl⟩
      refine kCall_mono (c_X10_openAt X m hD h24 hT j lj ⟨hj, by omega⟩ hlj hU hW) (Nat.le_of_ble_eq_true rfl) ?_
      rintro _ m ⟨z, ⟨rfl, hz1, hz2⟩, rfl⟩
      have p0 := hT.pa j
      have p1 := hT.pt j
      have hne := hT.lo.ne j hj (by omega)
      have i0 := hcj.2.2.2.1
      have i1 := hcj.2.2.2.2.1
      rw [p0] at i0 hne
      rw [p1] at i1 hne
      have hrt : Rt (stM w d l) (mbt z) (m 14 (m 42 j * 4 + 1)) (m 14 (m 42 j * 4 + 0)) ↔ Rt Y.st (Y.fr j U) (Y.t j) (Y.a j) := by
        rw [hT.lo.st, p0, p1]
        exact ⟨fun h => Rt_mono h (fun y => (hz2 y).mp), fun h => Rt_mono h (fun y => (hz2 y).mpr)⟩
      refine kCall_mono (c_X10_canReach X m hD hN hT.grid hT.msk h24 _ _ z i0 i1 hz1 hne) (Nat.le_of_ble_eq_true rfl) ?_
      rintro _ m ⟨⟨hh, rfl⟩ | ⟨hh, rfl⟩, rfl⟩
      · refine And.intro (fun _ => ⟨by constructor <;> omega, ih (j + 1) _ _ (by omega) (by omega) (by omega) (fun j' a b => ?_)⟩) (fun h => absurd h (by decide))
        by_cases e : j' = j
        · rw [e]; exact hrt.mp hh
        · exact hb j' a (by omega)
      · exact And.intro (fun h => absurd rfl h) (fun _ => hTT _ _ ⟨Or.inl rfl, Or.inr ⟨fun q => hh (hrt.mpr (q j (by omega) (by omega))), rfl⟩, rfl⟩)
  refine kW_go ok_X10_laterCanJoin [1] 20 ?_
  exact loop (A - f).toNat f _ _ (by omega) hf.1 (Int.le_refl _) (fun j' a b => by omega)
