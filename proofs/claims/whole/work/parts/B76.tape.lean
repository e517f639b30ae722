/-! FAULT, SORT: what a tape says, and the class's reading of it -/
/-- what a place's sign counts as a digit, or -1 -/
def dgV (v : Int) : Int := if 48 ≤ v ∧ v ≤ 57 then v - 48 else -1
def skF (g : Int → Int) : Nat → Int → Int
  | 0, i => i
  | k + 1, i => if g i = 32 then skF g k (i + 1) else i
/-- the place behind the blanks -/
def skp (g : Int → Int) (n i : Int) : Int := skF g (n - i).toNat i
/-- a tape of n signs, and nothing behind it -/
def TPE (g : Int → Int) (n : Int) : Prop := (0 ≤ n ∧ n ≤ 80) ∧ (∀ i : Int, n ≤ i → g i = -1) ∧ ∀ i : Int, (0 ≤ i ∧ i < n) → 1 ≤ g i
theorem skp_s {g : Int → Int} {n i : Int} (hg : TPE g n) (h : g i = 32) : skp g n i = skp g n (i + 1) := by
  have hi : i < n := Int.not_le.mp (fun q => by have := hg.2.1 i q; omega)
  unfold skp
  rw [show (n - i).toNat = (n - (i + 1)).toNat + 1 by omega]
  show (if g i = 32 then skF g (n - (i + 1)).toNat (i + 1) else i) = _
  rw [if_pos h]
theorem skp_e {g : Int → Int} {n i : Int} (h : g i ≠ 32) : skp g n i = i := by
  unfold skp
  cases (n - i).toNat with
  | zero => rfl
  | succ k => exact if_neg h
theorem skF_in {g : Int → Int} {n : Int} (hg : TPE g n) : ∀ (k : Nat) (i : Int), n - i ≤ k → i ≤ n → (i ≤ skF g k i ∧ skF g k i ≤ n) ∧ g (skF g k i) ≠ 32 := by
  intro k
  induction k with
  | zero =>
    intro i hk hi
    have : g i = -1 := hg.2.1 i (by omega)
    exact ⟨⟨Int.le_refl _, hi⟩, by show g i ≠ 32; omega⟩
  | succ k ih =>
    intro i hk hi
    show (i ≤ (if g i = 32 then skF g k (i + 1) else i) ∧ (if g i = 32 then skF g k (i + 1) else i) ≤ n) ∧ g (if g i = 32 then skF g k (i + 1) else i) ≠ 32
    by_cases h : g i = 32
    · have hi2 : i < n := Int.not_le.mp (fun q => by have := hg.2.1 i q; omega)
      rw [if_pos h]
      have := ih (i + 1) (by omega) (by omega)
      exact ⟨by omega, this.2⟩
    · rw [if_neg h]
      exact ⟨⟨Int.le_refl _, hi⟩, h⟩
theorem skp_in {g : Int → Int} {n i : Int} (hg : TPE g n) (hi : i ≤ n) : (i ≤ skp g n i ∧ skp g n i ≤ n) ∧ g (skp g n i) ≠ 32 := skF_in hg _ i (by omega) hi
theorem dgV_in (v : Int) : -1 ≤ dgV v ∧ dgV v ≤ 9 := by unfold dgV; split <;> omega
theorem dg_lt {g : Int → Int} {n i : Int} (hg : TPE g n) (h : dgV (g i) ≠ -1) : i < n := by
  refine Int.not_le.mp (fun q => h ?_)
  rw [hg.2.1 i q]
  rfl
/-- a number's reading: whether it is right, the place, the value -/
def numF (g : Int → Int) (lo hi i : Int) : Int × Int × Int :=
  if dgV (g i) = -1 then (0, i, lo)
  else if dgV (g (i + 1)) = -1 then (if lo ≤ dgV (g i) ∧ dgV (g i) ≤ hi then (1, i + 1, dgV (g i)) else (0, i, lo))
  else if lo ≤ dgV (g i) * 10 + dgV (g (i + 1)) ∧ dgV (g i) * 10 + dgV (g (i + 1)) ≤ hi then ((if dgV (g (i + 2)) = -1 then 1 else 0), i + 2, dgV (g i) * 10 + dgV (g (i + 1)))
  else (0, i + 1, lo)
/-- layers' reading -/
def layF (g : Int → Int) (n L : Int) : Nat → Int → Int → Int × Int × Int
  | 0, bits, i => ((if bits = 0 then 0 else 1), i, bits)
  | k + 1, bits, i => if dgV (g i) = -1 then ((if bits = 0 then 0 else 1), i, bits) else if L ≤ dgV (g i) ∨ bt bits (dgV (g i)).toNat = true then (0, i, bits) else layF g n L k (kor bits (kshl 1 (dgV (g i)))) (skp g n (i + 1))
def kdA (v : Int) : Int := if v = 115 then 0 else if v = 118 then 1 else if v = 98 then 2 else if v = 99 then 3 else if v = 108 then 4 else -1
/-- a setting's reading: whether it is right, the place, the kinds seen, the settings -/
def setF (g : Int → Int) (n L sn : Int) (st : Int → Int) (i : Int) : Int × Int × Int × (Int → Int) :=
  if kdA (g (skp g n i)) = -1 ∨ bt sn (kdA (g (skp g n i))).toNat = true then (0, skp g n i, sn, st)
  else if kdA (g (skp g n i)) = 4 then ((layF g n L 80 0 (skp g n (skp g n i + 1))).1, (layF g n L 80 0 (skp g n (skp g n i + 1))).2.1, kor sn (kshl 1 4), fun x => if x = 4 then (layF g n L 80 0 (skp g n (skp g n i + 1))).2.2 else st x)
  else ((numF g (leaF (kdA (g (skp g n i)))) (mosF (kdA (g (skp g n i)))) (skp g n (skp g n i + 1))).1, (numF g (leaF (kdA (g (skp g n i)))) (mosF (kdA (g (skp g n i)))) (skp g n (skp g n i + 1))).2.1, kor sn (kshl 1 (kdA (g (skp g n i)))), fun x => if x = kdA (g (skp g n i)) then (numF g (leaF (kdA (g (skp g n i)))) (mosF (kdA (g (skp g n i)))) (skp g n (skp g n i + 1))).2.2 else st x)
/-- the whole tape's: the first fault's place or -1, and the settings -/
def scF (g : Int → Int) (n L : Int) : Nat → Int → (Int → Int) → Int → Int × (Int → Int)
  | 0, _, st, i => (i, st)
  | k + 1, sn, st, i => if (setF g n L sn st i).1 = 0 then ((setF g n L sn st i).2.1, st)
    else if n ≤ skp g n (setF g n L sn st i).2.1 then (-1, (setF g n L sn st i).2.2.2)
    else if g (skp g n (setF g n L sn st i).2.1) ≠ 44 then (skp g n (setF g n L sn st i).2.1, st)
    else scF g n L k (setF g n L sn st i).2.2.1 (setF g n L sn st i).2.2.2 (skp g n (setF g n L sn st i).2.1 + 1)
theorem numF_in {g : Int → Int} {n lo hi i : Int} (hg : TPE g n) (hi' : i ≤ n) : ((numF g lo hi i).1 = 0 ∨ (numF g lo hi i).1 = 1) ∧ (i ≤ (numF g lo hi i).2.1 ∧ (numF g lo hi i).2.1 ≤ n) ∧ ((numF g lo hi i).1 = 1 → lo ≤ (numF g lo hi i).2.2 ∧ (numF g lo hi i).2.2 ≤ hi) := by
  unfold numF
  by_cases h1 : dgV (g i) = -1
  · rw [if_pos h1]
    exact ⟨Or.inl rfl, ⟨Int.le_refl _, hi'⟩, fun h => absurd h (by show ¬ (0 : Int) = 1; decide)⟩
  · have a1 := dg_lt hg h1
    rw [if_neg h1]
    by_cases h2 : dgV (g (i + 1)) = -1
    · rw [if_pos h2]
      by_cases h3 : lo ≤ dgV (g i) ∧ dgV (g i) ≤ hi
      · rw [if_pos h3]
        exact ⟨Or.inr rfl, ⟨by show i ≤ i + 1; omega, by show i + 1 ≤ n; omega⟩, fun _ => h3⟩
      · rw [if_neg h3]
        exact ⟨Or.inl rfl, ⟨Int.le_refl _, hi'⟩, fun h => absurd h (by show ¬ (0 : Int) = 1; decide)⟩
    · have a2 := dg_lt hg h2
      rw [if_neg h2]
      by_cases h3 : lo ≤ dgV (g i) * 10 + dgV (g (i + 1)) ∧ dgV (g i) * 10 + dgV (g (i + 1)) ≤ hi
      · rw [if_pos h3]
        refine ⟨?_, ⟨by show i ≤ i + 2; omega, by show i + 2 ≤ n; omega⟩, fun _ => h3⟩
        show (if dgV (g (i + 2)) = -1 then (1 : Int) else 0) = 0 ∨ (if dgV (g (i + 2)) = -1 then (1 : Int) else 0) = 1
        split
        · exact Or.inr rfl
        · exact Or.inl rfl
      · rw [if_neg h3]
        exact ⟨Or.inl rfl, ⟨by show i ≤ i + 1; omega, by show i + 1 ≤ n; omega⟩, fun h => absurd h (by show ¬ (0 : Int) = 1; decide)⟩
theorem lay_step : ∀ (b : Fin 16) (k : Fin 4), 0 ≤ kor (b.val : Int) (kshl 1 (k.val : Int)) ∧ kor (b.val : Int) (kshl 1 (k.val : Int)) < 16 := by decide +kernel
theorem layF_in {g : Int → Int} {n L : Int} (hg : TPE g n) (hL : 1 ≤ L ∧ L ≤ 4) : ∀ (k : Nat) (bits i : Int), (0 ≤ bits ∧ bits < 16) → i ≤ n → ((layF g n L k bits i).1 = 0 ∨ (layF g n L k bits i).1 = 1) ∧ (i ≤ (layF g n L k bits i).2.1 ∧ (layF g n L k bits i).2.1 ≤ n) ∧ (0 ≤ (layF g n L k bits i).2.2 ∧ (layF g n L k bits i).2.2 < 16) := by
  intro k
  induction k with
  | zero =>
    intro bits i hb hi
    refine ⟨?_, ⟨Int.le_refl _, hi⟩, hb⟩
    show (if bits = 0 then (0 : Int) else 1) = 0 ∨ (if bits = 0 then (0 : Int) else 1) = 1
    split
    · exact Or.inl rfl
    · exact Or.inr rfl
  | succ k ih =>
    intro bits i hb hi
    unfold layF
    by_cases h1 : dgV (g i) = -1
    · rw [if_pos h1]
      refine ⟨?_, ⟨Int.le_refl _, hi⟩, hb⟩
      show (if bits = 0 then (0 : Int) else 1) = 0 ∨ (if bits = 0 then (0 : Int) else 1) = 1
      split
      · exact Or.inl rfl
      · exact Or.inr rfl
    · rw [if_neg h1]
      by_cases h2 : L ≤ dgV (g i) ∨ bt bits (dgV (g i)).toNat = true
      · rw [if_pos h2]
        exact ⟨Or.inl rfl, ⟨Int.le_refl _, hi⟩, hb⟩
      · rw [if_neg h2]
        have hlt := dg_lt hg h1
        have hd := dgV_in (g i)
        have hd4 : dgV (g i) < L := Int.not_le.mp (fun q => h2 (Or.inl q))
        have hs := lay_step ⟨bits.toNat, by omega⟩ ⟨(dgV (g i)).toNat, by omega⟩
        simp only [Int.toNat_of_nonneg hb.1, Int.toNat_of_nonneg (show 0 ≤ dgV (g i) by omega)] at hs
        have hp := skp_in hg (i := i + 1) (by omega)
        have := ih _ (skp g n (i + 1)) hs hp.1.2
        exact ⟨this.1, by omega, this.2.2⟩
/-- the class's tape -/
def CT (g : Int → Int) (n L : Int) (m : Mem) : Prop := m 6 0 = L ∧ m 6 3 = n ∧ ∀ i : Int, (0 ≤ i ∧ i < n) → m 7 i = g i
/-- only the place moved, and what was found -/
def tpS (m m' : Mem) : Prop := (∀ o, o ≠ 6 → o ≠ 8 → m' o = m o) ∧ ∀ f : Int, f ≠ 4 → f ≠ 5 → m' 6 f = m 6 f
theorem tpS_rf {m : Mem} : tpS m m := ⟨fun _ _ _ => rfl, fun _ _ _ => rfl⟩
theorem tpS_tr {a b c : Mem} (h : tpS a b) (h2 : tpS b c) : tpS a c := ⟨fun o x y => by rw [h2.1 o x y]; exact h.1 o x y, fun f x y => by rw [h2.2 f x y]; exact h.2 f x y⟩
theorem tpS_6 {m : Mem} {f v : Int} (hf : f = 4 ∨ f = 5) : tpS m (mset m 6 f v) := ⟨fun o a _ => k_mset_ne a, fun f' a b => by rw [k_mset_at, if_neg (by omega)]⟩
theorem tpS_8 {m : Mem} {i v : Int} : tpS m (mset m 8 i v) := ⟨fun o _ b => k_mset_ne b, fun f _ _ => by rw [k_mset_ne (by decide)]⟩
theorem CT_s {g : Int → Int} {n L : Int} {m m' : Mem} (h : CT g n L m) (hs : tpS m m') : CT g n L m' := ⟨by rw [hs.2 0 (by decide) (by decide)]; exact h.1, by rw [hs.2 3 (by decide) (by decide)]; exact h.2.1, fun i hi => by rw [hs.1 7 (by decide) (by decide)]; exact h.2.2 i hi⟩
theorem c_X8_skipBlanks (X : Xv) (m : Mem) {g : Int → Int} {n L : Int} (hg : TPE g n) (hC : CT g n L m) (i : Int) (h4 : m 6 4 = i) (hi : 0 ≤ i ∧ i ≤ n) : kCall (eX X) 1 M_X8_skipBlanks.1 [vR 6] m (fun r m' => r = none ∧ (∀ o, o ≠ 6 → m' o = m o) ∧ (∀ f : Int, f ≠ 4 → m' 6 f = m 6 f) ∧ m' 6 4 = skp g n i) := by
  refine kCall_ofT ok_X8_skipBlanks rfl (Nat.le_of_ble_eq_true rfl) (fun T hT => ?_)
  have loop : ∀ (k : Nat) (j : Int) (mm : Mem), n - j ≤ k → (0 ≤ j ∧ j ≤ n) → (∀ o, o ≠ 6 → mm o = m o) → (∀ f : Int, f ≠ 4 → mm 6 f = m 6 f) → mm 6 4 = j → skp g n j = skp g n i → kW (eX X) 0 M_X8_skipBlanks T 0 [some (vR 6)] [] mm := by
    intro k
    induction k with
    | zero =>
      intro j mm hk hj h1 h2 h3 h5
      have e3 : mm 6 3 = n := by rw [h2 3 (by decide)]; exact hC.2.1
      refine kW_go ok_X8_skipBlanks [0] 20 ?_
      refine And.intro (fun _ => hT _ _ ⟨rfl, h1, h2, ?_⟩) (fun h => ?_)
      · rw [h3, ← h5]
        exact (skp_e (by rw [hg.2.1 j (by omega)]; decide)).symm
      · have h : mm 6 4 < mm 6 3 := h
        omega
    | succ k ih =>
      intro j mm hk hj h1 h2 h3 h5
      have e3 : mm 6 3 = n := by rw [h2 3 (by decide)]; exact hC.2.1
      have e7 : mm 7 = m 7 := h1 7 (by decide)
      refine kW_go ok_X8_skipBlanks [0] 20 ?_
      show (mm 6 3 ≤ mm 6 4 → T none mm) ∧ (mm 6 4 < mm 6 3 → (0 ≤ mm 6 4 ∧ mm 6 4 < ((80 : Nat) : Int)) ∧ (¬ mm 7 (mm 6 4) = 32 → T none mm) ∧ (mm 7 (mm 6 4) = 32 → inR (mm 6 4 + 1) ∧ kW (eX X) 0 M_X8_skipBlanks T 0 [some (vR 6)] [] (mset mm 6 4 (mm 6 4 + 1))))
      rw [e3, h3, e7]
      refine ⟨fun h => hT _ _ ⟨rfl, h1, h2, ?_⟩, fun h => ⟨by have := hg.1; omega, fun h6 => hT _ _ ⟨rfl, h1, h2, ?_⟩, fun h6 => ⟨by have := hg.1; constructor <;> omega, ih (j + 1) _ (by omega) (by omega) (fun o ho => by rw [k_mset_ne ho]; exact h1 o ho) (fun f hf => by rw [k_mset_at, if_neg hf]; exact h2 f hf) (by rw [k_mset_at, if_pos rfl]) ?_⟩⟩⟩
      · rw [h3, ← h5]
        exact (skp_e (by rw [hg.2.1 j h]; decide)).symm
      · rw [h3, ← h5]
        rw [hC.2.2 j ⟨hj.1, h⟩] at h6
        exact (skp_e h6).symm
      · rw [hC.2.2 j ⟨hj.1, h⟩] at h6
        rw [← h5]
        exact (skp_s hg h6).symm
  exact loop (n - i).toNat i m (by omega) hi (fun _ _ => rfl) (fun _ _ => rfl) h4 rfl
theorem c_X8_digitHere (X : Xv) (m : Mem) {g : Int → Int} {n L : Int} (hg : TPE g n) (hC : CT g n L m) (i : Int) (h4 : m 6 4 = i) (hi : 0 ≤ i) : kCall (eX X) 1 M_X8_digitHere.1 [vR 6] m (cP (dgV (g i)) m) := by
  refine kCall_ofT ok_X8_digitHere rfl (Nat.le_of_ble_eq_true rfl) (fun T hT => ?_)
  have e3 : m 6 3 = n := hC.2.1
  refine kW_go ok_X8_digitHere [] 20 ?_
  show (m 6 3 ≤ m 6 4 → T (some (vI (-1))) m) ∧ (m 6 4 < m 6 3 → (0 ≤ m 6 4 ∧ m 6 4 < ((80 : Nat) : Int)) ∧ (m 7 (m 6 4) < 48 → T (some (vI (-1))) m) ∧ (48 ≤ m 7 (m 6 4) → (0 ≤ m 6 4 ∧ m 6 4 < ((80 : Nat) : Int)) ∧ (m 7 (m 6 4) ≤ 57 → (0 ≤ m 6 4 ∧ m 6 4 < ((80 : Nat) : Int)) ∧ inR (m 7 (m 6 4) - 48) ∧ T (some (vI (m 7 (m 6 4) - 48))) m) ∧ (57 < m 7 (m 6 4) → T (some (vI (-1))) m)))
  rw [e3, h4]
  refine ⟨fun h => hT _ _ ⟨?_, rfl⟩, fun h => ?_⟩
  · rw [hg.2.1 i h]; rfl
  · rw [hC.2.2 i ⟨hi, h⟩]
    have hb : 0 ≤ i ∧ i < ((80 : Nat) : Int) := by have := hg.1; omega
    refine ⟨hb, fun h1 => hT _ _ ⟨?_, rfl⟩, fun h1 => ⟨hb, fun h2 => ⟨hb, by constructor <;> omega, hT _ _ ⟨?_, rfl⟩⟩, fun h2 => hT _ _ ⟨?_, rfl⟩⟩⟩
    · unfold dgV; rw [if_neg (by omega)]
    · unfold dgV; rw [if_pos ⟨h1, h2⟩]
    · unfold dgV; rw [if_neg (by omega)]
theorem c_X8_kindHere (X : Xv) (m : Mem) {g : Int → Int} {n L : Int} (hg : TPE g n) (hC : CT g n L m) (i : Int) (h4 : m 6 4 = i) (hi : 0 ≤ i) : kCall (eX X) 1 M_X8_kindHere.1 [vR 6] m (cP (kdA (g i)) m) := by
  refine kCall_ofT ok_X8_kindHere rfl (Nat.le_of_ble_eq_true rfl) (fun T hT => ?_)
  have e3 : m 6 3 = n := hC.2.1
  have hlet : ∀ j : Fin 5, kdA (letF (j.val : Int)) = (j.val : Int) := by decide +kernel
  have loop : ∀ (q : Nat) (k : Int), i < n → k + q = 5 → 0 ≤ k → (∀ j : Int, (0 ≤ j ∧ j < k) → g i ≠ letF j) → kW (eX X) 0 M_X8_kindHere T 1 [some (vR 6), some (vI k)] [] m := by
    intro q
    induction q with
    | zero =>
      intro k hin hk h0 hno
      refine kW_go ok_X8_kindHere [1] 20 ?_
      refine And.intro (fun _ => hT _ _ ⟨?_, rfl⟩) (fun h => absurd h (by omega))
      have a0 : g i ≠ 115 := hno 0 (by omega)
      have a1 : g i ≠ 118 := hno 1 (by omega)
      have a2 : g i ≠ 98 := hno 2 (by omega)
      have a3 : g i ≠ 99 := hno 3 (by omega)
      have a4 : g i ≠ 108 := hno 4 (by omega)
      unfold kdA
      rw [if_neg a0, if_neg a1, if_neg a2, if_neg a3, if_neg a4]
    | succ q ih =>
      intro k hin hk h0 hno
      have hb : 0 ≤ i ∧ i < ((80 : Nat) : Int) := by have := hg.1; omega
      refine kW_go ok_X8_kindHere [1] 20 ?_
      show (5 ≤ k → _) ∧ (k < 5 → (0 ≤ m 6 4 ∧ m 6 4 < ((80 : Nat) : Int)) ∧ (0 ≤ k ∧ k < ((5 : Nat) : Int)) ∧ (¬ m 7 (m 6 4) = letF k → inR (k + 1) ∧ kW (eX X) 0 M_X8_kindHere T 1 [some (vR 6), some (vI (k + 1))] [] m) ∧ (m 7 (m 6 4) = letF k → T (some (vI k)) m))
      rw [h4, hC.2.2 i ⟨hi, hin⟩]
      refine ⟨fun h => absurd h (by omega), fun _ => ⟨hb, by omega, fun h => ⟨by constructor <;> omega, ih (k + 1) hin (by omega) (by omega) (fun j hj => ?_)⟩, fun h => hT _ _ ⟨?_, rfl⟩⟩⟩
      · by_cases e : j = k
        · rw [e]; exact h
        · exact hno j (by omega)
      · have := hlet ⟨k.toNat, by omega⟩
        simp only [Int.toNat_of_nonneg h0] at this
        rw [h, this]
  refine kW_go ok_X8_kindHere [1] 20 ?_
  show (m 6 3 ≤ m 6 4 → T (some (vI (-1))) m) ∧ (m 6 4 < m 6 3 → kW (eX X) 0 M_X8_kindHere T 1 [some (vR 6), some (vI 0)] [] m)
  rw [e3, h4]
  refine ⟨fun h => hT _ _ ⟨?_, rfl⟩, fun h => loop 5 0 h (by omega) (by omega) (fun j hj => by omega)⟩
  rw [hg.2.1 i h]
  rfl
