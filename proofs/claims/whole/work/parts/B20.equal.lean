/-! EQUAL alike -/
def setOk (m : Mem) (s : Int) : Prop := s ≠ 0 ∧ ltB s (m 9 14)
theorem c_X11_areNets (X : Xv) (m : Mem) (s : Int) (hs : inR s) (h8 : 0 ≤ m 9 14 ∧ m 9 14 ≤ 8) : kCall (eX X) 1 M_X11_areNets.1 [vR 0, vI s] m (bP (setOk m s) m) := by
  refine kCall_ofT ok_X11_areNets rfl (Nat.le_of_ble_eq_true rfl) (fun T hT => ?_)
  have hno : ¬ setOk m s → T (some (vI 0)) m := fun h => hT _ _ ⟨Or.inl rfl, Or.inr ⟨h, rfl⟩, rfl⟩
  have hmsk := k_msk_in h8.1 h8.2
  refine kW_go ok_X11_areNets [] 20 ?_
  show (s = 0 → T (some (vI 0)) m) ∧ (¬ s = 0 → inR (kshl 1 (m 9 14) - 1) ∧ ((¬ kand s (kxor (kshl 1 (m 9 14) - 1) (-1)) = 0 → T (some (vI 0)) m) ∧ (kand s (kxor (kshl 1 (m 9 14) - 1) (-1)) = 0 → T (some (vI 1)) m)))
  refine ⟨fun h => hno (fun q => q.1 h), fun h => ⟨by constructor <;> omega, fun h2 => hno (fun q => h2 ((k_and_hi hs h8.1 h8.2).mpr q.2)), fun h2 => hT _ _ ⟨Or.inr rfl, Or.inl ⟨⟨h, (k_and_hi hs h8.1 h8.2).mp h2⟩, rfl⟩, rfl⟩⟩⟩
/-- the least and the most of some nets -/
def mnF (f : Int → Int) (s top : Int) : Nat → Int
  | 0 => top
  | n + 1 => if bt s n = true then min (mnF f s top n) (f n) else mnF f s top n
def mxF (f : Int → Int) (s : Int) : Nat → Int
  | 0 => 0
  | n + 1 => if bt s n = true then max (mxF f s n) (f n) else mxF f s n
theorem mnF_in {f : Int → Int} {s top : Int} (ht : 972 ≤ top) : ∀ {n : Nat}, (∀ i : Int, (0 ≤ i ∧ i < n) → 0 ≤ f i ∧ f i ≤ 972) → 0 ≤ mnF f s top n ∧ mnF f s top n ≤ top := by
  intro n
  induction n with
  | zero => intro _; exact ⟨by show 0 ≤ top; omega, Int.le_refl _⟩
  | succ n ih =>
    intro h
    have h1 := ih (fun i hi => h i (by omega))
    have h2 := h (n : Int) (by omega)
    show 0 ≤ (if bt s n = true then min (mnF f s top n) (f n) else mnF f s top n) ∧ (if bt s n = true then min (mnF f s top n) (f n) else mnF f s top n) ≤ top
    split <;> omega
theorem mxF_in {f : Int → Int} {s : Int} : ∀ {n : Nat}, (∀ i : Int, (0 ≤ i ∧ i < n) → 0 ≤ f i ∧ f i ≤ 972) → 0 ≤ mxF f s n ∧ mxF f s n ≤ 972 := by
  intro n
  induction n with
  | zero => intro _; exact ⟨Int.le_refl _, (by show (0 : Int) ≤ 972; decide)⟩
  | succ n ih =>
    intro h
    have h1 := ih (fun i hi => h i (by omega))
    have h2 := h (n : Int) (by omega)
    show 0 ≤ (if bt s n = true then max (mxF f s n) (f n) else mxF f s n) ∧ (if bt s n = true then max (mxF f s n) (f n) else mxF f s n) ≤ 972
    split <;> omega
theorem mnF_two {f : Int → Int} {s t1 t2 : Int} (h1 : 972 ≤ t1) (h2 : 972 ≤ t2) : ∀ {n : Nat}, (∀ i : Int, (0 ≤ i ∧ i < n) → 0 ≤ f i ∧ f i ≤ 972) → mnF f s t1 n = mnF f s t2 n ∨ (mnF f s t1 n = t1 ∧ mnF f s t2 n = t2) := by
  intro n
  induction n with
  | zero => intro _; exact Or.inr ⟨rfl, rfl⟩
  | succ n ih =>
    intro h
    have hi := ih (fun i hi => h i (by omega))
    have hf := h (n : Int) (by omega)
    show (if bt s n = true then min (mnF f s t1 n) (f n) else mnF f s t1 n) = (if bt s n = true then min (mnF f s t2 n) (f n) else mnF f s t2 n) ∨ ((if bt s n = true then min (mnF f s t1 n) (f n) else mnF f s t1 n) = t1 ∧ (if bt s n = true then min (mnF f s t2 n) (f n) else mnF f s t2 n) = t2)
    split
    · left; omega
    · exact hi
def eqOk (m : Mem) (s b : Int) : Prop := setOk m s ∧ 0 ≤ b ∧ b ≤ 200
def eqA (N : Nat) (c : Mem) (top s b : Int) : Int := if mxF (lenA N c) s (c 9 14).toNat - mnF (lenA N c) s top (c 9 14).toNat ≤ b then 1 else 0
theorem eqA_two {N : Nat} {c : Mem} {s b : Int} (hb : 0 ≤ b) (hl : ∀ i : Int, (0 ≤ i ∧ i < ((c 9 14).toNat : Int)) → 0 ≤ lenA N c i ∧ lenA N c i ≤ 972) : eqA N c 2147483647 s b = eqA N c 1000000000 s b := by
  have h1 := mnF_two (s := s) (t1 := 2147483647) (t2 := 1000000000) (by decide) (by decide) hl
  have h2 := mxF_in (s := s) hl
  unfold eqA
  rcases h1 with h1 | ⟨h1, h1'⟩
  · rw [h1]
  · rw [h1, h1', if_pos (by omega), if_pos (by omega)]
set_option maxRecDepth 100000 in
theorem c_X11_equal (X : Xv) (m : Mem) {w d l : Int} (hB : Bd X w d l m) (h8 : 0 ≤ m 9 14 ∧ m 9 14 ≤ 8) (hl : ∀ i : Int, (0 ≤ i ∧ i < m 9 14) → 0 ≤ lenA (nC X) m i ∧ lenA (nC X) m i ≤ 972) (s b : Int) (hs : inR s) : kCall (eX X) 4 M_X11_equal.1 [vR 0, vI s, vI b] m (fun r m' => ((eqOk m s b ∧ r = some (vI (eqA (nC X) m 2147483647 s b))) ∨ (¬ eqOk m s b ∧ r = some (vI (-1)))) ∧ m' = m) := by
  obtain ⟨hD, hN, hG⟩ := id hB
  have hc4 := okD_cells hD
  have g4 : m 1 4 = (nC X : Int) := by rw [hG.2.2.2.2.1]; exact hN
  refine kCall_ofT ok_X11_equal rfl (Nat.le_of_ble_eq_true rfl) (fun T hT => ?_)
  have hno : ¬ eqOk m s b → T (some (vI (-1))) m := fun h => hT _ _ ⟨Or.inr ⟨h, rfl⟩, rfl⟩
  refine kW_go ok_X11_equal [2] 20 ?_
  refine kCall_mono (c_X11_areNets X m s hs h8) (Nat.le_of_ble_eq_true rfl) ?_
  rintro _ m ⟨⟨hk, rfl⟩ | ⟨hk, rfl⟩, rfl⟩
  · refine And.intro (fun h => absurd h (by decide)) (fun _ => And.intro (fun h => hno (fun q => by have := q.2; omega)) (fun h => And.intro (fun h2 => ?_) (fun h2 => hno (fun q => by have := q.2; omega))))
    have hok : eqOk m s b := ⟨hk, h, h2⟩
    have loop : ∀ (k n : Nat) (x6 : Option AV), (n : Int) + k = m 9 14 → kW (eX X) 3 M_X11_equal T 3 [some (vR 0), some (vI s), some (vI b), some (vI (mnF (lenA (nC X) m) s 2147483647 n)), some (vI (mxF (lenA (nC X) m) s n)), some (vI (n : Int)), x6] [] m := by
      intro k
      induction k with
      | zero =>
        intro n x6 hnk
        have hn : n = (m 9 14).toNat := by omega
        have b1 := mnF_in (s := s) (top := 2147483647) (n := n) (by decide) (fun i hi => hl i (by omega))
        have b2 := mxF_in (s := s) (n := n) (fun i hi => hl i (by omega))
        refine kW_go ok_X11_equal [3] 20 ?_
        refine And.intro (fun _ => ⟨by constructor <;> omega, And.intro (fun h3 => hT _ _ ⟨Or.inl ⟨hok, ?_⟩, rfl⟩) (fun h3 => hT _ _ ⟨Or.inl ⟨hok, ?_⟩, rfl⟩)⟩) (fun h3 => ?_)
        · unfold eqA; rw [← hn, if_neg (by omega)]
        · unfold eqA; rw [← hn, if_pos (by omega)]
        · have h3 : (n : Int) < m 9 14 := h3
          omega
      | succ k ih =>
        intro n x6 hnk
        have hn8 : 0 ≤ (n : Int) ∧ (n : Int) < 8 := by omega
        refine kW_go ok_X11_equal [3] 20 ?_
        refine And.intro (fun h3 => ?_) (fun _ => And.intro (fun h3 => ?_) (fun h3 => ?_))
        · have h3 : m 9 14 ≤ (n : Int) := h3
          omega
        · have hb := (k_ask0 hn8.1 (by omega)).mp h3
          rw [Int.toNat_natCast] at hb
          have hih := ih (n + 1) x6 (by omega)
          have e1 : mnF (lenA (nC X) m) s 2147483647 (n + 1) = mnF (lenA (nC X) m) s 2147483647 n := if_neg (by rw [hb]; decide)
          have e2 : mxF (lenA (nC X) m) s (n + 1) = mxF (lenA (nC X) m) s n := if_neg (by rw [hb]; decide)
          rw [e1, e2] at hih
          exact ⟨by constructor <;> omega, hih⟩
        · have hb : bt s n = true := by
            cases hh : bt s n with
            | true => rfl
            | false => exact absurd ((k_ask0 hn8.1 (by omega)).mpr (by rw [Int.toNat_natCast]; exact hh)) h3
          refine kCall_mono (c_X3_lengthOf X m n (by omega) g4 hn8) (Nat.le_of_ble_eq_true rfl) ?_
          rintro _ m2 ⟨rfl, rfl⟩
          have hih := ih (n + 1) (some (vI (lenA (nC X) m2 n))) (by omega)
          have e1 : mnF (lenA (nC X) m2) s 2147483647 (n + 1) = min (mnF (lenA (nC X) m2) s 2147483647 n) (lenA (nC X) m2 n) := if_pos hb
          have e2 : mxF (lenA (nC X) m2) s (n + 1) = max (mxF (lenA (nC X) m2) s n) (lenA (nC X) m2 n) := if_pos hb
          rw [e1, e2] at hih
          exact ⟨by constructor <;> omega, hih⟩
    refine kW_go ok_X11_equal [3] 20 ?_
    exact loop (m 9 14).toNat 0 none (by omega)
  · exact And.intro (fun _ => hno (fun q => hk q.1)) (fun h => absurd rfl h)
set_option maxRecDepth 100000 in
theorem c_X12_equal (X : Xv) (c m : Mem) {w d l : Int} (hD : okD w d l) (hN : w * d * l = (nC X : Int)) (hM : WM w d l c) (hR : RR0 w d l c m) (s b : Int) (hs : inR s) : kCall (eX X) 4 M_X12_equal.1 [vR 54, vI s, vI b] m (fun r m' => ((eqOk c s b ∧ r = some (vI (eqA (nC X) c 1000000000 s b))) ∨ (¬ eqOk c s b ∧ r = some (vI (-1)))) ∧ m' = m) := by
  have h8 := hM.1.2.1
  have h26 : m 54 26 = c 9 14 := hR.1.2.2.2.1.1
  have hl : ∀ i : Int, (0 ≤ i ∧ i < 8) → 0 ≤ lenA (nC X) c i ∧ lenA (nC X) c i ≤ 972 := fun i hi => (len_list hD hN hi (hM.2.2.1 i hi) (RRn_k.mp (hR.2 i hi)).1).2.2
  refine kCall_ofT ok_X12_equal rfl (Nat.le_of_ble_eq_true rfl) (fun T hT => ?_)
  have hno : ¬ eqOk c s b → T (some (vI (-1))) m := fun h => hT _ _ ⟨Or.inr ⟨h, rfl⟩, rfl⟩
  refine kW_go ok_X12_equal [2] 20 ?_
  show (s ≤ 0 → T (some (vI (-1))) m) ∧ (0 < s → (¬ kshr s (m 54 26) = 0 → T (some (vI (-1))) m) ∧ (kshr s (m 54 26) = 0 → _))
  rw [h26]
  refine ⟨fun h => hno (fun q => ?_), fun h => ⟨fun h2 => hno (fun q => h2 ((k_shr_hi hs h8.1 h8.2).mpr q.1.2)), fun h2 => ?_⟩⟩
  · have h1 := q.1.1
    have h2 := q.1.2.1
    omega
  have hk : setOk c s := ⟨by omega, (k_shr_hi hs h8.1 h8.2).mp h2⟩
  refine kCall_mono (c_X12_in (eX X) m b 0 200) (Nat.le_of_ble_eq_true rfl) ?_
  rintro _ m ⟨rfl, rfl⟩
  refine And.intro (fun hb => ?_) (fun hb => hno (fun q => b2i_0.mp hb q.2))
  have hok : eqOk c s b := ⟨hk, b2i_n.mp hb⟩
  have loop : ∀ (k n : Nat), (n : Int) + k = c 9 14 → kW (eX X) 3 M_X12_equal T 3 [some (vR 54), some (vI s), some (vI b), some (vI (mnF (lenA (nC X) c) s 1000000000 n)), some (vI (mxF (lenA (nC X) c) s n)), some (vI (n : Int))] [] m := by
    intro k
    induction k with
    | zero =>
      intro n hnk
      have hn : n = (c 9 14).toNat := by omega
      have b1 := mnF_in (s := s) (top := 1000000000) (n := n) (by decide) (fun i hi => hl i (by omega))
      have b2 := mxF_in (s := s) (n := n) (fun i hi => hl i (by omega))
      refine kW_go ok_X12_equal [3] 20 ?_
      refine And.intro (fun _ => ⟨by constructor <;> omega, And.intro (fun h3 => hT _ _ ⟨Or.inl ⟨hok, ?_⟩, rfl⟩) (fun h3 => hT _ _ ⟨Or.inl ⟨hok, ?_⟩, rfl⟩)⟩) (fun h3 => ?_)
      · unfold eqA; rw [← hn, if_neg (by omega)]
      · unfold eqA; rw [← hn, if_pos (by omega)]
      · have h3 : (n : Int) < m 54 26 := h3
        omega
    | succ k ih =>
      intro n hnk
      have hn8 : 0 ≤ (n : Int) ∧ (n : Int) < 8 := by omega
      have hlen := fun mm : Mem => c_X12_lengthOf X c m hD hN n hn8 (hM.2.2.1 n hn8) (RRn_k.mp (hR.2 n hn8)).1
      refine kW_go ok_X12_equal [3] 20 ?_
      refine And.intro (fun h3 => ?_) (fun _ => And.intro (fun h3 => ?_) (fun h3 => ?_))
      · have h3 : m 54 26 ≤ (n : Int) := h3
        omega
      · have hb : bt s n = false := by
          cases hh : bt s n with
          | false => rfl
          | true => exact absurd ((k_ask1 hn8.1 (by omega)).mpr (by rw [Int.toNat_natCast]; exact hh)) h3
        have hih := ih (n + 1) (by omega)
        have e1 : mnF (lenA (nC X) c) s 1000000000 (n + 1) = mnF (lenA (nC X) c) s 1000000000 n := if_neg (by rw [hb]; decide)
        have e2 : mxF (lenA (nC X) c) s (n + 1) = mxF (lenA (nC X) c) s n := if_neg (by rw [hb]; decide)
        rw [e1, e2] at hih
        exact ⟨by constructor <;> omega, hih⟩
      · have hb := (k_ask1 hn8.1 (by omega)).mp h3
        rw [Int.toNat_natCast] at hb
        refine kCall_mono (hlen m) (Nat.le_of_ble_eq_true rfl) ?_
        rintro _ m2 ⟨rfl, rfl⟩
        refine kCall_mono (hlen m2) (Nat.le_of_ble_eq_true rfl) ?_
        rintro _ m3 ⟨rfl, rfl⟩
        have hih := ih (n + 1) (by omega)
        have e1 : mnF (lenA (nC X) c) s 1000000000 (n + 1) = min (mnF (lenA (nC X) c) s 1000000000 n) (lenA (nC X) c n) := if_pos hb
        have e2 : mxF (lenA (nC X) c) s (n + 1) = max (mxF (lenA (nC X) c) s n) (lenA (nC X) c n) := if_pos hb
        rw [e1, e2] at hih
        exact ⟨by constructor <;> omega, hih⟩
  refine kW_go ok_X12_equal [3] 20 ?_
  exact loop (c 9 14).toNat 0 (by omega)
theorem pair_equal (X : Xv) (m : Mem) {w d l : Int} (hI : Inv X w d l m) (s b : Int) (hs : inR s) : kPair X 154 270 [vI s, vI b] m (Inv X w d l) := by
  have hD := hI.1.1
  have hW := hI.2.2.1
  have hR0 := RR_0 hI.2.2.2.1
  have hN := hI.1.2.1
  have h8 := hW.1.2.1
  have hl : ∀ i : Int, (0 ≤ i ∧ i < m 9 14) → 0 ≤ lenA (nC X) m i ∧ lenA (nC X) m i ≤ 972 := fun i hi => (len_list hD hN (n := i) (by omega) (hW.2.2.1 i (by omega)) (RRn_k.mp (hR0.2 i (by omega))).1).2.2
  refine kp2 (k1 := 4) (k2 := 4) (by decide) (by decide) (kCall_mono (c_X11_equal X m hI.1 h8 hl s b hs) (Nat.le_refl _) ?_)
  rintro _ m1 ⟨⟨h, rfl⟩ | ⟨h, rfl⟩, rfl⟩
  · refine ⟨_, rfl, kCall_mono (c_X12_equal X m1 m1 hD hN (WF_WM hW) hR0 s b hs) (Nat.le_refl _) ?_⟩
    rintro _ m2 ⟨⟨-, rfl⟩ | ⟨h2, -⟩, rfl⟩
    · exact ⟨by rw [eqA_two h.2.1 (fun i hi => hl i (by omega))], hI⟩
    · exact absurd h h2
  · refine ⟨_, rfl, kCall_mono (c_X12_equal X m1 m1 hD hN (WF_WM hW) hR0 s b hs) (Nat.le_refl _) ?_⟩
    rintro _ m2 ⟨⟨h2, -⟩ | ⟨-, rfl⟩, rfl⟩
    · exact absurd h2 h
    · exact ⟨rfl, hI⟩
