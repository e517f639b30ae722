/-! ABOUT alike -/
def celA (N : Nat) (c : Mem) (n : Int) : Int := sumN (fun x => kand (kshr (kor (c 16 x) (c 17 x)) n) 1) N
def viaA (N : Nat) (c : Mem) (n : Int) : Int := sumN (fun x => kand (kshr (c 19 (n * (N : Int) + x)) 4) 1) N
def abA (N : Nat) (c : Mem) (n a : Int) : Int := if a = 0 then lenA N c n else if a = 1 then viaA N c n else if a = 2 then celA N c n else if a = 3 then c 13 n else if a = 4 then c 12 n else -1
theorem c_X11_about (X : Xv) (m : Mem) {w d l : Int} (hB : Bd X w d l m) (h8 : m 9 14 ≤ 8) (n a : Int) : kCall (eX X) 4 M_X11_about.1 [vR 0, vI n, vI a] m (fun r m' => (((0 ≤ n ∧ n < m 9 14) ∧ r = some (vI (abA (nC X) m n a))) ∨ (¬ (0 ≤ n ∧ n < m 9 14) ∧ r = some (vI (-1)))) ∧ m' = m) := by
  obtain ⟨hD, hN, hG⟩ := id hB
  have hc4 := okD_cells hD
  have g4 : m 1 4 = (nC X : Int) := by rw [hG.2.2.2.2.1]; exact hN
  refine kCall_ofT ok_X11_about rfl (Nat.le_of_ble_eq_true rfl) (fun T hT => ?_)
  refine kW_go ok_X11_about [1] 20 ?_
  refine kCall_mono (c_X11_isNet X m n) (Nat.le_of_ble_eq_true rfl) ?_
  rintro _ m ⟨rfl, rfl⟩
  refine And.intro (fun h => ?_) (fun h => hT _ _ ⟨Or.inr ⟨b2i_0.mp h, rfl⟩, rfl⟩)
  have hnn := b2i_n.mp h
  have hn8 : 0 ≤ n ∧ n < 8 := by omega
  have hnb : 0 ≤ n ∧ n < ((8 : Nat) : Int) := hn8
  have hy : ∀ z, z = abA (nC X) m n a → T (some (vI z)) m := fun z hz => hT _ _ ⟨Or.inl ⟨hnn, by rw [hz]⟩, rfl⟩
  refine kW_go ok_X11_about [] 20 ?_
  refine ⟨fun h => ?_, fun h => ?_, fun h => ?_, fun h => ?_, fun h => ?_, fun h => ?_, trivial⟩
  · have h : a < 0 ∨ 4 < a := h
    refine hy _ ?_
    unfold abA
    rw [if_neg (by omega), if_neg (by omega), if_neg (by omega), if_neg (by omega), if_neg (by omega)]
  · have h : a = 0 := h
    subst h
    refine kCall_mono (c_X3_lengthOf X m n (by omega) g4 hn8) (Nat.le_of_ble_eq_true rfl) ?_
    rintro _ m2 ⟨rfl, rfl⟩
    exact hy _ rfl
  · have h : a = 1 := h
    subst h
    refine kCall_mono (c_X3_viasOf X m n (by omega) g4 hn8) (Nat.le_of_ble_eq_true rfl) ?_
    rintro _ m2 ⟨rfl, rfl⟩
    exact hy _ rfl
  · have h : a = 2 := h
    subst h
    refine kCall_mono (c_X3_cellsOf X m n (by omega) g4) (Nat.le_of_ble_eq_true rfl) ?_
    rintro _ m2 ⟨rfl, rfl⟩
    exact hy _ rfl
  · have h : a = 3 := h
    subst h
    exact ⟨hnb, hy _ rfl⟩
  · have h : a = 4 := h
    subst h
    exact ⟨hnb, hy _ rfl⟩
theorem ask_v {v n : Int} (h0 : 0 ≤ n) (h1 : n < 32) : kand (kshr v n) 1 = if bt v n.toNat = true then 1 else 0 := by
  by_cases h : bt v n.toNat = true
  · rw [if_pos h, k_ask1 h0 h1]; exact h
  · rw [if_neg h, k_ask0 h0 h1]; exact Bool.eq_false_iff.mpr h
/-- a net's cells, counted on both sides -/
theorem cel_R {w d l : Int} (hD : okD w d l) {N : Nat} (hN : w * d * l = (N : Int)) {c r : Mem} {n : Int} (hn : 0 ≤ n ∧ n < 8) (hR : RRn w d l c r n) : sumN (fun j => if r 72 (324 * n + j) ≠ 0 then 1 else 0) 324 = celA N c n := by
  obtain ⟨-, -, -, -, h5, h6⟩ := hR
  rw [sum_all hD (fun j => if r 72 (324 * n + j) ≠ 0 then 1 else 0) (fun j hj hno => by show (if r 72 (324 * n + j) ≠ 0 then (1 : Int) else 0) = 0; rw [h6 j hj hno]; rfl) hN]
  refine sumN_cong (fun x h0 h1 => ?_)
  have hx : inC w d l x := ⟨h0, by omega⟩
  obtain ⟨v1, v2, v3⟩ := h5 x hx
  show (if r 72 (324 * n + cR w d x) ≠ 0 then (1 : Int) else 0) = kand (kshr (kor (c 16 x) (c 17 x)) n) 1
  rw [ask_v hn.1 (by omega), bt_or]
  have : r 72 (324 * n + cR w d x) ≠ 0 ↔ (bt (c 16 x) n.toNat || bt (c 17 x) n.toNat) = true := by
    rw [v4_ne v1, v2, v3, Bool.or_eq_true]
  by_cases h : r 72 (324 * n + cR w d x) ≠ 0
  · rw [if_pos h, if_pos (this.mp h)]
  · rw [if_neg h, if_neg (fun z => h (this.mpr z))]
theorem c_X12_about (X : Xv) (c m : Mem) {w d l : Int} (hD : okD w d l) (hN : w * d * l = (nC X : Int)) (hM : WM w d l c) (hR : RR0 w d l c m) (n a : Int) : kCall (eX X) 4 M_X12_about.1 [vR 54, vI n, vI a] m (fun r m' => (((0 ≤ n ∧ n < c 9 14) ∧ r = some (vI (abA (nC X) c n a))) ∨ (¬ (0 ≤ n ∧ n < c 9 14) ∧ r = some (vI (-1)))) ∧ m' = m) := by
  have h8 := hM.1.2.1
  have h26 : m 54 26 = c 9 14 := hR.1.2.2.2.1.1
  refine kCall_ofT ok_X12_about rfl (Nat.le_of_ble_eq_true rfl) (fun T hT => ?_)
  refine kW_go ok_X12_about [2] 20 ?_
  refine kCall_mono (c_X12_isNet X m n (by omega)) (Nat.le_of_ble_eq_true rfl) ?_
  rintro _ m ⟨rfl, rfl⟩
  rw [h26]
  refine And.intro (fun h => hT _ _ ⟨Or.inr ⟨b2i_0.mp h, rfl⟩, rfl⟩) (fun h => ?_)
  have hnn := b2i_n.mp h
  have hn8 : 0 ≤ n ∧ n < 8 := by omega
  have hnb : 0 ≤ n ∧ n < ((8 : Nat) : Int) := hn8
  refine kCall_mono (c_X12_in (eX X) m a 0 4) (Nat.le_of_ble_eq_true rfl) ?_
  rintro _ m ⟨rfl, rfl⟩
  refine And.intro (fun ha => ?_) (fun ha => hT _ _ ⟨Or.inl ⟨hnn, ?_⟩, rfl⟩)
  · have ha := b2i_n.mp ha
    have hWn := hM.2.2.1 n hn8
    have hRn := hR.2 n hn8
    have hRk := (RRn_k.mp hRn).1
    have hlen := len_list hD hN hn8 hWn hRk
    have hle := okL_le hD hRk.2.2.1.1
    have hq0 := hRk.2.2.1.1.1
    have h7 := hR.1.2.2.2.2.1 n hn8
    have hcel := cel_R hD hN hn8 hRn
    obtain ⟨G, hG⟩ : ∃ G : Int → Int, ∀ j, G j = if m 72 (324 * n + j) ≠ 0 then 1 else 0 := ⟨_, fun _ => rfl⟩
    have hGs : sumN G 324 = celA (nC X) c n := by rw [← hcel]; exact sumN_cong (fun j _ _ => hG j)
    have loop : ∀ (k : Nat) (i : Int), i + k = 324 → 0 ≤ i → (0 ≤ sumN G i.toNat ∧ sumN G i.toNat ≤ i) → kW (eX X) 3 M_X12_about T 3 [some (vR 54), some (vI n), some (vI a), some (vI (sumN G i.toNat)), some (vI i)] [] m := by
      intro k
      induction k with
      | zero =>
        intro i hik hi0 hs
        have hi : i = 324 := by omega
        subst hi
        refine kW_go ok_X12_about [3] 20 ?_
        refine And.intro (fun _ => ?_) (fun h => absurd h (by decide))
        refine kCall_mono (c_X12_lengthOf X c m hD hN n hn8 hWn hRk) (Nat.le_of_ble_eq_true rfl) ?_
        rintro _ m2 ⟨rfl, rfl⟩
        have hy : ∀ z, z = abA (nC X) c n a → T (some (vI z)) m2 := fun z hz => hT _ _ ⟨Or.inl ⟨hnn, by rw [hz]⟩, rfl⟩
        refine And.intro (fun a0 => And.intro (fun a1 => And.intro (fun a2 => And.intro (fun a3 => ⟨hnb, hy _ ?_⟩) (fun a3 => ⟨hnb, hy _ ?_⟩)) (fun a2 => hy _ ?_)) (fun a1 => ⟨hnb, by constructor <;> omega, hy _ ?_⟩)) (fun a0 => hy _ ?_)
        · unfold abA
          rw [if_neg a0, if_neg a1, if_neg a2, if_neg a3, if_pos (by omega)]
          exact h7.1
        · unfold abA
          rw [if_neg a0, if_neg a1, if_neg a2, if_pos a3]
          exact h7.2.1
        · unfold abA
          rw [if_neg a0, if_neg a1, if_pos a2]
          exact hGs
        · unfold abA
          rw [if_neg a0, if_pos a1]
          exact hlen.2.1
        · unfold abA
          rw [if_pos a0]
      | succ k ih =>
        intro i hik hi0 hs
        have e : sumN G (i + 1).toNat = sumN G i.toNat + G i := by
          rw [show (i + 1).toNat = i.toNat + 1 by omega]
          show sumN G i.toNat + G ((i.toNat : Nat) : Int) = _
          rw [show ((i.toNat : Nat) : Int) = i by omega]
        have hgb : 0 ≤ G i ∧ G i ≤ 1 := by rw [hG]; split <;> decide
        have hnext := ih (i + 1) (by omega) (by omega) (by rw [e]; omega)
        rw [e] at hnext
        refine kW_go ok_X12_about [3] 20 ?_
        refine And.intro (fun h => absurd h (by omega)) (fun _ => ?_)
        refine kCall_mono (c_X12_has X m n i hn8 (by omega)) (Nat.le_of_ble_eq_true rfl) ?_
        rintro _ m2 ⟨hr, rfl⟩
        rcases hr with ⟨hh, rfl⟩ | ⟨hh, rfl⟩
        · have eg : G i = 1 := by rw [hG, if_pos hh]
          rw [eg] at hnext
          exact And.intro (fun h => absurd h (by decide)) (fun _ => ⟨by constructor <;> omega, by constructor <;> omega, hnext⟩)
        · have eg : G i = 0 := by rw [hG, if_neg hh]
          rw [eg] at hnext
          exact And.intro (fun _ => ⟨by constructor <;> omega, by constructor <;> omega, hnext⟩) (fun h => absurd rfl h)
    refine kW_go ok_X12_about [3] 20 ?_
    exact loop 324 0 (by omega) (by omega) (by show 0 ≤ (0 : Int) ∧ (0 : Int) ≤ 0; omega)
  · have ha := b2i_0.mp ha
    unfold abA
    rw [if_neg (by omega), if_neg (by omega), if_neg (by omega), if_neg (by omega), if_neg (by omega)]
theorem pair_about (X : Xv) (m : Mem) {w d l : Int} (hI : Inv X w d l m) (n a : Int) : kPair X 151 262 [vI n, vI a] m (Inv X w d l) := by
  have hD := hI.1.1
  have hW := hI.2.2.1
  have hR0 := RR_0 hI.2.2.2.1
  refine kp2 (k1 := 4) (k2 := 4) (by decide) (by decide) (kCall_mono (c_X11_about X m hI.1 hW.1.2.1.2 n a) (Nat.le_refl _) ?_)
  rintro _ m1 ⟨⟨h, rfl⟩ | ⟨h, rfl⟩, rfl⟩
  · refine ⟨_, rfl, kCall_mono (c_X12_about X m1 m1 hD hI.1.2.1 (WF_WM hW) hR0 n a) (Nat.le_refl _) ?_⟩
    rintro _ m2 ⟨⟨-, rfl⟩ | ⟨h2, -⟩, rfl⟩
    · exact ⟨rfl, hI⟩
    · exact absurd h h2
  · refine ⟨_, rfl, kCall_mono (c_X12_about X m1 m1 hD hI.1.2.1 (WF_WM hW) hR0 n a) (Nat.le_refl _) ?_⟩
    rintro _ m2 ⟨⟨h2, -⟩ | ⟨-, rfl⟩, rfl⟩
    · exact absurd h2 h
    · exact ⟨rfl, hI⟩
