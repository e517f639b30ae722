/-! BESIDE alike: what is asked -/
noncomputable def figO (N : Nat) (c : Mem) (s a : Int) : Int := if a = 0 then laidN c s else allA N c (if a = 1 then 1 else 0)
def figP (N : Nat) (c : Mem) (res : Option Int) (a : Int) : Int := if a = 3 then (if res = none then 0 else 1) else if res = none then -1 else allA N c (if a = 4 then 1 else 0)
theorem c_X5_withPins (X : Xv) (m : Mem) (h8 : 0 ≤ m 9 14 ∧ m 9 14 ≤ 8) : kCall (eX X) 1 M_X5_withPins.1 [vR 37] m (cP (sumN (fun n => iv (0 < m 13 n) 1) (m 9 14).toNat) m) := by
  refine kCall_ofT ok_X5_withPins rfl (Nat.le_of_ble_eq_true rfl) (fun T hT => ?_)
  obtain ⟨A, hA⟩ : ∃ A : Int → Int, ∀ n, A n = iv (0 < m 13 n) 1 := ⟨_, fun _ => rfl⟩
  have hsum : sumN A (m 9 14).toNat = sumN (fun n => iv (0 < m 13 n) 1) (m 9 14).toNat := sumN_cong (fun o _ _ => hA o)
  have bA : ∀ k : Nat, 0 ≤ sumN A k ∧ sumN A k ≤ 1 * k := fun k => sumN_01 (fun n => by rw [hA]; exact iv_in ⟨by decide, by decide⟩) k
  have loop : ∀ (k : Nat) (n : Int), n + k = m 9 14 → 0 ≤ n → kW (eX X) 0 M_X5_withPins T 1 [some (vR 37), some (vI (sumN A n.toNat)), some (vI n)] [] m := by
    intro k
    induction k with
    | zero =>
      intro n hk h0
      refine kW_go ok_X5_withPins [1] 20 ?_
      refine And.intro (fun _ => hT _ _ ⟨?_, rfl⟩) (fun h => ?_)
      · rw [show n = m 9 14 by omega, hsum]
      · have h : n < m 9 14 := h
        omega
    | succ k ih =>
      intro n hk h0
      have hnb : 0 ≤ n ∧ n < ((8 : Nat) : Int) := by omega
      have hb := bA n.toNat
      have hnext := ih (n + 1) (by omega) (by omega)
      rw [sumN_s A h0] at hnext
      refine kW_go ok_X5_withPins [1] 20 ?_
      refine And.intro (fun h => ?_) (fun _ => ⟨hnb, And.intro (fun h => ?_) (fun h => ?_)⟩)
      · have h : m 9 14 ≤ n := h
        omega
      · have h : m 13 n ≤ 0 := h
        have e : A n = 0 := by rw [hA, iv_f (by omega)]
        rw [e, Int.add_zero] at hnext
        exact ⟨by constructor <;> omega, hnext⟩
      · have h : 0 < m 13 n := h
        have e : A n = 1 := by rw [hA, iv_t h]
        rw [e] at hnext
        exact ⟨by constructor <;> omega, by constructor <;> omega, hnext⟩
  refine kW_go ok_X5_withPins [1] 20 ?_
  exact loop (m 9 14).toNat 0 (by omega) (by omega)
theorem allA_cg {N : Nat} {c m : Mem} (h9 : m 9 = c 9) (h19 : m 19 = c 19) (b : Int) : allA N m b = allA N c b := by
  unfold allA viaA lenA
  rw [h9, h19]
set_option maxRecDepth 100000 in
theorem c_X5_orderFigure (X : Xv) (m : Mem) {w d l : Int} (hB : Bd X w d l m) (hM : WS w d l m) (h31 : ∀ y, inC w d l y → m 31 y = 0) (a : Int) (ha : 0 ≤ a ∧ a ≤ 2) : kCall (eX X) 7 M_X5_orderFigure.1 [vR 37, vI a] m (fun r m' => ∃ s c', ordA w d l (m 31) m s c' ∧ r = some (vI (figO (nC X) c' s a)) ∧ (∀ o, scr o → m' o = c' o) ∧ ∀ o, o ≠ 17 → o ≠ 19 → c' o = m o) := by
  have h8 := hM.1.1.2.1
  refine kCall_ofT ok_X5_orderFigure rfl (Nat.le_of_ble_eq_true rfl) (fun T hT => ?_)
  refine kW_go ok_X5_orderFigure [3] 20 ?_
  refine kCall_mono (c_X5_layInOrder X m hB hM h31) (Nat.le_of_ble_eq_true rfl) ?_
  rintro _ m1 ⟨s, c', hO, hs, rfl, hf, hWS, hc⟩
  have e9 : m1 9 = m 9 := by rw [hf 9 (by omega), hc 9 (by decide) (by decide)]
  have e13 : m1 13 = m 13 := by rw [hf 13 (by omega), hc 13 (by decide) (by decide)]
  obtain ⟨hl, hs8, -⟩ := laid_pop h8 hO
  have hB1 : Bd X w d l m1 := Bd_same hB (fun o x y => by rw [hf o (by omega), hc o (by omega) (by omega)])
  have hgo : ∀ b : Int, ¬ a = 0 → b = (if a = 1 then 1 else 0) → kW (eX X) 6 M_X5_orderFigure T 3 [some (vR 37), some (vI a), some (vI s)] [vI b, vR 37] m1 := by
    intro b h0 hb
    refine kW_go ok_X5_orderFigure [] 20 ?_
    refine kCall_mono (c_X5_wholeFigure X m1 hB1 (by rw [e9]; exact h8) b) (Nat.le_of_ble_eq_true rfl) ?_
    rintro _ m2 ⟨rfl, rfl⟩
    refine hT _ _ ⟨s, c', hO, ?_, hf, hc⟩
    unfold figO
    rw [if_neg h0, allA_cg (hf 9 (by omega)) (hf 19 (by omega)), hb]
  refine And.intro (fun h0 => And.intro (fun h1 => hgo 0 h0 (if_neg h1).symm) (fun h1 => hgo 1 h0 (if_pos h1).symm)) (fun h0 => ?_)
  have h0 : a = 0 := h0
  refine kCall_mono (c_X5_withPins X m1 (by rw [e9]; exact h8)) (Nat.le_of_ble_eq_true rfl) ?_
  rintro _ m2 ⟨rfl, rfl⟩
  refine kCall_mono (c_bitCount (eX X) m2 s hs8.1 hs8.2) (Nat.le_of_ble_eq_true rfl) ?_
  rintro _ m3 ⟨rfl, rfl⟩
  have hp := pop_in s
  have hb := sumN_01 (f := fun n => iv (0 < m3 13 n) 1) (B := 1) (fun i => iv_in ⟨by decide, by decide⟩) (m3 9 14).toNat
  rw [e9] at hb
  have hb2 : 0 ≤ sumN (fun n => iv (0 < m3 13 n) 1) (m3 9 14).toNat ∧ sumN (fun n => iv (0 < m3 13 n) 1) (m3 9 14).toNat ≤ 8 := by rw [e9]; omega
  refine ⟨by constructor <;> omega, hT _ _ ⟨s, c', hO, ?_, hf, hc⟩⟩
  unfold figO
  rw [if_pos h0, hl, e9, e13]
set_option maxRecDepth 100000 in
theorem c_X5_pressFigure (X : Xv) (m : Mem) {w d l : Int} (hB : Bd X w d l m) (hM : WS w d l m) (h31 : ∀ y, inC w d l y → m 31 y = 0) (R pr a : Int) (hR : 1 ≤ R ∧ R ≤ 20) (hpr : 1 ≤ pr ∧ pr ≤ 20) : kCall (eX X) 7 M_X5_pressFigure.1 [vR 37, vI R, vI pr, vI a] m (fun r m' => ∃ res c1, prA w d l pr R.toNat 1 (fun _ => 0) (rmA (w * d * l) m) res c1 ∧ r = some (vI (figP (nC X) c1 res a)) ∧ ∀ o, keep6 o → m' o = m o) := by
  have h8 := hM.1.1.2.1
  refine kCall_ofT ok_X5_pressFigure rfl (Nat.le_of_ble_eq_true rfl) (fun T hT => ?_)
  refine kW_go ok_X5_pressFigure [2] 20 ?_
  refine kCall_mono (c_X5_pressAll X m hB hM h31 R pr hR hpr) (Nat.le_of_ble_eq_true rfl) ?_
  rintro _ m1 ⟨res, c1, hP, rfl, hsome, ht, hf⟩
  have hans : ansR res = -1 ↔ res = none := ansR_ne (fun z hz => by have := ht z hz; omega)
  have hB1 : Bd X w d l m1 := Bd_same hB (fun o x y => hf o (by omega))
  have e9 : m1 9 = m 9 := hf 9 (by omega)
  have hgo : ∀ v : Int, (v = 0 ∧ res = none) ∨ (v = 1 ∧ res ≠ none) → kW (eX X) 6 M_X5_pressFigure T 2 [some (vR 37), some (vI R), some (vI pr), some (vI a), none] [vI v] m1 := by
    rintro v (⟨rfl, hn⟩ | ⟨rfl, hn⟩)
    · refine kW_go ok_X5_pressFigure [] 20 ?_
      refine And.intro (fun h3 => And.intro (fun _ => ?_) (fun h => absurd rfl h)) (fun h3 => And.intro (fun _ => ?_) (fun h => absurd rfl h))
      · refine hT _ _ ⟨res, c1, hP, ?_, hf⟩
        unfold figP
        rw [if_neg h3, if_pos hn]
      · refine hT _ _ ⟨res, c1, hP, ?_, hf⟩
        unfold figP
        rw [if_pos h3, if_pos hn]
    · obtain ⟨b1, b2, b3⟩ := hsome hn
      refine kW_go ok_X5_pressFigure [7] 20 ?_
      refine And.intro (fun h3 => And.intro (fun h => absurd h (by decide)) (fun _ => ?_)) (fun h3 => And.intro (fun h => absurd h (by decide)) (fun _ => ?_))
      · have hw : ∀ b : Int, b = (if a = 4 then 1 else 0) → kW (eX X) 6 M_X5_pressFigure T 7 [some (vR 37), some (vI R), some (vI pr), some (vI a), some (vI 1)] [vI b, vR 37] m1 := by
          intro b hb
          refine kW_go ok_X5_pressFigure [] 20 ?_
          refine kCall_mono (c_X5_wholeFigure X m1 hB1 (by rw [e9]; exact h8) b) (Nat.le_of_ble_eq_true rfl) ?_
          rintro _ m2 ⟨rfl, rfl⟩
          refine hT _ _ ⟨res, c1, hP, ?_, hf⟩
          unfold figP
          rw [if_neg h3, if_neg hn, allA_cg (b1 9 (by decide) (by decide)) (b1 19 (by decide) (by decide)), hb]
        exact And.intro (fun h4 => hw 0 (if_neg h4).symm) (fun h4 => hw 1 (if_pos h4).symm)
      · refine hT _ _ ⟨res, c1, hP, ?_, hf⟩
        unfold figP
        rw [if_pos h3, if_neg hn]
  exact And.intro (fun h => hgo 0 (Or.inl ⟨rfl, hans.mp h⟩)) (fun h => hgo 1 (Or.inr ⟨rfl, fun z => h (hans.mpr z)⟩))
theorem prA_ge {w d l pr : Int} : ∀ {j : Nat} {t : Int} {ht : Int → Int} {c : Mem} {r : Option Int} {c' : Mem}, prA w d l pr j t ht c r c' → ∀ z, r = some z → t ≤ z
  | 0, t, ht, c, r, c', h, z, hz => by
    have h : r = none := h
    rw [h] at hz
    cases hz
  | j + 1, t, ht, c, r, c', ⟨b, x, h1, h2⟩, z, hz => by
    rcases h2 with ⟨p, q⟩ | ⟨p, ⟨u, v, y⟩ | ⟨u, v⟩⟩
    · rw [q] at hz; cases hz
    · rw [v] at hz; cases hz; exact Int.le_refl _
    · have := prA_ge v z hz; omega
/-! the reference's -/
set_option maxRecDepth 100000 in
theorem c_X12_besideOrder (X : Xv) (c m : Mem) {w d l : Int} {ex : Int → Int} (hD : okD w d l) (hN : w * d * l = (nC X : Int)) (hM : WM w d l c) (hR : RR w d l c m) (hex : ∀ y, inC w d l y → ex y = 0) (a : Int) (ha : 0 ≤ a ∧ a ≤ 2) : kCall (eX X) 10 M_X12_besideOrder.1 [vR 54, vI a] m (fun r m' => ∃ s c', ordA w d l ex c s c' ∧ r = some (vI (figO (nC X) c' s a)) ∧ RR w d l c' m' ∧ WM w d l c' ∧ (∀ o, o ≠ 17 → o ≠ 19 → c' o = c o) ∧ rfr m m') := by
  have h8 := hM.1.2.1
  refine kCall_ofT ok_X12_besideOrder rfl (Nat.le_of_ble_eq_true rfl) (fun T hT => ?_)
  refine kW_go ok_X12_besideOrder [1] 20 ?_
  refine kCall_mono (c_X12_order X c m hD hM hR hex) (Nat.le_of_ble_eq_true rfl) ?_
  rintro _ m1 ⟨s, c', hO, rfl, hR1, hM1, hc, hf, -⟩
  obtain ⟨-, hs8, -⟩ := laid_pop h8 hO
  have e9 : c' 9 = c 9 := hc 9 (by decide) (by decide)
  have h8' : 0 ≤ c' 9 14 ∧ c' 9 14 ≤ 8 := by rw [e9]; exact h8
  have h26 : m1 54 26 = c' 9 14 := hR1.1.2.2.2.1.1
  obtain ⟨A, hA⟩ : ∃ A : Int → Int, ∀ n, A n = iv (0 < c' 13 n ∧ bt s n.toNat = false) 1 := ⟨_, fun _ => rfl⟩
  have hsum : sumN A (c' 9 14).toNat = laidN c' s := sumN_cong (fun o _ _ => hA o)
  have bA : ∀ k : Nat, 0 ≤ sumN A k ∧ sumN A k ≤ 1 * k := fun k => sumN_01 (fun n => by rw [hA]; exact iv_in ⟨by decide, by decide⟩) k
  have hdone : ∀ z : Int, z = figO (nC X) c' s a → T (some (vI z)) m1 := fun z hz => hT _ _ ⟨s, c', hO, by rw [hz], hR1, hM1, hc, hf⟩
  have loop : ∀ (k : Nat) (n : Int), n + k = c' 9 14 → 0 ≤ n → kW (eX X) 9 M_X12_besideOrder T 1 [some (vR 54), some (vI a), some (vI s), some (vI (sumN A n.toNat)), some (vI n)] [] m1 := by
    intro k
    induction k with
    | zero =>
      intro n hk h0
      have hn : n = c' 9 14 := by omega
      have hlen : ∀ b : Int, ¬ a = 0 → b = (if a = 2 then 1 else 0) → kW (eX X) 9 M_X12_besideOrder T 7 [some (vR 54), some (vI a), some (vI s), some (vI (sumN A n.toNat)), some (vI n)] [vI b, vR 54] m1 := by
        intro b h0 hb
        refine kW_go ok_X12_besideOrder [] 20 ?_
        refine kCall_mono (c_X12_lengths X c' m1 hD hN hM1 (RR_0 hR1) b) (Nat.le_of_ble_eq_true rfl) ?_
        rintro _ m2 ⟨rfl, rfl⟩
        refine hdone _ ?_
        unfold figO
        rw [if_neg h0, hb]
        by_cases h2 : a = 2
        · rw [if_pos h2, if_neg (by decide), if_neg (by omega)]
        · rw [if_neg h2, if_pos rfl, if_pos (by omega)]
      refine kW_go ok_X12_besideOrder [1, 7] 20 ?_
      refine And.intro (fun _ => And.intro (fun h0 => And.intro (fun h2 => hlen 0 h0 (if_neg h2).symm) (fun h2 => hlen 1 h0 (if_pos h2).symm)) (fun h0 => hdone _ ?_)) (fun h => ?_)
      · unfold figO
        rw [if_pos h0, hn, hsum]
      · have h : n < m1 54 26 := h
        omega
    | succ k ih =>
      intro n hk h0
      have hn8 : 0 ≤ n ∧ n < 8 := by omega
      have hnb : 0 ≤ n ∧ n < ((8 : Nat) : Int) := hn8
      have hb := bA n.toNat
      have e63 : m1 63 n = c' 13 n := (hR1.1.2.2.2.2.1 n hn8).2.1
      have hnext : ∀ v : Int, v = A n → inR (sumN A n.toNat + v) ∧ inR (n + 1) ∧ kW (eX X) 9 M_X12_besideOrder T 1 [some (vR 54), some (vI a), some (vI s), some (vI (sumN A n.toNat + v)), some (vI (n + 1))] [] m1 := by
        intro v hv
        have hvb : 0 ≤ v ∧ v ≤ 1 := by rw [hv, hA]; exact iv_in ⟨by decide, by decide⟩
        have := ih (n + 1) (by omega) (by omega)
        rw [sumN_s A h0, ← hv] at this
        exact ⟨by constructor <;> omega, by constructor <;> omega, this⟩
      refine kW_go ok_X12_besideOrder [1] 20 ?_
      refine And.intro (fun h => ?_) (fun _ => ⟨hnb, And.intro (fun h => hnext 0 ?_) (fun h => And.intro (fun h2 => hnext 0 ?_) (fun h2 => hnext 1 ?_))⟩)
      · have h : m1 54 26 ≤ n := h
        omega
      · have h : m1 63 n ≤ 0 := h
        rw [hA, iv_f (by omega)]
      · have h2 : bt s n.toNat = true := by
          cases hbt : bt s n.toNat with
          | true => rfl
          | false => exact absurd ((k_ask0 h0 (by omega)).mpr hbt) h2
        rw [hA, iv_f (fun z => by rw [h2] at z; cases z.2)]
      · have h : 0 < m1 63 n := h
        rw [hA, iv_t ⟨by omega, (k_ask0 h0 (by omega)).mp h2⟩]
  exact loop (c' 9 14).toNat 0 (by omega) (by omega)
set_option maxRecDepth 100000 in
theorem c_X12_besidePress (X : Xv) (c m : Mem) {w d l : Int} (hD : okD w d l) (hN : w * d * l = (nC X : Int)) (hM : WM w d l c) (hR : RR w d l c m) (R pr a : Int) (hRr : 1 ≤ R ∧ R ≤ 20) (hpr : 1 ≤ pr ∧ pr ≤ 20) (ha : 3 ≤ a ∧ a ≤ 5) : kCall (eX X) 11 M_X12_besidePress.1 [vR 54, vI R, vI pr, vI a] m (fun r m' => ∃ res c1, prA w d l pr R.toNat 1 (fun _ => 0) (rmA (w * d * l) c) res c1 ∧ r = some (vI (figP (nC X) c1 res a)) ∧ rfq m m' ∧ ∃ cN, RR w d l cN m' ∧ WM w d l cN ∧ ∀ o, o ≠ 17 → o ≠ 19 → cN o = c o) := by
  refine kCall_ofT ok_X12_besidePress rfl (Nat.le_of_ble_eq_true rfl) (fun T hT => ?_)
  refine kW_go ok_X12_besidePress [2] 20 ?_
  refine kCall_mono (c_X12_press X c m hD hM hR R pr) (Nat.le_of_ble_eq_true rfl) ?_
  rintro _ m1 (⟨h1, -⟩ | ⟨-, res, c1, hP, rfl, hq, hr⟩)
  · exact absurd ⟨hRr, hpr⟩ h1
  have hans : ansR res = -1 ↔ res = none := ansR_ne (fun z hz => by have := prA_ge hP z hz; omega)
  have hcN : ∃ cN, RR w d l cN m1 ∧ WM w d l cN ∧ ∀ o, o ≠ 17 → o ≠ 19 → cN o = c o := by
    rcases hr with ⟨-, h⟩ | ⟨-, h1, h2, h3⟩
    · exact ⟨c, h, hM, fun _ _ _ => rfl⟩
    · exact ⟨c1, h1, h2, h3⟩
  have hdone : ∀ z : Int, z = figP (nC X) c1 res a → T (some (vI z)) m1 := fun z hz => hT _ _ ⟨res, c1, hP, by rw [hz], hq, hcN⟩
  have hgo : ∀ v : Int, (v = 0 ∧ res = none) ∨ (v = 1 ∧ res ≠ none) → kW (eX X) 10 M_X12_besidePress T 2 [some (vR 54), some (vI R), some (vI pr), some (vI a), none] [vI v] m1 := by
    rintro v (⟨rfl, hn⟩ | ⟨rfl, hn⟩)
    · refine kW_go ok_X12_besidePress [] 20 ?_
      refine And.intro (fun h3 => And.intro (fun _ => hdone _ ?_) (fun h => absurd rfl h)) (fun h3 => And.intro (fun _ => hdone _ ?_) (fun h => absurd rfl h))
      · unfold figP
        rw [if_neg h3, if_pos hn]
      · unfold figP
        rw [if_pos h3, if_pos hn]
    · rcases hr with ⟨h1, -⟩ | ⟨-, h1, h2, h3⟩
      · exact absurd h1 hn
      refine kW_go ok_X12_besidePress [6] 20 ?_
      have hw : ∀ b : Int, ¬ a = 3 → b = (if a = 5 then 1 else 0) → (a = 4 ∨ a = 5) → kW (eX X) 10 M_X12_besidePress T 6 [some (vR 54), some (vI R), some (vI pr), some (vI a), some (vI 1)] [vI b, vR 54] m1 := by
        intro b h3 hb h45
        refine kW_go ok_X12_besidePress [] 20 ?_
        refine kCall_mono (c_X12_lengths X c1 m1 hD hN h2 (RR_0 h1) b) (Nat.le_of_ble_eq_true rfl) ?_
        rintro _ m2 ⟨rfl, rfl⟩
        refine hdone _ ?_
        unfold figP
        rw [if_neg h3, if_neg hn, hb]
        by_cases h5 : a = 5
        · rw [if_pos h5, if_neg (by decide), if_neg (by omega)]
        · rw [if_neg h5, if_pos rfl, if_pos (by omega)]
      refine And.intro (fun h3 => And.intro (fun h => absurd h (by decide)) (fun _ => And.intro (fun h5 => hw 0 h3 (if_neg h5).symm (by omega)) (fun h5 => hw 1 h3 (if_pos h5).symm (by omega)))) (fun h3 => And.intro (fun h => absurd h (by decide)) (fun _ => hdone _ ?_))
      unfold figP
      rw [if_pos h3, if_neg hn]
  exact And.intro (fun h => hgo 0 (Or.inl ⟨rfl, hans.mp h⟩)) (fun h => hgo 1 (Or.inr ⟨rfl, fun z => h (hans.mpr z)⟩))
set_option maxRecDepth 100000 in
theorem c_X12_beside (X : Xv) (c m : Mem) {w d l : Int} {ex : Int → Int} (hD : okD w d l) (hN : w * d * l = (nC X : Int)) (hM : WM w d l c) (hR : RR w d l c m) (hex : ∀ y, inC w d l y → ex y = 0) (R pr a : Int) : kCall (eX X) 12 305 [vR 54, vI R, vI pr, vI a] m (fun r m' => (¬ (((1 ≤ R ∧ R ≤ 20) ∧ (1 ≤ pr ∧ pr ≤ 20)) ∧ (0 ≤ a ∧ a ≤ 5)) ∧ r = some (vI (-1)) ∧ m' = m) ∨ ((((1 ≤ R ∧ R ≤ 20) ∧ (1 ≤ pr ∧ pr ≤ 20)) ∧ (0 ≤ a ∧ a ≤ 5)) ∧ RR w d l c m' ∧ (∀ o, o < 54 → m' o = m o) ∧ ((a < 3 ∧ ∃ s c', ordA w d l ex c s c' ∧ r = some (vI (figO (nC X) c' s a))) ∨ (3 ≤ a ∧ ∃ res c1, prA w d l pr R.toNat 1 (fun _ => 0) (rmA (w * d * l) c) res c1 ∧ r = some (vI (figP (nC X) c1 res a)))))) := by
  have h8 := hM.1.2.1
  refine kCall_ofT ok_X12_beside rfl (Nat.le_of_ble_eq_true rfl) (fun T hT => ?_)
  have hno : ¬ (((1 ≤ R ∧ R ≤ 20) ∧ (1 ≤ pr ∧ pr ≤ 20)) ∧ (0 ≤ a ∧ a ≤ 5)) → T (some (vI (-1))) m := fun h => hT _ _ (Or.inl ⟨h, rfl, rfl⟩)
  refine kW_go ok_X12_beside [2] 20 ?_
  refine kCall_mono (c_X12_in (eX X) m R 1 20) (Nat.le_of_ble_eq_true rfl) ?_
  rintro _ m ⟨rfl, rfl⟩
  refine And.intro (fun h => hno (fun q => b2i_0.mp h q.1.1)) (fun h => ?_)
  have hRb := b2i_n.mp h
  refine kCall_mono (c_X12_in (eX X) m pr 1 20) (Nat.le_of_ble_eq_true rfl) ?_
  rintro _ m ⟨rfl, rfl⟩
  refine And.intro (fun h => hno (fun q => b2i_0.mp h q.1.2)) (fun h => ?_)
  have hpr := b2i_n.mp h
  refine kCall_mono (c_X12_in (eX X) m a 0 5) (Nat.le_of_ble_eq_true rfl) ?_
  rintro _ m ⟨rfl, rfl⟩
  refine And.intro (fun h => ?_) (fun h => hno (fun q => b2i_0.mp h q.2))
  have ha := b2i_n.mp h
  refine kW_go ok_X12_beside [4] 20 ?_
  refine kCall_mono (c_X12_keepNow X c m hD h8 (RR_0 hR)) (Nat.le_of_ble_eq_true rfl) ?_
  rintro _ m1 ⟨rfl, hS1, hf1⟩
  have hR1 : RR w d l c m1 := RR_ref (fun o a b => hf1 o (by omega) (by omega) (by omega)) hR
  have four : ∀ (z : Int) (cN m2 : Mem), RR w d l cN m2 → WM w d l cN → (∀ o, o ≠ 17 → o ≠ 19 → cN o = c o) → (∀ o, o < 54 ∨ 89 ≤ o → m2 o = m1 o) → (((a < 3 ∧ ∃ s c', ordA w d l ex c s c' ∧ z = figO (nC X) c' s a) ∨ (3 ≤ a ∧ ∃ res c1, prA w d l pr R.toNat 1 (fun _ => 0) (rmA (w * d * l) c) res c1 ∧ z = figP (nC X) c1 res a))) → kW (eX X) 11 M_X12_beside T 4 [some (vR 54), some (vI R), some (vI pr), some (vI a), none] [vI z] m2 := by
    intro z cN m2 hR2 hM2 hc2 hf2 hz
    refine kW_go ok_X12_beside [] 20 ?_
    refine kCall_mono (c_X12_bringNow X c cN m2 hD hM hM2 hc2 (RR_0 hR2) (SA_same (hf2 89 (by omega)) (hf2 90 (by omega)) (hf2 91 (by omega)) hS1)) (Nat.le_of_ble_eq_true rfl) ?_
    rintro _ m3 ⟨rfl, hR3, hf3⟩
    have e54 : m3 54 = m2 54 := hf3 54 (by decide) (by decide) (by decide) (by decide)
    refine hT _ _ (Or.inr ⟨⟨⟨hRb, hpr⟩, ha⟩, ⟨hR3.1, hR3.2, by rw [e54]; exact hR2.2.2.1, by rw [e54]; exact hR2.2.2.2⟩, fun o ho => ?_, ?_⟩)
    · rw [hf3 o (by omega) (by omega) (by omega) (by omega), hf2 o (by omega), hf1 o (by omega) (by omega) (by omega)]
    · rcases hz with ⟨x, s, c', y, rfl⟩ | ⟨x, s, c', y, rfl⟩
      · exact Or.inl ⟨x, s, c', y, rfl⟩
      · exact Or.inr ⟨x, s, c', y, rfl⟩
  refine And.intro (fun h3 => ?_) (fun h3 => ?_)
  · have h3 : 3 ≤ a := h3
    refine kCall_mono (c_X12_besidePress X c m1 hD hN hM hR1 R pr a hRb hpr (by omega)) (Nat.le_of_ble_eq_true rfl) ?_
    rintro _ m2 ⟨res, c1, hP, rfl, hq, cN, g1, g2, g3⟩
    exact four _ cN m2 g1 g2 g3 (fun o ho => hq o (by omega)) (Or.inr ⟨h3, res, c1, hP, rfl⟩)
  · have h3 : a < 3 := h3
    refine kCall_mono (c_X12_besideOrder X c m1 hD hN hM hR1 hex a (by omega)) (Nat.le_of_ble_eq_true rfl) ?_
    rintro _ m2 ⟨s, c', hO, rfl, g1, g2, g3, g4⟩
    exact four _ c' m2 g1 g2 g3 (fun o ho => g4.1 o (by omega)) (Or.inl ⟨h3, s, c', hO, rfl⟩)
set_option maxRecDepth 100000 in
theorem pair_beside (X : Xv) (m : Mem) {w d l : Int} (hI : Inv X w d l m) (R pr a : Int) : kPair X 166 305 [vI R, vI pr, vI a] m (Inv X w d l) := by
  have hD := hI.1.1
  have hN := hI.1.2.1
  refine kp2 (k1 := 10) (k2 := 12) (by decide) (by decide) ?_
  refine kCall_ofT ok_X11_beside rfl (Nat.le_of_ble_eq_true rfl) (fun T hT => ?_)
  have hno : ¬ (((1 ≤ R ∧ R ≤ 20) ∧ (1 ≤ pr ∧ pr ≤ 20)) ∧ (0 ≤ a ∧ a ≤ 5)) → T (some (vI (-1))) m := by
    intro h
    refine hT _ _ ⟨_, rfl, kCall_mono (c_X12_beside X m m hD hN (WF_WM hI.2.2.1) hI.2.2.2.1 hI.2.2.2.2.2 R pr a) (Nat.le_refl _) ?_⟩
    rintro _ m4 (⟨-, rfl, rfl⟩ | ⟨h1, -⟩)
    · exact ⟨rfl, hI⟩
    · exact absurd h1 h
  refine kW_go ok_X11_beside [2] 20 ?_
  refine kCall_mono (c_X11_arePressing _ m R pr) (Nat.le_of_ble_eq_true rfl) ?_
  rintro _ m ⟨rfl, rfl⟩
  refine And.intro (fun h => hno (fun q => b2i_0.mp h q.1)) (fun h => And.intro (fun h0 => hno (fun q => by have := q.2; omega)) (fun h0 => And.intro (fun h5 => ?_) (fun h5 => hno (fun q => by have := q.2; omega))))
  have hok := b2i_n.mp h
  have ha : 0 ≤ a ∧ a ≤ 5 := by omega
  refine kW_go ok_X11_beside [4] 20 ?_
  refine kCall_mono (c_save X hI) (Nat.le_of_ble_eq_true rfl) ?_
  rintro _ m1 ⟨rfl, hI1, hS1, -⟩
  have hW1 := hI1.2.2.1
  have four : ∀ (z : Int) (m2 : Mem), (∀ o, keep6 o → m2 o = m1 o) → (((a < 3 ∧ ∃ s c', ordA w d l (m1 31) m1 s c' ∧ z = figO (nC X) c' s a) ∨ (3 ≤ a ∧ ∃ res c1, prA w d l pr R.toNat 1 (fun _ => 0) (rmA (w * d * l) m1) res c1 ∧ z = figP (nC X) c1 res a))) → kW (eX X) 9 M_X11_beside T 4 [some (vR 0), some (vI R), some (vI pr), some (vI a), none] [vI z] m2 := by
    intro z m2 hf hz
    refine kW_go ok_X11_beside [] 20 ?_
    refine kCall_mono (c_back X hN (Sv_same (hf 20 (by omega)) (hf 21 (by omega)) hS1)) (Nat.le_of_ble_eq_true rfl) ?_
    rintro _ m3 ⟨rfl, h19, h17, h3⟩
    have hR3 : RR w d l m1 m3 := RR_ref (fun o a _ => by rw [h3 o (by omega) (by omega)]; exact hf o (by omega)) hI1.2.2.2.1
    refine hT _ _ ⟨_, rfl, kCall_mono (c_X12_beside X m1 m3 hD hN (WF_WM hW1) hR3 hI1.2.2.2.2.2 R pr a) (Nat.le_refl _) ?_⟩
    rintro _ m4 (⟨h1, -⟩ | ⟨-, hR4, h4, hr⟩)
    · exact absurd ⟨hok, ha⟩ h1
    refine ⟨?_, inv_back2 hI1 (fun o ho a b => by rw [h3 o a b]; exact hf o (by omega)) h19 h17 h4 hR4⟩
    rcases hr with ⟨h1, s2, c2, hO2, rfl⟩ | ⟨h1, r2, c2, hP2, rfl⟩ <;> rcases hz with ⟨h1', s1, c1, hO, rfl⟩ | ⟨h1', r1, c1, hP, rfl⟩
    · obtain ⟨rfl, rfl⟩ := oR_one hO hO2
      rfl
    · omega
    · omega
    · obtain ⟨rfl, hcc⟩ := prA_one hP hP2
      refine congrArg (fun z => some (vI z)) ?_
      unfold figP
      by_cases hn : r1 = none
      · rw [if_pos hn, if_pos hn, if_pos hn]
      · rw [hcc hn]
  refine And.intro (fun h3 => ?_) (fun h3 => ?_)
  · have h3 : 3 ≤ a := h3
    refine kCall_mono (c_X5_pressFigure X m1 hI1.1 (Inv_WS hI1) hI1.2.2.2.2.2 R pr a hok.1 hok.2) (Nat.le_of_ble_eq_true rfl) ?_
    rintro _ m2 ⟨res, c1, hP, rfl, hf⟩
    exact four _ m2 hf (Or.inr ⟨h3, res, c1, hP, rfl⟩)
  · have h3 : a < 3 := h3
    refine kCall_mono (c_X5_orderFigure X m1 hI1.1 (Inv_WS hI1) hI1.2.2.2.2.2 a (by omega)) (Nat.le_of_ble_eq_true rfl) ?_
    rintro _ m2 ⟨s, c', hO, rfl, hf, hc⟩
    exact four _ m2 (fun o ho => by rw [hf o (by omega), hc o (by omega) (by omega)]) (Or.inl ⟨h3, s, c', hO, rfl⟩)
