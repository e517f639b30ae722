/-! WANDER: the methods -/
theorem sumN_01 {f : Int → Int} {B : Int} (h : ∀ i, 0 ≤ f i ∧ f i ≤ B) (k : Nat) : 0 ≤ sumN f k ∧ sumN f k ≤ B * k := by
  induction k with
  | zero => exact ⟨Int.le_refl _, by show (0 : Int) ≤ B * ((0 : Nat) : Int); rw [show ((0 : Nat) : Int) = 0 from rfl, Int.mul_zero]; exact Int.le_refl _⟩
  | succ k ih =>
    have := h (k : Int)
    have e : B * ((k + 1 : Nat) : Int) = B * k + B := by rw [Int.natCast_add, Int.mul_add, show ((1 : Nat) : Int) = 1 from rfl, Int.mul_one]
    rw [e]
    show 0 ≤ sumN f k + f k ∧ sumN f k + f k ≤ B * k + B
    omega
theorem stA_in {w d l : Int} {N : Nat} {c : Mem} {f : Int → Int → Prop} (n : Int) : 0 ≤ stA w d l N c f n ∧ stA w d l N c f n ≤ N := by
  have := sumN_01 (f := fun x => if bt (kor (c 18 (n * (N : Int) + x)) (c 19 (n * (N : Int) + x))) 4 = true then iv (f n x) 1 else 0) (B := 1) (fun i => by
    show 0 ≤ (if _ then iv _ 1 else 0) ∧ (if _ then iv _ 1 else 0) ≤ (1 : Int)
    split
    · exact iv_in ⟨by decide, by decide⟩
    · omega) N
  unfold stA
  omega
theorem stA_sum {w d l : Int} {N : Nat} {c : Mem} {f : Int → Int → Prop} (hN : (N : Int) ≤ 324) (k : Nat) : 0 ≤ sumN (stA w d l N c f) k ∧ sumN (stA w d l N c f) k ≤ 324 * k := sumN_01 (fun i => by have := stA_in (w := w) (d := d) (l := l) (N := N) (c := c) (f := f) i; omega) k
set_option maxRecDepth 100000 in
theorem c_X12_findWander (X : Xv) (c m : Mem) {w d l : Int} (hD : okD w d l) (hN : w * d * l = (nC X : Int)) (hM : WM w d l c) (hR : RR0 w d l c m) (dx dy : Int) (hdx : -3 ≤ dx ∧ dx ≤ 3) (hdy : -3 ≤ dy ∧ dy ≤ 3) : kCall (eX X) 4 M_X12_findWander.1 [vR 54, vI dx, vI dy] m (fun r m' => r = none ∧ StG 54 47 48 m m' (sumN (stA w d l (nC X) c (shN w d l c dx dy)) (c 9 14).toNat) (sumN (stA w d l (nC X) c (opN w d l c dx dy)) (c 9 14).toNat)) := by
  have h8 := hM.1.2.1
  have hc4 := okD_cells hD
  have h26 : m 54 26 = c 9 14 := hR.1.2.2.2.1.1
  refine kCall_ofT ok_X12_findWander rfl (Nat.le_of_ble_eq_true rfl) (fun T hT => ?_)
  obtain ⟨S, hS⟩ : ∃ S : Int → Int, S = stA w d l (nC X) c (shN w d l c dx dy) := ⟨_, rfl⟩
  obtain ⟨O, hO⟩ : ∃ O : Int → Int, O = stA w d l (nC X) c (opN w d l c dx dy) := ⟨_, rfl⟩
  have bS : ∀ k : Nat, 0 ≤ sumN S k ∧ sumN S k ≤ 324 * k := fun k => by rw [hS]; exact stA_sum (by omega) k
  have bO : ∀ k : Nat, 0 ≤ sumN O k ∧ sumN O k ≤ 324 * k := fun k => by rw [hO]; exact stA_sum (by omega) k
  rw [← hS, ← hO] at hT
  have shI : ∀ r n a b, 0 ≤ shR w d r dx dy n a b ∧ shR w d r dx dy n a b ≤ 1 := fun r n a b => by
    unfold shR
    split
    · omega
    · exact iv_in ⟨by decide, by decide⟩
  have opI : ∀ r n a b, 0 ≤ opR w d r dx dy n a b ∧ opR w d r dx dy n a b ≤ 1 := fun r n a b => by
    unfold opR
    split
    · omega
    · exact iv_in ⟨by decide, by decide⟩
  have hfr : ∀ {mm : Mem} {A B : Int}, StG 54 47 48 m mm A B → dimM mm w d l ∧ mm 54 26 = m 54 26 ∧ (∀ n a b, shR w d mm dx dy n a b = shR w d m dx dy n a b) ∧ (∀ n a b, opR w d mm dx dy n a b = opR w d m dx dy n a b) ∧ ∀ n a b, wrP mm n a b ↔ wrP m n a b := by
    intro mm A B h
    have e26 : mm 54 26 = m 54 26 := h.1 54 26 (Or.inr ⟨by decide, by decide⟩)
    have e72 : mm 72 = m 72 := StG_o h (by decide)
    have hdm := hR.1.1
    refine ⟨⟨(h.1 54 1 (Or.inr ⟨by decide, by decide⟩)).trans hdm.1, (h.1 54 2 (Or.inr ⟨by decide, by decide⟩)).trans hdm.2.1, (h.1 54 3 (Or.inr ⟨by decide, by decide⟩)).trans hdm.2.2.1, hdm.2.2.2⟩, e26, fun n a b => ?_, fun n a b => ?_, fun n a b => ?_⟩
    · unfold shR stH
      rw [e26, e72]
    · unfold opR stL
      rw [e72]
    · unfold wrP wrR
      rw [StG_o h (show (65 : Nat) ≠ 54 by decide), StG_o h (show (66 : Nat) ≠ 54 by decide), StG_o h (show (67 : Nat) ≠ 54 by decide)]
  have nets : ∀ (k : Nat) (n : Int) (mm : Mem) (x4 : Option AV), n + k = c 9 14 → 0 ≤ n → StG 54 47 48 m mm (sumN S n.toNat) (sumN O n.toNat) → kW (eX X) 3 M_X12_findWander T 1 [some (vR 54), some (vI dx), some (vI dy), some (vI n), x4] [] mm := by
    intro k
    induction k with
    | zero =>
      intro n mm x4 hnk h0 hst
      have hn : n = c 9 14 := by omega
      have e26 := (hfr hst).2.1
      refine kW_go ok_X12_findWander [1] 20 ?_
      refine And.intro (fun _ => hT _ _ ⟨rfl, ?_⟩) (fun h => ?_)
      · rw [hn] at hst; exact hst
      · have h : n < mm 54 26 := h
        omega
    | succ k ih =>
      intro n mm x4 hnk h0 hst
      have hn8 : 0 ≤ n ∧ n < 8 := by omega
      have hnb : 0 ≤ n ∧ n < ((8 : Nat) : Int) := hn8
      have hRk := (RRn_k.mp (hR.2 n hn8)).1
      have hLw := hRk.1
      have hLt := hRk.2.2.1
      have hw0 := hLw.1.1
      have hw9 := okL_le hD hLw.1
      have ht0 := hLt.1.1
      have ht9 := okL_le hD hLt.1
      have hHs : ∀ x k, inC w d l x → can k → nx w d l x k ≠ -1 → shR w d m dx dy n (cR w d x) (cR w d (nx w d l x k)) = (if k = 4 then iv (shN w d l c dx dy n x) 1 else 0) ∧ shR w d m dx dy n (cR w d (nx w d l x k)) (cR w d x) = (if k = 4 then iv (shN w d l c dx dy n x) 1 else 0) := fun x k hx hk hne => (st_R hD hR h8.2 hn8 hx hk hne).1
      have hHo : ∀ x k, inC w d l x → can k → nx w d l x k ≠ -1 → opR w d m dx dy n (cR w d x) (cR w d (nx w d l x k)) = (if k = 4 then iv (opN w d l c dx dy n x) 1 else 0) ∧ opR w d m dx dy n (cR w d (nx w d l x k)) (cR w d x) = (if k = 4 then iv (opN w d l c dx dy n x) 1 else 0) := fun x k hx hk hne => (st_R hD hR h8.2 hn8 hx hk hne).2
      have sumS := st_list hD hN hn8 (hM.2.2.1 n hn8) hRk (shN w d l c dx dy) (fun a b => shR w d m dx dy n a b) hHs
      have sumO := st_list hD hN hn8 (hM.2.2.1 n hn8) hRk (opN w d l c dx dy) (fun a b => opR w d m dx dy n a b) hHo
      rw [← hS] at sumS
      rw [← hO] at sumO
      obtain ⟨SW, hSW⟩ : ∃ A : Int → Int, ∀ i, A i = shR w d m dx dy n (m 66 (1200 * n + i)) (m 67 (1200 * n + i)) := ⟨_, fun _ => rfl⟩
      obtain ⟨OW, hOW⟩ : ∃ A : Int → Int, ∀ i, A i = opR w d m dx dy n (m 66 (1200 * n + i)) (m 67 (1200 * n + i)) := ⟨_, fun _ => rfl⟩
      obtain ⟨ST, hST⟩ : ∃ A : Int → Int, ∀ i, A i = iv (¬ wrP m n (m 69 (2400 * n + i)) (m 70 (2400 * n + i))) (shR w d m dx dy n (m 69 (2400 * n + i)) (m 70 (2400 * n + i))) := ⟨_, fun _ => rfl⟩
      obtain ⟨OT, hOT⟩ : ∃ A : Int → Int, ∀ i, A i = iv (¬ wrP m n (m 69 (2400 * n + i)) (m 70 (2400 * n + i))) (opR w d m dx dy n (m 69 (2400 * n + i)) (m 70 (2400 * n + i))) := ⟨_, fun _ => rfl⟩
      have sumS : sumN SW (m 65 n).toNat + sumN ST (m 68 n).toNat = S n := by
        rw [← sumS, sumN_cong (fun i _ _ => hSW i), sumN_cong (fun i _ _ => hST i)]
      have sumO : sumN OW (m 65 n).toNat + sumN OT (m 68 n).toNat = O n := by
        rw [← sumO, sumN_cong (fun i _ _ => hOW i), sumN_cong (fun i _ _ => hOT i)]
      have bSW : ∀ k : Nat, 0 ≤ sumN SW k ∧ sumN SW k ≤ 1 * k := fun k => sumN_01 (fun i => by rw [hSW]; exact shI _ _ _ _) k
      have bOW : ∀ k : Nat, 0 ≤ sumN OW k ∧ sumN OW k ≤ 1 * k := fun k => sumN_01 (fun i => by rw [hOW]; exact opI _ _ _ _) k
      have bST : ∀ k : Nat, 0 ≤ sumN ST k ∧ sumN ST k ≤ 1 * k := fun k => sumN_01 (fun i => by rw [hST]; exact iv_in (shI _ _ _ _)) k
      have bOT : ∀ k : Nat, 0 ≤ sumN OT k ∧ sumN OT k ≤ 1 * k := fun k => sumN_01 (fun i => by rw [hOT]; exact iv_in (opI _ _ _ _)) k
      have bS0 := bS n.toNat
      have bO0 := bO n.toNat
      have val : ∀ {f t : Int → Int} {q : Int} {row : Int → Int}, LT w d l f t q row → ∀ i : Int, (0 ≤ i ∧ i < q) → (0 ≤ f i ∧ f i < 324) ∧ (0 ≤ t i ∧ t i < 324) ∧ (f i % 9 = t i % 9 ∧ f i / 9 % 9 = t i / 9 % 9 ∨ f i / 81 = t i / 81) := by
        intro f t q row hL i hi
        obtain ⟨v1, v2, -⟩ := LT_val hD hL hi
        refine ⟨v1, v2, ?_⟩
        obtain ⟨x, k, hx, hk, hne, e1, e2⟩ := hL.1.2.1 i hi
        have hy := nx_in hne
        have gx := cR_geo hD hx
        have gy := cR_geo hD hy.1
        by_cases h4 : k < 4
        · right
          rw [e1, e2, gx.2.2.2, gy.2.2.2, hy.2.2.2, dZ_eq, if_neg (by omega), if_neg (by omega)]
          omega
        · left
          rw [e1, e2, gx.2.1, gy.2.1, gx.2.2.1, gy.2.2.1, hy.2.1, hy.2.2.1, dX_eq, if_neg (by omega), if_neg (by omega), dY_eq, if_neg (by omega), if_neg (by omega)]
          omega
      have traces : ∀ (k : Nat) (i : Int) (mm : Mem), i + k = m 68 n → 0 ≤ i → StG 54 47 48 m mm (sumN S n.toNat + sumN SW (m 65 n).toNat + sumN ST i.toNat) (sumN O n.toNat + sumN OW (m 65 n).toNat + sumN OT i.toNat) → kW (eX X) 3 M_X12_findWander T 4 [some (vR 54), some (vI dx), some (vI dy), some (vI n), some (vI i)] [] mm := by
        intro k
        induction k with
        | zero =>
          intro i mm hik hi0 hst
          have hi : i = m 68 n := by omega
          have e68 : mm 68 = m 68 := StG_o hst (by decide)
          refine kW_go ok_X12_findWander [1, 4] 20 ?_
          refine ⟨hnb, And.intro (fun _ => ⟨by constructor <;> omega, ih (n + 1) mm _ (by omega) (by omega) ?_⟩) (fun h => ?_)⟩
          · rw [sumN_s S h0, sumN_s O h0, ← sumS, ← sumO, ← Int.add_assoc, ← Int.add_assoc]
            rw [hi] at hst
            exact hst
          · have h : i < mm 68 n := h
            rw [e68] at h
            omega
        | succ k iht =>
          intro i mm hik hi0 hst
          have hix : 0 ≤ 2400 * n + i ∧ 2400 * n + i < ((19200 : Nat) : Int) := by omega
          have e65 : mm 65 = m 65 := StG_o hst (by decide)
          have e68 : mm 68 = m 68 := StG_o hst (by decide)
          have e69 : mm 69 = m 69 := StG_o hst (by decide)
          have e70 : mm 70 = m 70 := StG_o hst (by decide)
          obtain ⟨hdm, e26, esh, eop, ewr⟩ := hfr hst
          have hv := val hLt i (by omega)
          have b1 := bSW (m 65 n).toNat
          have b2 := bOW (m 65 n).toNat
          have b3 := bST i.toNat
          have b4 := bOT i.toNat
          refine kW_go ok_X12_findWander [1, 4] 20 ?_
          refine ⟨hnb, And.intro (fun h => ?_) (fun _ => ?_)⟩
          · have h : mm 68 n ≤ i := h
            rw [e68] at h
            omega
          refine kCall_mono (c_X12_isFirstThere X mm (w := w) (d := d) (l := l) n i hn8 (by rw [e68, e69, e70]; exact hLt.1) (by rw [e68]; exact ht9) (by rw [e65]; omega) (by rw [e68]; omega)) (Nat.le_of_ble_eq_true rfl) ?_
          rw [ewr]
          rw [← e69, ← e70] at hv
          rintro _ m2 ⟨⟨hh, rfl⟩ | ⟨hh, rfl⟩, rfl⟩
          · refine And.intro (fun h => absurd h (by decide)) (fun _ => ?_)
            rw [e69, e70] at hh
            refine ⟨by constructor <;> omega, by constructor <;> omega, hix, by constructor <;> omega, by constructor <;> omega, hix, ?_⟩
            refine kCall_mono (c_X12_strike X m2 hdm n _ _ dx dy hn8 (by rw [e26]; omega) hv.1 hv.2.1 hv.2.2 hdx hdy (by rw [show _ = _ from hst.2.1]; omega) (by rw [show _ = _ from hst.2.2]; omega)) (Nat.le_of_ble_eq_true rfl) ?_
            rintro _ m3 ⟨rfl, hs3⟩
            have hs3 := StG_tr hst hs3
            rw [esh, eop, e69, e70, show m2 54 47 = _ from hst.2.1, show m2 54 48 = _ from hst.2.2] at hs3
            refine ⟨by constructor <;> omega, iht (i + 1) m3 (by omega) (by omega) ?_⟩
            rw [sumN_s ST hi0, sumN_s OT hi0, hST, hOT, iv_t hh, iv_t hh, ← Int.add_assoc, ← Int.add_assoc]
            exact hs3
          · rw [e69, e70] at hh
            refine And.intro (fun _ => ⟨by constructor <;> omega, iht (i + 1) m2 (by omega) (by omega) ?_⟩) (fun h => absurd rfl h)
            rw [sumN_s ST hi0, sumN_s OT hi0, hST, hOT, iv_f hh, iv_f hh, Int.add_zero, Int.add_zero]
            exact hst
      have wires : ∀ (k : Nat) (i : Int) (mm : Mem), i + k = m 65 n → 0 ≤ i → StG 54 47 48 m mm (sumN S n.toNat + sumN SW i.toNat) (sumN O n.toNat + sumN OW i.toNat) → kW (eX X) 3 M_X12_findWander T 2 [some (vR 54), some (vI dx), some (vI dy), some (vI n), some (vI i)] [] mm := by
        intro k
        induction k with
        | zero =>
          intro i mm hik hi0 hst
          have hi : i = m 65 n := by omega
          have e65 : mm 65 = m 65 := StG_o hst (by decide)
          refine kW_go ok_X12_findWander [2, 4] 20 ?_
          refine ⟨hnb, And.intro (fun _ => traces (m 68 n).toNat 0 mm (by omega) (by omega) ?_) (fun h => ?_)⟩
          · rw [show (0 : Int).toNat = 0 from rfl]
            show StG 54 47 48 m mm (_ + 0) (_ + 0)
            rw [Int.add_zero, Int.add_zero, ← hi]
            exact hst
          · have h : i < mm 65 n := h
            rw [e65] at h
            omega
        | succ k ihw =>
          intro i mm hik hi0 hst
          have hix : 0 ≤ 1200 * n + i ∧ 1200 * n + i < ((9600 : Nat) : Int) := by omega
          have e65 : mm 65 = m 65 := StG_o hst (by decide)
          have e66 : mm 66 = m 66 := StG_o hst (by decide)
          have e67 : mm 67 = m 67 := StG_o hst (by decide)
          obtain ⟨hdm, e26, esh, eop, ewr⟩ := hfr hst
          have hv := val hLw i (by omega)
          have b1 := bSW i.toNat
          have b2 := bOW i.toNat
          refine kW_go ok_X12_findWander [2, 4] 20 ?_
          rw [← e66, ← e67] at hv
          refine ⟨hnb, And.intro (fun h => ?_) (fun _ => ?_)⟩
          · have h : mm 65 n ≤ i := h
            rw [e65] at h
            omega
          refine ⟨by constructor <;> omega, by constructor <;> omega, hix, by constructor <;> omega, by constructor <;> omega, hix, ?_⟩
          refine kCall_mono (c_X12_strike X mm hdm n _ _ dx dy hn8 (by rw [e26]; omega) hv.1 hv.2.1 hv.2.2 hdx hdy (by rw [show _ = _ from hst.2.1]; omega) (by rw [show _ = _ from hst.2.2]; omega)) (Nat.le_of_ble_eq_true rfl) ?_
          rintro _ m3 ⟨rfl, hs3⟩
          have hs3 := StG_tr hst hs3
          rw [esh, eop, e66, e67, show mm 54 47 = _ from hst.2.1, show mm 54 48 = _ from hst.2.2] at hs3
          refine ⟨by constructor <;> omega, ihw (i + 1) m3 (by omega) (by omega) ?_⟩
          rw [sumN_s SW hi0, sumN_s OW hi0, hSW, hOW, ← Int.add_assoc, ← Int.add_assoc]
          exact hs3
      have e26 := (hfr hst).2.1
      refine kW_go ok_X12_findWander [2] 20 ?_
      refine And.intro (fun h => ?_) (fun _ => wires (m 65 n).toNat 0 mm (by omega) (by omega) ?_)
      · have h : mm 54 26 ≤ n := h
        omega
      · rw [show (0 : Int).toNat = 0 from rfl]
        show StG 54 47 48 m mm (_ + 0) (_ + 0)
        rw [Int.add_zero, Int.add_zero]
        exact hst
  refine kW_go ok_X12_findWander [1] 20 ?_
  exact nets (c 9 14).toNat 0 _ none (by omega) (by omega) (StG_mk (O := 54) (p := 47) (q := 48) (by decide) 0 0)
/-! the class's side -/
theorem c_X0_judgeVia (X : Xv) (c m : Mem) {w d l : Int} (hB : Bd X w d l m) (hM : WM w d l c) (e16 : m 16 = c 16) (e17 : m 17 = c 17) (n to : Int) (hn : 0 ≤ n ∧ n < 8) (hto : to ≠ -1 → inC w d l to ∧ nx w d l to 4 ≠ -1) (h3 : 0 ≤ m 46 3 ∧ m 46 3 ≤ 1000000) (h4 : 0 ≤ m 46 4 ∧ m 46 4 ≤ 1000000) : kCall (eX X) 2 M_X0_judgeVia.1 [vR 46, vI n, vI to] m (fun r m' => r = none ∧ StG 46 3 4 m m' (m 46 3 + iv (to ≠ -1 ∧ ∃ o : Int, (0 ≤ o ∧ o < c 9 14) ∧ o ≠ n ∧ (cuN c o to ∨ cuN c o (nx w d l to 4))) 1) (m 46 4 + iv (¬ (to ≠ -1 ∧ cuN c n to ∧ cuN c n (nx w d l to 4))) 1)) := by
  obtain ⟨hD, hN, hG⟩ := id hB
  have hc4 := okD_cells hD
  have h3f : 0 ≤ fld m 46 3 ∧ fld m 46 3 ≤ 1000000 := h3
  have h4f : 0 ≤ fld m 46 4 ∧ fld m 46 4 ≤ 1000000 := h4
  refine kCall_ofT ok_X0_judgeVia rfl (Nat.le_of_ble_eq_true rfl) (fun T hT => ?_)
  refine kW_go ok_X0_judgeVia [5] 20 ?_
  refine And.intro (fun hne => ?_) (fun he => ?_)
  · obtain ⟨hx, hne4⟩ := hto hne
    have hy := (nx_in hne4).1
    have e2 : m 2 (to * 6 + 4) = nx w d l to 4 := (hG.2.2.2.2.2 to hx).2.2.2 4 (by decide) (by decide)
    have hxb : 0 ≤ to ∧ to < (nC X : Int) := ⟨hx.1, by have := hx.2; omega⟩
    have hyb : 0 ≤ nx w d l to 4 ∧ nx w d l to 4 < (nC X : Int) := ⟨hy.1, by have := hy.2; omega⟩
    refine ⟨by constructor <;> omega, by constructor <;> omega, by show 0 ≤ to * 6 + 4 ∧ to * 6 + 4 < ((nC X * 6 : Nat) : Int); omega, ?_⟩
    rw [e2]
    refine And.intro (fun h => absurd h hne) (fun _ => And.intro (fun _ => ?_) (fun h => absurd h hne4))
    refine kCall_mono (c_X3_copperAt X m to hxb) (Nat.le_of_ble_eq_true rfl) ?_
    rintro _ m ⟨rfl, rfl⟩
    refine kCall_mono (c_X3_copperAt X m _ hyb) (Nat.le_of_ble_eq_true rfl) ?_
    rintro _ m ⟨rfl, rfl⟩
    rw [e16, e17]
    obtain ⟨U, hU⟩ : ∃ U, U = kor (c 16 to) (c 17 to) := ⟨_, rfl⟩
    obtain ⟨V, hV⟩ : ∃ V, V = kor (c 16 (nx w d l to 4)) (c 17 (nx w d l to 4)) := ⟨_, rfl⟩
    rw [← hU, ← hV]
    have hb : ∀ o : Nat, (bt U o = true ↔ cuN c (o : Int) to) ∧ (bt V o = true ↔ cuN c (o : Int) (nx w d l to 4)) := by
      intro o
      unfold cuN
      rw [hU, hV, bt_or, bt_or, Bool.or_eq_true, Bool.or_eq_true, Int.toNat_natCast]
      exact ⟨Iff.rfl, Iff.rfl⟩
    have hS : ¬ kand (kor U V) (kxor (kshl 1 n) (-1)) = 0 ↔ ∃ o : Int, (0 ≤ o ∧ o < c 9 14) ∧ o ≠ n ∧ (cuN c o to ∨ cuN c o (nx w d l to 4)) := by
      rw [k_and0]
      constructor
      · intro h
        obtain ⟨k, hk⟩ := Classical.not_forall.mp h
        obtain ⟨hk32, hk⟩ := Classical.not_imp.mp hk
        have hk := Classical.not_not.mp hk
        rw [bt_or, Bool.or_eq_true, bt_nall hn.1 (by omega) hk32, decide_eq_true_eq, (hb k).1, (hb k).2] at hk
        refine ⟨(k : Int), ⟨by omega, ?_⟩, hk.2, hk.1⟩
        refine Classical.byContradiction (fun hge => ?_)
        have no : ∀ y, inC w d l y → ¬ cuN c (k : Int) y := by
          intro y hy z
          unfold cuN at z
          rw [Int.toNat_natCast] at z
          by_cases h8 : k < 8
          · have := no_cu hM hy h8 (by omega)
            rcases z with z | z
            · rw [this.1] at z; cases z
            · rw [this.2] at z; cases z
          · have hv := hM.2.2.2 y hy
            rcases z with z | z
            · rw [bt_small (n := 8) (inR_small (by omega)) hv.1.1 hv.1.2 (by omega)] at z; cases z
            · rw [bt_small (n := 8) (inR_small (by omega)) hv.2.1 hv.2.2 (by omega)] at z; cases z
        rcases hk.1 with z | z
        · exact no _ hx z
        · exact no _ hy z
      · rintro ⟨o, ho, hon, z⟩ hall
        have h8 := hM.1.2.1
        have eo : ((o.toNat : Nat) : Int) = o := by omega
        refine hall o.toNat (by omega) ?_
        rw [bt_or, Bool.or_eq_true, bt_nall hn.1 (by omega) (by omega), decide_eq_true_eq, (hb _).1, (hb _).2, eo]
        exact ⟨z, hon⟩
    have hO : kand (kand U V) (kshl 1 n) = 0 ↔ ¬ (cuN c n to ∧ cuN c n (nx w d l to 4)) := by
      have en : ((n.toNat : Nat) : Int) = n := by omega
      have hbn := hb n.toNat
      rw [en] at hbn
      rw [k_and0, ← hbn.1, ← hbn.2]
      constructor
      · intro h z
        refine h n.toNat (by omega) ⟨?_, ?_⟩
        · rw [bt_and, z.1, z.2]; rfl
        · rw [bt_bit hn.1 (by omega), decide_eq_true en]
      · rintro h k hk ⟨z1, z2⟩
        rw [bt_bit hn.1 (by omega), decide_eq_true_eq] at z2
        rw [show k = n.toNat by omega, bt_and, Bool.and_eq_true] at z1
        exact h z1
    have hfin : ∀ (a b : Int), a = iv (∃ o : Int, (0 ≤ o ∧ o < c 9 14) ∧ o ≠ n ∧ (cuN c o to ∨ cuN c o (nx w d l to 4))) 1 → b = iv (¬ (cuN c n to ∧ cuN c n (nx w d l to 4))) 1 → ∀ m', StG 46 3 4 m m' (m 46 3 + a) (m 46 4 + b) → T none m' := by
      intro a b ha hb m' hs
      refine hT _ _ ⟨rfl, ?_⟩
      rw [ha, hb] at hs
      rw [iv_cong (show (to ≠ -1 ∧ ∃ o : Int, (0 ≤ o ∧ o < c 9 14) ∧ o ≠ n ∧ (cuN c o to ∨ cuN c o (nx w d l to 4))) ↔ _ from ⟨fun z => z.2, fun z => ⟨hne, z⟩⟩), iv_cong (show (¬ (to ≠ -1 ∧ cuN c n to ∧ cuN c n (nx w d l to 4))) ↔ _ from ⟨fun z y => z ⟨hne, y⟩, fun z y => z y.2⟩)]
      exact hs
    have one3 : StG 46 3 4 m (mset m 46 3 (m 46 3 + 1)) (m 46 3 + 1) (m 46 4 + 0) := by
      rw [Int.add_zero]
      exact StG_p (O := 46) (p := 3) (q := 4) (by decide) (m 46 3 + 1)
    have nul3 : StG 46 3 4 m m (m 46 3 + 0) (m 46 4 + 0) := by rw [Int.add_zero, Int.add_zero]; exact StG_rf (O := 46) (p := 3) (q := 4)
    have one4 : ∀ (a : Int) (m1 : Mem), StG 46 3 4 m m1 (m 46 3 + a) (m 46 4 + 0) → StG 46 3 4 m (mset m1 46 4 (m1 46 4 + 1)) (m 46 3 + a) (m 46 4 + 1) := by
      intro a m1 h
      have h2 := StG_tr h (StG_q (O := 46) (p := 3) (q := 4) (by decide) (m := m1) (m1 46 4 + 1))
      have e3 : m1 46 3 = m 46 3 + a := h.2.1
      have e4 : m1 46 4 = m 46 4 + 0 := h.2.2
      rw [Int.add_zero] at e4
      rw [show m1 46 3 = m 46 3 + a from e3, e4] at h2
      rw [e4]
      exact h2
    have back : ∀ (a : Int) (m1 : Mem), (m1 46 4 = m 46 4) → a = iv (∃ o : Int, (0 ≤ o ∧ o < c 9 14) ∧ o ≠ n ∧ (cuN c o to ∨ cuN c o (nx w d l to 4))) 1 → StG 46 3 4 m m1 (m 46 3 + a) (m 46 4 + 0) → kW (eX X) 1 M_X0_judgeVia T 5 [some (vR 46), some (vI n), some (vI to), some (vI (nx w d l to 4)), some (vI U), some (vI V)] [] m1 := by
      intro a m1 h4' ha hs
      refine kW_go ok_X0_judgeVia [] 20 ?_
      refine And.intro (fun h => ?_) (fun h => ?_)
      · exact hfin a 0 ha (iv_f (fun z => h (hO.mpr z))).symm _ hs
      · have e4 : fld m1 46 4 = m 46 4 := h4'
        exact ⟨by constructor <;> omega, hfin a 1 ha (iv_t (hO.mp h)).symm _ (one4 a m1 hs)⟩
    refine And.intro (fun h => back 0 m rfl (iv_f (fun z => hS.mpr z h)).symm nul3) (fun h => ⟨by constructor <;> omega, back 1 _ ?_ (iv_t (hS.mp h)).symm one3⟩)
    have := one3.2.2
    rw [Int.add_zero] at this
    exact this
  · have he : to = -1 := he
    refine And.intro (fun _ => ⟨by constructor <;> omega, hT _ _ ⟨rfl, ?_⟩⟩) (fun h => absurd he h)
    rw [iv_f (fun z => z.1 he), iv_t (fun z => z.1 he), Int.add_zero]
    exact StG_q (O := 46) (p := 3) (q := 4) (by decide) (m 46 4 + 1)
