/-! WANDER and WORST: the class's loops and both calls -/
set_option maxRecDepth 100000 in
theorem c_X0_shiftVias (X : Xv) (c m : Mem) {w d l : Int} (hB : Bd X w d l m) (hM : WM w d l c) (he : ∀ o, 9 ≤ o → o ≤ 19 → m o = c o) (dx dy : Int) (hdx : -3 ≤ dx ∧ dx ≤ 3) (hdy : -3 ≤ dy ∧ dy ≤ 3) : kCall (eX X) 3 M_X0_shiftVias.1 [vR 46, vI dx, vI dy] m (fun r m' => r = none ∧ StG 46 3 4 m m' (sumN (stA w d l (nC X) c (shN w d l c dx dy)) (c 9 14).toNat) (sumN (stA w d l (nC X) c (opN w d l c dx dy)) (c 9 14).toNat)) := by
  obtain ⟨hD, hN, hG⟩ := id hB
  have h8 := hM.1.2.1
  have hc4 := okD_cells hD
  refine kCall_ofT ok_X0_shiftVias rfl (Nat.le_of_ble_eq_true rfl) (fun T hT => ?_)
  obtain ⟨S, hS⟩ : ∃ S : Int → Int, S = stA w d l (nC X) c (shN w d l c dx dy) := ⟨_, rfl⟩
  obtain ⟨O, hO⟩ : ∃ O : Int → Int, O = stA w d l (nC X) c (opN w d l c dx dy) := ⟨_, rfl⟩
  have bS : ∀ k : Nat, 0 ≤ sumN S k ∧ sumN S k ≤ 324 * k := fun k => by rw [hS]; exact stA_sum (by omega) k
  have bO : ∀ k : Nat, 0 ≤ sumN O k ∧ sumN O k ≤ 324 * k := fun k => by rw [hO]; exact stA_sum (by omega) k
  rw [← hS, ← hO] at hT
  have nets : ∀ (k : Nat) (n : Int) (mm : Mem) (x4 x5 : Option AV), n + k = c 9 14 → 0 ≤ n → StG 46 3 4 m mm (sumN S n.toNat) (sumN O n.toNat) → kW (eX X) 2 M_X0_shiftVias T 1 [some (vR 46), some (vI dx), some (vI dy), some (vI n), x4, x5] [] mm := by
    intro k
    induction k with
    | zero =>
      intro n mm x4 x5 hnk h0 hst
      have hn : n = c 9 14 := by omega
      have e9 : mm 9 = c 9 := (StG_o hst (by decide)).trans (he 9 (by decide) (by decide))
      refine kW_go ok_X0_shiftVias [1] 20 ?_
      refine And.intro (fun _ => hT _ _ ⟨rfl, ?_⟩) (fun h => ?_)
      · rw [hn] at hst; exact hst
      · have h : n < mm 9 14 := h
        rw [e9] at h
        omega
    | succ k ih =>
      intro n mm x4 x5 hnk h0 hst
      have hn8 : 0 ≤ n ∧ n < 8 := by omega
      obtain ⟨SX, hSX⟩ : ∃ A : Int → Int, ∀ i, A i = if bt (kor (c 18 (n * (nC X : Int) + i)) (c 19 (n * (nC X : Int) + i))) 4 = true then iv (shN w d l c dx dy n i) 1 else 0 := ⟨_, fun _ => rfl⟩
      obtain ⟨OX, hOX⟩ : ∃ A : Int → Int, ∀ i, A i = if bt (kor (c 18 (n * (nC X : Int) + i)) (c 19 (n * (nC X : Int) + i))) 4 = true then iv (opN w d l c dx dy n i) 1 else 0 := ⟨_, fun _ => rfl⟩
      have sumS : sumN SX (nC X) = S n := by rw [hS]; exact sumN_cong (fun i _ _ => hSX i)
      have sumO : sumN OX (nC X) = O n := by rw [hO]; exact sumN_cong (fun i _ _ => hOX i)
      have bSX : ∀ k : Nat, 0 ≤ sumN SX k ∧ sumN SX k ≤ 1 * k := fun k => sumN_01 (fun i => by rw [hSX]; split; exact iv_in ⟨by decide, by decide⟩; omega) k
      have bOX : ∀ k : Nat, 0 ≤ sumN OX k ∧ sumN OX k ≤ 1 * k := fun k => sumN_01 (fun i => by rw [hOX]; split; exact iv_in ⟨by decide, by decide⟩; omega) k
      have bS0 := bS n.toNat
      have bO0 := bO n.toNat
      have cells : ∀ (k : Nat) (i : Int) (mm : Mem) (x5 : Option AV), i + k = (nC X : Int) → 0 ≤ i → StG 46 3 4 m mm (sumN S n.toNat + sumN SX i.toNat) (sumN O n.toNat + sumN OX i.toNat) → kW (eX X) 2 M_X0_shiftVias T 2 [some (vR 46), some (vI dx), some (vI dy), some (vI n), some (vI i), x5] [] mm := by
        intro k
        induction k with
        | zero =>
          intro i mm x5 hik hi0 hst
          have hi : i.toNat = nC X := by omega
          have g4 : mm 1 4 = (nC X : Int) := by rw [StG_o hst (by decide), ← hN]; exact hG.2.2.2.2.1
          refine kW_go ok_X0_shiftVias [1, 2] 20 ?_
          refine And.intro (fun _ => ⟨by constructor <;> omega, ih (n + 1) mm _ _ (by omega) (by omega) ?_⟩) (fun h => ?_)
          · rw [sumN_s S h0, sumN_s O h0, ← sumS, ← sumO]
            rw [hi] at hst
            exact hst
          · have h : i < mm 1 4 := h
            omega
        | succ k ihc =>
          intro i mm x5 hik hi0 hst
          have hib : 0 ≤ i ∧ i < (nC X : Int) := by omega
          have hix : inC w d l i := ⟨hi0, by omega⟩
          have hg := hG.2.2.2.2.2 i hix
          have g4 : mm 1 4 = (nC X : Int) := by rw [StG_o hst (by decide), ← hN]; exact hG.2.2.2.2.1
          have e3 : mm 3 = m 3 := StG_o hst (by decide)
          have e4 : mm 4 = m 4 := StG_o hst (by decide)
          have e5 : mm 5 = m 5 := StG_o hst (by decide)
          have hB2 : Bd X w d l mm := Bd_same hB (fun o a b => StG_o hst (by omega))
          have e16 : mm 16 = c 16 := (StG_o hst (by decide)).trans (he 16 (by decide) (by decide))
          have e17 : mm 17 = c 17 := (StG_o hst (by decide)).trans (he 17 (by decide) (by decide))
          have e18 : mm 18 = c 18 := (StG_o hst (by decide)).trans (he 18 (by decide) (by decide))
          have e19 : mm 19 = c 19 := (StG_o hst (by decide)).trans (he 19 (by decide) (by decide))
          have b1 := bSX i.toNat
          have b2 := bOX i.toNat
          have gx := gX_in (c := i) hD
          have gy := gY_in (c := i) hD
          have gz := gZ_in hD hix
          obtain ⟨⟨w1, w2⟩, ⟨d1, d2⟩, l1, l2⟩ := id hD
          refine kW_go ok_X0_shiftVias [1, 2] 20 ?_
          refine And.intro (fun h => ?_) (fun _ => ?_)
          · have h : mm 1 4 ≤ i := h
            omega
          refine kCall_mono (c_X3_movesAt X mm n i (by omega) g4 hn8 hib) (Nat.le_of_ble_eq_true rfl) ?_
          rintro _ m2 ⟨rfl, rfl⟩
          rw [e18, e19]
          refine And.intro (fun h => ?_) (fun h => ?_)
          · have hb : bt (kor (c 18 (n * (nC X : Int) + i)) (c 19 (n * (nC X : Int) + i))) 4 = false := (k_ask0 (n := 4) (by decide) (by decide)).mp h
            refine ⟨by constructor <;> omega, ihc (i + 1) m2 _ (by omega) (by omega) ?_⟩
            rw [sumN_s SX hi0, sumN_s OX hi0, hSX, hOX, hb, if_neg (by decide), if_neg (by decide), Int.add_zero, Int.add_zero]
            exact hst
          · have hb : bt (kor (c 18 (n * (nC X : Int) + i)) (c 19 (n * (nC X : Int) + i))) 4 = true := by
              refine (Bool.not_eq_false _).mp (fun z => h ((k_ask0 (n := 4) (by decide) (by decide)).mpr z))
            have q3 : m2 3 i = gX w i := by rw [e3]; exact hg.1
            have q4 : m2 4 i = gY w d i := by rw [e4]; exact hg.2.1
            have q5 : m2 5 i = gZ w d i := by rw [e5]; exact hg.2.2.1
            refine ⟨hib, by constructor <;> omega, hib, by constructor <;> omega, hib, ?_⟩
            have hca := c_X2_cellAt X m2 hD hB2.2.2 (m2 3 i + dx) (m2 4 i + dy) (m2 5 i)
            rw [show cAt w d l (m2 3 i + dx) (m2 4 i + dy) (m2 5 i) = stTo w d l dx dy i by rw [q3, q4, q5]; rfl] at hca
            refine kCall_mono hca (Nat.le_of_ble_eq_true rfl) ?_
            rintro _ m3 ⟨rfl, rfl⟩
            have hto : stTo w d l dx dy i ≠ -1 → inC w d l (stTo w d l dx dy i) ∧ nx w d l (stTo w d l dx dy i) 4 ≠ -1 := by
              intro h
              have hmv : nx w d l i 4 ≠ -1 := by
                intro z
                have := (hM.2.2.1 n hn8).1 i hix
                have := this.2.1 4 (by decide) z
                rw [hN, show (4 : Int).toNat = 4 from rfl] at this
                rw [bt_or, this.1, this.2] at hb
                cases hb
              have hmz := (nx_in hmv).2.2.2
              have hzz := gZ_in hD (nx_in hmv).1
              have dx4 : dX 4 = 0 := rfl
              have dy4 : dY 4 = 0 := rfl
              have dz4 : dZ 4 = 1 := rfl
              unfold stTo at h ⊢
              rw [Ne, cAt_no hD.2.2.1 ⟨hD.1.1, hD.2.1.1⟩, Classical.not_not] at h
              unfold cAt
              rw [if_pos h]
              refine ⟨ix_in h.1 h.2.1 h.2.2, nx_of ?_⟩
              rw [ix_X h.1, ix_Y h.1 h.2.1, ix_Z h.1 h.2.1, dx4, dy4, dz4]
              omega
            refine kCall_mono (c_X0_judgeVia X c m3 hB2 hM e16 e17 n (stTo w d l dx dy i) hn8 hto (by rw [show m3 46 3 = _ from hst.2.1]; omega) (by rw [show m3 46 4 = _ from hst.2.2]; omega)) (Nat.le_of_ble_eq_true rfl) ?_
            rintro _ m4 ⟨rfl, hs3⟩
            have hs3 := StG_tr hst hs3
            rw [show m3 46 3 = _ from hst.2.1, show m3 46 4 = _ from hst.2.2] at hs3
            refine ⟨by constructor <;> omega, ihc (i + 1) m4 _ (by omega) (by omega) ?_⟩
            rw [sumN_s SX hi0, sumN_s OX hi0, hSX, hOX, hb, if_pos rfl, if_pos rfl, ← Int.add_assoc, ← Int.add_assoc]
            exact hs3
      have e9 : mm 9 = c 9 := (StG_o hst (by decide)).trans (he 9 (by decide) (by decide))
      refine kW_go ok_X0_shiftVias [2] 20 ?_
      refine And.intro (fun h => ?_) (fun _ => cells (nC X) 0 mm _ (by omega) (by omega) ?_)
      · have h : mm 9 14 ≤ n := h
        rw [e9] at h
        omega
      · rw [show (0 : Int).toNat = 0 from rfl]
        show StG 46 3 4 m mm (_ + 0) (_ + 0)
        rw [Int.add_zero, Int.add_zero]
        exact hst
  refine kW_go ok_X0_shiftVias [1] 20 ?_
  exact nets (c 9 14).toNat 0 _ none none (by omega) (by omega) (StG_mk (O := 46) (p := 3) (q := 4) (by decide) 0 0)
theorem inv_46 {X : Xv} {w d l : Int} {m m' : Mem} (hI : Inv X w d l m) (h : ∀ o, o ≠ 46 → m' o = m o) : Inv X w d l m' := inv_k hI (fun o ho => h o (by omega))
theorem inv_sh {X : Xv} {w d l : Int} {m m' : Mem} {a b : Int} (hI : Inv X w d l m) (h : StG 54 47 48 m m' a b) : Inv X w d l m' := by
  have hf : ∀ i : Int, i ≠ 47 → i ≠ 48 → m' 54 i = m 54 i := fun i a b => h.1 54 i (Or.inr ⟨a, b⟩)
  refine inv_mk (m1 := m) (c' := m) hI (fun _ _ _ => rfl) Es_rf hI.2.2.1 rfl rfl (fun o ho => StG_o h (by omega)) (RR_fld (fun o a b => StG_o h (by omega)) (fun i hi => hf i (by omega) (by omega)) ?_ ?_ hI.2.2.2.1)
  · rw [hf 28 (by decide) (by decide)]; exact hI.2.2.2.1.2.2.1
  · rw [hf 30 (by decide) (by decide)]; exact hI.2.2.2.1.2.2.2
set_option maxRecDepth 100000 in
theorem pair_wander (X : Xv) (m : Mem) {w d l : Int} (hI : Inv X w d l m) (x y a : Int) : kPair X 158 280 [vI x, vI y, vI a] m (Inv X w d l) := by
  obtain ⟨hB, hl, hW, hR, h60, h31⟩ := id hI
  have hM := WF_WM hW
  refine kp2 (k1 := 5) (k2 := 6) (by decide) (by decide) ?_
  refine kCall_ofT ok_X11_wander rfl (Nat.le_of_ble_eq_true rfl) (fun T hT => ?_)
  obtain ⟨ok, hok⟩ : ∃ ok : Prop, ok ↔ (-3 ≤ x ∧ x ≤ 3) ∧ (-3 ≤ y ∧ y ≤ 3) ∧ (0 ≤ a ∧ a ≤ 1) := ⟨_, Iff.rfl⟩
  have ref : ∀ (z : Int) (m1 : Mem), (∀ o, o ≠ 46 → m1 o = m o) → (¬ ok ∧ z = -1) ∨ (ok ∧ z = if a = 0 then sumN (stA w d l (nC X) m (shN w d l m x y)) (m 9 14).toNat else sumN (stA w d l (nC X) m (opN w d l m x y)) (m 9 14).toNat) → kCall (eX X) 6 280 [vR 54, vI x, vI y, vI a] m1 (fun r2 m2 => r2 = some (vI z) ∧ Inv X w d l m2) := by
    intro z m1 hf hz
    have hI1 : Inv X w d l m1 := inv_46 hI hf
    have hR1 : RR w d l m m1 := RR_ref (fun o p _ => hf o (by omega)) hR
    refine kCall_ofT ok_X12_wander rfl (Nat.le_of_ble_eq_true rfl) (fun T2 hT2 => ?_)
    have hno : ¬ ok → T2 (some (vI (-1))) m1 := by
      intro h
      rcases hz with ⟨-, rfl⟩ | ⟨h2, -⟩
      · exact hT2 _ _ ⟨rfl, hI1⟩
      · exact absurd h2 h
    refine kW_go ok_X12_wander [2] 20 ?_
    refine kCall_mono (c_X12_in (eX X) m1 x (-3) 3) (Nat.le_of_ble_eq_true rfl) ?_
    rintro _ m1 ⟨rfl, rfl⟩
    refine And.intro (fun h => hno (fun q => b2i_0.mp h (hok.mp q).1)) (fun h => ?_)
    have hx := b2i_n.mp h
    refine kCall_mono (c_X12_in (eX X) m1 y (-3) 3) (Nat.le_of_ble_eq_true rfl) ?_
    rintro _ m1 ⟨rfl, rfl⟩
    refine And.intro (fun h => hno (fun q => b2i_0.mp h (hok.mp q).2.1)) (fun h => ?_)
    have hy := b2i_n.mp h
    refine kCall_mono (c_X12_in (eX X) m1 a 0 1) (Nat.le_of_ble_eq_true rfl) ?_
    rintro _ m1 ⟨rfl, rfl⟩
    refine And.intro (fun h => ?_) (fun h => hno (fun q => b2i_0.mp h (hok.mp q).2.2))
    have ha := b2i_n.mp h
    have hz : z = _ := (hz.resolve_left (fun q => q.1 (hok.mpr ⟨hx, hy, ha⟩))).2
    refine kW_go ok_X12_wander [] 20 ?_
    refine kCall_mono (c_X12_findWander X m m1 hB.1 hB.2.1 hM (RR_0 hR1) x y hx hy) (Nat.le_of_ble_eq_true rfl) ?_
    rintro _ m2 ⟨rfl, hs⟩
    have hI2 := inv_sh hI1 hs
    refine And.intro (fun h => hT2 _ _ ⟨?_, hI2⟩) (fun h => hT2 _ _ ⟨?_, hI2⟩)
    · have h : ¬ a = 0 := h
      rw [hz, if_neg h]
      exact congrArg (fun z => some (vI z)) hs.2.2
    · have h : a = 0 := h
      rw [hz, if_pos h]
      exact congrArg (fun z => some (vI z)) hs.2.1
  have hno : ¬ ok → T (some (vI (-1))) m := fun h => hT _ _ ⟨_, rfl, ref _ m (fun _ _ => rfl) (Or.inl ⟨h, rfl⟩)⟩
  refine kW_go ok_X11_wander [] 20 ?_
  refine And.intro (fun h => hno (fun q => by have := hok.mp q; omega)) (fun h1 => And.intro (fun h => hno (fun q => by have := hok.mp q; omega)) (fun h2 => And.intro (fun h => hno (fun q => by have := hok.mp q; omega)) (fun h3 => And.intro (fun h => hno (fun q => by have := hok.mp q; omega)) (fun h4 => And.intro (fun h => hno (fun q => by have := hok.mp q; omega)) (fun h5 => And.intro (fun h6 => ?_) (fun h => hno (fun q => by have := hok.mp q; omega)))))))
  have hokk : ok := hok.mpr (by omega)
  refine kCall_mono (c_X0_shiftVias X m m hB hM (fun _ _ _ => rfl) x y (by omega) (by omega)) (Nat.le_of_ble_eq_true rfl) ?_
  rintro _ m2 ⟨rfl, hs⟩
  have hf : ∀ o, o ≠ 46 → m2 o = m o := fun o ho => StG_o hs ho
  refine And.intro (fun h => ?_) (fun h => ?_)
  · have h : ¬ a = 0 := h
    exact hT _ _ ⟨_, rfl, ref _ m2 hf (Or.inr ⟨hokk, by rw [if_neg h]; exact hs.2.2⟩)⟩
  · have h : a = 0 := h
    exact hT _ _ ⟨_, rfl, ref _ m2 hf (Or.inr ⟨hokk, by rw [if_pos h]; exact hs.2.1⟩)⟩
/-! WORST -/
def woT (W : Int → Int → Int) (s : Int × Int × Int) (x y : Int) : Int × Int × Int := if s.2.2 < W x y then (x, y, W x y) else s
def woI (W : Int → Int → Int) (x b : Int) : Nat → Int × Int × Int → Int × Int × Int
  | 0, s => s
  | k + 1, s => woT W (woI W x b k s) x ((k : Int) - b)
def woO (W : Int → Int → Int) (b : Int) : Nat → Int × Int × Int
  | 0 => (0, 0, -1)
  | q + 1 => woI W ((q : Int) - b) b (2 * b + 1).toNat (woO W b q)
def woV (s : Int × Int × Int) (a : Int) : Int := if a = 0 then s.1 else if a = 1 then s.2.1 else s.2.2
noncomputable def woW (w d l : Int) (N : Nat) (c : Mem) (x y : Int) : Int := sumN (stA w d l N c (shN w d l c x y)) (c 9 14).toNat + sumN (stA w d l N c (opN w d l c x y)) (c 9 14).toNat
theorem woW_in {w d l : Int} {N : Nat} {c : Mem} (hN : (N : Int) ≤ 324) (h8 : 0 ≤ c 9 14 ∧ c 9 14 ≤ 8) (x y : Int) : (0 ≤ sumN (stA w d l N c (shN w d l c x y)) (c 9 14).toNat ∧ sumN (stA w d l N c (shN w d l c x y)) (c 9 14).toNat ≤ 2592) ∧ (0 ≤ sumN (stA w d l N c (opN w d l c x y)) (c 9 14).toNat ∧ sumN (stA w d l N c (opN w d l c x y)) (c 9 14).toNat ≤ 2592) := by
  have h1 := stA_sum (w := w) (d := d) (l := l) (c := c) (f := shN w d l c x y) hN (c 9 14).toNat
  have h2 := stA_sum (w := w) (d := d) (l := l) (c := c) (f := opN w d l c x y) hN (c 9 14).toNat
  omega
set_option maxRecDepth 100000 in
theorem c_X0_worstShift (X : Xv) (m : Mem) {w d l : Int} (hB : Bd X w d l m) (hM : WM w d l m) (b a : Int) (hb : 0 ≤ b ∧ b ≤ 3) (ha : 0 ≤ a ∧ a ≤ 2) : kCall (eX X) 4 M_X0_worstShift.1 [vR 46, vI b, vI a] m (fun r m' => r = some (vI (woV (woO (woW w d l (nC X) m) b (2 * b + 1).toNat) a)) ∧ ∀ o, o ≠ 46 → m' o = m o) := by
  have hc4 := okD_cells hB.1
  have hN := hB.2.1
  have h8 := hM.1.2.1
  refine kCall_ofT ok_X0_worstShift rfl (Nat.le_of_ble_eq_true rfl) (fun T hT => ?_)
  have outer : ∀ (k : Nat) (q : Nat) (s : Int × Int × Int) (mm : Mem) (x7 : Option AV), (q : Int) + k = 2 * b + 1 → s = woO (woW w d l (nC X) m) b q → (∀ o, o ≠ 46 → mm o = m o) → kW (eX X) 3 M_X0_worstShift T 1 [some (vR 46), some (vI b), some (vI a), some (vI s.1), some (vI s.2.1), some (vI s.2.2), some (vI ((q : Int) - b)), x7] [] mm := by
    intro k
    induction k with
    | zero =>
      intro q s mm x7 hq hs hf
      refine kW_go ok_X0_worstShift [1] 20 ?_
      refine And.intro (fun _ => ?_) (fun h => absurd h (by omega))
      have hend : ∀ v, v = woV s a → T (some (vI v)) mm := by
        intro v hv
        refine hT _ _ ⟨?_, hf⟩
        rw [hv, hs, show (2 * b + 1).toNat = q by omega]
      refine And.intro (fun h => And.intro (fun h1 => hend _ ?_) (fun h1 => hend _ ?_)) (fun h => hend _ ?_)
      · unfold woV; rw [if_neg h, if_neg h1]
      · unfold woV; rw [if_neg h, if_pos h1]
      · unfold woV; rw [if_pos h]
    | succ k ih =>
      intro q s mm x7 hq hs hf
      have inner : ∀ (p j : Nat) (t : Int × Int × Int) (mm : Mem), (j : Int) + p = 2 * b + 1 → t = woI (woW w d l (nC X) m) ((q : Int) - b) b j s → (∀ o, o ≠ 46 → mm o = m o) → kW (eX X) 3 M_X0_worstShift T 2 [some (vR 46), some (vI b), some (vI a), some (vI t.1), some (vI t.2.1), some (vI t.2.2), some (vI ((q : Int) - b)), some (vI ((j : Int) - b))] [] mm := by
        intro p
        induction p with
        | zero =>
          intro j t mm hj ht hf
          refine kW_go ok_X0_worstShift [1, 2] 20 ?_
          refine And.intro (fun _ => ⟨by constructor <;> omega, ?_⟩) (fun h => absurd h (by omega))
          have := ih (q + 1) t mm (some (vI ((j : Int) - b))) (by omega) (by rw [ht, hs, show j = (2 * b + 1).toNat by omega]; rfl) hf
          rw [show (((q + 1 : Nat) : Int) - b) = (q : Int) - b + 1 by omega] at this
          exact this
        | succ p ihp =>
          intro j t mm hj ht hf
          refine kW_go ok_X0_worstShift [1, 2] 20 ?_
          refine And.intro (fun h => absurd h (by omega)) (fun _ => ?_)
          have hB2 : Bd X w d l mm := Bd_same hB (fun o a b => hf o (by omega))
          refine kCall_mono (c_X0_shiftVias X m mm hB2 hM (fun o _ _ => hf o (by omega)) ((q : Int) - b) ((j : Int) - b) (by omega) (by omega)) (Nat.le_of_ble_eq_true rfl) ?_
          rintro _ m2 ⟨rfl, hst⟩
          have hf2 : ∀ o, o ≠ 46 → m2 o = m o := fun o ho => (StG_o hst ho).trans (hf o ho)
          have hw := woW_in (w := w) (d := d) (l := l) (N := nC X) (c := m) (by omega) h8 ((q : Int) - b) ((j : Int) - b)
          have h3 : m2 46 3 = _ := hst.2.1
          have h4 : m2 46 4 = _ := hst.2.2
          have hsum : m2 46 3 + m2 46 4 = woW w d l (nC X) m ((q : Int) - b) ((j : Int) - b) := by rw [h3, h4]; rfl
          have hnext := fun t' h => ihp (j + 1) t' m2 (by omega) h hf2
          have e : woI (woW w d l (nC X) m) ((q : Int) - b) b (j + 1) s = woT (woW w d l (nC X) m) t ((q : Int) - b) ((j : Int) - b) := by rw [ht]; rfl
          rw [show (((j + 1 : Nat) : Int) - b) = (j : Int) - b + 1 by omega] at hnext
          have hin : inR (m2 46 3 + m2 46 4) := by rw [h3, h4]; constructor <;> omega
          refine ⟨hin, And.intro (fun h => ?_) (fun h => ?_)⟩
          · have h : m2 46 3 + m2 46 4 ≤ t.2.2 := h
            refine ⟨by constructor <;> omega, hnext t ?_⟩
            rw [e]
            unfold woT
            rw [if_neg (by omega)]
          · have h : t.2.2 < m2 46 3 + m2 46 4 := h
            refine ⟨hin, by constructor <;> omega, ?_⟩
            have := hnext (((q : Int) - b), ((j : Int) - b), m2 46 3 + m2 46 4) (by
              rw [e]
              unfold woT
              rw [if_pos (by omega), hsum])
            exact this
      refine kW_go ok_X0_worstShift [2] 20 ?_
      refine And.intro (fun h => absurd h (by omega)) (fun _ => ⟨by constructor <;> omega, ?_⟩)
      have := inner (2 * b + 1).toNat 0 s mm (by omega) rfl hf
      rw [show (((0 : Nat) : Int) - b) = -b by omega] at this
      exact this
  refine kW_go ok_X0_worstShift [1] 20 ?_
  refine ⟨by constructor <;> omega, ?_⟩
  have := outer (2 * b + 1).toNat 0 (0, 0, -1) m none (by omega) rfl (fun _ _ => rfl)
  rw [show (((0 : Nat) : Int) - b) = -b by omega] at this
  exact this
set_option maxRecDepth 100000 in
theorem c_X12_worst (X : Xv) (m m0 : Mem) {w d l : Int} (hI : Inv X w d l m0) (hD : okD w d l) (hN : w * d * l = (nC X : Int)) (hM : WM w d l m) (hR : RR w d l m m0) (b a : Int) : kCall (eX X) 5 281 [vR 54, vI b, vI a] m0 (fun r m' => (((0 ≤ b ∧ b ≤ 3) ∧ (0 ≤ a ∧ a ≤ 2) ∧ r = some (vI (woV (woO (woW w d l (nC X) m) b (2 * b + 1).toNat) a))) ∨ (¬ ((0 ≤ b ∧ b ≤ 3) ∧ (0 ≤ a ∧ a ≤ 2)) ∧ r = some (vI (-1000)))) ∧ Inv X w d l m') := by
  have hc4 := okD_cells hD
  have h8 := hM.1.2.1
  refine kCall_ofT ok_X12_worst rfl (Nat.le_of_ble_eq_true rfl) (fun T hT => ?_)
  refine kW_go ok_X12_worst [2] 20 ?_
  refine kCall_mono (c_X12_in (eX X) m0 b 0 3) (Nat.le_of_ble_eq_true rfl) ?_
  rintro _ m1 ⟨rfl, rfl⟩
  refine And.intro (fun h => hT _ _ ⟨Or.inr ⟨fun q => b2i_0.mp h q.1, rfl⟩, hI⟩) (fun h => ?_)
  have hb := b2i_n.mp h
  refine kCall_mono (c_X12_in (eX X) m1 a 0 2) (Nat.le_of_ble_eq_true rfl) ?_
  rintro _ m1 ⟨rfl, rfl⟩
  refine And.intro (fun h => ?_) (fun h => hT _ _ ⟨Or.inr ⟨fun q => b2i_0.mp h q.2, rfl⟩, hI⟩)
  have ha := b2i_n.mp h
  have outer : ∀ (k : Nat) (q : Nat) (s : Int × Int × Int) (mm : Mem) (x7 : Option AV), (q : Int) + k = 2 * b + 1 → s = woO (woW w d l (nC X) m) b q → Inv X w d l mm → RR w d l m mm → kW (eX X) 4 M_X12_worst T 3 [some (vR 54), some (vI b), some (vI a), some (vI s.1), some (vI s.2.1), some (vI s.2.2), some (vI ((q : Int) - b)), x7] [] mm := by
    intro k
    induction k with
    | zero =>
      intro q s mm x7 hq hs hI2 hR2
      refine kW_go ok_X12_worst [3] 20 ?_
      refine And.intro (fun _ => ?_) (fun h => absurd h (by omega))
      have hend : ∀ v, v = woV s a → T (some (vI v)) mm := by
        intro v hv
        refine hT _ _ ⟨Or.inl ⟨hb, ha, ?_⟩, hI2⟩
        rw [hv, hs, show (2 * b + 1).toNat = q by omega]
      refine And.intro (fun h => And.intro (fun h1 => hend _ ?_) (fun h1 => hend _ ?_)) (fun h => hend _ ?_)
      · unfold woV; rw [if_neg h, if_neg h1]
      · unfold woV; rw [if_neg h, if_pos h1]
      · unfold woV; rw [if_pos h]
    | succ k ih =>
      intro q s mm x7 hq hs hI2 hR2
      have inner : ∀ (p j : Nat) (t : Int × Int × Int) (mm : Mem), (j : Int) + p = 2 * b + 1 → t = woI (woW w d l (nC X) m) ((q : Int) - b) b j s → Inv X w d l mm → RR w d l m mm → kW (eX X) 4 M_X12_worst T 4 [some (vR 54), some (vI b), some (vI a), some (vI t.1), some (vI t.2.1), some (vI t.2.2), some (vI ((q : Int) - b)), some (vI ((j : Int) - b))] [] mm := by
        intro p
        induction p with
        | zero =>
          intro j t mm hj ht hI2 hR2
          refine kW_go ok_X12_worst [3, 4] 20 ?_
          refine And.intro (fun _ => ⟨by constructor <;> omega, ?_⟩) (fun h => absurd h (by omega))
          have := ih (q + 1) t mm (some (vI ((j : Int) - b))) (by omega) (by rw [ht, hs, show j = (2 * b + 1).toNat by omega]; rfl) hI2 hR2
          rw [show (((q + 1 : Nat) : Int) - b) = (q : Int) - b + 1 by omega] at this
          exact this
        | succ p ihp =>
          intro j t mm hj ht hI2 hR2
          refine kW_go ok_X12_worst [3, 4] 20 ?_
          refine And.intro (fun h => absurd h (by omega)) (fun _ => ?_)
          refine kCall_mono (c_X12_findWander X m mm hD hN hM (RR_0 hR2) ((q : Int) - b) ((j : Int) - b) (by omega) (by omega)) (Nat.le_of_ble_eq_true rfl) ?_
          rintro _ m2 ⟨rfl, hst⟩
          have hI3 := inv_sh hI2 hst
          have hf : ∀ i : Int, i ≠ 47 → i ≠ 48 → m2 54 i = mm 54 i := fun i a b => hst.1 54 i (Or.inr ⟨a, b⟩)
          have hR3 : RR w d l m m2 := RR_fld (fun o a b => StG_o hst (by omega)) (fun i hi => hf i (by omega) (by omega)) (by rw [hf 28 (by decide) (by decide)]; exact hR2.2.2.1) (by rw [hf 30 (by decide) (by decide)]; exact hR2.2.2.2) hR2
          have hw := woW_in (w := w) (d := d) (l := l) (N := nC X) (c := m) (by omega) h8 ((q : Int) - b) ((j : Int) - b)
          have h3 : m2 54 47 = _ := hst.2.1
          have h4 : m2 54 48 = _ := hst.2.2
          have hsum : m2 54 47 + m2 54 48 = woW w d l (nC X) m ((q : Int) - b) ((j : Int) - b) := by rw [h3, h4]; rfl
          have hnext := fun t' h => ihp (j + 1) t' m2 (by omega) h hI3 hR3
          have e : woI (woW w d l (nC X) m) ((q : Int) - b) b (j + 1) s = woT (woW w d l (nC X) m) t ((q : Int) - b) ((j : Int) - b) := by rw [ht]; rfl
          rw [show (((j + 1 : Nat) : Int) - b) = (j : Int) - b + 1 by omega] at hnext
          have hin : inR (m2 54 47 + m2 54 48) := by rw [h3, h4]; constructor <;> omega
          refine ⟨hin, And.intro (fun h => ?_) (fun h => ?_)⟩
          · have h : m2 54 47 + m2 54 48 ≤ t.2.2 := h
            refine ⟨by constructor <;> omega, hnext t ?_⟩
            rw [e]
            unfold woT
            rw [if_neg (by omega)]
          · have h : t.2.2 < m2 54 47 + m2 54 48 := h
            refine ⟨hin, by constructor <;> omega, ?_⟩
            have := hnext (((q : Int) - b), ((j : Int) - b), m2 54 47 + m2 54 48) (by
              rw [e]
              unfold woT
              rw [if_pos (by omega), hsum])
            exact this
      refine kW_go ok_X12_worst [4] 20 ?_
      refine And.intro (fun h => absurd h (by omega)) (fun _ => ⟨by constructor <;> omega, ?_⟩)
      have := inner (2 * b + 1).toNat 0 s mm (by omega) rfl hI2 hR2
      rw [show (((0 : Nat) : Int) - b) = -b by omega] at this
      exact this
  refine kW_go ok_X12_worst [3] 20 ?_
  refine ⟨by constructor <;> omega, ?_⟩
  have := outer (2 * b + 1).toNat 0 (0, 0, -1) m1 none (by omega) rfl hI hR
  rw [show (((0 : Nat) : Int) - b) = -b by omega] at this
  exact this
theorem pair_worst (X : Xv) (m : Mem) {w d l : Int} (hI : Inv X w d l m) (b a : Int) : kPair X 159 281 [vI b, vI a] m (Inv X w d l) := by
  obtain ⟨hB, hl, hW, hR, h60, h31⟩ := id hI
  have hM := WF_WM hW
  refine kp2 (k1 := 5) (k2 := 5) (by decide) (by decide) ?_
  refine kCall_ofT ok_X11_worst rfl (Nat.le_of_ble_eq_true rfl) (fun T hT => ?_)
  have hno : ¬ ((0 ≤ b ∧ b ≤ 3) ∧ (0 ≤ a ∧ a ≤ 2)) → T (some (vI (-1000))) m := by
    intro h
    refine hT _ _ ⟨_, rfl, kCall_mono (c_X12_worst X m m hI hB.1 hB.2.1 hM hR b a) (Nat.le_refl _) ?_⟩
    rintro _ m2 ⟨⟨h1, h2, -⟩ | ⟨-, rfl⟩, hI2⟩
    · exact absurd ⟨h1, h2⟩ h
    · exact ⟨rfl, hI2⟩
  refine kW_go ok_X11_worst [] 20 ?_
  refine And.intro (fun h => hno (fun q => by omega)) (fun h1 => And.intro (fun h => hno (fun q => by omega)) (fun h2 => And.intro (fun h => hno (fun q => by omega)) (fun h3 => And.intro (fun h4 => ?_) (fun h => hno (fun q => by omega)))))
  refine kCall_mono (c_X0_worstShift X m hB hM b a (by omega) (by omega)) (Nat.le_of_ble_eq_true rfl) ?_
  rintro _ m1 ⟨rfl, hf⟩
  have hR1 : RR w d l m m1 := RR_ref (fun o p _ => hf o (by omega)) hR
  refine hT _ _ ⟨_, rfl, kCall_mono (c_X12_worst X m m1 (inv_46 hI hf) hB.1 hB.2.1 hM hR1 b a) (Nat.le_refl _) ?_⟩
  rintro _ m2 ⟨⟨-, -, rfl⟩ | ⟨h, -⟩, hI2⟩
  · exact ⟨rfl, hI2⟩
  · exact absurd ⟨by omega, by omega⟩ h
