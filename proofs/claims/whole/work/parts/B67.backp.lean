/-! BACK alike: the reference, and both -/
theorem bac_sum {w d l z n g : Int} (hD : okD w d l) {N : Nat} (hN : w * d * l = (N : Int)) (hz : 0 ≤ z ∧ z < l) {c r : Mem} (hn : 0 ≤ n ∧ n < 8) (hR : RRn w d l c r n) (h85 : ∀ i : Int, (0 ≤ i ∧ i < 81) → (r 85 i = 0 ∨ r 85 i = 1) ∧ (r 85 i ≠ 0 ↔ inRf w d l (81 * z + i) ∧ plF w d l c g z (cC w d (81 * z + i)))) : sumN (fun i => iv ((i / 81 - z = 1 ∨ i / 81 - z = -1) ∧ r 72 (324 * n + i) ≠ 0 ∧ r 85 (i % 81) = 0) 1) 324 = bacV w d l N c n g z := by
  obtain ⟨⟨w1, w2⟩, ⟨d1, d2⟩, l1, l2⟩ := id hD
  rw [sum_all hD (fun i => iv ((i / 81 - z = 1 ∨ i / 81 - z = -1) ∧ r 72 (324 * n + i) ≠ 0 ∧ r 85 (i % 81) = 0) 1) (fun i hi hni => iv_f (fun q => q.2.1 (hR.2.2.2.2.2 i hi hni))) hN]
  -- the plane's cell with the same place
  have hpl : ∀ x y, inC w d l x → inC w d l y → gZ w d x = z → gX w y = gX w x → gY w d y = gY w d x → (r 85 (cR w d y % 81) = 0 ↔ ¬ plF w d l c g z x) := by
    intro x y hx hy hxz e1 e2
    have hj := jO_in hD hx hxz
    have gy := cR_geo hD hy
    have gx := cR_geo hD hx
    have e3 : cR w d y % 81 = jO w d z x := by
      unfold jO cR
      have := gX_in (c := x) hD
      have := gY_in (c := x) hD
      rw [e1, e2, hxz]
      omega
    rw [e3]
    have h := (h85 _ hj.1).2
    rw [← hj.2, (cR_in hD hx).2] at h
    constructor
    · intro hz0 q
      exact h.mpr ⟨(cR_in hD hx).1, q⟩ hz0
    · intro hq
      exact Classical.byContradiction (fun hne => hq (h.mp hne).2)
  obtain ⟨U1, hU1⟩ : ∃ U1 : Int → Int, ∀ y, U1 y = iv (gZ w d y - z = 1 ∧ cuN c n y ∧ r 85 (cR w d y % 81) = 0) 1 := ⟨_, fun _ => rfl⟩
  obtain ⟨U2, hU2⟩ : ∃ U2 : Int → Int, ∀ y, U2 y = iv (gZ w d y - z = -1 ∧ cuN c n y ∧ r 85 (cR w d y % 81) = 0) 1 := ⟨_, fun _ => rfl⟩
  have hsplit : sumN (fun y => iv ((cR w d y / 81 - z = 1 ∨ cR w d y / 81 - z = -1) ∧ r 72 (324 * n + cR w d y) ≠ 0 ∧ r 85 (cR w d y % 81) = 0) 1) N = sumN U1 N + sumN U2 N := by
    rw [← sumN_plus]
    refine sumN_cong (fun y h0 h1 => ?_)
    have hy : inC w d l y := ⟨h0, by omega⟩
    have gy := (cR_geo hD hy).2.2.2
    show iv ((cR w d y / 81 - z = 1 ∨ cR w d y / 81 - z = -1) ∧ r 72 (324 * n + cR w d y) ≠ 0 ∧ r 85 (cR w d y % 81) = 0) 1 = U1 y + U2 y
    rw [gy, hU1, hU2, iv_cong (show ((gZ w d y - z = 1 ∨ gZ w d y - z = -1) ∧ r 72 (324 * n + cR w d y) ≠ 0 ∧ r 85 (cR w d y % 81) = 0) ↔ ((gZ w d y - z = 1 ∨ gZ w d y - z = -1) ∧ cuN c n y ∧ r 85 (cR w d y % 81) = 0) from by rw [cuN_72 hR hy])]
    by_cases a : gZ w d y - z = 1
    · rw [iv_f (P := gZ w d y - z = -1 ∧ _) (fun q => by have := q.1; omega), Int.add_zero]
      exact iv_cong ⟨fun q => ⟨a, q.2⟩, fun q => ⟨Or.inl a, q.2⟩⟩
    · rw [iv_f (P := gZ w d y - z = 1 ∧ _) (fun q => a q.1), Int.zero_add]
      exact iv_cong ⟨fun q => ⟨q.1.resolve_left a, q.2⟩, fun q => ⟨Or.inr q.1, q.2⟩⟩
  rw [hsplit]
  unfold bacV
  rw [sumN_plus]
  have hF0 : 0 < w * d := Int.mul_pos (by omega) (by omega)
  have hF : (((w * d).toNat : Nat) : Int) = w * d := by omega
  congr 1
  · -- the layer above
    rw [sum_layer hD hN hz (fun x => iv (bacP w d l c n g z 4 x) 1) (fun x _ hne => iv_f (fun q => hne q.1))]
    by_cases htop : z + 1 < l
    · rw [sum_layer hD hN (z := z + 1) ⟨by omega, htop⟩ U1 (fun y _ hne => by rw [hU1]; exact iv_f (fun q => by have := q.1; omega))]
      refine sumN_cong (fun q h0 h1 => ?_)
      obtain ⟨hx, hxz⟩ := lay_q (q := q) hD hz ⟨h0, by omega⟩
      have hne := (nx_up_ne hD hx).mpr (by rw [hxz]; exact htop)
      have hup := nx_up hD hne
      have hy := nx_in hne
      have ey : (z + 1) * (w * d) + q = nx w d l (z * (w * d) + q) 4 := by rw [hup, Int.add_mul, Int.one_mul]; omega
      rw [ey, hU1]
      refine iv_cong ?_
      rw [hpl _ _ hx hy.1 hxz (by rw [hy.2.1, show dX 4 = 0 from rfl, Int.add_zero]) (by rw [hy.2.2.1, show dY 4 = 0 from rfl, Int.add_zero]), hy.2.2.2, hxz, show dZ 4 = 1 from rfl]
      exact ⟨fun q => ⟨hxz, q.2.2, hne, q.2.1⟩, fun q => ⟨by omega, q.2.2.2, q.2.1⟩⟩
    · rw [sumN_z (f := U1) (fun i h0 h1 => by
        rw [hU1]
        refine iv_f (fun q => ?_)
        have := gZ_in hD (show inC w d l i from ⟨h0, by omega⟩)
        have := q.1
        omega)]
      symm
      refine sumN_z (fun q h0 h1 => ?_)
      obtain ⟨hx, hxz⟩ := lay_q (q := q) hD hz ⟨h0, by omega⟩
      refine iv_f (fun y => ?_)
      have := (nx_up_ne hD hx).mp y.2.2.1
      omega
  · rw [sum_layer hD hN hz (fun x => iv (bacP w d l c n g z 5 x) 1) (fun x _ hne => iv_f (fun q => hne q.1))]
    by_cases hbot : 1 ≤ z
    · rw [sum_layer hD hN (z := z - 1) ⟨by omega, by omega⟩ U2 (fun y _ hne => by rw [hU2]; exact iv_f (fun q => by have := q.1; omega))]
      refine sumN_cong (fun q h0 h1 => ?_)
      obtain ⟨hx, hxz⟩ := lay_q (q := q) hD hz ⟨h0, by omega⟩
      have hne := (nx_dn_ne hD hx).mpr (by rw [hxz]; exact hbot)
      have hup := nx_dn hD hne
      have hy := nx_in hne
      have ey : (z - 1) * (w * d) + q = nx w d l (z * (w * d) + q) 5 := by rw [hup, Int.sub_mul, Int.one_mul]; omega
      rw [ey, hU2]
      refine iv_cong ?_
      rw [hpl _ _ hx hy.1 hxz (by rw [hy.2.1, show dX 5 = 0 from rfl, Int.add_zero]) (by rw [hy.2.2.1, show dY 5 = 0 from rfl, Int.add_zero]), hy.2.2.2, hxz, show dZ 5 = -1 from rfl]
      exact ⟨fun q => ⟨hxz, q.2.2, hne, q.2.1⟩, fun q => ⟨by omega, q.2.2.2, q.2.1⟩⟩
    · rw [sumN_z (f := U2) (fun i h0 h1 => by
        rw [hU2]
        refine iv_f (fun q => ?_)
        have := gZ_in hD (show inC w d l i from ⟨h0, by omega⟩)
        have := q.1
        omega)]
      symm
      refine sumN_z (fun q h0 h1 => ?_)
      obtain ⟨hx, hxz⟩ := lay_q (q := q) hD hz ⟨h0, by omega⟩
      refine iv_f (fun y => ?_)
      have := (nx_dn_ne hD hx).mp y.2.2.1
      omega
set_option maxRecDepth 100000 in
theorem c_X12_back (X : Xv) (c m : Mem) {w d l : Int} (hD : okD w d l) (hN : w * d * l = (nC X : Int)) (hM : WM w d l c) (hR : RR w d l c m) (n g z : Int) : kCall (eX X) 5 276 [vR 54, vI n, vI g, vI z] m (fun r m' => (¬ ((0 ≤ n ∧ n < c 9 14) ∧ (0 ≤ g ∧ g < c 9 14) ∧ n ≠ g ∧ (0 ≤ z ∧ z < l)) ∧ r = some (vI (-1)) ∧ m' = m) ∨ (((0 ≤ n ∧ n < c 9 14) ∧ (0 ≤ g ∧ g < c 9 14) ∧ n ≠ g ∧ (0 ≤ z ∧ z < l)) ∧ r = some (vI (bacV w d l (nC X) c n g z)) ∧ RR w d l c m' ∧ ∀ o, o < 54 → m' o = m o)) := by
  have h8 := hM.1.2.1
  obtain ⟨-, -, l1, l2⟩ := id hD
  have e3f : fld m 54 3 = l := hR.1.1.2.2.1
  refine kCall_ofT ok_X12_back rfl (Nat.le_of_ble_eq_true rfl) (fun T hT => ?_)
  have hno : ¬ ((0 ≤ n ∧ n < c 9 14) ∧ (0 ≤ g ∧ g < c 9 14) ∧ n ≠ g ∧ (0 ≤ z ∧ z < l)) → T (some (vI (-1))) m := fun h => hT _ _ (Or.inl ⟨h, rfl, rfl⟩)
  refine kW_go ok_X12_back [2] 20 ?_
  refine kCall_mono (isNetR hM.1 hR.1 n) (Nat.le_of_ble_eq_true rfl) ?_
  rintro _ m ⟨rfl, rfl⟩
  refine And.intro (fun h => hno (fun q => b2i_0.mp h q.1)) (fun h => ?_)
  have hnn := b2i_n.mp h
  have hn8 : 0 ≤ n ∧ n < 8 := by omega
  refine kCall_mono (isNetR hM.1 hR.1 g) (Nat.le_of_ble_eq_true rfl) ?_
  rintro _ m ⟨rfl, rfl⟩
  refine And.intro (fun h => hno (fun q => b2i_0.mp h q.2.1)) (fun h => ?_)
  have hgg := b2i_n.mp h
  refine And.intro (fun h => hno (fun q => q.2.2.1 h)) (fun hng => ⟨by constructor <;> omega, ?_⟩)
  refine kCall_mono (c_X12_in (eX X) m z 0 _) (Nat.le_of_ble_eq_true rfl) ?_
  rintro _ m ⟨rfl, rfl⟩
  refine And.intro (fun h => ?_) (fun h => hno (fun q => b2i_0.mp h (by have := q.2.2.2; omega)))
  have hz : 0 ≤ z ∧ z < l := by have := b2i_n.mp h; omega
  refine kW_go ok_X12_back [3] 20 ?_
  refine kCall_mono (c_X12_spread X c m hD hM hR g z hgg hz) (Nat.le_of_ble_eq_true rfl) ?_
  rintro _ m1 ⟨rfl, hR1, f1, h85⟩
  have hsum := bac_sum hD hN hz (n := n) (g := g) hn8 (hR1.2.1 n hn8) h85
  obtain ⟨A, hA⟩ : ∃ A : Int → Int, ∀ i, A i = iv ((i / 81 - z = 1 ∨ i / 81 - z = -1) ∧ m1 72 (324 * n + i) ≠ 0 ∧ m1 85 (i % 81) = 0) 1 := ⟨_, fun _ => rfl⟩
  have bA : ∀ k : Nat, 0 ≤ sumN A k ∧ sumN A k ≤ 1 * k := fun k => sumN_01 (fun x => by rw [hA]; exact iv_in ⟨by decide, by decide⟩) k
  have hsum : sumN A 324 = bacV w d l (nC X) c n g z := by rw [← hsum]; exact sumN_cong (fun i _ _ => hA i)
  have loop : ∀ (q : Nat) (i : Int) (x6 : Option AV), i + q = 324 → 0 ≤ i → kW (eX X) 4 M_X12_back T 3 [some (vR 54), some (vI n), some (vI g), some (vI z), some (vI (sumN A i.toNat)), some (vI i), x6] [] m1 := by
    intro q
    induction q with
    | zero =>
      intro i x6 hq h0
      have hi : i = 324 := by omega
      subst hi
      refine kW_go ok_X12_back [3] 20 ?_
      exact And.intro (fun _ => hT _ _ (Or.inr ⟨⟨hnn, hgg, hng, hz⟩, by rw [show (324 : Int).toNat = 324 from rfl, hsum], hR1, fun o ho => f1 o (by omega) (by omega) (by omega)⟩)) (fun h => absurd h (by decide))
    | succ q ih =>
      intro i x6 hq h0
      have b1 := bA i.toNat
      have hnext : ∀ (v : Int), v = A i → kW (eX X) 4 M_X12_back T 6 [some (vR 54), some (vI n), some (vI g), some (vI z), some (vI (sumN A i.toNat)), some (vI i), some (vI (i / 81 - z))] [vI v, vI (sumN A i.toNat)] m1 := by
        intro v hv
        have hvb : 0 ≤ v ∧ v ≤ 1 := by rw [hv, hA]; exact iv_in ⟨by decide, by decide⟩
        have := ih (i + 1) (some (vI (i / 81 - z))) (by omega) (by omega)
        rw [sumN_s A h0, ← hv] at this
        refine kW_go ok_X12_back [3] 20 ?_
        exact ⟨by constructor <;> omega, by constructor <;> omega, this⟩
      have htm : i.tmod 81 = i % 81 := Int.tmod_eq_emod_of_nonneg h0
      have hfour : (i / 81 - z = 1 ∨ i / 81 - z = -1) → kW (eX X) 4 M_X12_back T 4 [some (vR 54), some (vI n), some (vI g), some (vI z), some (vI (sumN A i.toNat)), some (vI i), some (vI (i / 81 - z))] [vI (sumN A i.toNat)] m1 := by
        intro hl
        refine kW_go ok_X12_back [6] 20 ?_
        refine kCall_mono (c_X12_has X m1 n i hn8 (by omega)) (Nat.le_of_ble_eq_true rfl) ?_
        rintro _ m2 ⟨⟨hh, rfl⟩ | ⟨hh, rfl⟩, rfl⟩
        · refine And.intro (fun h => absurd h (by decide)) (fun _ => ⟨by decide, ?_⟩)
          show (0 ≤ i.tmod 81 ∧ i.tmod 81 < ((81 : Nat) : Int)) ∧ (¬ m2 85 (i.tmod 81) = 0 → _) ∧ (m2 85 (i.tmod 81) = 0 → _)
          rw [htm]
          refine ⟨by omega, fun h => hnext 0 (by rw [hA, iv_f (fun q => h q.2.2)]), fun h => hnext 1 (by rw [hA, iv_t ⟨hl, hh, h⟩])⟩
        · exact And.intro (fun _ => hnext 0 (by rw [hA, iv_f (fun q => hh q.2.1)])) (fun h => absurd rfl h)
      refine kW_go ok_X12_back [3, 4, 6] 20 ?_
      refine And.intro (fun h => absurd h (by omega)) (fun _ => ?_)
      refine kCall_mono (c_X12_layerOf (eX X) m1 i h0 (by omega)) (Nat.le_of_ble_eq_true rfl) ?_
      rintro _ m2 ⟨rfl, rfl⟩
      exact ⟨by constructor <;> omega, And.intro (fun h => hfour (Or.inl h)) (fun h => And.intro (fun h2 => hnext 0 (by rw [hA, iv_f (fun q => q.1.elim h h2)])) (fun h2 => hfour (Or.inr h2)))⟩
  exact loop 324 0 none (by omega) (by omega)
theorem pair_back (X : Xv) (m : Mem) {w d l : Int} (hI : Inv X w d l m) (n g z : Int) : kPair X 157 276 [vI n, vI g, vI z] m (Inv X w d l) := by
  obtain ⟨hB, hl, hW, hR, h60, h31⟩ := id hI
  obtain ⟨hD, hN, hG⟩ := id hB
  have hM := WF_WM hW
  refine kp2 (k1 := 6) (k2 := 5) (by decide) (by decide) ?_
  refine kCall_ofT ok_X11_back rfl (Nat.le_of_ble_eq_true rfl) (fun T hT => ?_)
  have hno : ¬ ((0 ≤ n ∧ n < m 9 14) ∧ (0 ≤ g ∧ g < m 9 14) ∧ n ≠ g ∧ (0 ≤ z ∧ z < l)) → T (some (vI (-1))) m := by
    intro h
    refine hT _ _ ⟨_, rfl, kCall_mono (c_X12_back X m m hD hN hM hR n g z) (Nat.le_refl _) ?_⟩
    rintro _ m2 (⟨-, rfl, rfl⟩ | ⟨h2, -⟩)
    · exact ⟨rfl, hI⟩
    · exact absurd h2 h
  refine kW_go ok_X11_back [] 20 ?_
  refine kCall_mono (c_X11_isNet X m n) (Nat.le_of_ble_eq_true rfl) ?_
  rintro _ m ⟨rfl, rfl⟩
  refine And.intro (fun h => hno (fun q => b2i_0.mp h q.1)) (fun h => ?_)
  have hnn := b2i_n.mp h
  refine kCall_mono (c_X11_isNet X m g) (Nat.le_of_ble_eq_true rfl) ?_
  rintro _ m ⟨rfl, rfl⟩
  refine And.intro (fun h => hno (fun q => b2i_0.mp h q.2.1)) (fun h => ?_)
  have hgg := b2i_n.mp h
  refine And.intro (fun h => hno (fun q => q.2.2.1 h)) (fun hng => ?_)
  refine kCall_mono (c_X11_isLayer X m z) (Nat.le_of_ble_eq_true rfl) ?_
  rw [hG.2.2.1]
  rintro _ m ⟨rfl, rfl⟩
  refine And.intro (fun h => ?_) (fun h => hno (fun q => b2i_0.mp h q.2.2.2))
  have hz := b2i_n.mp h
  refine kCall_mono (c_X4_withoutReturn X m hB hM n g z hnn hgg hz) (Nat.le_of_ble_eq_true rfl) ?_
  rintro _ m1 ⟨rfl, hf⟩
  have hI1 : Inv X w d l m1 := inv_k hI (fun o ho => hf o (by omega))
  refine hT _ _ ⟨_, rfl, kCall_mono (c_X12_back X m m1 hD hN hM (RR_ref (fun o a _ => hf o (by omega)) hR) n g z) (Nat.le_refl _) ?_⟩
  rintro _ m2 (⟨h2, -⟩ | ⟨-, rfl, hR2, hf2⟩)
  · exact absurd ⟨hnn, hgg, hng, hz⟩ h2
  · exact ⟨rfl, inv_mk hI1 (m1 := m1) (c' := m1) (fun _ _ _ => rfl) Es_rf hI1.2.2.1 rfl rfl hf2 (RR_es (Es_of (fun o ho => hf o (by omega))) hR2)⟩
