/-! SPOKES alike -/
noncomputable def spoV (w d l : Int) (c : Mem) (n x : Int) : Int := sumN (fun k => iv (nx w d l x k ≠ -1 ∧ plF w d l c n (gZ w d x) (nx w d l x k)) 1) 4
set_option maxRecDepth 100000 in
theorem c_X4_spokesAt (X : Xv) (m : Mem) {w d l : Int} (hB : Bd X w d l m) (hM : WM w d l m) (n x : Int) (hnn : 0 ≤ n ∧ n < m 9 14) (hx : inC w d l x) : kCall (eX X) 4 M_X4_spokesAt.1 [vR 45, vI n, vI x] m (fun r m' => r = some (vI (spoV w d l m n x)) ∧ ∀ o, o < 22 ∨ 27 < o → m' o = m o) := by
  obtain ⟨hD, hN, hG0⟩ := id hB
  have hc4 := okD_cells hD
  have hs := WFs_srt hM.1
  have hxb : 0 ≤ x ∧ x < (nC X : Int) := ⟨hx.1, by have := hx.2; omega⟩
  refine kCall_ofT ok_X4_spokesAt rfl (Nat.le_of_ble_eq_true rfl) (fun T hT => ?_)
  refine kW_go ok_X4_spokesAt [1] 20 ?_
  refine kCall_mono (kCall_in (c_X6_look X m hD hN hG0 hs n 1 hnn)) (Nat.le_of_ble_eq_true rfl) ?_
  rintro _ m1 ⟨⟨rfl, hf, h22, h26, hb⟩, hin⟩
  have hf1 : ∀ o, o < 22 ∨ 26 < o → m1 o = m o := fun o ho => hf o (by omega) (by omega) (by omega) (by omega) (by omega)
  have hlk : looked w d l X m m1 n 1 := ⟨h22.1, h26, hb⟩
  have e5 : m1 5 x = gZ w d x := by rw [hf1 5 (by decide)]; exact (hG0.2.2.2.2.2 x hx).2.2.1
  have hmp := c_X6_markPlane X m m1 hB hM n (m1 5 x) hnn (fun o ho => hf1 o (by omega)) hlk hin
  refine ⟨hxb, ?_⟩
  refine kCall_mono hmp (Nat.le_of_ble_eq_true rfl) ?_
  rw [e5]
  rintro _ m2 ⟨rfl, f2, h27⟩
  have hf2 : ∀ o, o < 22 ∨ 27 < o → m2 o = m o := fun o ho => by rw [f2 o (by omega)]; exact hf1 o (by omega)
  obtain ⟨A, hA⟩ : ∃ A : Int → Int, ∀ k, A k = iv (nx w d l x k ≠ -1 ∧ plF w d l m n (gZ w d x) (nx w d l x k)) 1 := ⟨_, fun _ => rfl⟩
  have bA : ∀ k : Nat, 0 ≤ sumN A k ∧ sumN A k ≤ 1 * k := fun k => sumN_01 (fun x => by rw [hA]; exact iv_in ⟨by decide, by decide⟩) k
  have hsum : sumN A 4 = spoV w d l m n x := sumN_cong (fun k _ _ => hA k)
  have loop : ∀ (q : Nat) (k : Int) (x5 : Option AV), k + q = 4 → 0 ≤ k → kW (eX X) 3 M_X4_spokesAt T 1 [some (vR 45), some (vI n), some (vI x), some (vI (sumN A k.toNat)), some (vI k), x5] [] m2 := by
    intro q
    induction q with
    | zero =>
      intro k x5 hq h0
      have hk : k = 4 := by omega
      subst hk
      refine kW_go ok_X4_spokesAt [1] 20 ?_
      exact And.intro (fun _ => hT _ _ ⟨by rw [show (4 : Int).toNat = 4 from rfl, hsum], hf2⟩) (fun h => absurd h (by decide))
    | succ q ih =>
      intro k x5 hq h0
      have hk6 : 0 ≤ k ∧ k < 6 := by omega
      have e2 : m2 2 (x * 6 + k) = nx w d l x k := by rw [hf2 2 (by omega)]; exact (hG0.2.2.2.2.2 x hx).2.2.2 k h0 (by omega)
      have b1 := bA k.toNat
      have hnext : ∀ (v : Int) (x5 : Option AV), v = A k → inR (sumN A k.toNat + v) ∧ inR (k + 1) ∧ kW (eX X) 3 M_X4_spokesAt T 1 [some (vR 45), some (vI n), some (vI x), some (vI (sumN A k.toNat + v)), some (vI (k + 1)), x5] [] m2 := by
        intro v x5 hv
        have hvb : 0 ≤ v ∧ v ≤ 1 := by rw [hv, hA]; exact iv_in ⟨by decide, by decide⟩
        have := ih (k + 1) x5 (by omega) (by omega)
        rw [sumN_s A h0, ← hv] at this
        exact ⟨by constructor <;> omega, by constructor <;> omega, this⟩
      have hix : 0 ≤ x * 6 + k ∧ x * 6 + k < ((nC X * 6 : Nat) : Int) := by omega
      refine kW_go ok_X4_spokesAt [1] 20 ?_
      refine And.intro (fun h => absurd h (by omega)) (fun _ => ?_)
      show inR (x * 6) ∧ inR (x * 6 + k) ∧ (0 ≤ x * 6 + k ∧ x * 6 + k < ((nC X * 6 : Nat) : Int)) ∧ ((¬ m2 2 (x * 6 + k) = -1 → (0 ≤ m2 2 (x * 6 + k) ∧ m2 2 (x * 6 + k) < (nC X : Int)) ∧ inR (sumN A k.toNat + m2 27 (m2 2 (x * 6 + k))) ∧ inR (k + 1) ∧ kW (eX X) 3 M_X4_spokesAt T 1 [some (vR 45), some (vI n), some (vI x), some (vI (sumN A k.toNat + m2 27 (m2 2 (x * 6 + k)))), some (vI (k + 1)), some (vI (m2 2 (x * 6 + k)))] [] m2) ∧ (m2 2 (x * 6 + k) = -1 → inR (sumN A k.toNat + 0) ∧ inR (k + 1) ∧ kW (eX X) 3 M_X4_spokesAt T 1 [some (vR 45), some (vI n), some (vI x), some (vI (sumN A k.toNat + 0)), some (vI (k + 1)), some (vI (m2 2 (x * 6 + k)))] [] m2))
      rw [e2]
      refine ⟨by constructor <;> omega, by constructor <;> omega, hix, fun hne => ?_, fun he => hnext 0 _ (by rw [hA, iv_f (fun q => q.1 he)])⟩
      have hyi := (nx_in hne).1
      refine ⟨⟨hyi.1, by have := hyi.2; omega⟩, hnext _ _ ?_⟩
      rw [hA]
      by_cases hq : plF w d l m n (gZ w d x) (nx w d l x k)
      · rw [(h27 _ hyi).1 hq, iv_t ⟨hne, hq⟩]
      · rw [(h27 _ hyi).2 hq, iv_f (fun q => hq q.2)]
  exact loop 4 0 none (by omega) (by omega)
set_option maxRecDepth 100000 in
theorem c_X12_spokes (X : Xv) (c m : Mem) {w d l : Int} (hD : okD w d l) (hM : WM w d l c) (hR : RR w d l c m) (n p : Int) : kCall (eX X) 5 275 [vR 54, vI n, vI p] m (fun r m' => (¬ ((0 ≤ n ∧ n < c 9 14) ∧ (0 ≤ p ∧ p < c 13 n)) ∧ r = some (vI (-1)) ∧ m' = m) ∨ (((0 ≤ n ∧ n < c 9 14) ∧ (0 ≤ p ∧ p < c 13 n)) ∧ r = some (vI (spoV w d l c n (c 14 (n * 4 + p)))) ∧ RR w d l c m' ∧ ∀ o, o < 54 → m' o = m o)) := by
  have h8 := hM.1.2.1
  obtain ⟨-, -, l1, l2⟩ := id hD
  refine kCall_ofT ok_X12_spokes rfl (Nat.le_of_ble_eq_true rfl) (fun T hT => ?_)
  have hno : ¬ ((0 ≤ n ∧ n < c 9 14) ∧ (0 ≤ p ∧ p < c 13 n)) → T (some (vI (-1))) m := fun h => hT _ _ (Or.inl ⟨h, rfl, rfl⟩)
  refine kW_go ok_X12_spokes [2] 20 ?_
  refine kCall_mono (isNetR hM.1 hR.1 n) (Nat.le_of_ble_eq_true rfl) ?_
  rintro _ m ⟨rfl, rfl⟩
  refine And.intro (fun h => hno (fun q => b2i_0.mp h q.1)) (fun h => ?_)
  have hnn := b2i_n.mp h
  have hn8 : 0 ≤ n ∧ n < 8 := by omega
  have hnb : 0 ≤ n ∧ n < ((8 : Nat) : Int) := hn8
  obtain ⟨-, e63, e64⟩ := hR.1.2.2.2.2.1 n hn8
  have hP4 := (hM.2.1.1 n hn8).1
  have hP4' : 0 ≤ m 63 n ∧ m 63 n ≤ 4 := by rw [e63]; exact hP4
  refine ⟨hnb, by constructor <;> omega, ?_⟩
  refine kCall_mono (c_X12_in (eX X) m p 0 _) (Nat.le_of_ble_eq_true rfl) ?_
  rintro _ m ⟨rfl, rfl⟩
  refine And.intro (fun h => ?_) (fun h => hno (fun q => b2i_0.mp h (by have := q.2; omega)))
  have hp : 0 ≤ p ∧ p < c 13 n := by have := b2i_n.mp h; omega
  obtain ⟨x, hx⟩ : ∃ x, x = c 14 (n * 4 + p) := ⟨_, rfl⟩
  have hxi : inC w d l x := by rw [hx]; exact hM.2.1.2.1 n p hn8 hp
  have e64p : m 64 (4 * n + p) = cR w d x := by rw [hx]; exact e64 p hp
  rw [← hx] at hT
  have hg := cR_geo hD hxi
  have hz := gZ_in hD hxi
  have hi4 : 0 ≤ 4 * n + p ∧ 4 * n + p < ((32 : Nat) : Int) := by omega
  have hlo := c_X12_layerOf (eX X) m (cR w d x) hg.1.1 (by have := hg.1.2; omega)
  rw [hg.2.2.2] at hlo
  rw [← e64p] at hlo
  refine kW_go ok_X12_spokes [3] 20 ?_
  refine ⟨by constructor <;> omega, by constructor <;> omega, hi4, ?_⟩
  refine kCall_mono hlo (Nat.le_of_ble_eq_true rfl) ?_
  rintro _ m ⟨rfl, rfl⟩
  refine kCall_mono (c_X12_spread X c m hD hM hR n (gZ w d x) hnn hz) (Nat.le_of_ble_eq_true rfl) ?_
  rintro _ m1 ⟨rfl, hR1, f1, h85⟩
  rw [e64p]
  obtain ⟨A, hA⟩ : ∃ A : Int → Int, ∀ k, A k = iv (nx w d l x k ≠ -1 ∧ plF w d l c n (gZ w d x) (nx w d l x k)) 1 := ⟨_, fun _ => rfl⟩
  have bA : ∀ k : Nat, 0 ≤ sumN A k ∧ sumN A k ≤ 1 * k := fun k => sumN_01 (fun x => by rw [hA]; exact iv_in ⟨by decide, by decide⟩) k
  have hsum : sumN A 4 = spoV w d l c n x := sumN_cong (fun k _ _ => hA k)
  have loop : ∀ (q : Nat) (k : Int) (x6 : Option AV), k + q = 4 → 0 ≤ k → kW (eX X) 4 M_X12_spokes T 3 [some (vR 54), some (vI n), some (vI p), some (vI (cR w d x)), some (vI (sumN A k.toNat)), some (vI k), x6] [] m1 := by
    intro q
    induction q with
    | zero =>
      intro k x6 hq h0
      have hk : k = 4 := by omega
      subst hk
      refine kW_go ok_X12_spokes [3] 20 ?_
      exact And.intro (fun _ => hT _ _ (Or.inr ⟨⟨hnn, hp⟩, by rw [show (4 : Int).toNat = 4 from rfl, hsum], hR1, fun o ho => f1 o (by omega) (by omega) (by omega)⟩)) (fun h => absurd h (by decide))
    | succ q ih =>
      intro k x6 hq h0
      have b1 := bA k.toNat
      have hnext : ∀ (v : Int) (x6 : Option AV), v = A k → inR (sumN A k.toNat + v) ∧ inR (k + 1) ∧ kW (eX X) 4 M_X12_spokes T 3 [some (vR 54), some (vI n), some (vI p), some (vI (cR w d x)), some (vI (sumN A k.toNat + v)), some (vI (k + 1)), x6] [] m1 := by
        intro v x6 hv
        have hvb : 0 ≤ v ∧ v ≤ 1 := by rw [hv, hA]; exact iv_in ⟨by decide, by decide⟩
        have := ih (k + 1) x6 (by omega) (by omega)
        rw [sumN_s A h0, ← hv] at this
        exact ⟨by constructor <;> omega, by constructor <;> omega, this⟩
      refine kW_go ok_X12_spokes [3] 20 ?_
      refine And.intro (fun h => absurd h (by omega)) (fun _ => ?_)
      refine kCall_mono (c_X12_moved X m1 hR1.1.1 x k hxi) (Nat.le_of_ble_eq_true rfl) ?_
      rintro _ m2 ⟨rfl, rfl⟩
      by_cases hne : nx w d l x k = -1
      · rw [show mR w d l x k = -1 from if_pos hne]
        exact And.intro (fun _ => hnext 0 _ (by rw [hA, iv_f (fun q => q.1 hne)])) (fun h => absurd rfl h)
      · rw [show mR w d l x k = cR w d (nx w d l x k) from if_neg hne]
        have hyi := (nx_in hne).1
        have hyz := nx_lay (show 0 ≤ k ∧ k < 4 by omega) hne
        have hj := jO_in hD hyi hyz
        have hgy := (cR_geo hD hyi).1
        obtain ⟨j, hjd⟩ : ∃ j, j = jO w d (gZ w d x) (nx w d l x k) := ⟨_, rfl⟩
        rw [← hjd] at hj
        have hmod : (cR w d (nx w d l x k)) % 81 = j := by rw [hj.2]; omega
        have hpl : m2 85 j ≠ 0 ↔ plF w d l c n (gZ w d x) (nx w d l x k) := by
          rw [(h85 j hj.1).2, ← hj.2, (cR_in hD hyi).2]
          exact ⟨fun q => q.2, fun q => ⟨(cR_in hD hyi).1, q⟩⟩
        have hjb : 0 ≤ j ∧ j < ((81 : Nat) : Int) := hj.1
        have htm : (cR w d (nx w d l x k)).tmod 81 = j := by rw [Int.tmod_eq_emod_of_nonneg hgy.1]; exact hmod
        refine And.intro (fun h => absurd h (by omega)) (fun _ => ⟨by decide, ?_⟩)
        show (0 ≤ (cR w d (nx w d l x k)).tmod 81 ∧ (cR w d (nx w d l x k)).tmod 81 < ((81 : Nat) : Int)) ∧ (m2 85 ((cR w d (nx w d l x k)).tmod 81) = 0 → _) ∧ (¬ m2 85 ((cR w d (nx w d l x k)).tmod 81) = 0 → _)
        rw [htm]
        refine ⟨hjb, fun h => hnext 0 _ (by rw [hA, iv_f (fun q => hpl.mpr q.2 h)]), fun h => hnext 1 _ (by rw [hA, iv_t ⟨hne, hpl.mp h⟩])⟩
  exact loop 4 0 none (by omega) (by omega)
theorem pair_spokes (X : Xv) (m : Mem) {w d l : Int} (hI : Inv X w d l m) (n p : Int) : kPair X 156 275 [vI n, vI p] m (Inv X w d l) := by
  obtain ⟨hB, hl, hW, hR, h60, h31⟩ := id hI
  obtain ⟨hD, hN, hG⟩ := id hB
  have hM := WF_WM hW
  have h8 := hW.1.2.1
  refine kp2 (k1 := 6) (k2 := 5) (by decide) (by decide) ?_
  refine kCall_ofT ok_X11_spokes rfl (Nat.le_of_ble_eq_true rfl) (fun T hT => ?_)
  have hno : ¬ ((0 ≤ n ∧ n < m 9 14) ∧ (0 ≤ p ∧ p < m 13 n)) → T (some (vI (-1))) m := by
    intro h
    refine hT _ _ ⟨_, rfl, kCall_mono (c_X12_spokes X m m hD hM hR n p) (Nat.le_refl _) ?_⟩
    rintro _ m2 (⟨-, rfl, rfl⟩ | ⟨h2, -⟩)
    · exact ⟨rfl, hI⟩
    · exact absurd h2 h
  refine kW_go ok_X11_spokes [] 20 ?_
  refine kCall_mono (c_X11_isNet X m n) (Nat.le_of_ble_eq_true rfl) ?_
  rintro _ m ⟨rfl, rfl⟩
  refine And.intro (fun h => hno (fun q => b2i_0.mp h q.1)) (fun h => ?_)
  have hnn := b2i_n.mp h
  have hn8 : 0 ≤ n ∧ n < 8 := by omega
  have hnb : 0 ≤ n ∧ n < ((8 : Nat) : Int) := hn8
  have hP4 := (hW.2.1.1 n hn8).1
  refine And.intro (fun h => hno (fun q => by have := q.2; omega)) (fun h0 => ⟨hnb, And.intro (fun h1 => ?_) (fun h1 => hno (fun q => ?_))⟩)
  · have h1 : p < m 13 n := h1
    refine kCall_mono (c_X3_pinCell X m n p hn8 (by omega)) (Nat.le_of_ble_eq_true rfl) ?_
    rintro _ m ⟨rfl, rfl⟩
    have hxi : inC w d l (m 14 (n * 4 + p)) := hW.2.1.2.1 n p hn8 (by omega)
    refine kCall_mono (c_X4_spokesAt X m hB hM n _ hnn hxi) (Nat.le_of_ble_eq_true rfl) ?_
    rintro _ m1 ⟨rfl, hf⟩
    have hI1 : Inv X w d l m1 := inv_k hI (fun o ho => hf o (by omega))
    refine hT _ _ ⟨_, rfl, kCall_mono (c_X12_spokes X m m1 hD hM (RR_ref (fun o a _ => hf o (by omega)) hR) n p) (Nat.le_refl _) ?_⟩
    rintro _ m2 (⟨h2, -⟩ | ⟨-, rfl, hR2, hf2⟩)
    · exact absurd ⟨hnn, by omega⟩ h2
    · exact ⟨rfl, inv_mk hI1 (m1 := m1) (c' := m1) (fun _ _ _ => rfl) Es_rf hI1.2.2.1 rfl rfl hf2 (RR_es (Es_of (fun o ho => hf o (by omega))) hR2)⟩
  · have h1 : m 13 n ≤ p := h1
    have := q.2
    omega
