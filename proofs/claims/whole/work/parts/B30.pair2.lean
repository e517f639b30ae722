/-! PAIR alike -/
theorem dlyA_in {w d l : Int} (hD : okD w d l) {N : Nat} (hN : w * d * l = (N : Int)) {c : Mem} {n : Int} (h47 : ∀ j : Int, (0 ≤ j ∧ j ≤ l) → 0 ≤ c 47 j ∧ c 47 j ≤ 99) : 0 ≤ dlyA w d N c n ∧ dlyA w d N c n ≤ 297 * 324 := by
  have hc4 := okD_cells hD
  have h0 : ∀ x : Int, inC w d l x → ∀ k, 0 ≤ dlC w d c x k ∧ dlC w d c x k ≤ 99 := by
    intro x hx k
    have hz := gZ_in hD hx
    unfold dlC
    split
    · exact h47 0 (by have := hD.2.2; omega)
    · exact h47 _ (by omega)
  have h1 : ∀ i : Int, 0 ≤ i → i < (N : Int) → 0 ≤ r3 (kor (c 18 (n * (N : Int) + i)) (c 19 (n * (N : Int) + i))) (dlC w d c i) ∧ r3 (kor (c 18 (n * (N : Int) + i)) (c 19 (n * (N : Int) + i))) (dlC w d c i) ≤ 99 + 99 + 99 := fun i a b => r3_in (h0 i ⟨a, by omega⟩)
  have h2 : sumN (fun x => r3 (kor (c 18 (n * (N : Int) + x)) (c 19 (n * (N : Int) + x))) (dlC w d c x)) N ≤ sumN (fun _ => 297) N := sumN_ge (fun i a b => (h1 i a b).2)
  have h3 : ∀ k : Nat, sumN (fun _ => (297 : Int)) k = 297 * k := by
    intro k
    induction k with
    | zero => rfl
    | succ k ih => show sumN (fun _ => (297 : Int)) k + 297 = _; rw [ih]; omega
  rw [h3] at h2
  exact ⟨sumN_nn (fun i a b => (h1 i a b).1), by unfold dlyA; omega⟩
set_option maxRecDepth 100000 in
theorem pair_pair (X : Xv) (m : Mem) {w d l : Int} (hI : Inv X w d l m) (a b s : Int) : kPair X 165 298 [vI a, vI b, vI s] m (Inv X w d l) := by
  obtain ⟨hB, hl, hW, hR, h60, h31⟩ := id hI
  have hD := hB.1
  have hN := hB.2.1
  have h8 := hW.1.2.1
  have hR0 := RR_0 hR
  have h26 : m 54 26 = m 9 14 := hR.1.2.2.2.1.1
  have h47 := hW.2.2.2.2.2.2
  have hWS := Inv_WS hI
  refine kp2 (k1 := 5) (k2 := 6) (by decide) (by decide) ?_
  refine kCall_ofT ok_X11_pair rfl (Nat.le_of_ble_eq_true rfl) (fun T hT => ?_)
  obtain ⟨ok, hok⟩ : ∃ ok : Prop, ok ↔ (0 ≤ a ∧ a < m 9 14) ∧ (0 ≤ b ∧ b < m 9 14) ∧ a ≠ b := ⟨_, Iff.rfl⟩
  -- the trail of the first net, where it can be followed
  obtain ⟨P, K, hPK⟩ : ∃ P K : Int → Int, ok ∧ canF m m a → TrL w d l (fun x => m 19 (a * (w * d * l) + x)) (m 68 a) P K ∧ P 0 = m 14 (a * 4 + 1) ∧ ∀ i : Int, (0 ≤ i ∧ i < m 68 a) → m 69 (2400 * a + i) = cR w d (P i) ∧ m 70 (2400 * a + i) = cR w d (P (i + 1)) := by
    by_cases h : ok ∧ canF m m a
    · have h1 := hok.mp h.1
      obtain ⟨P, K, h2⟩ := net_trl hD (n := a) (by omega) hW.2.1 (hR.2.1 a (by omega)) h.2.1
      exact ⟨P, K, fun _ => h2⟩
    · exact ⟨fun _ => 0, fun _ => 0, fun z => absurd z h⟩
  have ref : ∀ (z : Int) (m1 : Mem), (∀ o, o ≠ 51 → o ≠ 52 → o ≠ 53 → m1 o = m o) → ((¬ (ok ∧ (0 ≤ s ∧ s ≤ 3) ∧ (s = 2 → canF m m a)) ∧ z = -1000) ∨ ((ok ∧ (0 ≤ s ∧ s ≤ 3) ∧ (s = 2 → canF m m a)) ∧ ((s = 0 ∧ z = besA w d l (nC X) m a b) ∨ (s = 1 ∧ z = dlyA w d (nC X) m a - dlyA w d (nC X) m b) ∨ (s = 2 ∧ z = loM (fun i => byP w d l m b (P i)) ((m 68 a).toNat + 1)) ∨ (s = 3 ∧ z = awA w d l (nC X) m a b)))) → kCall (eX X) 6 298 [vR 54, vI a, vI b, vI s] m1 (fun r2 m2 => r2 = some (vI z) ∧ Inv X w d l m2) := by
    intro z m1 hf hz
    have hI1 : Inv X w d l m1 := inv_k hI (fun o ho => hf o (by omega) (by omega) (by omega))
    have hR1 : RR w d l m m1 := RR_ref (fun o p _ => hf o (by omega) (by omega) (by omega)) hR
    have hR10 := RR_0 hR1
    refine kCall_ofT ok_X12_pair rfl (Nat.le_of_ble_eq_true rfl) (fun T2 hT2 => ?_)
    have hno : ¬ (ok ∧ (0 ≤ s ∧ s ≤ 3) ∧ (s = 2 → canF m m a)) → T2 (some (vI (-1000))) m1 := by
      intro h
      rcases hz with ⟨-, rfl⟩ | ⟨h2, -⟩
      · exact hT2 _ _ ⟨rfl, hI1⟩
      · exact absurd h2 h
    have hend : ∀ v : Int, ok ∧ (0 ≤ s ∧ s ≤ 3) ∧ (s = 2 → canF m m a) → ((s = 0 ∧ v = besA w d l (nC X) m a b) ∨ (s = 1 ∧ v = dlyA w d (nC X) m a - dlyA w d (nC X) m b) ∨ (s = 2 ∧ v = loM (fun i => byP w d l m b (P i)) ((m 68 a).toNat + 1)) ∨ (s = 3 ∧ v = awA w d l (nC X) m a b)) → T2 (some (vI v)) m1 := by
      intro v hk hv
      refine hT2 _ _ ⟨?_, hI1⟩
      rcases hz with ⟨h2, -⟩ | ⟨-, h2⟩
      · exact absurd hk h2
      · refine congrArg (fun v => some (vI v)) ?_
        rcases h2 with ⟨x1, x2⟩ | ⟨x1, x2⟩ | ⟨x1, x2⟩ | ⟨x1, x2⟩ <;> rcases hv with ⟨y1, y2⟩ | ⟨y1, y2⟩ | ⟨y1, y2⟩ | ⟨y1, y2⟩ <;> first | (exfalso; omega) | (rw [x2, y2])
    refine kW_go ok_X12_pair [2] 20 ?_
    refine kCall_mono (isNetR hW.1 hR1.1 a) (Nat.le_of_ble_eq_true rfl) ?_
    rintro _ m1 ⟨rfl, rfl⟩
    refine And.intro (fun h => hno (fun q => b2i_0.mp h (hok.mp q.1).1)) (fun h => ?_)
    have hna := b2i_n.mp h
    refine kCall_mono (isNetR hW.1 hR1.1 b) (Nat.le_of_ble_eq_true rfl) ?_
    rintro _ m1 ⟨rfl, rfl⟩
    refine And.intro (fun h => hno (fun q => b2i_0.mp h (hok.mp q.1).2.1)) (fun h => ?_)
    have hnb := b2i_n.mp h
    refine And.intro (fun h => hno (fun q => (hok.mp q.1).2.2 h)) (fun hab => ?_)
    have hokk : ok := hok.mpr ⟨hna, hnb, hab⟩
    have ha8 : 0 ≤ a ∧ a < 8 := by omega
    have hb8 : 0 ≤ b ∧ b < 8 := by omega
    refine kCall_mono (c_X12_in (eX X) m1 s 0 3) (Nat.le_of_ble_eq_true rfl) ?_
    rintro _ m1 ⟨rfl, rfl⟩
    refine And.intro (fun h => hno (fun q => b2i_0.mp h q.2.1)) (fun h => ?_)
    have hs := b2i_n.mp h
    have hRa := hR1.2.1 a ha8
    have hRb := hR1.2.1 b hb8
    have hka := (RRn_k.mp hRa).1
    have hkb := (RRn_k.mp hRb).1
    have hWa := hW.2.2.1 a ha8
    have hWb := hW.2.2.1 b hb8
    have da := dlyA_in hD hN (n := a) h47
    have db := dlyA_in hD hN (n := b) h47
    have hgo : (s = 2 → canF m m a) → kW (eX X) 5 M_X12_pair T2 2 [some (vR 54), some (vI a), some (vI b), some (vI s)] [] m1 := by
      intro hcan
      have hk : ok ∧ (0 ≤ s ∧ s ≤ 3) ∧ (s = 2 → canF m m a) := ⟨hokk, hs, hcan⟩
      refine kW_go ok_X12_pair [] 20 ?_
      refine And.intro (fun s0 => And.intro (fun s1 => And.intro (fun s2 => ?_) (fun s2 => ?_)) (fun s1 => ?_)) (fun s0 => ?_)
      · refine kCall_mono (c_X12_away X m m1 hD hN hR1.1.1 a b ha8 hb8 hWa hka hRb) (Nat.le_of_ble_eq_true rfl) ?_
        rintro _ m2 ⟨rfl, rfl⟩
        exact hend _ hk (Or.inr (Or.inr (Or.inr ⟨by omega, rfl⟩)))
      · have hc := hcan s2
        obtain ⟨t1, t2, t3⟩ := hPK ⟨hokk, hc⟩
        have e68 : m1 68 = m 68 := hf 68 (by decide) (by decide) (by decide)
        have hle := okL_le hD hka.2.2.1.1
        have hq0 := hka.2.2.1.1.1
        have hc3 := hc.2.2
        have hlo := c_X12_longest X m m1 hD hR1.1.1 a b ha8 hb8 hRb (P := P) (K := K) (row := fun x => m 19 (a * (w * d * l) + x)) (by rw [e68]; exact t1) (by rw [e68] at hle hq0 ⊢; omega) (by rw [e68, hf 69 (by decide) (by decide) (by decide), hf 70 (by decide) (by decide) (by decide)]; exact t3)
        refine kCall_mono hlo (Nat.le_of_ble_eq_true rfl) ?_
        rintro _ m2 ⟨rfl, rfl⟩
        exact hend _ hk (Or.inr (Or.inr (Or.inl ⟨s2, by rw [e68]⟩)))
      · refine kCall_mono (c_X12_delayOf X m m1 hD hN a ha8 hWa hka hR1.1.2.2.2.2.2.2 h47) (Nat.le_of_ble_eq_true rfl) ?_
        rintro _ m2 ⟨rfl, rfl⟩
        refine kCall_mono (c_X12_delayOf X m m2 hD hN b hb8 hWb hkb hR1.1.2.2.2.2.2.2 h47) (Nat.le_of_ble_eq_true rfl) ?_
        rintro _ m3 ⟨rfl, rfl⟩
        exact ⟨by constructor <;> omega, hend _ hk (Or.inr (Or.inl ⟨s1, rfl⟩))⟩
      · refine kCall_mono (c_X12_byAll X m m1 hD hN hR1.1.1 a b ha8 hb8 hRa hRb) (Nat.le_of_ble_eq_true rfl) ?_
        rintro _ m2 ⟨rfl, rfl⟩
        exact hend _ hk (Or.inl ⟨s0, rfl⟩)
    refine And.intro (fun s2 => hgo (fun q => absurd q s2)) (fun s2 => ?_)
    refine kCall_mono (c_X12_isStretched X m m1 hW.1 hR10 a) (Nat.le_of_ble_eq_true rfl) ?_
    have hcan : canF m m1 a ↔ canF m m a := by
      unfold canF
      rw [hf 65 (by decide) (by decide) (by decide), hf 68 (by decide) (by decide) (by decide)]
    rintro _ m2 ⟨⟨hh, rfl⟩ | ⟨hh, rfl⟩, rfl⟩
    · exact And.intro (fun _ => hgo (fun _ => hcan.mp hh.2)) (fun h => absurd h (by decide))
    · exact And.intro (fun h => absurd rfl h) (fun _ => hno (fun q => hh ⟨hna, hcan.mpr (q.2.2 s2)⟩))
  have hno : ¬ (ok ∧ (0 ≤ s ∧ s ≤ 3) ∧ (s = 2 → canF m m a)) → T (some (vI (-1000))) m := fun h => hT _ _ ⟨_, rfl, ref _ m (fun _ _ _ _ => rfl) (Or.inl ⟨h, rfl⟩)⟩
  refine kW_go ok_X11_pair [2] 20 ?_
  refine kCall_mono (c_X11_isNet X m a) (Nat.le_of_ble_eq_true rfl) ?_
  rintro _ m ⟨rfl, rfl⟩
  refine And.intro (fun h => hno (fun q => b2i_0.mp h (hok.mp q.1).1)) (fun h => ?_)
  have hna := b2i_n.mp h
  refine kCall_mono (c_X11_isNet X m b) (Nat.le_of_ble_eq_true rfl) ?_
  rintro _ m ⟨rfl, rfl⟩
  refine And.intro (fun h => hno (fun q => b2i_0.mp h (hok.mp q.1).2.1)) (fun h => ?_)
  have hnb := b2i_n.mp h
  refine And.intro (fun hab => ?_) (fun hab => hno (fun q => (hok.mp q.1).2.2 hab))
  have hokk : ok := hok.mpr ⟨hna, hnb, hab⟩
  have ha8 : 0 ≤ a ∧ a < 8 := by omega
  have hb8 : 0 ≤ b ∧ b < 8 := by omega
  have hWa := hW.2.2.1 a ha8
  have hWb := hW.2.2.1 b hb8
  have da := dlyA_in hD hN (n := a) h47
  have db := dlyA_in hD hN (n := b) h47
  have hka := (RRn_k.mp (hR.2.1 a ha8)).1
  refine kW_go ok_X11_pair [] 20 ?_
  refine ⟨fun h => ?_, fun h => ?_, fun h => ?_, fun h => ?_, fun h => ?_, trivial⟩
  · have h : s < 0 ∨ 3 < s := h
    exact hno (fun q => by have := q.2.1; omega)
  · have hsw : s = 0 := h
    refine kCall_mono (c_X0_cellsBeside X m hB a b ha8 hb8) (Nat.le_of_ble_eq_true rfl) ?_
    rintro _ m2 ⟨rfl, rfl⟩
    exact hT _ _ ⟨_, rfl, ref _ m2 (fun _ _ _ _ => rfl) (Or.inr ⟨⟨hokk, by omega, fun q => by omega⟩, Or.inl ⟨hsw, rfl⟩⟩)⟩
  · have hsw : s = 1 := h
    refine kCall_mono (c_X0_delayOf X m hB a ha8 hWa hl h47) (Nat.le_of_ble_eq_true rfl) ?_
    rintro _ m2 ⟨rfl, rfl⟩
    refine kCall_mono (c_X0_delayOf X m2 hB b hb8 hWb hl h47) (Nat.le_of_ble_eq_true rfl) ?_
    rintro _ m3 ⟨rfl, rfl⟩
    exact ⟨by constructor <;> omega, hT _ _ ⟨_, rfl, ref _ m3 (fun _ _ _ _ => rfl) (Or.inr ⟨⟨hokk, by omega, fun q => by omega⟩, Or.inr (Or.inl ⟨hsw, rfl⟩)⟩)⟩⟩
  · have hsw : s = 2 := h
    refine kCall_mono (c_X9_canFollow X m hB a ha8 hWa hka) (Nat.le_of_ble_eq_true rfl) ?_
    rintro _ m2 ⟨⟨hc, rfl⟩ | ⟨hc, rfl⟩, rfl⟩
    · refine And.intro (fun h => absurd h (by decide)) (fun _ => ?_)
      obtain ⟨t1, t2, t3⟩ := hPK ⟨hokk, hc⟩
      refine kCall_mono (c_X9_longestBeside X m2 hB a b ha8 hb8 hWa t1 hka.2.2.1.1.1 t2.symm) (Nat.le_of_ble_eq_true rfl) ?_
      rintro _ m3 ⟨rfl, hf⟩
      exact hT _ _ ⟨_, rfl, ref _ m3 hf (Or.inr ⟨⟨hokk, by omega, fun _ => hc⟩, Or.inr (Or.inr (Or.inl ⟨hsw, rfl⟩))⟩)⟩
    · exact And.intro (fun _ => hno (fun q => hc (q.2.2 hsw))) (fun h => absurd rfl h)
  · have hsw : s = 3 := h
    refine kCall_mono (c_X0_turnsAway X m hB a b ha8 hb8 hWa (hWS.2 a ha8)) (Nat.le_of_ble_eq_true rfl) ?_
    rintro _ m2 ⟨rfl, rfl⟩
    exact hT _ _ ⟨_, rfl, ref _ m2 (fun _ _ _ _ => rfl) (Or.inr ⟨⟨hokk, by omega, fun q => by omega⟩, Or.inr (Or.inr (Or.inr ⟨hsw, rfl⟩))⟩)⟩
