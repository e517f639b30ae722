/-! CUT alike: both calls -/
theorem plain_cnt {m : Mem} (h28 : m 54 28 = 0) (h30 : m 54 30 = 0) : ∀ o : Int, (0 ≤ o ∧ o < 8) → cntT m o := fun o ho => ⟨by rw [h28, k_ask0 (by omega) (by omega), bt_zero], Or.inl h30⟩
set_option maxRecDepth 100000 in
theorem c_X12_cut (X : Xv) (c m : Mem) {w d l : Int} (hD : okD w d l) (hN : w * d * l = (nC X : Int)) (hM : WM w d l c) (hR : RR w d l c m) (n a : Int) : kCall (eX X) 8 254 [vR 54, vI n, vI a] m (fun r m' => (¬ ((0 ≤ n ∧ n < c 9 14) ∧ c 13 n ≠ 0 ∧ (0 ≤ a ∧ a ≤ 3)) ∧ r = some (vI (-1)) ∧ m' = m) ∨ (((0 ≤ n ∧ n < c 9 14) ∧ c 13 n ≠ 0 ∧ (0 ≤ a ∧ a ≤ 3)) ∧ (∃ z, r = some (vI z) ∧ cutV w d l (nC X) c n (Rch (stR w d l (frT w d l (fun _ => True) (rmT (w * d * l) n c) n 0) 6) (c 14 (n * 4))) a z) ∧ RR w d l c m' ∧ ∀ o, o < 54 → m' o = m o)) := by
  have h8 := hM.1.2.1
  refine kCall_ofT ok_X12_cut rfl (Nat.le_of_ble_eq_true rfl) (fun T hT => ?_)
  have hno : ¬ ((0 ≤ n ∧ n < c 9 14) ∧ c 13 n ≠ 0 ∧ (0 ≤ a ∧ a ≤ 3)) → T (some (vI (-1))) m := fun h => hT _ _ (Or.inl ⟨h, rfl, rfl⟩)
  refine kW_go ok_X12_cut [2] 20 ?_
  refine kCall_mono (isNetR hM.1 hR.1 n) (Nat.le_of_ble_eq_true rfl) ?_
  rintro _ m ⟨rfl, rfl⟩
  refine And.intro (fun h => hno (fun q => b2i_0.mp h q.1)) (fun h => ?_)
  have hnn := b2i_n.mp h
  have hn8 : 0 ≤ n ∧ n < 8 := by omega
  have hnb : 0 ≤ n ∧ n < ((8 : Nat) : Int) := hn8
  obtain ⟨-, e63, e64⟩ := hR.1.2.2.2.2.1 n hn8
  refine ⟨hnb, And.intro (fun h => hno (fun q => q.2.1 (by rw [← e63]; exact h))) (fun hp => ?_)⟩
  have hpc : ¬ c 13 n = 0 := fun z => hp (by rw [← e63] at z; exact z)
  have hP4 := (hM.2.1.1 n hn8).1
  have hp1 : 1 ≤ c 13 n := by omega
  refine kCall_mono (c_X12_in (eX X) m a 0 3) (Nat.le_of_ble_eq_true rfl) ?_
  rintro _ m ⟨rfl, rfl⟩
  refine And.intro (fun h => ?_) (fun h => hno (fun q => b2i_0.mp h q.2.2))
  have ha := b2i_n.mp h
  have hp0i : inC w d l (c 14 (n * 4)) := pin_in hM.2.1 hn8 hp1
  have e640 : m 64 (4 * n) = cR w d (c 14 (n * 4)) := by
    have := e64 0 (by omega)
    rw [show 4 * n + 0 = 4 * n by omega, show n * 4 + 0 = n * 4 by omega] at this
    exact this
  refine kW_go ok_X12_cut [] 20 ?_
  refine kCall_mono (c_X12_plainly X m 1 (Or.inr rfl)) (Nat.le_of_ble_eq_true rfl) ?_
  rintro _ m1 ⟨rfl, hp1'⟩
  have hR1 := plain_R hR hp1'
  refine kCall_mono (c_X12_takeOffR X c m1 hD hn8 (RR_0 hR1) (hM.2.2.1 n hn8) (fun x hx => (hM.2.2.2 x hx).2)) (Nat.le_of_ble_eq_true rfl) ?_
  rintro _ m2 ⟨rfl, hR2, hS2, hr2, -⟩
  have e9 : rmT (w * d * l) n c 9 = c 9 := rmT_ne (by decide) (by decide)
  have g28 : m2 54 28 = 0 := by rw [hr2.2.2.1 28 (by decide)]; exact hR1.2.2.1
  have g30 : m2 54 30 = 0 := by rw [hr2.2.2.1 30 (by decide)]; exact hR1.2.2.2
  have hts := rmT_tsame (w := w) (d := d) (l := l) (c := c) hn8 (fun x hx => (hM.2.2.2 x hx).2)
  refine kCall_mono (c_X12_reach X (rmT (w * d * l) n c) m2 hD (WFs_c hts.1 hM.1) hR2 n (c 14 (n * 4)) (by rw [e9]; exact hnn) hp0i (by rw [(rfr_rsm hr2).1 64 (by omega), hp1'.1 64 (by decide) (by decide)]; exact e640)) (Nat.le_of_ble_eq_true rfl) ?_
  rw [F_plain (by rw [e9]; exact h8.2) hn8 g28 g30]
  rintro _ m3 ⟨rfl, f3, h83, h01, hz⟩
  have hR3 : RR0 w d l (rmT (w * d * l) n c) m3 := RR0_ref (fun o a b => f3 o (by omega) (by omega)) hR2
  have e54 : m3 54 = m2 54 := f3 54 (by decide) (by decide)
  have hS3 : SVn w d l c m3 n := by
    unfold SVn at hS2 ⊢
    rw [e54, f3 73 (by decide) (by decide), f3 74 (by decide) (by decide)]
    exact hS2
  refine kCall_mono (c_X12_cutOf X c _ m3 hD hN hM hR3 n a rfl hnn hp1 ha (plain_cnt (by rw [e54]; exact g28) (by rw [e54]; exact g30)) h83 h01 hz) (Nat.le_of_ble_eq_true rfl) ?_
  rintro _ m4 ⟨z, rfl, hcut, rfl⟩
  refine kCall_mono (c_X12_putBackR X c (rmT (w * d * l) n c) m4 hD hn8 hR3 hts hS3 (hM.2.2.1 n hn8)) (Nat.le_of_ble_eq_true rfl) ?_
  rintro _ m5 ⟨rfl, hR5, hr5, e545, -, -⟩
  refine hT _ _ (Or.inr ⟨⟨hnn, hpc, ha⟩, ⟨z, rfl, hcut⟩, ⟨hR5.1, hR5.2, by rw [e545, e54]; exact g28, by rw [e545, e54]; exact g30⟩, fun o ho => ?_⟩)
  rw [hr5.2.1 o ho, f3 o (by omega) (by omega), hr2.2.1 o ho, hp1'.1 o (by omega) (by omega)]
theorem pair_cut (X : Xv) (m : Mem) {w d l : Int} (hI : Inv X w d l m) (n a : Int) : kPair X 148 254 [vI n, vI a] m (Inv X w d l) := by
  obtain ⟨hB, hl, hW, hR, h60, h31⟩ := id hI
  have hD := hB.1
  have hN := hB.2.1
  have hM := WF_WM hW
  have h8 := hW.1.2.1
  refine kp2 (k1 := 6) (k2 := 8) (by decide) (by decide) ?_
  refine kCall_ofT ok_X11_cut rfl (Nat.le_of_ble_eq_true rfl) (fun T hT => ?_)
  have hno : ¬ ((0 ≤ n ∧ n < m 9 14) ∧ m 13 n ≠ 0 ∧ (0 ≤ a ∧ a ≤ 3)) → T (some (vI (-1))) m := by
    intro h
    refine hT _ _ ⟨_, rfl, kCall_mono (c_X12_cut X m m hD hN hM hR n a) (Nat.le_refl _) ?_⟩
    rintro _ m2 (⟨-, rfl, rfl⟩ | ⟨h2, -⟩)
    · exact ⟨rfl, hI⟩
    · exact absurd h2 h
  refine kW_go ok_X11_cut [] 20 ?_
  refine kCall_mono (c_X11_isNet X m n) (Nat.le_of_ble_eq_true rfl) ?_
  rintro _ m ⟨rfl, rfl⟩
  refine And.intro (fun h => hno (fun q => b2i_0.mp h q.1)) (fun h => ?_)
  have hnn := b2i_n.mp h
  have hn8 : 0 ≤ n ∧ n < 8 := by omega
  have hnb : 0 ≤ n ∧ n < ((8 : Nat) : Int) := hn8
  refine And.intro (fun h => hno (fun q => by have := q.2.2; omega)) (fun h0 => And.intro (fun h => hno (fun q => by have := q.2.2; omega)) (fun h3 => ⟨hnb, And.intro (fun hp => ?_) (fun hp => hno (fun q => q.2.1 hp))⟩))
  have hp : ¬ m 13 n = 0 := hp
  have hP4 := (hM.2.1.1 n hn8).1
  refine kCall_mono (c_X1_cutOf X m hB hM n a hnn (by omega) (by omega)) (Nat.le_of_ble_eq_true rfl) ?_
  rintro _ m1 ⟨z, rfl, hcut, hf⟩
  have hI1 : Inv X w d l m1 := inv_k hI (fun o ho => hf o (by omega))
  refine hT _ _ ⟨_, rfl, kCall_mono (c_X12_cut X m m1 hD hN hM (RR_ref (fun o a _ => hf o (by omega)) hR) n a) (Nat.le_refl _) ?_⟩
  rintro _ m2 (⟨h2, -⟩ | ⟨-, ⟨z2, rfl, hcut2⟩, hR2, hf2⟩)
  · exact absurd ⟨hnn, hp, by omega, by omega⟩ h2
  refine ⟨by rw [cutV_one hcut hcut2], ?_⟩
  exact inv_mk hI1 (m1 := m1) (c' := m1) (fun _ _ _ => rfl) Es_rf hI1.2.2.1 rfl rfl hf2 (RR_es (Es_of (fun o ho => hf o (by omega))) hR2)
