/-! STRETCH and SPAN: the pairs -/
theorem SF_same {w d l : Int} {N : Nat} {c r r' : Mem} {n : Int} {P K : Int → Int} (e : ∀ o, 54 ≤ o → r' o = r o) (h : (0 ≤ n ∧ n < c 9 14) ∧ canF c r n → SF w d l N c r n P K) : (0 ≤ n ∧ n < c 9 14) ∧ canF c r' n → SF w d l N c r' n P K := by
  intro q
  unfold canF SF at *
  rw [e 65 (by decide), e 68 (by decide)] at q
  rw [e 68 (by decide), e 69 (by decide), e 70 (by decide)]
  exact h q
theorem sf_ex {X : Xv} {w d l : Int} {m : Mem} (hI : Inv X w d l m) (n : Int) : ∃ P K, (0 ≤ n ∧ n < m 9 14) ∧ canF m m n → SF w d l (nC X) m m n P K := by
  by_cases h : (0 ≤ n ∧ n < m 9 14) ∧ canF m m n
  · obtain ⟨P, K, hF⟩ := st_pre hI h.1 h.2
    exact ⟨P, K, fun _ => hF⟩
  · exact ⟨id, id, fun q => absurd q h⟩
set_option maxRecDepth 100000 in
theorem pair_stretch (X : Xv) (m : Mem) {w d l : Int} (hI : Inv X w d l m) (n s : Int) : kPair X 152 268 [vI n, vI s] m (Inv X w d l) := by
  obtain ⟨hB, hl, hW, hR, h60, h31⟩ := id hI
  obtain ⟨hD, hN, hG⟩ := id hB
  have hM := WF_WM hW
  have h8 := hW.1.2.1
  obtain ⟨P, K, hF⟩ := sf_ex hI n
  refine kp2 (k1 := 7) (k2 := 7) (by decide) (by decide) ?_
  refine kCall_ofT ok_X11_stretch rfl (Nat.le_of_ble_eq_true rfl) (fun T hT => ?_)
  have hno : ¬ (((0 ≤ n ∧ n < m 9 14) ∧ canF m m n) ∧ (0 ≤ s ∧ s ≤ 200)) → T (some (vI (-1))) m := by
    intro h
    refine hT _ _ ⟨_, rfl, kCall_mono (c_X12_stretch X m m hD hN hM hR n s P K hF) (Nat.le_refl _) ?_⟩
    rintro _ m2 (⟨-, rfl, rfl⟩ | ⟨h2, -⟩)
    · exact ⟨rfl, hI⟩
    · exact absurd h2 h
  refine kW_go ok_X11_stretch [] 20 ?_
  refine kCall_mono (c_X11_isNet X m n) (Nat.le_of_ble_eq_true rfl) ?_
  rintro _ m ⟨rfl, rfl⟩
  refine And.intro (fun h => hno (fun q => b2i_0.mp h q.1.1)) (fun h => ?_)
  have hnn := b2i_n.mp h
  have hn8 : 0 ≤ n ∧ n < 8 := by omega
  refine And.intro (fun h => hno (fun q => absurd q.2.1 (by omega))) (fun hs0 => ?_)
  refine And.intro (fun h => hno (fun q => absurd q.2.2 (by omega))) (fun hs1 => ?_)
  have hRk := (RRn_k.mp (hR.2.1 n hn8)).1
  refine kCall_mono (c_X9_canFollow X m hB n hn8 (hW.2.2.1 n hn8) hRk) (Nat.le_of_ble_eq_true rfl) ?_
  rintro _ m ⟨⟨hcf, rfl⟩ | ⟨hcf, rfl⟩, rfl⟩
  · refine And.intro (fun _ => ?_) (fun h => absurd h (by decide))
    obtain ⟨f1, f2, f3, f4, f5⟩ := hF ⟨hnn, hcf⟩
    have hL0 := (len_list hD hN hn8 (hW.2.2.1 n hn8) hRk).2.2
    refine kCall_mono (c_X9_bendOut X m hB hM n s (m 68 n) P K hnn f1 f4 f2.symm f5 hL0) (Nat.le_of_ble_eq_true rfl) ?_
    rintro _ m1 ⟨rfl, hf, mx, g17, g19, hCL⟩
    have hBI := bdS_ok (lim := s) (fr := frT w d l (fun _ => True) m n 0) (L0 := lenA (nC X) m n) hD f1 f5 (by omega) (m 68 n).toNat (by omega)
    rw [Int.toNat_of_nonneg (show 0 ≤ m 68 n by omega)] at hBI
    obtain ⟨sM, sT, s19, s17⟩ := st_cls hD (Inv_WS hI) hnn (f1.1 0 (by omega)) g17 g19 hCL hBI
    have ho : ∀ o, 54 ≤ o → m1 o = m o := fun o h => hf o (by omega) (by omega) (by omega) (by omega) (by omega) (by omega)
    refine hT _ _ ⟨_, rfl, kCall_mono (c_X12_stretch X m m1 hD hN hM (RR_ref (fun o a _ => ho o (by omega)) hR) n s P K (SF_same ho hF)) (Nat.le_refl _) ?_⟩
    rw [ho 68 (by decide)]
    rintro _ m2 (⟨h2, -⟩ | ⟨-, rfl, hR2, hf2⟩)
    · refine absurd ⟨⟨hnn, ?_⟩, by omega⟩ h2
      unfold canF at hcf ⊢
      rw [ho 65 (by decide), ho 68 (by decide)]
      exact hcf
    · exact ⟨rfl, inv_at hI sT.1 sM (fun o h a b => hf o a b (by omega) (by omega) (by omega) (by omega)) s19 s17 hf2 hR2⟩
  · exact And.intro (fun h => absurd rfl h) (fun _ => hno (fun q => hcf q.1.2))
set_option maxRecDepth 100000 in
theorem pair_span (X : Xv) (m : Mem) {w d l : Int} (hI : Inv X w d l m) (n : Int) : kPair X 153 269 [vI n] m (Inv X w d l) := by
  obtain ⟨hB, hl, hW, hR, h60, h31⟩ := id hI
  obtain ⟨hD, hN, hG⟩ := id hB
  have h8 := hW.1.2.1
  obtain ⟨P, K, hF⟩ := sf_ex hI n
  refine kp2 (k1 := 7) (k2 := 7) (by decide) (by decide) ?_
  refine kCall_ofT ok_X11_span rfl (Nat.le_of_ble_eq_true rfl) (fun T hT => ?_)
  have hno : ¬ ((0 ≤ n ∧ n < m 9 14) ∧ canF m m n) → T (some (vI (-1))) m := by
    intro h
    refine hT _ _ ⟨_, rfl, kCall_mono (c_X12_span X m m hD hN (Inv_WS hI) hR n P K hF) (Nat.le_refl _) ?_⟩
    rintro _ m2 (⟨-, rfl, rfl⟩ | ⟨h2, -⟩)
    · exact ⟨rfl, hI⟩
    · exact absurd h2 h
  refine kW_go ok_X11_span [] 20 ?_
  refine kCall_mono (c_X11_isNet X m n) (Nat.le_of_ble_eq_true rfl) ?_
  rintro _ m ⟨rfl, rfl⟩
  refine And.intro (fun h => hno (fun q => b2i_0.mp h q.1)) (fun h => ?_)
  have hnn := b2i_n.mp h
  have hn8 : 0 ≤ n ∧ n < 8 := by omega
  have hRk := (RRn_k.mp (hR.2.1 n hn8)).1
  refine kCall_mono (c_X9_canFollow X m hB n hn8 (hW.2.2.1 n hn8) hRk) (Nat.le_of_ble_eq_true rfl) ?_
  rintro _ m ⟨⟨hcf, rfl⟩ | ⟨hcf, rfl⟩, rfl⟩
  · refine And.intro (fun _ => ?_) (fun h => absurd h (by decide))
    refine kCall_mono (c_save X hI) (Nat.le_of_ble_eq_true rfl) ?_
    rintro _ m1 ⟨rfl, hI1, hS1, hf1⟩
    have hnn1 : 0 ≤ n ∧ n < m1 9 14 := by rw [hf1 9 (by decide) (by decide)]; exact hnn
    have hcf1 : canF m1 m1 n := by
      unfold canF at hcf ⊢
      rw [hf1 13 (by decide) (by decide), hf1 65 (by decide) (by decide), hf1 68 (by decide) (by decide)]
      exact hcf
    obtain ⟨P1, K1, hF1⟩ := sf_ex hI1 n
    obtain ⟨f1, f2, f3, f4, f5⟩ := hF1 ⟨hnn1, hcf1⟩
    have hW1 := hI1.2.2.1
    have hRk1 := (RRn_k.mp (hI1.2.2.2.1.2.1 n hn8)).1
    have hL0 := (len_list hD hN hn8 (hW1.2.2.1 n hn8) hRk1).2.2
    refine kCall_mono (c_X9_bendOut X m1 hI1.1 (WF_WM hW1) n 2147483647 (m1 68 n) P1 K1 hnn1 f1 f4 f2.symm f5 hL0) (Nat.le_of_ble_eq_true rfl) ?_
    rintro _ m2 ⟨rfl, hf, -⟩
    have hS2 : Sv w d l m1 m2 := Sv_same (hf 20 (by decide) (by decide) (by decide) (by decide) (by decide) (by decide)) (hf 21 (by decide) (by decide) (by decide) (by decide) (by decide) (by decide)) hS1
    refine kCall_mono (c_back X hN hS2) (Nat.le_of_ble_eq_true rfl) ?_
    rintro _ m3 ⟨rfl, b1, b2, b3⟩
    have e3 : ∀ o, o ≠ 17 → o ≠ 19 → (o < 22 ∨ 27 < o) → o ≠ 51 → o ≠ 52 → o ≠ 53 → m3 o = m1 o := fun o a b c e f g => by rw [b3 o a b]; exact hf o a b c e f g
    have ho : ∀ o, 54 ≤ o → m3 o = m1 o := fun o h => e3 o (by omega) (by omega) (by omega) (by omega) (by omega) (by omega)
    refine hT _ _ ⟨_, rfl, kCall_mono (c_X12_span X m1 m3 hD hN (Inv_WS hI1) (RR_ref (fun o a _ => ho o (by omega)) hI1.2.2.2.1) n P1 K1 (SF_same ho hF1)) (Nat.le_refl _) ?_⟩
    rw [ho 68 (by decide)]
    rintro _ m4 (⟨h2, -⟩ | ⟨-, rfl, hR4, hf4⟩)
    · refine absurd ⟨hnn1, ?_⟩ h2
      unfold canF at hcf1 ⊢
      rw [ho 65 (by decide), ho 68 (by decide)]
      exact hcf1
    · refine ⟨?_, inv_back2 hI1 (fun o h a b => e3 o a b (by omega) (by omega) (by omega) (by omega)) b1 b2 hf4 hR4⟩
      rw [bdS_lim hD hN f1 f5 (by omega) hL0.2 (show (2000 : Int) ≤ 2147483647 by decide) (show (2000 : Int) ≤ 1000000000 by decide) (m1 68 n).toNat (by omega)]
  · exact And.intro (fun h => absurd rfl h) (fun _ => hno (fun q => hcf q.2))
