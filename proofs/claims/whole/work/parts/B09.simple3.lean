/-! NET, FEED, TOLD, COPPER alike -/
theorem c_X11_net (X : Xv) (m : Mem) (a : Int) (h : 0 ≤ m 9 14 ∧ m 9 14 ≤ 8) : kCall (eX X) 2 M_X11_net.1 [vR 0, vI a] m (fun r m' => (((0 ≤ a ∧ a < m 9 13) ∧ m 9 14 < 8) ∧ r = some (vI (m 9 14)) ∧ m' = fset (mset m 11 (m 9 14) a) 9 14 (m 9 14 + 1)) ∨ (¬ ((0 ≤ a ∧ a < m 9 13) ∧ m 9 14 < 8) ∧ r = some (vI (-1)) ∧ m' = m)) := by
  refine kCall_ofT ok_X11_net rfl (Nat.le_of_ble_eq_true rfl) (fun T hT => ?_)
  have hno : ¬ ((0 ≤ a ∧ a < m 9 13) ∧ m 9 14 < 8) → T (some (vI (-1))) m := fun h => hT _ _ (Or.inr ⟨h, rfl, rfl⟩)
  refine kW_go ok_X11_net [] 20 ?_
  show (a < 0 → T (some (vI (-1))) m) ∧ (0 ≤ a → (m 9 13 ≤ a → T (some (vI (-1))) m) ∧ (a < m 9 13 → (m 9 14 < 8 → _) ∧ (8 ≤ m 9 14 → T (some (vI (-1))) m)))
  refine ⟨fun h1 => hno (by omega), fun h1 => ⟨fun h2 => hno (by omega), fun h2 => ⟨fun h3 => ?_, fun h3 => hno (by omega)⟩⟩⟩
  refine kCall_mono (c_X3_addNet X m a ⟨h.1, h3⟩) (Nat.le_of_ble_eq_true rfl) ?_
  rintro _ m2 ⟨rfl, rfl⟩
  exact hT _ _ (Or.inl ⟨⟨⟨h1, h2⟩, h3⟩, rfl, rfl⟩)
theorem c_X12_net (X : Xv) (m : Mem) (a : Int) (h : 0 ≤ m 54 26 ∧ m 54 26 ≤ 8) (hs : 0 ≤ m 54 13 ∧ m 54 13 ≤ 6) : kCall (eX X) 2 M_X12_net.1 [vR 54, vI a] m (fun r m' => (((0 ≤ a ∧ a < m 54 13) ∧ m 54 26 < 8) ∧ r = some (vI (m 54 26)) ∧ m' = fset (mset m 61 (m 54 26) a) 54 26 (m 54 26 + 1)) ∨ (¬ ((0 ≤ a ∧ a < m 54 13) ∧ m 54 26 < 8) ∧ r = some (vI (-1)) ∧ m' = m)) := by
  refine kCall_ofT ok_X12_net rfl (Nat.le_of_ble_eq_true rfl) (fun T hT => ?_)
  have hno : ¬ ((0 ≤ a ∧ a < m 54 13) ∧ m 54 26 < 8) → T (some (vI (-1))) m := fun h => hT _ _ (Or.inr ⟨h, rfl, rfl⟩)
  refine kW_go ok_X12_net [] 20 ?_
  refine ⟨show inR (m 54 13 - 1) by constructor <;> omega, ?_⟩
  refine kCall_mono (c_X12_in (eX X) m a 0 (m 54 13 - 1)) (Nat.le_of_ble_eq_true rfl) ?_
  rintro _ m ⟨rfl, rfl⟩
  refine And.intro (fun h1 => hno (fun z => b2i_0.mp h1 (by omega))) (fun h1 => ?_)
  have h1 := b2i_n.mp h1
  show (m 54 26 ≠ 8 → _) ∧ (m 54 26 = 8 → T (some (vI (-1))) m)
  refine ⟨fun h2 => ?_, fun h2 => hno (by omega)⟩
  show (0 ≤ m 54 26 ∧ m 54 26 < ((8 : Nat) : Int)) ∧ inR (m 54 26 + 1) ∧ inR (m 54 26 + 1 - 1) ∧ T (some (vI (m 54 26 + 1 - 1))) (fset (mset m 61 (m 54 26) a) 54 26 (m 54 26 + 1))
  refine ⟨by omega, by constructor <;> omega, by constructor <;> omega, ?_⟩
  rw [show m 54 26 + 1 - 1 = m 54 26 by omega]
  exact hT _ _ (Or.inl ⟨⟨by omega, by omega⟩, rfl, rfl⟩)
set_option maxRecDepth 100000 in
theorem pair_net (X : Xv) (m : Mem) {w d l : Int} (hI : Inv X w d l m) (a : Int) : kPair X 135 205 [vI a] m (Inv X w d l) := by
  obtain ⟨hB, hl, hW, hR, h60, h31⟩ := id hI
  have h8 := hW.1.2.1
  have h6 := hW.1.1
  have h26 : m 54 26 = m 9 14 := hR.1.2.2.2.1.1
  have h13 : m 54 13 = m 9 13 := hR.1.2.2.1.1
  refine kp2 (k1 := 2) (k2 := 2) (by decide) (by decide) (kCall_mono (c_X11_net X m a h8) (Nat.le_refl _) ?_)
  rintro _ m1 (⟨h, rfl, hm1⟩ | ⟨h, rfl, rfl⟩)
  · have f : ∀ o, o ≠ 9 → o ≠ 11 → m1 o = m o := fun o h1 h2 => by rw [hm1]; unfold fset; rw [k_mset_ne h1, k_mset_ne h2]
    have f9 : ∀ j, m1 9 j = if j = 14 then m 9 14 + 1 else m 9 j := fun j => by
      rw [hm1]
      unfold fset
      rw [k_mset_at, k_mset_ne (by decide)]
      rfl
    have f11 : ∀ j, m1 11 j = if j = m 9 14 then a else m 11 j := fun j => by
      rw [hm1]
      unfold fset
      rw [k_mset_ne (by decide), k_mset_at]
    have e26 : m1 54 26 = m 9 14 := by rw [f 54 (by decide) (by decide)]; exact h26
    have e13 : m1 54 13 = m 9 13 := by rw [f 54 (by decide) (by decide)]; exact h13
    refine ⟨m 9 14, rfl, kCall_mono (c_X12_net X m1 a (by omega) (by omega)) (Nat.le_refl _) ?_⟩
    rw [e26, e13]
    rintro _ m2 (⟨-, rfl, hm2⟩ | ⟨h2, -⟩)
    · have g : ∀ o, o ≠ 54 → o ≠ 61 → m2 o = m1 o := fun o h1 h2 => by rw [hm2]; unfold fset; rw [k_mset_ne h1, k_mset_ne h2]
      have g54 : ∀ j, m2 54 j = if j = 26 then m 9 14 + 1 else m 54 j := fun j => by
        rw [hm2]
        unfold fset
        rw [k_mset_at, k_mset_ne (by decide), f 54 (by decide) (by decide)]
        rfl
      have g61 : ∀ j, m2 61 j = if j = m 9 14 then a else m 61 j := fun j => by
        rw [hm2]
        unfold fset
        rw [k_mset_ne (by decide), k_mset_at, f 61 (by decide) (by decide)]
      have e14 : m1 9 14 = m 9 14 + 1 := by rw [f9, if_pos rfl]
      have e91 : m1 9 13 = m 9 13 := by rw [f9, if_neg (by decide)]
      obtain ⟨w1, w2, w3, w4, w5, w6, w8⟩ := hW
      obtain ⟨⟨s1, s2, s3, s5, s7, s8, s9⟩, hn, r28, r30⟩ := hR
      refine ⟨rfl, ?_⟩
      refine inv_mk (m1 := m1) (c' := m1) hI (fun o a b => f o (by omega) (by omega)) Es_rf ⟨?_, ?_, fun n hn => ?_, ?_, ?_, ?_, ?_⟩ (by rw [f 6 (by decide) (by decide)]) (f 31 (by decide) (by decide)) (fun o ho => g o (by omega) (by omega)) ⟨⟨?_, ?_, ?_, ?_, ?_, ?_, ?_⟩, fun n h => ?_, ?_, ?_⟩
      · unfold WFs at w1 ⊢
        rw [e14, e91, f 10 (by decide) (by decide), f 12 (by decide) (by decide)]
        refine ⟨w1.1, by omega, w1.2.2.1, fun n hn => ?_, w1.2.2.2.2⟩
        rw [f11]
        by_cases e : n = m 9 14
        · rw [if_pos e]; exact h.1
        · rw [if_neg e]; exact w1.2.2.2.1 n (by omega)
      · unfold WFp at w2 ⊢
        rw [e14, f 13 (by decide) (by decide), f 14 (by decide) (by decide)]
        exact ⟨fun n hn => ⟨(w2.1 n hn).1, fun z => (w2.1 n hn).2 (by omega)⟩, w2.2⟩
      · have q := w3 n hn
        unfold WFn pinT at q ⊢
        rw [e14, f 13 (by decide) (by decide), f 14 (by decide) (by decide), f 16 (by decide) (by decide), f 17 (by decide) (by decide), f 18 (by decide) (by decide), f 19 (by decide) (by decide)]
        exact ⟨q.1, fun z => q.2 (by omega)⟩
      · rw [f 16 (by decide) (by decide), f 17 (by decide) (by decide)]; exact w4
      · rw [f 15 (by decide) (by decide)]; exact w5
      · rw [f 6 (by decide) (by decide), f 7 (by decide) (by decide)]; exact w6
      · rw [f 47 (by decide) (by decide)]; exact w8
      · unfold dimM fld
        rw [g54, if_neg (by decide), g54, if_neg (by decide), g54, if_neg (by decide)]
        exact s1
      · rw [g54, if_neg (by decide), g 55 (by decide) (by decide), f 55 (by decide) (by decide), f 6 (by decide) (by decide), f 7 (by decide) (by decide)]
        exact s2
      · rw [g54, if_neg (by decide), e91, g 56 (by decide) (by decide), g 57 (by decide) (by decide), g 58 (by decide) (by decide), g 59 (by decide) (by decide), g 60 (by decide) (by decide), f 56 (by decide) (by decide), f 57 (by decide) (by decide), f 58 (by decide) (by decide), f 59 (by decide) (by decide), f 60 (by decide) (by decide), f 10 (by decide) (by decide)]
        exact s3
      · rw [g54, if_pos rfl, e14]
        refine ⟨rfl, fun n hn => ?_⟩
        rw [g61, f11]
        by_cases e : n = m 9 14
        · rw [if_pos e, if_pos e]
        · rw [if_neg e, if_neg e]; exact s5.2 n (by omega)
      · rw [g 62 (by decide) (by decide), f 62 (by decide) (by decide), g 63 (by decide) (by decide), f 63 (by decide) (by decide), g 64 (by decide) (by decide), f 64 (by decide) (by decide), f 12 (by decide) (by decide), f 13 (by decide) (by decide), f 14 (by decide) (by decide)]
        exact s7
      · rw [g 71 (by decide) (by decide), f 71 (by decide) (by decide), f 15 (by decide) (by decide)]
        exact s8
      · rw [g 88 (by decide) (by decide), f 88 (by decide) (by decide), f 47 (by decide) (by decide)]
        exact s9
      · exact RRn_o (fun o a b _ => f o (by omega) (by omega)) (fun o a b _ => by rw [g o (by omega) (by omega), f o (by omega) (by omega)]) (hn n h)
      · rw [g54, if_neg (by decide)]; exact r28
      · rw [g54, if_neg (by decide)]; exact r30
    · exact absurd h h2
  · refine ⟨-1, rfl, kCall_mono (c_X12_net X m1 a (by omega) (by omega)) (Nat.le_refl _) ?_⟩
    rw [h26, h13]
    rintro _ m2 (⟨h2, -⟩ | ⟨-, rfl, rfl⟩)
    · exact absurd h2 h
    · exact ⟨rfl, hI⟩
/-- the same bytes told to both -/
theorem tk_both {f : Nat → Int} (hf : ∀ j, 0 ≤ f j ∧ f j ≤ 255) {c r : Mem} (h0 : r 54 5 = c 6 3) (hp : 0 ≤ c 6 3) (hb : ∀ i : Int, (0 ≤ i ∧ i < c 6 3) → r 55 i = c 7 i ∧ 1 ≤ c 7 i ∧ c 7 i ≤ 255) : ∀ j : Nat, tkM 55 54 5 f j r 54 5 = tkM 7 6 3 f j c 6 3 ∧ 0 ≤ tkM 7 6 3 f j c 6 3 ∧ ∀ i : Int, (0 ≤ i ∧ i < tkM 7 6 3 f j c 6 3) → tkM 55 54 5 f j r 55 i = tkM 7 6 3 f j c 7 i ∧ 1 ≤ tkM 7 6 3 f j c 7 i ∧ tkM 7 6 3 f j c 7 i ≤ 255 := by
  intro j
  induction j with
  | zero => exact ⟨h0, hp, hb⟩
  | succ j ih =>
    obtain ⟨i1, i2, i3⟩ := ih
    by_cases hj : f j = 0
    · have e1 : tkM 55 54 5 f (j + 1) r = tkM 55 54 5 f j r := if_pos hj
      have e2 : tkM 7 6 3 f (j + 1) c = tkM 7 6 3 f j c := if_pos hj
      rw [e1, e2]
      exact ⟨i1, i2, i3⟩
    · have e1 : tkM 55 54 5 f (j + 1) r = mset (mset (tkM 55 54 5 f j r) 55 (tkM 55 54 5 f j r 54 5) (f j)) 54 5 (tkM 55 54 5 f j r 54 5 + 1) := if_neg hj
      have e2 : tkM 7 6 3 f (j + 1) c = mset (mset (tkM 7 6 3 f j c) 7 (tkM 7 6 3 f j c 6 3) (f j)) 6 3 (tkM 7 6 3 f j c 6 3 + 1) := if_neg hj
      have hv := hf j
      rw [e1, e2, i1]
      generalize tkM 55 54 5 f j r = R at *
      generalize tkM 7 6 3 f j c = C at *
      have eC : mset (mset C 7 (C 6 3) (f j)) 6 3 (C 6 3 + 1) 6 3 = C 6 3 + 1 := by rw [k_mset_at, if_pos rfl]
      have eR : mset (mset R 55 (C 6 3) (f j)) 54 5 (C 6 3 + 1) 54 5 = C 6 3 + 1 := by rw [k_mset_at, if_pos rfl]
      rw [eC, eR]
      refine ⟨rfl, by omega, fun i hi => ?_⟩
      rw [k_mset_ne (show (55 : Nat) ≠ 54 by decide), k_mset_at, k_mset_ne (show (7 : Nat) ≠ 6 by decide), k_mset_at]
      by_cases e : i = C 6 3
      · rw [if_pos e, if_pos e]
        exact ⟨rfl, by omega, hv.2⟩
      · rw [if_neg e, if_neg e]
        exact i3 i (by omega)
set_option maxRecDepth 100000 in
theorem pair_feed (X : Xv) (m : Mem) {w d l : Int} (hI : Inv X w d l m) (a b c e g : Int) : kPair X 130 184 [vI a, vI b, vI c, vI e, vI g] m (Inv X w d l) := by
  obtain ⟨hB, hl, hW, hR, h60, h31⟩ := id hI
  have h80 := hW.2.2.2.2.2.1.1
  have e5 : m 54 5 = m 6 3 := hR.1.2.1.1
  refine kp2 (k1 := 3) (k2 := 3) (by decide) (by decide) (kCall_mono (c_X11_feed X m a b c e g h80) (Nat.le_refl _) ?_)
  have hfd : ∀ j, 0 ≤ fdB a b c e g j ∧ fdB a b c e g j ≤ 255 := fun j => k_byte _
  rintro _ m1 (⟨h, rfl, rfl⟩ | ⟨h, rfl, hm1⟩)
  · refine ⟨_, rfl, kCall_mono (c_X12_feed X m1 a b c e g (by omega)) (Nat.le_refl _) ?_⟩
    rintro _ m2 (⟨-, rfl, rfl⟩ | ⟨h2, -⟩)
    · exact ⟨rfl, hI⟩
    · omega
  · have f : ∀ o, o ≠ 6 → o ≠ 7 → m1 o = m o := fun o p q => by rw [hm1]; exact tkM_ne q p _ _ _
    have f6 : m1 6 0 = m 6 0 := by rw [hm1]; exact tkM_fld (by decide) (by decide) _ _ _
    have e26 : m1 54 5 = m 6 3 := by rw [f 54 (by decide) (by decide)]; exact e5
    have hl3 : m1 6 3 = m 6 3 + nzc (fdB a b c e g) 20 := by rw [hm1]; exact tkM_len (by decide) _ _ _
    refine ⟨_, rfl, kCall_mono (c_X12_feed X m1 a b c e g (by omega)) (Nat.le_refl _) ?_⟩
    rw [e26]
    rintro _ m2 (⟨h2, -⟩ | ⟨-, rfl, hm2⟩)
    · omega
    · have g : ∀ o, o ≠ 54 → o ≠ 55 → m2 o = m1 o := fun o p q => by rw [hm2]; exact tkM_ne q p _ _ _
      have g54 : ∀ j : Int, j ≠ 5 → m2 54 j = m 54 j := fun j hj => by rw [hm2, ← f 54 (by decide) (by decide)]; exact tkM_fld (by decide) hj _ _ _
      have hbo := tk_both hfd (c := m) (r := m1) e26 h80.1 (fun i hi => by rw [f 55 (by decide) (by decide)]; exact ⟨hR.1.2.1.2 i hi, hW.2.2.2.2.2.1.2 i hi⟩) 20
      rw [← hm1, ← hm2] at hbo
      obtain ⟨w1, w2, w3, w4, w5, w6, w8⟩ := hW
      obtain ⟨⟨s1, s2, s3, s5, s7, s8, s9⟩, hn, r28, r30⟩ := hR
      refine ⟨rfl, ?_⟩
      refine inv_mk (m1 := m1) (c' := m1) hI (fun o a b => f o (by omega) (by omega)) Es_rf ⟨?_, ?_, fun n hn => ?_, ?_, ?_, ?_, ?_⟩ (f6) (f 31 (by decide) (by decide)) (fun o ho => g o (by omega) (by omega)) ⟨⟨?_, ?_, ?_, ?_, ?_, ?_, ?_⟩, fun n h => ?_, ?_, ?_⟩
      · exact WFs_o (fun o a b => f o (by omega) (by omega)) w1
      · exact WFp_o (by rw [f 9 (by decide) (by decide)]) (f 13 (by decide) (by decide)) (f 14 (by decide) (by decide)) w2
      · exact WFn_o (by rw [f 9 (by decide) (by decide)]) (fun o a b _ => f o (by omega) (by omega)) (w3 n hn)
      · rw [f 16 (by decide) (by decide), f 17 (by decide) (by decide)]; exact w4
      · rw [f 15 (by decide) (by decide)]; exact w5
      · exact ⟨by omega, fun i hi => (hbo.2.2 i hi).2⟩
      · rw [f 47 (by decide) (by decide)]; exact w8
      · unfold dimM fld
        rw [g54 _ (by decide), g54 _ (by decide), g54 _ (by decide)]
        exact s1
      · exact ⟨hbo.1, fun i hi => (hbo.2.2 i hi).1⟩
      · rw [g54 _ (by decide), f 9 (by decide) (by decide), g 56 (by decide) (by decide), f 56 (by decide) (by decide), g 57 (by decide) (by decide), f 57 (by decide) (by decide), g 58 (by decide) (by decide), f 58 (by decide) (by decide), g 59 (by decide) (by decide), f 59 (by decide) (by decide), g 60 (by decide) (by decide), f 60 (by decide) (by decide), f 10 (by decide) (by decide)]
        exact s3
      · rw [g54 _ (by decide), f 9 (by decide) (by decide), g 61 (by decide) (by decide), f 61 (by decide) (by decide), f 11 (by decide) (by decide)]
        exact s5
      · rw [g 62 (by decide) (by decide), f 62 (by decide) (by decide), g 63 (by decide) (by decide), f 63 (by decide) (by decide), g 64 (by decide) (by decide), f 64 (by decide) (by decide), f 12 (by decide) (by decide), f 13 (by decide) (by decide), f 14 (by decide) (by decide)]
        exact s7
      · rw [g 71 (by decide) (by decide), f 71 (by decide) (by decide), f 15 (by decide) (by decide)]
        exact s8
      · rw [g 88 (by decide) (by decide), f 88 (by decide) (by decide), f 47 (by decide) (by decide)]
        exact s9
      · exact RRn_o (fun o a b _ => f o (by omega) (by omega)) (fun o a b _ => by rw [g o (by omega) (by omega), f o (by omega) (by omega)]) (hn n h)
      · rw [g54 _ (by decide)]; exact r28
      · rw [g54 _ (by decide)]; exact r30
/-- the reference where only what tells nothing changed -/
theorem inv_fld {X : Xv} {w d l : Int} {m m' : Mem} (hI : Inv X w d l m) (h : ∀ o, o ≠ 54 → o ≠ 92 → m' o = m o) (h54 : ∀ i : Int, i ≠ 0 → m' 54 i = m 54 i) : Inv X w d l m' := inv_mk (m1 := m) (c' := m) hI (fun _ _ _ => rfl) Es_rf hI.2.2.1 rfl rfl (fun o ho => h o (by omega) (by omega)) (RR_fld (fun o a b => h o (by omega) (by omega)) (fun i hi => h54 i (by omega)) (by rw [h54 28 (by decide)]; exact hI.2.2.2.1.2.2.1) (by rw [h54 30 (by decide)]; exact hI.2.2.2.1.2.2.2) hI.2.2.2.1)
theorem c_X12_told (X : Xv) (m : Mem) (k j : Int) (h : 0 ≤ m 54 13 ∧ m 54 13 ≤ 6) : kCall (eX X) 2 M_X12_told.1 [vR 54, vI k, vI j] m (fun r m' => (¬ ((0 ≤ k ∧ k < m 54 13) ∧ (0 ≤ j ∧ j < 5)) ∧ r = some (vI 0) ∧ m' = fset m 54 0 1) ∨ (((0 ≤ k ∧ k < m 54 13) ∧ (0 ≤ j ∧ j < 5)) ∧ r = some (vI (if j = 0 then m 56 k else if j = 1 then m 57 k else if j = 2 then m 58 k else if j = 3 then m 59 k else m 60 k)) ∧ m' = fset m 54 0 0)) := by
  refine kCall_ofT ok_X12_told rfl (Nat.le_of_ble_eq_true rfl) (fun T hT => ?_)
  have hno : ¬ ((0 ≤ k ∧ k < m 54 13) ∧ (0 ≤ j ∧ j < 5)) → kW (eX X) 1 M_X12_told T 2 [some (vR 54), some (vI k), some (vI j)] [vI 1, vR 54] m := by
    intro hn
    refine kW_go ok_X12_told [] 20 ?_
    show (1 ≠ 1 → _) ∧ ((1 : Int) = 1 → T (some (vI 0)) (fset m 54 0 1))
    exact ⟨fun h => absurd rfl h, fun _ => hT _ _ (Or.inl ⟨hn, rfl, rfl⟩)⟩
  refine kW_go ok_X12_told [2] 20 ?_
  refine ⟨show inR (m 54 13 - 1) by constructor <;> omega, ?_⟩
  refine kCall_mono (c_X12_in (eX X) m k 0 (m 54 13 - 1)) (Nat.le_of_ble_eq_true rfl) ?_
  rintro _ m ⟨rfl, rfl⟩
  refine And.intro (fun h1 => hno (fun z => b2i_0.mp h1 (by omega))) (fun h1 => ?_)
  have h1 := b2i_n.mp h1
  refine kCall_mono (c_X12_in (eX X) m j 0 4) (Nat.le_of_ble_eq_true rfl) ?_
  rintro _ m ⟨rfl, rfl⟩
  refine And.intro (fun h2 => hno (fun z => b2i_0.mp h2 (by omega))) (fun h2 => ?_)
  have h2 := b2i_n.mp h2
  have hk : 0 ≤ k ∧ k < ((7 : Nat) : Int) := by omega
  have hyes : ∀ v, v = (if j = 0 then m 56 k else if j = 1 then m 57 k else if j = 2 then m 58 k else if j = 3 then m 59 k else m 60 k) → T (some (vI v)) (fset m 54 0 0) := fun v hv => hT _ _ (Or.inr ⟨⟨by omega, by omega⟩, by rw [hv], rfl⟩)
  refine kW_go ok_X12_told [] 20 ?_
  refine And.intro (fun _ => ?_) (fun h => absurd (show (0 : Int) = 1 from h) (by decide))
  refine And.intro (fun e0 => And.intro (fun e1 => And.intro (fun e2 => And.intro (fun e3 => ⟨hk, hyes _ ?_⟩) (fun e3 => ⟨hk, hyes _ ?_⟩)) (fun e2 => ⟨hk, hyes _ ?_⟩)) (fun e1 => ⟨hk, hyes _ ?_⟩)) (fun e0 => ⟨hk, hyes _ ?_⟩)
  · rw [if_neg e0, if_neg e1, if_neg e2, if_neg e3]; rfl
  · rw [if_neg e0, if_neg e1, if_neg e2, if_pos e3]; rfl
  · rw [if_neg e0, if_neg e1, if_pos e2]; rfl
  · rw [if_neg e0, if_pos e1]; rfl
  · rw [if_pos e0]; rfl
theorem pair_told (X : Xv) (m : Mem) {w d l : Int} (hI : Inv X w d l m) (k j : Int) (m1 : Mem) (h1 : (tdOk m k j ∧ m1 = mset m 92 0 (m 10 (k * 5 + j))) ∨ (¬ tdOk m k j ∧ m1 = m)) : kCall (eX X) 900 197 [vR 54, vI k, vI j] m1 (fun r m2 => ∃ b, r = some (vI b) ∧ kCall (eX X) 900 182 [vR 54] m2 (fun r3 m3 => ∃ u, r3 = some (vI u) ∧ ((tdOk m k j ∧ u = 0 ∧ m3 92 0 = b) ∨ (¬ tdOk m k j ∧ u = 1)) ∧ Inv X w d l m3)) := by
  obtain ⟨hB, hl, hW, hR, h60, h31⟩ := id hI
  have h6 := hW.1.1
  have h13 : m 54 13 = m 9 13 := hR.1.2.2.1.1
  have f : ∀ o, o ≠ 92 → m1 o = m o := by
    intro o ho
    rcases h1 with ⟨-, rfl⟩ | ⟨-, rfl⟩
    · exact k_mset_ne ho
    · rfl
  have e13 : m1 54 13 = m 9 13 := by rw [f 54 (by decide)]; exact h13
  refine kCall_mono (c_X12_told X m1 k j (by omega)) (by decide) ?_
  have hinv : ∀ v, Inv X w d l (fset m1 54 0 v) := fun v => inv_fld hI (fun o a b => by unfold fset; rw [k_mset_ne a, f o b]) (fun i hi => by show mset m1 54 0 v 54 i = m 54 i; rw [k_mset_at, if_neg hi, f 54 (by decide)])
  rw [e13]
  rintro _ m2 (⟨hq, rfl, rfl⟩ | ⟨hq, rfl, rfl⟩)
  · refine ⟨_, rfl, kCall_mono (c_X12_thrown X _) (by decide) ?_⟩
    rintro _ m3 ⟨rfl, rfl⟩
    refine ⟨_, rfl, Or.inr ⟨hq, ?_⟩, hinv 1⟩
    unfold fset
    rw [k_mset_at]
    rfl
  · refine ⟨_, rfl, kCall_mono (c_X12_thrown X _) (by decide) ?_⟩
    rintro _ m3 ⟨rfl, rfl⟩
    refine ⟨_, rfl, Or.inl ⟨hq, ?_, ?_⟩, hinv 0⟩
    · unfold fset
      rw [k_mset_at]
      rfl
    · have e92 : m1 92 0 = m 10 (k * 5 + j) := by
        rcases h1 with ⟨-, rfl⟩ | ⟨hn, -⟩
        · rw [k_mset_at, if_pos rfl]
        · exact absurd hq hn
      have hs := hR.1.2.2.1.2 k hq.1
      unfold fset
      rw [k_mset_ne (by decide), e92, f 56 (by decide), f 57 (by decide), f 58 (by decide), f 59 (by decide), f 60 (by decide), hs.1, hs.2.1, hs.2.2.1, hs.2.2.2.1, hs.2.2.2.2]
      have hj := hq.2
      by_cases j0 : j = 0
      · rw [if_pos j0, j0, Int.add_zero]
      · rw [if_neg j0]
        by_cases j1 : j = 1
        · rw [if_pos j1, j1]
        · rw [if_neg j1]
          by_cases j2 : j = 2
          · rw [if_pos j2, j2]
          · rw [if_neg j2]
            by_cases j3 : j = 3
            · rw [if_pos j3, j3]
            · rw [if_neg j3, show j = 4 by omega]
