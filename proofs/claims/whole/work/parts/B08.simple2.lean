/-! KEEP, RANK, NET, FEED, TOLD, COPPER alike -/
theorem cR_iff {w d l a b z c : Int} (hD : okD w d l) (hc : inC w d l c) (ha : 0 ≤ a ∧ a < w) (hb : 0 ≤ b ∧ b < d) : c = ix w d a b z ↔ cR w d c = 81 * z + 9 * b + a := by
  have h1 := gX_in (c := c) hD
  have h2 := gY_in (c := c) hD
  obtain ⟨⟨w1, w2⟩, ⟨d1, d2⟩, -⟩ := id hD
  constructor
  · rintro rfl
    exact cR_ix (l := l) ha hb
  · intro h
    unfold cR at h
    rw [← ix_eta hD c, show gX w c = a by omega, show gY w d c = b by omega, show gZ w d c = z by omega]
theorem rect_iff {w d l x y x2 y2 z c : Int} (hD : okD w d l) (hc : inC w d l c) (hx : 0 ≤ x ∧ x2 < w) (hy : 0 ≤ y ∧ y2 < d) : inRect w d x y x2 y2 z c ↔ rectR x y x2 y2 z (cR w d c) := by
  constructor
  · rintro ⟨a, b, ha, hb, h⟩
    exact ⟨a, b, ha, hb, (cR_iff hD hc (by omega) (by omega)).mp h⟩
  · rintro ⟨a, b, ha, hb, h⟩
    exact ⟨a, b, ha, hb, (cR_iff hD hc (by omega) (by omega)).mpr h⟩
set_option maxRecDepth 100000 in
theorem pair_keep (X : Xv) (m : Mem) {w d l : Int} (hI : Inv X w d l m) (x y x2 y2 v : Int) (hv : inR v) : kPair X 137 208 [vI x, vI y, vI x2, vI y2, vI v] m (Inv X w d l) := by
  obtain ⟨hB, hl, hW, hR, h60, h31⟩ := id hI
  have hD := hB.1
  refine kp2 (k1 := 3) (k2 := 4) (by decide) (by decide) (kCall_mono (c_X11_keep X m hD hB.2.1 hB.2.2 x y x2 y2 v hv) (Nat.le_refl _) ?_)
  rintro _ m1 (⟨h, rfl, hm1⟩ | ⟨h, rfl, rfl⟩)
  · have f : ∀ o, o ≠ 15 → m1 o = m o := fun o ho => hm1.1 o ho
    have hd1 : dimM m1 w d l := by
      have := hR.1.1
      unfold dimM fld at this ⊢
      rw [f 54 (by decide)]
      exact this
    refine ⟨1, rfl, kCall_mono (c_X12_keep X m1 hd1 (by rw [f 71 (by decide)]; exact hR.1.2.2.2.2.2.1.2) x y x2 y2 v hv) (Nat.le_refl _) ?_⟩
    rintro _ m2 (⟨-, rfl, hm2⟩ | ⟨h2, -⟩)
    · have g : ∀ o, o ≠ 71 → m2 o = m1 o := fun o ho => hm2.1 o ho
      obtain ⟨w1, w2, w3, w4, w5, w6, w8⟩ := hW
      obtain ⟨⟨s1, s2, s3, s5, s7, s8, s9⟩, hn, r28, r30⟩ := hR
      refine ⟨rfl, ?_⟩
      refine inv_mk (m1 := m1) (c' := m1) hI (fun o a b => f o (by omega)) Es_rf ⟨?_, ?_, fun n hn => ?_, ?_, ?_, ?_, ?_⟩ (by rw [f 6 (by decide)]) (f 31 (by decide)) (fun o ho => g o (by omega)) ⟨⟨?_, ?_, ?_, ?_, ?_, ?_, ?_⟩, fun n h => ?_, ?_, ?_⟩
      · exact WFs_o (fun o a b => f o (by omega)) w1
      · exact WFp_o (by rw [f 9 (by decide)]) (f 13 (by decide)) (f 14 (by decide)) w2
      · exact WFn_o (by rw [f 9 (by decide)]) (fun o a b _ => f o (by omega)) (w3 n hn)
      · rw [f 16 (by decide), f 17 (by decide)]; exact w4
      · intro c
        by_cases hs : ∃ z, (0 ≤ z ∧ z < l) ∧ bt v z.toNat = true ∧ inRect w d x y x2 y2 z c
        · exact Or.inr ((hm1.2 c).1 hs)
        · rw [(hm1.2 c).2 hs]; exact w5 c
      · rw [f 6 (by decide), f 7 (by decide)]; exact w6
      · rw [f 47 (by decide)]; exact w8
      · unfold dimM fld
        rw [g 54 (by decide), f 54 (by decide)]
        exact s1
      · rw [g 54 (by decide), f 54 (by decide), g 55 (by decide), f 55 (by decide), f 6 (by decide), f 7 (by decide)]
        exact s2
      · rw [g 54 (by decide), f 54 (by decide), f 9 (by decide), g 56 (by decide), f 56 (by decide), g 57 (by decide), f 57 (by decide), g 58 (by decide), f 58 (by decide), g 59 (by decide), f 59 (by decide), g 60 (by decide), f 60 (by decide), f 10 (by decide)]
        exact s3
      · rw [g 54 (by decide), f 54 (by decide), f 9 (by decide), g 61 (by decide), f 61 (by decide), f 11 (by decide)]
        exact s5
      · rw [g 62 (by decide), f 62 (by decide), g 63 (by decide), f 63 (by decide), g 64 (by decide), f 64 (by decide), f 12 (by decide), f 13 (by decide), f 14 (by decide)]
        exact s7
      · refine ⟨fun c hc => ?_, fun j => ?_⟩
        · have hq : (∃ z, (0 ≤ z ∧ z < l) ∧ bt v z.toNat = true ∧ inRect w d x y x2 y2 z c) ↔ ∃ z, (0 ≤ z ∧ z < l) ∧ bt v z.toNat = true ∧ rectR x y x2 y2 z (cR w d c) := exists_congr (fun z => and_congr_right (fun _ => and_congr_right (fun _ => rect_iff hD hc (by have := h.1; have := h.2.1; omega) (by have := h.1; have := h.2.1; omega))))
          by_cases hs : ∃ z, (0 ≤ z ∧ z < l) ∧ bt v z.toNat = true ∧ inRect w d x y x2 y2 z c
          · rw [(hm1.2 c).1 hs, (hm2.2 _).1 (hq.mp hs)]
          · rw [(hm1.2 c).2 hs, (hm2.2 _).2 (fun z => hs (hq.mpr z)), f 71 (by decide)]
            exact s8.1 c hc
        · by_cases hs : ∃ z, (0 ≤ z ∧ z < l) ∧ bt v z.toNat = true ∧ rectR x y x2 y2 z j
          · exact Or.inr ((hm2.2 j).1 hs)
          · rw [(hm2.2 j).2 hs, f 71 (by decide)]
            exact s8.2 j
      · rw [g 88 (by decide), f 88 (by decide), f 47 (by decide)]
        exact s9
      · exact RRn_o (fun o a b _ => f o (by omega)) (fun o a b _ => by rw [g o (by omega), f o (by omega)]) (hn n h)
      · rw [g 54 (by decide), f 54 (by decide)]; exact r28
      · rw [g 54 (by decide), f 54 (by decide)]; exact r30
    · exact absurd h h2
  · refine ⟨0, rfl, kCall_mono (c_X12_keep X m1 hR.1.1 hR.1.2.2.2.2.2.1.2 x y x2 y2 v hv) (Nat.le_refl _) ?_⟩
    rintro _ m2 (⟨h2, -⟩ | ⟨-, rfl, rfl⟩)
    · exact absurd h2 h
    · exact ⟨rfl, hI⟩
def rkOk (m : Mem) (a b : Int) : Prop := (0 ≤ a ∧ a < m 9 14) ∧ 0 ≤ b ∧ b ≤ 99
theorem c_X11_rank (X : Xv) (m : Mem) (a b : Int) (h8 : m 9 14 ≤ 8) : kCall (eX X) 2 M_X11_rank.1 [vR 0, vI a, vI b] m (fun r m' => (rkOk m a b ∧ r = some (vI 1) ∧ m' = mset m 12 a b) ∨ (¬ rkOk m a b ∧ r = some (vI 0) ∧ m' = m)) := by
  refine kCall_ofT ok_X11_rank rfl (Nat.le_of_ble_eq_true rfl) (fun T hT => ?_)
  refine kW_go ok_X11_rank [] 20 ?_
  refine kCall_mono (c_X11_isNet X m a) (Nat.le_of_ble_eq_true rfl) ?_
  rintro _ m ⟨rfl, rfl⟩
  have hno : ¬ rkOk m a b → T (some (vI 0)) m := fun h => hT _ _ ⟨Or.inl rfl, Or.inr ⟨h, rfl, rfl⟩⟩
  refine And.intro (fun h => hno (fun z => b2i_0.mp h z.1)) (fun h => And.intro (fun h2 => hno (fun z => ?_)) (fun h2 => And.intro (fun h3 => ?_) (fun h3 => hno (fun z => ?_))))
  · have := z.2; omega
  · have hn := b2i_n.mp h
    exact ⟨by constructor <;> omega, hT _ _ ⟨Or.inr rfl, Or.inl ⟨⟨hn, h2, h3⟩, rfl, rfl⟩⟩⟩
  · have := z.2; omega
theorem c_X12_rank (X : Xv) (m : Mem) (a b : Int) (h8 : 0 ≤ m 54 26 ∧ m 54 26 ≤ 8) : kCall (eX X) 3 M_X12_rank.1 [vR 54, vI a, vI b] m (fun r m' => (((0 ≤ a ∧ a < m 54 26) ∧ 0 ≤ b ∧ b ≤ 99) ∧ r = some (vI 1) ∧ m' = mset m 62 a b) ∨ (¬ ((0 ≤ a ∧ a < m 54 26) ∧ 0 ≤ b ∧ b ≤ 99) ∧ r = some (vI 0) ∧ m' = m)) := by
  refine kCall_ofT ok_X12_rank rfl (Nat.le_of_ble_eq_true rfl) (fun T hT => ?_)
  refine kW_go ok_X12_rank [] 20 ?_
  refine kCall_mono (c_X12_isNet X m a h8) (Nat.le_of_ble_eq_true rfl) ?_
  rintro _ m ⟨rfl, rfl⟩
  have hno : ¬ ((0 ≤ a ∧ a < m 54 26) ∧ 0 ≤ b ∧ b ≤ 99) → T (some (vI 0)) m := fun h => hT _ _ ⟨Or.inl rfl, Or.inr ⟨h, rfl, rfl⟩⟩
  refine And.intro (fun h => hno (fun z => b2i_0.mp h z.1)) (fun h => ?_)
  have hn := b2i_n.mp h
  refine kCall_mono (c_X12_in (eX X) m b 0 99) (Nat.le_of_ble_eq_true rfl) ?_
  rintro _ m ⟨rfl, rfl⟩
  refine And.intro (fun h2 => ?_) (fun h2 => hno (fun z => ?_))
  · exact ⟨by constructor <;> omega, hT _ _ ⟨Or.inr rfl, Or.inl ⟨⟨hn, b2i_n.mp h2⟩, rfl, rfl⟩⟩⟩
  · exact b2i_0.mp h2 z.2
set_option maxRecDepth 100000 in
theorem pair_rank (X : Xv) (m : Mem) {w d l : Int} (hI : Inv X w d l m) (a b : Int) : kPair X 145 241 [vI a, vI b] m (Inv X w d l) := by
  obtain ⟨hB, hl, hW, hR, h60, h31⟩ := id hI
  have h8 := hW.1.2.1
  have h26 : m 54 26 = m 9 14 := hR.1.2.2.2.1.1
  refine kp2 (k1 := 2) (k2 := 3) (by decide) (by decide) (kCall_mono (c_X11_rank X m a b h8.2) (Nat.le_refl _) ?_)
  rintro _ m1 (⟨h, rfl, hm1⟩ | ⟨h, rfl, rfl⟩)
  · have f : ∀ o, o ≠ 12 → m1 o = m o := fun o ho => by rw [hm1]; exact k_mset_ne ho
    have f12 : ∀ j, m1 12 j = if j = a then b else m 12 j := fun j => by rw [hm1]; exact k_mset_at
    have e26 : m1 54 26 = m 9 14 := by rw [f 54 (by decide)]; exact h26
    refine ⟨1, rfl, kCall_mono (c_X12_rank X m1 a b (by omega)) (Nat.le_refl _) ?_⟩
    rw [e26]
    rintro _ m2 (⟨-, rfl, hm2⟩ | ⟨h2, -⟩)
    · have g : ∀ o, o ≠ 62 → m2 o = m1 o := fun o ho => by rw [hm2]; exact k_mset_ne ho
      have g62 : ∀ j, m2 62 j = if j = a then b else m 62 j := fun j => by rw [hm2, ← f 62 (by decide)]; exact k_mset_at
      obtain ⟨w1, w2, w3, w4, w5, w6, w8⟩ := hW
      obtain ⟨⟨s1, s2, s3, s5, s7, s8, s9⟩, hn, r28, r30⟩ := hR
      refine ⟨rfl, ?_⟩
      refine inv_mk (m1 := m1) (c' := m1) hI (fun o a b => f o (by omega)) Es_rf ⟨?_, ?_, fun n hn => ?_, ?_, ?_, ?_, ?_⟩ (by rw [f 6 (by decide)]) (f 31 (by decide)) (fun o ho => g o (by omega)) ⟨⟨?_, ?_, ?_, ?_, ?_, ?_, ?_⟩, fun n h => ?_, ?_, ?_⟩
      · unfold WFs at w1 ⊢
        rw [f 9 (by decide), f 10 (by decide), f 11 (by decide)]
        refine ⟨w1.1, w1.2.1, w1.2.2.1, w1.2.2.2.1, fun n hn => ?_⟩
        rw [f12]
        by_cases e : n = a
        · rw [if_pos e]; exact h.2
        · rw [if_neg e]; exact w1.2.2.2.2 n hn
      · exact WFp_o (by rw [f 9 (by decide)]) (f 13 (by decide)) (f 14 (by decide)) w2
      · exact WFn_o (by rw [f 9 (by decide)]) (fun o a b _ => f o (by omega)) (w3 n hn)
      · rw [f 16 (by decide), f 17 (by decide)]; exact w4
      · rw [f 15 (by decide)]; exact w5
      · rw [f 6 (by decide), f 7 (by decide)]; exact w6
      · rw [f 47 (by decide)]; exact w8
      · unfold dimM fld
        rw [g 54 (by decide), f 54 (by decide)]
        exact s1
      · rw [g 54 (by decide), f 54 (by decide), g 55 (by decide), f 55 (by decide), f 6 (by decide), f 7 (by decide)]
        exact s2
      · rw [g 54 (by decide), f 54 (by decide), f 9 (by decide), g 56 (by decide), f 56 (by decide), g 57 (by decide), f 57 (by decide), g 58 (by decide), f 58 (by decide), g 59 (by decide), f 59 (by decide), g 60 (by decide), f 60 (by decide), f 10 (by decide)]
        exact s3
      · rw [g 54 (by decide), f 54 (by decide), f 9 (by decide), g 61 (by decide), f 61 (by decide), f 11 (by decide)]
        exact s5
      · intro n hn
        have q := s7 n hn
        rw [g62, f12, g 63 (by decide), f 63 (by decide), g 64 (by decide), f 64 (by decide), f 13 (by decide), f 14 (by decide)]
        by_cases e : n = a
        · rw [if_pos e, if_pos e]; exact ⟨rfl, q.2⟩
        · rw [if_neg e, if_neg e]; exact q
      · rw [g 71 (by decide), f 71 (by decide), f 15 (by decide)]
        exact s8
      · rw [g 88 (by decide), f 88 (by decide), f 47 (by decide)]
        exact s9
      · exact RRn_o (fun o a b _ => f o (by omega)) (fun o a b _ => by rw [g o (by omega), f o (by omega)]) (hn n h)
      · rw [g 54 (by decide), f 54 (by decide)]; exact r28
      · rw [g 54 (by decide), f 54 (by decide)]; exact r30
    · exact absurd h h2
  · refine ⟨0, rfl, kCall_mono (c_X12_rank X m1 a b (by omega)) (Nat.le_refl _) ?_⟩
    rw [h26]
    rintro _ m2 (⟨h2, -⟩ | ⟨-, rfl, rfl⟩)
    · exact absurd h2 h
    · exact ⟨rfl, hI⟩
