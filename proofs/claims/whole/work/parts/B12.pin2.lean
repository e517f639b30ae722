/-! PIN alike -/
theorem or1_v4 {v : Int} (h : 0 ≤ v ∧ v < 4) : (0 ≤ kor v 1 ∧ kor v 1 < 4) ∧ bt (kor v 1) 0 = true ∧ bt (kor v 1) 1 = bt v 1 := by
  have : ∀ i : Fin 4, (0 ≤ kor (i.val : Int) 1 ∧ kor (i.val : Int) 1 < 4) ∧ bt (kor (i.val : Int) 1) 0 = true ∧ bt (kor (i.val : Int) 1) 1 = bt (i.val : Int) 1 := by decide +kernel
  have h2 := this ⟨v.toNat, by omega⟩
  simp only [Int.toNat_of_nonneg h.1] at h2
  exact h2
set_option maxRecDepth 100000 in
theorem pair_pin (X : Xv) (m : Mem) {w d l : Int} (hI : Inv X w d l m) (n x y z : Int) : kPair X 136 207 [vI n, vI x, vI y, vI z] m (Inv X w d l) := by
  obtain ⟨hB, hl, hW, hR, h60, h31⟩ := id hI
  have hD := hB.1
  refine kp2 (k1 := 3) (k2 := 3) (by decide) (by decide) (kCall_mono (c_X11_pin X m hB (WF_WM hW) n x y z) (Nat.le_refl _) ?_)
  rintro _ m1 (⟨h, rfl, hm1⟩ | ⟨h, rfl, rfl⟩)
  · have f : ∀ o, o ≠ 13 → o ≠ 14 → o ≠ 16 → m1 o = m o := fun o h1 h2 h3 => by rw [hm1, k_mset_ne h3, k_mset_ne h1, k_mset_ne h2]
    have f14 : ∀ j, m1 14 j = if j = n * 4 + m 13 n then ix w d x y z else m 14 j := fun j => by rw [hm1, k_mset_ne (by decide), k_mset_ne (by decide), k_mset_at]
    have f13 : ∀ j, m1 13 j = if j = n then m 13 n + 1 else m 13 j := fun j => by rw [hm1, k_mset_ne (by decide), k_mset_at, k_mset_ne (by decide)]
    have f16 : ∀ j, m1 16 j = if j = ix w d x y z then kor (m 16 (ix w d x y z)) (kshl 1 n) else m 16 j := fun j => by rw [hm1, k_mset_at, k_mset_ne (by decide), k_mset_ne (by decide)]
    have hR1 : RR w d l m m1 := RR_ref (fun o a b => f o (by omega) (by omega) (by omega)) hR
    refine ⟨m 13 n, rfl, kCall_mono (c_X12_pin X m m1 hD (WF_WM hW) (RR_0 hR1) n x y z) (Nat.le_refl _) ?_⟩
    rintro _ m2 (⟨-, rfl, hm2⟩ | ⟨h2, -⟩)
    · have hx := ix_in (w := w) (d := d) (l := l) h.2.1.1 h.2.1.2.1 h.2.1.2.2
      have hfree := h.2.2.2
      have hp4 := h.2.2.1
      have hn8 : 0 ≤ n ∧ n < 8 := by have := h.1; have := hW.1.2.1; omega
      have h914 := h.1
      have g : ∀ o, o ≠ 63 → o ≠ 64 → o ≠ 72 → m2 o = m1 o := fun o h1 h2 h3 => by rw [hm2, k_mset_ne h3, k_mset_ne h1, k_mset_ne h2]
      have gg : ∀ o, 54 ≤ o → o ≠ 63 → o ≠ 64 → o ≠ 72 → m2 o = m o := fun o h0 h1 h2 h3 => by rw [g o h1 h2 h3, f o (by omega) (by omega) (by omega)]
      generalize hq : ix w d x y z = q at *
      have g64 : ∀ j, m2 64 j = if j = 4 * n + m 13 n then cR w d q else m 64 j := fun j => by rw [hm2, k_mset_ne (by decide), k_mset_ne (by decide), k_mset_at, f 64 (by decide) (by decide) (by decide)]
      have g63 : ∀ j, m2 63 j = if j = n then m 13 n + 1 else m 63 j := fun j => by rw [hm2, k_mset_ne (by decide), k_mset_at, k_mset_ne (by decide), f 63 (by decide) (by decide) (by decide)]
      have g72 : ∀ j, m2 72 j = if j = 324 * n + cR w d q then kor (m 72 (324 * n + cR w d q)) 1 else m 72 j := fun j => by rw [hm2, k_mset_at, k_mset_ne (by decide), k_mset_ne (by decide), f 72 (by decide) (by decide) (by decide)]
      have hg := (cR_geo hD hx).1
      obtain ⟨w1, w2, w3, w4, w5, w6, w8⟩ := hW
      obtain ⟨⟨s1, s2, s3, s5, s7, s8, s9⟩, hn, r28, r30⟩ := hR
      have hcnt := fun n' hn' => (w2.1 n' hn').1
      have hpn := hcnt n hn8
      have en : ((n.toNat : Nat) : Int) = n := Int.toNat_of_nonneg hn8.1
      -- all nets' pins: no pin lies in the new cell
      have hfree8 : ∀ n' p : Int, (0 ≤ n' ∧ n' < 8) → (0 ≤ p ∧ p < m 13 n') → m 14 (n' * 4 + p) ≠ q := by
        intro n' p hn' hp'
        by_cases e : n' < m 9 14
        · exact hfree n' p ⟨hn'.1, e⟩ hp'
        · have := (w2.1 n' hn').2 (by omega)
          omega
      have hpT : ∀ n' u : Int, (0 ≤ n' ∧ n' < 8) → (pinT m1 n' u ↔ pinT m n' u ∨ (n' = n ∧ u = q)) := by
        intro n' u hn'
        have hc' := hcnt n' hn'
        constructor
        · rintro ⟨p, hp, e⟩
          rw [f13] at hp
          rw [f14] at e
          by_cases en' : n' = n
          · rw [if_pos en'] at hp
            rw [en'] at e ⊢
            by_cases ep : p = m 13 n
            · rw [if_pos (by rw [ep])] at e
              exact Or.inr ⟨rfl, e.symm⟩
            · rw [if_neg (by omega)] at e
              exact Or.inl ⟨p, by omega, e⟩
          · rw [if_neg en'] at hp
            rw [if_neg (by omega)] at e
            exact Or.inl ⟨p, hp, e⟩
        · rintro (⟨p, hp, e⟩ | ⟨rfl, rfl⟩)
          · refine ⟨p, ?_, ?_⟩
            · rw [f13]
              by_cases en' : n' = n
              · rw [if_pos en']; rw [en'] at hp; omega
              · rw [if_neg en']; exact hp
            · rw [f14]
              by_cases en' : n' = n
              · rw [if_neg (by rw [en'] at hp ⊢; omega)]; exact e
              · rw [if_neg (by omega)]; exact e
          · exact ⟨m 13 n', by rw [f13, if_pos rfl]; omega, by rw [f14, if_pos rfl]⟩
      have hv16 : ∀ u, inC w d l u → 0 ≤ m1 16 u ∧ m1 16 u < 256 := by
        intro u hu
        rw [f16]
        by_cases e : u = q
        · rw [if_pos e]
          exact kor8 (w4 q hx).1 (bit8 hn8)
        · rw [if_neg e]
          exact (w4 u hu).1
      have hb16 : ∀ (u : Int) (o : Nat), inC w d l u → (bt (m1 16 u) o = true ↔ bt (m 16 u) o = true ∨ ((o : Int) = n ∧ u = q)) := by
        intro u o hu
        rw [f16]
        by_cases e : u = q
        · rw [if_pos e, bt_or, bt_bit hn8.1 (by omega), e]
          simp
        · rw [if_neg e]
          exact ⟨Or.inl, fun t => t.elim id (fun t => absurd t.2 e)⟩
      refine ⟨rfl, ?_⟩
      refine inv_mk (m1 := m1) (c' := m1) hI (fun o a b => f o (by omega) (by omega) (by omega)) Es_rf ⟨?_, ?_, fun n' hn' => ?_, ?_, ?_, ?_, ?_⟩ (by rw [f 6 (by decide) (by decide) (by decide)]) (f 31 (by decide) (by decide) (by decide)) (fun o ho => g o (by omega) (by omega) (by omega)) ⟨⟨?_, ?_, ?_, ?_, ?_, ?_, ?_⟩, fun n' hn' => ?_, ?_, ?_⟩
      · exact WFs_o (fun o a b => f o (by omega) (by omega) (by omega)) w1
      · unfold WFp
        rw [f 9 (by decide) (by decide) (by decide)]
        refine ⟨fun n' hn' => ?_, fun n' p hn' hp => ?_, fun a p b r ha hp hb hr he => ?_⟩
        · have q1 := w2.1 n' hn'
          rw [f13]
          by_cases e : n' = n
          · rw [if_pos e]; exact ⟨by omega, fun t => by omega⟩
          · rw [if_neg e]; exact q1
        · rcases (hpT n' _ hn').mp ⟨p, hp, rfl⟩ with ⟨p', hp', e⟩ | ⟨-, e⟩
          · rw [← e]; exact w2.2.1 n' p' hn' hp'
          · rw [e]; exact hx
        · have ca := hcnt a ha
          have cb := hcnt b hb
          rw [f13] at hp hr
          rw [f14, f14] at he
          by_cases ea : a = n
          · rw [if_pos ea] at hp
            subst ea
            by_cases eb : b = a
            · rw [if_pos eb] at hr
              subst eb
              by_cases ep : p = m 13 b
              · rw [if_pos (by rw [ep])] at he
                by_cases er : r = m 13 b
                · exact ⟨rfl, by omega⟩
                · rw [if_neg (by omega)] at he
                  exact absurd he.symm (hfree8 b r hb (by omega))
              · rw [if_neg (by omega)] at he
                by_cases er : r = m 13 b
                · rw [if_pos (by rw [er])] at he
                  exact absurd he (hfree8 b p hb (by omega))
                · rw [if_neg (by omega)] at he
                  exact w2.2.2 b p b r hb (by omega) hb (by omega) he
            · rw [if_neg eb] at hr
              rw [if_neg (show ¬ b * 4 + r = a * 4 + m 13 a by omega)] at he
              by_cases ep : p = m 13 a
              · rw [if_pos (by rw [ep])] at he
                exact absurd he.symm (hfree8 b r hb hr)
              · rw [if_neg (by omega)] at he
                exact w2.2.2 a p b r ha (by omega) hb hr he
          · rw [if_neg ea] at hp
            rw [if_neg (show ¬ a * 4 + p = n * 4 + m 13 n by omega)] at he
            by_cases eb : b = n
            · rw [if_pos eb] at hr
              subst eb
              by_cases er : r = m 13 b
              · rw [if_pos (by rw [er])] at he
                exact absurd he (hfree8 a p ha hp)
              · rw [if_neg (by omega)] at he
                exact w2.2.2 a p b r ha hp hb (by omega) he
            · rw [if_neg eb] at hr
              rw [if_neg (by omega)] at he
              exact w2.2.2 a p b r ha hp hb hr he
      · obtain ⟨q1, q2⟩ := w3 n' hn'
        unfold WFn
        rw [f 9 (by decide) (by decide) (by decide), f 17 (by decide) (by decide) (by decide), f 18 (by decide) (by decide) (by decide), f 19 (by decide) (by decide) (by decide)]
        refine ⟨fun u hu => ?_, q2⟩
        obtain ⟨a1, a2, a3, a4⟩ := q1 u hu
        refine ⟨a1, a2, a3, ?_⟩
        rw [hb16 u _ hu, hpT n' u hn', a4, Int.toNat_of_nonneg hn'.1]
        constructor
        · rintro ((t | t) | t)
          · exact Or.inl t
          · exact Or.inr (Or.inl t)
          · exact Or.inr (Or.inr t)
        · rintro (t | t | t)
          · exact Or.inl (Or.inl t)
          · exact Or.inl (Or.inr t)
          · exact Or.inr t
      · intro u hu
        rw [f 17 (by decide) (by decide) (by decide)]
        exact ⟨hv16 u hu, (w4 u hu).2⟩
      · rw [f 15 (by decide) (by decide) (by decide)]; exact w5
      · rw [f 6 (by decide) (by decide) (by decide), f 7 (by decide) (by decide) (by decide)]; exact w6
      · rw [f 47 (by decide) (by decide) (by decide)]; exact w8
      · unfold dimM fld
        rw [gg 54 (by decide) (by decide) (by decide) (by decide)]
        exact s1
      · rw [gg 54 (by decide) (by decide) (by decide) (by decide), gg 55 (by decide) (by decide) (by decide) (by decide), f 6 (by decide) (by decide) (by decide), f 7 (by decide) (by decide) (by decide)]
        exact s2
      · rw [gg 54 (by decide) (by decide) (by decide) (by decide), f 9 (by decide) (by decide) (by decide), gg 56 (by decide) (by decide) (by decide) (by decide), gg 57 (by decide) (by decide) (by decide) (by decide), gg 58 (by decide) (by decide) (by decide) (by decide), gg 59 (by decide) (by decide) (by decide) (by decide), gg 60 (by decide) (by decide) (by decide) (by decide), f 10 (by decide) (by decide) (by decide)]
        exact s3
      · rw [gg 54 (by decide) (by decide) (by decide) (by decide), f 9 (by decide) (by decide) (by decide), gg 61 (by decide) (by decide) (by decide) (by decide), f 11 (by decide) (by decide) (by decide)]
        exact s5
      · intro n' hn'
        obtain ⟨t1, t2, t3⟩ := s7 n' hn'
        have hc' := hcnt n' hn'
        rw [gg 62 (by decide) (by decide) (by decide) (by decide), f 12 (by decide) (by decide) (by decide), g63, f13]
        refine ⟨t1, ?_, fun p hp => ?_⟩
        · by_cases e : n' = n
          · rw [if_pos e, if_pos e]
          · rw [if_neg e, if_neg e]; exact t2
        · rw [g64, f14]
          by_cases e : n' = n
          · rw [if_pos e] at hp
            subst e
            by_cases ep : p = m 13 n'
            · rw [if_pos (by rw [ep]), if_pos (by rw [ep])]
            · rw [if_neg (by omega), if_neg (by omega)]; exact t3 p (by omega)
          · rw [if_neg e] at hp
            rw [if_neg (by omega), if_neg (by omega)]; exact t3 p hp
      · rw [gg 71 (by decide) (by decide) (by decide) (by decide), f 15 (by decide) (by decide) (by decide)]
        exact s8
      · rw [gg 88 (by decide) (by decide) (by decide) (by decide), f 47 (by decide) (by decide) (by decide)]
        exact s9
      · obtain ⟨b1, b2, b3, b4, b5, b6⟩ := hn n' hn'
        unfold RRn
        rw [gg 65 (by decide) (by decide) (by decide) (by decide), gg 66 (by decide) (by decide) (by decide) (by decide), gg 67 (by decide) (by decide) (by decide) (by decide), gg 68 (by decide) (by decide) (by decide) (by decide), gg 69 (by decide) (by decide) (by decide) (by decide), gg 70 (by decide) (by decide) (by decide) (by decide), f 17 (by decide) (by decide) (by decide), f 18 (by decide) (by decide) (by decide), f 19 (by decide) (by decide) (by decide)]
        refine ⟨b1, b2, b3, ⟨fun t => b4.1 ?_, fun t => ?_⟩, fun u hu => ?_, fun j hj hnj => ?_⟩
        · rw [f13] at t
          by_cases e : n' = n
          · rw [if_pos e] at t; rw [e]; omega
          · rw [if_neg e] at t; exact t
        · rw [f13] at t
          by_cases e : n' = n
          · rw [if_pos e] at t
            have h0 := b4.1 (by rw [e]; omega)
            rw [h0]
            exact ⟨fun z => absurd z (by decide), fun i a b => by omega, fun i j hij => by omega, fun i hi => by omega⟩
          · rw [if_neg e] at t
            have h0 := b4.2 t
            rw [f14, if_neg (by omega)]
            exact h0
        · have hu' := cR_geo hD hu
          have a5 := b5 u hu
          rw [g72]
          by_cases e : n' = n
          · by_cases e2 : u = q
            · rw [e, e2, if_pos rfl]
              rw [e, e2] at a5
              have v := or1_v4 a5.1
              refine ⟨v.1, ?_, by rw [v.2.2]; exact a5.2.2⟩
              rw [v.2.1, hb16 q _ hx]
              exact ⟨fun _ => Or.inr ⟨en, rfl⟩, fun _ => rfl⟩
            · rw [if_neg (fun t => e2 (cR_inj hD hu hx (by rw [e] at t; omega)))]
              refine ⟨a5.1, ?_, a5.2.2⟩
              rw [a5.2.1, hb16 u _ hu]
              exact ⟨Or.inl, fun t => t.elim id (fun t => absurd t.2 e2)⟩
          · rw [if_neg (by omega)]
            refine ⟨a5.1, ?_, a5.2.2⟩
            rw [a5.2.1, hb16 u _ hu, Int.toNat_of_nonneg hn'.1]
            exact ⟨Or.inl, fun t => t.elim id (fun t => absurd t.1 e)⟩
        · rw [g72]
          by_cases e : n' = n ∧ j = cR w d q
          · exact absurd (cR_in hD hx).1 (by rw [← e.2]; exact hnj)
          · rw [if_neg (by omega)]; exact b6 j hj hnj
      · rw [gg 54 (by decide) (by decide) (by decide) (by decide)]; exact r28
      · rw [gg 54 (by decide) (by decide) (by decide) (by decide)]; exact r30
    · exact absurd h h2
  · refine ⟨-1, rfl, kCall_mono (c_X12_pin X m1 m1 hD (WF_WM hW) (RR_0 hR) n x y z) (Nat.le_refl _) ?_⟩
    rintro _ m2 (⟨h2, -⟩ | ⟨-, rfl, rfl⟩)
    · exact absurd h2 h
    · exact ⟨rfl, hI⟩
