/-! FAULT, SORT: the reference's settings -/
theorem rdE_01 {ok p : Int} {m : Mem} (h : ok = 0) (h7 : m 54 7 = p) : rdE ok p m := ⟨fun q => by omega, fun _ => h7⟩
theorem c_X12_readLayers (X : Xv) (m : Mem) {g : Int → Int} {n L : Int} (hg : TPE g n) (hL : 1 ≤ L ∧ L ≤ 4) (hC : RT g n L m) (s i : Int) (hs7 : 0 ≤ s ∧ s < 7) (h6 : m 54 6 = i) (h7 : m 54 7 = -1) (hi : 0 ≤ i ∧ i ≤ n) : kCall (eX X) 3 M_X12_readLayers.1 [vR 54, vI s] m (fun r m' => r = none ∧ rtS s m m' ∧ m' 54 14 = m 54 14 ∧ (∀ o, o ≠ 54 → o ≠ 60 → m' o = m o) ∧ rdE (layF g n L 80 0 (skp g n i)).1 (layF g n L 80 0 (skp g n i)).2.1 m' ∧ ((layF g n L 80 0 (skp g n i)).1 = 1 → m' 60 s = (layF g n L 80 0 (skp g n i)).2.2)) := by
  have hn := hg.1
  have hs7' : 0 ≤ s ∧ s < ((7 : Nat) : Int) := hs7
  refine kCall_ofT ok_X12_readLayers rfl (Nat.le_of_ble_eq_true rfl) (fun T hT => ?_)
  obtain ⟨R, hR⟩ : ∃ R, R = layF g n L 80 0 (skp g n i) := ⟨_, rfl⟩
  rw [← hR] at hT
  have five : ∀ (bits j : Int) (x3 : Option AV) (mm : Mem), (0 ≤ bits ∧ bits < 16) → rtS s m mm → (∀ o, o ≠ 54 → o ≠ 60 → mm o = m o) → mm 54 14 = m 54 14 → (mm 54 7 = -1 ∧ mm 54 6 = j ∧ R = ((if bits = 0 then 0 else 1), j, bits) ∨ (mm 54 7 ≠ -1 ∧ R.1 = 0 ∧ mm 54 7 = R.2.1)) → kW (eX X) 2 M_X12_readLayers T 5 [some (vR 54), some (vI s), some (vI bits), x3] [] mm := by
    intro bits j x3 mm hb hs hf f14 hcase
    have six : ∀ m2 : Mem, rtS s m m2 → (∀ o, o ≠ 54 → o ≠ 60 → m2 o = m o) → m2 54 14 = m 54 14 → rdE R.1 R.2.1 m2 → (R.1 = 1 → bits = R.2.2) → kW (eX X) 2 M_X12_readLayers T 6 [some (vR 54), some (vI s), some (vI bits), x3] [] m2 := by
      intro m2 hs2 hf2 f142 hr hv
      refine kW_go ok_X12_readLayers [] 20 ?_
      refine ⟨hs7', hT _ _ ⟨rfl, rtS_tr hs2 (rtS_st (by decide)), by rw [k_mset_ne (by decide)]; exact f142, fun o a b => by rw [k_mset_ne b]; exact hf2 o a b, ⟨fun q => ?_, fun q => ?_⟩, fun q => by rw [k_mset_at, if_pos rfl]; exact hv q⟩⟩
      · rw [k_mset_ne (by decide)]; exact hr.1 q
      · rw [k_mset_ne (by decide)]; exact hr.2 q
    refine kW_go ok_X12_readLayers [6] 20 ?_
    rcases hcase with ⟨f7, f6, hRv⟩ | ⟨f7, hR0, hRp⟩
    · refine And.intro (fun h => ?_) (fun h => ?_)
      · have h : ¬ bits = 0 := h
        rw [if_neg h] at hRv
        exact six mm hs hf f14 (by rw [hRv]; exact ⟨fun _ => ⟨f7, f6⟩, fun q => absurd q (by show ¬ (1 : Int) = 0; decide)⟩) (fun _ => by rw [hRv])
      · have h : bits = 0 := h
        rw [if_pos h] at hRv
        refine kCall_mono (c_X12_bad X mm) (Nat.le_of_ble_eq_true rfl) ?_
        rintro _ m2 ⟨rfl, rfl⟩
        exact six _ (rtS_tr hs (rtS_54 (by omega))) (fun o a b => by rw [k_mset_ne a]; exact hf o a b) (by rw [k_mset_at, if_neg (by decide)]; exact f14) (rdE_01 (by rw [hRv]) (by rw [k_mset_at, if_pos rfl, if_pos f7, hRv]; exact f6)) (fun q => by rw [hRv] at q; exact absurd q (by show ¬ (0 : Int) = 1; decide))
    · refine And.intro (fun h => six mm hs hf f14 (rdE_01 hR0 hRp) (fun q => by omega)) (fun h => ?_)
      refine kCall_mono (c_X12_bad X mm) (Nat.le_of_ble_eq_true rfl) ?_
      rintro _ m2 ⟨rfl, rfl⟩
      exact six _ (rtS_tr hs (rtS_54 (by omega))) (fun o a b => by rw [k_mset_ne a]; exact hf o a b) (by rw [k_mset_at, if_neg (by decide)]; exact f14) (rdE_01 hR0 (by rw [k_mset_at, if_pos rfl, if_neg f7]; exact hRp)) (fun q => by omega)
  have loop : ∀ (k : Nat) (bits j : Int) (mm : Mem) (x3 : Option AV), n - skp g n j ≤ k → (0 ≤ bits ∧ bits < 16) → (0 ≤ j ∧ j ≤ n) → rtS s m mm → (∀ o, o ≠ 54 → o ≠ 60 → mm o = m o) → mm 54 14 = m 54 14 → mm 54 7 = -1 → mm 54 6 = j → layF g n L k bits (skp g n j) = R → kW (eX X) 2 M_X12_readLayers T 1 [some (vR 54), some (vI s), some (vI bits), x3] [] mm := by
    intro k
    induction k with
    | zero =>
      intro bits j mm x3 hk hb hj hs hf f14 f7 f6 hRR
      have hp := skp_in hg (i := j) hj.2
      have hdg : dgV (g (skp g n j)) = -1 := by rw [hg.2.1 _ (by omega)]; rfl
      refine kW_go ok_X12_readLayers [5] 20 ?_
      refine And.intro (fun h => absurd f7 h) (fun _ => ?_)
      refine kCall_mono (c_X12_look X mm hg (RT_s hC hs) j f6 hj) (Nat.le_of_ble_eq_true rfl) ?_
      rintro _ m1 ⟨rfl, q1, q2, q3⟩
      refine kCall_mono (c_X12_isDigit X m1 _) (Nat.le_of_ble_eq_true rfl) ?_
      rintro _ m2 ⟨⟨hh, rfl⟩ | ⟨hh, rfl⟩, rfl⟩
      · exact absurd hdg hh
      · refine And.intro (fun _ => ?_) (fun h => absurd rfl h)
        exact five bits (skp g n j) _ m2 hb (rtS_tr hs ⟨fun o a _ => q1 o a, fun o a b j _ => by rw [q1 o (by omega)], fun f a _ _ => q2 f a⟩) (fun o a b => by rw [q1 o a]; exact hf o a b) (by rw [q2 14 (by decide)]; exact f14) (Or.inl ⟨by rw [q2 7 (by decide)]; exact f7, q3, hRR.symm⟩)
    | succ k ih =>
      intro bits j mm x3 hk hb hj hs hf f14 f7 f6 hRR
      have hp := skp_in hg (i := j) hj.2
      obtain ⟨p, hpp⟩ : ∃ p, p = skp g n j := ⟨_, rfl⟩
      rw [← hpp] at hp hk hRR
      have hd := dgV_in (g p)
      unfold layF at hRR
      refine kW_go ok_X12_readLayers [2, 3, 5] 20 ?_
      refine And.intro (fun h => absurd f7 h) (fun _ => ?_)
      refine kCall_mono (c_X12_look X mm hg (RT_s hC hs) j f6 hj) (Nat.le_of_ble_eq_true rfl) ?_
      rw [← hpp]
      rintro _ m1 ⟨rfl, q1, q2, q3⟩
      have s1 : rtS s m m1 := rtS_tr hs ⟨fun o a _ => q1 o a, fun o a b j _ => by rw [q1 o (by omega)], fun f a _ _ => q2 f a⟩
      have g7 : m1 54 7 = -1 := by rw [q2 7 (by decide)]; exact f7
      have g14 : m1 54 14 = m 54 14 := by rw [q2 14 (by decide)]; exact f14
      have gf : ∀ o, o ≠ 54 → o ≠ 60 → m1 o = m o := fun o a b => by rw [q1 o a]; exact hf o a b
      refine kCall_mono (c_X12_isDigit X m1 (g p)) (Nat.le_of_ble_eq_true rfl) ?_
      rintro _ m2 ⟨⟨hh, rfl⟩ | ⟨hh, rfl⟩, rfl⟩
      rotate_left
      · have hh : dgV (g p) = -1 := Classical.byContradiction hh
        rw [if_pos hh] at hRR
        refine And.intro (fun _ => ?_) (fun h => absurd rfl h)
        exact five bits p _ m2 hb s1 gf g14 (Or.inl ⟨g7, q3, hRR.symm⟩)
      have h1 : ¬ dgV (g p) = -1 := hh
      have hlt := dg_lt hg h1
      rw [if_neg h1] at hRR
      have hgp : g p - 48 = dgV (g p) := by
        unfold dgV at h1 ⊢
        split at h1
        · rename_i e; rw [if_pos e]
        · exact absurd rfl h1
      have e3 : fld m2 54 3 = L := (RT_s hC s1).1
      have bad : (L ≤ dgV (g p) ∨ bt bits (dgV (g p)).toNat = true) → kW (eX X) 2 M_X12_readLayers T 2 [some (vR 54), some (vI s), some (vI bits), some (vI (dgV (g p)))] [] m2 := by
        intro h
        rw [if_pos h] at hRR
        refine kW_go ok_X12_readLayers [1] 20 ?_
        refine kCall_mono (c_X12_bad X m2) (Nat.le_of_ble_eq_true rfl) ?_
        rintro _ m3 ⟨rfl, rfl⟩
        have w7 : mset m2 54 7 (if m2 54 7 = -1 then m2 54 6 else m2 54 7) 54 7 = p := by rw [k_mset_at, if_pos rfl, if_pos g7]; exact q3
        have hgo : kW (eX X) 2 M_X12_readLayers T 1 [some (vR 54), some (vI s), some (vI bits), some (vI (dgV (g p)))] [] (mset m2 54 7 (if m2 54 7 = -1 then m2 54 6 else m2 54 7)) := by
          refine kW_go ok_X12_readLayers [5] 20 ?_
          refine And.intro (fun _ => five bits p _ _ hb (rtS_tr s1 (rtS_54 (by omega))) (fun o a b => by rw [k_mset_ne a]; exact gf o a b) (by rw [k_mset_at, if_neg (by decide)]; exact g14) (Or.inr ⟨by rw [w7]; omega, by rw [← hRR], by rw [w7, ← hRR]⟩)) (fun h => ?_)
          have h : mset m2 54 7 (if m2 54 7 = -1 then m2 54 6 else m2 54 7) 54 7 = -1 := h
          rw [w7] at h
          omega
        exact hgo
      refine And.intro (fun h => absurd h (by decide)) (fun _ => ?_)
      refine kCall_mono (c_X12_here X m2 hg (RT_s hC s1) p q3 (by omega)) (Nat.le_of_ble_eq_true rfl) ?_
      rintro _ m3 ⟨rfl, rfl⟩
      refine ⟨by constructor <;> omega, ?_⟩
      rw [hgp]
      show (fld m3 54 3 ≤ dgV (g p) → kW (eX X) 2 M_X12_readLayers T 2 [some (vR 54), some (vI s), some (vI bits), some (vI (dgV (g p)))] [] m3) ∧ (dgV (g p) < fld m3 54 3 → (¬ kand (kshr bits (dgV (g p))) 1 = 1 → kW (eX X) 2 M_X12_readLayers T 3 [some (vR 54), some (vI s), some (vI bits), some (vI (dgV (g p)))] [] m3) ∧ (kand (kshr bits (dgV (g p))) 1 = 1 → kW (eX X) 2 M_X12_readLayers T 2 [some (vR 54), some (vI s), some (vI bits), some (vI (dgV (g p)))] [] m3))
      rw [e3]
      refine ⟨fun h => bad (Or.inl h), fun h => ⟨fun h2 => ?_, fun h2 => bad (Or.inr ((k_ask1 (by omega) (by omega)).mp h2))⟩⟩
      have hbt : ¬ bt bits (dgV (g p)).toNat = true := fun q => h2 ((k_ask1 (by omega) (by omega)).mpr q)
      rw [if_neg (fun q => q.elim (fun q => absurd h (by omega)) hbt)] at hRR
      have hst := lay_step ⟨bits.toNat, by omega⟩ ⟨(dgV (g p)).toNat, by omega⟩
      simp only [Int.toNat_of_nonneg hb.1, Int.toNat_of_nonneg (show 0 ≤ dgV (g p) by omega)] at hst
      have hp1 := skp_in hg (i := p + 1) (by omega)
      refine kW_go ok_X12_readLayers [1] 20 ?_
      show inR (m3 54 6 + 1) ∧ kW (eX X) 2 M_X12_readLayers T 1 [some (vR 54), some (vI s), some (vI (kor bits (kshl 1 (dgV (g p))))), some (vI (dgV (g p)))] [] (mset m3 54 6 (m3 54 6 + 1))
      rw [q3]
      exact ⟨by constructor <;> omega, ih _ (p + 1) _ _ (by omega) hst (by omega) (rtS_tr s1 (rtS_54 (by omega))) (fun o a b => by rw [k_mset_ne a]; exact gf o a b) (by rw [k_mset_at, if_neg (by decide)]; exact g14) (by rw [k_mset_at, if_neg (by decide)]; exact g7) (by rw [k_mset_at, if_pos rfl]) hRR⟩
  refine kW_go ok_X12_readLayers [1] 20 ?_
  have hp := skp_in hg (i := i) hi.2
  exact loop 80 0 i m none (by omega) (by decide) hi rtS_rf (fun _ _ _ => rfl) rfl h7 h6 hR.symm
theorem c_X12_letterAt (X : Xv) (m : Mem) (v : Int) : kCall (eX X) 1 M_X12_letterAt.1 [vR 54, vI v] m (cP (if kdA v = -1 then 0 else kshl 1 (kdA v)) m) := by
  refine kCall_ofT ok_X12_letterAt rfl (Nat.le_of_ble_eq_true rfl) (fun T hT => ?_)
  refine kW_go ok_X12_letterAt [] 20 ?_
  refine And.intro (fun h1 => And.intro (fun h2 => And.intro (fun h3 => And.intro (fun h4 => And.intro (fun h5 => hT _ _ ⟨?_, rfl⟩) (fun h5 => hT _ _ ⟨?_, rfl⟩)) (fun h4 => hT _ _ ⟨?_, rfl⟩)) (fun h3 => hT _ _ ⟨?_, rfl⟩)) (fun h2 => hT _ _ ⟨?_, rfl⟩)) (fun h1 => hT _ _ ⟨?_, rfl⟩)
  · have h1 : ¬ v = 115 := h1
    have h2 : ¬ v = 118 := h2
    have h3 : ¬ v = 98 := h3
    have h4 : ¬ v = 99 := h4
    have h5 : ¬ v = 108 := h5
    unfold kdA
    rw [if_neg h1, if_neg h2, if_neg h3, if_neg h4, if_neg h5]; rfl
  · have h5 : v = 108 := h5
    subst h5
    decide +kernel
  · have h4 : v = 99 := h4
    subst h4
    decide +kernel
  · have h3 : v = 98 := h3
    subst h3
    decide +kernel
  · have h2 : v = 118 := h2
    subst h2
    decide +kernel
  · have h1 : v = 115 := h1
    subst h1
    decide +kernel
