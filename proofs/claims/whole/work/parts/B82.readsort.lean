/-! FAULT alike -/
theorem seen_step : ∀ (a : Fin 32) (k : Fin 5), bt (a.val : Int) k.val = false → (0 ≤ kor (a.val : Int) (kshl 1 (k.val : Int)) ∧ kor (a.val : Int) (kshl 1 (k.val : Int)) < 32) ∧ pop (kor (a.val : Int) (kshl 1 (k.val : Int))) = pop (a.val : Int) + 1 := by decide +kernel
theorem setF_pop {g : Int → Int} {n L sn i : Int} {st : Int → Int} (hsn : 0 ≤ sn ∧ sn < 32) (h : (setF g n L sn st i).1 = 1) : (0 ≤ (setF g n L sn st i).2.2.1 ∧ (setF g n L sn st i).2.2.1 < 32) ∧ pop (setF g n L sn st i).2.2.1 = pop sn + 1 := by
  unfold setF at h ⊢
  have hk := kdA_in (g (skp g n i))
  by_cases h1 : kdA (g (skp g n i)) = -1 ∨ bt sn (kdA (g (skp g n i))).toNat = true
  · rw [if_pos h1] at h
    exact absurd h (by show ¬ (0 : Int) = 1; decide)
  · rw [if_neg h1] at h ⊢
    have hbt : bt sn (kdA (g (skp g n i))).toNat = false := by
      cases e : bt sn (kdA (g (skp g n i))).toNat
      · rfl
      · exact absurd (Or.inr e) h1
    have hk0 : 0 ≤ kdA (g (skp g n i)) := by
      have : kdA (g (skp g n i)) ≠ -1 := fun q => h1 (Or.inl q)
      omega
    have hss := seen_step ⟨sn.toNat, by omega⟩ ⟨(kdA (g (skp g n i))).toNat, by omega⟩
    simp only [Int.toNat_of_nonneg hsn.1, Int.toNat_of_nonneg hk0] at hss
    have hss := hss hbt
    by_cases h2 : kdA (g (skp g n i)) = 4
    · rw [if_pos h2]
      rw [h2] at hss
      exact hss
    · rw [if_neg h2]
      exact hss
def stOK (st : Int → Int) : Prop := (1 ≤ st 0 ∧ st 0 ≤ 9) ∧ (0 ≤ st 1 ∧ st 1 ≤ 99) ∧ (0 ≤ st 2 ∧ st 2 ≤ 99) ∧ (0 ≤ st 3 ∧ st 3 ≤ 2) ∧ (0 ≤ st 4 ∧ st 4 < 16)
theorem setF_ok {g : Int → Int} {n L sn i : Int} {st : Int → Int} (hg : TPE g n) (hL : 1 ≤ L ∧ L ≤ 4) (hi : i ≤ n) (hst : stOK st) (h : (setF g n L sn st i).1 = 1) : stOK (setF g n L sn st i).2.2.2 := by
  have hp := skp_in hg hi
  obtain ⟨b0, b1, b2, b3, b4⟩ := id hst
  unfold setF at h ⊢
  have hk := kdA_in (g (skp g n i))
  by_cases h1 : kdA (g (skp g n i)) = -1 ∨ bt sn (kdA (g (skp g n i))).toNat = true
  · rw [if_pos h1]; exact hst
  · rw [if_neg h1] at h ⊢
    have hlt := kd_lt hg (fun q => h1 (Or.inl q))
    have hp2 := skp_in hg (i := skp g n i + 1) (by omega)
    have hk0 : kdA (g (skp g n i)) ≠ -1 := fun q => h1 (Or.inl q)
    by_cases h2 : kdA (g (skp g n i)) = 4
    · rw [if_pos h2]
      have := (layF_in hg hL 80 0 (skp g n (skp g n i + 1)) (by decide) hp2.1.2).2.2
      exact ⟨b0, b1, b2, b3, this⟩
    · rw [if_neg h2] at h ⊢
      have hr := (numF_in (lo := leaF (kdA (g (skp g n i)))) (hi := mosF (kdA (g (skp g n i)))) hg hp2.1.2).2.2 h
      obtain ⟨v, hv⟩ : ∃ v, v = (numF g (leaF (kdA (g (skp g n i)))) (mosF (kdA (g (skp g n i)))) (skp g n (skp g n i + 1))).2.2 := ⟨_, rfl⟩
      rw [← hv] at hr
      show stOK (fun x => if x = kdA (g (skp g n i)) then (numF g (leaF (kdA (g (skp g n i)))) (mosF (kdA (g (skp g n i)))) (skp g n (skp g n i + 1))).2.2 else st x)
      rw [← hv]
      have hcase : kdA (g (skp g n i)) = 0 ∨ kdA (g (skp g n i)) = 1 ∨ kdA (g (skp g n i)) = 2 ∨ kdA (g (skp g n i)) = 3 := by omega
      rcases hcase with e | e | e | e <;> rw [e] at hr ⊢
      · exact ⟨hr, b1, b2, b3, b4⟩
      · exact ⟨b0, hr, b2, b3, b4⟩
      · exact ⟨b0, b1, hr, b3, b4⟩
      · exact ⟨b0, b1, b2, hr, b4⟩
theorem scF_ok {g : Int → Int} {n L : Int} (hg : TPE g n) (hL : 1 ≤ L ∧ L ≤ 4) : ∀ (k : Nat) (sn i : Int) (st : Int → Int), (0 ≤ i ∧ i ≤ n) → stOK st → (scF g n L k sn st i).1 = -1 → stOK (scF g n L k sn st i).2 := by
  intro k
  induction k with
  | zero => intro sn i st hi hst h; exact hst
  | succ k ih =>
    intro sn i st hi hst h
    have hSin := setF_in (sn := sn) (st := st) hg hL hi
    unfold scF at h ⊢
    by_cases h1 : (setF g n L sn st i).1 = 0
    · rw [if_pos h1]; exact hst
    · rw [if_neg h1] at h ⊢
      have hok := setF_ok hg hL hi.2 hst (hSin.1.resolve_left h1)
      have hp := skp_in hg hSin.2.2
      by_cases h2 : n ≤ skp g n (setF g n L sn st i).2.1
      · rw [if_pos h2]; exact hok
      · rw [if_neg h2] at h ⊢
        by_cases h3 : g (skp g n (setF g n L sn st i).2.1) ≠ 44
        · rw [if_pos h3]; exact hst
        · rw [if_neg h3] at h ⊢
          exact ih _ _ _ (by omega) hok h
theorem st0_ok {L : Int} (hL : 1 ≤ L ∧ L ≤ 4) : stOK (st0 L) := by
  have : ∀ j : Fin 5, 0 ≤ kshl 1 (j.val : Int) - 1 ∧ kshl 1 (j.val : Int) - 1 < 16 := by decide +kernel
  have h := this ⟨L.toNat, by omega⟩
  simp only [Int.toNat_of_nonneg (show 0 ≤ L by omega)] at h
  exact ⟨(by show (1 : Int) ≤ 1 ∧ (1 : Int) ≤ 9; decide), (by show (0 : Int) ≤ 5 ∧ (5 : Int) ≤ 99; decide), (by show (0 : Int) ≤ 0 ∧ (0 : Int) ≤ 99; decide), (by show (0 : Int) ≤ 0 ∧ (0 : Int) ≤ 2; decide), h⟩
set_option maxRecDepth 100000 in
theorem c_X12_readSort (X : Xv) (m : Mem) {g : Int → Int} {n L : Int} (hg : TPE g n) (hL : 1 ≤ L ∧ L ≤ 4) (hC : RT g n L m) (s : Int) (hs7 : 0 ≤ s ∧ s < 7) : kCall (eX X) 5 M_X12_readSort.1 [vR 54, vI s] m (fun r m' => r = some (vI (scF g n L 6 0 (st0 L) 0).1) ∧ rtS s m m' ∧ ((scF g n L 6 0 (st0 L) 0).1 = -1 → R5 m' s (scF g n L 6 0 (st0 L) 0).2)) := by
  have hn := hg.1
  have hs7' : 0 ≤ s ∧ s < ((7 : Nat) : Int) := hs7
  obtain ⟨R, hR⟩ : ∃ R, R = scF g n L 6 0 (st0 L) 0 := ⟨_, rfl⟩
  rw [← hR]
  refine kCall_ofT ok_X12_readSort rfl (Nat.le_of_ble_eq_true rfl) (fun T hT => ?_)
  have three : ∀ mm : Mem, rtS s m mm → mm 54 7 = R.1 → (R.1 = -1 → R5 mm s R.2) → kW (eX X) 4 M_X12_readSort T 3 [some (vR 54), some (vI s)] [] mm := by
    intro mm hs f7 h5
    refine kW_go ok_X12_readSort [] 20 ?_
    show T (some (vI (mm 54 7))) mm
    exact hT _ _ ⟨by rw [f7], hs, h5⟩
  have hR5 : ∀ {a b : Mem} {st : Int → Int}, (∀ o, o ≠ 54 → b o = a o) → R5 a s st → R5 b s st := by
    intro a b st h h5
    unfold R5
    rw [h 56 (by decide), h 57 (by decide), h 58 (by decide), h 59 (by decide), h 60 (by decide)]
    exact h5
  have loop : ∀ (k : Nat) (sn i : Int) (st : Int → Int) (mm : Mem), (0 ≤ sn ∧ sn < 32) → pop sn + (k + 1 : Nat) = 6 → (0 ≤ i ∧ i ≤ n) → rtS s m mm → rdE (setF g n L sn st i).1 (setF g n L sn st i).2.1 mm → ((setF g n L sn st i).1 = 1 → mm 54 14 = (setF g n L sn st i).2.2.1 ∧ R5 mm s (setF g n L sn st i).2.2.2) → scF g n L (k + 1) sn st i = R → kW (eX X) 4 M_X12_readSort T 1 [some (vR 54), some (vI s)] [] mm := by
    intro k
    induction k with
    | zero =>
      intro sn i st mm hsn hpop hi hs hrd hok hRR
      have hSin := setF_in (sn := sn) (st := st) hg hL hi
      obtain ⟨S, hS⟩ : ∃ S, S = setF g n L sn st i := ⟨_, rfl⟩
      have hS1 : S.1 ≠ 1 := by
        intro q
        rw [hS] at q
        have := (setF_pop hsn q)
        have h31 : ∀ a : Fin 32, pop (a.val : Int) ≤ 5 := by decide +kernel
        have := h31 ⟨(setF g n L sn st i).2.2.1.toNat, by omega⟩
        simp only [Int.toNat_of_nonneg (show 0 ≤ (setF g n L sn st i).2.2.1 by omega)] at this
        omega
      rw [← hS] at hSin hrd hok
      have hS0 : S.1 = 0 := hSin.1.resolve_right hS1
      have hRv : R = (S.2.1, st) := by
        rw [← hRR]
        show (if (setF g n L sn st i).1 = 0 then ((setF g n L sn st i).2.1, st) else _) = _
        rw [← hS, if_pos hS0]
      have f7 := hrd.2 hS0
      refine kW_go ok_X12_readSort [2] 20 ?_
      refine And.intro (fun h => ?_) (fun h => ?_)
      · have hgo : kW (eX X) 4 M_X12_readSort T 2 [some (vR 54), some (vI s)] [] mm := by
          refine kW_go ok_X12_readSort [3] 20 ?_
          refine And.intro (fun _ => three mm hs (by rw [f7, hRv]) (fun q => by rw [hRv] at q; have q : S.2.1 = -1 := q; omega)) (fun h2 => absurd h2 h)
        exact hgo
      · have h : mm 54 7 = -1 := h
        omega
    | succ k ih =>
      intro sn i st mm hsn hpop hi hs hrd hok hRR
      have hSin := setF_in (sn := sn) (st := st) hg hL hi
      have hSp := setF_pop (g := g) (n := n) (L := L) (i := i) (st := st) hsn
      obtain ⟨S, hS⟩ : ∃ S, S = setF g n L sn st i := ⟨_, rfl⟩
      rw [← hS] at hSin hrd hok hSp
      have hRv : R = if S.1 = 0 then (S.2.1, st) else if n ≤ skp g n S.2.1 then (-1, S.2.2.2) else if g (skp g n S.2.1) ≠ 44 then (skp g n S.2.1, st) else scF g n L (k + 1) S.2.2.1 S.2.2.2 (skp g n S.2.1 + 1) := by
        rw [← hRR, hS]
        rfl
      rcases hSin.1 with hS0 | hS1
      · rw [if_pos hS0] at hRv
        have f7 := hrd.2 hS0
        refine kW_go ok_X12_readSort [2] 20 ?_
        refine And.intro (fun h => ?_) (fun h => ?_)
        · have hgo : kW (eX X) 4 M_X12_readSort T 2 [some (vR 54), some (vI s)] [] mm := by
            refine kW_go ok_X12_readSort [3] 20 ?_
            refine And.intro (fun _ => three mm hs (by rw [f7, hRv]) (fun q => by rw [hRv] at q; have q : S.2.1 = -1 := q; omega)) (fun h2 => absurd h2 h)
          exact hgo
        · have h : mm 54 7 = -1 := h
          omega
      · rw [if_neg (by omega)] at hRv
        obtain ⟨f7, f6⟩ := hrd.1 hS1
        obtain ⟨f14, f5⟩ := hok hS1
        obtain ⟨hsn2, hpop2⟩ := hSp hS1
        have hp := skp_in hg hSin.2.2
        obtain ⟨p, hpp⟩ : ∃ p, p = skp g n S.2.1 := ⟨_, rfl⟩
        rw [← hpp] at hp hRv
        refine kW_go ok_X12_readSort [1, 2] 20 ?_
        refine And.intro (fun h => absurd f7 h) (fun _ => ?_)
        refine kCall_mono (c_X12_look X mm hg (RT_s hC hs) S.2.1 f6 hSin.2) (Nat.le_of_ble_eq_true rfl) ?_
        rw [← hpp]
        rintro _ m1 ⟨rfl, q1, q2, q3⟩
        have s1 : rtS s m m1 := rtS_tr hs ⟨fun o a _ => q1 o a, fun o a b j _ => by rw [q1 o (by omega)], fun f a _ _ => q2 f a⟩
        have g7 : m1 54 7 = -1 := by rw [q2 7 (by decide)]; exact f7
        have g14 : m1 54 14 = S.2.2.1 := by rw [q2 14 (by decide)]; exact f14
        have g5 : R5 m1 s S.2.2.2 := hR5 q1 f5
        refine And.intro (fun h3 => ?_) (fun h3 => ?_)
        · have h3 : ¬ g p = 44 := h3
          have hgo : kW (eX X) 4 M_X12_readSort T 2 [some (vR 54), some (vI s)] [] m1 := by
            refine kW_go ok_X12_readSort [3] 20 ?_
            refine And.intro (fun h => absurd g7 h) (fun _ => ?_)
            refine kCall_mono (c_X12_look X m1 hg (RT_s hC s1) p q3 (by omega)) (Nat.le_of_ble_eq_true rfl) ?_
            rw [skp_e hp.2]
            rintro _ m2 ⟨rfl, r1, r2, r3⟩
            have s2 : rtS s m m2 := rtS_tr s1 ⟨fun o a _ => r1 o a, fun o a b j _ => by rw [r1 o (by omega)], fun f a _ _ => r2 f a⟩
            have t7 : m2 54 7 = -1 := by rw [r2 7 (by decide)]; exact g7
            refine And.intro (fun h4 => ?_) (fun h4 => ?_)
            · have h4 : g p = -1 := h4
              have hnp : n ≤ p := Int.not_lt.mp (fun q => by have := hg.2.2 p ⟨by omega, q⟩; omega)
              rw [if_pos hnp] at hRv
              exact three m2 s2 (by rw [t7, hRv]) (fun _ => by rw [hRv]; exact hR5 r1 g5)
            · have h4 : ¬ g p = -1 := h4
              have hnp : ¬ n ≤ p := fun q => h4 (hg.2.1 p q)
              rw [if_neg hnp, if_pos h3] at hRv
              refine kCall_mono (c_X12_bad X m2) (Nat.le_of_ble_eq_true rfl) ?_
              rintro _ m3 ⟨rfl, rfl⟩
              exact three _ (rtS_tr s2 (rtS_54 (by omega))) (by rw [k_mset_at, if_pos rfl, if_pos t7, r3, hRv]) (fun q => by rw [hRv] at q; have q : p = -1 := q; omega)
          exact hgo
        · have h3 : g p = 44 := h3
          have hnp : p < n := Int.not_le.mp (fun q => by have := hg.2.1 p q; omega)
          rw [if_neg (by omega), if_neg (fun q => q h3)] at hRv
          have s2 : rtS s m (mset m1 54 6 (p + 1)) := rtS_tr s1 (rtS_54 (by omega))
          show inR (m1 54 6 + 1) ∧ kCall (eX X) 4 192 [vR 54, vI s] (mset m1 54 6 (m1 54 6 + 1)) _
          rw [q3]
          refine ⟨by constructor <;> omega, ?_⟩
          refine kCall_mono (c_X12_setting X _ hg hL (RT_s hC s2) s S.2.2.1 (p + 1) S.2.2.2 hs7 (by rw [k_mset_at, if_pos rfl]) (by rw [k_mset_at, if_neg (by decide)]; exact g7) (by rw [k_mset_at, if_neg (by decide)]; exact g14) (hR5 (fun o ho => k_mset_ne ho) g5) (by omega)) (Nat.le_of_ble_eq_true rfl) ?_
          rintro _ m3 ⟨rfl, t1, t2, t3⟩
          exact ih S.2.2.1 (p + 1) S.2.2.2 m3 hsn2 (by omega) (by omega) (rtS_tr s2 t1) t2 t3 hRv.symm
  obtain ⟨m0, hm0⟩ : ∃ m0, m0 = mset (mset (mset (mset (mset (mset (mset (mset m 54 6 0) 54 7 (-1)) 54 14 0) 56 s 1) 57 s 5) 58 s 0) 59 s 0) 60 s (kshl 1 L - 1) := ⟨_, rfl⟩
  have s0 : rtS s m m0 := by
    rw [hm0]
    exact rtS_tr (rtS_tr (rtS_tr (rtS_tr (rtS_tr (rtS_tr (rtS_tr (rtS_54 (by omega)) (rtS_54 (by omega))) (rtS_54 (by omega))) (rtS_st (by decide))) (rtS_st (by decide))) (rtS_st (by decide))) (rtS_st (by decide))) (rtS_st (by decide))
  have hmk := k_msk_in (l := L) (by omega) (by omega)
  have e3 : m 54 3 = L := hC.1
  refine kW_go ok_X12_readSort [1] 20 ?_
  refine ⟨hs7', hs7', hs7', hs7', ?_⟩
  show inR (kshl 1 (m 54 3) - 1) ∧ (0 ≤ s ∧ s < ((7 : Nat) : Int)) ∧ kCall (eX X) 4 192 [vR 54, vI s] (mset (mset (mset (mset (mset (mset (mset (mset m 54 6 0) 54 7 (-1)) 54 14 0) 56 s 1) 57 s 5) 58 s 0) 59 s 0) 60 s (kshl 1 (m 54 3) - 1)) _
  rw [e3, ← hm0]
  refine ⟨by constructor <;> omega, hs7', ?_⟩
  have h5 : R5 m0 s (st0 L) := by
    rw [hm0]
    unfold R5
    refine ⟨?_, ?_, ?_, ?_, ?_⟩
    · rw [k_mset_ne (by decide), k_mset_ne (by decide), k_mset_ne (by decide), k_mset_ne (by decide), k_mset_at, if_pos rfl]; rfl
    · rw [k_mset_ne (by decide), k_mset_ne (by decide), k_mset_ne (by decide), k_mset_at, if_pos rfl]; rfl
    · rw [k_mset_ne (by decide), k_mset_ne (by decide), k_mset_at, if_pos rfl]; rfl
    · rw [k_mset_ne (by decide), k_mset_at, if_pos rfl]; rfl
    · rw [k_mset_at, if_pos rfl]; rfl
  refine kCall_mono (c_X12_setting X m0 hg hL (RT_s hC s0) s 0 0 (st0 L) hs7 (by rw [hm0]; rfl) (by rw [hm0]; rfl) (by rw [hm0]; rfl) h5 (by omega)) (Nat.le_of_ble_eq_true rfl) ?_
  rintro _ m3 ⟨rfl, t1, t2, t3⟩
  exact loop 5 0 0 (st0 L) m3 (by decide) (by rw [pop_0]; rfl) (by omega) (rtS_tr s0 t1) t2 t3 hR.symm
