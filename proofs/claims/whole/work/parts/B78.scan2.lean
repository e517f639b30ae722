/-! FAULT, SORT: the class's scan, wholly -/
theorem c_X8_readLayers (X : Xv) (m : Mem) {g : Int → Int} {n L : Int} (hg : TPE g n) (hL : 1 ≤ L ∧ L ≤ 4) (hC : CT g n L m) (i : Int) (h4 : m 6 4 = i) (hi : 0 ≤ i ∧ i ≤ n) : kCall (eX X) 2 M_X8_readLayers.1 [vR 6] m (fun r m' => r = some (vI (layF g n L 80 0 i).1) ∧ tpS m m' ∧ m' 6 5 = m 6 5 ∧ m' 6 4 = (layF g n L 80 0 i).2.1 ∧ ((layF g n L 80 0 i).1 = 1 → ∀ x, m' 8 x = if x = 4 then (layF g n L 80 0 i).2.2 else m 8 x)) := by
  have hn := hg.1
  refine kCall_ofT ok_X8_readLayers rfl (Nat.le_of_ble_eq_true rfl) (fun T hT => ?_)
  obtain ⟨R, hR⟩ : ∃ R, R = layF g n L 80 0 i := ⟨_, rfl⟩
  rw [← hR] at hT
  have loop : ∀ (k : Nat) (t bits j : Int) (mm : Mem) (x3 : Option AV), t + k = 80 → 0 ≤ t → (0 ≤ bits ∧ bits < 16) → (0 ≤ j ∧ j ≤ n) → tpS m mm → mm 6 5 = m 6 5 → mm 8 = m 8 → mm 6 4 = j → layF g n L k bits j = R → kW (eX X) 1 M_X8_readLayers T 1 [some (vR 6), some (vI bits), some (vI t), x3] [] mm := by
    intro k
    induction k with
    | zero =>
      intro t bits j mm x3 hk ht hb hj hs e5 e8 e4 hRR
      have five : (R = ((if bits = 0 then 0 else 1), j, bits)) → kW (eX X) 1 M_X8_readLayers T 5 [some (vR 6), some (vI bits), some (vI t), x3] [] mm := by
        intro hRv
        refine kW_go ok_X8_readLayers [] 20 ?_
        refine ⟨by decide, And.intro (fun h => ?_) (fun h => ?_)⟩
        · rw [if_pos h] at hRv
          exact hT _ _ ⟨Or.inl rfl, by rw [hRv], tpS_tr hs tpS_8, by rw [k_mset_ne (by decide)]; exact e5, by rw [hRv, k_mset_ne (by decide)]; exact e4, fun q => by rw [hRv] at q; exact absurd q (by show ¬ (0 : Int) = 1; decide)⟩
        · rw [if_neg h] at hRv
          exact hT _ _ ⟨Or.inr rfl, by rw [hRv], tpS_tr hs tpS_8, by rw [k_mset_ne (by decide)]; exact e5, by rw [hRv, k_mset_ne (by decide)]; exact e4, fun _ x => by rw [hRv, k_mset_at, e8]⟩
      refine kW_go ok_X8_readLayers [5] 20 ?_
      exact And.intro (fun _ => five hRR.symm) (fun h => absurd h (by omega))
    | succ k ih =>
      intro t bits j mm x3 hk ht hb hj hs e5 e8 e4 hRR
      have hd := dgV_in (g j)
      have five : ∀ x3, (R = ((if bits = 0 then 0 else 1), j, bits)) → kW (eX X) 1 M_X8_readLayers T 5 [some (vR 6), some (vI bits), some (vI t), x3] [] mm := by
        intro x3 hRv
        refine kW_go ok_X8_readLayers [] 20 ?_
        refine ⟨by decide, And.intro (fun h => ?_) (fun h => ?_)⟩
        · rw [if_pos h] at hRv
          exact hT _ _ ⟨Or.inl rfl, by rw [hRv], tpS_tr hs tpS_8, by rw [k_mset_ne (by decide)]; exact e5, by rw [hRv, k_mset_ne (by decide)]; exact e4, fun q => by rw [hRv] at q; exact absurd q (by show ¬ (0 : Int) = 1; decide)⟩
        · rw [if_neg h] at hRv
          exact hT _ _ ⟨Or.inr rfl, by rw [hRv], tpS_tr hs tpS_8, by rw [k_mset_ne (by decide)]; exact e5, by rw [hRv, k_mset_ne (by decide)]; exact e4, fun _ x => by rw [hRv, k_mset_at, e8]⟩
      unfold layF at hRR
      refine kW_go ok_X8_readLayers [2, 5] 20 ?_
      refine And.intro (fun h => absurd h (by omega)) (fun _ => ?_)
      refine kCall_mono (c_X8_digitHere X mm hg (CT_s hC hs) j e4 hj.1) (Nat.le_of_ble_eq_true rfl) ?_
      rintro _ m2 ⟨rfl, rfl⟩
      refine And.intro (fun h1 => ?_) (fun h1 => five _ (by have h1 : dgV (g j) = -1 := h1; rw [if_pos h1] at hRR; exact hRR.symm))
      have h1 : ¬ dgV (g j) = -1 := h1
      have hlt := dg_lt hg h1
      rw [if_neg h1] at hRR
      have e0 : m2 6 0 = L := (CT_s hC hs).1
      have three : (L ≤ dgV (g j) ∨ bt bits (dgV (g j)).toNat = true) → kW (eX X) 1 M_X8_readLayers T 3 [some (vR 6), some (vI bits), some (vI t), some (vI (dgV (g j)))] [] m2 := by
        intro h
        rw [if_pos h] at hRR
        refine kW_go ok_X8_readLayers [] 20 ?_
        exact hT _ _ ⟨Or.inl rfl, by rw [← hRR], hs, e5, by rw [← hRR]; exact e4, fun q => by rw [← hRR] at q; exact absurd q (by show ¬ (0 : Int) = 1; decide)⟩
      refine kW_go ok_X8_readLayers [3, 4] 20 ?_
      show (m2 6 0 ≤ dgV (g j) → _) ∧ (dgV (g j) < m2 6 0 → (kand (kshr bits (dgV (g j))) 1 = 0 → kW (eX X) 1 M_X8_readLayers T 4 [some (vR 6), some (vI bits), some (vI t), some (vI (dgV (g j)))] [] m2) ∧ (¬ kand (kshr bits (dgV (g j))) 1 = 0 → _))
      rw [e0]
      refine ⟨fun h => three (Or.inl h), fun h => ⟨fun h2 => ?_, fun h2 => three (Or.inr ((k_ask_ne (by omega) (by omega)).mp h2))⟩⟩
      have hbt := (k_ask0 (by omega) (by omega)).mp h2
      rw [if_neg (fun q => q.elim (fun q => absurd h (by omega)) (fun q => by rw [hbt] at q; cases q))] at hRR
      have hst := lay_step ⟨bits.toNat, by omega⟩ ⟨(dgV (g j)).toNat, by omega⟩
      simp only [Int.toNat_of_nonneg hb.1, Int.toNat_of_nonneg (show 0 ≤ dgV (g j) by omega)] at hst
      have s1 : tpS m (mset m2 6 4 (j + 1)) := tpS_tr hs (tpS_6 (Or.inl rfl))
      have hp := skp_in hg (i := j + 1) (by omega)
      refine kW_go ok_X8_readLayers [1] 20 ?_
      show inR (m2 6 4 + 1) ∧ kCall (eX X) 1 108 [vR 6] (mset m2 6 4 (m2 6 4 + 1)) _
      rw [e4]
      refine ⟨by constructor <;> omega, ?_⟩
      refine kCall_mono (c_X8_skipBlanks X (mset m2 6 4 (j + 1)) hg (CT_s hC s1) (j + 1) (by rw [k_mset_at, if_pos rfl]) (by omega)) (Nat.le_of_ble_eq_true rfl) ?_
      rintro _ m3 ⟨rfl, q1, q2, q3⟩
      have s3 : tpS m m3 := tpS_tr s1 ⟨fun o a _ => q1 o a, fun f a _ => q2 f a⟩
      refine ⟨by constructor <;> omega, ih (t + 1) _ _ m3 _ (by omega) (by omega) hst (by omega) s3 ?_ ?_ q3 hRR⟩
      · rw [q2 5 (by decide), k_mset_at, if_neg (by decide)]; exact e5
      · rw [q1 8 (by decide), k_mset_ne (by decide)]; exact e8
  refine kW_go ok_X8_readLayers [1] 20 ?_
  exact loop 80 0 0 i m none (by omega) (by omega) (by decide) hi tpS_rf rfl rfl h4 hR.symm
theorem kdA_in (v : Int) : -1 ≤ kdA v ∧ kdA v ≤ 4 := by
  unfold kdA
  repeat' split
  all_goals decide
theorem kd_lt {g : Int → Int} {n i : Int} (hg : TPE g n) (h : kdA (g i) ≠ -1) : i < n := by
  refine Int.not_le.mp (fun q => h ?_)
  rw [hg.2.1 i q]
  rfl
theorem setF_in {g : Int → Int} {n L sn i : Int} {st : Int → Int} (hg : TPE g n) (hL : 1 ≤ L ∧ L ≤ 4) (hi : 0 ≤ i ∧ i ≤ n) : ((setF g n L sn st i).1 = 0 ∨ (setF g n L sn st i).1 = 1) ∧ (0 ≤ (setF g n L sn st i).2.1 ∧ (setF g n L sn st i).2.1 ≤ n) := by
  have hp := skp_in hg (i := i) hi.2
  unfold setF
  by_cases h : kdA (g (skp g n i)) = -1 ∨ bt sn (kdA (g (skp g n i))).toNat = true
  · rw [if_pos h]
    exact ⟨Or.inl rfl, by show 0 ≤ skp g n i; omega, hp.1.2⟩
  · rw [if_neg h]
    have hlt := kd_lt hg (fun q => h (Or.inl q))
    have hp2 := skp_in hg (i := skp g n i + 1) (by omega)
    by_cases h2 : kdA (g (skp g n i)) = 4
    · rw [if_pos h2]
      have := layF_in hg hL 80 0 (skp g n (skp g n i + 1)) (by decide) hp2.1.2
      exact ⟨this.1, by show 0 ≤ (layF g n L 80 0 (skp g n (skp g n i + 1))).2.1; omega, this.2.1.2⟩
    · rw [if_neg h2]
      have := numF_in (lo := leaF (kdA (g (skp g n i)))) (hi := mosF (kdA (g (skp g n i)))) hg hp2.1.2
      exact ⟨this.1, by show 0 ≤ (numF g _ _ (skp g n (skp g n i + 1))).2.1; omega, this.2.1.2⟩
theorem c_X8_readSetting (X : Xv) (m : Mem) {g : Int → Int} {n L : Int} (hg : TPE g n) (hL : 1 ≤ L ∧ L ≤ 4) (hC : CT g n L m) (sn i : Int) (st : Int → Int) (h4 : m 6 4 = i) (h5 : m 6 5 = sn) (hst : ∀ x : Int, (0 ≤ x ∧ x < 5) → m 8 x = st x) (hi : 0 ≤ i ∧ i ≤ n) : kCall (eX X) 3 M_X8_readSetting.1 [vR 6] m (fun r m' => r = some (vI (setF g n L sn st i).1) ∧ tpS m m' ∧ m' 6 4 = (setF g n L sn st i).2.1 ∧ ((setF g n L sn st i).1 = 1 → m' 6 5 = (setF g n L sn st i).2.2.1 ∧ ∀ x : Int, (0 ≤ x ∧ x < 5) → m' 8 x = (setF g n L sn st i).2.2.2 x)) := by
  have hn := hg.1
  have hp := skp_in hg (i := i) hi.2
  obtain ⟨p, hpp⟩ : ∃ p, p = skp g n i := ⟨_, rfl⟩
  obtain ⟨kd, hkd⟩ : ∃ kd, kd = kdA (g p) := ⟨_, rfl⟩
  have hk := kdA_in (g p)
  rw [← hkd] at hk
  refine kCall_ofT ok_X8_readSetting rfl (Nat.le_of_ble_eq_true rfl) (fun T hT => ?_)
  refine kW_go ok_X8_readSetting [1, 2] 20 ?_
  refine kCall_mono (c_X8_skipBlanks X m hg hC i h4 hi) (Nat.le_of_ble_eq_true rfl) ?_
  rintro _ m1 ⟨rfl, q1, q2, q3⟩
  rw [← hpp] at hp q3
  have s1 : tpS m m1 := ⟨fun o a _ => q1 o a, fun f a _ => q2 f a⟩
  refine kCall_mono (c_X8_kindHere X m1 hg (CT_s hC s1) p q3 (by omega)) (Nat.le_of_ble_eq_true rfl) ?_
  rw [← hkd]
  rintro _ m2 ⟨rfl, rfl⟩
  have e5 : fld m2 6 5 = sn := by show m2 6 5 = sn; rw [q2 5 (by decide)]; exact h5
  have hone : (kd = -1 ∨ bt sn kd.toNat = true) → kW (eX X) 2 M_X8_readSetting T 1 [some (vR 6), some (vI kd)] [] m2 := by
    intro h
    have hS : setF g n L sn st i = (0, p, sn, st) := by
      unfold setF
      rw [← hpp, ← hkd, if_pos h]
    refine kW_go ok_X8_readSetting [] 20 ?_
    exact hT _ _ ⟨Or.inl rfl, by rw [hS], s1, by rw [hS]; exact q3, fun q => by rw [hS] at q; exact absurd q (by show ¬ (0 : Int) = 1; decide)⟩
  show (kd = -1 → kW (eX X) 2 M_X8_readSetting T 1 [some (vR 6), some (vI kd)] [] m2) ∧ (¬ kd = -1 → (kand (kshr (fld m2 6 5) kd) 1 = 0 → kW (eX X) 2 M_X8_readSetting T 2 [some (vR 6), some (vI kd)] [] m2) ∧ (¬ kand (kshr (fld m2 6 5) kd) 1 = 0 → kW (eX X) 2 M_X8_readSetting T 1 [some (vR 6), some (vI kd)] [] m2))
  rw [e5]
  refine ⟨fun h => hone (Or.inl h), fun h => ⟨fun h2 => ?_, fun h2 => hone (Or.inr ((k_ask_ne (by omega) (by omega)).mp h2))⟩⟩
  have hbt := (k_ask0 (v := sn) (n := kd) (by omega) (by omega)).mp h2
  have hno : ¬ (kd = -1 ∨ bt sn kd.toNat = true) := fun q => q.elim h (fun q => by rw [hbt] at q; cases q)
  have hlt : p < n := kd_lt hg (by rw [← hkd]; exact h)
  have hp2 := skp_in hg (i := p + 1) (by omega)
  obtain ⟨p2, hpp2⟩ : ∃ p2, p2 = skp g n (p + 1) := ⟨_, rfl⟩
  rw [← hpp2] at hp2
  refine kW_go ok_X8_readSetting [4] 20 ?_
  show inR (mset m2 6 5 (kor (fld m2 6 5) (kshl 1 kd)) 6 4 + 1) ∧ kCall (eX X) 2 108 [vR 6] (mset (mset m2 6 5 (kor (fld m2 6 5) (kshl 1 kd))) 6 4 (mset m2 6 5 (kor (fld m2 6 5) (kshl 1 kd)) 6 4 + 1)) _
  rw [e5]
  obtain ⟨ma, hma⟩ : ∃ ma, ma = mset m2 6 5 (kor sn (kshl 1 kd)) := ⟨_, rfl⟩
  rw [← hma]
  have ea4 : ma 6 4 = p := by rw [hma, k_mset_at, if_neg (by decide)]; exact q3
  rw [ea4]
  have sa : tpS m (mset ma 6 4 (p + 1)) := by rw [hma]; exact tpS_tr (tpS_tr s1 (tpS_6 (Or.inr rfl))) (tpS_6 (Or.inl rfl))
  refine ⟨by constructor <;> omega, ?_⟩
  refine kCall_mono (c_X8_skipBlanks X (mset ma 6 4 (p + 1)) hg (CT_s hC sa) (p + 1) (by rw [k_mset_at, if_pos rfl]) (by omega)) (Nat.le_of_ble_eq_true rfl) ?_
  rintro _ m3 ⟨rfl, r1, r2, r3⟩
  rw [← hpp2] at r3
  have s3 : tpS m m3 := tpS_tr sa ⟨fun o a _ => r1 o a, fun f a _ => r2 f a⟩
  have f5 : m3 6 5 = kor sn (kshl 1 kd) := by rw [r2 5 (by decide), k_mset_at, if_neg (by decide), hma, k_mset_at, if_pos rfl]
  have f8 : ∀ x : Int, (0 ≤ x ∧ x < 5) → m3 8 x = st x := fun x hx => by rw [r1 8 (by decide), k_mset_ne (by decide), hma, k_mset_ne (by decide), q1 8 (by decide)]; exact hst x hx
  refine And.intro (fun h3 => ?_) (fun h3 => ?_)
  · have h3 : ¬ kd = 4 := h3
    have hS : setF g n L sn st i = ((numF g (leaF kd) (mosF kd) p2).1, (numF g (leaF kd) (mosF kd) p2).2.1, kor sn (kshl 1 kd), fun x => if x = kd then (numF g (leaF kd) (mosF kd) p2).2.2 else st x) := by
      unfold setF
      rw [← hpp, ← hkd, if_neg hno, if_neg h3, ← hpp2]
    have hnf := numF_in (lo := leaF kd) (hi := mosF kd) hg hp2.1.2
    refine kCall_mono (c_X8_readNumber X m3 hg (CT_s hC s3) kd p2 (by omega) r3 (by omega)) (Nat.le_of_ble_eq_true rfl) ?_
    rintro _ m4 ⟨rfl, t1, t2, t3, t4⟩
    refine kW_go ok_X8_readSetting [] 20 ?_
    refine hT _ _ ⟨hnf.1, by rw [hS], tpS_tr s3 t1, by rw [hS]; exact t3, fun q => ?_⟩
    rw [hS] at q ⊢
    refine ⟨t2.trans f5, fun x hx => ?_⟩
    rw [t4 q x, f8 x hx]
  · have h3 : kd = 4 := h3
    have hS : setF g n L sn st i = ((layF g n L 80 0 p2).1, (layF g n L 80 0 p2).2.1, kor sn (kshl 1 4), fun x => if x = 4 then (layF g n L 80 0 p2).2.2 else st x) := by
      unfold setF
      rw [← hpp, ← hkd, if_neg hno, if_pos h3, ← hpp2]
    have hnf := layF_in hg hL 80 0 p2 (by decide) hp2.1.2
    refine kCall_mono (c_X8_readLayers X m3 hg hL (CT_s hC s3) p2 r3 (by omega)) (Nat.le_of_ble_eq_true rfl) ?_
    rintro _ m4 ⟨rfl, t1, t2, t3, t4⟩
    refine kW_go ok_X8_readSetting [] 20 ?_
    refine hT _ _ ⟨hnf.1, by rw [hS], tpS_tr s3 t1, by rw [hS]; exact t3, fun q => ?_⟩
    rw [hS] at q ⊢
    refine ⟨by rw [t2, f5, h3], fun x hx => ?_⟩
    rw [t4 q x, f8 x hx]
def st0 (L x : Int) : Int := if x = 4 then kshl 1 L - 1 else usuF x
set_option maxRecDepth 100000 in
theorem c_X8_scan (X : Xv) (m : Mem) {g : Int → Int} {n L : Int} (hg : TPE g n) (hL : 1 ≤ L ∧ L ≤ 4) (hC : CT g n L m) : kCall (eX X) 4 M_X8_scan.1 [vR 6] m (fun r m' => r = some (vI (scF g n L 6 0 (st0 L) 0).1) ∧ tpS m m' ∧ ((scF g n L 6 0 (st0 L) 0).1 = -1 → ∀ x : Int, (0 ≤ x ∧ x < 5) → m' 8 x = (scF g n L 6 0 (st0 L) 0).2 x)) := by
  have hn := hg.1
  refine kCall_ofT ok_X8_scan rfl (Nat.le_of_ble_eq_true rfl) (fun T hT => ?_)
  obtain ⟨R, hR⟩ : ∃ R, R = scF g n L 6 0 (st0 L) 0 := ⟨_, rfl⟩
  rw [← hR] at hT
  have loop : ∀ (k : Nat) (t sn i : Int) (st : Int → Int) (mm : Mem), t + k = 6 → 0 ≤ t → (0 ≤ i ∧ i ≤ n) → tpS m mm → mm 6 4 = i → mm 6 5 = sn → (∀ x : Int, (0 ≤ x ∧ x < 5) → mm 8 x = st x) → scF g n L k sn st i = R → kW (eX X) 3 M_X8_scan T 3 [some (vR 6), some (vI t)] [] mm := by
    intro k
    induction k with
    | zero =>
      intro t sn i st mm hk ht hi hs e4 e5 e8 hRR
      have hRR : R = (i, st) := hRR.symm
      refine kW_go ok_X8_scan [] 20 ?_
      show (5 < t → T (some (vI (mm 6 4))) mm) ∧ (t ≤ 5 → _)
      rw [e4]
      exact ⟨fun _ => hT _ _ ⟨by rw [hRR], hs, fun q => by rw [hRR] at q; have q : i = -1 := q; omega⟩, fun h => absurd h (by omega)⟩
    | succ k ih =>
      intro t sn i st mm hk ht hi hs e4 e5 e8 hRR
      obtain ⟨S, hS⟩ : ∃ S, S = setF g n L sn st i := ⟨_, rfl⟩
      have hSin := setF_in (sn := sn) (st := st) hg hL hi
      rw [← hS] at hSin
      have hRR : R = if S.1 = 0 then (S.2.1, st) else if n ≤ skp g n S.2.1 then (-1, S.2.2.2) else if g (skp g n S.2.1) ≠ 44 then (skp g n S.2.1, st) else scF g n L k S.2.2.1 S.2.2.2 (skp g n S.2.1 + 1) := by
        rw [← hRR, hS]
        rfl
      have hc := c_X8_readSetting X mm hg hL (CT_s hC hs) sn i st e4 e5 e8 hi
      rw [← hS] at hc
      refine kW_go ok_X8_scan [4] 20 ?_
      refine And.intro (fun h => absurd h (by omega)) (fun _ => ?_)
      refine kCall_mono hc (Nat.le_of_ble_eq_true rfl) ?_
      rintro _ m2 ⟨rfl, u1, u2, u3⟩
      have s2 := tpS_tr hs u1
      refine And.intro (fun h => ?_) (fun h => ?_)
      · have h : ¬ S.1 = 0 := h
        rw [if_neg h] at hRR
        obtain ⟨u4, u5⟩ := u3 (hSin.1.resolve_left h)
        have hp := skp_in hg (i := S.2.1) hSin.2.2
        obtain ⟨p, hpp⟩ : ∃ p, p = skp g n S.2.1 := ⟨_, rfl⟩
        rw [← hpp] at hp hRR
        refine kW_go ok_X8_scan [5, 6] 20 ?_
        refine kCall_mono (c_X8_skipBlanks X m2 hg (CT_s hC s2) S.2.1 u2 hSin.2) (Nat.le_of_ble_eq_true rfl) ?_
        rintro _ m3 ⟨rfl, r1, r2, r3⟩
        rw [← hpp] at r3
        have s3 : tpS m m3 := tpS_tr s2 ⟨fun o a _ => r1 o a, fun f a _ => r2 f a⟩
        have hC3 := CT_s hC s3
        have e3 : m3 6 3 = n := hC3.2.1
        show (m3 6 4 < m3 6 3 → kW (eX X) 3 M_X8_scan T 5 [some (vR 6), some (vI t)] [] m3) ∧ (m3 6 3 ≤ m3 6 4 → T (some (vI (-1))) m3)
        rw [e3, r3]
        refine ⟨fun h2 => ?_, fun h2 => ?_⟩
        · rw [if_neg (show ¬ n ≤ p by omega)] at hRR
          have e7 : m3 7 p = g p := hC3.2.2 p ⟨by omega, h2⟩
          refine kW_go ok_X8_scan [6] 20 ?_
          show (0 ≤ m3 6 4 ∧ m3 6 4 < ((80 : Nat) : Int)) ∧ (m3 7 (m3 6 4) = 44 → kW (eX X) 3 M_X8_scan T 6 [some (vR 6), some (vI t)] [] m3) ∧ (¬ m3 7 (m3 6 4) = 44 → T (some (vI (m3 6 4))) m3)
          rw [r3, e7]
          refine ⟨by omega, fun h3 => ?_, fun h3 => ?_⟩
          · rw [if_neg (fun q => q h3)] at hRR
            refine kW_go ok_X8_scan [3] 20 ?_
            show inR (m3 6 4 + 1) ∧ inR (t + 1) ∧ kW (eX X) 3 M_X8_scan T 3 [some (vR 6), some (vI (t + 1))] [] (mset m3 6 4 (m3 6 4 + 1))
            rw [r3]
            refine ⟨by constructor <;> omega, by constructor <;> omega, ih (t + 1) S.2.2.1 (p + 1) S.2.2.2 _ (by omega) (by omega) (by omega) (tpS_tr s3 (tpS_6 (Or.inl rfl))) (by rw [k_mset_at, if_pos rfl]) ?_ (fun x hx => ?_) hRR.symm⟩
            · rw [k_mset_at, if_neg (by decide), r2 5 (by decide)]; exact u4
            · rw [k_mset_ne (by decide), r1 8 (by decide)]; exact u5 x hx
          · rw [if_pos h3] at hRR
            exact hT _ _ ⟨by rw [hRR], s3, fun q => by rw [hRR] at q; have q : p = -1 := q; omega⟩
        · rw [if_pos h2] at hRR
          exact hT _ _ ⟨by rw [hRR], s3, fun _ x hx => by rw [hRR, r1 8 (by decide)]; exact u5 x hx⟩
      · have h : S.1 = 0 := h
        rw [if_pos h] at hRR
        show T (some (vI (m2 6 4))) m2
        rw [u2]
        exact hT _ _ ⟨by rw [hRR], s2, fun q => by rw [hRR] at q; have q : S.2.1 = -1 := q; omega⟩
  have init : ∀ (k : Nat) (i : Int) (mm : Mem), i + k = 4 → 0 ≤ i → tpS m mm → mm 6 4 = 0 → mm 6 5 = 0 → (∀ x : Int, (0 ≤ x ∧ x < i) → mm 8 x = usuF x) → kW (eX X) 3 M_X8_scan T 1 [some (vR 6), some (vI i)] [] mm := by
    intro k
    induction k with
    | zero =>
      intro i mm hk h0 hs e4 e5 e8
      have hi : i = 4 := by omega
      subst hi
      have e0 : fld mm 6 0 = L := (CT_s hC hs).1
      have hm := k_msk_in (l := L) (by omega) (by omega)
      refine kW_go ok_X8_scan [3] 20 ?_
      refine And.intro (fun _ => ?_) (fun h => absurd h (by decide))
      show inR (kshl 1 (fld mm 6 0) - 1) ∧ (0 ≤ (4 : Int) ∧ (4 : Int) < ((5 : Nat) : Int)) ∧ kW (eX X) 3 M_X8_scan T 3 [some (vR 6), some (vI 0)] [] (mset mm 8 4 (kshl 1 (fld mm 6 0) - 1))
      rw [e0]
      refine ⟨by constructor <;> omega, by decide, loop 6 0 0 0 (st0 L) _ (by omega) (by omega) (by omega) (tpS_tr hs tpS_8) (by rw [k_mset_ne (by decide)]; exact e4) (by rw [k_mset_ne (by decide)]; exact e5) (fun x hx => ?_) hR.symm⟩
      rw [k_mset_at]
      unfold st0
      by_cases e : x = 4
      · rw [if_pos e, if_pos e]
      · rw [if_neg e, if_neg e]; exact e8 x (by omega)
    | succ k ih =>
      intro i mm hk h0 hs e4 e5 e8
      refine kW_go ok_X8_scan [1, 2] 20 ?_
      refine And.intro (fun h => absurd h (by omega)) (fun _ => ?_)
      refine ⟨⟨h0, by omega⟩, ⟨h0, by omega⟩, by constructor <;> omega, ih (i + 1) _ (by omega) (by omega) (tpS_tr hs tpS_8) (by rw [k_mset_ne (by decide)]; exact e4) (by rw [k_mset_ne (by decide)]; exact e5) (fun x hx => ?_)⟩
      rw [k_mset_at]
      by_cases e : x = i
      · rw [if_pos e, e]
      · rw [if_neg e]; exact e8 x (by omega)
  refine kW_go ok_X8_scan [1] 20 ?_
  exact init 4 0 _ (by omega) (by omega) (tpS_tr (tpS_6 (Or.inl rfl)) (tpS_6 (Or.inr rfl))) rfl rfl (fun x hx => by omega)
