/-! FAULT, SORT: the reference's reading, wholly -/
theorem kand_bit {v n : Int} (h : 0 ≤ n ∧ n < 32) : kand v (kshl 1 n) = 0 ↔ bt v n.toNat = false := by
  constructor
  · intro e
    have h2 : bt (kand v (kshl 1 n)) n.toNat = false := by rw [e, bt_zero]
    rw [bt_and, bt_bit h.1 h.2, decide_eq_true (by omega), Bool.and_true] at h2
    exact h2
  · intro e
    refine bt_ext (k_in_kand _ _) (by decide) (fun k hk => ?_)
    rw [bt_and, bt_bit h.1 h.2, bt_zero]
    by_cases q : (k : Int) = n
    · rw [← q, Int.toNat_natCast] at e
      rw [e]
      rfl
    · rw [decide_eq_false q, Bool.and_false]
/-- a class's settings in the reference -/
def R5 (m : Mem) (s : Int) (st : Int → Int) : Prop := m 56 s = st 0 ∧ m 57 s = st 1 ∧ m 58 s = st 2 ∧ m 59 s = st 3 ∧ m 60 s = st 4
set_option maxRecDepth 100000 in
theorem c_X12_setting (X : Xv) (m : Mem) {g : Int → Int} {n L : Int} (hg : TPE g n) (hL : 1 ≤ L ∧ L ≤ 4) (hC : RT g n L m) (s sn i : Int) (st : Int → Int) (hs7 : 0 ≤ s ∧ s < 7) (h6 : m 54 6 = i) (h7 : m 54 7 = -1) (h14 : m 54 14 = sn) (h5 : R5 m s st) (hi : 0 ≤ i ∧ i ≤ n) : kCall (eX X) 4 M_X12_setting.1 [vR 54, vI s] m (fun r m' => r = none ∧ rtS s m m' ∧ rdE (setF g n L sn st i).1 (setF g n L sn st i).2.1 m' ∧ ((setF g n L sn st i).1 = 1 → m' 54 14 = (setF g n L sn st i).2.2.1 ∧ R5 m' s (setF g n L sn st i).2.2.2)) := by
  have hn := hg.1
  have hs7' : 0 ≤ s ∧ s < ((7 : Nat) : Int) := hs7
  have hp := skp_in hg (i := i) hi.2
  obtain ⟨p, hpp⟩ : ∃ p, p = skp g n i := ⟨_, rfl⟩
  rw [← hpp] at hp
  obtain ⟨kd, hkd⟩ : ∃ kd, kd = kdA (g p) := ⟨_, rfl⟩
  have hk := kdA_in (g p)
  rw [← hkd] at hk
  obtain ⟨S, hS⟩ : ∃ S, S = setF g n L sn st i := ⟨_, rfl⟩
  rw [← hS]
  refine kCall_ofT ok_X12_setting rfl (Nat.le_of_ble_eq_true rfl) (fun T hT => ?_)
  refine kW_go ok_X12_setting [1, 2] 20 ?_
  refine kCall_mono (c_X12_look X m hg hC i h6 hi) (Nat.le_of_ble_eq_true rfl) ?_
  rw [← hpp]
  rintro _ m1 ⟨rfl, q1, q2, q3⟩
  have s1 : rtS s m m1 := ⟨fun o a _ => q1 o a, fun o a b j _ => by rw [q1 o (by omega)], fun f a _ _ => q2 f a⟩
  have g7 : m1 54 7 = -1 := by rw [q2 7 (by decide)]; exact h7
  have g14 : m1 54 14 = sn := by rw [q2 14 (by decide)]; exact h14
  have g14f : fld m1 54 14 = sn := g14
  refine kCall_mono (c_X12_letterAt X m1 (g p)) (Nat.le_of_ble_eq_true rfl) ?_
  rw [← hkd]
  rintro _ m2 ⟨rfl, rfl⟩
  have hone : ∀ x3, (kd = -1 ∨ bt sn kd.toNat = true) → kW (eX X) 3 M_X12_setting T 1 [some (vR 54), some (vI s), some (vI (g p)), x3] [] m2 := by
    intro x3 h
    have hSv : S = (0, p, sn, st) := by
      rw [hS]
      unfold setF
      rw [← hpp, ← hkd, if_pos h]
    refine kW_go ok_X12_setting [] 20 ?_
    refine kCall_mono (c_X12_bad X m2) (Nat.le_of_ble_eq_true rfl) ?_
    rintro _ m3 ⟨rfl, rfl⟩
    exact hT _ _ ⟨rfl, rtS_tr s1 (rtS_54 (by omega)), rdE_01 (by rw [hSv]) (by rw [k_mset_at, if_pos rfl, if_pos g7, hSv]; exact q3), fun q => by rw [hSv] at q; exact absurd q (by show ¬ (0 : Int) = 1; decide)⟩
  by_cases hkm : kd = -1
  · rw [if_pos hkm]
    exact And.intro (fun _ => hone _ (Or.inl hkm)) (fun h => absurd rfl h)
  rw [if_neg hkm]
  have hk4 : 0 ≤ kd ∧ kd < 32 := by omega
  have hnz : kshl 1 kd ≠ 0 := by
    have : ∀ j : Fin 5, kshl 1 (j.val : Int) ≠ 0 := by decide +kernel
    have h := this ⟨kd.toNat, by omega⟩
    simp only [Int.toNat_of_nonneg hk4.1] at h
    exact h
  show (kshl 1 kd = 0 → _) ∧ (¬ kshl 1 kd = 0 → (kand (fld m2 54 14) (kshl 1 kd) = 0 → kW (eX X) 3 M_X12_setting T 2 [some (vR 54), some (vI s), some (vI (g p)), some (vI (kshl 1 kd))] [] m2) ∧ (¬ kand (fld m2 54 14) (kshl 1 kd) = 0 → kW (eX X) 3 M_X12_setting T 1 [some (vR 54), some (vI s), some (vI (g p)), some (vI (kshl 1 kd))] [] m2))
  rw [g14f]
  refine ⟨fun h => absurd h hnz, fun _ => ⟨fun h2 => ?_, fun h2 => hone _ (Or.inr ?_)⟩⟩
  rotate_left
  · cases e : bt sn kd.toNat
    · exact absurd ((kand_bit hk4).mpr e) h2
    · rfl
  have hbt := (kand_bit hk4).mp h2
  have hno : ¬ (kd = -1 ∨ bt sn kd.toNat = true) := fun q => q.elim hkm (fun q => by rw [hbt] at q; cases q)
  have hlt : p < n := kd_lt hg (by rw [← hkd]; exact hkm)
  have hp2 := skp_in hg (i := p + 1) (by omega)
  obtain ⟨p2, hpp2⟩ : ∃ p2, p2 = skp g n (p + 1) := ⟨_, rfl⟩
  obtain ⟨ma, hma⟩ : ∃ ma, ma = mset (mset m2 54 14 (kor sn (kshl 1 kd))) 54 6 (p + 1) := ⟨_, rfl⟩
  have sa : rtS s m ma := by rw [hma]; exact rtS_tr s1 (rtS_tr (rtS_54 (by omega)) (rtS_54 (by omega)))
  have a6 : ma 54 6 = p + 1 := by rw [hma, k_mset_at, if_pos rfl]
  have a14 : ma 54 14 = kor sn (kshl 1 kd) := by rw [hma, k_mset_at, if_neg (by decide), k_mset_at, if_pos rfl]
  have a7 : ma 54 7 = -1 := by rw [hma, k_mset_at, if_neg (by decide), k_mset_at, if_neg (by decide)]; exact g7
  have ao : ∀ o, o ≠ 54 → ma o = m o := fun o ho => by rw [hma, k_mset_ne ho, k_mset_ne ho]; exact q1 o ho
  have hCa := RT_s hC sa
  have hfin : ∀ (o : Nat) (v : Int) (m5 : Mem), ((o = 56 ∧ kd = 0) ∨ (o = 57 ∧ kd = 1) ∨ (o = 58 ∧ kd = 2) ∨ (o = 59 ∧ kd = 3)) → rtS s ma m5 → (∀ o, o ≠ 54 → m5 o = ma o) → m5 54 14 = ma 54 14 → rdE (numF g (leaF kd) (mosF kd) p2).1 (numF g (leaF kd) (mosF kd) p2).2.1 m5 → ((numF g (leaF kd) (mosF kd) p2).1 = 1 → v = (numF g (leaF kd) (mosF kd) p2).2.2) → T none (mset m5 o s v) := by
    intro o v m5 ho hs5 hf5 h145 hr hv
    have hSv : S = ((numF g (leaF kd) (mosF kd) p2).1, (numF g (leaF kd) (mosF kd) p2).2.1, kor sn (kshl 1 kd), fun x => if x = kd then (numF g (leaF kd) (mosF kd) p2).2.2 else st x) := by
      rw [hS]
      unfold setF
      rw [← hpp, ← hkd, if_neg hno, if_neg (by omega), ← hpp2]
    have hob : 56 ≤ o ∧ o ≤ 60 := by omega
    have h54 : ∀ f, mset m5 o s v 54 f = m5 54 f := fun f => by rw [k_mset_ne (by omega)]
    refine hT _ _ ⟨rfl, rtS_tr sa (rtS_tr hs5 (rtS_st hob)), ?_, fun q => ?_⟩
    · rw [hSv]
      exact ⟨fun q => by rw [h54, h54]; exact hr.1 q, fun q => by rw [h54]; exact hr.2 q⟩
    · rw [hSv] at q ⊢
      refine ⟨by rw [h54, h145, a14], ?_⟩
      have hv := hv q
      have hat : ∀ o', (56 ≤ o' ∧ o' ≤ 60) → mset m5 o s v o' s = if o' = o then v else m o' s := fun o' ho' => by
        by_cases e : o' = o
        · rw [if_pos e, e, k_mset_at, if_pos rfl]
        · rw [if_neg e, k_mset_ne e, hf5 o' (by omega), ao o' (by omega)]
      obtain ⟨b0, b1, b2, b3, b4⟩ := h5
      unfold R5
      rw [hat 56 (by decide), hat 57 (by decide), hat 58 (by decide), hat 59 (by decide), hat 60 (by decide), hv, b0, b1, b2, b3, b4]
      rcases ho with ⟨rfl, hk0⟩ | ⟨rfl, hk0⟩ | ⟨rfl, hk0⟩ | ⟨rfl, hk0⟩ <;> rw [hk0] <;> exact ⟨rfl, rfl, rfl, rfl, rfl⟩
  refine kW_go ok_X12_setting [3] 20 ?_
  show inR (mset m2 54 14 (kor (fld m2 54 14) (kshl 1 kd)) 54 6 + 1) ∧ _
  have hch : ∀ c k : Int, g p = c → kdA c = k → kd = k := fun c k a b => by rw [hkd, a]; exact b
  rw [show mset m2 54 14 (kor (fld m2 54 14) (kshl 1 kd)) 54 6 = p from by rw [k_mset_at, if_neg (by decide)]; exact q3]
  refine ⟨by constructor <;> omega, ?_⟩
  show (¬ g p = 115 → kW (eX X) 3 M_X12_setting T 3 [some (vR 54), some (vI s), some (vI (g p)), some (vI (kshl 1 kd))] [] (mset (mset m2 54 14 (kor (fld m2 54 14) (kshl 1 kd))) 54 6 (mset m2 54 14 (kor (fld m2 54 14) (kshl 1 kd)) 54 6 + 1))) ∧ (g p = 115 → kCall (eX X) 3 190 [vR 54, vI 1, vI 9] (mset (mset m2 54 14 (kor (fld m2 54 14) (kshl 1 kd))) 54 6 (mset m2 54 14 (kor (fld m2 54 14) (kshl 1 kd)) 54 6 + 1)) _)
  rw [show mset m2 54 14 (kor (fld m2 54 14) (kshl 1 kd)) 54 6 = p from by rw [k_mset_at, if_neg (by decide)]; exact q3, g14f, ← hma]
  refine ⟨fun hc0 => ?_, fun hc => ?_⟩
  rotate_left
  · have hk0 := hch _ 0 hc (by decide)
    have hnum := c_X12_number X ma hg hCa s 1 9 (p + 1) a6 a7 (by omega) (by decide)
    rw [← hpp2] at hnum
    refine kCall_mono hnum (Nat.le_of_ble_eq_true rfl) ?_
    rintro _ m5 ⟨v, rfl, hvr, t1, t2, t3, t4, t5⟩
    exact ⟨hs7', hfin 56 v m5 (by omega) t1 t2 t3 (by rw [hk0]; exact t4) (by rw [hk0]; exact t5)⟩
  · have hc0 : ¬ g p = 115 := hc0
    refine kW_go ok_X12_setting [] 40 ?_
    refine And.intro (fun hc1 => ?_) (fun hc1 => ?_)
    rotate_left
    · have hk0 := hch _ 1 hc1 (by decide)
      have hnum := c_X12_number X ma hg hCa s 0 99 (p + 1) a6 a7 (by omega) (by decide)
      rw [← hpp2] at hnum
      refine kCall_mono hnum (Nat.le_of_ble_eq_true rfl) ?_
      rintro _ m5 ⟨v, rfl, hvr, t1, t2, t3, t4, t5⟩
      exact ⟨hs7', hfin 57 v m5 (by omega) t1 t2 t3 (by rw [hk0]; exact t4) (by rw [hk0]; exact t5)⟩
    · refine And.intro (fun hc2 => ?_) (fun hc2 => ?_)
      rotate_left
      · have hk0 := hch _ 2 hc2 (by decide)
        have hnum := c_X12_number X ma hg hCa s 0 99 (p + 1) a6 a7 (by omega) (by decide)
        rw [← hpp2] at hnum
        refine kCall_mono hnum (Nat.le_of_ble_eq_true rfl) ?_
        rintro _ m5 ⟨v, rfl, hvr, t1, t2, t3, t4, t5⟩
        exact ⟨hs7', hfin 58 v m5 (by omega) t1 t2 t3 (by rw [hk0]; exact t4) (by rw [hk0]; exact t5)⟩
      · refine And.intro (fun hc3 => ?_) (fun hc3 => ?_)
        rotate_left
        · have hk0 := hch _ 3 hc3 (by decide)
          have hnum := c_X12_number X ma hg hCa s 0 2 (p + 1) a6 a7 (by omega) (by decide)
          rw [← hpp2] at hnum
          refine kCall_mono hnum (Nat.le_of_ble_eq_true rfl) ?_
          rintro _ m5 ⟨v, rfl, hvr, t1, t2, t3, t4, t5⟩
          exact ⟨hs7', hfin 59 v m5 (by omega) t1 t2 t3 (by rw [hk0]; exact t4) (by rw [hk0]; exact t5)⟩
        · have hk0 : kd = 4 := by
            have hc1 : ¬ g p = 118 := hc1
            have hc2 : ¬ g p = 98 := hc2
            have hc3 : ¬ g p = 99 := hc3
            rw [hkd] at hkm ⊢
            unfold kdA at hkm ⊢
            rw [if_neg hc0, if_neg hc1, if_neg hc2, if_neg hc3] at hkm ⊢
            by_cases e : g p = 108
            · rw [if_pos e]
            · rw [if_neg e] at hkm; exact absurd rfl hkm
          have hlay := c_X12_readLayers X ma hg hL hCa s (p + 1) hs7 a6 a7 (by omega)
          rw [← hpp2] at hlay
          refine kCall_mono hlay (Nat.le_of_ble_eq_true rfl) ?_
          rintro _ m5 ⟨rfl, t1, t2, t3, t4, t5⟩
          have hSv : S = ((layF g n L 80 0 p2).1, (layF g n L 80 0 p2).2.1, kor sn (kshl 1 4), fun x => if x = 4 then (layF g n L 80 0 p2).2.2 else st x) := by
            rw [hS]
            unfold setF
            rw [← hpp, ← hkd, if_neg hno, if_pos hk0, ← hpp2]
          refine hT _ _ ⟨rfl, rtS_tr sa t1, by rw [hSv]; exact t4, fun q => ?_⟩
          rw [hSv] at q ⊢
          refine ⟨by rw [t2, a14, hk0], ?_⟩
          have t5 := t5 q
          obtain ⟨b0, b1, b2, b3, b4⟩ := h5
          unfold R5
          rw [t3 56 (by decide) (by decide), t3 57 (by decide) (by decide), t3 58 (by decide) (by decide), t3 59 (by decide) (by decide), ao 56 (by decide), ao 57 (by decide), ao 58 (by decide), ao 59 (by decide), b0, b1, b2, b3, t5]
          exact ⟨rfl, rfl, rfl, rfl, rfl⟩
