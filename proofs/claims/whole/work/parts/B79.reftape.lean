/-! FAULT, SORT: the reference's reading -/
/-- the reference's tape -/
def RT (g : Int → Int) (n L : Int) (m : Mem) : Prop := m 54 3 = L ∧ m 54 5 = n ∧ ∀ i : Int, (0 ≤ i ∧ i < n) → m 55 i = g i
/-- only the reading's numbers and one class's settings changed -/
def rtS (s : Int) (m m' : Mem) : Prop := (∀ o, o ≠ 54 → ¬ (56 ≤ o ∧ o ≤ 60) → m' o = m o) ∧ (∀ o, 56 ≤ o → o ≤ 60 → ∀ j : Int, j ≠ s → m' o j = m o j) ∧ ∀ f : Int, f ≠ 6 → f ≠ 7 → f ≠ 14 → m' 54 f = m 54 f
theorem rtS_rf {s : Int} {m : Mem} : rtS s m m := ⟨fun _ _ _ => rfl, fun _ _ _ _ _ => rfl, fun _ _ _ _ => rfl⟩
theorem rtS_tr {s : Int} {a b c : Mem} (h : rtS s a b) (h2 : rtS s b c) : rtS s a c := ⟨fun o x y => by rw [h2.1 o x y]; exact h.1 o x y, fun o x y j z => by rw [h2.2.1 o x y j z]; exact h.2.1 o x y j z, fun f x y z => by rw [h2.2.2 f x y z]; exact h.2.2 f x y z⟩
theorem rtS_54 {s : Int} {m : Mem} {f v : Int} (hf : f = 6 ∨ f = 7 ∨ f = 14) : rtS s m (mset m 54 f v) := ⟨fun o a _ => k_mset_ne a, fun o a b j _ => by rw [k_mset_ne (by omega)], fun f' a b c => by rw [k_mset_at, if_neg (by omega)]⟩
theorem rtS_st {s : Int} {m : Mem} {o : Nat} {v : Int} (ho : 56 ≤ o ∧ o ≤ 60) : rtS s m (mset m o s v) := ⟨fun o' a b => k_mset_ne (by omega), fun o' a b j c => by
  by_cases e : o' = o
  · rw [e, k_mset_at, if_neg c]
  · rw [k_mset_ne e], fun f _ _ _ => by rw [k_mset_ne (by omega)]⟩
theorem RT_s {g : Int → Int} {n L s : Int} {m m' : Mem} (h : RT g n L m) (hs : rtS s m m') : RT g n L m' := ⟨by rw [hs.2.2 3 (by decide) (by decide) (by decide)]; exact h.1, by rw [hs.2.2 5 (by decide) (by decide) (by decide)]; exact h.2.1, fun i hi => by rw [hs.1 55 (by decide) (by decide)]; exact h.2.2 i hi⟩
theorem c_X12_here (X : Xv) (m : Mem) {g : Int → Int} {n L : Int} (hg : TPE g n) (hC : RT g n L m) (i : Int) (h6 : m 54 6 = i) (hi : 0 ≤ i) : kCall (eX X) 1 M_X12_here.1 [vR 54] m (cP (g i) m) := by
  refine kCall_ofT ok_X12_here rfl (Nat.le_of_ble_eq_true rfl) (fun T hT => ?_)
  have hn := hg.1
  refine kW_go ok_X12_here [] 20 ?_
  show (m 54 5 ≤ m 54 6 → T (some (vI (-1))) m) ∧ (m 54 6 < m 54 5 → (0 ≤ m 54 6 ∧ m 54 6 < ((80 : Nat) : Int)) ∧ T (some (vI (m 55 (m 54 6)))) m)
  rw [hC.2.1, h6]
  refine ⟨fun h => hT _ _ ⟨by rw [hg.2.1 i h], rfl⟩, fun h => ⟨by omega, hT _ _ ⟨by rw [hC.2.2 i ⟨hi, h⟩], rfl⟩⟩⟩
theorem c_X12_isDigit (X : Xv) (m : Mem) (v : Int) : kCall (eX X) 1 M_X12_isDigit.1 [vI v] m (bP (dgV v ≠ -1) m) := by
  refine kCall_ofT ok_X12_isDigit rfl (Nat.le_of_ble_eq_true rfl) (fun T hT => ?_)
  refine kW_go ok_X12_isDigit [] 20 ?_
  refine And.intro (fun h => hT _ _ ⟨Or.inl rfl, Or.inr ⟨fun q => q ?_, rfl⟩, rfl⟩) (fun h => And.intro (fun h2 => hT _ _ ⟨Or.inl rfl, Or.inr ⟨fun q => q ?_, rfl⟩, rfl⟩) (fun h2 => hT _ _ ⟨Or.inr rfl, Or.inl ⟨?_, rfl⟩, rfl⟩))
  · have h : v < 48 := h
    unfold dgV; rw [if_neg (by omega)]
  · have h2 : 57 < v := h2
    unfold dgV; rw [if_neg (by omega)]
  · have h : 48 ≤ v := h
    have h2 : v ≤ 57 := h2
    unfold dgV; rw [if_pos ⟨h, h2⟩]; omega
theorem c_X12_bad (X : Xv) (m : Mem) : kCall (eX X) 1 M_X12_bad.1 [vR 54] m (fun r m' => r = none ∧ m' = mset m 54 7 (if m 54 7 = -1 then m 54 6 else m 54 7)) := by
  refine kCall_ofT ok_X12_bad rfl (Nat.le_of_ble_eq_true rfl) (fun T hT => ?_)
  refine kW_go ok_X12_bad [] 20 ?_
  refine And.intro (fun h => hT _ _ ⟨rfl, ?_⟩) (fun h => hT _ _ ⟨rfl, ?_⟩)
  · have h : ¬ m 54 7 = -1 := h
    rw [if_neg h]; rfl
  · have h : m 54 7 = -1 := h
    rw [if_pos h]; rfl
theorem c_X12_look (X : Xv) (m : Mem) {g : Int → Int} {n L : Int} (hg : TPE g n) (hC : RT g n L m) (i : Int) (h6 : m 54 6 = i) (hi : 0 ≤ i ∧ i ≤ n) : kCall (eX X) 2 M_X12_look.1 [vR 54] m (fun r m' => r = some (vI (g (skp g n i))) ∧ (∀ o, o ≠ 54 → m' o = m o) ∧ (∀ f : Int, f ≠ 6 → m' 54 f = m 54 f) ∧ m' 54 6 = skp g n i) := by
  have hn := hg.1
  refine kCall_ofT ok_X12_look rfl (Nat.le_of_ble_eq_true rfl) (fun T hT => ?_)
  have loop : ∀ (k : Nat) (j : Int) (mm : Mem), n - j ≤ k → (0 ≤ j ∧ j ≤ n) → (∀ o, o ≠ 54 → mm o = m o) → (∀ f : Int, f ≠ 6 → mm 54 f = m 54 f) → mm 54 6 = j → skp g n j = skp g n i → kW (eX X) 1 M_X12_look T 0 [some (vR 54)] [] mm := by
    intro k
    have hend : ∀ (j : Int) (mm : Mem), (0 ≤ j ∧ j ≤ n) → (∀ o, o ≠ 54 → mm o = m o) → (∀ f : Int, f ≠ 6 → mm 54 f = m 54 f) → mm 54 6 = j → skp g n j = skp g n i → g j ≠ 32 → T (some (vI (g j))) mm := by
      intro j mm hj h1 h2 h3 h5 h
      have e := skp_e (n := n) h
      exact hT _ _ ⟨by rw [← h5, e], h1, h2, by rw [h3, ← h5, e]⟩
    induction k with
    | zero =>
      intro j mm hk hj h1 h2 h3 h5
      have hCm : RT g n L mm := ⟨by rw [h2 3 (by decide)]; exact hC.1, by rw [h2 5 (by decide)]; exact hC.2.1, fun i hi => by rw [h1 55 (by decide)]; exact hC.2.2 i hi⟩
      have hgj : g j = -1 := hg.2.1 j (by omega)
      refine kW_go ok_X12_look [0] 20 ?_
      refine kCall_mono (c_X12_here X mm hg hCm j h3 hj.1) (Nat.le_of_ble_eq_true rfl) ?_
      rintro _ m2 ⟨rfl, rfl⟩
      refine And.intro (fun _ => ?_) (fun h => ?_)
      · refine kCall_mono (c_X12_here X m2 hg hCm j h3 hj.1) (Nat.le_of_ble_eq_true rfl) ?_
        rintro _ m3 ⟨rfl, rfl⟩
        exact hend j m3 hj h1 h2 h3 h5 (by omega)
      · have h : g j = 32 := h
        omega
    | succ k ih =>
      intro j mm hk hj h1 h2 h3 h5
      have hCm : RT g n L mm := ⟨by rw [h2 3 (by decide)]; exact hC.1, by rw [h2 5 (by decide)]; exact hC.2.1, fun i hi => by rw [h1 55 (by decide)]; exact hC.2.2 i hi⟩
      refine kW_go ok_X12_look [0] 20 ?_
      refine kCall_mono (c_X12_here X mm hg hCm j h3 hj.1) (Nat.le_of_ble_eq_true rfl) ?_
      rintro _ m2 ⟨rfl, rfl⟩
      refine And.intro (fun h => ?_) (fun h => ?_)
      · refine kCall_mono (c_X12_here X m2 hg hCm j h3 hj.1) (Nat.le_of_ble_eq_true rfl) ?_
        rintro _ m3 ⟨rfl, rfl⟩
        exact hend j m3 hj h1 h2 h3 h5 h
      · have h : g j = 32 := h
        have hjn : j < n := Int.not_le.mp (fun q => by have := hg.2.1 j q; omega)
        show inR (m2 54 6 + 1) ∧ kW (eX X) 1 M_X12_look T 0 [some (vR 54)] [] (mset m2 54 6 (m2 54 6 + 1))
        rw [h3]
        exact ⟨by constructor <;> omega, ih (j + 1) _ (by omega) (by omega) (fun o ho => by rw [k_mset_ne ho]; exact h1 o ho) (fun f hf => by rw [k_mset_at, if_neg hf]; exact h2 f hf) (by rw [k_mset_at, if_pos rfl]) (by rw [← h5]; exact (skp_s hg h).symm)⟩
  exact loop (n - i).toNat i m (by omega) hi (fun _ _ => rfl) (fun _ _ => rfl) h6 rfl
/-- the place and the fault, after reading -/
def rdE (ok p : Int) (m' : Mem) : Prop := (ok = 1 → m' 54 7 = -1 ∧ m' 54 6 = p) ∧ (ok = 0 → m' 54 7 = p)
theorem c_X12_number (X : Xv) (m : Mem) {g : Int → Int} {n L : Int} (hg : TPE g n) (hC : RT g n L m) (s lo hi9 i : Int) (h6 : m 54 6 = i) (h7 : m 54 7 = -1) (hi : 0 ≤ i ∧ i ≤ n) (hlo : 0 ≤ lo ∧ lo ≤ 99) : kCall (eX X) 3 M_X12_number.1 [vR 54, vI lo, vI hi9] m (fun r m' => ∃ v, r = some (vI v) ∧ inR v ∧ rtS s m m' ∧ (∀ o, o ≠ 54 → m' o = m o) ∧ m' 54 14 = m 54 14 ∧ rdE (numF g lo hi9 (skp g n i)).1 (numF g lo hi9 (skp g n i)).2.1 m' ∧ ((numF g lo hi9 (skp g n i)).1 = 1 → v = (numF g lo hi9 (skp g n i)).2.2)) := by
  have hn := hg.1
  have hp := skp_in hg (i := i) hi.2
  obtain ⟨p, hpp⟩ : ∃ p, p = skp g n i := ⟨_, rfl⟩
  rw [← hpp] at hp
  rw [← hpp]
  have hd1 := dgV_in (g p)
  have hd2 := dgV_in (g (p + 1))
  refine kCall_ofT ok_X12_number rfl (Nat.le_of_ble_eq_true rfl) (fun T hT => ?_)
  refine kW_go ok_X12_number [1] 20 ?_
  refine kCall_mono (c_X12_look X m hg hC i h6 hi) (Nat.le_of_ble_eq_true rfl) ?_
  rw [← hpp]
  rintro _ m1 ⟨rfl, q1, q2, q3⟩
  have s1 : rtS s m m1 := ⟨fun o a _ => q1 o a, fun o a b j _ => by rw [q1 o (by omega)], fun f a _ _ => q2 f a⟩
  have e7 : m1 54 7 = -1 := by rw [q2 7 (by decide)]; exact h7
  have e14 : m1 54 14 = m 54 14 := q2 14 (by decide)
  refine kCall_mono (c_X12_isDigit X m1 (g p)) (Nat.le_of_ble_eq_true rfl) ?_
  rintro _ m2 ⟨⟨hh, rfl⟩ | ⟨hh, rfl⟩, rfl⟩
  rotate_left
  · have hh : dgV (g p) = -1 := Classical.byContradiction hh
    refine And.intro (fun h => absurd rfl h) (fun _ => ?_)
    refine kCall_mono (c_X12_bad X m2) (Nat.le_of_ble_eq_true rfl) ?_
    rintro _ m3 ⟨rfl, rfl⟩
    have hNF : numF g lo hi9 p = (0, p, lo) := by unfold numF; rw [if_pos hh]
    refine hT _ _ ⟨lo, rfl, by constructor <;> omega, rtS_tr s1 (rtS_54 (by omega)), fun o ho => by rw [k_mset_ne ho]; exact q1 o ho, by rw [k_mset_at, if_neg (by decide)]; exact e14, ?_, fun q => by rw [hNF] at q; exact absurd q (by show ¬ (0 : Int) = 1; decide)⟩
    rw [hNF]
    exact ⟨fun q => absurd q (by show ¬ (0 : Int) = 1; decide), fun _ => by rw [k_mset_at, if_pos rfl, if_pos e7]; exact q3⟩
  refine And.intro (fun _ => ?_) (fun h => absurd h (by decide))
  have h1 : ¬ dgV (g p) = -1 := hh
  have a1 := dg_lt hg h1
  have hC2 := RT_s hC s1
  have hgp : g p = dgV (g p) + 48 := by
    unfold dgV at h1 ⊢
    split at h1
    · rename_i e; rw [if_pos e]; omega
    · exact absurd rfl h1
  -- the value told
  have judge : ∀ (v e : Int) (mm : Mem), rtS s m mm → (∀ o, o ≠ 54 → mm o = m o) → mm 54 14 = m 54 14 → mm 54 7 = -1 → mm 54 6 = e → v = (if dgV (g (p + 1)) = -1 then dgV (g p) else dgV (g p) * 10 + dgV (g (p + 1))) → e = (if dgV (g (p + 1)) = -1 then p + 1 else p + 2) → kW (eX X) 2 M_X12_number T 2 [some (vR 54), some (vI lo), some (vI hi9), some (vI v)] [] mm := by
    intro v e mm hs hf f14 f7 f6 hv he
    have hvb : -200 ≤ v ∧ v ≤ 200 := by rw [hv]; split <;> omega
    have heb : p + 1 ≤ e ∧ e ≤ p + 2 := by rw [he]; split <;> omega
    have hCm := RT_s hC hs
    refine kW_go ok_X12_number [3] 20 ?_
    refine kCall_mono (c_X12_in (eX X) mm v lo hi9) (Nat.le_of_ble_eq_true rfl) ?_
    rintro _ mm ⟨rfl, rfl⟩
    refine And.intro (fun h => ?_) (fun h => ?_)
    · have hin : lo ≤ v ∧ v ≤ hi9 := b2i_n.mp h
      have hNF : numF g lo hi9 p = ((if dgV (g (p + 1)) = -1 then 1 else if dgV (g (p + 2)) = -1 then 1 else 0), e, v) := by
        unfold numF
        rw [if_neg h1]
        by_cases z : dgV (g (p + 1)) = -1
        · rw [if_pos z] at hv he ⊢
          rw [← hv, if_pos hin, he, if_pos z]
        · rw [if_neg z] at hv he ⊢
          rw [← hv, if_pos hin, he, if_neg z]
      have hge : dgV (g e) = -1 ↔ (numF g lo hi9 p).1 = 1 := by
        rw [hNF]
        show dgV (g e) = -1 ↔ (if dgV (g (p + 1)) = -1 then (1 : Int) else if dgV (g (p + 2)) = -1 then 1 else 0) = 1
        by_cases z : dgV (g (p + 1)) = -1
        · rw [if_pos z] at he ⊢
          rw [he]
          exact ⟨fun _ => rfl, fun _ => z⟩
        · rw [if_neg z] at he ⊢
          rw [he]
          by_cases z2 : dgV (g (p + 2)) = -1
          · rw [if_pos z2]; exact ⟨fun _ => rfl, fun _ => z2⟩
          · rw [if_neg z2]; exact ⟨fun q => absurd q z2, fun q => absurd q (by decide)⟩
      have e2 : (numF g lo hi9 p).2.1 = e := by rw [hNF]
      have e3 : (numF g lo hi9 p).2.2 = v := by rw [hNF]
      have h01 : (numF g lo hi9 p).1 = 0 ∨ (numF g lo hi9 p).1 = 1 := (numF_in hg hp.1.2).1
      refine kW_go ok_X12_number [] 20 ?_
      refine kCall_mono (c_X12_here X mm hg hCm e f6 (by omega)) (Nat.le_of_ble_eq_true rfl) ?_
      rintro _ m3 ⟨rfl, rfl⟩
      refine kCall_mono (c_X12_isDigit X m3 (g e)) (Nat.le_of_ble_eq_true rfl) ?_
      rintro _ m4 ⟨⟨hh, rfl⟩ | ⟨hh, rfl⟩, rfl⟩
      · refine And.intro (fun h => absurd h (by decide)) (fun _ => ?_)
        refine kCall_mono (c_X12_bad X m4) (Nat.le_of_ble_eq_true rfl) ?_
        rintro _ m5 ⟨rfl, rfl⟩
        have hne : (numF g lo hi9 p).1 ≠ 1 := fun q => hh (hge.mpr q)
        refine hT _ _ ⟨v, rfl, by constructor <;> omega, rtS_tr hs (rtS_54 (by omega)), fun o ho => by rw [k_mset_ne ho]; exact hf o ho, by rw [k_mset_at, if_neg (by decide)]; exact f14, ⟨fun q => absurd q hne, fun _ => by rw [k_mset_at, if_pos rfl, if_pos f7, e2]; exact f6⟩, fun q => absurd q hne⟩
      · have hh : dgV (g e) = -1 := Classical.byContradiction hh
        have h11 := hge.mp hh
        refine And.intro (fun _ => ?_) (fun h => absurd rfl h)
        exact hT _ _ ⟨v, rfl, by constructor <;> omega, hs, hf, f14, ⟨fun _ => ⟨f7, by rw [e2]; exact f6⟩, fun q => by omega⟩, fun _ => e3.symm⟩
    · have hin : ¬ (lo ≤ v ∧ v ≤ hi9) := b2i_0.mp h
      have hNF : numF g lo hi9 p = (0, e - 1, lo) := by
        unfold numF
        rw [if_neg h1]
        by_cases z : dgV (g (p + 1)) = -1
        · rw [if_pos z] at hv he ⊢
          rw [← hv, if_neg hin, he, show p + 1 - 1 = p by omega]
        · rw [if_neg z] at hv he ⊢
          rw [← hv, if_neg hin, he, show p + 2 - 1 = p + 1 by omega]
      show inR (mm 54 6 - 1) ∧ kCall (eX X) 2 188 [vR 54] (mset mm 54 6 (mm 54 6 - 1)) _
      rw [f6]
      refine ⟨by constructor <;> omega, ?_⟩
      refine kCall_mono (c_X12_bad X _) (Nat.le_of_ble_eq_true rfl) ?_
      rintro _ m5 ⟨rfl, rfl⟩
      have g7 : mset mm 54 6 (e - 1) 54 7 = -1 := by rw [k_mset_at, if_neg (by decide)]; exact f7
      refine hT _ _ ⟨lo, rfl, by constructor <;> omega, rtS_tr hs (rtS_tr (rtS_54 (by omega)) (rtS_54 (by omega))), fun o ho => by rw [k_mset_ne ho, k_mset_ne ho]; exact hf o ho, by rw [k_mset_at, if_neg (by decide), k_mset_at, if_neg (by decide)]; exact f14, ?_, fun q => by rw [hNF] at q; exact absurd q (by show ¬ (0 : Int) = 1; decide)⟩
      rw [hNF]
      refine ⟨fun q => absurd q (by show ¬ (0 : Int) = 1; decide), fun _ => ?_⟩
      rw [k_mset_at, if_pos rfl, if_pos g7, k_mset_at, if_pos rfl]
  have s4 : rtS s m (mset m2 54 6 (p + 1)) := rtS_tr s1 (rtS_54 (by omega))
  have u6 : mset m2 54 6 (p + 1) 54 6 = p + 1 := by rw [k_mset_at, if_pos rfl]
  have u7 : mset m2 54 6 (p + 1) 54 7 = -1 := by rw [k_mset_at, if_neg (by decide)]; exact e7
  have u14 : mset m2 54 6 (p + 1) 54 14 = m 54 14 := by rw [k_mset_at, if_neg (by decide)]; exact e14
  have uf : ∀ o, o ≠ 54 → mset m2 54 6 (p + 1) o = m o := fun o ho => by rw [k_mset_ne ho]; exact q1 o ho
  refine kW_go ok_X12_number [2] 20 ?_
  refine kCall_mono (c_X12_here X m2 hg hC2 p q3 (by omega)) (Nat.le_of_ble_eq_true rfl) ?_
  rintro _ m3 ⟨rfl, rfl⟩
  show inR (g p - 48) ∧ inR (m3 54 6 + 1) ∧ kCall (eX X) 2 186 [vR 54] (mset m3 54 6 (m3 54 6 + 1)) _
  rw [q3]
  refine ⟨by constructor <;> omega, by constructor <;> omega, ?_⟩
  refine kCall_mono (c_X12_here X _ hg (RT_s hC s4) (p + 1) u6 (by omega)) (Nat.le_of_ble_eq_true rfl) ?_
  rintro _ m4 ⟨rfl, rfl⟩
  refine kCall_mono (c_X12_isDigit X _ (g (p + 1))) (Nat.le_of_ble_eq_true rfl) ?_
  rintro _ m5 ⟨⟨hh2, rfl⟩ | ⟨hh2, rfl⟩, rfl⟩
  · have h2 : ¬ dgV (g (p + 1)) = -1 := hh2
    have a2 := dg_lt hg h2
    have hgp2 : g (p + 1) = dgV (g (p + 1)) + 48 := by
      unfold dgV at h2 ⊢
      split at h2
      · rename_i e; rw [if_pos e]; omega
      · exact absurd rfl h2
    refine And.intro (fun h => absurd h (by decide)) (fun _ => ?_)
    show inR (10 * (g p - 48)) ∧ kCall (eX X) 2 186 [vR 54] (mset m3 54 6 (p + 1)) _
    refine ⟨by constructor <;> omega, ?_⟩
    refine kCall_mono (c_X12_here X _ hg (RT_s hC s4) (p + 1) u6 (by omega)) (Nat.le_of_ble_eq_true rfl) ?_
    rintro _ m6 ⟨rfl, rfl⟩
    show inR (10 * (g p - 48) + g (p + 1)) ∧ inR (10 * (g p - 48) + g (p + 1) - 48) ∧ inR (mset m3 54 6 (p + 1) 54 6 + 1) ∧ kW (eX X) 2 M_X12_number T 2 [some (vR 54), some (vI lo), some (vI hi9), some (vI (10 * (g p - 48) + g (p + 1) - 48))] [] (mset (mset m3 54 6 (p + 1)) 54 6 (mset m3 54 6 (p + 1) 54 6 + 1))
    rw [u6]
    refine ⟨by constructor <;> omega, by constructor <;> omega, by constructor <;> omega, judge _ (p + 2) _ (rtS_tr s4 (rtS_54 (by omega))) (fun o ho => by rw [k_mset_ne ho]; exact uf o ho) (by rw [k_mset_at, if_neg (by decide)]; exact u14) (by rw [k_mset_at, if_neg (by decide)]; exact u7) (by rw [k_mset_at, if_pos rfl]; omega) (by rw [if_neg h2]; omega) (by rw [if_neg h2])⟩
  · have h2 : dgV (g (p + 1)) = -1 := Classical.byContradiction hh2
    refine And.intro (fun _ => ?_) (fun h => absurd rfl h)
    exact judge _ (p + 1) _ s4 uf u14 u7 u6 (by rw [if_pos h2]; omega) (by rw [if_pos h2])
