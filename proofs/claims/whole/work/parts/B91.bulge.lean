/-! STRETCH: the reference's single bend -/
theorem adR_app {w d l n : Int} : ∀ (ks ks' : List Int) (x : Int) (m : Mem), adR w d l n (ks ++ ks') x m = adR w d l n ks' (endP w d l ks x) (adR w d l n ks x m)
  | [], _, _, _ => rfl
  | k :: ks, ks', x, m => adR_app ks ks' (nx w d l x k) (aT n (cR w d x) (cR w d (nx w d l x k)) m)
/-- the same, with places of the copper marked -/
def mkd (old : Int → Prop) (r mm : Mem) : Prop := (∀ o, o ≠ 72 → mm o = r o) ∧ ∀ j, (old j → mm 72 j = kor (r 72 j) 4) ∧ (¬ old j → mm 72 j = r 72 j)
theorem kor_42 (v : Int) : kor (kor v 4) 2 = kor (kor v 2) 4 := bt_ext (k_in_kor _ _) (k_in_kor _ _) (fun k _ => by rw [bt_or, bt_or, bt_or, bt_or]; cases bt v k <;> cases bt 4 k <;> cases bt 2 k <;> rfl)
theorem mkd_put {old : Int → Prop} {r mm : Mem} {j : Int} (h : mkd old r mm) : mkd old (mset r 72 j (kor (r 72 j) 2)) (mset mm 72 j (kor (mm 72 j) 2)) := by
  refine ⟨fun o ho => by rw [k_mset_ne ho, k_mset_ne ho]; exact h.1 o ho, fun i => ⟨fun hi => ?_, fun hi => ?_⟩⟩
  · rw [k_mset_at, k_mset_at]
    by_cases e : i = j
    · rw [if_pos e, if_pos e, ← e, (h.2 i).1 hi, kor_42]
    · rw [if_neg e, if_neg e]; exact (h.2 i).1 hi
  · rw [k_mset_at, k_mset_at]
    by_cases e : i = j
    · rw [if_pos e, if_pos e, ← e, (h.2 i).2 hi]
    · rw [if_neg e, if_neg e]; exact (h.2 i).2 hi
theorem mkd_aT {old : Int → Prop} {n a b : Int} {r mm : Mem} (h : mkd old r mm) : mkd old (aT n a b r) (aT n a b mm) := by
  have e68 : mm 68 = r 68 := h.1 68 (by decide)
  have h1 : mkd old (mset (mset (mset r 69 (2400 * n + r 68 n) a) 70 (2400 * n + r 68 n) b) 68 n (r 68 n + 1)) (mset (mset (mset mm 69 (2400 * n + mm 68 n) a) 70 (2400 * n + mm 68 n) b) 68 n (mm 68 n + 1)) := by
    rw [e68]
    refine ⟨fun o ho => ?_, fun j => ?_⟩
    · funext j
      by_cases p1 : o = 68
      · subst p1; rw [k_mset_at, k_mset_at, k_mset_ne (by decide), k_mset_ne (by decide), k_mset_ne (by decide), k_mset_ne (by decide), h.1 68 (by decide)]
      · rw [k_mset_ne p1, k_mset_ne p1]
        by_cases p2 : o = 70
        · subst p2; rw [k_mset_at, k_mset_at, k_mset_ne (by decide), k_mset_ne (by decide), h.1 70 (by decide)]
        · rw [k_mset_ne p2, k_mset_ne p2]
          by_cases p3 : o = 69
          · subst p3; rw [k_mset_at, k_mset_at, h.1 69 (by decide)]
          · rw [k_mset_ne p3, k_mset_ne p3, h.1 o ho]
    · rw [k_mset_ne (by decide), k_mset_ne (by decide), k_mset_ne (by decide), k_mset_ne (by decide), k_mset_ne (by decide), k_mset_ne (by decide)]
      exact h.2 j
  exact mkd_put (mkd_put h1)
theorem c_X12_isRoom (X : Xv) (c mm : Mem) {w d l : Int} (hD : okD w d l) (hs : srt c) (hG : RelG w d l c mm) (n y : Int) (hn : 0 ≤ n ∧ n < c 9 14) (hn8 : n < 8) (hy : y ≠ -1 → inC w d l y) : kCall (eX X) 4 M_X12_isRoom.1 [vR 54, vI n, vI (if y = -1 then -1 else cR w d y)] mm (bP (y ≠ -1 ∧ frT w d l (cntT mm) c n 0 y ∧ mm 72 (324 * n + cR w d y) = 0) mm) := by
  refine kCall_ofT ok_X12_isRoom rfl (Nat.le_of_ble_eq_true rfl) (fun T hT => ?_)
  have hone : ¬ (y ≠ -1 ∧ frT w d l (cntT mm) c n 0 y ∧ mm 72 (324 * n + cR w d y) = 0) → T (some (vI 0)) mm := fun h => hT _ _ ⟨Or.inl rfl, Or.inr ⟨h, rfl⟩, rfl⟩
  by_cases e : y = -1
  · rw [if_pos e]
    refine kW_go ok_X12_isRoom [] 20 ?_
    exact And.intro (fun _ => hone (fun q => q.1 e)) (fun h => absurd rfl h)
  · rw [if_neg e]
    have hyi := hy e
    have hg := (cR_geo hD hyi).1
    refine kW_go ok_X12_isRoom [] 20 ?_
    refine And.intro (fun h => ?_) (fun _ => ?_)
    · have h : cR w d y = -1 := h
      omega
    · refine kCall_mono (c_X12_isFreeT X c mm hD hs hG n y 0 hn hyi) (Nat.le_of_ble_eq_true rfl) ?_
      rintro _ m2 ⟨⟨hh, rfl⟩ | ⟨hh, rfl⟩, rfl⟩
      · refine And.intro (fun h => absurd h (by decide)) (fun _ => ?_)
        refine kCall_mono (c_X12_has X m2 n _ ⟨hn.1, hn8⟩ hg) (Nat.le_of_ble_eq_true rfl) ?_
        rintro _ m3 ⟨⟨h2, rfl⟩ | ⟨h2, rfl⟩, rfl⟩
        · exact And.intro (fun _ => hone (fun q => h2 q.2.2)) (fun h => absurd h (by decide))
        · exact And.intro (fun h => absurd rfl h) (fun _ => hT _ _ ⟨Or.inr rfl, Or.inl ⟨⟨e, hh, Classical.byContradiction h2⟩, rfl⟩, rfl⟩)
      · exact And.intro (fun _ => hone (fun q => hh q.2.1)) (fun h => absurd rfl h)
/-- a move bent in the reference's list -/
def buM (w d l n p σ p1 : Int) (m : Mem) : Mem := aT n (cR w d (nx w d l p1 σ)) (cR w d p1) (aT n (cR w d (nx w d l p σ)) (cR w d (nx w d l p1 σ)) (aT n (cR w d p) (cR w d (nx w d l p σ)) m))
theorem aT_68n {n a b : Int} {m : Mem} : aT n a b m 68 n = m 68 n + 1 := by rw [aT_68]; exact if_pos rfl
set_option maxRecDepth 100000 in
theorem c_X12_bulge (X : Xv) (c mm : Mem) {w d l : Int} (hD : okD w d l) (hs : srt c) (hG : RelG w d l c mm) (n p p1 σ : Int) (hn : 0 ≤ n ∧ n < c 9 14) (hn8 : n < 8) (hp : inC w d l p) (hp1 : inC w d l p1) (hσ : 0 ≤ σ ∧ σ < 6) (h68 : 0 ≤ mm 68 n ∧ mm 68 n + 3 < 2400) : kCall (eX X) 5 M_X12_bulge.1 [vR 54, vI n, vI (cR w d p), vI (cR w d p1), vI σ] mm (fun r m' => (((nx w d l p σ ≠ -1 ∧ frT w d l (cntT mm) c n 0 (nx w d l p σ) ∧ mm 72 (324 * n + cR w d (nx w d l p σ)) = 0) ∧ (nx w d l p1 σ ≠ -1 ∧ frT w d l (cntT mm) c n 0 (nx w d l p1 σ) ∧ mm 72 (324 * n + cR w d (nx w d l p1 σ)) = 0)) ∧ r = some (vI 1) ∧ m' = buM w d l n p σ p1 mm) ∨ (¬ ((nx w d l p σ ≠ -1 ∧ frT w d l (cntT mm) c n 0 (nx w d l p σ) ∧ mm 72 (324 * n + cR w d (nx w d l p σ)) = 0) ∧ (nx w d l p1 σ ≠ -1 ∧ frT w d l (cntT mm) c n 0 (nx w d l p1 σ) ∧ mm 72 (324 * n + cR w d (nx w d l p1 σ)) = 0)) ∧ r = some (vI 0) ∧ m' = mm)) := by
  have hd := hG.1
  have hn8' : 0 ≤ n ∧ n < 8 := ⟨hn.1, hn8⟩
  obtain ⟨s, hss⟩ : ∃ s, s = nx w d l p σ := ⟨_, rfl⟩
  obtain ⟨t, htt⟩ : ∃ t, t = nx w d l p1 σ := ⟨_, rfl⟩
  obtain ⟨R, hR⟩ : ∃ R : Int → Prop, ∀ y, R y ↔ (y ≠ -1 ∧ frT w d l (cntT mm) c n 0 y ∧ mm 72 (324 * n + cR w d y) = 0) := ⟨_, fun _ => Iff.rfl⟩
  have hsi : s ≠ -1 → inC w d l s := fun h => by rw [hss]; exact (nx_in (by rw [← hss]; exact h)).1
  have hti : t ≠ -1 → inC w d l t := fun h => by rw [htt]; exact (nx_in (by rw [← htt]; exact h)).1
  have hgp := (cR_geo hD hp).1
  have hgp1 := (cR_geo hD hp1).1
  rw [← hss, ← htt, ← hR, ← hR]
  refine kCall_ofT ok_X12_bulge rfl (Nat.le_of_ble_eq_true rfl) (fun T hT => ?_)
  have hrs := c_X12_isRoom X c mm hD hs hG n s hn hn8 hsi
  have hrt := c_X12_isRoom X c mm hD hs hG n t hn hn8 hti
  rw [← hR] at hrs hrt
  have hone : ¬ (R s ∧ R t) → T (some (vI 0)) mm := fun h => hT _ _ ⟨Or.inl rfl, Or.inr ⟨h, rfl, rfl⟩⟩
  have mv : ∀ x k, mR w d l x k = if nx w d l x k = -1 then -1 else cR w d (nx w d l x k) := fun x k => by
    by_cases e : nx w d l x k = -1
    · rw [show mR w d l x k = -1 from if_pos e, if_pos e]
    · rw [show mR w d l x k = cR w d (nx w d l x k) from if_neg e, if_neg e]
  refine kW_go ok_X12_bulge [2] 20 ?_
  refine kCall_mono (c_X12_moved X mm hd p σ hp) (Nat.le_of_ble_eq_true rfl) ?_
  rw [mv, ← hss]
  rintro _ m2 ⟨rfl, rfl⟩
  refine kCall_mono (c_X12_moved X m2 hd p1 σ hp1) (Nat.le_of_ble_eq_true rfl) ?_
  rw [mv, ← htt]
  rintro _ m3 ⟨rfl, rfl⟩
  refine kCall_mono hrs (Nat.le_of_ble_eq_true rfl) ?_
  rintro _ m4 ⟨⟨h1, rfl⟩ | ⟨h1, rfl⟩, rfl⟩
  rotate_left
  · exact And.intro (fun _ => hone (fun q => h1 q.1)) (fun h => absurd rfl h)
  refine And.intro (fun h => absurd h (by decide)) (fun _ => ?_)
  refine kCall_mono hrt (Nat.le_of_ble_eq_true rfl) ?_
  rintro _ m5 ⟨⟨h2, rfl⟩ | ⟨h2, rfl⟩, rfl⟩
  rotate_left
  · exact And.intro (fun h => absurd rfl h) (fun _ => hone (fun q => h2 q.2))
  refine And.intro (fun _ => ?_) (fun h => absurd h (by decide))
  have hsne := ((hR s).mp h1).1
  have htne := ((hR t).mp h2).1
  have hgs := (cR_geo hD (hsi hsne)).1
  have hgt := (cR_geo hD (hti htne)).1
  rw [if_neg hsne, if_neg htne]
  have hgo : kW (eX X) 4 M_X12_bulge T 2 [some (vR 54), some (vI n), some (vI (cR w d p)), some (vI (cR w d p1)), some (vI σ), some (vI (cR w d s)), some (vI (cR w d t))] [] m5 := by
    refine kW_go ok_X12_bulge [] 20 ?_
    refine kCall_mono (c_X12_addTrace X m5 n _ _ hn8' hgp hgs (by omega)) (Nat.le_of_ble_eq_true rfl) ?_
    rintro _ m6 ⟨rfl, rfl⟩
    refine kCall_mono (c_X12_addTrace X _ n _ _ hn8' hgs hgt (by rw [aT_68n]; omega)) (Nat.le_of_ble_eq_true rfl) ?_
    rintro _ m7 ⟨rfl, rfl⟩
    refine kCall_mono (c_X12_addTrace X _ n _ _ hn8' hgt hgp1 (by rw [aT_68n, aT_68n]; omega)) (Nat.le_of_ble_eq_true rfl) ?_
    rintro _ m8 ⟨rfl, rfl⟩
    refine hT _ _ ⟨Or.inr rfl, Or.inl ⟨⟨h1, h2⟩, rfl, ?_⟩⟩
    unfold buM
    rw [← hss, ← htt]
  exact hgo
