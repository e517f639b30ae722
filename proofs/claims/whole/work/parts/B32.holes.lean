/-! WANDER: the sums -/
theorem st_R {w d l : Int} (hD : okD w d l) {c r : Mem} (hR : RR0 w d l c r) (h8 : c 9 14 ≤ 8) {dx dy n x k : Int} (hn : 0 ≤ n ∧ n < 8) (hx : inC w d l x) (hk : can k) (hne : nx w d l x k ≠ -1) : (shR w d r dx dy n (cR w d x) (cR w d (nx w d l x k)) = (if k = 4 then iv (shN w d l c dx dy n x) 1 else 0) ∧ shR w d r dx dy n (cR w d (nx w d l x k)) (cR w d x) = (if k = 4 then iv (shN w d l c dx dy n x) 1 else 0)) ∧ opR w d r dx dy n (cR w d x) (cR w d (nx w d l x k)) = (if k = 4 then iv (opN w d l c dx dy n x) 1 else 0) ∧ opR w d r dx dy n (cR w d (nx w d l x k)) (cR w d x) = (if k = 4 then iv (opN w d l c dx dy n x) 1 else 0) := by
  have hl := lay_eq hD hx hk hne
  by_cases e : k = 4
  · subst e
    rw [if_pos rfl, if_pos rfl]
    have hl4 : cR w d x / 81 ≠ cR w d (nx w d l x 4) / 81 := fun z => hl.mp z rfl
    have hg := cR_geo hD hx
    have hy := nx_in hne
    have hgy := cR_geo hD hy.1
    have dx4 : dX 4 = 0 := rfl
    have dy4 : dY 4 = 0 := rfl
    have dz4 : dZ 4 = 1 := rfl
    have hz := gZ_in hD hx
    have hzy := gZ_in hD hy.1
    have ex : gX w (nx w d l x 4) = gX w x := by rw [hy.2.1, dx4, Int.add_zero]
    have ey : gY w d (nx w d l x 4) = gY w d x := by rw [hy.2.2.1, dy4, Int.add_zero]
    have ez : gZ w d (nx w d l x 4) = gZ w d x + 1 := by rw [hy.2.2.2, dz4]
    have h26 : r 54 26 = c 9 14 := hR.1.2.2.2.1.1
    obtain ⟨t, ht⟩ : ∃ t, t = stTo w d l dx dy x := ⟨_, rfl⟩
    have hP : stP w d dx dy (cR w d x) ↔ t ≠ -1 := by
      rw [ht]
      unfold stP stTo
      rw [hg.2.1, hg.2.2.1, Ne, cAt_no hD.2.2.1 ⟨hD.1.1, hD.2.1.1⟩, Classical.not_not]
      exact ⟨fun z => ⟨z.1, z.2, hz⟩, fun z => ⟨z.1, z.2.1⟩⟩
    have hT : t ≠ -1 → inC w d l t ∧ cR w d t = cR w d x + 9 * dy + dx ∧ inC w d l (nx w d l t 4) ∧ cR w d (nx w d l t 4) = cR w d (nx w d l x 4) + 9 * dy + dx := by
      intro h
      have hp := hP.mpr h
      unfold stP at hp
      rw [hg.2.1, hg.2.2.1] at hp
      have et : t = ix w d (gX w x + dx) (gY w d x + dy) (gZ w d x) := by
        rw [ht]
        unfold stTo cAt
        rw [if_pos ⟨hp.1, hp.2, hz⟩]
      have hin : inC w d l t := by rw [et]; exact ix_in hp.1 hp.2 hz
      have tX : gX w t = gX w x + dx := by rw [et]; exact ix_X hp.1
      have tY : gY w d t = gY w d x + dy := by rw [et]; exact ix_Y hp.1 hp.2
      have tZ : gZ w d t = gZ w d x := by rw [et]; exact ix_Z hp.1 hp.2
      have hn4 : nx w d l t 4 ≠ -1 := nx_of (by rw [tX, tY, tZ, dx4, dy4, dz4]; omega)
      have hy4 := nx_in hn4
      refine ⟨hin, ?_, hy4.1, ?_⟩
      · unfold cR
        rw [tX, tY, tZ]
        omega
      · unfold cR
        rw [hy4.2.1, hy4.2.2.1, hy4.2.2.2, tX, tY, tZ, dx4, dy4, dz4, ex, ey, ez]
        omega
    have hs : shR w d r dx dy n (cR w d x) (cR w d (nx w d l x 4)) = iv (shN w d l c dx dy n x) 1 := by
      unfold shR
      rw [if_neg hl4]
      refine iv_cong ?_
      unfold shN stH
      rw [hP, ← ht, h26]
      refine and_congr_right (fun h => ?_)
      obtain ⟨t1, t2, t3, t4⟩ := hT h
      rw [← t2, ← t4]
      constructor
      · rintro ⟨o, a, b, z⟩
        rw [cuN_72 (hR.2 o (by omega)) t1, cuN_72 (hR.2 o (by omega)) t3] at z
        exact ⟨o, a, b, z⟩
      · rintro ⟨o, a, b, z⟩
        rw [← cuN_72 (hR.2 o (by omega)) t1, ← cuN_72 (hR.2 o (by omega)) t3] at z
        exact ⟨o, a, b, z⟩
    have ho : opR w d r dx dy n (cR w d x) (cR w d (nx w d l x 4)) = iv (opN w d l c dx dy n x) 1 := by
      unfold opR
      rw [if_neg hl4]
      refine iv_cong (not_congr ?_)
      unfold stL
      rw [hP, ← ht]
      refine and_congr_right (fun h => ?_)
      obtain ⟨t1, t2, t3, t4⟩ := hT h
      rw [← t2, ← t4, cuN_72 (hR.2 n hn) t1, cuN_72 (hR.2 n hn) t3]
    have hsy := st_sy (w := w) (d := d) (r := r) (dx := dx) (dy := dy) (n := n) (a := cR w d x) (b := cR w d (nx w d l x 4)) (by rw [hg.2.1, hg.2.2.1, hgy.2.1, hgy.2.2.1, ex, ey]; exact ⟨rfl, rfl⟩)
    exact ⟨⟨hs, hsy.1.symm.trans hs⟩, ho, hsy.2.symm.trans ho⟩
  · rw [if_neg e, if_neg e]
    have hq := hl.mpr e
    unfold shR opR
    rw [if_pos hq, if_pos hq.symm, if_pos hq, if_pos hq.symm]
    exact ⟨⟨rfl, rfl⟩, rfl, rfl⟩
/-- what a net's holes do -/
noncomputable def stA (w d l : Int) (N : Nat) (c : Mem) (f : Int → Int → Prop) (n : Int) : Int := sumN (fun x => if bt (kor (c 18 (n * (N : Int) + x)) (c 19 (n * (N : Int) + x))) 4 = true then iv (f n x) 1 else 0) N
theorem r3_4 (v z : Int) : r3 v (fun k => if k = 4 then z else 0) = if bt v 4 = true then z else 0 := by
  unfold r3
  dsimp only
  rw [if_neg (show ¬ (1 : Int) = 4 by decide), if_neg (show ¬ (2 : Int) = 4 by decide), if_pos rfl]
  split <;> split <;> split <;> omega
theorem st_list {w d l : Int} (hD : okD w d l) {N : Nat} (hN : w * d * l = (N : Int)) {c r : Mem} {n : Int} (hn : 0 ≤ n ∧ n < 8) (hW : WFn w d l c n) (hR : RRk w d l c r n) (f : Int → Int → Prop) (H : Int → Int → Int) (hH : ∀ x k, inC w d l x → can k → nx w d l x k ≠ -1 → H (cR w d x) (cR w d (nx w d l x k)) = (if k = 4 then iv (f n x) 1 else 0) ∧ H (cR w d (nx w d l x k)) (cR w d x) = (if k = 4 then iv (f n x) 1 else 0)) : sumN (fun i => H (r 66 (1200 * n + i)) (r 67 (1200 * n + i))) (r 65 n).toNat + sumN (fun i => iv (¬ wrP r n (r 69 (2400 * n + i)) (r 70 (2400 * n + i))) (H (r 69 (2400 * n + i)) (r 70 (2400 * n + i)))) (r 68 n).toNat = stA w d l N c f n := by
  have hzw : ∀ x, inC w d l x → ∀ k : Int, (0 ≤ k ∧ k < 6) → nx w d l x k = -1 → bt (c 18 (n * (w * d * l) + x)) k.toNat = false := fun x hx k hk hne => ((hW.1 x hx).2.1 k hk hne).1
  have hzt : ∀ x, inC w d l x → ∀ k : Int, (0 ≤ k ∧ k < 6) → nx w d l x k = -1 → bt (c 19 (n * (w * d * l) + x)) k.toNat = false := fun x hx k hk hne => ((hW.1 x hx).2.1 k hk hne).2
  have s1 := sum_rows hD hN hR.1 hzw H (fun x k => if k = 4 then iv (f n x) 1 else 0) hH
  have s2 := sum_rows hD hN hR.2.2.1 hzt (fun a b => iv (¬ wrP r n a b) (H a b)) (fun x k => if bt (c 18 (n * (w * d * l) + x)) k.toNat = true then 0 else if k = 4 then iv (f n x) 1 else 0) (fun x k hx hk hne => by
    have hb := wrP_bit hD hR hx (can_in hk) hne
    have hdd := hH x k hx hk hne
    by_cases e : bt (c 18 (n * (w * d * l) + x)) k.toNat = true
    · rw [if_pos e, iv_f (fun z => z (hb.mpr e)), iv_f (fun z => z (wrP_sy.mp (hb.mpr e)))]
      exact ⟨rfl, rfl⟩
    · rw [if_neg e, iv_t (fun z => e (hb.mp z)), iv_t (fun z => e (hb.mp (wrP_sy.mp z)))]
      exact hdd)
  rw [show sumN (fun i => H (r 66 (1200 * n + i)) (r 67 (1200 * n + i))) (r 65 n).toNat = _ from s1, show sumN (fun i => iv (¬ wrP r n (r 69 (2400 * n + i)) (r 70 (2400 * n + i))) (H (r 69 (2400 * n + i)) (r 70 (2400 * n + i)))) (r 68 n).toNat = _ from s2, ← sumN_plus]
  unfold stA
  refine sumN_cong (fun x h0 h1 => ?_)
  rw [← hN, ← r3_4, r3_or]
