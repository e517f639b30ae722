/-! COPPER and PIN alike -/
theorem v4_ne {v : Int} (h : 0 ≤ v ∧ v < 4) : v ≠ 0 ↔ bt v 0 = true ∨ bt v 1 = true := by
  have : ∀ i : Fin 4, (i.val : Int) ≠ 0 ↔ bt (i.val : Int) 0 = true ∨ bt (i.val : Int) 1 = true := by decide +kernel
  have h2 := this ⟨v.toNat, by omega⟩
  simp only [Int.toNat_of_nonneg h.1] at h2
  exact h2
/-- a net beyond those there are has no copper -/
theorem no_cu {w d l : Int} {c : Mem} (hW : WM w d l c) {x : Int} (hx : inC w d l x) {o : Nat} (h8 : o < 8) (ho : c 9 14 ≤ (o : Int)) : bt (c 16 x) o = false ∧ bt (c 17 x) o = false := by
  have hn : 0 ≤ (o : Int) ∧ (o : Int) < 8 := by omega
  obtain ⟨w1, w2⟩ := hW.2.2.1 (o : Int) hn
  have h0 := w2 ho x hx
  obtain ⟨-, -, h17, h16⟩ := w1 x hx
  rw [Int.toNat_natCast] at h17 h16
  have hp := (hW.2.1.1 (o : Int) hn).2 ho
  refine ⟨Bool.eq_false_iff.mpr (fun z => ?_), Bool.eq_false_iff.mpr (fun z => ?_)⟩
  · rcases h16.mp z with q | ⟨p, hp2, -⟩
    · exact q h0.1
    · omega
  · exact h17.mp z h0.2
theorem c_X12_copper (X : Xv) (c m : Mem) {w d l : Int} (hD : okD w d l) (hW : WM w d l c) (hR : RR0 w d l c m) (x y z : Int) : kCall (eX X) 3 M_X12_copper.1 [vR 54, vI x, vI y, vI z] m (cP (if (0 ≤ x ∧ x < w) ∧ (0 ≤ y ∧ y < d) ∧ (0 ≤ z ∧ z < l) then kor (c 16 (ix w d x y z)) (c 17 (ix w d x y z)) else -1) m) := by
  have h8 := hW.1.2.1
  have h26 : m 54 26 = c 9 14 := hR.1.2.2.2.1.1
  obtain ⟨⟨u1, u2⟩, ⟨u3, u4⟩, u5, u6⟩ := id hD
  refine kCall_ofT ok_X12_copper rfl (Nat.le_of_ble_eq_true rfl) (fun T hT => ?_)
  refine kW_go ok_X12_copper [2] 20 ?_
  refine kCall_mono (c_X12_isCell X m hR.1.1 x y z) (Nat.le_of_ble_eq_true rfl) ?_
  rintro _ m ⟨rfl, rfl⟩
  refine And.intro (fun h => ?_) (fun h => ?_)
  · have hc := b2i_n.mp h
    have hx := ix_in (w := w) (d := d) (l := l) hc.1 hc.2.1 hc.2.2
    have hcr : cR w d (ix w d x y z) = 81 * z + 9 * y + x := cR_ix (l := l) hc.1 hc.2.1
    have hg := (cR_geo hD hx).1
    generalize hq : ix w d x y z = q at *
    have hv := hW.2.2.2 q hx
    have loop : ∀ (k : Nat) (n v : Int), n + k = c 9 14 → 0 ≤ n → inR v → (∀ o, o < 32 → bt v o = (decide ((o : Int) < n) && (bt (c 16 q) o || bt (c 17 q) o))) → kW (eX X) 2 M_X12_copper T 2 [some (vR 54), some (vI x), some (vI y), some (vI z), some (vI v), some (vI n)] [] m := by
      intro k
      induction k with
      | zero =>
        intro n v hnk h0 hvr hb
        refine kW_go ok_X12_copper [2] 20 ?_
        refine And.intro (fun _ => hT _ _ ⟨?_, rfl⟩) (fun h => ?_)
        · rw [if_pos hc]
          refine congrArg (fun z => some (vI z)) (bt_ext hvr (k_in_kor _ _) (fun o ho => ?_))
          rw [hb o ho, bt_or]
          by_cases hon : (o : Int) < n
          · rw [decide_eq_true hon, Bool.true_and]
          · rw [decide_eq_false hon, Bool.false_and]
            by_cases h8o : o < 8
            · have := no_cu hW hx h8o (by omega)
              rw [this.1, this.2]
              rfl
            · rw [bt_small (n := 8) (inR_small (by omega)) hv.1.1 hv.1.2 (by omega), bt_small (n := 8) (inR_small (by omega)) hv.2.1 hv.2.2 (by omega)]
              rfl
        · have h : n < m 54 26 := h
          omega
      | succ k ih =>
        intro n v hnk h0 hvr hb
        have hn8 : 0 ≤ n ∧ n < 8 := by omega
        have en : ((n.toNat : Nat) : Int) = n := Int.toNat_of_nonneg h0
        have hstep : ∀ u : Int, inR u → (∀ o, o < 32 → bt u o = (decide ((o : Int) = n) && (bt (c 16 q) o || bt (c 17 q) o))) → inR (n + 1) ∧ kW (eX X) 2 M_X12_copper T 2 [some (vR 54), some (vI x), some (vI y), some (vI z), some (vI (kor v u)), some (vI (n + 1))] [] m := by
          intro u hu hbu
          refine ⟨by constructor <;> omega, ih (n + 1) (kor v u) (by omega) (by omega) (k_in_kor _ _) (fun o ho => ?_)⟩
          rw [bt_or, hb o ho, hbu o ho]
          by_cases e1 : (o : Int) < n
          · rw [decide_eq_true e1, decide_eq_true (show (o : Int) < n + 1 by omega), decide_eq_false (show ¬ (o : Int) = n by omega), Bool.true_and, Bool.false_and, Bool.or_false]
          · rw [decide_eq_false e1, Bool.false_and, Bool.false_or]
            by_cases e2 : (o : Int) = n
            · rw [decide_eq_true e2, decide_eq_true (show (o : Int) < n + 1 by omega)]
            · rw [decide_eq_false e2, decide_eq_false (show ¬ (o : Int) < n + 1 by omega)]
        obtain ⟨-, -, -, -, h72, -⟩ := hR.2 n hn8
        have h72 := h72 q hx
        rw [hcr] at h72
        refine kW_go ok_X12_copper [2] 20 ?_
        refine And.intro (fun h => ?_) (fun _ => ?_)
        · have h : m 54 26 ≤ n := h
          omega
        refine kCall_mono (c_X12_cell (eX X) m x y z (by omega) (by omega) (by omega)) (Nat.le_of_ble_eq_true rfl) ?_
        rintro _ m ⟨rfl, rfl⟩
        refine kCall_mono (c_X12_has X m n (81 * z + 9 * y + x) hn8 (by omega)) (Nat.le_of_ble_eq_true rfl) ?_
        rintro _ m ⟨hr, rfl⟩
        rw [v4_ne h72.1, h72.2.1, h72.2.2] at hr
        rcases hr with ⟨hh, rfl⟩ | ⟨hh, rfl⟩
        · refine And.intro (fun h => absurd h (by decide)) (fun _ => hstep (kshl 1 n) (k_in_kshl _ _) (fun o ho => ?_))
          rw [bt_bit hn8.1 (by omega)]
          by_cases e : (o : Int) = n
          · rw [decide_eq_true e, Bool.true_and, show o = n.toNat by omega]
            exact (Bool.or_eq_true _ _ ▸ hh : (bt (c 16 q) n.toNat || bt (c 17 q) n.toNat) = true).symm
          · rw [decide_eq_false e, Bool.false_and]
        · refine And.intro (fun _ => hstep 0 (by constructor <;> decide) (fun o ho => ?_)) (fun h => absurd rfl h)
          rw [bt_zero]
          by_cases e : (o : Int) = n
          · rw [decide_eq_true e, Bool.true_and, show o = n.toNat by omega]
            cases ha : bt (c 16 q) n.toNat with
            | true => exact absurd (Or.inl ha) hh
            | false =>
              cases hb2 : bt (c 17 q) n.toNat with
              | true => exact absurd (Or.inr hb2) hh
              | false => rfl
          · rw [decide_eq_false e, Bool.false_and]
    refine loop (c 9 14).toNat 0 0 (by omega) (by omega) (by constructor <;> decide) (fun o ho => ?_)
    rw [bt_zero, decide_eq_false (show ¬ (o : Int) < 0 by omega), Bool.false_and]
  · have hc := b2i_0.mp h
    refine hT _ _ ⟨?_, rfl⟩
    rw [if_neg hc]
theorem pair_copper (X : Xv) (m : Mem) {w d l : Int} (hI : Inv X w d l m) (x y z : Int) : kPair X 140 214 [vI x, vI y, vI z] m (Inv X w d l) := by
  have hD := hI.1.1
  refine kp2 (k1 := 3) (k2 := 3) (by decide) (by decide) (kCall_mono (c_X11_copper X m hD hI.1.2.1 hI.1.2.2 x y z) (Nat.le_refl _) ?_)
  rintro _ m1 ⟨rfl, rfl⟩
  refine ⟨_, rfl, kCall_mono (c_X12_copper X m1 m1 hD (WF_WM hI.2.2.1) (RR_0 hI.2.2.2.1) x y z) (Nat.le_refl _) ?_⟩
  rintro _ m2 ⟨rfl, rfl⟩
  exact ⟨rfl, hI⟩
