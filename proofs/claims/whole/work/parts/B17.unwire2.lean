/-! UNWIRE alike -/
theorem setB_wsame {w d l N n : Int} {m m' : Mem} (hN : w * d * l = N) (h : setB N n m m') : wsame w d l n m m' := by
  subst hN
  exact ⟨fun o a _ => h.1 o a, fun n' x _ _ _ => by rw [h.1 18 (by decide)], fun x o hx ho => (h.2 x hx).2.1 o ho⟩
/-- a net without wires -/
theorem fill18 {w d l n n' x : Int} {m : Mem} (hx : inC w d l x) : mfill m 18 (n * (w * d * l)) (n * (w * d * l) + w * d * l) 0 18 (n' * (w * d * l) + x) = if n' = n then 0 else m 18 (n' * (w * d * l) + x) := by
  obtain ⟨h1, h2⟩ := hx
  rw [mfill_at]
  by_cases hn : n' = n
  · rw [if_pos hn, hn, if_pos (by omega)]
  · rw [if_neg hn]
    by_cases hlt : n' < n
    · have hm : (n' + 1) * (w * d * l) ≤ n * (w * d * l) := Int.mul_le_mul_of_nonneg_right (by omega) (by omega)
      rw [Int.add_mul, Int.one_mul] at hm
      rw [if_neg (by omega)]
    · have hm : (n + 1) * (w * d * l) ≤ n' * (w * d * l) := Int.mul_le_mul_of_nonneg_right (by omega) (by omega)
      rw [Int.add_mul, Int.one_mul] at hm
      rw [if_neg (by omega)]
set_option maxRecDepth 100000 in
theorem pair_unwire (X : Xv) (m : Mem) {w d l : Int} (hI : Inv X w d l m) (n : Int) : kPair X 170 313 [vI n] m (Inv X w d l) := by
  obtain ⟨hB, hl, hW, hR, h60, h31⟩ := id hI
  have hD := hB.1
  have hc4 := okD_cells hD
  have hN := hB.2.1
  have h8 := hW.1.2.1
  have h26 : m 54 26 = m 9 14 := hR.1.2.2.2.1.1
  have hpins : (0 ≤ n ∧ n < 8) → (0 ≤ m 63 n ∧ m 63 n ≤ 4) ∧ ∀ p : Int, (0 ≤ p ∧ p < m 63 n) → 0 ≤ m 64 (4 * n + p) ∧ m 64 (4 * n + p) < 324 := by
    intro hn8
    have h7 := hR.1.2.2.2.2.1 n hn8
    rw [h7.2.1]
    refine ⟨(hW.2.1.1 n hn8).1, fun p hp => ?_⟩
    rw [h7.2.2 p hp]
    exact (cR_geo hD (hW.2.1.2.1 n p hn8 hp)).1
  have hcop : (0 ≤ n ∧ n < 8) → ∀ j : Int, (0 ≤ j ∧ j < 324) → 0 ≤ m 72 (324 * n + j) ∧ m 72 (324 * n + j) < 4 := by
    intro hn8 j hj
    obtain ⟨-, -, -, -, q5, q6⟩ := hR.2.1 n hn8
    by_cases hin : inRf w d l j
    · obtain ⟨hx, e⟩ := cC_in hin
      rw [← e]
      exact (q5 _ hx).1
    · rw [q6 j hj hin]
      decide
  refine kp2 (k1 := 4) (k2 := 3) (by decide) (by decide) ?_
  refine kCall_ofT ok_X11_unwire rfl (Nat.le_of_ble_eq_true rfl) (fun T hT => ?_)
  have hno : ¬ ((0 ≤ n ∧ n < m 54 26) ∧ m 65 n ≠ 0) → T (some (vI 0)) m := by
    intro h
    refine hT _ _ ⟨Or.inl rfl, 0, rfl, kCall_mono (c_X12_unwire X m n (by omega) hpins hcop) (Nat.le_refl _) ?_⟩
    rintro _ m2 (⟨h2, -⟩ | ⟨-, rfl, rfl⟩)
    · exact absurd h2 h
    · exact ⟨rfl, hI⟩
  refine kW_go ok_X11_unwire [] 20 ?_
  refine kCall_mono (c_X11_isNet X m n) (Nat.le_of_ble_eq_true rfl) ?_
  rintro _ m ⟨rfl, rfl⟩
  refine And.intro (fun h => hno (fun q => b2i_0.mp h (by rw [← h26]; exact q.1))) (fun h => ?_)
  have hnn := b2i_n.mp h
  have hn8 : 0 ≤ n ∧ n < 8 := by omega
  have hWn := hW.2.2.1 n hn8
  have hRk := (RRn_k.mp (hR.2.1 n hn8)).1
  refine kCall_mono (c_X3_hasWires X m hB n hn8 hWn hRk) (Nat.le_of_ble_eq_true rfl) ?_
  rintro _ m ⟨⟨hw, rfl⟩ | ⟨hw, rfl⟩, rfl⟩
  · refine And.intro (fun _ => ?_) (fun h => absurd h (by decide))
    refine kCall_mono (c_X3_removeWires X m n (by omega) (by rw [hB.2.2.2.2.2.2.1]; omega) hn8 (hW.2.1.1 n hn8).1 (fun p hp => ?_) (fun x hx => ?_)) (Nat.le_of_ble_eq_true rfl) ?_
    · have := hW.2.1.2.1 n p hn8 hp
      exact ⟨this.1, by have := this.2; omega⟩
    · exact (hW.2.2.2.1 x ⟨hx.1, by omega⟩).1
    rintro _ m1 ⟨rfl, hS⟩
    rw [← hN] at hS
    have f : ∀ o, o ≠ 16 → o ≠ 18 → m1 o = m o := fun o a b => by rw [hS.1 o a, mfill_ne b]
    have f18 : ∀ n' x : Int, inC w d l x → m1 18 (n' * (w * d * l) + x) = if n' = n then 0 else m 18 (n' * (w * d * l) + x) := fun n' x hx => by rw [hS.1 18 (by decide)]; exact fill18 hx
    have f16 : ∀ x, inC w d l x → (0 ≤ m1 16 x ∧ m1 16 x < 256) ∧ (∀ o : Nat, (o : Int) ≠ n → bt (m1 16 x) o = bt (m 16 x) o) ∧ (bt (m1 16 x) n.toNat = true ↔ pinT m n x) := by
      intro x hx
      obtain ⟨a, b, e⟩ := hS.2 x hx
      rw [mfill_ne (show (16 : Nat) ≠ 18 by decide)] at b
      refine ⟨a, b, e.trans ?_⟩
      rw [fill18 hx, if_pos rfl]
      unfold pinT
      rw [mfill_ne (by decide), mfill_ne (by decide)]
      exact ⟨fun z => z.elim (fun z => absurd rfl z) id, Or.inr⟩
    have hts : wsame w d l n m m1 := ⟨f, fun n' x _ hne hx => by rw [f18 n' x hx, if_neg hne], fun x o hx ho => (f16 x hx).2.1 o ho⟩
    have e65 : m1 65 n ≠ 0 := by rw [f 65 (by decide) (by decide)]; exact hw
    refine hT _ _ ⟨Or.inr rfl, 1, rfl, kCall_mono (c_X12_unwire X m1 n (by rw [f 54 (by decide) (by decide)]; omega) (by rw [f 63 (by decide) (by decide), f 64 (by decide) (by decide)]; exact hpins) (by rw [f 72 (by decide) (by decide)]; exact hcop)) (Nat.le_refl _) ?_⟩
    rintro _ m2 (⟨-, rfl, g, g65, g72, gj⟩ | ⟨h2, -⟩)
    · rw [f 72 (by decide) (by decide)] at g72
      rw [f 72 (by decide) (by decide), f 63 (by decide) (by decide), f 64 (by decide) (by decide)] at gj
      rw [f 65 (by decide) (by decide)] at g65
      have hR1 : RR w d l m m1 := RR_ref (fun o a _ => f o (by omega) (by omega)) hR
      have hrs : wrs n m1 m2 := ⟨fun o a b e h => g o a h, fun j hj => by rw [g65, if_neg hj, f 65 (by decide) (by decide)], fun j hj => by rw [g 66 (by decide) (by decide), g 67 (by decide) (by decide)]; exact ⟨rfl, rfl⟩, fun j hj => by rw [g72 j hj, f 72 (by decide) (by decide)]⟩
      have hW1 : WFn w d l m1 n := by
        obtain ⟨w1, w2⟩ := hWn
        unfold WFn
        refine ⟨fun x hx => ?_, fun hc => ?_⟩
        · obtain ⟨a1, a2, a3, a4⟩ := w1 x hx
          have e18 := f18 n x hx
          rw [if_pos rfl] at e18
          rw [e18, f 17 (by decide) (by decide), f 19 (by decide) (by decide)]
          refine ⟨⟨by decide, a1.2⟩, fun k hk hkn => ⟨bt_zero _, (a2 k hk hkn).2⟩, a3, (f16 x hx).2.2.trans ?_⟩
          unfold pinT
          rw [f 13 (by decide) (by decide), f 14 (by decide) (by decide)]
          exact ⟨Or.inr, fun z => z.elim (fun z => absurd rfl z) id⟩
        · rw [f 9 (by decide) (by decide)] at hc
          omega
      have h7 := hR.1.2.2.2.2.1 n hn8
      have hR2 : RRn w d l m1 m2 n := by
        obtain ⟨b1, b2, b3, b4, b5, b6⟩ := hR.2.1 n hn8
        have e0 : m2 65 n = 0 := by rw [g65, if_pos rfl]
        have gg : ∀ o, 54 ≤ o → o ≠ 65 → o ≠ 72 → m2 o = m o := fun o a b e => by rw [g o b e, f o (by omega) (by omega)]
        unfold RRn
        rw [e0, gg 68 (by decide) (by decide) (by decide), gg 69 (by decide) (by decide) (by decide), gg 70 (by decide) (by decide) (by decide), f 13 (by decide) (by decide), f 14 (by decide) (by decide), f 17 (by decide) (by decide), f 19 (by decide) (by decide)]
        refine ⟨⟨⟨Int.le_refl _, fun i hi => by omega, fun i j hij => by omega⟩, fun x k hx hk hne => ?_⟩, fun i hi => by omega, b3, b4, fun x hx => ?_, fun j hj hnj => ?_⟩
        · show bt (m1 18 (n * (w * d * l) + x)) k.toNat = true ↔ _
          rw [f18 n x hx, if_pos rfl, bt_zero]
          exact ⟨fun z => (by cases z), fun ⟨i, hi, _⟩ => by omega⟩
        · have hg := (cR_geo hD hx).1
          obtain ⟨v1, v2, v3⟩ := gj _ hg
          refine ⟨v1, v2.trans (Iff.trans ?_ (f16 x hx).2.2.symm), by rw [v3]; exact (b5 x hx).2.2⟩
          rw [h7.2.1]
          constructor
          · rintro ⟨p, hp, e⟩
            rw [h7.2.2 p hp] at e
            exact ⟨p, hp, cR_inj hD (hW.2.1.2.1 n p hn8 hp) hx e⟩
          · rintro ⟨p, hp, e⟩
            exact ⟨p, hp, by rw [h7.2.2 p hp, e]⟩
        · obtain ⟨v1, v2, v3⟩ := gj j hj
          refine Classical.byContradiction (fun hv => ?_)
          rcases (v4_ne v1).mp hv with q | q
          · obtain ⟨p, hp, e⟩ := v2.mp q
            rw [h7.2.1] at hp
            rw [h7.2.2 p hp] at e
            exact hnj (by rw [← e]; exact (cR_in hD (hW.2.1.2.1 n p hn8 hp)).1)
          · rw [v3, b6 j hj hnj, bt_zero] at q
            cases q
      exact ⟨rfl, inv_mk (m1 := m1) (c' := m1) hI (fun o a b => f o (by omega) (by omega)) Es_rf (WF_w hW hts hW1 (fun x hx => (f16 x hx).1)) (by rw [f 6 (by decide) (by decide)]) (f 31 (by decide) (by decide)) (fun o ho => g o (by omega) (by omega)) (RR_w hD hR1 hts hrs hR2)⟩
    · exact absurd ⟨by rw [f 54 (by decide) (by decide), h26]; exact hnn, e65⟩ h2
  · exact And.intro (fun h => absurd rfl h) (fun _ => hno (fun q => hw q.2))
