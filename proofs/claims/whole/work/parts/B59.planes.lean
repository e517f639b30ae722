/-! PLANE, SPOKES, BACK: the free cells of a layer -/
def plF (w d l : Int) (c : Mem) (n z x : Int) : Prop := gZ w d x = z ∧ frT w d l (fun _ => True) c n 1 x
theorem c_X6_markPlane (X : Xv) (c m : Mem) {w d l : Int} (hB : Bd X w d l c) (hM : WM w d l c) (n z : Int) (hnn : 0 ≤ n ∧ n < c 9 14) (hf : ∀ o, o < 17 → m o = c o) (hlk : looked w d l X c m n 1) (hin : ∀ o i, inR (m o i)) : kCall (eX X) 2 M_X6_markPlane.1 [vR 22, vI z] m (fun r m' => r = none ∧ (∀ o, o ≠ 27 → m' o = m o) ∧ ∀ x, inC w d l x → (plF w d l c n z x → m' 27 x = 1) ∧ (¬ plF w d l c n z x → m' 27 x = 0)) := by
  obtain ⟨hD, hN, hG⟩ := id hB
  have hc4 := okD_cells hD
  have h8 := hM.1.2.1
  have hs := WFs_srt hM.1
  have hB1 : Bd X w d l m := Bd_same hB (fun o a b => hf o (by omega))
  have hfree : ∀ x, inC w d l x → (frT w d l (fun _ => True) c n 1 x ↔ m 26 x ≠ 0 ∨ (m 15 x = 0 ∧ m 24 x = 0 ∧ kand (m 25 x) (kxor 0 (-1)) = 0)) := by
    intro x hx
    rw [looked_own (by omega) hlk hx, looked_clr hD hN hs hin hlk hx, hf 15 (by decide)]
    unfold frT
    have e1 : cuT (fun _ => (1 : Int) ≠ 0) c n x ↔ cuT (fun _ => True) c n x := cuT_cong ⟨fun _ => trivial, fun _ => by decide⟩
    have e2 : clT w d l (fun o => bt 0 o.toNat = false) c n x ↔ clT w d l (fun _ => True) c n x := clT_cong (fun o _ _ => ⟨fun _ => trivial, fun _ => bt_zero _⟩)
    rw [e1, e2]
    exact or_congr_right (and_congr_right (fun _ => ⟨fun z => z.2, fun z => ⟨Or.inl (by decide), z⟩⟩))
  refine kCall_ofT ok_X6_markPlane rfl (Nat.le_of_ble_eq_true rfl) (fun T hT => ?_)
  have loop : ∀ (k : Nat) (i : Int) (mm : Mem) (x3 : Option AV), i + k = (nC X : Int) → 0 ≤ i → (∀ o, o ≠ 27 → mm o = m o) → (∀ x, (0 ≤ x ∧ x < i) → (plF w d l c n z x → mm 27 x = 1) ∧ (¬ plF w d l c n z x → mm 27 x = 0)) → kW (eX X) 1 M_X6_markPlane T 1 [some (vR 22), some (vI z), some (vI i), x3] [] mm := by
    intro k
    induction k with
    | zero =>
      intro i mm x3 hk h0 hfm hb
      have g4 : mm 1 4 = (nC X : Int) := by rw [hfm 1 (by decide), hB1.2.2.2.2.2.2.1, hN]
      refine kW_go ok_X6_markPlane [1] 20 ?_
      refine And.intro (fun _ => hT _ _ ⟨rfl, hfm, fun x hx => hb x ⟨hx.1, by have := hx.2; omega⟩⟩) (fun h => ?_)
      have h : i < mm 1 4 := h
      omega
    | succ k ih =>
      intro i mm x3 hk h0 hfm hb
      have hib : 0 ≤ i ∧ i < (nC X : Int) := by omega
      have hix : inC w d l i := ⟨h0, by omega⟩
      have g4 : mm 1 4 = (nC X : Int) := by rw [hfm 1 (by decide), hB1.2.2.2.2.2.2.1, hN]
      have e5 : mm 5 i = gZ w d i := by rw [hfm 5 (by decide)]; exact (hB1.2.2.2.2.2.2.2 i hix).2.2.1
      have e26 : mm 26 = m 26 := hfm 26 (by decide)
      have hput : ∀ (v : Int) (x3 : Option AV), ((plF w d l c n z i ∧ v = 1) ∨ (¬ plF w d l c n z i ∧ v = 0)) → kW (eX X) 1 M_X6_markPlane T 1 [some (vR 22), some (vI z), some (vI (i + 1)), x3] [] (mset mm 27 i v) := by
        intro v x3 hv
        refine ih (i + 1) _ x3 (by omega) (by omega) (fun o ho => by rw [k_mset_ne ho]; exact hfm o ho) (fun x hx => ?_)
        rw [k_mset_at]
        by_cases e : x = i
        · rw [if_pos e, e]
          rcases hv with ⟨a, b⟩ | ⟨a, b⟩
          · exact ⟨fun _ => b, fun q => absurd a q⟩
          · exact ⟨fun q => absurd q a, fun _ => b⟩
        · rw [if_neg e]; exact hb x (by omega)
      have four : ∀ f : Int, ((f = 1 ∧ frT w d l (fun _ => True) c n 1 i) ∨ (f = 0 ∧ ¬ frT w d l (fun _ => True) c n 1 i)) → kW (eX X) 1 M_X6_markPlane T 4 [some (vR 22), some (vI z), some (vI i), x3] [vI f] mm := by
        intro f hfr
        refine kW_go ok_X6_markPlane [1] 20 ?_
        rcases hfr with ⟨rfl, hq⟩ | ⟨rfl, hq⟩
        · refine And.intro (fun h => absurd h (by decide)) (fun _ => ⟨hib, And.intro (fun h => ?_) (fun h => ?_)⟩)
          · have h : ¬ mm 5 i = z := h
            rw [e5] at h
            exact ⟨hib, by constructor <;> omega, hput 0 _ (Or.inr ⟨fun q => h q.1, rfl⟩)⟩
          · have h : mm 5 i = z := h
            rw [e5] at h
            exact ⟨hib, by constructor <;> omega, hput 1 _ (Or.inl ⟨⟨h, hq⟩, rfl⟩)⟩
        · exact And.intro (fun _ => ⟨hib, by constructor <;> omega, hput 0 _ (Or.inr ⟨fun q => hq q.2, rfl⟩)⟩) (fun h => absurd rfl h)
      refine kW_go ok_X6_markPlane [1, 4] 20 ?_
      refine And.intro (fun h => ?_) (fun _ => ⟨hib, And.intro (fun h => four 1 (Or.inl ⟨rfl, (hfree i hix).mpr (Or.inl ?_)⟩)) (fun h => ?_)⟩)
      · have h : mm 1 4 ≤ i := h
        omega
      · rw [← e26]; exact h
      · have h26 : m 26 i = 0 := by rw [← e26]; exact h
        refine kCall_mono (c_X6_isClear X mm i 0 hib) (Nat.le_of_ble_eq_true rfl) ?_
        rw [hfm 15 (by decide), hfm 24 (by decide), hfm 25 (by decide)]
        rintro _ m2 ⟨⟨hh, rfl⟩ | ⟨hh, rfl⟩, rfl⟩
        · exact And.intro (fun h => absurd h (by decide)) (fun _ => four 1 (Or.inl ⟨rfl, (hfree i hix).mpr (Or.inr hh)⟩))
        · exact And.intro (fun _ => four 0 (Or.inr ⟨rfl, fun q => ((hfree i hix).mp q).elim (fun q => q h26) (fun q => hh q)⟩)) (fun h => absurd rfl h)
  refine kW_go ok_X6_markPlane [1] 20 ?_
  exact loop (nC X) 0 m none (by omega) (by omega) (fun _ _ => rfl) (fun x hx => by omega)
set_option maxRecDepth 100000 in
theorem c_X12_spread (X : Xv) (c m : Mem) {w d l : Int} (hD : okD w d l) (hM : WM w d l c) (hR : RR w d l c m) (n z : Int) (hnn : 0 ≤ n ∧ n < c 9 14) (hz : 0 ≤ z ∧ z < l) : kCall (eX X) 4 M_X12_spread.1 [vR 54, vI n, vI z] m (fun r m' => r = none ∧ RR w d l c m' ∧ (∀ o, o ≠ 54 → o ≠ 81 → o ≠ 85 → m' o = m o) ∧ ∀ i : Int, (0 ≤ i ∧ i < 81) → (m' 85 i = 0 ∨ m' 85 i = 1) ∧ (m' 85 i ≠ 0 ↔ inRf w d l (81 * z + i) ∧ plF w d l c n z (cC w d (81 * z + i)))) := by
  have h8 := hM.1.2.1
  obtain ⟨-, -, l1, l2⟩ := id hD
  refine kCall_ofT ok_X12_spread rfl (Nat.le_of_ble_eq_true rfl) (fun T hT => ?_)
  refine kW_go ok_X12_spread [1] 20 ?_
  refine kCall_mono (c_X12_plainly X m 1 (Or.inr rfl)) (Nat.le_of_ble_eq_true rfl) ?_
  rintro _ m1 ⟨rfl, hp⟩
  have hR1 := plain_R hR hp
  have loop : ∀ (k : Nat) (i : Int) (mm : Mem) (x4 : Option AV), i + k = 81 → 0 ≤ i → (∀ o, o ≠ 85 → mm o = m1 o) → (∀ j : Int, (0 ≤ j ∧ j < i) → (mm 85 j = 0 ∨ mm 85 j = 1) ∧ (mm 85 j ≠ 0 ↔ inRf w d l (81 * z + j) ∧ plF w d l c n z (cC w d (81 * z + j)))) → kW (eX X) 3 M_X12_spread T 1 [some (vR 54), some (vI n), some (vI z), some (vI i), x4] [] mm := by
    intro k
    induction k with
    | zero =>
      intro i mm x4 hk h0 hf hb
      have hi : i = 81 := by omega
      subst hi
      refine kW_go ok_X12_spread [1] 20 ?_
      exact And.intro (fun _ => hT _ _ ⟨rfl, RR_ref (fun o a b => hf o (by omega)) hR1, fun o a b e => by rw [hf o e]; exact hp.1 o a b, hb⟩) (fun h => absurd h (by decide))
    | succ k ih =>
      intro i mm x4 hk h0 hf hb
      have hib : 0 ≤ i ∧ i < ((81 : Nat) : Int) := by omega
      have hRm : RR w d l c mm := RR_ref (fun o a b => hf o (by omega)) hR1
      have hG := RR0_RelG hM.1 (RR_0 hRm)
      have hput : ∀ v : Int, (v = 0 ∨ v = 1) → (v ≠ 0 ↔ inRf w d l (81 * z + i) ∧ plF w d l c n z (cC w d (81 * z + i))) → kW (eX X) 3 M_X12_spread T 3 [some (vR 54), some (vI n), some (vI z), some (vI i), some (vI (81 * z + i))] [vI v, vI i, vR 85] mm := by
        intro v hv hvi
        refine kW_go ok_X12_spread [1] 20 ?_
        refine ⟨hib, hv, by constructor <;> omega, ih (i + 1) _ _ (by omega) (by omega) (fun o ho => by rw [k_mset_ne ho]; exact hf o ho) (fun j hj => ?_)⟩
        rw [k_mset_at]
        by_cases e : j = i
        · rw [if_pos e, e]; exact ⟨hv, hvi⟩
        · rw [if_neg e]; exact hb j (by omega)
      refine kW_go ok_X12_spread [1, 3] 20 ?_
      refine And.intro (fun h => absurd h (by omega)) (fun _ => ⟨by constructor <;> omega, by constructor <;> omega, ?_⟩)
      refine kCall_mono (c_X12_isInside X mm hRm.1.1 (81 * z + i) (by omega)) (Nat.le_of_ble_eq_true rfl) ?_
      rintro _ m2 ⟨⟨hh, rfl⟩ | ⟨hh, rfl⟩, rfl⟩
      · obtain ⟨hci, hcr⟩ := cC_in hh
        have hgz : gZ w d (cC w d (81 * z + i)) = z := by
          have := (cR_geo hD hci).2.2.2
          rw [hcr] at this
          omega
        refine And.intro (fun h => absurd h (by decide)) (fun _ => ?_)
        have hfr := c_X12_isFreeT X c m2 hD (WFs_srt hM.1) hG n _ 1 hnn hci
        rw [hcr, F_plain h8.2 (by omega) hRm.2.2.1 hRm.2.2.2] at hfr
        refine kCall_mono hfr (Nat.le_of_ble_eq_true rfl) ?_
        rintro _ m3 ⟨⟨hq, rfl⟩ | ⟨hq, rfl⟩, rfl⟩
        · exact And.intro (fun h => absurd h (by decide)) (fun _ => hput 1 (Or.inr rfl) ⟨fun _ => ⟨hh, hgz, hq⟩, fun _ => by decide⟩)
        · exact And.intro (fun _ => hput 0 (Or.inl rfl) ⟨fun q => absurd rfl q, fun q => absurd q.2.2 hq⟩) (fun h => absurd rfl h)
      · exact And.intro (fun _ => hput 0 (Or.inl rfl) ⟨fun q => absurd rfl q, fun q => absurd q.1 hh⟩) (fun h => absurd rfl h)
  exact loop 81 0 m1 none (by omega) (by omega) (fun _ _ => rfl) (fun j hj => by omega)
/-! parts of a layer -/
theorem Rch_sym {w d l v : Int} {G : Int → Prop} (hD : okD w d l) (hv : v = 4 ∨ v = 6) {a b : Int} (ha : inC w d l a) (hGa : G a) (h : Rch (stR w d l G v) a b) : inC w d l b ∧ G b ∧ Rch (stR w d l G v) b a := by
  refine Rch_ind (P := fun e => inC w d l e ∧ G e ∧ Rch (stR w d l G v) e a) ?_ ⟨ha, hGa, Rch_rf⟩ h
  rintro x y ⟨hx, hgx, hr⟩ ⟨k, hk, hn, hne, hgy⟩
  have hne' : nx w d l x k ≠ -1 := by rw [hn]; exact hne
  have hy : inC w d l y := by rw [← hn]; exact (nx_in hne').1
  have hk6 : 0 ≤ k ∧ k < 6 := by omega
  have ho := nx_opp hD hx hk6 hne'
  rw [hn] at ho
  exact ⟨hy, hgy, Rch_tr (Rch_to Rch_rf ⟨oppF k, opp_v hv hk, ho, by have := hx.1; omega, hgx⟩) hr⟩
/-- the lowest cell of its part -/
def leP (w d l : Int) (G : Int → Prop) (x : Int) : Prop := G x ∧ ∀ y, Rch (stR w d l G 4) x y → x ≤ y
def ownP (w d l : Int) (G O : Int → Prop) (x : Int) : Prop := ∃ y, Rch (stR w d l G 4) x y ∧ O y
noncomputable def ptN (w d l : Int) (N : Nat) (G O : Int → Prop) : Int := sumN (fun x => iv (leP w d l G x ∧ ownP w d l G O x) 1) N
noncomputable def isN (w d l : Int) (N : Nat) (G O : Int → Prop) : Int := sumN (fun x => iv (leP w d l G x ∧ ¬ ownP w d l G O x) 1) N
theorem c_X4_hasOwn (X : Xv) (m : Mem) (q : Int) (hq : 0 ≤ q ∧ q ≤ (nC X : Int)) (hn : nC X ≤ 324) (h29 : ∀ j : Int, (0 ≤ j ∧ j < q) → 0 ≤ m 29 j ∧ m 29 j < (nC X : Int)) : kCall (eX X) 1 M_X4_hasOwn.1 [vR 45, vI q] m (bP (∃ j : Int, (0 ≤ j ∧ j < q) ∧ m 26 (m 29 j) ≠ 0) m) := by
  refine kCall_ofT ok_X4_hasOwn rfl (Nat.le_of_ble_eq_true rfl) (fun T hT => ?_)
  have loop : ∀ (k : Nat) (i : Int), i + k = q → 0 ≤ i → (∀ j : Int, (0 ≤ j ∧ j < i) → m 26 (m 29 j) = 0) → kW (eX X) 0 M_X4_hasOwn T 1 [some (vR 45), some (vI q), some (vI i)] [] m := by
    intro k
    induction k with
    | zero =>
      intro i hk h0 hb
      refine kW_go ok_X4_hasOwn [1] 20 ?_
      exact And.intro (fun _ => hT _ _ ⟨Or.inl rfl, Or.inr ⟨fun ⟨j, hj, z⟩ => z (hb j (by omega)), rfl⟩, rfl⟩) (fun h => absurd h (by omega))
    | succ k ih =>
      intro i hk h0 hb
      have hib : 0 ≤ i ∧ i < (nC X : Int) := by omega
      refine kW_go ok_X4_hasOwn [1] 20 ?_
      refine And.intro (fun h => absurd h (by omega)) (fun _ => ⟨hib, h29 i (by omega), And.intro (fun h => ⟨by constructor <;> omega, ih (i + 1) (by omega) (by omega) (fun j hj => ?_)⟩) (fun h => hT _ _ ⟨Or.inr rfl, Or.inl ⟨⟨i, by omega, h⟩, rfl⟩, rfl⟩)⟩)
      by_cases e : j = i
      · rw [e]; exact h
      · exact hb j (by omega)
  refine kW_go ok_X4_hasOwn [1] 20 ?_
  exact loop q.toNat 0 (by omega) (by omega) (fun j hj => by omega)
