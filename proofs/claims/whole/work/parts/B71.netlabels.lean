/-! NETLIST: the class's labels and what it counts -/
def copP (c : Mem) (x : Int) : Prop := ∃ o : Int, (0 ≤ o ∧ o < 8) ∧ cuN c o x
theorem cop_iff {w d l : Int} {c : Mem} (hM : WM w d l c) {x : Int} (hx : inC w d l x) : kor (c 16 x) (c 17 x) ≠ 0 ↔ copP c x := by
  have h8 := hM.2.2.2 x hx
  have hk := kor8 h8.1 h8.2
  constructor
  · intro h
    refine Classical.byContradiction (fun hn => h ?_)
    refine bits_eq hk (by decide) (fun k hk => ?_)
    rw [bt_zero]
    cases e : bt (kor (c 16 x) (c 17 x)) k
    · rfl
    · refine absurd ⟨(k : Int), ⟨by omega, by omega⟩, ?_⟩ hn
      unfold cuN
      rw [Int.toNat_natCast, ← Bool.or_eq_true, ← bt_or]
      exact e
  · rintro ⟨o, ho, h⟩ h0
    unfold cuN at h
    rw [← Bool.or_eq_true, ← bt_or, h0, bt_zero] at h
    cases h
/-- the labels of joined copper -/
def labS (w d l : Int) (c m' : Mem) (q : Int) : Prop := (∀ x, inC w d l x → (m' 48 x ≠ -1 ↔ copP c x)) ∧ (∀ x, inC w d l x → m' 48 x ≠ -1 → 0 ≤ m' 48 x ∧ m' 48 x < q) ∧ (∀ x y, inC w d l x → inC w d l y → m' 48 x ≠ -1 → (m' 48 y = m' 48 x ↔ Rch (stN w d l c) x y)) ∧ ∀ j : Int, (0 ≤ j ∧ j < q) → (0 ≤ m' 50 j ∧ m' 50 j < 256) ∧ ∀ o : Nat, o < 8 → (bt (m' 50 j) o = true ↔ ∃ x, inC w d l x ∧ m' 48 x = j ∧ cuN c (o : Int) x)
set_option maxRecDepth 100000 in
theorem c_X0_joinAll (X : Xv) (m : Mem) {w d l : Int} (hB : Bd X w d l m) (hM : WM w d l m) (hs : ∀ a b, inC w d l a → stN w d l m a b → stN w d l m b a) : kCall (eX X) 4 M_X0_joinAll.1 [vR 46] m (fun r m' => r = none ∧ (∀ o, o ≠ 46 → o ≠ 48 → o ≠ 49 → o ≠ 50 → m' o = m o) ∧ ∃ q : Int, m' 46 8 = q ∧ (0 ≤ q ∧ q ≤ (nC X : Int)) ∧ labS w d l m m' q) := by
  obtain ⟨hD, hN, hG⟩ := id hB
  have hcc := okD_cells hD
  have g4 : m 1 4 = (nC X : Int) := hG.2.2.2.2.1.trans hN
  refine kCall_ofT ok_X0_joinAll rfl (Nat.le_of_ble_eq_true rfl) (fun T hT => ?_)
  have hcuR : ∀ x y, inC w d l x → copP m x → Rch (stN w d l m) x y → copP m y := by
    intro x y hx hc hr
    refine (Rch_ind (P := fun e => inC w d l e ∧ copP m e) ?_ ⟨hx, hc⟩ hr).2
    rintro a b ⟨ha, -⟩ hst
    have hb := stN_in hst
    obtain ⟨o, ho, h⟩ := stN_cu hM hb (hs a b ha hst)
    exact ⟨hb, o, by have := hM.1.2.1; omega, h⟩
  have loop : ∀ (k : Nat) (i : Int) (mm : Mem), i + k = (nC X : Int) → 0 ≤ i → (∀ o, o ≠ 46 → o ≠ 48 → o ≠ 49 → o ≠ 50 → mm o = m o) → (0 ≤ mm 46 8 ∧ mm 46 8 ≤ i) → (∀ x, inC w d l x → (mm 48 x ≠ -1 ↔ ∃ y, y < i ∧ inC w d l y ∧ copP m y ∧ Rch (stN w d l m) y x)) → (∀ x, inC w d l x → mm 48 x ≠ -1 → 0 ≤ mm 48 x ∧ mm 48 x < mm 46 8) → (∀ x y, inC w d l x → inC w d l y → mm 48 x ≠ -1 → (mm 48 y = mm 48 x ↔ Rch (stN w d l m) x y)) → (∀ j : Int, (0 ≤ j ∧ j < mm 46 8) → (0 ≤ mm 50 j ∧ mm 50 j < 256) ∧ ∀ o : Nat, o < 8 → (bt (mm 50 j) o = true ↔ ∃ x, inC w d l x ∧ mm 48 x = j ∧ cuN m (o : Int) x)) → kW (eX X) 3 M_X0_joinAll T 1 [some (vR 46), some (vI i)] [] mm := by
    intro k
    induction k with
    | zero =>
      intro i mm hk h0 hf hq hv hr he hb
      have hi : i = (nC X : Int) := by omega
      have g4' : mm 1 4 = (nC X : Int) := by rw [hf 1 (by decide) (by decide) (by decide) (by decide)]; exact g4
      refine kW_go ok_X0_joinAll [1] 20 ?_
      refine And.intro (fun _ => hT _ _ ⟨rfl, hf, _, rfl, by omega, fun x hx => ?_, hr, he, hb⟩) (fun h => ?_)
      · rw [hv x hx]
        constructor
        · rintro ⟨y, -, hy, hc, hr⟩
          exact hcuR y x hy hc hr
        · intro hc
          exact ⟨x, by have := hx.2; omega, hx, hc, Rch_rf⟩
      · have h : i < mm 1 4 := h
        omega
    | succ k ih =>
      intro i mm hk h0 hf hq hv hr he hb
      have hib : 0 ≤ i ∧ i < (nC X : Int) := by omega
      have hix : inC w d l i := ⟨by omega, by omega⟩
      have g4' : mm 1 4 = (nC X : Int) := by rw [hf 1 (by decide) (by decide) (by decide) (by decide)]; exact g4
      have hskip : (copP m i → mm 48 i ≠ -1) → kW (eX X) 3 M_X0_joinAll T 2 [some (vR 46), some (vI i)] [] mm := by
        intro hc
        refine kW_go ok_X0_joinAll [1] 20 ?_
        refine ⟨by constructor <;> omega, ih (i + 1) mm (by omega) (by omega) hf (by omega) (fun x hx => ?_) hr he hb⟩
        rw [hv x hx]
        constructor
        · rintro ⟨y, a, b⟩
          exact ⟨y, by omega, b⟩
        · rintro ⟨y, a, b, hcy, hry⟩
          by_cases e : y = i
          · rw [e] at hcy hry
            obtain ⟨y', a', b', hcy', hry'⟩ := (hv i hix).mp (hc hcy)
            exact ⟨y', a', b', hcy', Rch_tr hry' hry⟩
          · exact ⟨y, by omega, b, hcy, hry⟩
      refine kW_go ok_X0_joinAll [2] 20 ?_
      refine And.intro (fun h => ?_) (fun _ => ⟨hib, And.intro (fun h => hskip (fun _ => h)) (fun h => ?_)⟩)
      · have h : mm 1 4 ≤ i := h
        omega
      · have hun : mm 48 i = -1 := h
        have hBm : Bd X w d l mm := Bd_same hB (fun o a b => hf o (by omega) (by omega) (by omega) (by omega))
        have hMm : WM w d l mm := WM_o (fun o a b => hf o (by omega) (by omega) (by omega) (by omega)) hM
        have e16 : mm 16 = m 16 := hf 16 (by decide) (by decide) (by decide) (by decide)
        have e17 : mm 17 = m 17 := hf 17 (by decide) (by decide) (by decide) (by decide)
        refine kCall_mono (c_X3_copperAt X mm i hib) (Nat.le_of_ble_eq_true rfl) ?_
        rintro _ m2 ⟨rfl, rfl⟩
        rw [e16, e17]
        refine And.intro (fun h => hskip (fun q => absurd h ((cop_iff hM hix).mpr q))) (fun h => ?_)
        have hci : copP m i := (cop_iff hM hix).mp h
        have hstN : ∀ a b, stN w d l m2 a b ↔ stN w d l m a b := by
          intro a b
          unfold stN
          constructor
          · rintro ⟨k, z1, z2, z3, z4⟩
            exact ⟨k, z1, z2, z3, (mvK_same (by rw [hf 9 (by decide) (by decide) (by decide) (by decide)]) (hf 18 (by decide) (by decide) (by decide) (by decide)) (hf 19 (by decide) (by decide) (by decide) (by decide)) _ _).mp z4⟩
          · rintro ⟨k, z1, z2, z3, z4⟩
            exact ⟨k, z1, z2, z3, (mvK_same (by rw [hf 9 (by decide) (by decide) (by decide) (by decide)]) (hf 18 (by decide) (by decide) (by decide) (by decide)) (hf 19 (by decide) (by decide) (by decide) (by decide)) _ _).mpr z4⟩
        have hnl : ∀ x, inC w d l x → Rch (stN w d l m) i x → m2 48 x = -1 := by
          intro x hx hrx
          refine Classical.byContradiction (fun hne => ?_)
          obtain ⟨y, a, b, hcy, hry⟩ := (hv x hx).mp hne
          exact (hv i hix).mpr ⟨y, a, b, hcy, Rch_tr hry (RchN_sym hs hix hrx).2⟩ hun
        have hRJ : ∀ x, Rch (stLb w d l m2) i x ↔ Rch (stN w d l m) i x := by
          intro x
          constructor
          · exact Rch_mono (fun a b h => (hstN a b).mp h.1)
          · intro h
            refine (Rch_ind (P := fun e => (inC w d l e ∧ Rch (stN w d l m) i e) ∧ Rch (stLb w d l m2) i e) ?_ ⟨⟨hix, Rch_rf⟩, Rch_rf⟩ h).2
            rintro a b ⟨⟨ha, hra⟩, hja⟩ hst
            have hb := stN_in hst
            have hrb := Rch_to hra hst
            exact ⟨⟨hb, hrb⟩, Rch_to hja ⟨(hstN a b).mpr hst, hnl b hb hrb⟩⟩
        obtain ⟨q, hqq⟩ : ∃ q, q = m2 46 8 := ⟨_, rfl⟩
        rw [← hqq] at hq hr hb
        refine kCall_mono (c_X0_joinFrom X m2 hBm hMm i q hix hqq.symm (by omega) hun) (Nat.le_of_ble_eq_true rfl) ?_
        rintro _ m3 ⟨v, rfl, hv8, hvb, f3, h48⟩
        have hqb : 0 ≤ q ∧ q < (nC X : Int) := by omega
        have e46 : m3 46 8 = q := by rw [f3 46 (by decide) (by decide)]; exact hqq.symm
        have h48 : ∀ x, (Rch (stN w d l m) i x → m3 48 x = q) ∧ (¬ Rch (stN w d l m) i x → m3 48 x = m2 48 x) := fun x => by rw [← hRJ]; exact h48 x
        have hvb : ∀ o : Nat, o < 8 → (bt v o = true ↔ ∃ x, Rch (stN w d l m) i x ∧ cuN m (o : Int) x) := by
          intro o ho
          rw [hvb o ho]
          constructor
          · rintro ⟨x, a, b⟩
            exact ⟨x, (hRJ x).mp a, (cuN_same e16 e17 _ _).mp b⟩
          · rintro ⟨x, a, b⟩
            exact ⟨x, (hRJ x).mpr a, (cuN_same e16 e17 _ _).mpr b⟩
        obtain ⟨m4, hm4⟩ : ∃ m4, m4 = mset (mset m3 50 q v) 46 8 (q + 1) := ⟨_, rfl⟩
        have g46 : m4 46 8 = q + 1 := by rw [hm4, k_mset_at, if_pos rfl]
        have g48 : m4 48 = m3 48 := by rw [hm4, k_mset_ne (by decide), k_mset_ne (by decide)]
        have g50 : ∀ j, m4 50 j = if j = q then v else m2 50 j := fun j => by rw [hm4, k_mset_ne (by decide), k_mset_at, f3 50 (by decide) (by decide)]
        have f4 : ∀ o, o ≠ 46 → o ≠ 48 → o ≠ 49 → o ≠ 50 → m4 o = m o := fun o a b c e => by rw [hm4, k_mset_ne a, k_mset_ne e, f3 o b c]; exact hf o a b c e
        have hnext := ih (i + 1) m4 (by omega) (by omega) f4 (by rw [g46]; omega) (fun x hx => ?_) (fun x hx hne => ?_) (fun x y hx hy hne => ?_) (fun j hj => ?_)
        · have hgo : kW (eX X) 3 M_X0_joinAll T 2 [some (vR 46), some (vI i)] [] m4 := by
            refine kW_go ok_X0_joinAll [1] 20 ?_
            exact ⟨by constructor <;> omega, hnext⟩
          show (0 ≤ m2 46 8 ∧ m2 46 8 < (nC X : Int)) ∧ inR (mset m3 50 (m2 46 8) v 46 8 + 1) ∧ kW (eX X) 3 M_X0_joinAll T 2 [some (vR 46), some (vI i)] [] (mset (mset m3 50 (m2 46 8) v) 46 8 (mset m3 50 (m2 46 8) v 46 8 + 1))
          rw [← hqq]
          have e : mset m3 50 q v 46 8 = q := by rw [k_mset_ne (by decide)]; exact e46
          rw [e, ← hm4]
          exact ⟨hqb, by constructor <;> omega, hgo⟩
        · rw [g48]
          by_cases hri : Rch (stN w d l m) i x
          · rw [(h48 x).1 hri]
            exact ⟨fun _ => ⟨i, by omega, hix, hci, hri⟩, fun _ => by omega⟩
          · rw [(h48 x).2 hri, hv x hx]
            constructor
            · rintro ⟨y, a, b⟩
              exact ⟨y, by omega, b⟩
            · rintro ⟨y, a, b, hcy, hry⟩
              by_cases e : y = i
              · rw [e] at hry; exact absurd hry hri
              · exact ⟨y, by omega, b, hcy, hry⟩
        · rw [g48] at hne ⊢
          rw [g46]
          by_cases hri : Rch (stN w d l m) i x
          · rw [(h48 x).1 hri]; omega
          · rw [(h48 x).2 hri] at hne ⊢
            have := hr x hx hne
            omega
        · rw [g48] at hne ⊢
          by_cases hri : Rch (stN w d l m) i x
          · rw [(h48 x).1 hri]
            by_cases hry : Rch (stN w d l m) i y
            · rw [(h48 y).1 hry]
              exact ⟨fun _ => Rch_tr (RchN_sym hs hix hri).2 hry, fun _ => rfl⟩
            · rw [(h48 y).2 hry]
              constructor
              · intro e
                have := hr y hy (by omega)
                omega
              · intro z
                exact absurd (Rch_tr hri z) hry
          · rw [(h48 x).2 hri] at hne ⊢
            by_cases hry : Rch (stN w d l m) i y
            · rw [(h48 y).1 hry]
              constructor
              · intro e
                have := hr x hx hne
                omega
              · intro z
                exact absurd (Rch_tr hry (RchN_sym hs hx z).2) hri
            · rw [(h48 y).2 hry]
              exact he x y hx hy hne
        · rw [g46] at hj
          rw [g50, g48]
          by_cases e : j = q
          · rw [if_pos e]
            refine ⟨hv8, fun o ho => ?_⟩
            rw [hvb o ho]
            constructor
            · rintro ⟨x, a, b⟩
              exact ⟨x, (RchN_sym hs hix a).1, by rw [(h48 x).1 a, e], b⟩
            · rintro ⟨x, a, b, z⟩
              refine ⟨x, Classical.byContradiction (fun hri => ?_), z⟩
              rw [(h48 x).2 hri] at b
              have := hr x a (by omega)
              omega
          · rw [if_neg e]
            have hbj := hb j (by omega)
            refine ⟨hbj.1, fun o ho => ?_⟩
            rw [hbj.2 o ho]
            constructor
            · rintro ⟨x, a, b, z⟩
              refine ⟨x, a, ?_, z⟩
              rw [(h48 x).2 (fun hri => ?_)]
              · exact b
              · have := hnl x a hri
                omega
            · rintro ⟨x, a, b, z⟩
              refine ⟨x, a, ?_, z⟩
              by_cases hri : Rch (stN w d l m) i x
              · rw [(h48 x).1 hri] at b
                omega
              · rw [(h48 x).2 hri] at b
                exact b
  refine kW_go ok_X0_joinAll [1] 20 ?_
  refine kCall_mono (c_fill (eX X) m 48 (nC X) (-1) (by decide) rfl (by omega)) (Nat.le_of_ble_eq_true rfl) ?_
  rintro _ m2 ⟨rfl, hm2⟩
  have e48 : ∀ x, inC w d l x → mset m2 46 8 0 48 x = -1 := fun x hx => by rw [k_mset_ne (by decide), hm2, mfill_at]; exact if_pos (by obtain ⟨p, q⟩ := hx; omega)
  have e46 : mset m2 46 8 0 46 8 = 0 := by rw [k_mset_at, if_pos rfl]
  refine loop (nC X) 0 (mset m2 46 8 0) (by omega) (by omega) (fun o a b _ _ => by rw [k_mset_ne a, hm2, mfill_ne b]) (by rw [e46]; omega) (fun x hx => ?_) (fun x hx hne => ?_) (fun x y hx hy hne => ?_) (fun j hj => ?_)
  · rw [e48 x hx]
    exact ⟨fun q => absurd rfl q, fun ⟨y, a, b, _⟩ => by have := b.1; omega⟩
  · exact absurd (e48 x hx) hne
  · exact absurd (e48 x hx) hne
  · rw [e46] at hj
    omega
