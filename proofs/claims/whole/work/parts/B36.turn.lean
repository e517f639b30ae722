/-! PRESS: the reference's turn -/
def rfp (m m' : Mem) : Prop := (∀ o, o < 54 ∨ (55 ≤ o ∧ o ≤ 67) ∨ o = 71 ∨ (75 ≤ o ∧ o ≤ 77) ∨ 82 ≤ o → m' o = m o) ∧ ∀ i : Int, i ≠ 29 → i ≠ 33 → m' 54 i = m 54 i
theorem rfp_rf {m : Mem} : rfp m m := ⟨fun _ _ => rfl, fun _ _ _ => rfl⟩
theorem rfp_tr {a b c : Mem} (h : rfp a b) (h' : rfp b c) : rfp a c := ⟨fun o ho => (h'.1 o ho).trans (h.1 o ho), fun i p q => (h'.2 i p q).trans (h.2 i p q)⟩
theorem rfp_rsm {n : Int} {m m' : Mem} (h : rsm n m m') : rfp m m' := ⟨(rfr_rsm h).1, fun i _ h33 => h.2.2.1 i h33⟩
theorem cs0_ex {c : Mem} {ex : Int → Int} {n : Int} : csF (c 10 (c 11 n * 5)) (c 10 (c 11 n * 5 + 1)) ex = cs0 c ex n := rfl
set_option maxRecDepth 100000 in
theorem c_X12_turn (X : Xv) (c m : Mem) {w d l pr : Int} {ht : Int → Int} (hD : okD w d l) (hM : WM w d l c) (hR : RR0 w d l c m) (h28 : m 54 28 = 0) (h30 : m 54 30 = 1) (h41 : m 54 41 = 1) (hpr : 1 ≤ pr ∧ pr ≤ 20) (hht : ∀ x, inC w d l x → m 82 (cR w d x) = ht x ∧ 0 ≤ ht x ∧ ht x ≤ 20) : kCall (eX X) 9 M_X12_turn.1 [vR 54, vI pr] m (fun r m' => ∃ b c', tuA w d l pr ht (c 9 14).toNat 0 c b c' ∧ r = some (vI (if b = true then 1 else 0)) ∧ ∃ cN, (b = true → cN = c') ∧ RR0 w d l cN m' ∧ WM w d l cN ∧ (∀ o, o ≠ 17 → o ≠ 19 → cN o = c o) ∧ rfp m m') := by
  have h8 := hM.1.2.1
  refine kCall_ofT ok_X12_turn rfl (Nat.le_of_ble_eq_true rfl) (fun T hT => ?_)
  have nets : ∀ (k : Nat) (n : Int) (c1 m1 : Mem) (x3 : Option AV), n + k = c 9 14 → 0 ≤ n → RR0 w d l c1 m1 → WM w d l c1 → (∀ o, o ≠ 17 → o ≠ 19 → c1 o = c o) → rfp m m1 → (∀ b c', tuA w d l pr ht k n c1 b c' → tuA w d l pr ht (c 9 14).toNat 0 c b c') → kW (eX X) 8 M_X12_turn T 1 [some (vR 54), some (vI pr), some (vI n), x3] [] m1 := by
    intro k
    induction k with
    | zero =>
      intro n c1 m1 x3 hnk h0 hR1 hM1 hc1 hf1 hres
      have e26 : m1 54 26 = c 9 14 := by rw [hR1.1.2.2.2.1.1, hc1 9 (by decide) (by decide)]
      refine kW_go ok_X12_turn [1] 20 ?_
      refine And.intro (fun _ => hT _ _ ⟨Or.inr rfl, true, c1, hres _ _ ⟨rfl, rfl⟩, rfl, c1, fun _ => rfl, hR1, hM1, hc1, hf1⟩) (fun h => ?_)
      have h : n < m1 54 26 := h
      omega
    | succ k ih =>
      intro n c1 m1 x3 hnk h0 hR1 hM1 hc1 hf1 hres
      have e26 : m1 54 26 = c 9 14 := by rw [hR1.1.2.2.2.1.1, hc1 9 (by decide) (by decide)]
      have e9 : c1 9 14 = c 9 14 := by rw [hc1 9 (by decide) (by decide)]
      have hn8 : 0 ≤ n ∧ n < 8 := by omega
      have hnb : 0 ≤ n ∧ n < ((8 : Nat) : Int) := hn8
      have hnn : 0 ≤ n ∧ n < c1 9 14 := by omega
      have e63 : m1 63 n = c1 13 n := (hR1.1.2.2.2.2.1 n hn8).2.1
      have hP4 := (hM1.2.1.1 n hn8).1
      have hskip : ∀ (c2 m2 : Mem) (x3 : Option AV), RR0 w d l c2 m2 → WM w d l c2 → (∀ o, o ≠ 17 → o ≠ 19 → c2 o = c o) → rfp m m2 → (∀ b c', tuA w d l pr ht k (n + 1) c2 b c' → tuA w d l pr ht (k + 1) n c1 b c') → kW (eX X) 8 M_X12_turn T 7 [some (vR 54), some (vI pr), some (vI n), x3] [] m2 := by
        intro c2 m2 x3 a1 a2 a3 a4 a5
        refine kW_go ok_X12_turn [1] 20 ?_
        exact ⟨by constructor <;> omega, ih (n + 1) c2 m2 x3 (by omega) (by omega) a1 a2 a3 a4 (fun b c' h => hres b c' (a5 b c' h))⟩
      refine kW_go ok_X12_turn [2, 7] 20 ?_
      refine And.intro (fun h => ?_) (fun _ => ⟨hnb, And.intro (fun hp => ?_) (fun hp => ?_)⟩)
      · have h : m1 54 26 ≤ n := h
        omega
      · have hp : ¬ m1 63 n = 0 := hp
        have hp1 : 1 ≤ c1 13 n := by omega
        -- the cells' costs
        obtain ⟨mS, hmS⟩ : ∃ mS, mS = mset m1 54 29 n := ⟨_, rfl⟩
        have fS : ∀ o, o ≠ 54 → mS o = m1 o := fun o ho => by rw [hmS]; exact k_mset_ne ho
        have fS54 : ∀ i : Int, i ≠ 29 → mS 54 i = m1 54 i := fun i hi => by rw [hmS, k_mset_at, if_neg hi]
        have eS29 : mS 54 29 = n := by rw [hmS, k_mset_at, if_pos rfl]
        have hRS : RR0 w d l c1 mS := RR0_fld (fun o a _ => fS o (by omega)) (fun i hi => fS54 i (by omega)) hR1
        have hrS : rfp m mS := rfp_tr hf1 ⟨fun o ho => fS o (by omega), fun i hi _ => fS54 i hi⟩
        have cells : ∀ (q : Nat) (i : Int) (m2 : Mem), i + q = 324 → 0 ≤ i → (∀ o, o ≠ 81 → m2 o = mS o) → (∀ x, inC w d l x → cR w d x < i → m2 81 (cR w d x) = exA w d l c1 pr ht n x) → kW (eX X) 8 M_X12_turn T 3 [some (vR 54), some (vI pr), some (vI n), some (vI i)] [] m2 := by
          intro q
          induction q with
          | zero =>
            intro i m2 hq hi0 hf2 hx2
            have hi : i = 324 := by omega
            have hR2 : RR0 w d l c1 m2 := RR0_fld (fun o a b => hf2 o (by omega)) (fun i _ => by rw [hf2 54 (by decide)]) hRS
            have hr2 : rfp m m2 := rfp_tr hrS ⟨fun o ho => hf2 o (by omega), fun i _ _ => by rw [hf2 54 (by decide)]⟩
            have g28 : m2 54 28 = 0 := by rw [hr2.2 28 (by decide) (by decide)]; exact h28
            have g30 : m2 54 30 ≠ 0 := by rw [hr2.2 30 (by decide) (by decide), h30]; decide
            have g41 : m2 54 41 = 1 := by rw [hr2.2 41 (by decide) (by decide)]; exact h41
            have g29 : m2 54 29 = n := by rw [hf2 54 (by decide)]; exact eS29
            have hRW : RWf w d l 6 (c1 10 (c1 11 n * 5)) (c1 10 (c1 11 n * 5 + 1)) (c1 10 (c1 11 n * 5 + 2)) (exA w d l c1 pr ht n) n m2 := by
              have := RWf_mk (ex := exA w d l c1 pr ht n) hM1.1 hR2.1 hnn g41 (fun y hy => by
                have hg := cR_geo hD hy
                have hx := exA_in (w := w) (d := d) (l := l) (c := c1) (pr := pr) (ht := ht) (by omega) (by omega) hnn (hht y hy).2
                exact ⟨hx2 y hy (by omega), hx.1, hx.2.1⟩)
              rwa [if_neg (by decide)] at this
            have hFp := F_press (w := w) (d := d) (l := l) (t := 0) (c := rmT (w * d * l) n c1) (by rw [rmT_ne (by decide) (by decide)]; omega) hn8 g28 g30 g29
            refine kW_go ok_X12_turn [7] 20 ?_
            refine And.intro (fun _ => ?_) (fun h => absurd h (by omega))
            refine kCall_mono (c_X12_layNet X c1 m2 hD hM1 hR2 hnn hRW hFp.2) (Nat.le_of_ble_eq_true rfl) ?_
            rintro _ m3 (⟨e0, -, -⟩ | ⟨-, res, c2, hL, rfl, hr3, ht3, hM3, -, hres3⟩)
            · omega
            rw [hFp.1] at hL
            have hge : ∀ z, res = some z → 0 ≤ z := by
              have a := hM1.1.2.2.2.1 n hnn
              obtain ⟨b1, b2, b3, -⟩ := hM1.1.2.2.1 (c1 11 n) a
              exact LRw_ge (fun k y => by unfold csF; split <;> omega) b3.1 (Int.le_refl 0) hL
            have hans := ansR_ne hge
            have hr4 : rfp m m3 := rfp_tr hr2 (rfp_rsm hr3)
            rcases hres3 with ⟨h1, h2⟩ | ⟨h1, h2⟩
            · refine And.intro (fun h => absurd (hans.mpr h1) h) (fun _ => ?_)
              exact hT _ _ ⟨Or.inl rfl, false, c2, hres _ _ (Or.inr ⟨hp1, res, c2, hL, Or.inl ⟨h1, rfl⟩⟩), rfl, c1, fun z => (by cases z), h2, hM1, hc1, hr4⟩
            · refine And.intro (fun _ => ?_) (fun h => absurd (hans.mp h) h1)
              exact hskip c2 m3 _ h2 hM3 (fun o a b => by rw [ht3.1 o a b]; exact hc1 o a b) hr4 (fun b c' h => Or.inr ⟨hp1, res, c2, hL, Or.inr ⟨h1, h⟩⟩)
          | succ q ihq =>
            intro i m2 hq hi0 hf2 hx2
            have hib : 0 ≤ i ∧ i < ((324 : Nat) : Int) := by omega
            have hR2 : RR0 w d l c1 m2 := RR0_fld (fun o a b => hf2 o (by omega)) (fun i _ => by rw [hf2 54 (by decide)]) hRS
            have hr2 : rfp m m2 := rfp_tr hrS ⟨fun o ho => hf2 o (by omega), fun i _ _ => by rw [hf2 54 (by decide)]⟩
            have e82 : m2 82 = m 82 := hr2.1 82 (by omega)
            have hnext : ∀ v : Int, (∀ x, inC w d l x → cR w d x = i → v = exA w d l c1 pr ht n x) → inR (i + 1) ∧ kW (eX X) 8 M_X12_turn T 3 [some (vR 54), some (vI pr), some (vI n), some (vI (i + 1))] [] (mset m2 81 i v) := by
              intro v hv
              refine ⟨by constructor <;> omega, ihq (i + 1) _ (by omega) (by omega) (fun o ho => by rw [k_mset_ne ho]; exact hf2 o ho) (fun x hx hxi => ?_)⟩
              rw [k_mset_at]
              by_cases e : cR w d x = i
              · rw [if_pos e]; exact hv x hx e
              · rw [if_neg e]; exact hx2 x hx (by omega)
            refine kW_go ok_X12_turn [3] 20 ?_
            refine And.intro (fun h => absurd h (by omega)) (fun _ => ?_)
            refine kCall_mono (c_X12_isInside X m2 hR2.1.1 i (by omega)) (Nat.le_of_ble_eq_true rfl) ?_
            rintro _ m2' ⟨⟨hin, rfl⟩ | ⟨hin, rfl⟩, rfl⟩
            · refine And.intro (fun h => absurd h (by decide)) (fun _ => ?_)
              obtain ⟨hci, hcr⟩ := cC_in hin
              have hx := exA_in (w := w) (d := d) (l := l) (c := c1) (pr := pr) (ht := ht) (by omega) (by omega) hnn (hht _ hci).2
              have htr := c_X12_tracesNear X c1 m2' hD hM1 hR2 n _ hnn hci
              rw [hcr] at htr
              refine kCall_mono htr (Nat.le_of_ble_eq_true rfl) ?_
              rintro _ m2'' ⟨rfl, rfl⟩
              have e82' : m2'' 82 i = ht (cC w d i) := by rw [e82]; rw [← (hht _ hci).1, hcr]
              have hxu : 0 ≤ pr * nrs w d l c1 n (cC w d i) + ht (cC w d i) ∧ pr * nrs w d l c1 n (cC w d i) + ht (cC w d i) ≤ 160 := ⟨hx.1, hx.2.1⟩
              have hx3 := hx.2.2
              refine ⟨by constructor <;> omega, hib, by constructor <;> omega, hib, hnext _ (fun x hxi e => ?_)⟩
              have : x = cC w d i := cR_inj hD hxi hci (by rw [e, hcr])
              rw [this, e82']
              rfl
            · refine And.intro (fun _ => ⟨hib, hnext 0 (fun x hxi e => ?_)⟩) (fun h => absurd rfl h)
              exact absurd (by rw [← e]; exact (cR_in hD hxi).1) hin
        have hgo := cells 324 0 mS (by omega) (by omega) (fun _ _ => rfl) (fun x hx h => by have := (cR_geo hD hx).1; omega)
        rw [hmS] at hgo
        refine kW_go ok_X12_turn [3] 20 ?_
        exact hgo
      · have hp : m1 63 n = 0 := hp
        exact hskip c1 m1 _ hR1 hM1 hc1 hf1 (fun b c' h => Or.inl ⟨by omega, h⟩)
  refine kW_go ok_X12_turn [1] 20 ?_
  exact nets (c 9 14).toNat 0 c m none (by omega) (by omega) hR hM (fun _ _ _ => rfl) rfp_rf (fun _ _ h => h)
/-! crowded cells -/
def crP (w d l : Int) (c : Mem) (x : Int) : Prop := ∃ o : Int, (0 ≤ o ∧ o < c 9 14) ∧ bt (c 17 x) o.toNat = true ∧ ∃ o' : Int, (0 ≤ o' ∧ o' < c 9 14) ∧ trN w d l c o x o'
theorem sum_pos {P : Int → Prop} : ∀ {k : Nat}, 0 < sumN (fun o => iv (P o) 1) k ↔ ∃ o : Int, (0 ≤ o ∧ o < k) ∧ P o := by
  intro k
  induction k with
  | zero => exact ⟨fun h => absurd (show (0 : Int) < 0 from h) (by decide), fun ⟨o, ho, _⟩ => by omega⟩
  | succ k ih =>
    have hb := sumN_01 (f := fun o => iv (P o) 1) (B := 1) (fun i => iv_in ⟨by decide, by decide⟩) k
    show 0 < sumN (fun o => iv (P o) 1) k + iv (P (k : Int)) 1 ↔ _
    by_cases hp : P (k : Int)
    · rw [iv_t hp]
      exact ⟨fun _ => ⟨k, by omega, hp⟩, fun _ => by omega⟩
    · rw [iv_f hp, Int.add_zero, ih]
      constructor
      · rintro ⟨o, ho, h⟩
        exact ⟨o, by omega, h⟩
      · rintro ⟨o, ho, h⟩
        by_cases e : o = (k : Int)
        · rw [e] at h; exact absurd h hp
        · exact ⟨o, by omega, h⟩
theorem nrs_pos {w d l : Int} {c : Mem} (h8 : 0 ≤ c 9 14) {n x : Int} : 0 < nrs w d l c n x ↔ ∃ o : Int, (0 ≤ o ∧ o < c 9 14) ∧ trN w d l c n x o := by
  unfold nrs
  rw [sum_pos]
  constructor
  · rintro ⟨o, ho, h⟩
    exact ⟨o, by omega, h⟩
  · rintro ⟨o, ho, h⟩
    exact ⟨o, by omega, h⟩
set_option maxRecDepth 100000 in
theorem c_X12_crowd (X : Xv) (c m : Mem) {w d l : Int} {ht : Int → Int} (hD : okD w d l) (hM : WM w d l c) (hR : RR0 w d l c m) (hht : ∀ x, inC w d l x → m 82 (cR w d x) = ht x ∧ 0 ≤ ht x ∧ ht x ≤ 100) (hh0 : ∀ j : Int, (0 ≤ j ∧ j < 324) → ¬ inRf w d l j → m 82 j = 0) : kCall (eX X) 4 M_X12_crowd.1 [vR 54] m (fun r m' => ∃ v, r = some (vI v) ∧ (v ≠ 0 ↔ ∃ x, inC w d l x ∧ crP w d l c x) ∧ (∀ o, o ≠ 82 → m' o = m o) ∧ (∀ x, inC w d l x → m' 82 (cR w d x) = ht x + iv (crP w d l c x) 1) ∧ ∀ j : Int, (0 ≤ j ∧ j < 324) → ¬ inRf w d l j → m' 82 j = 0) := by
  have h8 := hM.1.2.1
  have h26 : m 54 26 = c 9 14 := hR.1.2.2.2.1.1
  refine kCall_ofT ok_X12_crowd rfl (Nat.le_of_ble_eq_true rfl) (fun T hT => ?_)
  have cells : ∀ (q : Nat) (i v : Int) (mm : Mem) (x3 x4 : Option AV), i + q = 324 → 0 ≤ i → (0 ≤ v ∧ v ≤ i) → (v ≠ 0 ↔ ∃ x, inC w d l x ∧ cR w d x < i ∧ crP w d l c x) → (∀ o, o ≠ 82 → mm o = m o) → (∀ x, inC w d l x → mm 82 (cR w d x) = ht x + (if cR w d x < i then iv (crP w d l c x) 1 else 0)) → (∀ j : Int, (0 ≤ j ∧ j < 324) → ¬ inRf w d l j → mm 82 j = 0) → kW (eX X) 3 M_X12_crowd T 1 [some (vR 54), some (vI v), some (vI i), x3, x4] [] mm := by
    intro q
    induction q with
    | zero =>
      intro i v mm x3 x4 hq h0 hv hvi hf hx hj
      refine kW_go ok_X12_crowd [1] 20 ?_
      refine And.intro (fun _ => hT _ _ ⟨v, rfl, ?_, hf, fun x hxi => ?_, hj⟩) (fun h => absurd h (by omega))
      · rw [hvi]
        constructor
        · rintro ⟨x, a, -, b⟩; exact ⟨x, a, b⟩
        · rintro ⟨x, a, b⟩; exact ⟨x, a, by have := (cR_geo hD a).1; omega, b⟩
      · rw [hx x hxi, if_pos (by have := (cR_geo hD hxi).1; omega)]
    | succ q ih =>
      intro i v mm x3 x4 hq h0 hv hvi hf hx hj
      have hib : 0 ≤ i ∧ i < ((324 : Nat) : Int) := by omega
      have hRm : RR0 w d l c mm := RR0_fld (fun o a b => hf o (by omega)) (fun i _ => by rw [hf 54 (by decide)]) hR
      have hmb : -10 ≤ mm 82 i ∧ mm 82 i ≤ 200 := by
        by_cases hin : inRf w d l i
        · obtain ⟨a, b⟩ := cC_in hin
          have h1 := hx _ a
          rw [b, if_neg (by omega)] at h1
          have := (hht _ a).2
          omega
        · rw [hj i (by omega) hin]; omega
      -- behind the nets
      have fin : ∀ (o : Int) (u : Int), (u = 0 ∨ u = 1) → (u ≠ 0 ↔ inRf w d l i ∧ crP w d l c (cC w d i)) → kW (eX X) 3 M_X12_crowd T 6 [some (vR 54), some (vI v), some (vI i), some (vI u), some (vI o)] [] mm := by
        intro o u hu hui
        have go : ∀ x3 x4, inR (i + 1) ∧ kW (eX X) 3 M_X12_crowd T 1 [some (vR 54), some (vI (v + u)), some (vI (i + 1)), x3, x4] [] (mset mm 82 i (mm 82 i + u)) := by
          intro x3 x4
          refine ⟨by constructor <;> omega, ih (i + 1) (v + u) _ x3 x4 (by omega) (by omega) (by omega) ?_ (fun o ho => by rw [k_mset_ne ho]; exact hf o ho) (fun x hxi => ?_) (fun j hj1 hj2 => ?_)⟩
          · constructor
            · intro hne
              by_cases hv0 : v = 0
              · have := hui.mp (by omega)
                obtain ⟨a, b⟩ := cC_in this.1
                exact ⟨_, a, by omega, this.2⟩
              · obtain ⟨x, a, b, e⟩ := hvi.mp hv0
                exact ⟨x, a, by omega, e⟩
            · rintro ⟨x, a, b, e⟩
              by_cases hxi : cR w d x = i
              · have hin := (cR_in hD a)
                rw [hxi] at hin
                have := hui.mpr ⟨hin.1, by rw [hin.2]; exact e⟩
                omega
              · have := hvi.mpr ⟨x, a, by omega, e⟩
                omega
          · rw [k_mset_at]
            by_cases e : cR w d x = i
            · rw [if_pos e, if_pos (by omega)]
              have h1 := hx x hxi
              rw [e, if_neg (by omega)] at h1
              rw [h1]
              have hin := (cR_in hD hxi)
              rw [e] at hin
              rw [hin.2] at hui
              by_cases hc : crP w d l c x
              · rw [iv_t hc]
                have := hui.mpr ⟨hin.1, hc⟩
                omega
              · rw [iv_f hc]
                have : u = 0 := Classical.byContradiction (fun z => hc (hui.mp z).2)
                omega
            · rw [if_neg e, hx x hxi]
              by_cases h2 : cR w d x < i
              · rw [if_pos h2, if_pos (by omega)]
              · rw [if_neg h2, if_neg (by omega)]
          · rw [k_mset_at]
            by_cases e : j = i
            · rw [if_pos e]
              have : u = 0 := Classical.byContradiction (fun z => hj2 (by rw [e]; exact (hui.mp z).1))
              rw [hj i (by omega) (by rw [← e]; exact hj2), this]
              rfl
            · rw [if_neg e]; exact hj j hj1 hj2
        rcases hu with rfl | rfl
        · refine kW_go ok_X12_crowd [1] 20 ?_
          exact ⟨hib, And.intro (fun _ => ⟨by constructor <;> omega, hib, And.intro (fun _ => ⟨by constructor <;> omega, go _ _⟩) (fun h => absurd rfl h)⟩) (fun h => absurd rfl h)⟩
        · refine kW_go ok_X12_crowd [1] 20 ?_
          exact ⟨hib, And.intro (fun h => absurd h (by decide)) (fun _ => ⟨by constructor <;> omega, hib, And.intro (fun h => absurd h (by decide)) (fun _ => ⟨by constructor <;> omega, go _ _⟩)⟩)⟩
      have nets : ∀ (k : Nat) (o u : Int), o + k = c 9 14 → 0 ≤ o → (u = 0 ∨ u = 1) → (u ≠ 0 ↔ inRf w d l i ∧ ∃ n : Int, (0 ≤ n ∧ n < o) ∧ bt (c 17 (cC w d i)) n.toNat = true ∧ ∃ o' : Int, (0 ≤ o' ∧ o' < c 9 14) ∧ trN w d l c n (cC w d i) o') → kW (eX X) 3 M_X12_crowd T 2 [some (vR 54), some (vI v), some (vI i), some (vI u), some (vI o)] [] mm := by
        intro k
        induction k with
        | zero =>
          intro o u hk ho hu hui
          have e26 : mm 54 26 = c 9 14 := by rw [hf 54 (by decide)]; exact h26
          refine kW_go ok_X12_crowd [6] 20 ?_
          refine And.intro (fun _ => fin o u hu ?_) (fun h => ?_)
          · rw [hui, show o = c 9 14 by omega]; exact Iff.rfl
          · have h : o < mm 54 26 := h
            omega
        | succ k ihk =>
          intro o u hk ho hu hui
          have e26 : mm 54 26 = c 9 14 := by rw [hf 54 (by decide)]; exact h26
          have hon : 0 ≤ o ∧ o < c 9 14 := by omega
          refine kW_go ok_X12_crowd [2, 6] 20 ?_
          refine And.intro (fun h => ?_) (fun _ => ?_)
          · have h : mm 54 26 ≤ o := h
            omega
          refine kCall_mono (c_X12_isInside X mm hRm.1.1 i (by omega)) (Nat.le_of_ble_eq_true rfl) ?_
          rintro _ m2 ⟨⟨hin, rfl⟩ | ⟨hin, rfl⟩, rfl⟩
          · refine And.intro (fun h => absurd h (by decide)) (fun _ => ?_)
            obtain ⟨hci, hcr⟩ := cC_in hin
            have hstep : ∀ z : Int, (z = 0 ∨ z = 1) → (z ≠ 0 ↔ u ≠ 0 ∨ (bt (c 17 (cC w d i)) o.toNat = true ∧ ∃ o' : Int, (0 ≤ o' ∧ o' < c 9 14) ∧ trN w d l c o (cC w d i) o')) → inR (o + 1) ∧ kW (eX X) 3 M_X12_crowd T 2 [some (vR 54), some (vI v), some (vI i), some (vI z), some (vI (o + 1))] [] m2 := by
              intro z hz hzi
              refine ⟨by constructor <;> omega, ihk (o + 1) z (by omega) (by omega) hz ?_⟩
              rw [hzi, hui]
              constructor
              · rintro (⟨_, n, hn, e⟩ | e)
                · exact ⟨hin, n, by omega, e⟩
                · exact ⟨hin, o, by omega, e⟩
              · rintro ⟨_, n, hn, e⟩
                by_cases hno : n = o
                · rw [hno] at e; exact Or.inr e
                · exact Or.inl ⟨hin, n, by omega, e⟩
            have one : (u ≠ 0 ∨ (bt (c 17 (cC w d i)) o.toNat = true ∧ ∃ o' : Int, (0 ≤ o' ∧ o' < c 9 14) ∧ trN w d l c o (cC w d i) o')) → _ := fun z => hstep 1 (Or.inr rfl) ⟨fun _ => z, fun _ => by decide⟩
            have nul : ¬ (u ≠ 0 ∨ (bt (c 17 (cC w d i)) o.toNat = true ∧ ∃ o' : Int, (0 ≤ o' ∧ o' < c 9 14) ∧ trN w d l c o (cC w d i) o')) → _ := fun z => hstep 0 (Or.inl rfl) ⟨fun y => absurd rfl y, fun y => absurd y z⟩
            refine And.intro (fun h => one (Or.inl h)) (fun hu0 => ?_)
            have hu0 : u = 0 := hu0
            refine kCall_mono (c_X12_hasTrace X m2 o i (by omega) (by omega)) (Nat.le_of_ble_eq_true rfl) ?_
            have ht := hasT_17 (hRm.2 o (by omega)) hci
            rw [hcr] at ht
            rw [ht]
            rintro _ m3 ⟨⟨h1, rfl⟩ | ⟨h1, rfl⟩, rfl⟩
            · refine And.intro (fun h => absurd h (by decide)) (fun _ => ?_)
              have htr := c_X12_tracesNear X c m3 hD hM hRm o _ hon hci
              rw [hcr] at htr
              refine kCall_mono htr (Nat.le_of_ble_eq_true rfl) ?_
              rintro _ m4 ⟨rfl, rfl⟩
              have hp := nrs_pos (w := w) (d := d) (l := l) (c := c) h8.1 (n := o) (x := cC w d i)
              refine And.intro (fun h => nul ?_) (fun h => one (Or.inr ⟨h1, hp.mp h⟩))
              rintro (z | ⟨-, z⟩)
              · exact z hu0
              · have := hp.mpr z
                have h : nrs w d l c o (cC w d i) ≤ 0 := h
                omega
            · refine And.intro (fun _ => nul ?_) (fun h => absurd rfl h)
              rintro (z | ⟨z, -⟩)
              · exact z hu0
              · exact h1 z
          · refine And.intro (fun _ => fin o u hu ?_) (fun h => absurd rfl h)
            rw [hui]
            exact ⟨fun z => absurd z.1 hin, fun z => absurd z.1 hin⟩
      refine kW_go ok_X12_crowd [2] 20 ?_
      refine And.intro (fun h => absurd h (by omega)) (fun _ => nets (c 9 14).toNat 0 0 (by omega) (by omega) (Or.inl rfl) ⟨fun z => absurd rfl z, fun ⟨_, n, hn, _⟩ => by omega⟩)
  refine kW_go ok_X12_crowd [1] 20 ?_
  exact cells 324 0 0 m none none (by omega) (by omega) (by omega) ⟨fun z => absurd rfl z, fun ⟨x, a, b, _⟩ => by have := (cR_geo hD a).1; omega⟩ (fun _ _ => rfl) (fun x hx => by rw [if_neg (by have := (cR_geo hD hx).1; omega), (hht x hx).1, Int.add_zero]) hh0
