/-! PRESS: the reference's rounds -/
def prA (w d l pr : Int) : Nat → Int → (Int → Int) → Mem → Option Int → Mem → Prop
  | 0, _, _, _, r, _ => r = none
  | j + 1, t, ht, c, r, c' => ∃ b c1, tuA w d l pr ht (c 9 14).toNat 0 c b c1 ∧ ((b = false ∧ r = none) ∨ (b = true ∧ (((∀ x, inC w d l x → ¬ crP w d l c1 x) ∧ r = some t ∧ c' = c1) ∨ ((∃ x, inC w d l x ∧ crP w d l c1 x) ∧ prA w d l pr j (t + 1) (fun x => ht x + iv (crP w d l c1 x) 1) c1 r c'))))
theorem prA_one {w d l pr : Int} : ∀ {j : Nat} {t : Int} {ht : Int → Int} {c : Mem} {r1 r2 : Option Int} {c1 c2 : Mem}, prA w d l pr j t ht c r1 c1 → prA w d l pr j t ht c r2 c2 → r1 = r2 ∧ (r1 ≠ none → c1 = c2)
  | 0, _, _, _, _, _, _, _, h, h' => ⟨Eq.trans h (Eq.symm h'), fun z => absurd h z⟩
  | j + 1, t, ht, c, r1, r2, c1, c2, ⟨b, x, h1, h2⟩, ⟨b', x', h1', h2'⟩ => by
    obtain ⟨hb, hx⟩ := tuA_one h1 h1'
    subst hb
    rcases h2 with ⟨p, q⟩ | ⟨p, h2⟩ <;> rcases h2' with ⟨p', q'⟩ | ⟨p', h2'⟩
    · exact ⟨q.trans q'.symm, fun z => absurd q z⟩
    · rw [p] at p'; cases p'
    · rw [p] at p'; cases p'
    · obtain rfl := hx p
      rcases h2 with ⟨u, v, z⟩ | ⟨u, v⟩ <;> rcases h2' with ⟨u', v', z'⟩ | ⟨u', v'⟩
      · exact ⟨v.trans v'.symm, fun _ => z.trans z'.symm⟩
      · obtain ⟨y, a, b⟩ := u'; exact absurd b (u y a)
      · obtain ⟨y, a, b⟩ := u; exact absurd b (u' y a)
      · exact prA_one v v'
theorem plain_R0 {w d l b : Int} {c m m' : Mem} (hR : RR0 w d l c m) (hp : (∀ o, o ≠ 54 → o ≠ 81 → m' o = m o) ∧ (∀ i : Int, i ≠ 28 → i ≠ 30 → i ≠ 41 → m' 54 i = m 54 i) ∧ m' 54 41 = b ∧ m' 54 28 = 0 ∧ m' 54 30 = 0 ∧ ∀ j : Int, (0 ≤ j ∧ j < 324) → m' 81 j = 0) : RR w d l c m' := by
  have := RR0_fld (r' := m') (fun o h1 h2 => hp.1 o (by omega) (by omega)) (fun i hi => hp.2.1 i (by omega) (by omega) (by omega)) hR
  exact ⟨this.1, this.2, hp.2.2.2.1, hp.2.2.2.2.1⟩
/-- what pressing leaves in the reference -/
def rfq (m m' : Mem) : Prop := ∀ o, o < 54 ∨ (55 ≤ o ∧ o ≤ 67) ∨ o = 71 ∨ 83 ≤ o → m' o = m o
set_option maxRecDepth 100000 in
theorem c_X12_press (X : Xv) (c m : Mem) {w d l : Int} (hD : okD w d l) (hM : WM w d l c) (hR : RR w d l c m) (R pr : Int) : kCall (eX X) 10 249 [vR 54, vI R, vI pr] m (fun r m' => (¬ ((1 ≤ R ∧ R ≤ 20) ∧ (1 ≤ pr ∧ pr ≤ 20)) ∧ r = some (vI (-1)) ∧ m' = m) ∨ (((1 ≤ R ∧ R ≤ 20) ∧ (1 ≤ pr ∧ pr ≤ 20)) ∧ ∃ res c1, prA w d l pr R.toNat 1 (fun _ => 0) (rmA (w * d * l) c) res c1 ∧ r = some (vI (ansR res)) ∧ rfq m m' ∧ ((res = none ∧ RR w d l c m') ∨ (res ≠ none ∧ RR w d l c1 m' ∧ WM w d l c1 ∧ ∀ o, o ≠ 17 → o ≠ 19 → c1 o = c o)))) := by
  have h8 := hM.1.2.1
  refine kCall_ofT ok_X12_press rfl (Nat.le_of_ble_eq_true rfl) (fun T hT => ?_)
  have hno : ¬ ((1 ≤ R ∧ R ≤ 20) ∧ (1 ≤ pr ∧ pr ≤ 20)) → T (some (vI (-1))) m := fun h => hT _ _ (Or.inl ⟨h, rfl, rfl⟩)
  refine kW_go ok_X12_press [2] 20 ?_
  refine kCall_mono (c_X12_in (eX X) m R 1 20) (Nat.le_of_ble_eq_true rfl) ?_
  rintro _ m ⟨rfl, rfl⟩
  refine And.intro (fun h => hno (fun q => b2i_0.mp h q.1)) (fun h => ?_)
  have hRb := b2i_n.mp h
  refine kCall_mono (c_X12_in (eX X) m pr 1 20) (Nat.le_of_ble_eq_true rfl) ?_
  rintro _ m ⟨rfl, rfl⟩
  refine And.intro (fun h => ?_) (fun h => hno (fun q => b2i_0.mp h q.2))
  have hpr := b2i_n.mp h
  obtain ⟨c0, hc0⟩ : ∃ c0, c0 = rmA (w * d * l) c := ⟨_, rfl⟩
  have hM0 : WM w d l c0 := by
    have hc : ∀ o, o ≠ 17 → o ≠ 19 → c0 o = c o := fun o a b => by rw [hc0, rmA_ne a b]
    obtain ⟨h1, h2, h3, h4⟩ := hM
    refine ⟨WFs_c hc h1, WFp_c hc h2, fun n hn => ?_, fun x hx => ⟨by rw [hc 16 (by decide) (by decide)]; exact (h4 x hx).1, by rw [hc0, rmA_17 hx]; decide⟩⟩
    obtain ⟨w1, w2⟩ := h3 n hn
    unfold WFn pinT
    rw [hc 9 (by decide) (by decide), hc 13 (by decide) (by decide), hc 14 (by decide) (by decide), hc 16 (by decide) (by decide), hc 18 (by decide) (by decide), hc0]
    refine ⟨fun x hx => ?_, fun hcc x hx => ⟨(w2 hcc x hx).1, rmA_19 hn hx⟩⟩
    obtain ⟨⟨z1, z2⟩, z3, z4, z5⟩ := w1 x hx
    rw [rmA_19 hn hx, rmA_17 hx]
    exact ⟨⟨z1, by decide⟩, fun k hk hkn => ⟨(z3 k hk hkn).1, bt_zero _⟩, by rw [bt_zero]; exact ⟨fun z => (by cases z), fun z => absurd rfl z⟩, z5⟩
  have hcc0 : ∀ o, o ≠ 17 → o ≠ 19 → c0 o = c o := fun o a b => by rw [hc0, rmA_ne a b]
  -- the end
  have eight : ∀ (v i4 t : Int) (mm : Mem), (∀ m', ((∀ o, o ≠ 54 → o ≠ 81 → m' o = mm o) ∧ (∀ i : Int, i ≠ 28 → i ≠ 30 → i ≠ 41 → m' 54 i = mm 54 i) ∧ m' 54 41 = 1 ∧ m' 54 28 = 0 ∧ m' 54 30 = 0 ∧ ∀ j : Int, (0 ≤ j ∧ j < 324) → m' 81 j = 0) → T (some (vI v)) m') → kW (eX X) 9 M_X12_press T 8 [some (vR 54), some (vI R), some (vI pr), some (vI v), some (vI i4), some (vI t)] [] mm := by
    intro v i4 t mm hend
    refine kW_go ok_X12_press [] 20 ?_
    refine kCall_mono (c_X12_plainly X mm 1 (Or.inr rfl)) (Nat.le_of_ble_eq_true rfl) ?_
    rintro _ m' ⟨rfl, hp⟩
    exact hend m' hp
  have lost : ∀ (i4 t : Int) (cN mm c1 : Mem), RR0 w d l cN mm → WM w d l cN → (∀ o, o ≠ 17 → o ≠ 19 → cN o = c o) → rfq m mm → SA 75 76 77 w d l c mm → prA w d l pr R.toNat 1 (fun _ => 0) c0 none c1 → kW (eX X) 9 M_X12_press T 7 [some (vR 54), some (vI R), some (vI pr), some (vI (-1)), some (vI i4), some (vI t)] [] mm := by
    intro i4 t cN mm c1 a1 a2 a3 a4 a5 a6
    refine kW_go ok_X12_press [8] 20 ?_
    refine And.intro (fun h => absurd rfl h) (fun _ => ?_)
    refine kCall_mono (c_X12_putAllBack X c cN mm hD hM a2 a3 a1 a5) (Nat.le_of_ble_eq_true rfl) ?_
    rintro _ m2 ⟨rfl, hR2, hf2⟩
    refine eight _ _ _ m2 (fun m' hp => hT _ _ (Or.inr ⟨⟨hRb, hpr⟩, none, c1, by rw [← hc0]; exact a6, rfl, fun o ho => ?_, Or.inl ⟨rfl, plain_R0 hR2 hp⟩⟩))
    rw [hp.1 o (by omega) (by omega), hf2 o (by omega) (by omega) (by omega) (by omega)]
    exact a4 o ho
  have rounds : ∀ (k : Nat) (t : Int) (ht : Int → Int) (c1 mm : Mem), t + k = R + 1 → 1 ≤ t → RR0 w d l c1 mm → WM w d l c1 → (∀ o, o ≠ 17 → o ≠ 19 → c1 o = c o) → rfq m mm → SA 75 76 77 w d l c mm → (mm 54 28 = 0 ∧ mm 54 30 = 1 ∧ mm 54 41 = 1) → (∀ x, inC w d l x → mm 82 (cR w d x) = ht x ∧ 0 ≤ ht x ∧ ht x ≤ t - 1) → (∀ j : Int, (0 ≤ j ∧ j < 324) → ¬ inRf w d l j → mm 82 j = 0) → (∀ r c', prA w d l pr k t ht c1 r c' → prA w d l pr R.toNat 1 (fun _ => 0) c0 r c') → kW (eX X) 9 M_X12_press T 5 [some (vR 54), some (vI R), some (vI pr), some (vI (-1)), some (vI 1), some (vI t)] [] mm := by
    intro k
    induction k with
    | zero =>
      intro t ht c1 mm hk ht1 a1 a2 a3 a4 a5 a6 a7 a8 a9
      refine kW_go ok_X12_press [7] 20 ?_
      exact And.intro (fun _ => lost _ _ c1 mm c1 a1 a2 a3 a4 a5 (a9 none c1 rfl)) (fun h => absurd h (by omega))
    | succ k ih =>
      intro t ht c1 mm hk ht1 a1 a2 a3 a4 a5 a6 a7 a8 a9
      have e9 : c1 9 = c 9 := a3 9 (by decide) (by decide)
      refine kW_go ok_X12_press [6, 7] 20 ?_
      refine And.intro (fun h => absurd h (by omega)) (fun _ => And.intro (fun h => absurd h (by decide)) (fun _ => ?_))
      refine kCall_mono (c_X12_turn X c1 mm hD a2 a1 a6.1 a6.2.1 a6.2.2 hpr (fun x hx => ⟨(a7 x hx).1, (a7 x hx).2.1, by have := (a7 x hx).2.2; omega⟩)) (Nat.le_of_ble_eq_true rfl) ?_
      rintro _ m2 ⟨b, c2, hL, rfl, cN, hcN, hR2, hM2, hf2, hr2⟩
      have q2 : rfq m m2 := fun o ho => by rw [hr2.1 o (by omega)]; exact a4 o ho
      have s2 : SA 75 76 77 w d l c m2 := SA_same (hr2.1 75 (by omega)) (hr2.1 76 (by omega)) (hr2.1 77 (by omega)) a5
      have f2 : ∀ o, o ≠ 17 → o ≠ 19 → cN o = c o := fun o a b => by rw [hf2 o a b]; exact a3 o a b
      cases b with
      | false =>
        rw [if_neg (by decide)]
        refine And.intro (fun _ => ?_) (fun h => absurd rfl h)
        refine kW_go ok_X12_press [7] 20 ?_
        have hl := lost 0 (t + 1) cN m2 c2 hR2 hM2 f2 q2 s2 (a9 none c2 ⟨false, c2, hL, Or.inl ⟨rfl, rfl⟩⟩)
        exact ⟨by constructor <;> omega, And.intro (fun _ => hl) (fun _ => And.intro (fun _ => hl) (fun h => absurd rfl h))⟩
      | true =>
        obtain rfl := hcN rfl
        rw [if_pos rfl]
        refine And.intro (fun h => absurd h (by decide)) (fun _ => ?_)
        have e82 : m2 82 = mm 82 := hr2.1 82 (by omega)
        refine kCall_mono (c_X12_crowd X cN m2 hD hM2 hR2 (ht := ht) (fun x hx => by rw [e82]; have := a7 x hx; exact ⟨this.1, this.2.1, by omega⟩) (fun j h1 h2 => by rw [e82]; exact a8 j h1 h2)) (Nat.le_of_ble_eq_true rfl) ?_
        rintro _ m3 ⟨v, rfl, hv, hf3, hx3, hj3⟩
        have hR3 : RR0 w d l cN m3 := RR0_fld (fun o a b => hf3 o (by omega)) (fun i _ => by rw [hf3 54 (by decide)]) hR2
        have q3 : rfq m m3 := fun o ho => by rw [hf3 o (by omega)]; exact q2 o ho
        refine And.intro (fun hne => ?_) (fun he => ?_)
        · have hne : ¬ v = 0 := hne
          refine kW_go ok_X12_press [5] 20 ?_
          refine ⟨by constructor <;> omega, ih (t + 1) (fun x => ht x + iv (crP w d l cN x) 1) cN m3 (by omega) (by omega) hR3 hM2 f2 q3 (SA_same (hf3 75 (by decide)) (hf3 76 (by decide)) (hf3 77 (by decide)) s2) ?_ (fun x hx => ⟨hx3 x hx, ?_⟩) hj3 (fun r c' h => a9 r c' ⟨true, cN, hL, Or.inr ⟨rfl, Or.inr ⟨hv.mp hne, h⟩⟩⟩)⟩
          · rw [hf3 54 (by decide), hr2.2 28 (by decide) (by decide), hr2.2 30 (by decide) (by decide), hr2.2 41 (by decide) (by decide)]
            exact a6
          · have h1 := (a7 x hx).2
            have h2 : 0 ≤ iv (crP w d l cN x) 1 ∧ iv (crP w d l cN x) 1 ≤ 1 := iv_in ⟨by decide, by decide⟩
            show 0 ≤ ht x + iv (crP w d l cN x) 1 ∧ ht x + iv (crP w d l cN x) 1 ≤ t + 1 - 1
            omega
        · have he : v = 0 := he
          have hend : kW (eX X) 9 M_X12_press T 7 [some (vR 54), some (vI R), some (vI pr), some (vI t), some (vI 0), some (vI (t + 1))] [] m3 := by
            refine kW_go ok_X12_press [8] 20 ?_
            refine And.intro (fun _ => ?_) (fun h => absurd h (by omega))
            refine eight _ _ _ m3 (fun m' hp => hT _ _ (Or.inr ⟨⟨hRb, hpr⟩, some t, cN, ?_, rfl, fun o ho => ?_, Or.inr ⟨(by intro z; cases z), plain_R0 hR3 hp, hM2, f2⟩⟩))
            · rw [← hc0]
              refine a9 _ _ ⟨true, cN, hL, Or.inr ⟨rfl, Or.inl ⟨fun x hx z => ?_, rfl, rfl⟩⟩⟩
              exact (hv.mpr ⟨x, hx, z⟩) he
            · rw [hp.1 o (by omega) (by omega)]
              exact q3 o ho
          refine kW_go ok_X12_press [7] 20 ?_
          exact ⟨by constructor <;> omega, And.intro (fun _ => hend) (fun _ => And.intro (fun _ => hend) (fun h => absurd rfl h))⟩
  refine kW_go ok_X12_press [3] 20 ?_
  refine kCall_mono (c_X12_takeAllOff X c m hD h8 (RR_0 hR)) (Nat.le_of_ble_eq_true rfl) ?_
  rintro _ m1 ⟨rfl, hS1, hf1⟩
  have hR1 : RR0 w d l c m1 := RR0_fld (fun o a b => hf1 o (by omega) (by omega) (by omega)) (fun i _ => by rw [hf1 54 (by decide) (by decide) (by decide)]) (RR_0 hR)
  refine kCall_mono (c_X12_ripAll X c m1 hD hM hR1) (Nat.le_of_ble_eq_true rfl) ?_
  rintro _ m2 ⟨rfl, hR2, hf2⟩
  rw [← hc0] at hR2
  refine kCall_mono (c_X12_plainly X m2 1 (Or.inr rfl)) (Nat.le_of_ble_eq_true rfl) ?_
  rintro _ m3 ⟨rfl, hp⟩
  have hR3 := RR_0 (plain_R0 hR2 hp)
  have hb3 : ∀ o, o ≠ 54 → o ≠ 68 → o ≠ 72 → o ≠ 75 → o ≠ 76 → o ≠ 77 → o ≠ 81 → m3 o = m o := fun o z1 z2 z3 z4 z5 z6 z7 => by rw [hp.1 o z1 z7, hf2 o z2 z3, hf1 o z4 z5 z6]
  have heat : ∀ (k : Nat) (i : Int) (mm : Mem) (x4 x5 : Option AV), i + k = 324 → 0 ≤ i → (∀ o, o ≠ 54 → o ≠ 82 → mm o = m3 o) → (∀ j : Int, j ≠ 30 → mm 54 j = m3 54 j) → mm 54 30 = 1 → (∀ j : Int, (0 ≤ j ∧ j < i) → mm 82 j = 0) → kW (eX X) 9 M_X12_press T 3 [some (vR 54), some (vI R), some (vI pr), some (vI i), x4, x5] [] mm := by
    intro k
    induction k with
    | zero =>
      intro i mm x4 x5 hk h0 a1 a2 a3 a4
      have hi : i = 324 := by omega
      refine kW_go ok_X12_press [5] 20 ?_
      refine And.intro (fun _ => ?_) (fun h => absurd h (by omega))
      refine rounds R.toNat 1 (fun _ => 0) c0 mm (by omega) (by omega) (RR0_fld (fun o a b => a1 o (by omega) (by omega)) (fun i hi => a2 i (by omega)) hR3) hM0 hcc0 (fun o ho => by rw [a1 o (by omega) (by omega)]; exact hb3 o (by omega) (by omega) (by omega) (by omega) (by omega) (by omega) (by omega)) (SA_same ?_ ?_ ?_ hS1) ?_ (fun x hx => ⟨a4 _ (by have := (cR_geo hD hx).1; omega), by decide, by decide⟩) (fun j hj _ => a4 j (by omega)) (fun _ _ h => h)
      · rw [a1 75 (by decide) (by decide), hp.1 75 (by decide) (by decide), hf2 75 (by decide) (by decide)]
      · rw [a1 76 (by decide) (by decide), hp.1 76 (by decide) (by decide), hf2 76 (by decide) (by decide)]
      · rw [a1 77 (by decide) (by decide), hp.1 77 (by decide) (by decide), hf2 77 (by decide) (by decide)]
      · exact ⟨by rw [a2 28 (by decide)]; exact hp.2.2.2.1, a3, by rw [a2 41 (by decide)]; exact hp.2.2.1⟩
    | succ k ih =>
      intro i mm x4 x5 hk h0 a1 a2 a3 a4
      have hib : 0 ≤ i ∧ i < ((324 : Nat) : Int) := by omega
      refine kW_go ok_X12_press [3] 20 ?_
      refine And.intro (fun h => absurd h (by omega)) (fun _ => ⟨hib, by constructor <;> omega, ih (i + 1) _ _ _ (by omega) (by omega) (fun o h1 h2 => by rw [k_mset_ne h2]; exact a1 o h1 h2) (fun j hj => by rw [k_mset_ne (by decide)]; exact a2 j hj) (by rw [k_mset_ne (by decide)]; exact a3) (fun j hj => ?_)⟩)
      rw [k_mset_at]
      by_cases e : j = i
      · rw [if_pos e]
      · rw [if_neg e]; exact a4 j (by omega)
  have hgo := heat 324 0 (mset m3 54 30 1) none none (by omega) (by omega) (fun o h1 _ => k_mset_ne h1) (fun j hj => by rw [k_mset_at, if_neg hj]) (by rw [k_mset_at, if_pos rfl]) (fun j hj => by omega)
  exact ⟨Or.inr rfl, hgo⟩
