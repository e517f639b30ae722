/-! WIRE alike -/
def wrOk (w d l : Int) (m : Mem) (n x y x2 y2 z : Int) : Prop := (0 ≤ n ∧ n < m 9 14) ∧ ((0 ≤ x ∧ x < w) ∧ (0 ≤ y ∧ y < d) ∧ (0 ≤ z ∧ z < l)) ∧ ((0 ≤ x2 ∧ x2 < w) ∧ (0 ≤ y2 ∧ y2 < d) ∧ (0 ≤ z ∧ z < l)) ∧ ¬ (x = x2 ∧ y = y2) ∧ (x = x2 ∨ y = y2)
def wD (x y x2 y2 : Int) : Int := if x = x2 then (if y2 < y then 0 else 2) else if x < x2 then 1 else 3
def wQ (x y x2 y2 : Int) : Int := max (x2 - x) (-(x2 - x)) + max (y2 - y) (-(y2 - y))
theorem ix_ne {w d l x y x2 y2 z : Int} (hc : (0 ≤ x ∧ x < w) ∧ (0 ≤ y ∧ y < d) ∧ (0 ≤ z ∧ z < l)) (hc2 : (0 ≤ x2 ∧ x2 < w) ∧ (0 ≤ y2 ∧ y2 < d) ∧ (0 ≤ z ∧ z < l)) : ix w d x y z = ix w d x2 y2 z ↔ x = x2 ∧ y = y2 := by
  constructor
  · intro h
    have a := ix_X (d := d) (y := y) (z := z) hc.1
    have b := ix_Y (z := z) hc.1 hc.2.1
    rw [h, ix_X hc2.1] at a
    rw [h, ix_Y hc2.1 hc2.2.1] at b
    exact ⟨a.symm, b.symm⟩
  · rintro ⟨rfl, rfl⟩
    rfl
set_option maxRecDepth 100000 in
theorem c_X11_wire (X : Xv) (m : Mem) {w d l : Int} (hB : Bd X w d l m) (h8 : m 9 14 ≤ 8) (n x y x2 y2 z : Int) : kCall (eX X) 3 M_X11_wire.1 [vR 0, vI n, vI x, vI y, vI x2, vI y2, vI z] m (fun r m' => (wrOk w d l m n x y x2 y2 z ∧ r = some (vI 1) ∧ m' = wJ (w * d * l) n (wD x y x2 y2) (wQ x y x2 y2).toNat (ix w d x y z) m) ∨ (¬ wrOk w d l m n x y x2 y2 z ∧ r = some (vI 0) ∧ m' = m)) := by
  obtain ⟨hD, hN, hG⟩ := id hB
  have hc3 := okD_cells hD
  obtain ⟨⟨u1, u2⟩, ⟨u3, u4⟩, u5, u6⟩ := id hD
  refine kCall_ofT ok_X11_wire rfl (Nat.le_of_ble_eq_true rfl) (fun T hT => ?_)
  have hno : ¬ wrOk w d l m n x y x2 y2 z → T (some (vI 0)) m := fun h => hT _ _ ⟨Or.inl rfl, Or.inr ⟨h, rfl, rfl⟩⟩
  refine kW_go ok_X11_wire [2] 20 ?_
  refine kCall_mono (c_X2_cellAt X m hD hG x y z) (Nat.le_of_ble_eq_true rfl) ?_
  rintro _ m ⟨rfl, rfl⟩
  refine kCall_mono (c_X2_cellAt X m hD hG x2 y2 z) (Nat.le_of_ble_eq_true rfl) ?_
  rintro _ m ⟨rfl, rfl⟩
  refine kCall_mono (c_X11_isNet X m n) (Nat.le_of_ble_eq_true rfl) ?_
  rintro _ m ⟨rfl, rfl⟩
  refine And.intro (fun h => hno (fun q => b2i_0.mp h q.1)) (fun h => ?_)
  have hnn := b2i_n.mp h
  have hn8 : 0 ≤ n ∧ n < 8 := by omega
  by_cases hc : (0 ≤ x ∧ x < w) ∧ (0 ≤ y ∧ y < d) ∧ (0 ≤ z ∧ z < l)
  · have hi := ix_in (w := w) (d := d) (l := l) hc.1 hc.2.1 hc.2.2
    have e : cAt w d l x y z = ix w d x y z := if_pos hc
    have hi0 := hi.1
    rw [e]
    refine And.intro (fun h2 => absurd h2 (by omega)) (fun _ => ?_)
    by_cases hc2 : (0 ≤ x2 ∧ x2 < w) ∧ (0 ≤ y2 ∧ y2 < d) ∧ (0 ≤ z ∧ z < l)
    · have hi2 := ix_in (w := w) (d := d) (l := l) hc2.1 hc2.2.1 hc2.2.2
      have e2 : cAt w d l x2 y2 z = ix w d x2 y2 z := if_pos hc2
      have hi20 := hi2.1
      rw [e2]
      refine And.intro (fun h2 => absurd h2 (by omega)) (fun _ => And.intro (fun h2 => hno (fun q => q.2.2.2.1 ((ix_ne hc hc2).mp h2))) (fun h2 => ?_))
      have hne : ¬ (x = x2 ∧ y = y2) := fun q => h2 ((ix_ne hc hc2).mpr q)
      have hib : 0 ≤ ix w d x y z ∧ ix w d x y z < (nC X : Int) := by obtain ⟨a, b⟩ := hi; omega
      have h6 : ∀ k, k = wD x y x2 y2 → (0 ≤ k ∧ k < 6) → (x = x2 ∨ y = y2) → kW (eX X) 2 M_X11_wire T 6 [some (vR 0), some (vI n), some (vI x), some (vI y), some (vI x2), some (vI y2), some (vI z), some (vI (ix w d x y z)), some (vI (ix w d x2 y2 z)), none] [vI k] m := by
        intro k hk hk6 hor
        refine kW_go ok_X11_wire [] 20 ?_
        refine ⟨by constructor <;> omega, by constructor <;> omega, by constructor <;> omega, by constructor <;> omega, by constructor <;> omega, ?_⟩
        have eQ : max (x2 - x) (-(x2 - x)) + max (y2 - y) (-(y2 - y)) = ((wQ x y x2 y2).toNat : Int) := by unfold wQ; omega
        rw [eQ]
        refine kCall_mono (c_X3_addWire X m n (ix w d x y z) k (wQ x y x2 y2).toNat (by omega) (by rw [hG.2.2.2.2.1]; omega) hn8 (Or.inr hib) hk6 (fun u hu => ?_) (by unfold wQ; omega)) (Nat.le_of_ble_eq_true rfl) ?_
        · have hu' : inC w d l u := ⟨hu.1, by omega⟩
          rw [hG.2.2.2.2.2 u hu' |>.2.2.2 k hk6.1 hk6.2]
          by_cases hq : nx w d l u k = -1
          · exact Or.inl hq
          · have := (nx_in hq).1
            exact Or.inr ⟨this.1, by have := this.2; omega⟩
        · rintro _ m2 ⟨rfl, rfl⟩
          exact hT _ _ ⟨Or.inr rfl, Or.inl ⟨⟨hnn, hc, hc2, hne, hor⟩, rfl, by rw [hN, hk]⟩⟩
      have h2' : (x = x2 ∨ y = y2) → kW (eX X) 2 M_X11_wire T 2 [some (vR 0), some (vI n), some (vI x), some (vI y), some (vI x2), some (vI y2), some (vI z), some (vI (ix w d x y z)), some (vI (ix w d x2 y2 z)), none] [] m := by
        intro hor
        refine kW_go ok_X11_wire [6] 20 ?_
        refine And.intro (fun a => And.intro (fun b => h6 3 ?_ (by decide) hor) (fun b => h6 1 ?_ (by decide) hor)) (fun a => And.intro (fun b => h6 2 ?_ (by decide) hor) (fun b => h6 0 ?_ (by decide) hor))
        · unfold wD; rw [if_neg a, if_neg (by omega)]
        · unfold wD; rw [if_neg a, if_pos (by omega)]
        · unfold wD; rw [if_pos a, if_neg (by omega)]
        · unfold wD; rw [if_pos a, if_pos (by omega)]
      exact And.intro (fun a => h2' (Or.inl a)) (fun a => And.intro (fun b => h2' (Or.inr b)) (fun b => hno (fun q => q.2.2.2.2.elim a b)))
    · have e2 : cAt w d l x2 y2 z = -1 := if_neg hc2
      rw [e2]
      exact And.intro (fun _ => hno (fun q => hc2 q.2.2.1)) (fun h2 => absurd rfl h2)
  · have e : cAt w d l x y z = -1 := if_neg hc
    rw [e]
    exact And.intro (fun _ => hno (fun q => hc q.2.1)) (fun h2 => absurd rfl h2)
theorem wJ_ne {N n k : Int} {o : Nat} (h1 : o ≠ 18) (h2 : o ≠ 16) : ∀ (q : Nat) (u : Int) (c : Mem), wJ N n k q u c o = c o := by
  intro q
  induction q with
  | zero => intro u c; rfl
  | succ q ih =>
    intro u c
    show (if u = -1 then c else if c 2 (u * 6 + k) = -1 then c else wJ N n k q (c 2 (u * 6 + k)) (jn 18 16 (n * N) n u k (c 2 (u * 6 + k)) c)) o = c o
    by_cases a : u = -1
    · rw [if_pos a]
    · rw [if_neg a]
      by_cases b : c 2 (u * 6 + k) = -1
      · rw [if_pos b]
      · rw [if_neg b, ih, jn_ne h1 h2]
set_option maxRecDepth 100000 in
theorem c_X12_wire (X : Xv) (c m : Mem) {w d l : Int} (hD : okD w d l) (hG : gridC c w d l) (hW : WF w d l c) (hR : RR w d l c m) (n x y x2 y2 z : Int) : kCall (eX X) 4 M_X12_wire.1 [vR 54, vI n, vI x, vI y, vI x2, vI y2, vI z] m (fun r m' => (wrOk w d l c n x y x2 y2 z ∧ r = some (vI 1) ∧ WF w d l (wJ (w * d * l) n (wD x y x2 y2) (wQ x y x2 y2).toNat (ix w d x y z) c) ∧ RR w d l (wJ (w * d * l) n (wD x y x2 y2) (wQ x y x2 y2).toNat (ix w d x y z) c) m' ∧ ∀ o, o < 54 → m' o = m o) ∨ (¬ wrOk w d l c n x y x2 y2 z ∧ r = some (vI 0) ∧ m' = m)) := by
  have h8 := hW.1.2.1
  have h26 : m 54 26 = c 9 14 := hR.1.2.2.2.1.1
  obtain ⟨⟨u1, u2⟩, ⟨u3, u4⟩, u5, u6⟩ := id hD
  refine kCall_ofT ok_X12_wire rfl (Nat.le_of_ble_eq_true rfl) (fun T hT => ?_)
  have hno : ¬ wrOk w d l c n x y x2 y2 z → T (some (vI 0)) m := fun h => hT _ _ ⟨Or.inl rfl, Or.inr ⟨h, rfl, rfl⟩⟩
  refine kW_go ok_X12_wire [4, 6] 20 ?_
  refine kCall_mono (c_X12_isNet X m n (by omega)) (Nat.le_of_ble_eq_true rfl) ?_
  rintro _ m ⟨rfl, rfl⟩
  rw [h26]
  refine And.intro (fun h => hno (fun q => b2i_0.mp h q.1)) (fun h => ?_)
  have hnn := b2i_n.mp h
  have hn8 : 0 ≤ n ∧ n < 8 := by omega
  refine kCall_mono (c_X12_isCell X m hR.1.1 x y z) (Nat.le_of_ble_eq_true rfl) ?_
  rintro _ m ⟨rfl, rfl⟩
  refine And.intro (fun h => hno (fun q => b2i_0.mp h q.2.1)) (fun h => ?_)
  have hc := b2i_n.mp h
  refine kCall_mono (c_X12_isCell X m hR.1.1 x2 y2 z) (Nat.le_of_ble_eq_true rfl) ?_
  rintro _ m ⟨rfl, rfl⟩
  refine And.intro (fun h => hno (fun q => b2i_0.mp h q.2.2.1)) (fun h => ?_)
  have hc2 := b2i_n.mp h
  have hi := ix_in (w := w) (d := d) (l := l) hc.1 hc.2.1 hc.2.2
  have hcr : cR w d (ix w d x y z) = 81 * z + 9 * y + x := cR_ix (l := l) hc.1 hc.2.1
  have hcr2 : cR w d (ix w d x2 y2 z) = 81 * z + 9 * y2 + x2 := cR_ix (l := l) hc2.1 hc2.2.1
  have hi2 := ix_in (w := w) (d := d) (l := l) hc2.1 hc2.2.1 hc2.2.2
  -- the walk
  have walk : wrOk w d l c n x y x2 y2 z → (0 ≤ wD x y x2 y2 ∧ wD x y x2 y2 < 6) → ∀ (q : Nat) (u : Int) (c1 m1 : Mem) (x9 : Option AV), inC w d l u → gX w u + q * dX (wD x y x2 y2) = x2 → gY w d u + q * dY (wD x y x2 y2) = y2 → gZ w d u = z → dZ (wD x y x2 y2) = 0 → ((dX (wD x y x2 y2) = 0 ∧ (dY (wD x y x2 y2) = 1 ∨ dY (wD x y x2 y2) = -1)) ∨ (dY (wD x y x2 y2) = 0 ∧ (dX (wD x y x2 y2) = 1 ∨ dX (wD x y x2 y2) = -1))) → c1 2 = c 2 → c1 9 = c 9 → WF w d l c1 → RR w d l c1 m1 → (∀ o, o < 54 → m1 o = m o) → wJ (w * d * l) n (wD x y x2 y2) q u c1 = wJ (w * d * l) n (wD x y x2 y2) (wQ x y x2 y2).toNat (ix w d x y z) c → kW (eX X) 3 M_X12_wire T 11 [some (vR 54), some (vI n), some (vI x), some (vI y), some (vI x2), some (vI y2), some (vI z), some (vI (wD x y x2 y2)), some (vI (cR w d u)), x9] [] m1 := by
    intro hok hk6 q
    generalize hwk : wD x y x2 y2 = k at hk6 ⊢
    induction q with
    | zero =>
      intro u c1 m1 x9 hu hx hy hz hdz hdd e2 e9 hW1 hR1 hf he
      have hu2 : u = ix w d x2 y2 z := by rw [← ix_eta hD u, hz, show gX w u = x2 by omega, show gY w d u = y2 by omega]
      refine kW_go ok_X12_wire [11] 20 ?_
      refine kCall_mono (c_X12_cell (eX X) m1 x2 y2 z (by omega) (by omega) (by omega)) (Nat.le_of_ble_eq_true rfl) ?_
      rintro _ m2 ⟨rfl, rfl⟩
      refine And.intro (fun _ => hT _ _ ⟨Or.inr rfl, Or.inl ⟨hok, rfl, ?_, ?_, hf⟩⟩) (fun h => absurd (by rw [hu2, hcr2]) h)
      · rw [hwk, ← he]; exact hW1
      · rw [hwk, ← he]; exact hR1
    | succ q ih =>
      intro u c1 m1 x9 hu hx hy hz hdz hdd e2 e9 hW1 hR1 hf he
      have gx := gX_in (c := u) hD
      have gy := gY_in (c := u) hD
      have gz := gZ_in hD hu
      rw [Int.natCast_add, Int.add_mul] at hx hy
      have hne : nx w d l u k ≠ -1 := by
        refine nx_of ?_
        rcases hdd with ⟨a, b | b⟩ | ⟨a, b | b⟩ <;> simp only [a, b, hdz] at hx hy ⊢ <;> omega
      have hnx := nx_in hne
      have hcu : cR w d u ≠ 81 * z + 9 * y2 + x2 := by
        rw [← hcr2]
        intro h
        have h := cR_inj hD hu hi2 h
        have a1 := ix_X (d := d) (y := y2) (z := z) hc2.1
        have a2 := ix_Y (z := z) hc2.1 hc2.2.1
        rw [← h] at a1 a2
        rcases hdd with ⟨a, b | b⟩ | ⟨a, b | b⟩ <;> simp only [a, b] at hx hy <;> omega
      have hq := (hR1.2.1 n hn8).1.1
      have hq9 := okL_le hD hq
      refine kW_go ok_X12_wire [11] 20 ?_
      refine kCall_mono (c_X12_cell (eX X) m1 x2 y2 z (by omega) (by omega) (by omega)) (Nat.le_of_ble_eq_true rfl) ?_
      rintro _ m2 ⟨rfl, rfl⟩
      refine And.intro (fun h => absurd h hcu) (fun _ => ?_)
      refine kCall_mono (c_X12_moved X m2 hR1.1.1 u k hu) (Nat.le_of_ble_eq_true rfl) ?_
      rintro _ m3 ⟨rfl, rfl⟩
      have hmR : mR w d l u k = cR w d (nx w d l u k) := if_neg hne
      rw [hmR]
      have hself : cR w d u ≠ cR w d (nx w d l u k) := fun t => nx_self hk6 hne (cR_inj hD hu hnx.1 t).symm
      refine kCall_mono (c_X12_addWire X m3 n (cR w d u) (cR w d (nx w d l u k)) hn8 (cR_geo hD hu).1 (cR_geo hD hnx.1).1 hself ⟨hq.1, by omega⟩) (Nat.le_of_ble_eq_true rfl) ?_
      rintro _ m4 ⟨rfl, hA⟩
      obtain ⟨hW', hR'⟩ := wire_step hD hn8 (by rw [e9]; exact hnn.2) hu hk6 hne hW1 hR1 hA
      refine ih (nx w d l u k) _ m4 _ hnx.1 (by rw [hnx.2.1]; omega) (by rw [hnx.2.2.1]; omega) (by rw [hnx.2.2.2, hdz]; omega) hdz hdd (by rw [jn_ne (by decide) (by decide)]; exact e2) (by rw [jn_ne (by decide) (by decide)]; exact e9) hW' hR' (fun o ho => by rw [hA.1 o (by omega) (by omega) (by omega) (by omega)]; exact hf o ho) ?_
      rw [← he]
      show _ = if u = -1 then c1 else if c1 2 (u * 6 + k) = -1 then c1 else wJ (w * d * l) n k q (c1 2 (u * 6 + k)) (jn 18 16 (n * (w * d * l)) n u k (c1 2 (u * 6 + k)) c1)
      rw [e2, hG.2.2.2.2.2 u hu |>.2.2.2 k hk6.1 hk6.2, if_neg (by have := hu.1; omega), if_neg hne]
  have start : wrOk w d l c n x y x2 y2 z → ∀ k, k = wD x y x2 y2 → kW (eX X) 3 M_X12_wire T 10 [some (vR 54), some (vI n), some (vI x), some (vI y), some (vI x2), some (vI y2), some (vI z), none, none, none] [vI k] m := by
    intro hok k hk
    refine kW_go ok_X12_wire [11] 20 ?_
    refine kCall_mono (c_X12_cell (eX X) m x y z (by omega) (by omega) (by omega)) (Nat.le_of_ble_eq_true rfl) ?_
    rintro _ m1 ⟨rfl, rfl⟩
    rw [← hcr, hk]
    have hne := hok.2.2.2.1
    have hor := hok.2.2.2.2
    have hk4 : (wD x y x2 y2 = 0 ∧ x = x2 ∧ y2 < y) ∨ (wD x y x2 y2 = 2 ∧ x = x2 ∧ y < y2) ∨ (wD x y x2 y2 = 1 ∧ y = y2 ∧ x < x2) ∨ (wD x y x2 y2 = 3 ∧ y = y2 ∧ x2 < x) := by
      unfold wD
      by_cases a : x = x2
      · rw [if_pos a]
        by_cases b : y2 < y
        · rw [if_pos b]; exact Or.inl ⟨rfl, a, b⟩
        · rw [if_neg b]; exact Or.inr (Or.inl ⟨rfl, a, by omega⟩)
      · rw [if_neg a]
        by_cases b : x < x2
        · rw [if_pos b]; exact Or.inr (Or.inr (Or.inl ⟨rfl, by omega, b⟩))
        · rw [if_neg b]; exact Or.inr (Or.inr (Or.inr ⟨rfl, by omega, by omega⟩))
    have eQ : ((wQ x y x2 y2).toNat : Int) = max (x2 - x) (-(x2 - x)) + max (y2 - y) (-(y2 - y)) := by unfold wQ; omega
    refine walk hok (by rcases hk4 with ⟨a, -⟩ | ⟨a, -⟩ | ⟨a, -⟩ | ⟨a, -⟩ <;> rw [a] <;> decide) _ _ c m1 _ hi ?_ ?_ (ix_Z hc.1 hc.2.1) ?_ ?_ rfl rfl hW hR (fun _ _ => rfl) rfl
    · rw [ix_X hc.1, eQ]
      rcases hk4 with ⟨a, b, e⟩ | ⟨a, b, e⟩ | ⟨a, b, e⟩ | ⟨a, b, e⟩ <;> rw [a]
      · rw [show dX 0 = 0 from rfl]; omega
      · rw [show dX 2 = 0 from rfl]; omega
      · rw [show dX 1 = 1 from rfl]; omega
      · rw [show dX 3 = -1 from rfl]; omega
    · rw [ix_Y hc.1 hc.2.1, eQ]
      rcases hk4 with ⟨a, b, e⟩ | ⟨a, b, e⟩ | ⟨a, b, e⟩ | ⟨a, b, e⟩ <;> rw [a]
      · rw [show dY 0 = -1 from rfl]; omega
      · rw [show dY 2 = 1 from rfl]; omega
      · rw [show dY 1 = 0 from rfl]; omega
      · rw [show dY 3 = 0 from rfl]; omega
    · rcases hk4 with ⟨a, -⟩ | ⟨a, -⟩ | ⟨a, -⟩ | ⟨a, -⟩ <;> rw [a] <;> rfl
    · rcases hk4 with ⟨a, -⟩ | ⟨a, -⟩ | ⟨a, -⟩ | ⟨a, -⟩ <;> rw [a] <;> decide
  have h6 : wrOk w d l c n x y x2 y2 z → kW (eX X) 3 M_X12_wire T 6 [some (vR 54), some (vI n), some (vI x), some (vI y), some (vI x2), some (vI y2), some (vI z), none, none, none] [] m := by
    intro hok
    have hne := hok.2.2.2.1
    have hor := hok.2.2.2.2
    refine kW_go ok_X12_wire [10] 20 ?_
    refine And.intro (fun a => And.intro (fun b => And.intro (fun e => start hok 0 ?_) (fun e => start hok 2 ?_)) (fun b => start hok 3 ?_)) (fun a => start hok 1 ?_)
    · unfold wD; rw [if_pos (by omega), if_pos (by omega)]
    · unfold wD; rw [if_pos (by omega), if_neg (by omega)]
    · unfold wD; rw [if_neg (by omega), if_neg (by omega)]
    · unfold wD; rw [if_neg (by omega), if_pos (by omega)]
  have h4 : ∀ a b : Int, (a = b ↔ ¬ wrOk w d l c n x y x2 y2 z) → kW (eX X) 3 M_X12_wire T 4 [some (vR 54), some (vI n), some (vI x), some (vI y), some (vI x2), some (vI y2), some (vI z), none, none, none] [vI b, vI a] m := by
    intro a b hab
    refine kW_go ok_X12_wire [6] 20 ?_
    exact And.intro (fun h => h6 (Classical.byContradiction (fun q => h (hab.mpr q)))) (fun h => hno (hab.mp h))
  have hiff : ¬ wrOk w d l c n x y x2 y2 z ↔ ((x = x2 ∧ y = y2) ∨ (x ≠ x2 ∧ y ≠ y2)) := by
    unfold wrOk
    constructor
    · intro h
      by_cases a : x = x2 <;> by_cases b : y = y2
      · exact Or.inl ⟨a, b⟩
      · exact absurd ⟨hnn, hc, hc2, fun q => b q.2, Or.inl a⟩ h
      · exact absurd ⟨hnn, hc, hc2, fun q => a q.1, Or.inr b⟩ h
      · exact Or.inr ⟨a, b⟩
    · rintro (⟨a, b⟩ | ⟨a, b⟩) h
      · exact h.2.2.2.1 ⟨a, b⟩
      · exact h.2.2.2.2.elim a b
  refine And.intro (fun a => And.intro (fun b => h4 _ _ ?_) (fun b => h4 _ _ ?_)) (fun a => And.intro (fun b => h4 _ _ ?_) (fun b => h4 _ _ ?_))
  · rw [hiff]; exact ⟨fun _ => Or.inr ⟨a, b⟩, fun _ => rfl⟩
  · rw [hiff]; exact ⟨fun h => absurd h (by decide), fun h => by rcases h with h | h; exact absurd h.1 a; exact absurd b h.2⟩
  · rw [hiff]; exact ⟨fun h => absurd h (by decide), fun h => by rcases h with h | h; exact absurd h.2 b; exact absurd a h.1⟩
  · rw [hiff]; exact ⟨fun _ => Or.inl ⟨a, b⟩, fun _ => rfl⟩
theorem pair_wire (X : Xv) (m : Mem) {w d l : Int} (hI : Inv X w d l m) (n x y x2 y2 z : Int) : kPair X 138 211 [vI n, vI x, vI y, vI x2, vI y2, vI z] m (Inv X w d l) := by
  obtain ⟨hB, hl, hW, hR, h60, h31⟩ := id hI
  have hD := hB.1
  refine kp2 (k1 := 3) (k2 := 4) (by decide) (by decide) (kCall_mono (c_X11_wire X m hB hW.1.2.1.2 n x y x2 y2 z) (Nat.le_refl _) ?_)
  rintro _ m1 (⟨h, rfl, hm1⟩ | ⟨h, rfl, rfl⟩)
  · have f : ∀ o, o ≠ 16 → o ≠ 18 → m1 o = m o := fun o a b => by rw [hm1]; exact wJ_ne b a _ _ _
    have hR1 : RR w d l m m1 := RR_ref (fun o a _ => f o (by omega) (by omega)) hR
    refine ⟨1, rfl, kCall_mono (c_X12_wire X m m1 hD hB.2.2 hW hR1 n x y x2 y2 z) (Nat.le_refl _) ?_⟩
    rintro _ m2 (⟨-, rfl, hW', hR', hf⟩ | ⟨h2, -⟩)
    · rw [← hm1] at hW' hR'
      exact ⟨rfl, inv_mk (m1 := m1) (c' := m1) hI (fun o a b => f o (by omega) (by omega)) Es_rf hW' (by rw [f 6 (by decide) (by decide)]) (f 31 (by decide) (by decide)) hf hR'⟩
    · exact absurd h h2
  · refine ⟨0, rfl, kCall_mono (c_X12_wire X m1 m1 hD hB.2.2 hW hR n x y x2 y2 z) (Nat.le_refl _) ?_⟩
    rintro _ m2 (⟨h2, -⟩ | ⟨-, rfl, rfl⟩)
    · exact absurd h2 h
    · exact ⟨rfl, hI⟩
