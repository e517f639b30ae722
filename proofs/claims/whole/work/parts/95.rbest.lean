/-! the reference weighs moves -/
/-- the reference's numbers for a net's rows -/
def RWf (w d l mv st vi be : Int) (ex : Int → Int) (n : Int) (m : Mem) : Prop := ((0 ≤ m 61 n ∧ m 61 n < 7) ∧ m 56 (m 61 n) = st ∧ m 57 (m 61 n) = vi ∧ m 58 (m 61 n) = be) ∧ mv = (if m 54 41 = 0 then 4 else 6) ∧ ((1 ≤ st ∧ st ≤ 9) ∧ (0 ≤ vi ∧ vi ≤ 99) ∧ (0 ≤ be ∧ be ≤ 99)) ∧ ∀ y, inC w d l y → m 81 (cR w d y) = ex y ∧ 0 ≤ ex y ∧ ex y ≤ 160
theorem RWf_same {w d l mv st vi be : Int} {ex : Int → Int} {n : Int} {m m' : Mem} (h : RWf w d l mv st vi be ex n m) (hs : ∀ o, o = 54 ∨ o = 56 ∨ o = 57 ∨ o = 58 ∨ o = 61 ∨ o = 81 → m' o = m o) : RWf w d l mv st vi be ex n m' := by
  unfold RWf at h ⊢
  rw [hs 54 (by decide), hs 56 (by decide), hs 57 (by decide), hs 58 (by decide), hs 61 (by decide), hs 81 (by decide)]
  exact h
theorem RWf_mv {w d l mv st vi be : Int} {ex : Int → Int} {n : Int} {m : Mem} (h : RWf w d l mv st vi be ex n m) : mv = 4 ∨ mv = 6 := by
  rw [h.2.1]
  split <;> omega
theorem RWf_cs {w d l mv st vi be : Int} {ex : Int → Int} {n : Int} {m : Mem} (h : RWf w d l mv st vi be ex n m) : (∀ k y, 0 ≤ csF st vi ex k y) ∧ 0 ≤ be := by
  obtain ⟨h2, h3, h4⟩ := h.2.2.1
  refine ⟨fun k y => ?_, h4.1⟩
  unfold csF
  split <;> omega
theorem wtR_in {w d l mv st vi be : Int} {ex : Int → Int} {n : Int} {m : Mem} (h : RWf w d l mv st vi be ex n m) {dir k y : Int} (hy : inC w d l y) : 0 ≤ wt (csF st vi ex) be dir k y ∧ wt (csF st vi ex) be dir k y ≤ 358 := by
  obtain ⟨h2, h3, h4⟩ := h.2.2.1
  have := h.2.2.2 y hy
  unfold wt csF
  split <;> split <;> omega
theorem c_X12_costOf (X : Xv) (m : Mem) {w d l mv st vi be : Int} {ex : Int → Int} {n : Int} (hD : okD w d l) (hn : 0 ≤ n ∧ n < 8) (hR : RWf w d l mv st vi be ex n m) (k dir y : Int) (hy : inC w d l y) : kCall (eX X) 1 M_X12_costOf.1 [vR 54, vI n, vI k, vI dir, vI (cR w d y)] m (cP (1000 * wt (csF st vi ex) be dir k y + 1) m) := by
  obtain ⟨⟨hk7, e1, e2, e3⟩, -, ⟨h2, h3, h4⟩, hx⟩ := id hR
  have hxy := hx y hy
  have hw := wtR_in hR (dir := dir) (k := k) hy
  have hg := cR_geo hD hy
  have hnb : 0 ≤ n ∧ n < ((8 : Nat) : Int) := hn
  have hkb : 0 ≤ m 61 n ∧ m 61 n < ((7 : Nat) : Int) := hk7
  refine kCall_ofT ok_X12_costOf rfl (Nat.le_of_ble_eq_true rfl) (fun T hT => ?_)
  have fin : ∀ v : Int, v + ex y = wt (csF st vi ex) be dir k y → kW (eX X) 0 M_X12_costOf T 4 [some (vR 54), some (vI n), some (vI k), some (vI dir), some (vI (cR w d y)), some (vI (m 61 n)), none] [vI v] m := by
    intro v hv
    refine kW_go ok_X12_costOf [] 20 ?_
    show (0 ≤ cR w d y ∧ cR w d y < ((324 : Nat) : Int)) ∧ inR (v + m 81 (cR w d y)) ∧ inR (1000 * (v + m 81 (cR w d y))) ∧ inR (1000 * (v + m 81 (cR w d y)) + 1) ∧ T (some (vI (1000 * (v + m 81 (cR w d y)) + 1))) m
    rw [hxy.1, hv]
    exact ⟨hg.1, by constructor <;> omega, by constructor <;> omega, by constructor <;> omega, hT _ _ ⟨rfl, rfl⟩⟩
  refine kW_go ok_X12_costOf [4] 20 ?_
  show (0 ≤ n ∧ n < ((8 : Nat) : Int)) ∧ (k ≤ 3 → (0 ≤ m 61 n ∧ m 61 n < ((7 : Nat) : Int)) ∧ ((4 ≤ dir → inR (m 56 (m 61 n) + 0) ∧ kW (eX X) 0 M_X12_costOf T 4 [some (vR 54), some (vI n), some (vI k), some (vI dir), some (vI (cR w d y)), some (vI (m 61 n)), none] [vI (m 56 (m 61 n) + 0)] m) ∧ (dir < 4 → (dir = k → inR (m 56 (m 61 n) + 0) ∧ kW (eX X) 0 M_X12_costOf T 4 [some (vR 54), some (vI n), some (vI k), some (vI dir), some (vI (cR w d y)), some (vI (m 61 n)), none] [vI (m 56 (m 61 n) + 0)] m) ∧ (¬ dir = k → (0 ≤ m 61 n ∧ m 61 n < ((7 : Nat) : Int)) ∧ inR (m 56 (m 61 n) + m 58 (m 61 n)) ∧ kW (eX X) 0 M_X12_costOf T 4 [some (vR 54), some (vI n), some (vI k), some (vI dir), some (vI (cR w d y)), some (vI (m 61 n)), none] [vI (m 56 (m 61 n) + m 58 (m 61 n))] m)))) ∧ (3 < k → (0 ≤ m 61 n ∧ m 61 n < ((7 : Nat) : Int)) ∧ kW (eX X) 0 M_X12_costOf T 4 [some (vR 54), some (vI n), some (vI k), some (vI dir), some (vI (cR w d y)), some (vI (m 61 n)), none] [vI (m 57 (m 61 n))] m)
  rw [e1, e2, e3]
  have hmx : max 0 (ex y) = ex y := by omega
  refine ⟨hnb, fun hk => ⟨hkb, fun hd => ⟨by constructor <;> omega, fin _ ?_⟩, fun hd => ⟨fun he => ⟨by constructor <;> omega, fin _ ?_⟩, fun he => ⟨hkb, by constructor <;> omega, fin _ ?_⟩⟩⟩, fun hk => ⟨hkb, fin _ ?_⟩⟩
  · unfold wt csF
    rw [if_neg (by omega : ¬ 4 ≤ k), if_neg (by omega : ¬ (k < 4 ∧ dir < 4 ∧ dir ≠ k)), hmx]; omega
  · unfold wt csF
    rw [if_neg (by omega : ¬ 4 ≤ k), if_neg (by omega : ¬ (k < 4 ∧ dir < 4 ∧ dir ≠ k)), hmx]; omega
  · unfold wt csF
    rw [if_neg (by omega : ¬ 4 ≤ k), if_pos (by omega : k < 4 ∧ dir < 4 ∧ dir ≠ k), hmx]; omega
  · unfold wt csF
    rw [if_pos (by omega : 4 ≤ k), if_neg (by omega : ¬ (k < 4 ∧ dir < 4 ∧ dir ≠ k)), hmx]; omega
/-- a weight of the reference -/
def stl (w d : Int) (m : Mem) (x dir : Int) : Int := m 79 (5 * cR w d x + dir)
/-- a move that may be taken now -/
def mvOk (w d l mv : Int) (m : Mem) (x dir k : Int) : Prop := (0 ≤ k ∧ k < mv) ∧ nx w d l x k ≠ -1 ∧ m 80 (cR w d (nx w d l x k)) ≠ 0 ∧ stl w d m (nx w d l x k) (dr dir k) < 1000000000
theorem dr_in {dir k : Int} (hd : 0 ≤ dir ∧ dir < 5) (hk : 0 ≤ k) : 0 ≤ dr dir k ∧ dr dir k < 5 := by
  unfold dr
  split <;> omega
set_option maxRecDepth 100000 in
theorem c_X12_bestFrom (X : Xv) (m : Mem) {w d l mv st vi be : Int} {ex : Int → Int} {n : Int} (hd : dimM m w d l) (hn : 0 ≤ n ∧ n < 8) (hR : RWf w d l mv st vi be ex n m) (x dir : Int) (hx : inC w d l x) (hdir : 0 ≤ dir ∧ dir < 5) (hs0 : ∀ i : Int, (0 ≤ i ∧ i < 1620) → 0 ≤ m 79 i) : kCall (eX X) 4 M_X12_bestFrom.1 [vR 54, vI n, vI (cR w d x), vI dir] m (fun r m' => m' = m ∧ ∃ v : Int, r = some (vI v) ∧ (0 ≤ v ∧ v ≤ 1000000000) ∧ (∀ k, mvOk w d l mv m x dir k → v ≤ 1000 * wt (csF st vi ex) be dir k (nx w d l x k) + 1 + stl w d m (nx w d l x k) (dr dir k)) ∧ (v = 1000000000 ∨ ∃ k, mvOk w d l mv m x dir k ∧ v = 1000 * wt (csF st vi ex) be dir k (nx w d l x k) + 1 + stl w d m (nx w d l x k) (dr dir k))) := by
  have hD : okD w d l := hd.2.2.2
  have hmv := RWf_mv hR
  refine kCall_ofT ok_X12_bestFrom rfl (Nat.le_of_ble_eq_true rfl) (fun T hT => ?_)
  have loop : ∀ (q : Nat) (k best : Int) (x6 x7 : Option AV), k + q = mv → 0 ≤ k → (0 ≤ best ∧ best ≤ 1000000000) → (∀ j, j < k → mvOk w d l mv m x dir j → best ≤ 1000 * wt (csF st vi ex) be dir j (nx w d l x j) + 1 + stl w d m (nx w d l x j) (dr dir j)) → (best = 1000000000 ∨ ∃ j, mvOk w d l mv m x dir j ∧ best = 1000 * wt (csF st vi ex) be dir j (nx w d l x j) + 1 + stl w d m (nx w d l x j) (dr dir j)) → kW (eX X) 3 M_X12_bestFrom T 1 [some (vR 54), some (vI n), some (vI (cR w d x)), some (vI dir), some (vI best), some (vI k), x6, x7] [] m := by
    intro q
    induction q with
    | zero =>
      intro k best x6 x7 hkq h0 hb hall hex
      have hfin : T (some (vI best)) m := hT _ _ ⟨rfl, best, rfl, hb, fun j hj => hall j (by have := hj.1.2; omega) hj, hex⟩
      have e41 := hR.2.1
      refine kW_go ok_X12_bestFrom [] 20 ?_
      refine And.intro (fun h0' => ?_) (fun h1' => ?_)
      · rw [if_pos (show m 54 41 = 0 from h0')] at e41
        exact And.intro (fun _ => hfin) (fun h => absurd h (by omega))
      · rw [if_neg (show ¬ m 54 41 = 0 from h1')] at e41
        exact And.intro (fun _ => hfin) (fun h => absurd h (by omega))
    | succ q ih =>
      intro k best x6 x7 hkq h0 hb hall hex
      have e41 := hR.2.1
      have hdr := dr_in hdir h0 (k := k)
      have blk : kW (eX X) 3 M_X12_bestFrom T 3 [some (vR 54), some (vI n), some (vI (cR w d x)), some (vI dir), some (vI best), some (vI k), x6, x7] [vI mv, vI k] m := by
        -- on to the next
        have hskip : ∀ (z6 z7 : Option AV), ¬ mvOk w d l mv m x dir k → kW (eX X) 3 M_X12_bestFrom T 6 [some (vR 54), some (vI n), some (vI (cR w d x)), some (vI dir), some (vI best), some (vI k), z6, z7] [] m := by
          intro z6 z7 hno
          refine kW_go ok_X12_bestFrom [1] 20 ?_
          refine ⟨by constructor <;> omega, ih (k + 1) best z6 z7 (by omega) (by omega) hb (fun j hj hjk => ?_) hex⟩
          by_cases hjk' : j = k
          · rw [hjk'] at hjk; exact absurd hjk hno
          · exact hall j (by omega) hjk
        refine kW_go ok_X12_bestFrom [5] 20 ?_
        refine And.intro (fun h => absurd h (by omega)) (fun _ => ?_)
        refine kCall_mono (c_X12_moved X m hd x k hx) (Nat.le_of_ble_eq_true rfl) ?_
        rintro _ m1 ⟨rfl, rfl⟩
        -- the direction behind the move
        have b5 : kW (eX X) 3 M_X12_bestFrom T 5 [some (vR 54), some (vI n), some (vI (cR w d x)), some (vI dir), some (vI best), some (vI k), some (vI (mR w d l x k)), x7] [vI (dr dir k)] m1 := by
          by_cases hne : nx w d l x k = -1
          · have e : mR w d l x k = -1 := if_pos hne
            rw [e]
            refine kW_go ok_X12_bestFrom [6] 20 ?_
            exact And.intro (fun _ => hskip _ _ (fun z => z.2.1 hne)) (fun h => absurd rfl h)
          · have e : mR w d l x k = cR w d (nx w d l x k) := if_neg hne
            have hyi := (nx_in hne).1
            have hg := cR_geo hD hyi
            obtain ⟨y, hy⟩ : ∃ y, nx w d l x k = y := ⟨_, rfl⟩
            rw [e]
            rw [hy] at hyi hg ⊢
            have hstb : 0 ≤ 5 * cR w d y + dr dir k ∧ 5 * cR w d y + dr dir k < ((1620 : Nat) : Int) := by omega
            have hs := hs0 (5 * cR w d y + dr dir k) hstb
            have hw := wtR_in hR (dir := dir) (k := k) hyi
            refine kW_go ok_X12_bestFrom [6] 20 ?_
            refine And.intro (fun h => absurd h (by omega)) (fun _ => ⟨hg.1, And.intro (fun h => hskip _ _ (fun z => z.2.2.1 (by rw [hy]; exact h))) (fun ho => ⟨by constructor <;> omega, by constructor <;> omega, hstb, And.intro (fun h => hskip _ _ (fun z => ?_)) (fun hlt => ?_)⟩)⟩)
            · have := z.2.2.2
              rw [hy] at this
              unfold stl at this
              have h : 1000000000 ≤ m1 79 (5 * cR w d y + dr dir k) := h
              omega
            · have hlt : m1 79 (5 * cR w d y + dr dir k) < 1000000000 := hlt
              have hok : mvOk w d l mv m1 x dir k := ⟨by omega, hne, by rw [hy]; exact ho, by rw [hy]; exact hlt⟩
              refine kCall_mono (c_X12_costOf X m1 hD hn hR k dir y hyi) (Nat.le_of_ble_eq_true rfl) ?_
              rintro _ m2 ⟨rfl, rfl⟩
              refine ⟨by constructor <;> omega, by constructor <;> omega, hstb, by constructor <;> omega, ?_⟩
              refine kW_go ok_X12_bestFrom [1] 20 ?_
              refine ⟨by constructor <;> omega, ?_⟩
              have hv : stl w d m2 (nx w d l x k) (dr dir k) = m2 79 (5 * cR w d y + dr dir k) := by rw [hy]; rfl
              refine ih (k + 1) _ _ _ (by omega) (by omega) (by omega) (fun j hj hjk => ?_) ?_
              · by_cases hjk' : j = k
                · rw [hjk', hv, hy]; omega
                · have := hall j (by omega) hjk
                  omega
              · by_cases hle : best ≤ 1000 * wt (csF st vi ex) be dir k y + 1 + m2 79 (5 * cR w d y + dr dir k)
                · rw [show min best (1000 * wt (csF st vi ex) be dir k y + 1 + m2 79 (5 * cR w d y + dr dir k)) = best by omega]
                  exact hex
                · rw [show min best (1000 * wt (csF st vi ex) be dir k y + 1 + m2 79 (5 * cR w d y + dr dir k)) = 1000 * wt (csF st vi ex) be dir k y + 1 + m2 79 (5 * cR w d y + dr dir k) by omega]
                  exact Or.inr ⟨k, hok, by rw [hv, hy]⟩
        refine And.intro (fun hk4 => ?_) (fun hk4 => ?_)
        · have : dr dir k = dir := by unfold dr; rw [if_neg (show ¬ k < 4 from by have hk4 : 4 ≤ k := hk4; omega)]
          rw [this] at b5
          exact b5
        · have : dr dir k = k := by unfold dr; rw [if_pos hk4]
          rw [this] at b5
          exact b5
      refine kW_go ok_X12_bestFrom [3] 20 ?_
      refine And.intro (fun h0' => ?_) (fun h1' => ?_)
      · rw [if_pos (show m 54 41 = 0 from h0')] at e41
        rw [e41] at blk
        exact blk
      · rw [if_neg (show ¬ m 54 41 = 0 from h1')] at e41
        rw [e41] at blk
        exact blk
  refine kW_go ok_X12_bestFrom [1] 20 ?_
  exact loop mv.toNat 0 1000000000 none none (by omega) (by omega) (by omega) (fun j hj hk => by have := hk.1.1; omega) (Or.inl rfl)
