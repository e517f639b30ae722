/-! the class lays rows -/
def ansR : Option Int → Int
  | none => -1
  | some s => s
theorem joi_same {w d l N n : Int} {c m : Mem} (h8 : m 18 = c 18) (h9 : m 19 = c 19) (h14 : m 14 = c 14) {x : Int} : Rch (stJ w d l N n m) (m 14 (n * 4)) x ↔ joi w d l N n c x := by
  unfold joi
  rw [h14]
  exact ⟨Rch_mono (fun a b => (stJ_same h8 h9).mp), Rch_mono (fun a b => (stJ_same h8 h9).mpr)⟩
theorem LRw_ge {w d l N n mv : Int} {F : Int → Prop} {cs : Int → Int → Int} {be : Int} (hcs : ∀ k y, 0 ≤ cs k y) (hbe : 0 ≤ be) : ∀ {j : Nat} {p : Int} {c : Mem} {s : Int} {r : Option Int} {c1 : Mem}, 0 ≤ s → LRw w d l N n mv F cs be j p c s r c1 → ∀ z, r = some z → 0 ≤ z
  | 0, _, _, _, _, _, hs, h, z, hz => by rw [h.1] at hz; cases hz; exact hs
  | j + 1, p, c, s, r, c1, hs, h, z, hz => by
    rcases h with ⟨a1, a2⟩ | ⟨a1, a2, a3, a4⟩ | ⟨a1, C, q, ks, a2, a3, a4⟩
    · exact LRw_ge hcs hbe hs a2 z hz
    · rw [a3] at hz; cases hz
    · obtain ⟨⟨ks1, -, r1⟩, -⟩ := a2
      have := row_ge hcs hbe r1
      exact LRw_ge hcs hbe (by omega) a4 z hz
set_option maxRecDepth 100000 in
set_option maxHeartbeats 4000000 in
theorem c_X7_layRows (X : Xv) (m : Mem) {w d l : Int} (hB : Bd X w d l m) (hWs : WFs m) (hWp : WFp w d l m) (n v : Int) (hnn : 0 ≤ n ∧ n < m 9 14) (hp1 : 1 ≤ m 13 n) {F : Int → Prop} (hF : ∀ x, inC w d l x → (m 27 x ≠ 0 ↔ F x)) (hOw : ownF w d l (nC X) n F m) (hex : ∀ y, inC w d l y → 0 ≤ m 31 y ∧ m 31 y ≤ 160) : kCall (eX X) 4 M_X7_layRows.1 [vR 30, vI n, vI v] m (fun r m' => ∃ (res : Option Int) (c' : Mem), LRw w d l (nC X) n (if v = 0 then 4 else 6) F (csF (m 10 (m 11 n * 5)) (m 10 (m 11 n * 5 + 1)) (m 31)) (m 10 (m 11 n * 5 + 2)) (m 13 n - 1).toNat 1 m 0 res c' ∧ r = some (vI (ansR res)) ∧ ∀ o, o ≠ 30 → o ≠ 32 → o ≠ 33 → o ≠ 34 → o ≠ 35 → o ≠ 36 → m' o = c' o) := by
  obtain ⟨hD, hn, hG⟩ := id hB
  have hc4 := okD_cells hD
  have g4 : m 1 4 = (nC X : Int) := by rw [hG.2.2.2.2.1, hn]
  have hn8 : 0 ≤ n ∧ n < 8 := by have := hWs.2.1; omega
  have hso := hWs.2.2.2.1 n hnn
  obtain ⟨hst9, hvi9, hbe9, -, -⟩ := hWs.2.2.1 (m 11 n) hso
  have hs6 : 0 ≤ m 11 n ∧ m 11 n < 6 := by have := hWs.1; omega
  have hP4 := (hWp.1 n hn8).1
  obtain ⟨mv, hmv⟩ : ∃ mv : Int, mv = if v = 0 then 4 else 6 := ⟨_, rfl⟩
  have hmv46 : mv = 4 ∨ mv = 6 := by rw [hmv]; split <;> omega
  obtain ⟨L, hL⟩ : ∃ L : Int, L = if m 10 (m 11 n * 5 + 2) = 0 then 1 else 5 := ⟨_, rfl⟩
  have hLb : (L = 1 ∧ m 10 (m 11 n * 5 + 2) = 0) ∨ L = 5 := by
    rw [hL]
    by_cases hb : m 10 (m 11 n * 5 + 2) = 0
    · rw [if_pos hb]; exact Or.inl ⟨rfl, hb⟩
    · rw [if_neg hb]; exact Or.inr rfl
  have hL15 : L = 1 ∨ L = 5 := hLb.elim (fun z => Or.inl z.1) Or.inr
  have hd4 : dO L (L - 1) = 4 := by
    unfold dO
    rcases hL15 with rfl | rfl <;> decide
  rw [← hmv]
  refine kCall_ofT ok_X7_layRows rfl (Nat.le_of_ble_eq_true rfl) (fun T hT => ?_)
  obtain ⟨st, hst⟩ : ∃ st, m 10 (m 11 n * 5) = st := ⟨_, rfl⟩
  obtain ⟨vi, hvi⟩ : ∃ vi, m 10 (m 11 n * 5 + 1) = vi := ⟨_, rfl⟩
  obtain ⟨be, hbe⟩ : ∃ be, m 10 (m 11 n * 5 + 2) = be := ⟨_, rfl⟩
  rw [hst] at hst9
  rw [hvi] at hvi9
  rw [hbe] at hbe9 hLb hL
  rw [hst, hvi, hbe] at hT
  obtain ⟨P, hPe⟩ : ∃ P, m 13 n = P := ⟨_, rfl⟩
  rw [hPe] at hT hp1 hP4
  -- the pins, one by one
  have loop : ∀ (j : Nat) (p s : Int) (c m' : Mem) (x6 : Option AV), p + j = P → 1 ≤ p → 0 ≤ s → s ≤ (p - 1) * 200000 → (∀ o, o ≠ 30 → o ≠ 32 → o ≠ 33 → o ≠ 34 → o ≠ 35 → o ≠ 36 → m' o = c o) → (∀ o, o ≠ 17 → o ≠ 19 → c o = m o) → RCf w d l L mv st vi be (m 31) m' → (∀ x, inC w d l x → (m' 32 x ≠ 0 ↔ joi w d l (nC X) n c x)) → ownF w d l (nC X) n F c →
      (∀ res cc, LRw w d l (nC X) n mv F (csF st vi (m 31)) be j p c s res cc → LRw w d l (nC X) n mv F (csF st vi (m 31)) be (P - 1).toNat 1 m 0 res cc) → kW (eX X) 3 M_X7_layRows T 5 [some (vR 30), some (vI n), some (vI v), some (vI be), some (vI s), some (vI p), x6] [] m' := by
    intro j
    induction j with
    | zero =>
      intro p s c m' x6 hpj hp hs0 hsb hf hcf hR hj hOc hres
      have e13 : m' 13 n = P := by rw [hf 13 (by decide) (by decide) (by decide) (by decide) (by decide) (by decide), hcf 13 (by decide) (by decide)]; exact hPe
      refine kW_go ok_X7_layRows [] 20 ?_
      refine ⟨hn8, And.intro (fun _ => hT _ _ ⟨some s, c, hres _ _ ⟨rfl, rfl⟩, rfl, hf⟩) (fun h => ?_)⟩
      have h : p < m' 13 n := h
      omega
    | succ j ih =>
      intro p s c m' x6 hpj hp hs0 hsb hf hcf hR hj hOc hres
      have hfm : ∀ o, o ≠ 17 → o ≠ 19 → o ≠ 30 → o ≠ 32 → o ≠ 33 → o ≠ 34 → o ≠ 35 → o ≠ 36 → m' o = m o := fun o a b c1 c2 c3 c4 c5 c6 => by rw [hf o c1 c2 c3 c4 c5 c6, hcf o a b]
      have e13 : m' 13 n = P := by rw [hfm 13 (by decide) (by decide) (by decide) (by decide) (by decide) (by decide) (by decide) (by decide)]; exact hPe
      have e14 : m' 14 = m 14 := hfm 14 (by decide) (by decide) (by decide) (by decide) (by decide) (by decide) (by decide) (by decide)
      have c14 : c 14 = m 14 := hcf 14 (by decide) (by decide)
      have hB' : Bd X w d l m' := Bd_same hB (fun o a b => hfm o (by omega) (by omega) (by omega) (by omega) (by omega) (by omega) (by omega) (by omega))
      obtain ⟨x, hx⟩ : ∃ x, m 14 (n * 4 + p) = x := ⟨_, rfl⟩
      have hxi : inC w d l x := by rw [← hx]; exact hWp.2.1 n p hn8 (by omega)
      have hxb : 0 ≤ x ∧ x < (nC X : Int) := by obtain ⟨a, b⟩ := hxi; omega
      have hca : inC w d l (c 14 (n * 4)) := by
        rw [c14]
        have := hWp.2.1 n 0 hn8 (by omega)
        rwa [show n * 4 + 0 = n * 4 by omega] at this
      have hJF : ∀ y, joi w d l (nC X) n c y → F y := fun y hy => ownF_joi hca hOc hy
      have hcx : c 14 (n * 4 + p) = x := by rw [c14]; exact hx
      refine kW_go ok_X7_layRows [6, 7] 20 ?_
      refine ⟨hn8, And.intro (fun h => ?_) (fun _ => ?_)⟩
      · have h : m' 13 n ≤ p := h
        omega
      refine kCall_mono (c_X3_pinCell X m' n p hn8 (by omega)) (Nat.le_of_ble_eq_true rfl) ?_
      rintro _ m1 ⟨rfl, rfl⟩
      show (0 ≤ m1 14 (n * 4 + p) ∧ m1 14 (n * 4 + p) < (nC X : Int)) ∧ (¬ m1 32 (m1 14 (n * 4 + p)) = 0 → kW (eX X) 3 M_X7_layRows T 7 [some (vR 30), some (vI n), some (vI v), some (vI be), some (vI s), some (vI p), some (vI (m1 14 (n * 4 + p)))] [] m1) ∧ (m1 32 (m1 14 (n * 4 + p)) = 0 → kCall (eX X) 3 M_X7_search.1 [vR 30, vI (m1 14 (n * 4 + p))] m1 _)
      rw [e14, hx]
      refine ⟨hxb, fun hjn => ?_, fun hj0 => ?_⟩
      · refine kW_go ok_X7_layRows [5] 20 ?_
        refine ⟨by constructor <;> omega, ih (p + 1) s c _ _ (by omega) (by omega) hs0 (by omega) hf hcf hR hj hOc (fun res cc h => hres res cc (Or.inl ⟨by rw [hcx]; exact (hj x hxi).mp hjn, h⟩))⟩
      · have hnj : ¬ joi w d l (nC X) n c x := fun z => (hj x hxi).mpr z hj0
        refine kCall_mono (c_X7_search X _ hB' hR (F := F) (J := joi w d l (nC X) n c) (fun y hy => by rw [hfm 27 (by decide) (by decide) (by decide) (by decide) (by decide) (by decide) (by decide) (by decide)]; exact hF y hy) hj x hxi) (Nat.le_of_ble_eq_true rfl) ?_
        rintro _ m2 ⟨f2, f230, ⟨rfl, hSP⟩ | ⟨rfl, hno⟩⟩
        · have hR2 : RCf w d l L mv st vi be (m 31) m2 := RCf_same hR f230 (f2 31 (by decide) (by decide) (by decide) (by decide))
          have hB2 : Bd X w d l m2 := Bd_same hB' (fun o a b => f2 o (by omega) (by omega) (by omega) (by omega))
          have hcc := csF_in hR
          have hwr := st_in hn hL15 hxi (a := L - 1) (by omega)
          obtain ⟨rk, rb⟩ := (hSP.1 _ hwr).resolve_left hSP.2.2.1
          obtain ⟨x', a', ks0, C0, q1, q2, q3, q4, q5⟩ := id rk
          obtain ⟨rfl, rfl⟩ := st_inj hL15 (by omega) q3 q1
          obtain ⟨C, q, hLs⟩ := Ls_ex hcc.1 hcc.2 q4
          have hkey := SP_key hn rfl hD hR2 hSP hxi (by omega) hLs (Or.inr rfl)
          have hqs := Ls_short hcc.1 hcc.2 hD hxi hLs
          have hC0 : 0 ≤ C := by obtain ⟨⟨k1, -, r1⟩, -⟩ := hLs; exact row_ge hcc.1 hcc.2 r1
          obtain ⟨ks, hpth⟩ := pth_ex q hLs
          rw [hd4] at hpth
          have hLs4 := hLs
          rw [hd4] at hLs4
          have hrow := (pth_row hpth hLs4).1
          refine And.intro (fun _ => ?_) (fun h => absurd h (by decide))
          have e10 : m2 30 10 = L := hR2.1.1
          have hq5 : (nC X : Int) * L ≤ ((nC X * 5 : Nat) : Int) := by rcases hL15 with rfl | rfl <;> omega
          have hrange : inR (x * L) ∧ inR (x * L + L) ∧ inR (x * L + L - 1) := by rcases hL15 with rfl | rfl <;> (refine ⟨?_, ?_, ?_⟩ <;> constructor <;> omega)
          have esh : kshr (m2 34 (x * L + L - 1)) 11 = C := by
            have e : x * L + L - 1 = x * L + (L - 1) := by omega
            rw [e, hkey]
            have := k_shr_div (a := 2048 * C + (q : Int)) (by constructor <;> omega) (by omega) 11 (by decide)
            rw [show ((11 : Nat) : Int) = 11 from rfl] at this
            rw [this]
            show (2048 * C + (q : Int)) / 2048 = C
            omega
          refine kW_go ok_X7_layRows [7] 20 ?_
          show inR (x * m2 30 10) ∧ inR (x * m2 30 10 + m2 30 10) ∧ inR (x * m2 30 10 + m2 30 10 - 1) ∧ (0 ≤ x * m2 30 10 + m2 30 10 - 1 ∧ x * m2 30 10 + m2 30 10 - 1 < ((nC X * 5 : Nat) : Int)) ∧ inR (s + kshr (m2 34 (x * m2 30 10 + m2 30 10 - 1)) 11) ∧ kCall (eX X) 3 M_X7_walk.1 [vR 30, vI n, vI x] m2 _
          rw [e10, esh]
          have hCb : C ≤ 130000 := by omega
          refine ⟨hrange.1, hrange.2.1, hrange.2.2, by omega, by constructor <;> omega, ?_⟩
          refine kCall_mono (c_X7_walk X m2 hB2 hR2 (F := F) (J := joi w d l (nC X) n c) (fun y hy => by rw [f2 27 (by decide) (by decide) (by decide) (by decide), hfm 27 (by decide) (by decide) (by decide) (by decide) (by decide) (by decide) (by decide) (by decide)]; exact hF y hy) (fun y hy => by rw [f2 32 (by decide) (by decide) (by decide) (by decide)]; exact hj y hy) hJF n hn8 hSP (C := C) (q := q) ⟨hxi, by omega, hLs, hkey, Int.le_refl _⟩ hpth hd4) (Nat.le_of_ble_eq_true rfl) ?_
          rintro _ m3 ⟨rfl, hm3⟩
          obtain ⟨c3, hc3⟩ : ∃ c3, c3 = adP w d l (nC X) n ks x c := ⟨_, rfl⟩
          have hf2c : ∀ o, o ≠ 30 → o ≠ 32 → o ≠ 33 → o ≠ 34 → o ≠ 35 → o ≠ 36 → m2 o = c o := fun o a b c1 c2 c3 c4 => by rw [f2 o a c2 c3 c4]; exact hf o a b c1 c2 c3 c4
          have hcg := adP_cong (w := w) (d := d) (l := l) (N := (nC X : Int)) (n := n) ks x (hf2c 19 (by decide) (by decide) (by decide) (by decide) (by decide) (by decide)) (hf2c 17 (by decide) (by decide) (by decide) (by decide) (by decide) (by decide))
          have hf3 : ∀ o, o ≠ 30 → o ≠ 32 → o ≠ 33 → o ≠ 34 → o ≠ 35 → o ≠ 36 → m3 o = c3 o := by
            intro o a b c1 c2 c4 c5
            rw [hm3, hc3]
            by_cases h19 : o = 19
            · rw [h19]; exact hcg.1
            · by_cases h17 : o = 17
              · rw [h17]; exact hcg.2
              · rw [adP_ne h19 h17, adP_ne h19 h17]; exact hf2c o a b c1 c2 c4 c5
          have hcf3 : ∀ o, o ≠ 17 → o ≠ 19 → c3 o = m o := fun o a b => by rw [hc3, adP_ne b a]; exact hcf o a b
          have hB3 : Bd X w d l m3 := Bd_same hB2 (fun o a b => by rw [hm3, adP_ne (by omega) (by omega)])
          have hR3 : RCf w d l L mv st vi be (m 31) m3 := RCf_same hR2 (fun i _ => by rw [hm3, adP_ne (by decide) (by decide)]) (by rw [hm3, adP_ne (by decide) (by decide)])
          have hO3 : ownF w d l (nC X) n F c3 := by rw [hc3]; exact ownF_adP hD hn (by omega) hJF hxi hOc hrow
          have h314 : m3 14 = c3 14 := hf3 14 (by decide) (by decide) (by decide) (by decide) (by decide) (by decide)
          have hc3a : inC w d l (m3 14 (n * 4)) := by rw [h314, hcf3 14 (by decide) (by decide), ← c14]; exact hca
          rw [show fld m2 30 10 = L from e10, esh]
          refine kCall_mono (c_X7_markJoined X m3 hB3 n hn8 hc3a) (Nat.le_of_ble_eq_true rfl) ?_
          rintro _ m4 ⟨rfl, f4, h32⟩
          have hj4 : ∀ y, inC w d l y → (m4 32 y ≠ 0 ↔ joi w d l (nC X) n c3 y) := fun y hy => by
            rw [h32 y hy]
            exact joi_same (hf3 18 (by decide) (by decide) (by decide) (by decide) (by decide) (by decide)) (hf3 19 (by decide) (by decide) (by decide) (by decide) (by decide) (by decide)) h314
          refine kW_go ok_X7_layRows [5] 20 ?_
          refine ⟨by constructor <;> omega, ih (p + 1) (s + C) c3 m4 _ (by omega) (by omega) (by omega) (by omega) (fun o a b c1 c2 c4 c5 => by rw [f4 o b c1]; exact hf3 o a b c1 c2 c4 c5) hcf3 (RCf_same hR3 (fun i _ => by rw [f4 30 (by decide) (by decide)]) (f4 31 (by decide) (by decide))) hj4 hO3 (fun res cc h => hres res cc (Or.inr (Or.inr ⟨by rw [hcx]; exact hnj, C, q, ks, by rw [hcx]; exact hLs4, by rw [hcx]; exact hpth, by rw [hcx, ← hc3]; exact h⟩)))⟩
        · refine And.intro (fun h => absurd rfl h) (fun _ => hT _ _ ⟨none, c, hres _ _ (Or.inr (Or.inl ⟨by rw [hcx]; exact hnj, fun ks C hr => ?_, rfl, rfl⟩)), rfl, fun o a b c1 c2 c3 c4 => by rw [f2 o a c2 c3 c4]; exact hf o a b c1 c2 c3 c4⟩)
          rw [hcx] at hr
          exact hno _ ⟨x, L - 1, ks, C, rfl, hxi, by omega, by rw [hd4]; exact hr, rfl⟩
  -- the start
  have hset : ∀ (M : Mem) (k val : Int), M 10 = m 10 → M 11 = m 11 → (0 ≤ k ∧ k < 5) → m 10 (m 11 n * 5 + k) = val → kCall (eX X) 1 M_X3_setting.1 [vR 9, vI n, vI k] M (cP val M) := by
    intro M k val h10 h11 hk hv
    have := c_X3_setting X M n k hn8 hk (by rw [h11]; exact hs6)
    rw [h10, h11, hv] at this
    exact this
  have fs : ∀ (M : Mem) (k : Nat) (z : Int) (o : Nat), o ≠ 30 → fset M 30 k z o = M o := fun M k z o ho => by unfold fset; rw [k_mset_ne ho]
  have sh : ∀ z : Int, (0 ≤ z ∧ z ≤ 99) → kshl z 11 = 2048 * z := by
    intro z hz
    have := k_shl_mul (a := z) hz.1 11 (by decide) (by omega)
    rw [show ((11 : Nat) : Int) = 11 from rfl] at this
    rw [this]; omega
  have hst0 : m 10 (m 11 n * 5 + 0) = st := by rw [show m 11 n * 5 + 0 = m 11 n * 5 by omega]; exact hst
  have blk4 : kW (eX X) 3 M_X7_layRows T 4 [some (vR 30), some (vI n), some (vI v), some (vI be), none, none, none] [vI mv, vR 30] (fset m 30 10 L) := by
    refine kW_go ok_X7_layRows [5] 20 ?_
    refine kCall_mono (hset _ 0 st (by rw [fs _ _ _ 10 (by decide), fs _ _ _ 10 (by decide)]) (by rw [fs _ _ _ 11 (by decide), fs _ _ _ 11 (by decide)]) (by decide) hst0) (Nat.le_of_ble_eq_true rfl) ?_
    rintro _ m1 ⟨rfl, rfl⟩
    refine ⟨by rw [sh st (by omega)]; constructor <;> omega, ?_⟩
    refine kCall_mono (hset _ 1 vi (by rw [fs _ _ _ 10 (by decide), fs _ _ _ 10 (by decide), fs _ _ _ 10 (by decide)]) (by rw [fs _ _ _ 11 (by decide), fs _ _ _ 11 (by decide), fs _ _ _ 11 (by decide)]) (by decide) hvi) (Nat.le_of_ble_eq_true rfl) ?_
    rintro _ m1 ⟨rfl, rfl⟩
    refine ⟨by rw [sh vi (by omega)]; constructor <;> omega, ?_⟩
    rw [sh st (by omega), sh vi (by omega)]
    generalize hm5 : fset (fset (fset (fset (fset m 30 10 L) 30 11 mv) 30 12 (2048 * st + 1)) 30 13 (2048 * vi + 1)) 30 14 (2048 * be) = m5
    have g5 : ∀ o, o ≠ 30 → m5 o = m o := fun o ho => by rw [← hm5, fs _ _ _ o ho, fs _ _ _ o ho, fs _ _ _ o ho, fs _ _ _ o ho, fs _ _ _ o ho]
    have hR5 : RCf w d l L mv st vi be (m 31) m5 := by
      refine ⟨⟨?_, ?_, ?_, ?_, ?_⟩, hLb, hmv46, ⟨hst9, hvi9, hbe9⟩, fun y => by rw [g5 31 (by decide)], hex⟩
      · rw [← hm5]; rfl
      · rw [← hm5]; rfl
      · rw [← hm5]; rfl
      · rw [← hm5]; rfl
      · rw [← hm5]; rfl
    have hca : inC w d l (m 14 (n * 4)) := by
      have := hWp.2.1 n 0 hn8 (by omega)
      rwa [show n * 4 + 0 = n * 4 by omega] at this
    show kCall (eX X) 3 M_X7_markJoined.1 [vR 30, vI n] (fset (fset (fset (fset (fset m 30 10 L) 30 11 mv) 30 12 (2048 * st + 1)) 30 13 (2048 * vi + 1)) 30 14 (kshl be 11)) _
    rw [sh be (by omega), hm5]
    refine kCall_mono (c_X7_markJoined X m5 (Bd_same hB (fun o a b => g5 o (by omega))) n hn8 (by rw [g5 14 (by decide)]; exact hca)) (Nat.le_of_ble_eq_true rfl) ?_
    rintro _ m6 ⟨rfl, f6, h32⟩
    refine loop (P - 1).toNat 1 0 m m6 none (by omega) (by omega) (by omega) (by omega) (fun o a b c1 c2 c4 c5 => by rw [f6 o b c1]; exact g5 o a) (fun _ _ _ => rfl) (RCf_same hR5 (fun i _ => by rw [f6 30 (by decide) (by decide)]) (f6 31 (by decide) (by decide))) (fun y hy => ?_) hOw (fun _ _ h => h)
    rw [h32 y hy]
    exact joi_same (g5 18 (by decide)) (g5 19 (by decide)) (g5 14 (by decide))
  have blk2 : kW (eX X) 3 M_X7_layRows T 2 [some (vR 30), some (vI n), some (vI v), some (vI be), none, none, none] [vI L, vR 30] m := by
    refine kW_go ok_X7_layRows [4] 20 ?_
    refine And.intro (fun hv0 => ?_) (fun hv0 => ?_)
    · have : mv = 4 := by rw [hmv, if_pos hv0]
      rw [this] at blk4
      exact blk4
    · have : mv = 6 := by rw [hmv, if_neg hv0]
      rw [this] at blk4
      exact blk4
  refine kW_go ok_X7_layRows [2] 20 ?_
  refine kCall_mono (hset m 2 be rfl rfl (by decide) hbe) (Nat.le_of_ble_eq_true rfl) ?_
  rintro _ m1 ⟨rfl, rfl⟩
  refine And.intro (fun hb0 => ?_) (fun hb0 => ?_)
  · have : L = 5 := by rw [hL, if_neg hb0]
    rw [this] at blk2
    exact blk2
  · have : L = 1 := by rw [hL, if_pos hb0]
    rw [this] at blk2
    exact blk2
