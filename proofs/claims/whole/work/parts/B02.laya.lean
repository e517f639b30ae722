/-! laying one net, as a step of what both sides hold -/
/-- what rows of a net ask of a memory: its class, and the free cells without its traces -/
abbrev cs0 (c : Mem) (ex : Int → Int) (n : Int) : Int → Int → Int := csF (c 10 (c 11 n * 5)) (c 10 (c 11 n * 5 + 1)) ex
abbrev be0 (c : Mem) (n : Int) : Int := c 10 (c 11 n * 5 + 2)
def layA (w d l mv : Int) (q : Int → Prop) (ex : Int → Int) (c : Mem) (n : Int) (res : Option Int) (c' : Mem) : Prop :=
  (c 13 n = 0 ∧ res = none ∧ c' = c) ∨ (1 ≤ c 13 n ∧ ∃ c2, LRw w d l (w * d * l) n mv (frT w d l q (rmT (w * d * l) n c) n 0) (cs0 c ex n) (be0 c n) (c 13 n - 1).toNat 1 (rmT (w * d * l) n c) 0 res c2 ∧ ((res = none ∧ c' = c) ∨ (res ≠ none ∧ c' = c2)))
theorem layA_one {w d l mv : Int} {q : Int → Prop} {ex : Int → Int} {c : Mem} {n : Int} {r1 r2 : Option Int} {c1 c2 : Mem} (h1 : layA w d l mv q ex c n r1 c1) (h2 : layA w d l mv q ex c n r2 c2) : r1 = r2 ∧ c1 = c2 := by
  rcases h1 with ⟨a1, a2, a3⟩ | ⟨a1, x1, a2, a3⟩ <;> rcases h2 with ⟨b1, b2, b3⟩ | ⟨b1, x2, b2, b3⟩
  · exact ⟨a2.trans b2.symm, a3.trans b3.symm⟩
  · omega
  · omega
  · obtain ⟨rfl, rfl⟩ := LRw_one a2 b2
    rcases a3 with ⟨p, e1⟩ | ⟨p, e1⟩ <;> rcases b3 with ⟨p', e2⟩ | ⟨p', e2⟩
    · exact ⟨rfl, e1.trans e2.symm⟩
    · exact absurd p p'
    · exact absurd p' p
    · exact ⟨rfl, e1.trans e2.symm⟩
/-- the same in what laying asks -/
def Ea (c m : Mem) : Prop := ∀ o, 9 ≤ o → o ≤ 19 → m o = c o
theorem Ea_rm {N n : Int} {c m : Mem} (h : Ea c m) : Ea (rmT N n c) (rmT N n m) := by
  intro o h1 h2
  by_cases h17 : o = 17
  · rw [h17]; funext j; rw [rmT_17, rmT_17, h 17 (by decide) (by decide)]
  · by_cases h19 : o = 19
    · rw [h19]; funext j; rw [rmT_19, rmT_19, h 19 (by decide) (by decide)]
    · rw [rmT_ne h17 h19, rmT_ne h17 h19]; exact h o h1 h2
theorem frT_Ea {w d l n t : Int} {q : Int → Prop} {c m : Mem} (h : Ea c m) : frT w d l q m n t = frT w d l q c n t := by
  funext x
  unfold frT clT cuT aptC
  rw [h 9 (by decide) (by decide), h 10 (by decide) (by decide), h 11 (by decide) (by decide), h 15 (by decide) (by decide), h 16 (by decide) (by decide), h 17 (by decide) (by decide)]
theorem layA_cong {w d l mv : Int} {q : Int → Prop} {ex : Int → Int} {c m : Mem} {n : Int} {res : Option Int} {m' : Mem} (h : Ea c m) (hL : layA w d l mv q ex m n res m') : ∃ c', layA w d l mv q ex c n res c' ∧ (∀ o, m o = c o → m' o = c' o) := by
  rcases hL with ⟨a1, a2, a3⟩ | ⟨a1, x1, a2, a3⟩
  · exact ⟨c, Or.inl ⟨by rw [← h 13 (by decide) (by decide)]; exact a1, a2, rfl⟩, fun o ho => by rw [a3]; exact ho⟩
  · have hr := Ea_rm (N := w * d * l) (n := n) h
    rw [frT_Ea hr] at a2
    unfold cs0 be0 at a2
    rw [h 10 (by decide) (by decide), h 11 (by decide) (by decide), h 13 (by decide) (by decide)] at a2
    obtain ⟨c3, b1, b2, b3, b4⟩ := LRw_cong (c2 := rmT (w * d * l) n c) (hr 14 (by decide) (by decide)).symm (hr 17 (by decide) (by decide)).symm (hr 18 (by decide) (by decide)).symm (hr 19 (by decide) (by decide)).symm a2
    rcases a3 with ⟨p, e⟩ | ⟨p, e⟩
    · exact ⟨c, Or.inr ⟨by rw [← h 13 (by decide) (by decide)]; exact a1, c3, b1, Or.inl ⟨p, rfl⟩⟩, fun o ho => by rw [e]; exact ho⟩
    · refine ⟨c3, Or.inr ⟨by rw [← h 13 (by decide) (by decide)]; exact a1, c3, b1, Or.inr ⟨p, rfl⟩⟩, fun o ho => ?_⟩
      rw [e]
      by_cases h17 : o = 17
      · rw [h17]; exact b2.symm
      · by_cases h19 : o = 19
        · rw [h19]; exact b3.symm
        · rw [(b4 o h17 h19).2, (b4 o h17 h19).1, rmT_ne h17 h19, rmT_ne h17 h19]; exact ho
theorem layA_WS {w d l mv : Int} {q : Int → Prop} {ex : Int → Int} {c c' : Mem} {n : Int} {res : Option Int} (hD : okD w d l) (hmv : mv ≤ 6) (hW : WS w d l c) (hn : 0 ≤ n ∧ n < c 9 14) (h : layA w d l mv q ex c n res c') : WS w d l c' ∧ tsame w d l n c c' ∧ ∀ z, res = some z → 0 ≤ z := by
  have hn8 : 0 ≤ n ∧ n < 8 := by have := hW.1.1.2.1; omega
  rcases h with ⟨-, e, rfl⟩ | ⟨hp, c2, h1, h2⟩
  · exact ⟨hW, tsame_rf, fun z hz => by rw [e] at hz; cases hz⟩
  · have hr := WS_rmT hW hn8
    have hts := rmT_tsame (w := w) (d := d) (l := l) (c := c) hn8 (fun x hx => (hW.1.2.2.2 x hx).2)
    have e14 : rmT (w * d * l) n c 14 = c 14 := rmT_ne (by decide) (by decide)
    have hP4 := (hW.1.2.1.1 n hn8).1
    have := LRw_WS hD hn8 hmv (fun q hq => by rw [e14]; exact hW.1.2.1.2.1 n q hn8 (by omega)) hr (by rw [rmT_ne (by decide) (by decide)]; exact hn.2) h1
    have hcs : (∀ k y, 0 ≤ cs0 c ex n k y) ∧ 0 ≤ be0 c n := by
      have a := hW.1.1.2.2.2.1 n hn
      obtain ⟨b1, b2, b3, -⟩ := hW.1.1.2.2.1 (c 11 n) a
      refine ⟨fun k y => ?_, b3.1⟩
      unfold cs0 csF
      split <;> omega
    have hge := LRw_ge hcs.1 hcs.2 (Int.le_refl 0) h1
    rcases h2 with ⟨e, rfl⟩ | ⟨e, rfl⟩
    · exact ⟨hW, tsame_rf, fun z hz => by rw [e] at hz; cases hz⟩
    · exact ⟨this.1, tsame_tr hts this.2, hge⟩
theorem ansR_ne {res : Option Int} (h : ∀ z, res = some z → 0 ≤ z) : ansR res = -1 ↔ res = none := by
  cases res with
  | none => exact ⟨fun _ => rfl, fun _ => rfl⟩
  | some s =>
    have := h s rfl
    exact ⟨fun z => by have : s = -1 := z; omega, fun z => by cases z⟩
/-- the class's scratch -/
abbrev scr (o : Nat) : Prop := o < 22 ∨ o = 31 ∨ 36 < o
theorem c_X7_layA (X : Xv) (m : Mem) {w d l : Int} (hB : Bd X w d l m) (hM : WS w d l m) (n : Int) (hnn : 0 ≤ n ∧ n < m 9 14) (h31 : ∀ y, inC w d l y → m 31 y = 0) : kCall (eX X) 5 M_X7_layNet.1 [vR 30, vI n] m (fun r m' => ∃ res c', layA w d l 6 (fun _ => True) (m 31) m n res c' ∧ r = some (vI (ansR res)) ∧ ∀ o, scr o → m' o = c' o) := by
  refine kCall_mono (c_X7_layNet X m hB hM n hnn h31) (Nat.le_refl _) ?_
  rintro _ m' (⟨e0, rfl, rfl⟩ | ⟨e1, res, c', hL, rfl, ⟨e2, hf⟩ | ⟨e2, hf⟩⟩)
  · exact ⟨none, _, Or.inl ⟨e0, rfl, rfl⟩, rfl, fun _ _ => rfl⟩
  · exact ⟨res, m, Or.inr ⟨e1, c', hL, Or.inl ⟨e2, rfl⟩⟩, rfl, hf⟩
  · exact ⟨res, c', Or.inr ⟨e1, c', hL, Or.inr ⟨e2, rfl⟩⟩, rfl, hf⟩
/-- the reference at rest with vias, its extra all 0 -/
def Rst (m : Mem) : Prop := m 54 28 = 0 ∧ m 54 30 = 0 ∧ m 54 41 = 1 ∧ ∀ j : Int, (0 ≤ j ∧ j < 324) → m 81 j = 0
theorem Rst_rsm {n : Int} {m m' : Mem} (h : Rst m) (hr : rsm n m m') : Rst m' := by
  obtain ⟨h1, h2, h3, h4⟩ := h
  refine ⟨by rw [hr.2.2.1 28 (by decide)]; exact h1, by rw [hr.2.2.1 30 (by decide)]; exact h2, by rw [hr.2.2.1 41 (by decide)]; exact h3, fun j hj => ?_⟩
  rw [hr.1 81 (by decide) (by decide) (by decide) (by decide) (by decide) (by decide) (by decide) (by decide) (by decide) (by decide) (by decide)]
  exact h4 j hj
theorem c_X12_layA (X : Xv) (c m : Mem) {w d l : Int} {n : Int} {ex : Int → Int} (hD : okD w d l) (hM : WM w d l c) (hR : RR0 w d l c m) (hn : 0 ≤ n ∧ n < c 9 14) (hS : Rst m) (hex : ∀ y, inC w d l y → ex y = 0) : kCall (eX X) 8 M_X12_layNet.1 [vR 54, vI n] m (fun r m' => ∃ res c', layA w d l 6 (fun _ => True) ex c n res c' ∧ r = some (vI (ansR res)) ∧ RR0 w d l c' m' ∧ WM w d l c' ∧ tsame w d l n c c' ∧ rsm n m m') := by
  have h8 := hM.1.2.1
  have hn8 : 0 ≤ n ∧ n < 8 := by omega
  have hRW : RWf w d l 6 (c 10 (c 11 n * 5)) (c 10 (c 11 n * 5 + 1)) (c 10 (c 11 n * 5 + 2)) ex n m := by
    have := RWf_mk (ex := ex) hM.1 hR.1 hn hS.2.2.1 (fun y hy => by rw [hS.2.2.2 _ (cR_geo hD hy).1, hex y hy]; omega)
    rwa [if_neg (by decide)] at this
  have hqn : cntT m n := ⟨by rw [hS.1, k_ask0 (by omega) (by omega), bt_zero], Or.inl hS.2.1⟩
  refine kCall_mono (c_X12_layNet X c m hD hM hR hn hRW hqn) (Nat.le_refl _) ?_
  rintro _ m5 (⟨e0, rfl, rfl⟩ | ⟨e1, res, c', hL, rfl, hr5, ht5, hM5, -, hres⟩)
  · exact ⟨none, c, Or.inl ⟨e0, rfl, rfl⟩, rfl, hR, hM, tsame_rf, rsm_rf⟩
  · rw [F_plain (by rw [rmT_ne (by decide) (by decide)]; exact h8.2) hn8 hS.1 hS.2.1] at hL
    rcases hres with ⟨h1, h2⟩ | ⟨h1, h2⟩
    · exact ⟨res, c, Or.inr ⟨e1, c', hL, Or.inl ⟨h1, rfl⟩⟩, rfl, h2, hM, tsame_rf, hr5⟩
    · exact ⟨res, c', Or.inr ⟨e1, c', hL, Or.inr ⟨h1, rfl⟩⟩, rfl, h2, hM5, ht5, hr5⟩
/-- the same where it matters -/
theorem RR0_pt {w d l : Int} {c c' r : Mem} (hD : okD w d l) (hc : ∀ o, o ≠ 17 → o ≠ 19 → c' o = c o) (h19 : ∀ n x : Int, (0 ≤ n ∧ n < 8) → inC w d l x → c' 19 (n * (w * d * l) + x) = c 19 (n * (w * d * l) + x)) (h17 : ∀ (x : Int) (o : Nat), inC w d l x → o < 8 → bt (c' 17 x) o = bt (c 17 x) o) (h : RR0 w d l c r) : RR0 w d l c' r := by
  refine ⟨RRs_c hc (fun _ _ _ => rfl) h.1, fun n hn => ?_⟩
  obtain ⟨a1, a2, a3, a4, a5, a6⟩ := h.2 n hn
  unfold RRn
  rw [hc 13 (by decide) (by decide), hc 14 (by decide) (by decide), hc 16 (by decide) (by decide), hc 18 (by decide) (by decide)]
  exact ⟨a1, a2, LT_cong (fun _ _ => ⟨rfl, rfl⟩) (fun x hx => h19 n x hn hx) a3, a4, fun x hx => by rw [h17 x n.toNat hx (by omega)]; exact a5 x hx, a6⟩
/-- the board without any traces -/
def rmA (N : Int) (c : Mem) : Mem := mfill (mfill c 19 0 (N * 8) 0) 17 0 N 0
theorem rmA_ne {N : Int} {c : Mem} {o : Nat} (h7 : o ≠ 17) (h9 : o ≠ 19) : rmA N c o = c o := by
  unfold rmA
  rw [mfill_ne h7, mfill_ne h9]
theorem rmA_17 {w d l x : Int} {c : Mem} (hx : inC w d l x) : rmA (w * d * l) c 17 x = 0 := by
  unfold rmA
  rw [mfill_at, if_pos hx]
theorem row8 {w d l n x : Int} (hn : 0 ≤ n ∧ n < 8) (hx : inC w d l x) : 0 ≤ n * (w * d * l) + x ∧ n * (w * d * l) + x < w * d * l * 8 := by
  obtain ⟨z1, z2⟩ := hx
  have := Int.mul_nonneg hn.1 (show 0 ≤ w * d * l by omega)
  have h7 : n * (w * d * l) ≤ 7 * (w * d * l) := Int.mul_le_mul_of_nonneg_right (by omega) (by omega)
  omega
theorem rmA_19 {w d l n x : Int} {c : Mem} (hn : 0 ≤ n ∧ n < 8) (hx : inC w d l x) : rmA (w * d * l) c 19 (n * (w * d * l) + x) = 0 := by
  unfold rmA
  rw [mfill_ne (by decide), mfill_at, if_pos (row8 hn hx)]
theorem WS_rmA {w d l : Int} {c : Mem} (h : WS w d l c) : WS w d l (rmA (w * d * l) c) := by
  obtain ⟨⟨h1, h2, h3, h4⟩, h5⟩ := h
  have hc : ∀ o, o ≠ 17 → o ≠ 19 → rmA (w * d * l) c o = c o := fun o a b => rmA_ne a b
  refine ⟨⟨WFs_c hc h1, WFp_c hc h2, fun n hn => ?_, fun x hx => ⟨by rw [hc 16 (by decide) (by decide)]; exact (h4 x hx).1, by rw [rmA_17 hx]; decide⟩⟩, fun n hn a k ha hk hkn => ?_⟩
  · obtain ⟨w1, w2⟩ := h3 n hn
    unfold WFn pinT
    rw [hc 9 (by decide) (by decide), hc 13 (by decide) (by decide), hc 14 (by decide) (by decide), hc 16 (by decide) (by decide), hc 18 (by decide) (by decide)]
    refine ⟨fun x hx => ?_, fun hcc x hx => ⟨(w2 hcc x hx).1, rmA_19 hn hx⟩⟩
    obtain ⟨⟨z1, z2⟩, z3, z4, z5⟩ := w1 x hx
    rw [rmA_19 hn hx, rmA_17 hx]
    exact ⟨⟨z1, by decide⟩, fun k hk hkn => ⟨(z3 k hk hkn).1, bt_zero _⟩, by rw [bt_zero]; exact ⟨fun z => (by cases z), fun z => absurd rfl z⟩, z5⟩
  · rw [hc 18 (by decide) (by decide), rmA_19 hn ha]
    exact ⟨(h5 n hn a k ha hk hkn).1, fun z => by rw [bt_zero] at z; cases z⟩
/-- the reference rips all -/
theorem c_X12_ripAll (X : Xv) (c m : Mem) {w d l : Int} (hD : okD w d l) (hM : WM w d l c) (hR : RR0 w d l c m) : kCall (eX X) 3 M_X12_ripAll.1 [vR 54] m (fun r m' => r = none ∧ RR0 w d l (rmA (w * d * l) c) m' ∧ ∀ o, o ≠ 68 → o ≠ 72 → m' o = m o) := by
  have h8 := hM.1.2.1
  refine kCall_ofT ok_X12_ripAll rfl (Nat.le_of_ble_eq_true rfl) (fun T hT => ?_)
  have h26 := hR.1.2.2.2.1.1
  have loop : ∀ (k : Nat) (n : Int) (c' m' : Mem), n + k = c 9 14 → 0 ≤ n → RR0 w d l c' m' → WM w d l c' → (∀ o, o ≠ 17 → o ≠ 19 → c' o = c o) → (∀ j x : Int, (0 ≤ j ∧ j < n) → inC w d l x → c' 19 (j * (w * d * l) + x) = 0) → (∀ o, o ≠ 68 → o ≠ 72 → m' o = m o) → kW (eX X) 2 M_X12_ripAll T 1 [some (vR 54), some (vI n)] [] m' := by
    intro k
    induction k with
    | zero =>
      intro n c' m' hnk h0 hR' hM' hc hz hf
      refine kW_go ok_X12_ripAll [1] 20 ?_
      refine And.intro (fun _ => hT _ _ ⟨rfl, ?_, hf⟩) (fun h => ?_)
      · have hall : ∀ j x : Int, (0 ≤ j ∧ j < 8) → inC w d l x → c' 19 (j * (w * d * l) + x) = 0 := by
          intro j x hj hx
          by_cases hjn : j < n
          · exact hz j x ⟨hj.1, hjn⟩ hx
          · exact ((hM'.2.2.1 j hj).2 (by rw [hc 9 (by decide) (by decide)]; omega) x hx).2
        refine RR0_pt hD (fun o a b => by rw [rmA_ne a b, hc o a b]) (fun j x hj hx => by rw [rmA_19 hj hx, hall j x hj hx]) (fun x o hx ho => ?_) hR'
        rw [rmA_17 hx, bt_zero]
        cases hb : bt (c' 17 x) o with
        | false => rfl
        | true =>
          have h1 := ((hM'.2.2.1 (o : Int) (by omega)).1 x hx).2.2.1
          rw [Int.toNat_natCast] at h1
          exact absurd (hall (o : Int) x (by omega) hx) (h1.mp hb)
      · have h : n < m' 54 26 := h
        rw [hf 54 (by decide) (by decide), h26] at h
        omega
    | succ k ih =>
      intro n c' m' hnk h0 hR' hM' hc hz hf
      have hn8 : 0 ≤ n ∧ n < 8 := by omega
      refine kW_go ok_X12_ripAll [1] 20 ?_
      refine And.intro (fun h => ?_) (fun _ => ⟨⟨hn8.1, hn8.2⟩, ?_⟩)
      · have h : m' 54 26 ≤ n := h
        rw [hf 54 (by decide) (by decide), h26] at h
        omega
      · refine kCall_mono (c_rip1 X c' m' hD hn8 hM' hR') (Nat.le_of_ble_eq_true rfl) ?_
        rintro _ m2 ⟨rfl, hR2, hf2, -, -⟩
        refine ⟨by constructor <;> omega, ih (n + 1) _ m2 (by omega) (by omega) hR2 (WM_rmT hM' hn8) (fun o a b => by rw [rmT_ne a b]; exact hc o a b) (fun j x hj hx => ?_) (fun o a b => by rw [hf2 o a b]; exact hf o a b)⟩
        rw [rmT_row hx]
        by_cases hjn : j = n
        · rw [if_pos hjn]
        · rw [if_neg hjn]; exact hz j x (by omega) hx
  refine kW_go ok_X12_ripAll [1] 20 ?_
  exact loop (c 9 14).toNat 0 c m (by omega) (by omega) hR hM (fun _ _ _ => rfl) (fun j x hj => by omega) (fun _ _ _ => rfl)
