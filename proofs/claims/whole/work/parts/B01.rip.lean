/-! COST and RIP alike -/
set_option maxRecDepth 100000 in
theorem pair_cost (X : Xv) (m : Mem) {w d l : Int} (hI : Inv X w d l m) (a b : Int) (hb : b = 0 ∨ b = 1) : kPair X 143 239 [vI a, vI b] m (Inv X w d l) := by
  obtain ⟨hB, hl, hW, hR, h60, h31⟩ := id hI
  have hD := hB.1
  have hWS := Inv_WS hI
  have hWs := hW.1
  have h8 := hWs.2.1
  refine kp2 (k1 := 7) (k2 := 11) (by decide) (by decide) ?_
  refine kCall_ofT ok_X11_cost rfl (Nat.le_of_ble_eq_true rfl) (fun T hT => ?_)
  refine kW_go ok_X11_cost [] 20 ?_
  refine kCall_mono (c_X11_isNet X m a) (Nat.le_of_ble_eq_true rfl) ?_
  rintro _ m0 ⟨rfl, rfl⟩
  by_cases hn : 0 ≤ a ∧ a < m0 9 14
  · rw [b2i_t hn]
    have hn8 : 0 ≤ a ∧ a < 8 := by omega
    refine And.intro (fun h => absurd h (by decide)) (fun _ => ?_)
    refine kCall_mono (c_X7_tryCost X m0 hB hWS a b hn h31) (Nat.le_of_ble_eq_true rfl) ?_
    intro r m1 hpost
    have refc : ∀ (m1 : Mem) (z : Int), (∀ o, (o < 20 ∨ o = 31 ∨ 36 < o) → m1 o = m0 o) → (m0 13 a = 0 → z = -1) → (1 ≤ m0 13 a → ∀ res c', LRw w d l (w * d * l) a (if b = 0 then 4 else 6) (frT w d l (fun _ => True) (rmT (w * d * l) a m0) a 0) (csF (m0 10 (m0 11 a * 5)) (m0 10 (m0 11 a * 5 + 1)) (m0 31)) (m0 10 (m0 11 a * 5 + 2)) (m0 13 a - 1).toNat 1 (rmT (w * d * l) a m0) 0 res c' → z = ansR res) → kCall (eX X) 11 239 [vR 54, vI a, vI b] m1 (fun r2 m2 => r2 = some (vI z) ∧ Inv X w d l m2) := by
      intro m1 z hm1 hz0 hz1
      have hRm1 : RR w d l m0 m1 := RR_ref (fun o h1 _ => hm1 o (by omega)) hR
      have fin : ∀ m2, (∀ o, o < 54 → m2 o = m1 o) → RR w d l m0 m2 → Inv X w d l m2 := fun m2 h2 hR2 => inv_mk hI (fun o _ _ => hm1 o (by omega)) (Es_of (fun o ho => hm1 o (by omega))) hW (by rw [hm1 6 (by decide)]) (hm1 31 (by decide)) h2 hR2
      refine kCall_ofT ok_X12_cost rfl (Nat.le_of_ble_eq_true rfl) (fun T2 hT2 => ?_)
      refine kW_go ok_X12_cost [] 20 ?_
      refine kCall_mono (isNetR hWs hRm1.1 a) (Nat.le_of_ble_eq_true rfl) ?_
      rintro _ m3 ⟨rfl, rfl⟩
      rw [b2i_t hn]
      refine And.intro (fun _ => ?_) (fun h => absurd h (by decide))
      refine kCall_mono (c_X12_plainly X m3 b hb) (Nat.le_of_ble_eq_true rfl) ?_
      rintro _ m4 ⟨rfl, hp⟩
      have hR4 := plain_R hRm1 hp
      have hRW := RWf_mk (ex := m0 31) hWs hR4.1 hn hp.2.2.1 (fun y hy => by rw [hp.2.2.2.2.2 _ (cR_geo hD hy).1, h31 y hy]; omega)
      refine kCall_mono (c_X12_tried X m0 m4 hD (WF_WM hW) (RR_0 hR4) hn hRW (RR_cntT hR4 hn8)) (Nat.le_of_ble_eq_true rfl) ?_
      rintro _ m5 (⟨e0, rfl, rfl⟩ | ⟨e1, res, c', hL, rfl, hr5, hR5⟩)
      · refine kCall_mono (c_X12_plainly X m5 1 (Or.inr rfl)) (Nat.le_of_ble_eq_true rfl) ?_
        rintro _ m6 ⟨rfl, hp6⟩
        refine hT2 _ _ ⟨by rw [hz0 e0], fin m6 (fun o ho => by rw [hp6.1 o (by omega) (by omega), hp.1 o (by omega) (by omega)]) (plain_R hR4 hp6)⟩
      · rw [F_plain (by rw [rmT_ne (by decide) (by decide)]; exact h8.2) hn8 hp.2.2.2.1 hp.2.2.2.2.1] at hL
        have hR5' : RR w d l m0 m5 := ⟨hR5.1, hR5.2, by rw [hr5.2.2.1 28 (by decide)]; exact hp.2.2.2.1, by rw [hr5.2.2.1 30 (by decide)]; exact hp.2.2.2.2.1⟩
        refine kCall_mono (c_X12_plainly X m5 1 (Or.inr rfl)) (Nat.le_of_ble_eq_true rfl) ?_
        rintro _ m6 ⟨rfl, hp6⟩
        refine hT2 _ _ ⟨by rw [hz1 e1 res c' hL], fin m6 (fun o ho => by rw [hp6.1 o (by omega) (by omega), hr5.2.1 o ho, hp.1 o (by omega) (by omega)]) (plain_R hR5' hp6)⟩
    rcases hpost with ⟨e0, rfl, rfl⟩ | ⟨e1, res, c', hL, rfl, hf⟩
    · exact hT _ _ ⟨-1, rfl, refc m1 (-1) (fun _ _ => rfl) (fun _ => rfl) (fun h => by omega)⟩
    · exact hT _ _ ⟨ansR res, rfl, refc m1 _ hf (fun h => by omega) (fun _ res2 c2 hL2 => by rw [(LRw_one hL hL2).1])⟩
  · rw [b2i_f hn]
    refine And.intro (fun _ => ?_) (fun h => absurd rfl h)
    refine hT _ _ ⟨-1, rfl, ?_⟩
    refine kCall_ofT ok_X12_cost rfl (Nat.le_of_ble_eq_true rfl) (fun T2 hT2 => ?_)
    refine kW_go ok_X12_cost [] 20 ?_
    refine kCall_mono (isNetR hWs hR.1 a) (Nat.le_of_ble_eq_true rfl) ?_
    rintro _ m3 ⟨rfl, rfl⟩
    rw [b2i_f hn]
    exact And.intro (fun h => absurd rfl h) (fun _ => hT2 _ _ ⟨rfl, hI⟩)
/-- a net without traces, painted anew -/
theorem rip_RRk {w d l n : Int} {c t m m' : Mem} (hD : okD w d l) (hn : 0 ≤ n ∧ n < 8) (hR : RRk w d l c m n) (hW : WFn w d l c n) (h5 : t 65 = m 65) (h6 : t 66 = m 66) (h7 : t 67 = m 67) (h2 : t 72 = m 72) (h8 : t 68 n = 0) (hp : pnt n t m' (fun _ => False)) : RRn w d l (rmT (w * d * l) n c) m' n := by
  have p1 := hp.1
  have h68 : m' 68 n = 0 := by rw [p1 68 (by decide)]; exact h8
  refine RRn_k.mpr ⟨?_, fun _ => h68, fun _ => ?_⟩
  · refine paint_RRk hD hn (rmT_WFn hn hW) (c0 := c) (m := t) (rmT_ne (by decide) (by decide)) (rmT_ne (by decide) (by decide)) (RRw_m h5 h6 h7 h2 (RRk_w hR)) ?_ hp (fun x hx => ?_) (fun _ _ z => z)
    · rw [h8]
      refine ⟨⟨Int.le_refl _, fun i hi => by omega, fun i j hij => by omega⟩, fun x k hx hk hne => ?_⟩
      simp only [rmT_row hx, if_true, bt_zero]
      constructor
      · intro z; cases z
      · rintro ⟨i, hi, -⟩; omega
    · rw [h8]
      exact ⟨False.elim, fun ⟨i, hi, _⟩ => by omega⟩
  · rw [h68]
    exact ⟨fun h => by omega, fun i h1 h2 => by omega, fun i j hij => by omega, fun i hi => by omega⟩
theorem k_and63 {v : Int} (h : 0 ≤ v ∧ v < 64) : kand v 63 = v := by
  have : ∀ i : Fin 64, kand (i.val : Int) 63 = (i.val : Int) := by decide +kernel
  exact k_fin (P := fun v => kand v 63 = v) this h.1 (by omega)
/-- a row of bits isn't empty where the list isn't -/
theorem LT_some {w d l : Int} (hD : okD w d l) {f t : Int → Int} {q : Int} {row : Int → Int} (h : LT w d l f t q row) (hr : ∀ x, inC w d l x → (0 ≤ row x ∧ row x < 64) ∧ ∀ k : Int, (0 ≤ k ∧ k < 6) → nx w d l x k = -1 → bt (row x) k.toNat = false) : (∃ x, inC w d l x ∧ row x ≠ 0) ↔ q ≠ 0 := by
  constructor
  · rintro ⟨x, hx, hne⟩
    obtain ⟨i, hi, -⟩ := (LT_ends hD h hr hx).mp hne
    omega
  · intro hq
    have h0 := h.1.1
    obtain ⟨x, k, hx, hk, hne, e1, e2⟩ := h.1.2.1 0 (by omega)
    exact ⟨x, hx, (LT_ends hD h hr hx).mpr ⟨0, by omega, Or.inl e1⟩⟩
theorem has_t {X : Xv} {w d l n : Int} {m : Mem} (hn : w * d * l = (nC X : Int)) (hW : WFn w d l m n) : (∃ c : Int, (0 ≤ c ∧ c < (nC X : Int)) ∧ kand (m 19 (n * (nC X : Int) + c)) 63 ≠ 0) ↔ ∃ x, inC w d l x ∧ m 19 (n * (w * d * l) + x) ≠ 0 := by
  rw [hn]
  constructor
  · rintro ⟨c, hc, h⟩
    have hci : inC w d l c := ⟨hc.1, by omega⟩
    have := (hW.1 c hci).1.2
    rw [hn] at this
    rw [k_and63 this] at h
    exact ⟨c, hci, h⟩
  · rintro ⟨c, hc, h⟩
    have := (hW.1 c hc).1.2
    rw [hn] at this
    exact ⟨c, by obtain ⟨a, b⟩ := hc; omega, by rw [k_and63 this]; exact h⟩
theorem has_w {X : Xv} {w d l n : Int} {m : Mem} (hn : w * d * l = (nC X : Int)) (hW : WFn w d l m n) : (∃ c : Int, (0 ≤ c ∧ c < (nC X : Int)) ∧ kand (m 18 (n * (nC X : Int) + c)) 63 ≠ 0) ↔ ∃ x, inC w d l x ∧ m 18 (n * (w * d * l) + x) ≠ 0 := by
  rw [hn]
  constructor
  · rintro ⟨c, hc, h⟩
    have hci : inC w d l c := ⟨hc.1, by omega⟩
    have := (hW.1 c hci).1.1
    rw [hn] at this
    rw [k_and63 this] at h
    exact ⟨c, hci, h⟩
  · rintro ⟨c, hc, h⟩
    have := (hW.1 c hc).1.1
    rw [hn] at this
    exact ⟨c, by obtain ⟨a, b⟩ := hc; omega, by rw [k_and63 this]; exact h⟩
/-- whether a net has traces, and wires: both sides -/
theorem c_X3_hasTraces (X : Xv) (m : Mem) {w d l : Int} (hB : Bd X w d l m) (n : Int) (hn : 0 ≤ n ∧ n < 8) (hW : WFn w d l m n) {q : Int} {r : Mem} (hR : RRk w d l m r n) : kCall (eX X) 2 M_X3_hasTraces.1 [vR 9, vI n] m (bP (r 68 n ≠ 0) m) := by
  obtain ⟨hD, hN, hG⟩ := id hB
  have hc4 := okD_cells hD
  refine kCall_ofT ok_X3_hasTraces rfl (Nat.le_of_ble_eq_true rfl) (fun T hT => ?_)
  have hiff := LT_some hD hR.2.2.1 (fun x hx => ⟨(hW.1 x hx).1.2, fun k hk hkn => ((hW.1 x hx).2.1 k hk hkn).2⟩)
  refine kW_go ok_X3_hasTraces [] 20 ?_
  refine kCall_mono (c_X3_anyMove_t X m n 63 (by omega) (by rw [hG.2.2.2.2.1, hN]) hn) (Nat.le_of_ble_eq_true rfl) ?_
  rintro _ m' ⟨⟨h, rfl⟩ | ⟨h, rfl⟩, rfl⟩
  · exact hT _ _ ⟨Or.inr rfl, Or.inl ⟨hiff.mp ((has_t hN hW).mp h), rfl⟩, rfl⟩
  · refine hT _ _ ⟨Or.inl rfl, Or.inr ⟨fun z => ?_, rfl⟩, rfl⟩
    obtain ⟨c, hc, h2⟩ := (has_t hN hW).mpr (hiff.mpr z)
    exact h2 (h c hc)
theorem c_X3_hasWires (X : Xv) (m : Mem) {w d l : Int} (hB : Bd X w d l m) (n : Int) (hn : 0 ≤ n ∧ n < 8) (hW : WFn w d l m n) {r : Mem} (hR : RRk w d l m r n) : kCall (eX X) 2 M_X3_hasWires.1 [vR 9, vI n] m (bP (r 65 n ≠ 0) m) := by
  obtain ⟨hD, hN, hG⟩ := id hB
  have hc4 := okD_cells hD
  refine kCall_ofT ok_X3_hasWires rfl (Nat.le_of_ble_eq_true rfl) (fun T hT => ?_)
  have hiff := LT_some hD hR.1 (fun x hx => ⟨(hW.1 x hx).1.1, fun k hk hkn => ((hW.1 x hx).2.1 k hk hkn).1⟩)
  refine kW_go ok_X3_hasWires [] 20 ?_
  refine kCall_mono (c_X3_anyMove_w X m n 63 (by omega) (by rw [hG.2.2.2.2.1, hN]) hn) (Nat.le_of_ble_eq_true rfl) ?_
  rintro _ m' ⟨⟨h, rfl⟩ | ⟨h, rfl⟩, rfl⟩
  · exact hT _ _ ⟨Or.inr rfl, Or.inl ⟨hiff.mp ((has_w hN hW).mp h), rfl⟩, rfl⟩
  · refine hT _ _ ⟨Or.inl rfl, Or.inr ⟨fun z => ?_, rfl⟩, rfl⟩
    obtain ⟨c, hc, h2⟩ := (has_w hN hW).mpr (hiff.mpr z)
    exact h2 (h c hc)
/-- the reference rips one net -/
theorem c_rip1 (X : Xv) (c m : Mem) {w d l n : Int} (hD : okD w d l) (hn : 0 ≤ n ∧ n < 8) (hM : WM w d l c) (hR : RR0 w d l c m) : kCall (eX X) 1 M_X12_paint.1 [vR 54, vI n] (mset m 68 n 0) (fun r m' => r = none ∧ RR0 w d l (rmT (w * d * l) n c) m' ∧ (∀ o, o ≠ 68 → o ≠ 72 → m' o = m o) ∧ (∀ j : Int, j ≠ n → m' 68 j = m 68 j) ∧ rsm n m m') := by
  have e68 : mset m 68 n 0 68 n = 0 := by rw [k_mset_at, if_pos rfl]
  refine kCall_mono (c_X12_paint X (mset m 68 n 0) n hn (by rw [e68]; decide) (fun i h1 h2 => by rw [e68] at h2; omega)) (Nat.le_refl _) ?_
  rintro _ m' ⟨rfl, hp⟩
  have hp' : pnt n (mset m 68 n 0) m' (fun _ => False) := pnt_cong hp (fun x => ⟨False.elim, by rintro ⟨i, hi, -⟩; rw [e68] at hi; omega⟩)
  have p1 := hp.1
  have hts := rmT_tsame (w := w) (d := d) (l := l) hn (fun x hx => (hM.2.2.2 x hx).2)
  have hf : ∀ o, o ≠ 68 → o ≠ 72 → m' o = m o := fun o a b => by rw [p1 o b, k_mset_ne a]
  have h68 : ∀ j : Int, j ≠ n → m' 68 j = m 68 j := fun j hj => by rw [p1 68 (by decide), k_mset_at, if_neg hj]
  have hrs : rsm n m m' := ⟨fun o _ _ h3 _ _ h6 _ _ _ _ _ => hf o h3 h6, fun o ho => hf o (by omega) (by omega), fun i _ => by rw [hf 54 (by decide) (by decide)], h68, fun j _ => by rw [hf 69 (by decide) (by decide), hf 70 (by decide) (by decide)]; exact ⟨rfl, rfl⟩, fun j hj => by rw [pnt_rsame hp j hj, k_mset_ne (by decide)]⟩
  refine ⟨rfl, RR0_rsm hD hn hts hrs hR ?_, hf, h68, hrs⟩
  exact rip_RRk hD hn (RRn_k.mp (hR.2 n hn)).1 (hM.2.2.1 n hn) (k_mset_ne (by decide)) (k_mset_ne (by decide)) (k_mset_ne (by decide)) (k_mset_ne (by decide)) e68 hp'
set_option maxRecDepth 100000 in
theorem pair_rip (X : Xv) (m : Mem) {w d l : Int} (hI : Inv X w d l m) (a : Int) : kPair X 144 240 [vI a] m (Inv X w d l) := by
  obtain ⟨hB, hl, hW, hR, h60, h31⟩ := id hI
  have hD := hB.1
  have hc4 := okD_cells hD
  have hN := hB.2.1
  have hWs := hW.1
  have h8 := hWs.2.1
  refine kp2 (k1 := 7) (k2 := 10) (by decide) (by decide) ?_
  refine kCall_ofT ok_X11_rip rfl (Nat.le_of_ble_eq_true rfl) (fun T hT => ?_)
  have hno : ((¬ (0 ≤ a ∧ a < m 9 14)) ∨ ((0 ≤ a ∧ a < m 9 14) ∧ m 68 a = 0)) → kCall (eX X) 10 240 [vR 54, vI a] m (fun r2 m2 => r2 = some (vI 0) ∧ Inv X w d l m2) := by
    intro h
    refine kCall_ofT ok_X12_rip rfl (Nat.le_of_ble_eq_true rfl) (fun T2 hT2 => ?_)
    refine kW_go ok_X12_rip [] 20 ?_
    refine kCall_mono (isNetR hWs hR.1 a) (Nat.le_of_ble_eq_true rfl) ?_
    rintro _ m3 ⟨rfl, rfl⟩
    rcases h with h | ⟨h, h0⟩
    · rw [b2i_f h]
      exact And.intro (fun _ => hT2 _ _ ⟨Or.inl rfl, rfl, hI⟩) (fun h => absurd rfl h)
    · rw [b2i_t h]
      exact And.intro (fun h => absurd h (by decide)) (fun _ => ⟨⟨by omega, by show a < ((8 : Nat) : Int); omega⟩, And.intro (fun h => absurd h0 h) (fun _ => hT2 _ _ ⟨Or.inl rfl, rfl, hI⟩)⟩)
  refine kW_go ok_X11_rip [] 20 ?_
  refine kCall_mono (c_X11_isNet X m a) (Nat.le_of_ble_eq_true rfl) ?_
  rintro _ m0 ⟨rfl, rfl⟩
  by_cases hn : 0 ≤ a ∧ a < m0 9 14
  · rw [b2i_t hn]
    have hn8 : 0 ≤ a ∧ a < 8 := by omega
    refine And.intro (fun h => absurd h (by decide)) (fun _ => ?_)
    refine kCall_mono (c_X3_hasTraces X m0 (q := 0) hB a hn8 (hW.2.2.1 a hn8) (RRn_k.mp (hR.2.1 a hn8)).1) (Nat.le_of_ble_eq_true rfl) ?_
    rintro _ m1 ⟨⟨h68, rfl⟩ | ⟨h68, rfl⟩, rfl⟩
    · refine And.intro (fun _ => ?_) (fun h => absurd h (by decide))
      refine kCall_mono (c_X3_removeTraces X m1 a (by omega) (by rw [hB.2.2.2.2.2.2.1, hN]) hn8) (Nat.le_of_ble_eq_true rfl) ?_
      rintro _ m2 ⟨rfl, hm2⟩
      rw [← hN] at hm2
      refine hT _ _ ⟨Or.inr rfl, 1, rfl, ?_⟩
      have hR2 : RR w d l m1 m2 := RR_ref (fun o h1 _ => by rw [hm2]; exact rmT_ne (by omega) (by omega)) hR
      have hM := WF_WM hW
      have hMr : WM w d l (rmT (w * d * l) a m1) := WM_rmT hM hn8
      refine kCall_ofT ok_X12_rip rfl (Nat.le_of_ble_eq_true rfl) (fun T2 hT2 => ?_)
      refine kW_go ok_X12_rip [] 20 ?_
      refine kCall_mono (isNetR hWs hR2.1 a) (Nat.le_of_ble_eq_true rfl) ?_
      rintro _ m3 ⟨rfl, rfl⟩
      rw [b2i_t hn]
      have e68 : m3 68 a = m1 68 a := by rw [hm2]; rw [rmT_ne (by decide) (by decide)]
      refine And.intro (fun h => absurd h (by decide)) (fun _ => ⟨⟨hn8.1, hn8.2⟩, And.intro (fun _ => ⟨⟨hn8.1, hn8.2⟩, ?_⟩) (fun h => absurd (show m3 68 a = 0 from h) (by rw [e68]; exact h68))⟩)
      refine kCall_mono (c_rip1 X m1 m3 hD hn8 hM (RR_0 hR2)) (Nat.le_of_ble_eq_true rfl) ?_
      rintro _ m4 ⟨rfl, hR4, hf4, -, -⟩
      refine hT2 _ _ ⟨Or.inr rfl, rfl, inv_mk hI (m1 := m3) (c' := rmT (w * d * l) a m1) (fun o o1 o2 => by rw [hm2, rmT_ne (by omega) (by omega)]) (Es_of (fun o _ => by rw [hm2])) (WF_of_WM hW hMr (fun o a b => rmT_ne a b)) (by rw [hm2, rmT_ne (by decide) (by decide)]) (by rw [hm2, rmT_ne (by decide) (by decide)]) (fun o ho => hf4 o (by omega) (by omega)) ⟨hR4.1, hR4.2, by rw [hf4 54 (by decide) (by decide)]; exact hR2.2.2.1, by rw [hf4 54 (by decide) (by decide)]; exact hR2.2.2.2⟩⟩
    · exact And.intro (fun h => absurd rfl h) (fun _ => hT _ _ ⟨Or.inl rfl, 0, rfl, hno (Or.inr ⟨hn, Decidable.byContradiction h68⟩)⟩)
  · rw [b2i_f hn]
    exact And.intro (fun _ => hT _ _ ⟨Or.inl rfl, 0, rfl, hno (Or.inl hn)⟩) (fun h => absurd rfl h)
