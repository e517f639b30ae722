/-! what holds between calls; LAY, COST and RIP alike -/
/-- the trial's masks -/
def MK (w d l : Int) (m : Mem) : Prop := ∀ k : Nat, k < 32 → (bt (m 41 7) k = true ↔ ((k : Int) < w * d * l ∧ k < 24) ∧ 0 < gX w (k : Int)) ∧ (bt (m 41 8) k = true ↔ ((k : Int) < w * d * l ∧ k < 24) ∧ gX w (k : Int) < w - 1) ∧ (bt (m 41 9) k = true ↔ ((k : Int) < w * d * l ∧ k < 24) ∧ 0 < gY w d (k : Int)) ∧ (bt (m 41 10) k = true ↔ ((k : Int) < w * d * l ∧ k < 24) ∧ gY w d (k : Int) < d - 1)
theorem MK_same {w d l : Int} {m m' : Mem} (e : m' 41 = m 41) (h : MK w d l m) : MK w d l m' := by
  unfold MK
  rw [e]
  exact h
def Inv (X : Xv) (w d l : Int) (m : Mem) : Prop := Bd X w d l m ∧ l = (nL X : Int) ∧ WF w d l m ∧ RR w d l m m ∧ (m 6 0 = l ∧ MK w d l m) ∧ ∀ y, inC w d l y → m 31 y = 0
theorem WF_WM {w d l : Int} {c : Mem} (h : WF w d l c) : WM w d l c := ⟨h.1, h.2.1, h.2.2.1, h.2.2.2.1⟩
theorem RR_0 {w d l : Int} {c r : Mem} (h : RR w d l c r) : RR0 w d l c r := ⟨h.1, h.2.1⟩
theorem Inv_WS {X : Xv} {w d l : Int} {m : Mem} (h : Inv X w d l m) : WS w d l m := ⟨WF_WM h.2.2.1, fun n hn => RRk_SYn h.1.1 (RRn_k.mp (h.2.2.2.1.2.1 n hn)).1⟩
theorem WF_of_WM {w d l : Int} {c c' : Mem} (h : WF w d l c) (hM : WM w d l c') (hs : ∀ o, o ≠ 17 → o ≠ 19 → c' o = c o) : WF w d l c' := by
  obtain ⟨-, -, -, -, h5, h6, h7⟩ := h
  refine ⟨hM.1, hM.2.1, hM.2.2.1, hM.2.2.2, ?_, ?_, ?_⟩
  · rw [hs 15 (by decide) (by decide)]; exact h5
  · rw [hs 6 (by decide) (by decide), hs 7 (by decide) (by decide)]; exact h6
  · rw [hs 47 (by decide) (by decide)]; exact h7
theorem inv_mk {X : Xv} {w d l : Int} {m c' m1 m2 : Mem} (hI : Inv X w d l m) (h1 : ∀ o, 1 ≤ o → (o ≤ 5 ∨ o = 41) → m1 o = m o) (hE : Es c' m1) (hW : WF w d l c') (h6 : m1 6 0 = m 6 0) (h31 : m1 31 = m 31) (h2 : ∀ o, o < 54 → m2 o = m1 o) (hR : RR w d l c' m2) : Inv X w d l m2 := by
  have hE2 : Es c' m2 := Es_tr hE (Es_of (fun o ho => h2 o (by omega)))
  refine ⟨Bd_same hI.1 (fun o a b => by rw [h2 o (by omega)]; exact h1 o a (Or.inl b)), hI.2.1, WF_es hE2 hW, RR_es hE2 hR, ⟨by rw [h2 6 (by decide), h6]; exact hI.2.2.2.2.1.1, MK_same (by rw [h2 41 (by decide)]; exact h1 41 (by decide) (Or.inr rfl)) hI.2.2.2.2.1.2⟩, fun y hy => by rw [h2 31 (by decide), h31]; exact hI.2.2.2.2.2 y hy⟩
theorem kp2 {X : Xv} {k1 k2 n1 n2 : Nat} {as : List AV} {m : Mem} {I : Mem → Prop} (hk1 : k1 ≤ 900) (hk2 : k2 ≤ 900) (h : kCall (eX X) k1 n1 (vR 0 :: as) m (fun r m1 => ∃ z, r = some (vI z) ∧ kCall (eX X) k2 n2 (vR 54 :: as) m1 (fun r2 m2 => r2 = some (vI z) ∧ I m2))) : kPair X n1 n2 as m I := by
  refine kCall_mono h hk1 ?_
  rintro r m1 ⟨z, hr, h2⟩
  exact ⟨z, hr, kCall_mono h2 hk2 (fun _ _ q => q)⟩
/-- a change of the reference's fields that tell nothing -/
theorem RR0_fld {w d l : Int} {c r r' : Mem} (h : ∀ o, 55 ≤ o → o ≤ 72 ∨ o = 88 → r' o = r o) (h54 : ∀ i : Int, i = 1 ∨ i = 2 ∨ i = 3 ∨ i = 5 ∨ i = 13 ∨ i = 26 → r' 54 i = r 54 i) (hw : RR0 w d l c r) : RR0 w d l c r' := by
  have e : ∀ o, 55 ≤ o → o ≤ 72 → r' o = r o := fun o h1 h2 => h o h1 (Or.inl h2)
  have f1 : r' 54 ((1 : Nat) : Int) = r 54 ((1 : Nat) : Int) := h54 1 (by decide)
  have f2 : r' 54 ((2 : Nat) : Int) = r 54 ((2 : Nat) : Int) := h54 2 (by decide)
  have f3 : r' 54 ((3 : Nat) : Int) = r 54 ((3 : Nat) : Int) := h54 3 (by decide)
  have f5 := h54 5 (by decide)
  have f13 := h54 13 (by decide)
  have f26 := h54 26 (by decide)
  unfold RR0 RRs RRn dimM fld at hw ⊢
  rw [f1, f2, f3, f5, f13, f26, e 55 (by decide) (by decide), e 56 (by decide) (by decide), e 57 (by decide) (by decide), e 58 (by decide) (by decide), e 59 (by decide) (by decide), e 60 (by decide) (by decide), e 61 (by decide) (by decide), e 62 (by decide) (by decide), e 63 (by decide) (by decide), e 64 (by decide) (by decide), e 65 (by decide) (by decide), e 66 (by decide) (by decide), e 67 (by decide) (by decide), e 68 (by decide) (by decide), e 69 (by decide) (by decide), e 70 (by decide) (by decide), e 71 (by decide) (by decide), e 72 (by decide) (by decide), h 88 (by decide) (Or.inr rfl)]
  exact hw
theorem RR_fld {w d l : Int} {c r r' : Mem} (h : ∀ o, 55 ≤ o → o ≤ 72 ∨ o = 88 → r' o = r o) (h54 : ∀ i : Int, i = 1 ∨ i = 2 ∨ i = 3 ∨ i = 5 ∨ i = 13 ∨ i = 26 → r' 54 i = r 54 i) (h28 : r' 54 28 = 0) (h30 : r' 54 30 = 0) (hw : RR w d l c r) : RR w d l c r' := by
  have := RR0_fld h h54 (RR_0 hw)
  exact ⟨this.1, this.2, h28, h30⟩
theorem RWf_mk {w d l b : Int} {c r : Mem} {n : Int} {ex : Int → Int} (hW : WFs c) (hR : RRs w d l c r) (hn : 0 ≤ n ∧ n < c 9 14) (h41 : r 54 41 = b) (hex : ∀ y, inC w d l y → r 81 (cR w d y) = ex y ∧ 0 ≤ ex y ∧ ex y ≤ 160) : RWf w d l (if b = 0 then 4 else 6) (c 10 (c 11 n * 5)) (c 10 (c 11 n * 5 + 1)) (c 10 (c 11 n * 5 + 2)) ex n r := by
  have hso := hW.2.2.2.1 n hn
  obtain ⟨b1, b2, b3, -⟩ := hW.2.2.1 (c 11 n) hso
  have h61 := hR.2.2.2.1.2 n hn
  obtain ⟨r1, r2, r3, -⟩ := hR.2.2.1.2 (c 11 n) hso
  have h6 := hW.1
  unfold RWf
  rw [h61, h41]
  exact ⟨⟨by omega, r1, r2, r3⟩, rfl, ⟨b1, b2, b3⟩, hex⟩
theorem F_plain {w d l n t : Int} {c r : Mem} (h9 : c 9 14 ≤ 8) (hn : 0 ≤ n ∧ n < 8) (h28 : r 54 28 = 0) (h30 : r 54 30 = 0) : frT w d l (cntT r) c n t = frT w d l (fun _ => True) c n t := by
  funext x
  have hc : ∀ o : Int, (0 ≤ o ∧ o < 8) → cntT r o := fun o ho => ⟨by rw [h28, k_ask0 (by omega) (by omega), bt_zero], Or.inl h30⟩
  exact propext (frT_cong ⟨fun _ => trivial, fun _ => hc n hn⟩ (fun o ho _ => ⟨fun _ => trivial, fun _ => hc o (by omega)⟩))
theorem isNetR {X : Xv} {w d l : Int} {c r : Mem} (hW : WFs c) (hR : RRs w d l c r) (n : Int) : kCall (eX X) 2 M_X12_isNet.1 [vR 54, vI n] r (cP (b2i (0 ≤ n ∧ n < c 9 14)) r) := by
  have h := c_X12_isNet X r n (by rw [hR.2.2.2.1.1]; exact hW.2.1)
  rw [hR.2.2.2.1.1] at h
  exact h
/-- the reference's state behind plainly -/
theorem plain_R {w d l b : Int} {c m m' : Mem} (hR : RR w d l c m) (hp : (∀ o, o ≠ 54 → o ≠ 81 → m' o = m o) ∧ (∀ i : Int, i ≠ 28 → i ≠ 30 → i ≠ 41 → m' 54 i = m 54 i) ∧ m' 54 41 = b ∧ m' 54 28 = 0 ∧ m' 54 30 = 0 ∧ ∀ j : Int, (0 ≤ j ∧ j < 324) → m' 81 j = 0) : RR w d l c m' := RR_fld (fun o h1 h2 => hp.1 o (by omega) (by omega)) (fun i hi => hp.2.1 i (by omega) (by omega) (by omega)) hp.2.2.2.1 hp.2.2.2.2.1 hR
set_option maxRecDepth 100000 in
theorem pair_lay (X : Xv) (m : Mem) {w d l : Int} (hI : Inv X w d l m) (a : Int) : kPair X 142 237 [vI a] m (Inv X w d l) := by
  obtain ⟨hB, hl, hW, hR, h60, h31⟩ := id hI
  have hD := hB.1
  have hWS := Inv_WS hI
  have hWs := hW.1
  have h8 := hWs.2.1
  refine kp2 (k1 := 7) (k2 := 10) (by decide) (by decide) ?_
  refine kCall_ofT ok_X11_lay rfl (Nat.le_of_ble_eq_true rfl) (fun T hT => ?_)
  refine kW_go ok_X11_lay [] 20 ?_
  refine kCall_mono (c_X11_isNet X m a) (Nat.le_of_ble_eq_true rfl) ?_
  rintro _ m0 ⟨rfl, rfl⟩
  by_cases hn : 0 ≤ a ∧ a < m0 9 14
  · rw [b2i_t hn]
    have hn8 : 0 ≤ a ∧ a < 8 := by omega
    refine And.intro (fun h => absurd h (by decide)) (fun _ => ?_)
    refine kCall_mono (c_X7_layNet X m0 hB hWS a hn h31) (Nat.le_of_ble_eq_true rfl) ?_
    intro r m1 hpost
    have hR1 : ∀ m1 : Mem, (∀ o, 54 ≤ o → m1 o = m0 o) → RR w d l m0 m1 := fun m1 h => RR_ref (fun o h1 _ => h o h1) hR
    have refc : ∀ (m1 : Mem) (z : Int) (Q : Mem → Prop), (∀ o, 54 ≤ o → m1 o = m0 o) → (∀ m2, (∀ o, o < 54 → m2 o = m1 o) → (m0 13 a = 0 → z = -1 ∧ (RR w d l m0 m2 → Q m2)) ∧ (1 ≤ m0 13 a → ∀ res c', LRw w d l (w * d * l) a 6 (frT w d l (fun _ => True) (rmT (w * d * l) a m0) a 0) (csF (m0 10 (m0 11 a * 5)) (m0 10 (m0 11 a * 5 + 1)) (m0 31)) (m0 10 (m0 11 a * 5 + 2)) (m0 13 a - 1).toNat 1 (rmT (w * d * l) a m0) 0 res c' → z = ansR res ∧ (tsame w d l a m0 c' → WM w d l c' → ((res = none ∧ RR w d l m0 m2) ∨ (res ≠ none ∧ RR w d l c' m2)) → Q m2))) → kCall (eX X) 10 237 [vR 54, vI a] m1 (fun r2 m2 => r2 = some (vI z) ∧ Q m2) := by
      intro m1 z Q hm1 hQ
      have hRm1 := hR1 m1 hm1
      refine kCall_ofT ok_X12_lay rfl (Nat.le_of_ble_eq_true rfl) (fun T2 hT2 => ?_)
      refine kW_go ok_X12_lay [] 20 ?_
      refine kCall_mono (isNetR hWs hRm1.1 a) (Nat.le_of_ble_eq_true rfl) ?_
      rintro _ m3 ⟨rfl, rfl⟩
      rw [b2i_t hn]
      refine And.intro (fun _ => ?_) (fun h => absurd h (by decide))
      refine kCall_mono (c_X12_plainly X m3 1 (Or.inr rfl)) (Nat.le_of_ble_eq_true rfl) ?_
      rintro _ m4 ⟨rfl, hp⟩
      have hR4 := plain_R hRm1 hp
      have hRW : RWf w d l 6 (m0 10 (m0 11 a * 5)) (m0 10 (m0 11 a * 5 + 1)) (m0 10 (m0 11 a * 5 + 2)) (m0 31) a m4 := by
        have := RWf_mk (ex := m0 31) hWs hR4.1 hn hp.2.2.1 (fun y hy => by rw [hp.2.2.2.2.2 _ (cR_geo hD hy).1, h31 y hy]; omega)
        rwa [if_neg (by decide)] at this
      refine kCall_mono (c_X12_layNet X m0 m4 hD (WF_WM hW) (RR_0 hR4) hn hRW (RR_cntT hR4 hn8)) (Nat.le_of_ble_eq_true rfl) ?_
      rintro _ m5 (⟨e0, rfl, rfl⟩ | ⟨e1, res, c', hL, rfl, hr5, ht5, hM5, -, hres⟩)
      · have hq := (hQ m5 (fun o ho => hp.1 o (by omega) (by omega))).1 e0
        exact hT2 _ _ ⟨by rw [hq.1], hq.2 hR4⟩
      · rw [F_plain (by rw [rmT_ne (by decide) (by decide)]; exact h8.2) hn8 hp.2.2.2.1 hp.2.2.2.2.1] at hL
        have hq := (hQ m5 (fun o ho => by rw [hr5.2.1 o ho]; exact hp.1 o (by omega) (by omega))).2 e1 res c' hL
        have hfl : m5 54 28 = 0 ∧ m5 54 30 = 0 := ⟨by rw [hr5.2.2.1 28 (by decide)]; exact hp.2.2.2.1, by rw [hr5.2.2.1 30 (by decide)]; exact hp.2.2.2.2.1⟩
        refine hT2 _ _ ⟨by rw [hq.1], hq.2 ht5 hM5 ?_⟩
        rcases hres with ⟨h1, h2⟩ | ⟨h1, h2⟩
        · exact Or.inl ⟨h1, h2.1, h2.2, hfl⟩
        · exact Or.inr ⟨h1, h2.1, h2.2, hfl⟩
    rcases hpost with ⟨e0, rfl, rfl⟩ | ⟨e1, res, c', hL, rfl, hres⟩
    · refine hT _ _ ⟨-1, rfl, refc m1 (-1) _ (fun _ _ => rfl) (fun m2 hm2 => ⟨fun _ => ⟨rfl, fun hR2 => inv_mk hI (fun _ _ _ => rfl) Es_rf hW rfl rfl hm2 hR2⟩, fun h => by omega⟩)⟩
    · refine hT _ _ ⟨ansR res, rfl, refc m1 _ _ (fun o ho => ?_) (fun m2 hm2 => ⟨fun h => by omega, fun _ res2 c2 hL2 => ?_⟩)⟩
      · rcases hres with ⟨-, h⟩ | ⟨-, h⟩
        · exact h o (by omega)
        · rw [h o (by omega), LRw_ne hL o (by omega) (by omega), rmT_ne (by omega) (by omega)]
      · obtain ⟨rfl, rfl⟩ := LRw_one hL hL2
        refine ⟨rfl, fun ht hM hRR => ?_⟩
        rcases hres with ⟨rfl, h⟩ | ⟨hne, h⟩
        · refine inv_mk hI (fun o o1 o2 => h o (by omega)) (Es_of (fun o ho => h o (by omega))) hW (by rw [h 6 (by decide)]) (h 31 (by decide)) hm2 ?_
          rcases hRR with ⟨-, q⟩ | ⟨q, -⟩
          · exact q
          · exact absurd rfl q
        · have e : ∀ o, o ≠ 17 → o ≠ 19 → c' o = m0 o := ht.1
          refine inv_mk hI (fun o o1 o2 => by rw [h o (by omega), e o (by omega) (by omega)]) (c' := c') (Es_of (fun o ho => h o (by omega))) (WF_of_WM hW hM e) (by rw [h 6 (by decide), e 6 (by decide) (by decide)]) (by rw [h 31 (by decide), e 31 (by decide) (by decide)]) hm2 ?_
          rcases hRR with ⟨q, -⟩ | ⟨-, q⟩
          · exact absurd q hne
          · exact q
  · rw [b2i_f hn]
    refine And.intro (fun _ => ?_) (fun h => absurd rfl h)
    refine hT _ _ ⟨-1, rfl, ?_⟩
    refine kCall_ofT ok_X12_lay rfl (Nat.le_of_ble_eq_true rfl) (fun T2 hT2 => ?_)
    refine kW_go ok_X12_lay [] 20 ?_
    refine kCall_mono (isNetR hWs hR.1 a) (Nat.le_of_ble_eq_true rfl) ?_
    rintro _ m3 ⟨rfl, rfl⟩
    rw [b2i_f hn]
    exact And.intro (fun h => absurd rfl h) (fun _ => hT2 _ _ ⟨rfl, hI⟩)
