/-! BARS and WHY alike -/
theorem cs_nn {c : Mem} {ex : Int → Int} {n : Int} (hW : WFs c) (hn : 0 ≤ n ∧ n < c 9 14) : (∀ k y, 0 ≤ cs0 c ex n k y) ∧ 0 ≤ be0 c n := by
  have a := hW.2.2.2.1 n hn
  obtain ⟨b1, b2, b3, -⟩ := hW.2.2.1 (c 11 n) a
  exact ⟨fun k y => by unfold cs0 csF; split <;> omega, b3.1⟩
theorem okR_V6 {w d l : Int} {c : Mem} {n mv : Int} {ex : Int → Int} {s : Int} (hD : okD w d l) (hM : WS w d l c) (hn : 0 ≤ n ∧ n < 8) (hp : 1 ≤ c 13 n) (hmv : mv = 4 ∨ mv = 6) (h : okR w d l c n mv ex s) : okV w d l c n 6 s := by
  obtain ⟨res, c', hL, hr⟩ := h
  obtain ⟨hO, -, -, e14⟩ := rm_start (q := fun o => bt s o.toNat = false) hD hM hn hp
  have hp0i := pin_in hM.1.2.1 hn hp
  have hP4 := (hM.1.2.1.1 n hn).1
  intro p hpp
  by_cases hpz : p = 0
  · rw [hpz, show n * 4 + 0 = n * 4 by omega]; exact Rch_rf
  · have := LRw_reach6 hD hmv (by rw [e14]; exact hp0i) (fun q hq => by rw [e14]; exact hM.1.2.1.2.1 n q hn (by omega)) hO hL hr p (by omega)
    rw [e14] at this
    exact this
theorem okV_R {w d l : Int} {c : Mem} {n mv : Int} {ex : Int → Int} {s : Int} (hD : okD w d l) (hM : WS w d l c) (hnn : 0 ≤ n ∧ n < c 9 14) (hp : 1 ≤ c 13 n) (hmv : mv = 4 ∨ mv = 6) (h : okV w d l c n mv s) : okR w d l c n mv ex s := by
  have hn : 0 ≤ n ∧ n < 8 := by have := hM.1.1.2.1; omega
  obtain ⟨hO, -, -, e14⟩ := rm_start (q := fun o => bt s o.toNat = false) hD hM hn hp
  have hp0i := pin_in hM.1.2.1 hn hp
  have hP4 := (hM.1.2.1.1 n hn).1
  have hcs := cs_nn (ex := ex) hM.1.1 hnn
  obtain ⟨res, c', hL⟩ := LRw_ex (w := w) (d := d) (l := l) (N := w * d * l) (n := n) (mv := mv) (F := Fs w d l c n s) hcs.1 hcs.2 (c 13 n - 1).toNat 1 (rmT (w * d * l) n c) 0
  refine ⟨res, c', hL, LRw_can hD hmv (by rw [e14]; exact hp0i) (fun q hq => ?_) hL⟩
  rw [e14]
  exact h q (by omega)
theorem okR_V4 {w d l : Int} {c : Mem} {n : Int} {ex : Int → Int} {s : Int} (hD : okD w d l) (hM : WS w d l c) (hn : 0 ≤ n ∧ n < 8) (hp : 1 ≤ c 13 n) (hV : ownV w d l n 4 (rmT (w * d * l) n c)) (h : okR w d l c n 4 ex s) : okV w d l c n 4 s := by
  obtain ⟨res, c', hL, hr⟩ := h
  obtain ⟨hO, -, -, e14⟩ := rm_start (q := fun o => bt s o.toNat = false) hD hM hn hp
  have hp0i := pin_in hM.1.2.1 hn hp
  have hP4 := (hM.1.2.1.1 n hn).1
  intro p hpp
  by_cases hpz : p = 0
  · rw [hpz, show n * 4 + 0 = n * 4 by omega]; exact Rch_rf
  · have := LRw_reach hD (Or.inl rfl) (by rw [e14]; exact hp0i) (fun q hq => by rw [e14]; exact hM.1.2.1.2.1 n q hn (by omega)) hO hV hL hr p (by omega)
    rw [e14] at this
    exact this
theorem pair_bars (X : Xv) (m : Mem) {w d l : Int} (hI : Inv X w d l m) (n : Int) : kPair X 149 256 [vI n] m (Inv X w d l) := by
  obtain ⟨hB, hl, hW, hR, h60, h31⟩ := id hI
  have hD := hB.1
  have hM := WF_WM hW
  have h8 := hW.1.2.1
  refine kp2 (k1 := 6) (k2 := 11) (by decide) (by decide) ?_
  refine kCall_ofT ok_X11_bars rfl (Nat.le_of_ble_eq_true rfl) (fun T hT => ?_)
  have hno : ¬ ((0 ≤ n ∧ n < m 9 14) ∧ m 13 n ≠ 0) → T (some (vI (-1))) m := by
    intro h
    refine hT _ _ ⟨_, rfl, kCall_mono (c_X12_bars X m m hD hM hR h31 n) (Nat.le_refl _) ?_⟩
    rintro _ m2 (⟨-, rfl, rfl⟩ | ⟨h2, -⟩)
    · exact ⟨rfl, hI⟩
    · exact absurd h2 h
  refine kW_go ok_X11_bars [] 20 ?_
  refine kCall_mono (c_X11_isNet X m n) (Nat.le_of_ble_eq_true rfl) ?_
  rintro _ m ⟨rfl, rfl⟩
  refine And.intro (fun h => hno (fun q => b2i_0.mp h q.1)) (fun h => ?_)
  have hnn := b2i_n.mp h
  have hn8 : 0 ≤ n ∧ n < 8 := by omega
  have hnb : 0 ≤ n ∧ n < ((8 : Nat) : Int) := hn8
  have hP4 := (hM.2.1.1 n hn8).1
  refine ⟨hnb, And.intro (fun hp => ?_) (fun hp => ?_)⟩
  · have hp : m 13 n ≤ 0 := hp
    exact hno (fun q => q.2 (by omega))
  · have hp : 0 < m 13 n := hp
    refine kCall_mono (c_X1_fewestBars X m hB hM n 6 hnn (by omega) (by omega)) (Nat.le_of_ble_eq_true rfl) ?_
    rintro _ m1 ⟨z, rfl, hz, hf, -, -⟩
    have hI1 : Inv X w d l m1 := inv_k hI (fun o ho => hf o (by omega))
    refine hT _ _ ⟨_, rfl, kCall_mono (c_X12_bars X m m1 hD hM (RR_ref (fun o a _ => hf o (by omega)) hR) h31 n) (Nat.le_refl _) ?_⟩
    rintro _ m2 (⟨h2, -⟩ | ⟨-, ⟨z2, rfl, hz2⟩, hR2, hf2⟩)
    · exact absurd ⟨hnn, by omega⟩ h2
    refine ⟨by rw [leastS_one (fun s _ => ⟨fun h => okV_R hD (Inv_WS hI) hnn (by omega) (Or.inr rfl) h, fun h => okR_V6 hD (Inv_WS hI) hn8 (by omega) (Or.inr rfl) h⟩) hz hz2], ?_⟩
    exact inv_mk hI1 (m1 := m1) (c' := m1) (fun _ _ _ => rfl) Es_rf hI1.2.2.1 rfl rfl hf2 (RR_es (Es_of (fun o ho => hf o (by omega))) hR2)
/-! WHY: rows without holes -/
theorem rm_twice {w d l n : Int} {c c' : Mem} (h19 : ∀ j : Int, ¬ (n * (w * d * l) ≤ j ∧ j < (n + 1) * (w * d * l)) → c' 19 j = c 19 j) (h17 : ∀ j : Int, ¬ inC w d l j → c' 17 j = c 17 j) (h17c : ∀ (j : Int) (o : Nat), inC w d l j → (o : Int) ≠ n → bt (c' 17 j) o = bt (c 17 j) o) (hn : 0 ≤ n ∧ n < 8) : rmT (w * d * l) n c' 19 = rmT (w * d * l) n c 19 ∧ rmT (w * d * l) n c' 17 = rmT (w * d * l) n c 17 := by
  constructor
  · funext j
    rw [rmT_19, rmT_19]
    by_cases hj : n * (w * d * l) ≤ j ∧ j < (n + 1) * (w * d * l)
    · rw [if_pos hj, if_pos hj]
    · rw [if_neg hj, if_neg hj]; exact h19 j hj
  · funext j
    rw [rmT_17, rmT_17]
    by_cases hj : 0 ≤ j ∧ j < w * d * l
    · rw [if_pos hj, if_pos hj]
      refine bt_ext (k_in_kand _ _) (k_in_kand _ _) (fun k hk => ?_)
      rw [bt_and, bt_and, bt_nall hn.1 (by omega) hk]
      by_cases e : (k : Int) = n
      · rw [decide_eq_false (by omega), Bool.and_false, Bool.and_false]
      · rw [h17c j k hj e]
    · rw [if_neg hj, if_neg hj]; exact h17 j hj
theorem rm_LRw {w d l n mv : Int} {F : Int → Prop} {cs : Int → Int → Int} {be : Int} {c c' : Mem} {j : Nat} {p s : Int} {r : Option Int} (hD : okD w d l) (hn : 0 ≤ n ∧ n < 8) (hmv : mv ≤ 6) (hW : WS w d l c) (hnn : n < c 9 14) (hp : ∀ q, (p ≤ q ∧ q < p + j) → inC w d l (c 14 (n * 4 + q))) (h : LRw w d l (w * d * l) n mv F cs be j p (rmT (w * d * l) n c) s r c') : rmT (w * d * l) n c' 19 = rmT (w * d * l) n c 19 ∧ rmT (w * d * l) n c' 17 = rmT (w * d * l) n c 17 := by
  have hc4 := okD_cells hD
  have e14 : rmT (w * d * l) n c 14 = c 14 := rmT_ne (by decide) (by decide)
  have h1 := LRw_WS hD hn hmv (by rw [e14]; exact hp) (WS_rmT hW hn) (by rw [rmT_ne (by decide) (by decide)]; exact hnn) h
  have h2 := LRw_out hn hmv (by rw [e14]; exact hp) h
  have ht := rmT_tsame (w := w) (d := d) (l := l) (c := c) hn (fun x hx => (hW.1.2.2.2 x hx).2)
  have e1 : (n + 1) * (w * d * l) = n * (w * d * l) + w * d * l := by rw [Int.add_mul, Int.one_mul]
  refine rm_twice (fun j hj => ?_) (fun j hj => ?_) (fun j o hj ho => ?_) hn
  · have e2 : rmT (w * d * l) n c 19 j = c 19 j := by rw [rmT_19, if_neg hj]
    by_cases hb : 0 ≤ j ∧ j < w * d * l * 8
    · obtain ⟨n', x, hn', hx, rfl⟩ := cell8 (by omega) hb
      have hne : n' ≠ n := by
        rintro rfl
        exact hj (by have := hx.1; have := hx.2; omega)
      rw [h1.2.2.1 n' x hn' hne hx, e2]
    · rw [h2.1 j hb, e2]
  · rw [h2.2 j hj, rmT_17, if_neg hj]
  · rw [h1.2.2.2 j o hj ho, ht.2.2 j o hj ho]
/-- rows without holes, with the traces of a set gone, where its pins can be joined -/
def okC (w d l : Int) (c : Mem) (n : Int) (ex : Int → Int) (s : Int) : Prop := okV w d l c n 6 s ∧ okR w d l c n 4 ex s
set_option maxRecDepth 100000 in
theorem c_X1_layFlat (X : Xv) (c m : Mem) {w d l : Int} (hB : Bd X w d l c) (hM : WS w d l c) (n g : Int) (hnn : 0 ≤ n ∧ n < c 9 14) (hp1 : 1 ≤ c 13 n) (h31 : ∀ y, inC w d l y → c 31 y = 0) (hf : ∀ o, o < 17 ∨ o = 18 ∨ o = 31 → m o = c o) (h19 : rmT (w * d * l) n m 19 = rmT (w * d * l) n c 19) (h17 : rmT (w * d * l) n m 17 = rmT (w * d * l) n c 17) (hlk : looked w d l X c m n 0) (hin : ∀ o i, inR (m o i)) : kCall (eX X) 5 M_X1_layFlat.1 [vR 40, vI n, vI g] m (fun r m' => (((okC w d l c n (c 31) g ∧ r = some (vI 1)) ∨ (¬ okC w d l c n (c 31) g ∧ r = some (vI 0))) ∧ (∀ o, o < 17 ∨ o = 18 ∨ o = 20 ∨ o = 21 ∨ o = 31 ∨ 36 < o → m' o = m o) ∧ rmT (w * d * l) n m' 19 = rmT (w * d * l) n c 19 ∧ rmT (w * d * l) n m' 17 = rmT (w * d * l) n c 17 ∧ looked w d l X c m' n 0) ∧ ∀ o i, inR (m' o i)) := by
  obtain ⟨hD, hN, hG⟩ := id hB
  have hc4 := okD_cells hD
  have h8 := hM.1.1.2.1
  have hn8 : 0 ≤ n ∧ n < 8 := by omega
  have hP4 := (hM.1.2.1.1 n hn8).1
  refine kCall_in ?_
  refine kCall_ofT ok_X1_layFlat rfl (Nat.le_of_ble_eq_true rfl) (fun T hT => ?_)
  have g4 : m 1 4 = (nC X : Int) := by rw [hf 1 (by omega), hG.2.2.2.2.1, hN]
  refine kW_go ok_X1_layFlat [] 20 ?_
  refine kCall_mono (kCall_in (c_X3_removeTraces X m n (by omega) g4 hn8)) (Nat.le_of_ble_eq_true rfl) ?_
  rintro _ m1 ⟨⟨rfl, hm1⟩, hin1⟩
  rw [← hN] at hm1
  have f1 : ∀ o, o ≠ 17 → o ≠ 19 → m1 o = m o := fun o a b => by rw [hm1, rmT_ne a b]
  have hf1 : ∀ o, o < 17 ∨ o = 18 ∨ o = 31 → m1 o = c o := fun o ho => by rw [f1 o (by omega) (by omega)]; exact hf o ho
  have hl1 := looked_same hlk (fun o a b => f1 o (by omega) (by omega))
  refine kCall_mono (c_markS X c m1 hB hM.1 n g hnn (fun o ho => hf1 o (by omega)) hl1 hin1) (Nat.le_of_ble_eq_true rfl) ?_
  rintro _ m2 ⟨⟨rfl, f2, h27⟩, hin2⟩
  have hf2 : ∀ o, o < 17 ∨ o = 18 ∨ o = 31 → m2 o = c o := fun o ho => by rw [f2 o (by omega)]; exact hf1 o ho
  have hl2 := looked_same hl1 (fun o a b => f2 o (by omega))
  refine kCall_mono (c_joinS X c m2 hB hM.1 n 6 g hnn hp1 (by omega) (fun o ho => hf2 o (by omega)) h27) (Nat.le_of_ble_eq_true rfl) ?_
  rintro _ m3 ⟨⟨hq, f3⟩, hin3⟩
  have hf3 : ∀ o, o < 17 ∨ o = 18 ∨ o = 31 → m3 o = c o := fun o ho => by rw [f3 o (by omega) (by omega)]; exact hf2 o ho
  have hl3 := looked_same hl2 (fun o a b => f3 o (by omega) (by omega))
  obtain ⟨cr, hcr⟩ : ∃ cr, cr = rmT (w * d * l) n c := ⟨_, rfl⟩
  have e17 : m3 17 = cr 17 := by rw [f3 17 (by decide) (by decide), f2 17 (by decide), hm1, h17, hcr]
  have e19 : m3 19 = cr 19 := by rw [f3 19 (by decide) (by decide), f2 19 (by decide), hm1, h19, hcr]
  have hkeep : ∀ o, o < 17 ∨ o = 18 ∨ o = 20 ∨ o = 21 ∨ o = 31 ∨ 36 < o → m3 o = m o := fun o ho => by rw [f3 o (by omega) (by omega), f2 o (by omega), f1 o (by omega) (by omega)]
  have hWr : WS w d l cr := by rw [hcr]; exact WS_rmT hM hn8
  have hcr2 : ∀ o, o ≠ 17 → o ≠ 19 → cr o = c o := fun o a b => by rw [hcr, rmT_ne a b]
  have hrr : rmT (w * d * l) n cr 19 = rmT (w * d * l) n c 19 ∧ rmT (w * d * l) n cr 17 = rmT (w * d * l) n c 17 := by
    refine rm_twice (fun j hj => by rw [hcr, rmT_19, if_neg hj]) (fun j hj => by rw [hcr, rmT_17, if_neg hj]) (fun j o hj ho => ?_) hn8
    rw [hcr]
    exact (rmT_tsame hn8 (fun x hx => (hM.1.2.2.2 x hx).2)).2.2 j o hj ho
  have hrm : ∀ {a b : Mem}, a 17 = b 17 → a 19 = b 19 → rmT (w * d * l) n a 19 = rmT (w * d * l) n b 19 ∧ rmT (w * d * l) n a 17 = rmT (w * d * l) n b 17 := by
    intro a b p q
    constructor
    · funext j; rw [rmT_19, rmT_19, q]
    · funext j; rw [rmT_17, rmT_17, p]
  rcases hq with ⟨hall, rfl⟩ | ⟨hall, rfl⟩
  · refine And.intro (fun h => absurd h (by decide)) (fun _ => ?_)
    have hE3 : Ea cr m3 := by
      intro o a b
      by_cases p : o = 17
      · rw [p]; exact e17
      · by_cases q : o = 19
        · rw [q]; exact e19
        · rw [hf3 o (by omega), hcr2 o p q]
    have hW3 := WS_Ea hE3 hWr
    have hB3 : Bd X w d l m3 := Bd_same hB (fun o a b => hf3 o (by omega))
    obtain ⟨hO, -, -, e14⟩ := rm_start (q := fun o => bt g o.toNat = false) hD hM hn8 hp1
    rw [← hcr] at hO e14
    have hO3 : ownF w d l (nC X) n (Fs w d l c n g) m3 := by
      rw [← hN]
      unfold Fs
      rw [← hcr]
      unfold ownF at hO ⊢
      rw [hE3 14 (by decide) (by decide)]
      refine ⟨hO.1, fun a b ha hst => hO.2 a b ha ?_⟩
      unfold stJ mvB at hst ⊢
      rw [hE3 19 (by decide) (by decide), hE3 18 (by decide) (by decide)] at hst
      exact hst
    have e13 : m3 13 = c 13 := hf3 13 (by omega)
    refine kCall_mono (kCall_in (c_X7_layRows X m3 hB3 hW3.1.1 hW3.1.2.1 n 0 (by rw [hf3 9 (by omega)]; exact hnn) (by rw [e13]; exact hp1) (F := Fs w d l c n g) (fun x hx => by rw [f3 27 (by decide) (by decide)]; exact h27 x hx) hO3 (fun y hy => by rw [hf3 31 (by omega), h31 y hy]; omega))) (Nat.le_of_ble_eq_true rfl) ?_
    rintro _ m4 ⟨⟨res, c', hL, rfl, f4⟩, hin4⟩
    rw [if_pos rfl, ← hN, hf3 10 (by omega), hf3 11 (by omega), hf3 31 (by omega), e13] at hL
    obtain ⟨c3, hL3, g17, g19, gne⟩ := LRw_cong (c2 := cr) (hE3 14 (by decide) (by decide)).symm e17.symm (hE3 18 (by decide) (by decide)).symm e19.symm hL
    have hcs := cs_nn (ex := c 31) hM.1.1 hnn
    have hans := ansR_ne (LRw_ge hcs.1 hcs.2 (Int.le_refl 0) hL3)
    have hokC : okC w d l c n (c 31) g ↔ res ≠ none := by
      constructor
      · rintro ⟨-, r2, c2, hL2, h2⟩
        rw [← hcr] at hL2
        rw [(LRw_one hL3 hL2).1]
        exact h2
      · intro h
        exact ⟨hall, res, c3, by rw [← hcr]; exact hL3, h⟩
    have hfin := hrm (a := m4) (b := c3) (by rw [f4 17 (by decide) (by decide) (by decide) (by decide) (by decide) (by decide)]; exact g17.symm) (by rw [f4 19 (by decide) (by decide) (by decide) (by decide) (by decide) (by decide)]; exact g19.symm)
    have hr3 := rm_LRw (mv := 4) (p := 1) (j := (c 13 n - 1).toNat) hD hn8 (by decide) hM hnn.2 (fun q hq => hM.1.2.1.2.1 n q hn8 (by omega)) (by rw [← hcr]; exact hL3)
    have hf4 : ∀ o, o ≠ 17 → o ≠ 19 → o ≠ 30 → o ≠ 32 → o ≠ 33 → o ≠ 34 → o ≠ 35 → o ≠ 36 → m4 o = m3 o := fun o p q a b e f g h => by rw [f4 o a b e f g h, (gne o p q).2]
    have hl4 := looked_same hl3 (fun o a b => hf4 o (by omega) (by omega) (by omega) (by omega) (by omega) (by omega) (by omega) (by omega))
    have hk4 : ∀ o, o < 17 ∨ o = 18 ∨ o = 20 ∨ o = 21 ∨ o = 31 ∨ 36 < o → m4 o = m o := fun o ho => by rw [hf4 o (by omega) (by omega) (by omega) (by omega) (by omega) (by omega) (by omega) (by omega)]; exact hkeep o ho
    refine And.intro (fun he => ?_) (fun hne => ?_)
    · have he : ansR res = -1 := he
      exact hT (some (vI 0)) m4 ⟨Or.inl rfl, Or.inr ⟨fun z => hokC.mp z (hans.mp he), rfl⟩, hk4, by rw [hfin.1]; exact hr3.1, by rw [hfin.2]; exact hr3.2, hl4⟩
    · have hne : ¬ ansR res = -1 := hne
      exact hT (some (vI 1)) m4 ⟨Or.inr rfl, Or.inl ⟨hokC.mpr (fun z => hne (hans.mpr z)), rfl⟩, hk4, by rw [hfin.1]; exact hr3.1, by rw [hfin.2]; exact hr3.2, hl4⟩
  · refine And.intro (fun _ => ?_) (fun h => absurd rfl h)
    have hfin := hrm (a := m3) (b := cr) e17 e19
    exact hT (some (vI 0)) m3 ⟨Or.inl rfl, Or.inr ⟨fun z => hall z.1, rfl⟩, hkeep, by rw [hfin.1]; exact hrr.1, by rw [hfin.2]; exact hrr.2, hl3⟩
