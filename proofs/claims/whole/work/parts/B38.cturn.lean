/-! PRESS: the class's turn -/
theorem pop_sum {v : Int} (h : 0 ≤ v ∧ v < 256) : pop v = sumN (fun o => if bt v o.toNat = true then 1 else 0) 8 := k_fin (N := 256) (P := fun v => pop v = sumN (fun o => if bt v o.toNat = true then 1 else 0) 8) (by decide +kernel) h.1 (by omega)
theorem bits8 {v : Int} (hv : inR v) (h : ∀ o : Nat, 8 ≤ o → bt v o = false) : 0 ≤ v ∧ v < 256 := by
  have e : v = kand v 255 := by
    refine bt_ext hv (k_in_kand _ _) (fun k hk => ?_)
    have h255 : ∀ i : Fin 32, bt 255 i.val = decide (i.val < 8) := by decide +kernel
    have h2 : bt 255 k = decide (k < 8) := h255 ⟨k, hk⟩
    rw [bt_and, h2]
    by_cases h8 : k < 8
    · rw [decide_eq_true h8, Bool.and_true]
    · rw [h k (by omega)]; rfl
  have := k_byte v
  omega
theorem sum_cut {f : Int → Int} {k : Nat} : ∀ {K : Nat}, k ≤ K → (∀ i : Int, (k : Int) ≤ i → i < K → f i = 0) → sumN f K = sumN f k := by
  intro K
  induction K with
  | zero => intro h _; rw [show k = 0 by omega]
  | succ K ih =>
    intro h hz
    by_cases e : k = K + 1
    · rw [e]
    · show sumN f K + f (K : Int) = _
      rw [ih (by omega) (fun i a b => hz i a (by omega)), hz (K : Int) (by omega) (by omega), Int.add_zero]
/-- what a look finds of other nets' traces -/
theorem soft_nrs {w d l n x v : Int} {N : Nat} {c m1 : Mem} (hN : w * d * l = (N : Int)) (h8 : 0 ≤ c 9 14 ∧ c 9 14 ≤ 8) (hv : inR v) (e9 : m1 9 = c 9) (e10 : m1 10 = c 10) (e11 : m1 11 = c 11) (h17 : ∀ (y : Int) (o : Nat), inC w d l y → (o : Int) ≠ n → bt (m1 17 y) o = bt (c 17 y) o) (hb : ∀ o : Nat, bt v o = true ↔ nrC w d l m1 17 n o x (N : Int)) : (0 ≤ v ∧ v < 256) ∧ pop v = nrs w d l c n x ∧ (v ≠ 0 ↔ ∃ o : Int, (0 ≤ o ∧ o < c 9 14) ∧ trN w d l c n x o) := by
  have hb2 : ∀ o : Nat, bt v o = true ↔ (o : Int) < c 9 14 ∧ trN w d l c n x (o : Int) := by
    intro o
    rw [hb o]
    unfold nrC trN aptC
    rw [e9, e10, e11, Int.toNat_natCast]
    constructor
    · rintro ⟨⟨a, b⟩, y, hy, h1, h2⟩
      have hyi : inC w d l y := ⟨hy.1, by omega⟩
      exact ⟨a, b, y, hyi, by rw [← h17 y o hyi b]; exact h1, h2⟩
    · rintro ⟨a, b, y, hy, h1, h2⟩
      exact ⟨⟨a, b⟩, y, ⟨hy.1, by have := hy.2; omega⟩, by rw [h17 y o hy b]; exact h1, h2⟩
  have hr : 0 ≤ v ∧ v < 256 := bits8 hv (fun o ho => Bool.eq_false_iff.mpr (fun z => by have := ((hb2 o).mp z).1; omega))
  refine ⟨hr, ?_, ?_⟩
  · rw [pop_sum hr]
    unfold nrs
    have hz : sumN (fun o => if bt v o.toNat = true then 1 else 0) 8 = sumN (fun o => if bt v o.toNat = true then 1 else 0) (c 9 14).toNat := by
      refine sum_cut (by omega) (fun i h1 h2 => ?_)
      show (if bt v i.toNat = true then (1 : Int) else 0) = 0
      refine if_neg (fun z => ?_)
      have := ((hb2 i.toNat).mp z).1
      omega
    rw [hz]
    refine sumN_cong (fun i h1 h2 => ?_)
    have hbi := hb2 i.toNat
    rw [show ((i.toNat : Nat) : Int) = i by omega] at hbi
    show (if bt v i.toNat = true then (1 : Int) else 0) = iv (trN w d l c n x i) 1
    by_cases z : bt v i.toNat = true
    · rw [if_pos z, iv_t (hbi.mp z).2]
    · rw [if_neg z, iv_f (fun y => z (hbi.mpr ⟨by omega, y⟩))]
  · rw [k_ne0 hv]
    constructor
    · rintro ⟨k, hk, z⟩
      have := (hb2 k).mp z
      exact ⟨(k : Int), by omega, this.2⟩
    · rintro ⟨o, ho, z⟩
      refine ⟨o.toNat, by omega, (hb2 o.toNat).mpr ?_⟩
      rw [show ((o.toNat : Nat) : Int) = o by omega]
      exact ⟨ho.2, z⟩
theorem free_pr {w d l n : Int} {c : Mem} (hn : 0 ≤ n ∧ n < 8) (h9 : c 9 14 ≤ 8) {x : Int} (hx : inC w d l x) : frT w d l (qC n 0 255) (rmT (w * d * l) n c) n 0 x ↔ frT w d l (fun o => o = n) (rmT (w * d * l) n c) n 0 x := by
  have h255 : ∀ i : Fin 8, bt 255 i.val = true := by decide +kernel
  have hq0 : ¬ qC n 0 255 n := fun z => z.elim (fun z => z.2 rfl) (fun z => z.1 rfl)
  have hqo : ∀ o, (0 ≤ o ∧ o < c 9 14) → o ≠ n → ¬ qC n 0 255 o := by
    rintro o ho hon (z | z)
    · exact hon z.1
    · have := h255 ⟨o.toNat, by omega⟩
      rw [z.2] at this
      cases this
  rw [← frT_rm (q := qC n 0 255) hn h9 hq0 (fun o ho hon => Iff.rfl) hx, ← frT_rm (q := qC n 0 255) (q' := fun o => o = n) hn h9 hq0 (fun o ho hon => ⟨fun z => absurd z (hqo o ho hon), fun z => absurd z hon⟩) hx]
theorem WS_Ea {w d l : Int} {c m : Mem} (h : Ea c m) (hW : WS w d l c) : WS w d l m := by
  refine ⟨?_, fun j hj => ?_⟩
  · have := hW.1
    unfold WM WFs WFp WFn pinT at this ⊢
    rw [h 9 (by decide) (by decide), h 10 (by decide) (by decide), h 11 (by decide) (by decide), h 12 (by decide) (by decide), h 13 (by decide) (by decide), h 14 (by decide) (by decide), h 16 (by decide) (by decide), h 17 (by decide) (by decide), h 18 (by decide) (by decide), h 19 (by decide) (by decide)]
    exact this
  · have := hW.2 j hj
    unfold SYn at this ⊢
    rw [h 18 (by decide) (by decide), h 19 (by decide) (by decide)]
    exact this
/-- the class's memory but for what laying needs -/
abbrev keep5 (o : Nat) : Prop := o < 17 ∨ o = 18 ∨ o = 20 ∨ o = 21 ∨ 36 < o
set_option maxRecDepth 100000 in
theorem c_X5_layTurn (X : Xv) (c m : Mem) {w d l pr : Int} {ht : Int → Int} (hB : Bd X w d l m) (hE : Ea c m) (hM : WS w d l c) (hpr : 1 ≤ pr ∧ pr ≤ 20) (hht : ∀ x, inC w d l x → m 38 x = ht x ∧ 0 ≤ ht x ∧ ht x ≤ 20) (h31 : ∀ y, inC w d l y → m 31 y = 0) : kCall (eX X) 5 M_X5_layTurn.1 [vR 37, vI pr] m (fun r m' => ∃ b c', tuA w d l pr ht (c 9 14).toNat 0 c b c' ∧ r = some (vI (if b = true then 1 else 0)) ∧ (b = true → Ea c' m' ∧ WS w d l c' ∧ ∀ o, o ≠ 17 → o ≠ 19 → c' o = c o) ∧ (∀ o, keep5 o ∨ o = 31 → m' o = m o)) := by
  obtain ⟨hD, hN, hG⟩ := id hB
  have hc4 := okD_cells hD
  have h8 := hM.1.1.2.1
  refine kCall_ofT ok_X5_layTurn rfl (Nat.le_of_ble_eq_true rfl) (fun T hT => ?_)
  have fin : ∀ (v n : Int) (x4 : Option AV) (mm : Mem), (∀ o, keep5 o → mm o = m o) → (∀ i : Int, ¬ (0 ≤ i ∧ i < (nC X : Int)) → mm 31 i = m 31 i) → (∀ m', (∀ o, keep5 o ∨ o = 31 → m' o = m o) → (∀ o, o ≠ 31 → m' o = mm o) → T (some (vI v)) m') → kW (eX X) 4 M_X5_layTurn T 7 [some (vR 37), some (vI pr), some (vI v), some (vI n), x4] [] mm := by
    intro v n x4 mm hf hf31 hend
    refine kW_go ok_X5_layTurn [] 20 ?_
    refine kCall_mono (c_fill (eX X) mm 31 (nC X) 0 (by decide) rfl (by omega)) (Nat.le_of_ble_eq_true rfl) ?_
    rintro _ m2 ⟨rfl, rfl⟩
    have h31' : mfill mm 31 0 ((nC X : Nat) : Int) 0 31 = m 31 := by
      funext i
      rw [mfill_at]
      by_cases hi : 0 ≤ i ∧ i < ((nC X : Nat) : Int)
      · rw [if_pos hi, h31 i ⟨hi.1, by omega⟩]
      · rw [if_neg hi, hf31 i hi]
    refine hend _ (fun o ho => ?_) (fun o ho => mfill_ne ho)
    by_cases e : o = 31
    · rw [e]; exact h31'
    · rw [mfill_ne e]; exact hf o (ho.resolve_right e)
  have nets : ∀ (k : Nat) (n : Int) (c1 mm : Mem) (x4 : Option AV), n + k = c 9 14 → 0 ≤ n → Ea c1 mm → WS w d l c1 → (∀ o, o ≠ 17 → o ≠ 19 → c1 o = c o) → (∀ o, keep5 o → mm o = m o) → (∀ i : Int, ¬ (0 ≤ i ∧ i < (nC X : Int)) → mm 31 i = m 31 i) → (∀ b c', tuA w d l pr ht k n c1 b c' → tuA w d l pr ht (c 9 14).toNat 0 c b c') → kW (eX X) 4 M_X5_layTurn T 1 [some (vR 37), some (vI pr), some (vI 1), some (vI n), x4] [] mm := by
    intro k
    induction k with
    | zero =>
      intro n c1 mm x4 hnk h0 hE1 hM1 hc1 hf1 hf31 hres
      have e9 : mm 9 = c 9 := by rw [hE1 9 (by decide) (by decide)]; exact hc1 9 (by decide) (by decide)
      refine kW_go ok_X5_layTurn [7] 20 ?_
      refine And.intro (fun _ => fin 1 n x4 mm hf1 hf31 (fun m' a b => hT _ _ ⟨Or.inr rfl, true, c1, hres _ _ ⟨rfl, rfl⟩, rfl, fun _ => ⟨fun o o1 o2 => by rw [b o (by omega)]; exact hE1 o o1 o2, hM1, hc1⟩, a⟩)) (fun h => ?_)
      have h : n < mm 9 14 := h
      rw [e9] at h
      omega
    | succ k ih =>
      intro n c1 mm x4 hnk h0 hE1 hM1 hc1 hf1 hf31 hres
      have e9 : mm 9 = c 9 := by rw [hE1 9 (by decide) (by decide)]; exact hc1 9 (by decide) (by decide)
      have e9c : c1 9 = c 9 := hc1 9 (by decide) (by decide)
      have hn8 : 0 ≤ n ∧ n < 8 := by omega
      have hnb : 0 ≤ n ∧ n < ((8 : Nat) : Int) := hn8
      have hnn : 0 ≤ n ∧ n < c1 9 14 := by rw [e9c]; omega
      have e13 : mm 13 = c1 13 := hE1 13 (by decide) (by decide)
      have hP4 := (hM1.1.2.1.1 n hn8).1
      refine kW_go ok_X5_layTurn [2, 6, 7] 20 ?_
      refine And.intro (fun h => ?_) (fun _ => And.intro (fun h => absurd h (by decide)) (fun _ => ⟨hnb, And.intro (fun hp => ?_) (fun hp => ?_)⟩))
      · have h : mm 9 14 ≤ n := h
        rw [e9] at h
        omega
      · have hp : mm 13 n ≤ 0 := hp
        rw [e13] at hp
        refine kW_go ok_X5_layTurn [1] 20 ?_
        exact ⟨by constructor <;> omega, ih (n + 1) c1 mm _ (by omega) (by omega) hE1 hM1 hc1 hf1 hf31 (fun b c' h => hres b c' (Or.inl ⟨by omega, h⟩))⟩
      · have hp : 0 < mm 13 n := hp
        rw [e13] at hp
        have hp1 : 1 ≤ c1 13 n := by omega
        have hB1 : Bd X w d l mm := Bd_same hB (fun o a b => hf1 o (by omega))
        have g4 : mm 1 4 = (nC X : Int) := by rw [hB1.2.2.2.2.2.2.1, hN]
        refine kCall_mono (c_X3_removeTraces X mm n (by omega) g4 hn8) (Nat.le_of_ble_eq_true rfl) ?_
        rintro _ m1 ⟨rfl, hm1⟩
        obtain ⟨cR1, hcR1⟩ : ∃ q, q = rmT (w * d * l) n c1 := ⟨_, rfl⟩
        have hEr : Ea cR1 m1 := by
          rw [hcR1, hm1, ← hN]
          exact Ea_rm hE1
        have hMr : WS w d l cR1 := by rw [hcR1]; exact WS_rmT hM1 hn8
        have hne1 : ∀ o, o ≠ 17 → o ≠ 19 → m1 o = mm o := fun o a b => by rw [hm1, rmT_ne a b]
        have hW1 := WS_Ea hEr hMr
        have hs1 : srt m1 := WFs_srt hW1.1.1
        have hB2 : Bd X w d l m1 := Bd_same hB1 (fun o a b => hne1 o (by omega) (by omega))
        have hnn1 : 0 ≤ n ∧ n < m1 9 14 := by rw [hne1 9 (by decide) (by decide), e9]; omega
        refine kCall_mono (kCall_in (c_X6_look X m1 hD hN hB2.2.2 hs1 n 0 hnn1)) (Nat.le_of_ble_eq_true rfl) ?_
        rintro _ m2 ⟨⟨rfl, hf2, h22, h26, hb2⟩, hin2⟩
        have hf2' : ∀ o, o < 22 ∨ 26 < o → m2 o = m1 o := fun o ho => hf2 o (by omega) (by omega) (by omega) (by omega) (by omega)
        have hlk : looked w d l X m1 m2 n 0 := ⟨h22.1, h26, hb2⟩
        refine kCall_mono (c_X6_mark X m2 hD hN (gridC_same hB2.2.2 (fun o o1 o2 => hf2' o (by omega))) 255 n h22.1 hn8 (by rw [hf2' 11 (by decide)]; exact (hs1.2 n hnn1).1)) (Nat.le_of_ble_eq_true rfl) ?_
        rintro _ m3 ⟨rfl, f3, h27⟩
        have hf3 : ∀ o, o < 22 ∨ 27 < o → m3 o = m1 o := fun o ho => by rw [f3 o (by omega), hf2' o (by omega)]
        obtain ⟨F, hF⟩ : ∃ F, F = frT w d l (fun o => o = n) cR1 n 0 := ⟨_, rfl⟩
        have hF3 : ∀ x, inC w d l x → (m3 27 x ≠ 0 ↔ F x) := by
          intro x hx
          have h1 := frC_frT (g := 255) hD hN hs1 hin2 hnn1 (hf2' 10 (by decide)) (hf2' 11 (by decide)) (hf2' 15 (by decide)) hlk hx
          rw [frT_Ea hEr, hcR1, free_pr hn8 (by rw [e9c]; omega) hx, ← hcR1, ← hF] at h1
          rw [← h1]
          by_cases hc : frC w d m2 255 x
          · rw [(h27 x hx).1 hc]; exact ⟨fun _ => hc, fun _ => by decide⟩
          · rw [(h27 x hx).2 hc]; exact ⟨fun z => absurd rfl z, fun z => absurd z hc⟩
        have hso : ∀ x, inC w d l x → (0 ≤ m3 25 x ∧ m3 25 x < 256) ∧ pop (m3 25 x) = nrs w d l c1 n x := by
          intro x hx
          rw [f3 25 (by decide)]
          have := soft_nrs (c := c1) (m1 := m1) (v := m2 25 x) hN (by rw [e9c]; exact h8) (hin2 25 x) (by rw [hne1 9 (by decide) (by decide), hE1 9 (by decide) (by decide)]) (by rw [hne1 10 (by decide) (by decide), hE1 10 (by decide) (by decide)]) (by rw [hne1 11 (by decide) (by decide), hE1 11 (by decide) (by decide)]) (fun y o hy ho => ?_) (fun o => (hb2 x hx o).2)
          · exact ⟨this.1, this.2.1⟩
          · rw [hEr 17 (by decide) (by decide), hcR1]
            exact (rmT_tsame hn8 (fun x hx => (hM1.1.2.2.2 x hx).2)).2.2 y o hy ho
        obtain ⟨hO, -, -, e14⟩ := rm_start (q := fun o => o = n) hD hM1 hn8 hp1
        rw [← hcR1, ← hF] at hO
        rw [← hcR1] at e14
        have cells : ∀ (q : Nat) (i : Int) (m4 : Mem), i + q = (nC X : Int) → 0 ≤ i → (∀ o, o ≠ 31 → m4 o = m3 o) → (∀ x, inC w d l x → x < i → m4 31 x = exA w d l c1 pr ht n x) → (∀ i : Int, ¬ (0 ≤ i ∧ i < (nC X : Int)) → m4 31 i = m 31 i) → kW (eX X) 4 M_X5_layTurn T 2 [some (vR 37), some (vI pr), some (vI 1), some (vI n), some (vI i)] [] m4 := by
          intro q
          induction q with
          | zero =>
            intro i m4 hq hi0 hf4 hx4 ho4
            have hi : i = (nC X : Int) := by omega
            have hf4' : ∀ o, o < 22 ∨ 36 < o → m4 o = m1 o := fun o ho => by rw [hf4 o (by omega)]; exact hf3 o (by omega)
            have hE4 : Ea cR1 m4 := fun o a b => by rw [hf4' o (by omega)]; exact hEr o a b
            have hW4 := WS_Ea hE4 hMr
            have hB4 : Bd X w d l m4 := Bd_same hB2 (fun o a b => hf4' o (by omega))
            have g4 : m4 1 4 = (nC X : Int) := by rw [hB4.2.2.2.2.2.2.1, hN]
            have hO4 : ownF w d l (nC X) n F m4 := by
              rw [← hN]
              unfold ownF at hO ⊢
              rw [hE4 14 (by decide) (by decide)]
              refine ⟨hO.1, fun a b ha hst => hO.2 a b ha ?_⟩
              unfold stJ mvB at hst ⊢
              rw [hE4 19 (by decide) (by decide), hE4 18 (by decide) (by decide)] at hst
              exact hst
            have hexb : ∀ y, inC w d l y → 0 ≤ m4 31 y ∧ m4 31 y ≤ 160 := fun y hy => by
              rw [hx4 y hy (by have := hy.2; omega)]
              have := exA_in (w := w) (d := d) (l := l) (c := c1) (pr := pr) (ht := ht) (by rw [e9c]; exact h8) (by omega) hnn (hht y hy).2
              exact ⟨this.1, this.2.1⟩
            have e13r : cR1 13 n = c1 13 n := by rw [hcR1, rmT_ne (by decide) (by decide)]
            refine kW_go ok_X5_layTurn [6] 20 ?_
            refine And.intro (fun _ => ?_) (fun h => ?_)
            · refine kCall_mono (c_X7_layRows X m4 hB4 hW4.1.1 hW4.1.2.1 n 1 (by rw [hE4 9 (by decide) (by decide), hcR1, rmT_ne (by decide) (by decide)]; exact hnn) (by rw [hE4 13 (by decide) (by decide), e13r]; exact hp1) (F := F) (fun x hx => by rw [hf4 27 (by decide)]; exact hF3 x hx) hO4 hexb) (Nat.le_of_ble_eq_true rfl) ?_
              rintro _ m5 ⟨res, c', hL, rfl, f5⟩
              rw [if_neg (by decide), ← hN, hE4 10 (by decide) (by decide), hE4 11 (by decide) (by decide), hE4 13 (by decide) (by decide), e13r] at hL
              obtain ⟨c3, hL3, g17, g19, gne⟩ := LRw_cong (c2 := cR1) (hE4 14 (by decide) (by decide)).symm (hE4 17 (by decide) (by decide)).symm (hE4 18 (by decide) (by decide)).symm (hE4 19 (by decide) (by decide)).symm hL
              have hpin : ∀ q, ((1 : Int) ≤ q ∧ q < 1 + ((c1 13 n - 1).toNat : Int)) → inC w d l (cR1 14 (n * 4 + q)) := fun q hq => by rw [e14]; exact hM1.1.2.1.2.1 n q hn8 (by omega)
              have hLS : tuS w d l pr ht c1 n res c3 := by
                unfold tuS
                rw [← hcR1, ← hF]
                have h10 : cR1 10 = c1 10 := by rw [hcR1, rmT_ne (by decide) (by decide)]
                have h11 : cR1 11 = c1 11 := by rw [hcR1, rmT_ne (by decide) (by decide)]
                rw [h10, h11] at hL3
                refine LRw_cc (fun k y hy => ?_) hpin hL3
                show csF _ _ _ k y = csF _ _ _ k y
                unfold csF
                rw [hx4 y hy (by have := hy.2; omega)]
              have hge : ∀ z, res = some z → 0 ≤ z := by
                have a := hM1.1.1.2.2.2.1 n hnn
                obtain ⟨b1, b2, b3, -⟩ := hM1.1.1.2.2.1 (c1 11 n) a
                exact LRw_ge (fun k y => by unfold cs0 csF; split <;> omega) b3.1 (Int.le_refl 0) hLS
              have hans := ansR_ne hge
              have hkeep : ∀ o, keep5 o → m5 o = m o := fun o ho => by
                rw [f5 o (by omega) (by omega) (by omega) (by omega) (by omega) (by omega), (gne o (by omega) (by omega)).2, hf4' o (by omega), hne1 o (by omega) (by omega)]
                exact hf1 o ho
              have hk31 : ∀ i : Int, ¬ (0 ≤ i ∧ i < (nC X : Int)) → m5 31 i = m 31 i := fun i hi => by
                rw [f5 31 (by decide) (by decide) (by decide) (by decide) (by decide) (by decide), (gne 31 (by decide) (by decide)).2]
                exact ho4 i hi
              refine And.intro (fun he => ?_) (fun hne => ?_)
              · have he : ansR res = -1 := he
                refine kW_go ok_X5_layTurn [7] 20 ?_
                have hlost : kW (eX X) 4 M_X5_layTurn T 7 [some (vR 37), some (vI pr), some (vI 0), some (vI (n + 1)), some (vI i)] [] m5 := fin 0 (n + 1) _ m5 hkeep hk31 (fun m' a b => hT _ _ ⟨Or.inl rfl, false, c3, hres _ _ (Or.inr ⟨hp1, res, c3, hLS, Or.inl ⟨hans.mp he, rfl⟩⟩), rfl, fun z => (by cases z), a⟩)
                exact ⟨by constructor <;> omega, And.intro (fun _ => hlost) (fun _ => And.intro (fun _ => hlost) (fun h => absurd rfl h))⟩
              · have hne : ¬ ansR res = -1 := hne
                refine kW_go ok_X5_layTurn [1] 20 ?_
                have hLW := LRw_WS hD hn8 (Int.le_refl 6) hpin hMr (by rw [hcR1, rmT_ne (by decide) (by decide)]; exact hnn.2) hL3
                refine ⟨by constructor <;> omega, ih (n + 1) c3 m5 _ (by omega) (by omega) (fun o a b => ?_) hLW.1 (fun o a b => ?_) hkeep hk31 (fun b c' h => hres b c' (Or.inr ⟨hp1, res, c3, hLS, Or.inr ⟨fun z => hne (hans.mpr z), h⟩⟩))⟩
                · rw [f5 o (by omega) (by omega) (by omega) (by omega) (by omega) (by omega)]
                  by_cases h17 : o = 17
                  · rw [h17]; exact g17.symm
                  · by_cases h19 : o = 19
                    · rw [h19]; exact g19.symm
                    · rw [(gne o h17 h19).1, (gne o h17 h19).2]
                      exact hE4 o a b
                · rw [(gne o a b).1, hcR1, rmT_ne a b]
                  exact hc1 o a b
            · have h : i < m4 1 4 := h
              omega
          | succ q ihq =>
            intro i m4 hq hi0 hf4 hx4 ho4
            have hib : 0 ≤ i ∧ i < (nC X : Int) := by omega
            have hix : inC w d l i := ⟨hi0, by omega⟩
            have hf4' : ∀ o, o < 22 ∨ 36 < o → m4 o = m1 o := fun o ho => by rw [hf4 o (by omega)]; exact hf3 o (by omega)
            have hB4 : Bd X w d l m4 := Bd_same hB2 (fun o a b => hf4' o (by omega))
            have g4 : m4 1 4 = (nC X : Int) := by rw [hB4.2.2.2.2.2.2.1, hN]
            have e25 : m4 25 = m3 25 := hf4 25 (by decide)
            have e38 : m4 38 i = ht i := by rw [hf4' 38 (by decide), hne1 38 (by decide) (by decide), hf1 38 (by omega)]; exact (hht i hix).1
            have hsx := hso i hix
            rw [← e25] at hsx
            have hex := exA_in (w := w) (d := d) (l := l) (c := c1) (pr := pr) (ht := ht) (by rw [e9c]; exact h8) (by omega) hnn (hht i hix).2
            have hxu : 0 ≤ pr * nrs w d l c1 n i + ht i ∧ pr * nrs w d l c1 n i + ht i ≤ 160 := ⟨hex.1, hex.2.1⟩
            have hx3 := hex.2.2
            have hbc := c_bitCount (eX X) m4 (m4 25 i) hsx.1.1 hsx.1.2
            rw [hsx.2] at hbc
            refine kW_go ok_X5_layTurn [2] 20 ?_
            refine And.intro (fun h => ?_) (fun _ => ⟨hib, ?_⟩)
            · have h : m4 1 4 ≤ i := h
              omega
            refine kCall_mono hbc (Nat.le_of_ble_eq_true rfl) ?_
            rintro _ m5 ⟨rfl, rfl⟩
            refine ⟨by constructor <;> omega, hib, by constructor <;> omega, hib, by constructor <;> omega, ihq (i + 1) _ (by omega) (by omega) (fun o ho => by rw [k_mset_ne ho]; exact hf4 o ho) (fun x hx hxi => ?_) (fun j hj => ?_)⟩
            · rw [k_mset_at]
              by_cases e : x = i
              · rw [if_pos e, e, e38]; rfl
              · rw [if_neg e]; exact hx4 x hx (by omega)
            · rw [k_mset_at, if_neg (by omega)]
              exact ho4 j hj
        have hgo := cells (nC X) 0 m3 (by omega) (by omega) (fun _ _ => rfl) (fun x hx h => by have := hx.1; omega) (fun i hi => by rw [f3 31 (by decide), hf2' 31 (by decide), hne1 31 (by decide) (by decide)]; exact hf31 i hi)
        exact hgo
  refine kW_go ok_X5_layTurn [1] 20 ?_
  exact nets (c 9 14).toNat 0 c m none (by omega) (by omega) hE hM (fun _ _ _ => rfl) (fun _ _ => rfl) (fun _ _ => rfl) (fun _ _ h => h)
