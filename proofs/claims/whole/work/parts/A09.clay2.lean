/-! the class's layNet and tryCost -/
theorem pin0_T {w d l n : Int} {c : Mem} (hp : 1 ≤ c 13 n) : pinT c n (c 14 (n * 4)) := ⟨0, by omega, by rw [show n * 4 + 0 = n * 4 by omega]⟩
theorem pin_in {w d l n : Int} {c : Mem} (hW : WFp w d l c) (hn : 0 ≤ n ∧ n < 8) (hp : 1 ≤ c 13 n) : inC w d l (c 14 (n * 4)) := by
  have := hW.2.1 n 0 hn (by omega)
  rwa [show n * 4 + 0 = n * 4 by omega] at this
/-- what rows start from, where a net's traces are gone -/
theorem rm_start {w d l n : Int} {q : Int → Prop} {c : Mem} (hD : okD w d l) (hM : WS w d l c) (hn : 0 ≤ n ∧ n < 8) (hp : 1 ≤ c 13 n) : ownF w d l (w * d * l) n (frT w d l q (rmT (w * d * l) n c) n 0) (rmT (w * d * l) n c) ∧ WS w d l (rmT (w * d * l) n c) ∧ (rmT (w * d * l) n c) 13 n = c 13 n ∧ (rmT (w * d * l) n c) 14 = c 14 := by
  have h1 := WS_rmT hM hn
  have e13 : rmT (w * d * l) n c 13 = c 13 := rmT_ne (by decide) (by decide)
  have e14 : rmT (w * d * l) n c 14 = c 14 := rmT_ne (by decide) (by decide)
  refine ⟨ownF_0S hD (h1.2 n hn) (h1.1.2.2.1 n hn) (pin0_T (w := w) (d := d) (l := l) (by rw [e13]; exact hp)) (by rw [e14]; exact pin_in hM.1.2.1 hn hp) (fun x hx => by rw [rmT_row hx, if_pos rfl]), h1, by rw [e13], e14⟩
set_option maxRecDepth 100000 in
theorem c_X7_layNet (X : Xv) (m : Mem) {w d l : Int} (hB : Bd X w d l m) (hM : WS w d l m) (n : Int) (hnn : 0 ≤ n ∧ n < m 9 14) (h31 : ∀ y, inC w d l y → m 31 y = 0) : kCall (eX X) 5 M_X7_layNet.1 [vR 30, vI n] m (fun r m' => (m 13 n = 0 ∧ r = some (vI (-1)) ∧ m' = m) ∨ (1 ≤ m 13 n ∧ ∃ (res : Option Int) (c' : Mem), LRw w d l (w * d * l) n 6 (frT w d l (fun _ => True) (rmT (w * d * l) n m) n 0) (csF (m 10 (m 11 n * 5)) (m 10 (m 11 n * 5 + 1)) (m 31)) (m 10 (m 11 n * 5 + 2)) (m 13 n - 1).toNat 1 (rmT (w * d * l) n m) 0 res c' ∧ r = some (vI (ansR res)) ∧ ((res = none ∧ ∀ o, (o < 22 ∨ o = 31 ∨ 36 < o) → m' o = m o) ∨ (res ≠ none ∧ ∀ o, (o < 22 ∨ o = 31 ∨ 36 < o) → m' o = c' o)))) := by
  obtain ⟨hD, hn, hG⟩ := id hB
  obtain ⟨⟨hWs, hWp, hWn, hWb⟩, hWy⟩ := id hM
  have hs := WFs_srt hWs
  have hc4 := okD_cells hD
  have hn8 : 0 ≤ n ∧ n < 8 := by have := hWs.2.1; omega
  have hnb : 0 ≤ n ∧ n < ((8 : Nat) : Int) := hn8
  have g4 : m 1 4 = (nC X : Int) := by rw [hG.2.2.2.2.1, hn]
  refine kCall_ofT ok_X7_layNet rfl (Nat.le_of_ble_eq_true rfl) (fun T hT => ?_)
  by_cases hp0 : m 13 n = 0
  · refine kW_go ok_X7_layNet [] 20 ?_
    exact ⟨hnb, And.intro (fun h => absurd hp0 h) (fun _ => hT _ _ (Or.inl ⟨hp0, rfl, rfl⟩))⟩
  have hP4 := (hWp.1 n hn8).1
  have hp1 : 1 ≤ m 13 n := by omega
  obtain ⟨hO, hM1, e13, e14⟩ := rm_start (q := fun _ => True) hD hM hn8 hp1
  obtain ⟨F, hF⟩ : ∃ F, F = frT w d l (fun _ => True) (rmT (w * d * l) n m) n 0 := ⟨_, rfl⟩
  rw [← hF] at hT hO
  have hcs : (∀ k y, 0 ≤ csF (m 10 (m 11 n * 5)) (m 10 (m 11 n * 5 + 1)) (m 31) k y) ∧ 0 ≤ m 10 (m 11 n * 5 + 2) := by
    have a := hWs.2.2.2.1 n hnn
    obtain ⟨b1, b2, b3, -⟩ := hWs.2.2.1 (m 11 n) a
    refine ⟨fun k y => ?_, b3.1⟩
    unfold csF
    split <;> omega
  have hpa : ∀ p : Int, (0 ≤ p ∧ p < m 13 n) → inC w d l (m 14 (n * 4 + p)) := fun p hp => hWp.2.1 n p hn8 hp
  have hp0i : inC w d l (m 14 (n * 4)) := pin_in hWp hn8 hp1
  refine kW_go ok_X7_layNet [2] 20 ?_
  refine ⟨hnb, And.intro (fun _ => ?_) (fun h => absurd h hp0)⟩
  refine kCall_mono (kCall_in (c_X6_look X m hD hn hG hs n 0 hnn)) (Nat.le_of_ble_eq_true rfl) ?_
  rintro _ m1 ⟨⟨rfl, hf, h22, h26, hb⟩, hin⟩
  have hf' : ∀ o, o < 22 ∨ 26 < o → m1 o = m o := fun o ho => hf o (by omega) (by omega) (by omega) (by omega) (by omega)
  have hlk : looked w d l X m m1 n 0 := ⟨h22.1, h26, hb⟩
  have hso := hs.2 n hnn
  refine kCall_mono (c_X6_mark X m1 hD hn (gridC_same hG (fun o o1 o2 => hf' o (by omega))) 0 n h22.1 hn8 (by rw [hf' 11 (by decide)]; exact hso.1)) (Nat.le_of_ble_eq_true rfl) ?_
  rintro _ m2 ⟨rfl, f2, h27⟩
  have hf2 : ∀ o, o < 22 ∨ 27 < o → m2 o = m o := fun o ho => by rw [f2 o (by omega), hf' o (by omega)]
  have hF2 : ∀ x, inC w d l x → (m2 27 x ≠ 0 ↔ F x) := by
    intro x hx
    have h1 := frC_frT (g := 0) hD hn hs hin hnn (hf' 10 (by decide)) (hf' 11 (by decide)) (hf' 15 (by decide)) hlk hx
    rw [free_rm (X := X) (m := m) hD hn hs hnn hx, ← hF] at h1
    rw [← h1]
    by_cases hc : frC w d m1 0 x
    · rw [(h27 x hx).1 hc]; exact ⟨fun _ => hc, fun _ => by decide⟩
    · rw [(h27 x hx).2 hc]; exact ⟨fun z => absurd rfl z, fun z => absurd z hc⟩
  have hB2 : Bd X w d l m2 := Bd_same hB (fun o a b => hf2 o (by omega))
  refine kCall_mono (c_X6_joinsAllPins X m2 hD hn hB2.2.2 n 6 hn8 (by omega) (by rw [hf2 13 (by decide)]; omega) (fun p hp => by rw [hf2 13 (by decide)] at hp; rw [hf2 14 (by decide)]; exact hpa p hp)) (Nat.le_of_ble_eq_true rfl) ?_
  rintro _ m3 ⟨hq, f3⟩
  rw [jnP_R hF2, hf2 13 (by decide), hf2 14 (by decide)] at hq
  have hf3 : ∀ o, o < 22 ∨ 29 < o → m3 o = m o := fun o ho => by rw [f3 o (by omega) (by omega), hf2 o (by omega)]
  rcases hq with ⟨hall, rfl⟩ | ⟨hno, rfl⟩
  · refine And.intro (fun _ => ?_) (fun h => absurd h (by decide))
    refine kW_go ok_X7_layNet [] 20 ?_
    have h1m : m3 1 = m 1 := hf3 1 (by decide)
    refine kCall_mono (c_X3_removeTraces X m3 n (by omega) (by rw [h1m]; exact g4) hn8) (Nat.le_of_ble_eq_true rfl) ?_
    rintro _ m4 ⟨rfl, hm4⟩
    -- the memory without the traces, as far as it matters
    have e17 : m4 17 = rmT (w * d * l) n m 17 := by
      funext j
      rw [hm4, hn, rmT_17, rmT_17, hf3 17 (by decide)]
    have e19 : m4 19 = rmT (w * d * l) n m 19 := by
      funext j
      rw [hm4, hn, rmT_19, rmT_19, hf3 19 (by decide)]
    have e4 : ∀ o, o ≠ 17 → o ≠ 19 → m4 o = m3 o := fun o a b => by rw [hm4, rmT_ne a b]
    have e4' : ∀ o, o ≠ 17 → o ≠ 19 → o < 22 ∨ 29 < o → m4 o = m o := fun o a b h => by rw [e4 o a b, hf3 o h]
    have hB4 : Bd X w d l m4 := Bd_same hB (fun o a b => e4' o (by omega) (by omega) (by omega))
    have hWs4 : WFs m4 := by
      unfold WFs at hWs ⊢
      rw [e4' 9 (by decide) (by decide) (by decide), e4' 10 (by decide) (by decide) (by decide), e4' 11 (by decide) (by decide) (by decide), e4' 12 (by decide) (by decide) (by decide)]
      exact hWs
    have hWp4 : WFp w d l m4 := by
      unfold WFp at hWp ⊢
      rw [e4' 9 (by decide) (by decide) (by decide), e4' 13 (by decide) (by decide) (by decide), e4' 14 (by decide) (by decide) (by decide)]
      exact hWp
    have hO4 : ownF w d l (nC X) n F m4 := by
      rw [← hn]
      unfold ownF at hO ⊢
      rw [e14] at hO
      rw [e4' 14 (by decide) (by decide) (by decide)]
      refine ⟨hO.1, fun a b ha hst => hO.2 a b ha ?_⟩
      unfold stJ mvB at hst ⊢
      rw [e19, e4' 18 (by decide) (by decide) (by decide)] at hst
      rw [rmT_ne (o := 18) (by decide) (by decide)]
      exact hst
    refine kCall_mono (c_X7_layRows X m4 hB4 hWs4 hWp4 n 1 (by rw [e4' 9 (by decide) (by decide) (by decide)]; exact hnn) (by rw [e4' 13 (by decide) (by decide) (by decide)]; exact hp1) (F := F) (fun x hx => by rw [e4 27 (by decide) (by decide), f3 27 (by decide) (by decide)]; exact hF2 x hx) hO4 (fun y hy => by rw [e4' 31 (by decide) (by decide) (by decide), h31 y hy]; omega)) (Nat.le_of_ble_eq_true rfl) ?_
    rintro _ m5 ⟨res, c', hL, rfl, f5⟩
    rw [if_neg (by decide), ← hn, e4' 10 (by decide) (by decide) (by decide), e4' 11 (by decide) (by decide) (by decide), e4' 13 (by decide) (by decide) (by decide), e4' 31 (by decide) (by decide) (by decide)] at hL
    obtain ⟨c3, hL3, g17, g19, gne⟩ := LRw_cong (c2 := rmT (w * d * l) n m) (by rw [e14, e4' 14 (by decide) (by decide) (by decide)]) e17.symm (by rw [rmT_ne (o := 18) (by decide) (by decide), e4' 18 (by decide) (by decide) (by decide)]) e19.symm hL
    have hne : res ≠ none := LRw_can hD (Or.inr rfl) (by rw [e14]; exact hp0i) (fun q hq => by rw [e14]; exact hall q (by omega)) hL3
    refine hT _ _ (Or.inr ⟨hp1, res, c3, hL3, rfl, Or.inr ⟨hne, fun o ho => ?_⟩⟩)
    rw [f5 o (by omega) (by omega) (by omega) (by omega) (by omega) (by omega)]
    by_cases h17 : o = 17
    · rw [h17]; exact g17.symm
    · by_cases h19 : o = 19
      · rw [h19]; exact g19.symm
      · rw [(gne o h17 h19).1, (gne o h17 h19).2, rmT_ne h17 h19]
        exact e4' o h17 h19 (by omega)
  · refine And.intro (fun h => absurd rfl h) (fun _ => ?_)
    obtain ⟨res, c', hL⟩ := LRw_ex (w := w) (d := d) (l := l) (N := w * d * l) (n := n) (mv := 6) (F := F) hcs.1 hcs.2 (m 13 n - 1).toNat 1 (rmT (w * d * l) n m) 0
    have hnone : res = none := by
      refine Decidable.byContradiction (fun z => hno (fun p hp => ?_))
      have hr := LRw_reach hD (Or.inr rfl) (by rw [e14]; exact hp0i) (fun q hq => by rw [e14]; exact hpa q (by omega)) hO ownV_6 hL z
      rw [e14] at hr
      by_cases hpz : p = 0
      · rw [hpz, show n * 4 + 0 = n * 4 by omega]; exact Rch_rf
      · exact hr p (by omega)
    subst hnone
    exact hT _ _ (Or.inr ⟨hp1, none, c', hL, rfl, Or.inl ⟨rfl, fun o ho => hf3 o (by omega)⟩⟩)
