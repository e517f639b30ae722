/-! ORDER alike -/
def oN (w d l : Int) (ex : Int → Int) : Nat → Int → Int → Mem → Int → Int → Mem → Prop
  | 0, _, _, c, s, s', c' => s' = s ∧ c' = c
  | j + 1, n, r, c, s, s', c' => (¬ (c 12 n = r ∧ 0 < c 13 n) ∧ oN w d l ex j (n + 1) r c s s' c') ∨ ((c 12 n = r ∧ 0 < c 13 n) ∧ ∃ res c1, layA w d l 6 (fun _ => True) ex c n res c1 ∧ oN w d l ex j (n + 1) r c1 (if res = none then kor s (kshl 1 n) else s) s' c')
def oR (w d l : Int) (ex : Int → Int) : Nat → Int → Mem → Int → Int → Mem → Prop
  | 0, _, c, s, s', c' => s' = s ∧ c' = c
  | j + 1, r, c, s, s', c' => ∃ s1 c1, oN w d l ex (c 9 14).toNat 0 r c s s1 c1 ∧ oR w d l ex j (r + 1) c1 s1 s' c'
/-- all nets laid in their order -/
def ordA (w d l : Int) (ex : Int → Int) (c : Mem) (s : Int) (c' : Mem) : Prop := oR w d l ex 100 0 (rmA (w * d * l) c) 0 s c'
theorem oN_one {w d l : Int} {ex : Int → Int} : ∀ {j : Nat} {n r : Int} {c : Mem} {s s1 s2 : Int} {c1 c2 : Mem}, oN w d l ex j n r c s s1 c1 → oN w d l ex j n r c s s2 c2 → s1 = s2 ∧ c1 = c2
  | 0, _, _, _, _, _, _, _, _, h, h' => ⟨h.1.trans h'.1.symm, h.2.trans h'.2.symm⟩
  | j + 1, n, r, c, s, s1, s2, c1, c2, h, h' => by
    rcases h with ⟨a1, a2⟩ | ⟨a1, r1, x1, a2, a3⟩ <;> rcases h' with ⟨b1, b2⟩ | ⟨b1, r2, x2, b2, b3⟩
    · exact oN_one a2 b2
    · exact absurd b1 a1
    · exact absurd a1 b1
    · obtain ⟨rfl, rfl⟩ := layA_one a2 b2
      exact oN_one a3 b3
theorem oR_one {w d l : Int} {ex : Int → Int} : ∀ {j : Nat} {r : Int} {c : Mem} {s s1 s2 : Int} {c1 c2 : Mem}, oR w d l ex j r c s s1 c1 → oR w d l ex j r c s s2 c2 → s1 = s2 ∧ c1 = c2
  | 0, _, _, _, _, _, _, _, h, h' => ⟨h.1.trans h'.1.symm, h.2.trans h'.2.symm⟩
  | j + 1, r, c, s, s1, s2, c1, c2, ⟨a, b, h1, h2⟩, ⟨a', b', h1', h2'⟩ => by
    obtain ⟨rfl, rfl⟩ := oN_one h1 h1'
    exact oR_one h2 h2'
theorem k_or0 {v : Int} (h : inR v) : kor v 0 = v := bt_ext (k_in_kor _ _) h (fun k _ => by rw [bt_or, bt_zero, Bool.or_false])
theorem bit8 {n : Int} (hn : 0 ≤ n ∧ n < 8) : 0 ≤ kshl 1 n ∧ kshl 1 n < 256 := by
  have : ∀ i : Fin 8, 0 ≤ kshl 1 (i.val : Int) ∧ kshl 1 (i.val : Int) < 256 := by decide +kernel
  exact k_fin (P := fun k => 0 ≤ kshl 1 k ∧ kshl 1 k < 256) this hn.1 (by omega)
theorem kor8 {a b : Int} (ha : 0 ≤ a ∧ a < 256) (hb : 0 ≤ b ∧ b < 256) : 0 ≤ kor a b ∧ kor a b < 256 := kor_lt (n := 8) (by decide) (inR_small (by omega)) (inR_small (by omega)) ha hb
set_option maxRecDepth 100000 in
theorem c_X5_layInOrder (X : Xv) (m : Mem) {w d l : Int} (hB : Bd X w d l m) (hM : WS w d l m) (h31 : ∀ y, inC w d l y → m 31 y = 0) : kCall (eX X) 6 M_X5_layInOrder.1 [vR 37] m (fun r m' => ∃ s c', ordA w d l (m 31) m s c' ∧ (0 ≤ s ∧ s < 256) ∧ r = some (vI s) ∧ (∀ o, scr o → m' o = c' o) ∧ WS w d l c' ∧ ∀ o, o ≠ 17 → o ≠ 19 → c' o = m o) := by
  obtain ⟨hD, hN, hG⟩ := id hB
  have hc4 := okD_cells hD
  have hn324 : nC X ≤ 324 := by omega
  have h8 := hM.1.1.2.1
  refine kCall_ofT ok_X5_layInOrder rfl (Nat.le_of_ble_eq_true rfl) (fun T hT => ?_)
  obtain ⟨ex, hex⟩ : ∃ ex, m 31 = ex := ⟨_, rfl⟩
  rw [hex] at hT h31
  have nets : ∀ (k : Nat) (n r : Int) (c m' : Mem) (s : Int), n + k = m 9 14 → 0 ≤ n → (∀ o, scr o → m' o = c o) → WS w d l c → (∀ o, o ≠ 17 → o ≠ 19 → c o = m o) → (0 ≤ s ∧ s < 256) → (0 ≤ r ∧ r < 100) → (∀ (s1 : Int) (c1 m1 : Mem), oN w d l ex k n r c s s1 c1 → (∀ o, scr o → m1 o = c1 o) → WS w d l c1 → (∀ o, o ≠ 17 → o ≠ 19 → c1 o = m o) → (0 ≤ s1 ∧ s1 < 256) → ∀ y, kW (eX X) 5 M_X5_layInOrder T 4 [some (vR 37), some (vI s1), some (vI r), y] [] m1) → kW (eX X) 5 M_X5_layInOrder T 2 [some (vR 37), some (vI s), some (vI r), some (vI n)] [] m' := by
    intro k
    induction k with
    | zero =>
      intro n r c m' s hnk h0 hf hMc hcm hs hr hout
      have e9 : m' 9 = m 9 := by rw [hf 9 (by decide), hcm 9 (by decide) (by decide)]
      refine kW_go ok_X5_layInOrder [4] 20 ?_
      refine And.intro (fun _ => hout s c m' ⟨rfl, rfl⟩ hf hMc hcm hs _) (fun h => ?_)
      have h : n < m' 9 14 := h
      rw [e9] at h
      omega
    | succ k ih =>
      intro n r c m' s hnk h0 hf hMc hcm hs hr hout
      have e9 : m' 9 = m 9 := by rw [hf 9 (by decide), hcm 9 (by decide) (by decide)]
      have hn8 : 0 ≤ n ∧ n < 8 := by omega
      have hnb : 0 ≤ n ∧ n < ((8 : Nat) : Int) := hn8
      have e12 : m' 12 = c 12 := hf 12 (by decide)
      have e13 : m' 13 = c 13 := hf 13 (by decide)
      have hnext : ∀ (c1 m1 : Mem) (s1 : Int), (∀ o, scr o → m1 o = c1 o) → WS w d l c1 → (∀ o, o ≠ 17 → o ≠ 19 → c1 o = m o) → (0 ≤ s1 ∧ s1 < 256) → (∀ s2 c2, oN w d l ex k (n + 1) r c1 s1 s2 c2 → oN w d l ex (k + 1) n r c s s2 c2) → kW (eX X) 5 M_X5_layInOrder T 3 [some (vR 37), some (vI s1), some (vI r), some (vI n)] [] m1 := by
        intro c1 m1 s1 a1 a2 a3 a4 a5
        refine kW_go ok_X5_layInOrder [2] 20 ?_
        exact ⟨by constructor <;> omega, ih (n + 1) r c1 m1 s1 (by omega) (by omega) a1 a2 a3 a4 hr (fun s2 c2 m2 b1 b2 b3 b4 b5 y => hout s2 c2 m2 (a5 s2 c2 b1) b2 b3 b4 b5 y)⟩
      refine kW_go ok_X5_layInOrder [3, 4] 20 ?_
      refine And.intro (fun h => ?_) (fun _ => ⟨hnb, And.intro (fun h1 => ?_) (fun h1 => ⟨hnb, And.intro (fun h2 => ?_) (fun h2 => ?_)⟩)⟩)
      · have h : m' 9 14 ≤ n := h
        rw [e9] at h
        omega
      · refine hnext c m' s hf hMc hcm hs (fun s2 c2 h => Or.inl ⟨fun z => h1 ?_, h⟩)
        show m' 12 n = r
        rw [e12]; exact z.1
      · refine hnext c m' s hf hMc hcm hs (fun s2 c2 h => Or.inl ⟨fun z => ?_, h⟩)
        have h2 : m' 13 n ≤ 0 := h2
        rw [e13] at h2
        omega
      · have hcond : c 12 n = r ∧ 0 < c 13 n := ⟨by rw [← e12]; exact h1, by rw [← e13]; exact h2⟩
        have hEs : Es c m' := Es_of (fun o ho => hf o (by omega))
        have hM' : WS w d l m' := by
          refine ⟨?_, fun j hj => ?_⟩
          · have := hMc.1
            unfold WM WFs WFp WFn pinT at this ⊢
            rw [hf 9 (by decide), hf 10 (by decide), hf 11 (by decide), hf 12 (by decide), hf 13 (by decide), hf 14 (by decide), hf 16 (by decide), hf 17 (by decide), hf 18 (by decide), hf 19 (by decide)]
            exact this
          · have := hMc.2 j hj
            unfold SYn at this ⊢
            rw [hf 18 (by decide), hf 19 (by decide)]
            exact this
        have hB' : Bd X w d l m' := Bd_same hB (fun o a b => by rw [hf o (by omega), hcm o (by omega) (by omega)])
        have e31 : m' 31 = ex := by rw [hf 31 (by decide), hcm 31 (by decide) (by decide)]; exact hex
        refine kCall_mono (c_X7_layA X m' hB' hM' n (by rw [e9]; omega) (fun y hy => by rw [e31]; exact h31 y hy)) (Nat.le_of_ble_eq_true rfl) ?_
        rintro _ m2 ⟨res, c', hL, rfl, hf2⟩
        rw [e31] at hL
        obtain ⟨c1, hL1, hc1⟩ := layA_cong (c := c) (fun o a b => hf o (by omega)) hL
        obtain ⟨q1, q2, q3⟩ := layA_WS hD (by omega) hMc (by rw [hcm 9 (by decide) (by decide)]; omega) hL1
        have hf3 : ∀ o, scr o → m2 o = c1 o := fun o ho => by rw [hf2 o ho]; exact hc1 o (hf o ho)
        have hcm1 : ∀ o, o ≠ 17 → o ≠ 19 → c1 o = m o := fun o a b => by rw [q2.1 o a b]; exact hcm o a b
        have hans := ansR_ne q3
        refine And.intro (fun hne => ?_) (fun he => ?_)
        · have hne : ¬ ansR res = -1 := hne
          exact hnext c1 m2 s hf3 q1 hcm1 hs (fun s2 c2 h => Or.inr ⟨hcond, res, c1, hL1, by rw [if_neg (fun z => hne (hans.mpr z))]; exact h⟩)
        · have he : ansR res = -1 := he
          exact hnext c1 m2 _ hf3 q1 hcm1 (kor8 hs (bit8 hn8)) (fun s2 c2 h => Or.inr ⟨hcond, res, c1, hL1, by rw [if_pos (hans.mp he)]; exact h⟩)
  have ranks : ∀ (k : Nat) (r : Int) (c m' : Mem) (s : Int) (y : Option AV), r + k = 100 → 0 ≤ r → (∀ o, scr o → m' o = c o) → WS w d l c → (∀ o, o ≠ 17 → o ≠ 19 → c o = m o) → (0 ≤ s ∧ s < 256) → (∀ s2 c2, oR w d l ex k r c s s2 c2 → ordA w d l ex m s2 c2) → kW (eX X) 5 M_X5_layInOrder T 1 [some (vR 37), some (vI s), some (vI r), y] [] m' := by
    intro k
    induction k with
    | zero =>
      intro r c m' s y hrk h0 hf hMc hcm hs hres
      refine kW_go ok_X5_layInOrder [2] 20 ?_
      exact And.intro (fun _ => hT _ _ ⟨s, c, hres s c ⟨rfl, rfl⟩, hs, rfl, hf, hMc, hcm⟩) (fun h => absurd h (by omega))
    | succ k ih =>
      intro r c m' s y hrk h0 hf hMc hcm hs hres
      refine kW_go ok_X5_layInOrder [2] 20 ?_
      refine And.intro (fun h => absurd h (by omega)) (fun _ => ?_)
      refine nets (m 9 14).toNat 0 r c m' s (by omega) (by omega) hf hMc hcm hs (by omega) (fun s1 c1 m1 hN1 b2 b3 b4 b5 y1 => ?_)
      refine kW_go ok_X5_layInOrder [1] 20 ?_
      refine ⟨by constructor <;> omega, ih (r + 1) c1 m1 s1 y1 (by omega) (by omega) b2 b3 b4 b5 (fun s2 c2 h => hres s2 c2 ⟨s1, c1, ?_, h⟩)⟩
      rw [hcm 9 (by decide) (by decide)]
      exact hN1
  refine kW_go ok_X5_layInOrder [1] 20 ?_
  refine kCall_mono (c_X3_removeAllTraces X m hn324) (Nat.le_of_ble_eq_true rfl) ?_
  rintro _ m1 ⟨rfl, hm1⟩
  have e1 : m1 = rmA (w * d * l) m := by
    rw [hm1]
    unfold rmA
    rw [hN, Int.natCast_mul]
    rfl
  rw [e1]
  exact ranks 100 0 (rmA (w * d * l) m) _ 0 none (by omega) (by omega) (fun _ _ => rfl) (WS_rmA hM) (fun o a b => rmA_ne a b) (by omega) (fun _ _ h => h)
/-- what many layings change in the reference -/
def rfr (m m' : Mem) : Prop := (∀ o, o < 54 ∨ (55 ≤ o ∧ o ≤ 67) ∨ o = 71 ∨ (75 ≤ o ∧ o ≤ 77) ∨ 82 ≤ o → m' o = m o) ∧ ∀ i : Int, i ≠ 28 → i ≠ 29 → i ≠ 30 → i ≠ 33 → i ≠ 41 → m' 54 i = m 54 i
theorem rfr_rf {m : Mem} : rfr m m := ⟨fun _ _ => rfl, fun _ _ _ _ _ _ => rfl⟩
theorem rfr_tr {a b c : Mem} (h : rfr a b) (h' : rfr b c) : rfr a c := ⟨fun o ho => (h'.1 o ho).trans (h.1 o ho), fun i p q r s t => (h'.2 i p q r s t).trans (h.2 i p q r s t)⟩
theorem rfr_rsm {n : Int} {m m' : Mem} (h : rsm n m m') : rfr m m' := by
  refine ⟨fun o ho => ?_, fun i _ _ _ h33 _ => h.2.2.1 i h33⟩
  by_cases h54 : o < 54
  · exact h.2.1 o h54
  · exact h.1 o (by omega) (by omega) (by omega) (by omega) (by omega) (by omega) (by omega) (by omega) (by omega) (by omega) (by omega)
theorem plain_Rst {m m' : Mem} (hp : (∀ o, o ≠ 54 → o ≠ 81 → m' o = m o) ∧ (∀ i : Int, i ≠ 28 → i ≠ 30 → i ≠ 41 → m' 54 i = m 54 i) ∧ m' 54 41 = 1 ∧ m' 54 28 = 0 ∧ m' 54 30 = 0 ∧ ∀ j : Int, (0 ≤ j ∧ j < 324) → m' 81 j = 0) : Rst m' ∧ rfr m m' := ⟨⟨hp.2.2.2.1, hp.2.2.2.2.1, hp.2.2.1, hp.2.2.2.2.2⟩, fun o ho => hp.1 o (by omega) (by omega), fun i a _ b _ e => hp.2.1 i a b e⟩
set_option maxRecDepth 100000 in
theorem c_X12_order (X : Xv) (c m : Mem) {w d l : Int} {ex : Int → Int} (hD : okD w d l) (hM : WM w d l c) (hR : RR w d l c m) (hex : ∀ y, inC w d l y → ex y = 0) : kCall (eX X) 9 M_X12_order.1 [vR 54] m (fun r m' => ∃ s c', ordA w d l ex c s c' ∧ r = some (vI s) ∧ RR w d l c' m' ∧ WM w d l c' ∧ (∀ o, o ≠ 17 → o ≠ 19 → c' o = c o) ∧ rfr m m' ∧ Rst m') := by
  have h8 := hM.1.2.1
  refine kCall_ofT ok_X12_order rfl (Nat.le_of_ble_eq_true rfl) (fun T hT => ?_)
  have nets : ∀ (k : Nat) (n r : Int) (c0 m' : Mem) (s : Int), n + k = c 9 14 → 0 ≤ n → RR0 w d l c0 m' → WM w d l c0 → (∀ o, o ≠ 17 → o ≠ 19 → c0 o = c o) → Rst m' → rfr m m' → (0 ≤ s ∧ s < 256) → (0 ≤ r ∧ r < 100) → (∀ (s1 : Int) (c1 m1 : Mem), oN w d l ex k n r c0 s s1 c1 → RR0 w d l c1 m1 → WM w d l c1 → (∀ o, o ≠ 17 → o ≠ 19 → c1 o = c o) → Rst m1 → rfr m m1 → (0 ≤ s1 ∧ s1 < 256) → ∀ y, kW (eX X) 8 M_X12_order T 5 [some (vR 54), some (vI s1), some (vI r), y] [] m1) → kW (eX X) 8 M_X12_order T 2 [some (vR 54), some (vI s), some (vI r), some (vI n)] [] m' := by
    intro k
    induction k with
    | zero =>
      intro n r c0 m' s hnk h0 hR0 hM0 hc0 hS0 hf0 hs hr hout
      have e26 : m' 54 26 = c 9 14 := by rw [hR0.1.2.2.2.1.1, hc0 9 (by decide) (by decide)]
      refine kW_go ok_X12_order [5] 20 ?_
      refine And.intro (fun _ => hout s c0 m' ⟨rfl, rfl⟩ hR0 hM0 hc0 hS0 hf0 hs _) (fun h => ?_)
      have h : n < m' 54 26 := h
      omega
    | succ k ih =>
      intro n r c0 m' s hnk h0 hR0 hM0 hc0 hS0 hf0 hs hr hout
      have e26 : m' 54 26 = c 9 14 := by rw [hR0.1.2.2.2.1.1, hc0 9 (by decide) (by decide)]
      have hn8 : 0 ≤ n ∧ n < 8 := by omega
      have hnb : 0 ≤ n ∧ n < ((8 : Nat) : Int) := hn8
      obtain ⟨e62, e63, -⟩ := hR0.1.2.2.2.2.1 n hn8
      have hnext : ∀ (c1 m1 : Mem) (v : Int), RR0 w d l c1 m1 → WM w d l c1 → (∀ o, o ≠ 17 → o ≠ 19 → c1 o = c o) → Rst m1 → rfr m m1 → (0 ≤ kor s v ∧ kor s v < 256) → (∀ s2 c2, oN w d l ex k (n + 1) r c1 (kor s v) s2 c2 → oN w d l ex (k + 1) n r c0 s s2 c2) → kW (eX X) 8 M_X12_order T 4 [some (vR 54), some (vI s), some (vI r), some (vI n)] [vI v, vI s] m1 := by
        intro c1 m1 v a1 a2 a3 a4 a5 a6 a7
        refine kW_go ok_X12_order [2] 20 ?_
        exact ⟨by constructor <;> omega, ih (n + 1) r c1 m1 (kor s v) (by omega) (by omega) a1 a2 a3 a4 a5 a6 hr (fun s2 c2 m2 b1 b2 b3 b4 b5 b6 b7 y => hout s2 c2 m2 (a7 s2 c2 b1) b2 b3 b4 b5 b6 b7 y)⟩
      have hs0 : kor s 0 = s := k_or0 (inR_small (by omega))
      have hskip : ∀ (c1 m1 : Mem), RR0 w d l c1 m1 → WM w d l c1 → (∀ o, o ≠ 17 → o ≠ 19 → c1 o = c o) → Rst m1 → rfr m m1 → (∀ s2 c2, oN w d l ex k (n + 1) r c1 s s2 c2 → oN w d l ex (k + 1) n r c0 s s2 c2) → kW (eX X) 8 M_X12_order T 3 [some (vR 54), some (vI s), some (vI r), some (vI n)] [vI s] m1 := by
        intro c1 m1 a1 a2 a3 a4 a5 a7
        refine kW_go ok_X12_order [4] 20 ?_
        exact hnext c1 m1 0 a1 a2 a3 a4 a5 (by rw [hs0]; exact hs) (fun s2 c2 h => a7 s2 c2 (by rw [hs0] at h; exact h))
      refine kW_go ok_X12_order [3, 4, 5] 20 ?_
      refine And.intro (fun h => ?_) (fun _ => ⟨hnb, And.intro (fun h1 => ?_) (fun h1 => ⟨hnb, And.intro (fun h2 => ?_) (fun h2 => ?_)⟩)⟩)
      · have h : m' 54 26 ≤ n := h
        omega
      · refine hskip c0 m' hR0 hM0 hc0 hS0 hf0 (fun s2 c2 h => Or.inl ⟨fun z => h1 ?_, h⟩)
        show m' 62 n = r
        rw [e62]; exact z.1
      · refine hskip c0 m' hR0 hM0 hc0 hS0 hf0 (fun s2 c2 h => Or.inl ⟨fun z => ?_, h⟩)
        have h2 : m' 63 n ≤ 0 := h2
        omega
      · have hcond : c0 12 n = r ∧ 0 < c0 13 n := ⟨by rw [← e62]; exact h1, by rw [← e63]; exact h2⟩
        refine kCall_mono (c_X12_layA X c0 m' (ex := ex) hD hM0 hR0 (by rw [hc0 9 (by decide) (by decide)]; omega) hS0 hex) (Nat.le_of_ble_eq_true rfl) ?_
        rintro _ m2 ⟨res, c1, hL, rfl, hR2, hM2, ht2, hr2⟩
        have hge : ∀ z, res = some z → 0 ≤ z := by
          rcases hL with ⟨-, e, -⟩ | ⟨hp, c2, h1, -⟩
          · intro z hz; rw [e] at hz; cases hz
          · have a := hM0.1.2.2.2.1 n (by rw [hc0 9 (by decide) (by decide)]; omega)
            obtain ⟨b1, b2, b3, -⟩ := hM0.1.2.2.1 (c0 11 n) a
            exact LRw_ge (fun k y => by unfold cs0 csF; split <;> omega) b3.1 (Int.le_refl 0) h1
        have hans := ansR_ne hge
        have hc1 : ∀ o, o ≠ 17 → o ≠ 19 → c1 o = c o := fun o a b => by rw [ht2.1 o a b]; exact hc0 o a b
        refine And.intro (fun hne => ?_) (fun he => ?_)
        · have hne : ¬ ansR res = -1 := hne
          exact hskip c1 m2 hR2 hM2 hc1 (Rst_rsm hS0 hr2) (rfr_tr hf0 (rfr_rsm hr2)) (fun s2 c2 h => Or.inr ⟨hcond, res, c1, hL, by rw [if_neg (fun z => hne (hans.mpr z))]; exact h⟩)
        · have he : ansR res = -1 := he
          exact hnext c1 m2 (kshl 1 n) hR2 hM2 hc1 (Rst_rsm hS0 hr2) (rfr_tr hf0 (rfr_rsm hr2)) (kor8 hs (bit8 hn8)) (fun s2 c2 h => Or.inr ⟨hcond, res, c1, hL, by rw [if_pos (hans.mp he)]; exact h⟩)
  have ranks : ∀ (k : Nat) (r : Int) (c0 m' : Mem) (s : Int) (y : Option AV), r + k = 100 → 0 ≤ r → RR0 w d l c0 m' → WM w d l c0 → (∀ o, o ≠ 17 → o ≠ 19 → c0 o = c o) → Rst m' → rfr m m' → (0 ≤ s ∧ s < 256) → (∀ s2 c2, oR w d l ex k r c0 s s2 c2 → ordA w d l ex c s2 c2) → kW (eX X) 8 M_X12_order T 1 [some (vR 54), some (vI s), some (vI r), y] [] m' := by
    intro k
    induction k with
    | zero =>
      intro r c0 m' s y hrk h0 hR0 hM0 hc0 hS0 hf0 hs hres
      refine kW_go ok_X12_order [2] 20 ?_
      exact And.intro (fun _ => hT _ _ ⟨s, c0, hres s c0 ⟨rfl, rfl⟩, rfl, ⟨hR0.1, hR0.2, hS0.1, hS0.2.1⟩, hM0, hc0, hf0, hS0⟩) (fun h => absurd h (by omega))
    | succ k ih =>
      intro r c0 m' s y hrk h0 hR0 hM0 hc0 hS0 hf0 hs hres
      refine kW_go ok_X12_order [2] 20 ?_
      refine And.intro (fun h => absurd h (by omega)) (fun _ => ?_)
      refine nets (c 9 14).toNat 0 r c0 m' s (by omega) (by omega) hR0 hM0 hc0 hS0 hf0 hs (by omega) (fun s1 c1 m1 hN1 b2 b3 b4 b5 b6 b7 y1 => ?_)
      refine kW_go ok_X12_order [1] 20 ?_
      refine ⟨by constructor <;> omega, ih (r + 1) c1 m1 s1 y1 (by omega) (by omega) b2 b3 b4 b5 b6 b7 (fun s2 c2 h => hres s2 c2 ⟨s1, c1, ?_, h⟩)⟩
      rw [hc0 9 (by decide) (by decide)]
      exact hN1
  refine kW_go ok_X12_order [1] 20 ?_
  refine kCall_mono (c_X12_plainly X m 1 (Or.inr rfl)) (Nat.le_of_ble_eq_true rfl) ?_
  rintro _ m1 ⟨rfl, hp⟩
  have hR1 := plain_R hR hp
  obtain ⟨hS1, hf1⟩ := plain_Rst hp
  refine kCall_mono (c_X12_ripAll X c m1 hD hM (RR_0 hR1)) (Nat.le_of_ble_eq_true rfl) ?_
  rintro _ m2 ⟨rfl, hR2, hf2⟩
  have hMr : WM w d l (rmA (w * d * l) c) := by
    obtain ⟨h1, h2, h3, h4⟩ := hM
    have hc : ∀ o, o ≠ 17 → o ≠ 19 → rmA (w * d * l) c o = c o := fun o a b => rmA_ne a b
    refine ⟨WFs_c hc h1, WFp_c hc h2, fun n hn => ?_, fun x hx => ⟨by rw [hc 16 (by decide) (by decide)]; exact (h4 x hx).1, by rw [rmA_17 hx]; decide⟩⟩
    obtain ⟨w1, w2⟩ := h3 n hn
    unfold WFn pinT
    rw [hc 9 (by decide) (by decide), hc 13 (by decide) (by decide), hc 14 (by decide) (by decide), hc 16 (by decide) (by decide), hc 18 (by decide) (by decide)]
    refine ⟨fun x hx => ?_, fun hcc x hx => ⟨(w2 hcc x hx).1, rmA_19 hn hx⟩⟩
    obtain ⟨⟨z1, z2⟩, z3, z4, z5⟩ := w1 x hx
    rw [rmA_19 hn hx, rmA_17 hx]
    exact ⟨⟨z1, by decide⟩, fun k hk hkn => ⟨(z3 k hk hkn).1, bt_zero _⟩, by rw [bt_zero]; exact ⟨fun z => (by cases z), fun z => absurd rfl z⟩, z5⟩
  exact ranks 100 0 (rmA (w * d * l) c) m2 0 none (by omega) (by omega) hR2 hMr (fun o a b => rmA_ne a b) ⟨by rw [hf2 54 (by decide) (by decide)]; exact hS1.1, by rw [hf2 54 (by decide) (by decide)]; exact hS1.2.1, by rw [hf2 54 (by decide) (by decide)]; exact hS1.2.2.1, fun j hj => by rw [hf2 81 (by decide) (by decide)]; exact hS1.2.2.2 j hj⟩ (rfr_tr hf1 ⟨fun o ho => hf2 o (by omega) (by omega), fun i _ _ _ _ _ => by rw [hf2 54 (by decide) (by decide)]⟩) (by omega) (fun _ _ h => h)
theorem pair_order (X : Xv) (m : Mem) {w d l : Int} (hI : Inv X w d l m) : kPair X 146 242 [] m (Inv X w d l) := by
  obtain ⟨hB, hl, hW, hR, h60, h31⟩ := id hI
  have hD := hB.1
  refine kp2 (k1 := 8) (k2 := 10) (by decide) (by decide) ?_
  refine kCall_ofT ok_X11_order rfl (Nat.le_of_ble_eq_true rfl) (fun T hT => ?_)
  refine kW_go ok_X11_order [] 20 ?_
  refine kCall_mono (c_X5_layInOrder X m hB (Inv_WS hI) h31) (Nat.le_of_ble_eq_true rfl) ?_
  rintro _ m1 ⟨s, c', hO, hs, rfl, hf, hWS, hc⟩
  have h54 : ∀ o, 54 ≤ o → m1 o = m o := fun o ho => by rw [hf o (by omega), hc o (by omega) (by omega)]
  refine hT _ _ ⟨s, rfl, ?_⟩
  refine kCall_mono (c_X12_order X m m1 (ex := m 31) hD (WF_WM hW) (RR_ref (fun o h1 _ => h54 o h1) hR) h31) (Nat.le_of_ble_eq_true rfl) ?_
  rintro _ m2 ⟨s2, c2, hO2, rfl, hR2, hM2, hc2, hf2, -⟩
  obtain ⟨rfl, rfl⟩ := oR_one hO hO2
  exact ⟨rfl, inv_mk hI (fun o a b => by rw [hf o (by omega), hc o (by omega) (by omega)]) (Es_of (fun o ho => hf o (by omega))) (WF_of_WM hW hM2 hc2) (by rw [hf 6 (by decide), hc 6 (by decide) (by decide)]) (by rw [hf 31 (by decide), hc 31 (by decide) (by decide)]) (fun o ho => hf2.1 o (by omega)) hR2⟩
