/-! PRESS: crowded cells and the rounds of the class -/
set_option maxRecDepth 100000 in
theorem c_X5_warmCrowded (X : Xv) (c m : Mem) {w d l : Int} {ht : Int → Int} (hB : Bd X w d l m) (hE : Ea c m) (hM : WM w d l c) (hht : ∀ x, inC w d l x → m 38 x = ht x ∧ 0 ≤ ht x ∧ ht x ≤ 100) : kCall (eX X) 4 M_X5_warmCrowded.1 [vR 37] m (fun r m' => ∃ v, r = some (vI v) ∧ (v ≠ 0 ↔ ∃ x, inC w d l x ∧ crP w d l c x) ∧ (∀ x, inC w d l x → m' 38 x = ht x + iv (crP w d l c x) 1) ∧ ∀ o, o < 22 ∨ (26 < o ∧ o ≠ 38 ∧ o ≠ 39) → m' o = m o) := by
  obtain ⟨hD, hN, hG⟩ := id hB
  have hc4 := okD_cells hD
  have h8 := hM.1.2.1
  have hWm : srt m := by
    have hs := WFs_srt hM.1
    unfold srt at hs ⊢
    rw [hE 9 (by decide) (by decide), hE 10 (by decide) (by decide), hE 11 (by decide) (by decide)]
    exact hs
  refine kCall_ofT ok_X5_warmCrowded rfl (Nat.le_of_ble_eq_true rfl) (fun T hT => ?_)
  obtain ⟨D, hDd⟩ : ∃ D : Int → Int → Prop, ∀ n x, D n x ↔ (bt (c 17 x) n.toNat = true ∧ ∃ o' : Int, (0 ≤ o' ∧ o' < c 9 14) ∧ trN w d l c n x o') := ⟨_, fun _ _ => Iff.rfl⟩
  obtain ⟨B, hBd⟩ : ∃ B : Int → Int → Prop, ∀ n x, B n x ↔ ∃ o : Int, (0 ≤ o ∧ o < n) ∧ D o x := ⟨_, fun _ _ => Iff.rfl⟩
  have hBs : ∀ n x, 0 ≤ n → (B (n + 1) x ↔ B n x ∨ D n x) := by
    intro n x h0
    rw [hBd, hBd]
    constructor
    · rintro ⟨o, ho, h⟩
      by_cases e : o = n
      · rw [e] at h; exact Or.inr h
      · exact Or.inl ⟨o, by omega, h⟩
    · rintro (⟨o, ho, h⟩ | h)
      · exact ⟨o, by omega, h⟩
      · exact ⟨n, by omega, h⟩
  have hcr : ∀ x, B (c 9 14) x ↔ crP w d l c x := by
    intro x
    rw [hBd]
    unfold crP
    exact ⟨fun ⟨o, ho, h⟩ => ⟨o, ho, (hDd o x).mp h⟩, fun ⟨o, ho, h⟩ => ⟨o, ho, (hDd o x).mpr h⟩⟩
  have heat : ∀ (q : Nat) (i v : Int) (mm : Mem) (x3 : Option AV), i + q = (nC X : Int) → 0 ≤ i → (v = 0 ∨ v = 1) → (v ≠ 0 ↔ ∃ x, inC w d l x ∧ B (c 9 14) x) → (∀ x, inC w d l x → mm 39 x = iv (B (c 9 14) x) 1) → (∀ x, inC w d l x → mm 38 x = ht x + (if x < i then iv (B (c 9 14) x) 1 else 0)) → (∀ o, o < 22 ∨ (26 < o ∧ o ≠ 38 ∧ o ≠ 39) → mm o = m o) → kW (eX X) 3 M_X5_warmCrowded T 6 [some (vR 37), some (vI v), some (vI i), x3] [] mm := by
    intro q
    induction q with
    | zero =>
      intro i v mm x3 hq h0 hv hvi h39 h38 hf
      have g4 : mm 1 4 = (nC X : Int) := by rw [hf 1 (by omega), hG.2.2.2.2.1, hN]
      refine kW_go ok_X5_warmCrowded [6] 20 ?_
      refine And.intro (fun _ => hT _ _ ⟨?_, v, rfl, ?_, fun x hx => ?_, hf⟩) (fun h => ?_)
      · rcases hv with rfl | rfl
        · exact Or.inl rfl
        · exact Or.inr rfl
      · rw [hvi]
        exact ⟨fun ⟨x, a, b⟩ => ⟨x, a, (hcr x).mp b⟩, fun ⟨x, a, b⟩ => ⟨x, a, (hcr x).mpr b⟩⟩
      · rw [h38 x hx, if_pos (by have := hx.2; omega), iv_cong (hcr x)]
      · have h : i < mm 1 4 := h
        omega
    | succ q ih =>
      intro i v mm x3 hq h0 hv hvi h39 h38 hf
      have hib : 0 ≤ i ∧ i < (nC X : Int) := by omega
      have hix : inC w d l i := ⟨h0, by omega⟩
      have g4 : mm 1 4 = (nC X : Int) := by rw [hf 1 (by omega), hG.2.2.2.2.1, hN]
      have a38 := h38 i hix
      rw [if_neg (by omega), Int.add_zero] at a38
      have a39 := h39 i hix
      have hb1 : 0 ≤ iv (B (c 9 14) i) 1 ∧ iv (B (c 9 14) i) 1 ≤ 1 := iv_in ⟨by decide, by decide⟩
      have hh := (hht i hix).2
      refine kW_go ok_X5_warmCrowded [6] 20 ?_
      refine And.intro (fun h => ?_) (fun _ => ⟨hib, hib, by constructor <;> omega, hib, by constructor <;> omega, ih (i + 1) v _ _ (by omega) (by omega) hv hvi (fun x hx => by rw [k_mset_ne (by decide)]; exact h39 x hx) (fun x hx => ?_) (fun o ho => by rw [k_mset_ne (by omega)]; exact hf o ho)⟩)
      · have h : mm 1 4 ≤ i := h
        omega
      · rw [k_mset_at]
        by_cases e : x = i
        · rw [if_pos e, e, if_pos (by omega), a38, a39]
        · rw [if_neg e, h38 x hx]
          by_cases h2 : x < i
          · rw [if_pos h2, if_pos (by omega)]
          · rw [if_neg h2, if_neg (by omega)]
  have nets : ∀ (k : Nat) (n v : Int) (mm : Mem) (x3 : Option AV), n + k = c 9 14 → 0 ≤ n → (v = 0 ∨ v = 1) → (v ≠ 0 ↔ ∃ x, inC w d l x ∧ B n x) → (∀ x, inC w d l x → mm 39 x = iv (B n x) 1) → (∀ o, o < 22 ∨ (26 < o ∧ o ≠ 39) → mm o = m o) → kW (eX X) 3 M_X5_warmCrowded T 1 [some (vR 37), some (vI v), some (vI n), x3] [] mm := by
    intro k
    induction k with
    | zero =>
      intro n v mm x3 hk h0 hv hvi h39 hf
      have hn : n = c 9 14 := by omega
      have e9 : mm 9 = c 9 := by rw [hf 9 (by omega)]; exact hE 9 (by decide) (by decide)
      rw [hn] at hvi h39
      refine kW_go ok_X5_warmCrowded [6] 20 ?_
      refine And.intro (fun _ => heat (nC X) 0 v mm x3 (by omega) (by omega) hv hvi h39 (fun x hx => ?_) (fun o ho => hf o (by omega))) (fun h => ?_)
      · rw [if_neg (by have := hx.1; omega), Int.add_zero, hf 38 (by omega)]
        exact (hht x hx).1
      · have h : n < mm 9 14 := h
        rw [e9] at h
        omega
    | succ k ih =>
      intro n v mm x3 hk h0 hv hvi h39 hf
      have e9 : mm 9 = c 9 := by rw [hf 9 (by omega)]; exact hE 9 (by decide) (by decide)
      have hn8 : 0 ≤ n ∧ n < 8 := by omega
      have hB1 : Bd X w d l mm := Bd_same hB (fun o a b => hf o (by omega))
      have hnn1 : 0 ≤ n ∧ n < mm 9 14 := by rw [e9]; omega
      have hs1 : srt mm := by
        unfold srt at hWm ⊢
        rw [hf 9 (by omega), hf 10 (by omega), hf 11 (by omega)]
        exact hWm
      refine kW_go ok_X5_warmCrowded [2, 6] 20 ?_
      refine And.intro (fun h => ?_) (fun _ => ?_)
      · have h : mm 9 14 ≤ n := h
        omega
      refine kCall_mono (kCall_in (c_X6_look X mm hD hN hB1.2.2 hs1 n 0 hnn1)) (Nat.le_of_ble_eq_true rfl) ?_
      rintro _ m2 ⟨⟨rfl, hf2, h22, h26, hb2⟩, hin2⟩
      have hf2' : ∀ o, o < 22 ∨ 26 < o → m2 o = mm o := fun o ho => hf2 o (by omega) (by omega) (by omega) (by omega) (by omega)
      have e17 : mm 17 = c 17 := by rw [hf 17 (by omega)]; exact hE 17 (by decide) (by decide)
      have hso : ∀ x, inC w d l x → (m2 25 x ≠ 0 ↔ ∃ o' : Int, (0 ≤ o' ∧ o' < c 9 14) ∧ trN w d l c n x o') := by
        intro x hx
        exact (soft_nrs (c := c) (m1 := mm) (v := m2 25 x) hN h8 (hin2 25 x) e9 (by rw [hf 10 (by omega)]; exact hE 10 (by decide) (by decide)) (by rw [hf 11 (by omega)]; exact hE 11 (by decide) (by decide)) (fun y o hy ho => by rw [e17]) (fun o => (hb2 x hx o).2)).2.2
      have cells : ∀ (q : Nat) (i v : Int) (m3 : Mem), i + q = (nC X : Int) → 0 ≤ i → (v = 0 ∨ v = 1) → (v ≠ 0 ↔ ∃ x, inC w d l x ∧ (B n x ∨ (x < i ∧ D n x))) → (∀ x, inC w d l x → m3 39 x = iv (B n x ∨ (x < i ∧ D n x)) 1) → (∀ o, o ≠ 39 → m3 o = m2 o) → kW (eX X) 3 M_X5_warmCrowded T 2 [some (vR 37), some (vI v), some (vI n), some (vI i)] [] m3 := by
        intro q
        induction q with
        | zero =>
          intro i v m3 hq hi0 hv hvi h39 hf3
          have hi : i = (nC X : Int) := by omega
          have g4 : m3 1 4 = (nC X : Int) := by rw [hf3 1 (by decide), hf2' 1 (by omega), hf 1 (by omega), hG.2.2.2.2.1, hN]
          have hBx : ∀ x, inC w d l x → ((B n x ∨ (x < i ∧ D n x)) ↔ B (n + 1) x) := fun x hx => by
            rw [hBs n x h0]
            exact ⟨fun z => z.elim Or.inl (fun z => Or.inr z.2), fun z => z.elim Or.inl (fun z => Or.inr ⟨by have := hx.2; omega, z⟩)⟩
          refine kW_go ok_X5_warmCrowded [1] 20 ?_
          refine And.intro (fun _ => ⟨by constructor <;> omega, ih (n + 1) v m3 _ (by omega) (by omega) hv ?_ (fun x hx => by rw [h39 x hx, iv_cong (hBx x hx)]) (fun o ho => by rw [hf3 o (by omega), hf2' o (by omega)]; exact hf o ho)⟩) (fun h => ?_)
          · rw [hvi]
            exact ⟨fun ⟨x, a, b⟩ => ⟨x, a, (hBx x a).mp b⟩, fun ⟨x, a, b⟩ => ⟨x, a, (hBx x a).mpr b⟩⟩
          · have h : i < m3 1 4 := h
            omega
        | succ q ihq =>
          intro i v m3 hq hi0 hv hvi h39 hf3
          have hib : 0 ≤ i ∧ i < (nC X : Int) := by omega
          have hix : inC w d l i := ⟨hi0, by omega⟩
          have g4 : m3 1 4 = (nC X : Int) := by rw [hf3 1 (by decide), hf2' 1 (by omega), hf 1 (by omega), hG.2.2.2.2.1, hN]
          have e17' : m3 17 = c 17 := by rw [hf3 17 (by decide), hf2' 17 (by omega), e17]
          have e25 : m3 25 = m2 25 := hf3 25 (by decide)
          have hno : ¬ D n i → inR (i + 1) ∧ kW (eX X) 3 M_X5_warmCrowded T 2 [some (vR 37), some (vI v), some (vI n), some (vI (i + 1))] [] m3 := by
            intro hnd
            have hx : ∀ x, (B n x ∨ (x < i ∧ D n x)) ↔ (B n x ∨ (x < i + 1 ∧ D n x)) := fun x => ⟨fun z => z.elim Or.inl (fun z => Or.inr ⟨by omega, z.2⟩), fun z => z.elim Or.inl (fun z => by
              by_cases e : x = i
              · rw [e] at z; exact absurd z.2 hnd
              · exact Or.inr ⟨by omega, z.2⟩)⟩
            refine ⟨by constructor <;> omega, ihq (i + 1) v m3 (by omega) (by omega) hv ?_ (fun x hxi => by rw [h39 x hxi, iv_cong (hx x)]) hf3⟩
            rw [hvi]
            exact ⟨fun ⟨x, a, b⟩ => ⟨x, a, (hx x).mp b⟩, fun ⟨x, a, b⟩ => ⟨x, a, (hx x).mpr b⟩⟩
          refine kW_go ok_X5_warmCrowded [2] 20 ?_
          refine And.intro (fun h => ?_) (fun _ => ⟨hib, And.intro (fun h => hno (fun z => ?_)) (fun h => ⟨hib, And.intro (fun h2 => hno (fun z => ?_)) (fun h2 => ⟨hib, by constructor <;> omega, ?_⟩)⟩)⟩)
          · have h : m3 1 4 ≤ i := h
            omega
          · have h := (k_ask0 h0 (by omega)).mp h
            have z := ((hDd n i).mp z).1
            rw [e17'] at h
            rw [h] at z
            cases z
          · have h2 : m3 25 i = 0 := h2
            rw [e25] at h2
            exact (hso i hix).mpr ((hDd n i).mp z).2 h2
          · have hd : D n i := (hDd n i).mpr ⟨?_, (hso i hix).mp (by rw [← e25]; exact h2)⟩
            · have hx : ∀ x, (B n x ∨ (x < i + 1 ∧ D n x)) ↔ (x = i ∨ (B n x ∨ (x < i ∧ D n x))) := fun x => by
                by_cases e : x = i
                · rw [e]
                  exact ⟨fun _ => Or.inl rfl, fun _ => Or.inr ⟨by omega, hd⟩⟩
                · exact ⟨fun z => Or.inr (z.elim Or.inl (fun z => Or.inr ⟨by omega, z.2⟩)), fun z => z.elim (fun z => absurd z e) (fun z => z.elim Or.inl (fun z => Or.inr ⟨by omega, z.2⟩))⟩
              refine ihq (i + 1) 1 _ (by omega) (by omega) (Or.inr rfl) ⟨fun _ => ⟨i, hix, (hx i).mpr (Or.inl rfl)⟩, fun _ => by decide⟩ (fun x hxi => ?_) (fun o ho => by rw [k_mset_ne ho]; exact hf3 o ho)
              rw [k_mset_at]
              by_cases e : x = i
              · rw [if_pos e, iv_t ((hx x).mpr (Or.inl e))]
              · rw [if_neg e, h39 x hxi]
                exact iv_cong ⟨fun z => (hx x).mpr (Or.inr z), fun z => ((hx x).mp z).resolve_left e⟩
            · rw [← e17']
              cases hbt : bt (m3 17 i) n.toNat with
              | true => rfl
              | false => exact absurd ((k_ask0 h0 (by omega)).mpr hbt) h
      have hgo := cells (nC X) 0 v m2 (by omega) (by omega) hv (by
        rw [hvi]
        exact ⟨fun ⟨x, a, b⟩ => ⟨x, a, Or.inl b⟩, fun ⟨x, a, b⟩ => ⟨x, a, b.elim id (fun z => absurd z.1 (by have := a.1; omega))⟩⟩) (fun x hx => by
        rw [hf2' 39 (by omega), h39 x hx]
        exact iv_cong ⟨Or.inl, fun b => b.elim id (fun z => absurd z.1 (by have := hx.1; omega))⟩) (fun _ _ => rfl)
      exact hgo
  refine kW_go ok_X5_warmCrowded [1] 20 ?_
  refine kCall_mono (c_fill (eX X) m 39 (nC X) 0 (by decide) rfl (by omega)) (Nat.le_of_ble_eq_true rfl) ?_
  rintro _ m2 ⟨rfl, rfl⟩
  have hno : ∀ x, ¬ B 0 x := fun x z => by
    obtain ⟨o, ho, -⟩ := (hBd 0 x).mp z
    omega
  exact nets (c 9 14).toNat 0 0 _ none (by omega) (by omega) (Or.inl rfl) ⟨fun z => absurd rfl z, fun ⟨x, _, b⟩ => absurd b (hno x)⟩ (fun x hx => by rw [mfill_at, if_pos ⟨hx.1, by have := hx.2; omega⟩, iv_f (hno x)]) (fun o ho => mfill_ne (by omega))
/-- what pressing leaves in the class -/
abbrev keep6 (o : Nat) : Prop := o < 17 ∨ o = 18 ∨ o = 20 ∨ o = 21 ∨ o = 31 ∨ (36 < o ∧ o ≠ 38 ∧ o ≠ 39)
set_option maxRecDepth 100000 in
theorem c_X5_pressAll (X : Xv) (m : Mem) {w d l : Int} (hB : Bd X w d l m) (hM : WS w d l m) (h31 : ∀ y, inC w d l y → m 31 y = 0) (R pr : Int) (hR : 1 ≤ R ∧ R ≤ 20) (hpr : 1 ≤ pr ∧ pr ≤ 20) : kCall (eX X) 6 M_X5_pressAll.1 [vR 37, vI R, vI pr] m (fun r m' => ∃ res c1, prA w d l pr R.toNat 1 (fun _ => 0) (rmA (w * d * l) m) res c1 ∧ r = some (vI (ansR res)) ∧ (res ≠ none → Ea c1 m' ∧ WS w d l c1 ∧ ∀ o, o ≠ 17 → o ≠ 19 → c1 o = m o) ∧ (∀ t, res = some t → 1 ≤ t) ∧ ∀ o, keep6 o → m' o = m o) := by
  obtain ⟨hD, hN, hG⟩ := id hB
  have hc4 := okD_cells hD
  refine kCall_ofT ok_X5_pressAll rfl (Nat.le_of_ble_eq_true rfl) (fun T hT => ?_)
  obtain ⟨c0, hc0⟩ : ∃ c0, c0 = rmA (w * d * l) m := ⟨_, rfl⟩
  rw [← hc0] at hT
  have hM0 : WS w d l c0 := by rw [hc0]; exact WS_rmA hM
  have hcc0 : ∀ o, o ≠ 17 → o ≠ 19 → c0 o = m o := fun o a b => by rw [hc0, rmA_ne a b]
  have rounds : ∀ (k : Nat) (t : Int) (ht : Int → Int) (c1 mm : Mem), t + k = R + 1 → 1 ≤ t → Ea c1 mm → WS w d l c1 → (∀ o, o ≠ 17 → o ≠ 19 → c1 o = m o) → (∀ o, keep6 o → mm o = m o) → (∀ x, inC w d l x → mm 38 x = ht x ∧ 0 ≤ ht x ∧ ht x ≤ t - 1) → (∀ r c', prA w d l pr k t ht c1 r c' → prA w d l pr R.toNat 1 (fun _ => 0) c0 r c') → kW (eX X) 5 M_X5_pressAll T 1 [some (vR 37), some (vI R), some (vI pr), some (vI t)] [] mm := by
    intro k
    induction k with
    | zero =>
      intro t ht c1 mm hk ht1 a1 a2 a3 a4 a5 a6
      refine kW_go ok_X5_pressAll [1] 20 ?_
      exact And.intro (fun _ => hT _ _ ⟨none, c1, a6 none c1 rfl, rfl, fun z => absurd rfl z, fun t z => (by cases z), a4⟩) (fun h => absurd h (by omega))
    | succ k ih =>
      intro t ht c1 mm hk ht1 a1 a2 a3 a4 a5 a6
      have hB1 : Bd X w d l mm := Bd_same hB (fun o a b => a4 o (by omega))
      refine kW_go ok_X5_pressAll [1] 20 ?_
      refine And.intro (fun h => absurd h (by omega)) (fun _ => ?_)
      refine kCall_mono (c_X5_layTurn X c1 mm hB1 a1 a2 hpr (ht := ht) (fun x hx => by have := a5 x hx; exact ⟨this.1, this.2.1, by omega⟩) (fun y hy => by rw [a4 31 (by omega)]; exact h31 y hy)) (Nat.le_of_ble_eq_true rfl) ?_
      rintro _ m2 ⟨b, c2, hL, rfl, hb2, hf2⟩
      have k2 : ∀ o, keep6 o → m2 o = m o := fun o ho => by rw [hf2 o (by omega)]; exact a4 o ho
      cases b with
      | false =>
        rw [if_neg (by decide)]
        refine And.intro (fun h => absurd rfl h) (fun _ => ?_)
        exact hT _ _ ⟨none, c2, a6 none c2 ⟨false, c2, hL, Or.inl ⟨rfl, rfl⟩⟩, rfl, fun z => absurd rfl z, fun t z => (by cases z), k2⟩
      | true =>
        obtain ⟨b1, b2, b3⟩ := hb2 rfl
        rw [if_pos rfl]
        refine And.intro (fun _ => ?_) (fun h => absurd h (by decide))
        have hB2 : Bd X w d l m2 := Bd_same hB (fun o a b => k2 o (by omega))
        have e38 : m2 38 = mm 38 := hf2 38 (by omega)
        refine kCall_mono (c_X5_warmCrowded X c2 m2 hB2 b1 b2.1 (ht := ht) (fun x hx => by rw [e38]; have := a5 x hx; exact ⟨this.1, this.2.1, by omega⟩)) (Nat.le_of_ble_eq_true rfl) ?_
        rintro _ m3 ⟨v, rfl, hv, h38, hf3⟩
        have k3 : ∀ o, keep6 o → m3 o = m o := fun o ho => by rw [hf3 o (by omega)]; exact k2 o ho
        have hE3 : Ea c2 m3 := fun o x y => by rw [hf3 o (by omega)]; exact b1 o x y
        have hc3 : ∀ o, o ≠ 17 → o ≠ 19 → c2 o = m o := fun o x y => by rw [b3 o x y]; exact a3 o x y
        refine And.intro (fun hne => ?_) (fun he => ?_)
        · have hne : ¬ v = 0 := hne
          refine ⟨by constructor <;> omega, ih (t + 1) (fun x => ht x + iv (crP w d l c2 x) 1) c2 m3 (by omega) (by omega) hE3 b2 hc3 k3 (fun x hx => ⟨h38 x hx, ?_⟩) (fun r c' h => a6 r c' ⟨true, c2, hL, Or.inr ⟨rfl, Or.inr ⟨hv.mp hne, h⟩⟩⟩)⟩
          have h1 := (a5 x hx).2
          have h2 : 0 ≤ iv (crP w d l c2 x) 1 ∧ iv (crP w d l c2 x) 1 ≤ 1 := iv_in ⟨by decide, by decide⟩
          show 0 ≤ ht x + iv (crP w d l c2 x) 1 ∧ ht x + iv (crP w d l c2 x) 1 ≤ t + 1 - 1
          omega
        · have he : v = 0 := he
          exact hT _ _ ⟨some t, c2, a6 _ _ ⟨true, c2, hL, Or.inr ⟨rfl, Or.inl ⟨fun x hx z => (hv.mpr ⟨x, hx, z⟩) he, rfl, rfl⟩⟩⟩, rfl, fun _ => ⟨hE3, b2, hc3⟩, fun t' z => (by cases z; omega), k3⟩
  refine kW_go ok_X5_pressAll [1] 20 ?_
  refine kCall_mono (c_X3_removeAllTraces X m (by omega)) (Nat.le_of_ble_eq_true rfl) ?_
  rintro _ m1 ⟨rfl, hm1⟩
  have e1 : m1 = c0 := by
    rw [hm1, hc0]
    unfold rmA
    rw [hN, Int.natCast_mul]
    rfl
  refine kCall_mono (c_fill (eX X) m1 38 (nC X) 0 (by decide) rfl (by omega)) (Nat.le_of_ble_eq_true rfl) ?_
  rintro _ m2 ⟨rfl, rfl⟩
  have hgo := rounds R.toNat 1 (fun _ => 0) c0 (mfill m1 38 0 ((nC X : Nat) : Int) 0) (by omega) (by omega) (fun o a b => by rw [mfill_ne (by omega), e1]) hM0 hcc0 (fun o ho => by rw [mfill_ne (by omega), e1]; exact hcc0 o (by omega) (by omega)) (fun x hx => ⟨by rw [mfill_at, if_pos ⟨hx.1, by have := hx.2; omega⟩], by decide, by decide⟩) (fun _ _ h => h)
  exact hgo
