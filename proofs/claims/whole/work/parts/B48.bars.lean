/-! BARS: the class's search -/
def Fs (w d l : Int) (c : Mem) (n s : Int) : Int → Prop := frT w d l (fun o => bt s o.toNat = false) (rmT (w * d * l) n c) n 0
def okV (w d l : Int) (c : Mem) (n v s : Int) : Prop := ∀ p : Int, (0 ≤ p ∧ p < c 13 n) → Rch (stR w d l (Fs w d l c n s) v) (c 14 (n * 4)) (c 14 (n * 4 + p))
/-- the nets that have traces -/
def trM (w d l : Int) (c : Mem) (n M : Int) : Prop := (0 ≤ M ∧ M < 256) ∧ ∀ k : Nat, bt M k = true ↔ (k : Int) ≠ n ∧ ∃ x, inC w d l x ∧ bt (c 17 x) k = true
theorem vSet_n {N n s : Int} (h : vSet N n s) (hn : 0 ≤ n) : bt s n.toNat = false := by
  cases hb : bt s n.toNat with
  | false => rfl
  | true => exact absurd (by omega) (h.2 _ hb).2
theorem vSet_and {N n s M : Int} (h : vSet N n s) : vSet N n (kand s M) := ⟨and8 h.1, fun k hk => by
  rw [bt_and, Bool.and_eq_true] at hk
  exact h.2 k hk.1⟩
theorem Fs_and {w d l : Int} {c : Mem} {n s M : Int} (hM : WM w d l c) (hn : 0 ≤ n ∧ n < 8) (hT : trM w d l c n M) (hs : vSet (c 9 14) n s) : Fs w d l c n (kand s M) = Fs w d l c n s := by
  have hts := rmT_tsame (w := w) (d := d) (l := l) (c := c) hn (fun x hx => (hM.2.2.2 x hx).2)
  have h1 := vSet_n hs hn.1
  have h2 := vSet_n (vSet_and (M := M) hs) hn.1
  have hcu : ∀ o y, inC w d l y → (0 ≤ o ∧ o < 8) → o ≠ n → (cuT (fun o => bt (kand s M) o.toNat = false) (rmT (w * d * l) n c) o y ↔ cuT (fun o => bt s o.toNat = false) (rmT (w * d * l) n c) o y) := by
    intro o y hy ho hon
    unfold cuT
    refine or_congr_right (and_congr_left (fun hb => ?_))
    rw [hts.2.2 y o.toNat hy (by omega)] at hb
    have := (hT.2 o.toNat).mpr ⟨by omega, y, hy, hb⟩
    dsimp only
    rw [bt_and, this, Bool.and_true]
  have h8 := hM.1.2.1
  have e9 : rmT (w * d * l) n c 9 = c 9 := rmT_ne (by decide) (by decide)
  funext x
  refine propext ?_
  unfold Fs frT
  refine or_congr ?_ (and_congr_right (fun _ => and_congr_right (fun _ => ?_)))
  · unfold cuT
    dsimp only
    rw [h1, h2]
  · unfold clT
    rw [e9]
    exact ⟨fun h o ho hon ⟨y, a, b, e⟩ => h o ho hon ⟨y, a, (hcu o y a (by omega) hon).mpr b, e⟩, fun h o ho hon ⟨y, a, b, e⟩ => h o ho hon ⟨y, a, (hcu o y a (by omega) hon).mp b, e⟩⟩
theorem okV_and {w d l : Int} {c : Mem} {n s M v : Int} (hM : WM w d l c) (hn : 0 ≤ n ∧ n < 8) (hT : trM w d l c n M) (hs : vSet (c 9 14) n s) : okV w d l c n v (kand s M) ↔ okV w d l c n v s := by
  unfold okV
  rw [Fs_and hM hn hT hs]
theorem Fs_mono {w d l : Int} {c : Mem} {n s : Int} (hM : WM w d l c) (hn : 0 ≤ n ∧ n < 8) {x : Int} (hx : inC w d l x) (h : Fs w d l c n s x) : Fs w d l c n 255 x := by
  have h255 : ∀ i : Fin 8, bt 255 i.val = true := by decide +kernel
  have h8 := hM.1.2.1
  have e9 : rmT (w * d * l) n c 9 = c 9 := rmT_ne (by decide) (by decide)
  have hbn : bt (rmT (w * d * l) n c 17 x) n.toNat = false := by
    have hW := ((WM_rmT hM hn).2.2.1 n hn).1 x hx
    cases hb : bt (rmT (w * d * l) n c 17 x) n.toNat with
    | false => rfl
    | true => exact absurd (by rw [rmT_row hx, if_pos rfl]) (hW.2.2.1.mp hb)
  rcases h with h | ⟨h1, h2, h3⟩
  · left
    rcases h with h | ⟨-, h⟩
    · exact Or.inl h
    · rw [hbn] at h; cases h
  · refine Or.inr ⟨h1, h2, fun o ho hon ⟨y, a, b, e⟩ => ?_⟩
    rcases b with b | ⟨b, -⟩
    · exact h3 o ho hon ⟨y, a, Or.inl b, e⟩
    · rw [e9] at ho
      have b : bt 255 o.toNat = false := b
      rw [h255 ⟨o.toNat, by omega⟩] at b
      cases b
theorem okV_mono {w d l : Int} {c : Mem} {n s v : Int} (hD : okD w d l) (hM : WM w d l c) (hn : 0 ≤ n ∧ n < 8) (hv : v ≤ 6) (h : okV w d l c n v s) : okV w d l c n v 255 := fun p hp => Rch_mono (fun a b ⟨k, h1, h2, h3, h4⟩ => ⟨k, h1, h2, h3, Fs_mono hM hn (by rw [← h2]; exact (nx_in (by rw [h2]; exact h3)).1) h4⟩) (h p hp)
theorem c_X1_setAt (X : Xv) (m : Mem) (i c o : Int) (hi : 0 ≤ i ∧ i < 256) : kCall (eX X) 3 M_X1_setAt.1 [vI i, vI c, vI o] m (fun r m' => m' = m ∧ ((pop (rvS i) = c ∧ kand (rvS i) (kxor o (-1)) = 0 ∧ r = some (vI (rvS i))) ∨ (¬ (pop (rvS i) = c ∧ kand (rvS i) (kxor o (-1)) = 0) ∧ r = some (vI (-1))))) := by
  have hp := rvS_pop hi
  refine kCall_ofT ok_X1_setAt rfl (Nat.le_of_ble_eq_true rfl) (fun T hT => ?_)
  have loop : ∀ (q k : Nat), k + q = 8 → pop (rvS i) = c → kW (eX X) 2 M_X1_setAt T 2 [some (vI i), some (vI c), some (vI o), some (vI (rvA i k)), some (vI (k : Int))] [] m := by
    intro q
    induction q with
    | zero =>
      intro k hk he
      have hk8 : k = 8 := by omega
      subst hk8
      refine kW_go ok_X1_setAt [2] 20 ?_
      refine And.intro (fun _ => ?_) (fun h => absurd h (by omega))
      exact And.intro (fun hne => hT _ _ ⟨rfl, Or.inr ⟨fun z => hne z.2, rfl⟩⟩) (fun hz => hT _ _ ⟨rfl, Or.inl ⟨he, hz, rfl⟩⟩)
    | succ q ih =>
      intro k hk he
      have hih := ih (k + 1) (by omega) he
      rw [show ((k + 1 : Nat) : Int) = (k : Int) + 1 from by omega] at hih
      refine kW_go ok_X1_setAt [2] 20 ?_
      exact And.intro (fun h => absurd h (by omega)) (fun _ => ⟨by constructor <;> omega, by constructor <;> omega, hih⟩)
  refine kW_go ok_X1_setAt [2] 20 ?_
  refine kCall_mono (c_bitCount (eX X) m i hi.1 hi.2) (Nat.le_of_ble_eq_true rfl) ?_
  rintro _ m2 ⟨rfl, rfl⟩
  exact And.intro (fun he => loop 8 0 (by omega) (hp.trans he)) (fun hne => hT _ _ ⟨rfl, Or.inr ⟨fun z => hne (hp.symm.trans z.1), rfl⟩⟩)
theorem c_X1_othersWithTraces (X : Xv) (m : Mem) {w d l : Int} (hB : Bd X w d l m) (hM : WM w d l m) (n : Int) (hn : 0 ≤ n ∧ n < 8) : kCall (eX X) 1 M_X1_othersWithTraces.1 [vR 40, vI n] m (fun r m' => ∃ M, r = some (vI M) ∧ trM w d l m n M ∧ m' = m) := by
  obtain ⟨hD, hN, hG⟩ := id hB
  have hc4 := okD_cells hD
  have g4 : m 1 4 = (nC X : Int) := by rw [hG.2.2.2.2.1, hN]
  refine kCall_ofT ok_X1_othersWithTraces rfl (Nat.le_of_ble_eq_true rfl) (fun T hT => ?_)
  have loop : ∀ (k : Nat) (i v : Int), i + k = (nC X : Int) → 0 ≤ i → (0 ≤ v ∧ v < 256) → (∀ o : Nat, bt v o = true ↔ ∃ x, inC w d l x ∧ x < i ∧ bt (m 17 x) o = true) → kW (eX X) 0 M_X1_othersWithTraces T 1 [some (vR 40), some (vI n), some (vI v), some (vI i)] [] m := by
    intro k
    induction k with
    | zero =>
      intro i v hk h0 hv hb
      refine kW_go ok_X1_othersWithTraces [1] 20 ?_
      refine And.intro (fun _ => hT _ _ ⟨_, rfl, ⟨and8 hv, fun o => ?_⟩, rfl⟩) (fun h => ?_)
      · by_cases h32 : o < 32
        · rw [bt_and, bt_nall hn.1 (by omega) h32, Bool.and_eq_true, hb o, decide_eq_true_eq]
          exact ⟨fun ⟨⟨x, a, _, b⟩, e⟩ => ⟨e, x, a, b⟩, fun ⟨e, x, a, b⟩ => ⟨⟨x, a, by have := a.2; omega, b⟩, e⟩⟩
        · rw [bt_ge _ (by omega)]
          exact ⟨fun z => (by cases z), fun ⟨_, x, _, b⟩ => by rw [bt_ge _ (by omega)] at b; exact b⟩
      · have h : i < m 1 4 := h
        omega
    | succ k ih =>
      intro i v hk h0 hv hb
      have hib : 0 ≤ i ∧ i < (nC X : Int) := by omega
      have hix : inC w d l i := ⟨h0, by omega⟩
      refine kW_go ok_X1_othersWithTraces [1] 20 ?_
      refine And.intro (fun h => ?_) (fun _ => ⟨hib, by constructor <;> omega, ih (i + 1) _ (by omega) (by omega) (kor8 hv (hM.2.2.2 i hix).2) (fun o => ?_)⟩)
      · have h : m 1 4 ≤ i := h
        omega
      · rw [bt_or, Bool.or_eq_true, hb o]
        constructor
        · rintro (⟨x, a, b, e⟩ | e)
          · exact ⟨x, a, by omega, e⟩
          · exact ⟨i, hix, by omega, e⟩
        · rintro ⟨x, a, b, e⟩
          by_cases hxi : x = i
          · rw [hxi] at e; exact Or.inr e
          · exact Or.inl ⟨x, a, by omega, e⟩
  refine kW_go ok_X1_othersWithTraces [1] 20 ?_
  exact loop (nC X) 0 0 (by omega) (by omega) (by decide) (fun o => by
    rw [bt_zero]
    exact ⟨fun z => (by cases z), fun ⟨x, a, b, _⟩ => by have := a.1; omega⟩)
theorem c_markS (X : Xv) (c m : Mem) {w d l : Int} (hB : Bd X w d l c) (hM : WM w d l c) (n g : Int) (hnn : 0 ≤ n ∧ n < c 9 14) (hf : ∀ o, o < 17 ∨ o = 18 → m o = c o) (hlk : looked w d l X c m n 0) (hin : ∀ o i, inR (m o i)) : kCall (eX X) 2 M_X6_mark.1 [vR 22, vI g] m (fun r m' => (r = none ∧ (∀ o, o ≠ 27 → m' o = m o) ∧ ∀ x, inC w d l x → (m' 27 x ≠ 0 ↔ Fs w d l c n g x)) ∧ ∀ o i, inR (m' o i)) := by
  obtain ⟨hD, hN, hG⟩ := id hB
  have h8 := hM.1.2.1
  have hn8 : 0 ≤ n ∧ n < 8 := by omega
  have hs := WFs_srt hM.1
  refine kCall_in (kCall_mono (c_X6_mark X m hD hN (gridC_same hG (fun o o1 o2 => hf o (by omega))) g n hlk.1 hn8 (by rw [hf 11 (by decide)]; exact (hs.2 n hnn).1)) (Nat.le_refl _) ?_)
  rintro _ m2 ⟨rfl, f2, h27⟩
  refine ⟨rfl, f2, fun x hx => ?_⟩
  have h1 := frC_frT (g := g) hD hN hs hin hnn (hf 10 (by decide)) (hf 11 (by decide)) (hf 15 (by decide)) hlk hx
  have h2 : frT w d l (qC n 0 g) c n 0 x ↔ Fs w d l c n g x := by
    unfold Fs
    refine frT_rm hn8 h8.2 (fun z => z.elim (fun z => z.2 rfl) (fun z => z.1 rfl)) (fun o ho hon => ⟨fun z => z.elim (fun z => absurd z.1 hon) (fun z => z.2), fun z => Or.inr ⟨hon, z⟩⟩) hx
  rw [← h2, ← h1]
  by_cases hc : frC w d m g x
  · rw [(h27 x hx).1 hc]; exact ⟨fun _ => hc, fun _ => by decide⟩
  · rw [(h27 x hx).2 hc]; exact ⟨fun z => absurd rfl z, fun z => absurd z hc⟩
theorem c_joinS (X : Xv) (c m : Mem) {w d l : Int} (hB : Bd X w d l c) (hM : WM w d l c) (n v g : Int) (hnn : 0 ≤ n ∧ n < c 9 14) (hp1 : 1 ≤ c 13 n) (hv : 0 ≤ v ∧ v ≤ 6) (hf : ∀ o, o < 17 ∨ o = 18 → m o = c o) (hF : ∀ x, inC w d l x → (m 27 x ≠ 0 ↔ Fs w d l c n g x)) : kCall (eX X) 3 M_X6_joinsAllPins.1 [vR 22, vI n, vI v] m (fun r m' => (((okV w d l c n v g ∧ r = some (vI 1)) ∨ (¬ okV w d l c n v g ∧ r = some (vI 0))) ∧ ∀ o, o ≠ 28 → o ≠ 29 → m' o = m o) ∧ ∀ o i, inR (m' o i)) := by
  obtain ⟨hD, hN, hG⟩ := id hB
  have h8 := hM.1.2.1
  have hn8 : 0 ≤ n ∧ n < 8 := by omega
  have hP4 := (hM.2.1.1 n hn8).1
  have e13 : m 13 = c 13 := hf 13 (by decide)
  have e14 : m 14 = c 14 := hf 14 (by decide)
  refine kCall_in (kCall_mono (c_X6_joinsAllPins X m hD hN (gridC_same hG (fun o o1 o2 => hf o (by omega))) n v hn8 hv (by rw [e13]; omega) (fun p hp => by rw [e13] at hp; rw [e14]; exact hM.2.1.2.1 n p hn8 hp)) (Nat.le_refl _) ?_)
  rintro _ m2 ⟨hq, f2⟩
  rw [jnP_R hF, e13, e14] at hq
  exact ⟨hq, f2⟩
theorem c_X1_joinsWithout (X : Xv) (c m : Mem) {w d l : Int} (hB : Bd X w d l c) (hM : WM w d l c) (n v g : Int) (hnn : 0 ≤ n ∧ n < c 9 14) (hp1 : 1 ≤ c 13 n) (hv : 0 ≤ v ∧ v ≤ 6) (hf : ∀ o, o < 22 ∨ 29 < o → m o = c o) (hlk : looked w d l X c m n 0) (hin : ∀ o i, inR (m o i)) : kCall (eX X) 4 M_X1_joinsWithout.1 [vR 40, vI n, vI g, vI v] m (fun r m' => ((okV w d l c n v g ∧ r = some (vI 1)) ∨ (¬ okV w d l c n v g ∧ r = some (vI 0))) ∧ (∀ o, o < 22 ∨ 29 < o → m' o = c o) ∧ looked w d l X c m' n 0 ∧ ∀ o i, inR (m' o i)) := by
  refine kCall_ofT ok_X1_joinsWithout rfl (Nat.le_of_ble_eq_true rfl) (fun T hT => ?_)
  refine kW_go ok_X1_joinsWithout [] 20 ?_
  refine kCall_mono (c_markS X c m hB hM n g hnn (fun o ho => hf o (by omega)) hlk hin) (Nat.le_of_ble_eq_true rfl) ?_
  rintro _ m6 ⟨⟨rfl, f6, h27'⟩, hin6⟩
  have hf6 : ∀ o, o < 22 ∨ 29 < o → m6 o = c o := fun o ho => by rw [f6 o (by omega)]; exact hf o ho
  have hl6 := looked_same hlk (fun o a b => f6 o (by omega))
  refine kCall_mono (c_joinS X c m6 hB hM n v g hnn hp1 hv (fun o ho => hf6 o (by omega)) h27') (Nat.le_of_ble_eq_true rfl) ?_
  rintro _ m7 ⟨⟨hq7, f7⟩, hin7⟩
  have hf7 : ∀ o, o < 22 ∨ 29 < o → m7 o = c o := fun o ho => by rw [f7 o (by omega) (by omega)]; exact hf6 o ho
  have hl7 := looked_same hl6 (fun o a b => f7 o (by omega) (by omega))
  rcases hq7 with ⟨hok, rfl⟩ | ⟨hok, rfl⟩
  · exact hT _ _ ⟨Or.inr rfl, Or.inl ⟨hok, rfl⟩, hf7, hl7, hin7⟩
  · exact hT _ _ ⟨Or.inl rfl, Or.inr ⟨hok, rfl⟩, hf7, hl7, hin7⟩
set_option maxRecDepth 100000 in
theorem c_X1_fewestBars (X : Xv) (m : Mem) {w d l : Int} (hB : Bd X w d l m) (hM : WM w d l m) (n v : Int) (hnn : 0 ≤ n ∧ n < m 9 14) (hp1 : 1 ≤ m 13 n) (hv : 0 ≤ v ∧ v ≤ 6) : kCall (eX X) 5 M_X1_fewestBars.1 [vR 40, vI n, vI v] m (fun r m' => ∃ z, r = some (vI z) ∧ leastS (m 9 14) n (okV w d l m n v) z ∧ (∀ o, o < 22 ∨ 29 < o → m' o = m o) ∧ looked w d l X m m' n 0 ∧ ∀ o i, inR (m' o i)) := by
  obtain ⟨hD, hN, hG⟩ := id hB
  have hc4 := okD_cells hD
  have h8 := hM.1.2.1
  have hs := WFs_srt hM.1
  have hn8 : 0 ≤ n ∧ n < 8 := by omega
  refine kCall_ofT ok_X1_fewestBars rfl (Nat.le_of_ble_eq_true rfl) (fun T hT => ?_)
  refine kW_go ok_X1_fewestBars [1] 20 ?_
  refine kCall_mono (kCall_in (c_X6_look X m hD hN hG hs n 0 hnn)) (Nat.le_of_ble_eq_true rfl) ?_
  rintro _ m1 ⟨⟨rfl, hf, h22, h26, hb⟩, hin⟩
  have hf1 : ∀ o, o < 22 ∨ 29 < o → m1 o = m o := fun o ho => hf o (by omega) (by omega) (by omega) (by omega) (by omega)
  have hlk : looked w d l X m m1 n 0 := ⟨h22.1, h26, hb⟩
  refine kCall_mono (c_markS X m m1 hB hM n 255 hnn (fun o ho => hf1 o (by omega)) hlk hin) (Nat.le_of_ble_eq_true rfl) ?_
  rintro _ m2 ⟨⟨rfl, f2, h27⟩, hin2⟩
  have hf2 : ∀ o, o < 22 ∨ 29 < o → m2 o = m o := fun o ho => by rw [f2 o (by omega)]; exact hf1 o ho
  have hlk2 := looked_same hlk (fun o a b => f2 o (by omega))
  refine kCall_mono (c_joinS X m m2 hB hM n v 255 hnn hp1 hv (fun o ho => hf2 o (by omega)) h27) (Nat.le_of_ble_eq_true rfl) ?_
  rintro _ m3 ⟨⟨hq, f3⟩, hin3⟩
  have hf3 : ∀ o, o < 22 ∨ 29 < o → m3 o = m o := fun o ho => by rw [f3 o (by omega) (by omega)]; exact hf2 o ho
  have hlk3 := looked_same hlk2 (fun o a b => f3 o (by omega) (by omega))
  rcases hq with ⟨hall, rfl⟩ | ⟨hall, rfl⟩
  · refine And.intro (fun _ => ?_) (fun h => absurd h (by decide))
    have hB3 : Bd X w d l m3 := Bd_same hB (fun o a b => hf3 o (by omega))
    have hM3 : WM w d l m3 := by
      have := hM
      unfold WM WFs WFp WFn pinT at this ⊢
      rw [hf3 9 (by omega), hf3 10 (by omega), hf3 11 (by omega), hf3 12 (by omega), hf3 13 (by omega), hf3 14 (by omega), hf3 16 (by omega), hf3 17 (by omega), hf3 18 (by omega), hf3 19 (by omega)]
      exact this
    refine kW_go ok_X1_fewestBars [2] 20 ?_
    refine kCall_mono (kCall_in (c_X1_othersWithTraces X m3 hB3 hM3 n hn8)) (Nat.le_of_ble_eq_true rfl) ?_
    rintro _ m4 ⟨⟨M, rfl, hT', rfl⟩, hin4⟩
    have hTM : trM w d l m n M := by
      unfold trM at hT' ⊢
      rw [hf3 17 (by omega)] at hT'
      exact hT'
    have hMb := hTM.1
    have hpM := pop_in M
    have hMv : ∀ s, vSet (m 9 14) n s → vSet (m 9 14) n (kand s M) := fun s hs => vSet_and hs
    have hMo : ∀ s, vSet (m 9 14) n s → okV w d l m n v s → okV w d l m n v (kand s M) := fun s hs h => (okV_and hM hn8 hTM hs).mpr h
    have hvz : ∀ s, (0 ≤ s ∧ s < 256) → (∀ k, bt s k = true → bt M k = true) → vSet (m 9 14) n s := by
      intro s hs hsub
      refine ⟨hs, fun k hk => ?_⟩
      obtain ⟨hkn, x, hx, hbx⟩ := (hTM.2 k).mp (hsub k hk)
      refine ⟨?_, hkn⟩
      refine Int.lt_of_not_ge (fun hge => ?_)
      by_cases h8k : k < 8
      · have := no_cu hM hx h8k hge
        rw [this.2] at hbx
        cases hbx
      · have hvx := hM.2.2.2 x hx
        rw [bt_small (n := 8) (inR_small (by omega)) hvx.2.1 hvx.2.2 (by omega)] at hbx
        cases hbx
    obtain ⟨H, hH⟩ : ∃ H : Int → Int → Prop, ∀ c i, H c i ↔ ∀ j : Int, (0 ≤ j ∧ j < 256) → (pop (rvS j) < c ∨ (pop (rvS j) = c ∧ i < j)) → (∀ k, bt (rvS j) k = true → bt M k = true) → ¬ okV w d l m n v (rvS j) := ⟨_, fun _ _ => Iff.rfl⟩
    have outer : ∀ (q : Nat) (c : Int) (mm : Mem) (x5 x6 : Option AV), c + q = pop M + 1 → 0 ≤ c → H c 256 → (∀ o, o < 22 ∨ 29 < o → mm o = m o) → looked w d l X m mm n 0 → (∀ o i, inR (mm o i)) → kW (eX X) 4 M_X1_fewestBars T 2 [some (vR 40), some (vI n), some (vI v), some (vI M), some (vI c), x5, x6] [] mm := by
      intro q
      induction q with
      | zero =>
        intro c mm x5 x6 hq h0 hc hfm hlm him
        refine kW_go ok_X1_fewestBars [2] 20 ?_
        refine kCall_mono (kCall_in (c_bitCount (eX X) mm M hMb.1 hMb.2)) (Nat.le_of_ble_eq_true rfl) ?_
        rintro _ m5 ⟨⟨rfl, rfl⟩, -⟩
        refine And.intro (fun _ => hT _ _ ⟨-1, rfl, none_least hMb hMo (fun j hj hpj hsub => (hH c 256).mp hc j hj (Or.inl (by omega)) hsub), hfm, hlm, him⟩) (fun h => absurd h (by omega))
      | succ q ih =>
        intro c mm x5 x6 hq h0 hc hfm hlm him
        have inner : ∀ (p : Nat) (i : Int) (mm : Mem) (x6 : Option AV), i + 1 = p → i < 256 → H c i → (∀ o, o < 22 ∨ 29 < o → mm o = m o) → looked w d l X m mm n 0 → (∀ o i, inR (mm o i)) → kW (eX X) 4 M_X1_fewestBars T 3 [some (vR 40), some (vI n), some (vI v), some (vI M), some (vI c), some (vI i), x6] [] mm := by
          intro p
          induction p with
          | zero =>
            intro i mm x6 hp hi hc hfm hlm him
            refine kW_go ok_X1_fewestBars [2, 3] 20 ?_
            refine And.intro (fun _ => ⟨by constructor <;> omega, ih (c + 1) mm _ _ (by omega) (by omega) ((hH _ _).mpr (fun j hj hcj hsub => (hH c i).mp hc j hj (by omega) hsub)) hfm hlm him⟩) (fun h => absurd h (by omega))
          | succ p ihp =>
            intro i mm x6 hp hi hc hfm hlm him
            have hi0 : 0 ≤ i ∧ i < 256 := by omega
            have hr := rvS_in hi0
            have hskip : ∀ (m5 : Mem) (x6 : Option AV), ((pop (rvS i) = c) → (∀ k, bt (rvS i) k = true → bt M k = true) → ¬ okV w d l m n v (rvS i)) → (∀ o, o < 22 ∨ 29 < o → m5 o = m o) → looked w d l X m m5 n 0 → (∀ o i, inR (m5 o i)) → inR (i + -1) ∧ kW (eX X) 4 M_X1_fewestBars T 3 [some (vR 40), some (vI n), some (vI v), some (vI M), some (vI c), some (vI (i + -1)), x6] [] m5 := by
              intro m5 x6 h1 h2 h3 h4
              refine ⟨by constructor <;> omega, ihp (i + -1) m5 x6 (by omega) (by omega) ((hH _ _).mpr (fun j hj hcj hsub => ?_)) h2 h3 h4⟩
              by_cases e : j = i ∧ pop (rvS j) = c
              · rw [e.1] at hsub ⊢
                exact h1 (by rw [← e.1]; exact e.2) hsub
              · exact (hH c i).mp hc j hj (by omega) hsub
            refine kW_go ok_X1_fewestBars [3] 20 ?_
            refine And.intro (fun h => absurd h (by omega)) (fun _ => ?_)
            have hsubq : kand (rvS i) (kxor M (-1)) = 0 ↔ ∀ k, bt (rvS i) k = true → bt M k = true := by
              rw [k_and0]
              constructor
              · intro h k hk
                by_cases h32 : k < 32
                · cases hMk : bt M k with
                  | true => rfl
                  | false => exact absurd ⟨hk, by rw [bt_not h32, hMk]; rfl⟩ (h k h32)
                · rw [bt_ge _ (by omega)] at hk; cases hk
              · rintro h k h32 ⟨a, b⟩
                rw [bt_not h32, h k a] at b
                cases b
            refine kCall_mono (c_X1_setAt X mm i c M hi0) (Nat.le_of_ble_eq_true rfl) ?_
            rintro _ m5 ⟨rfl, ⟨he, hns, rfl⟩ | ⟨hno, rfl⟩⟩
            · refine And.intro (fun h => absurd h (by have := hr.1.1; omega)) (fun _ => ?_)
              have hsub := hsubq.mp hns
              refine kCall_mono (c_X1_joinsWithout X m m5 hB hM n v (rvS i) hnn hp1 hv hfm hlm him) (Nat.le_of_ble_eq_true rfl) ?_
              rintro _ m7 ⟨hq7, hf7, hl7, hin7⟩
              rcases hq7 with ⟨hok, rfl⟩ | ⟨hok, rfl⟩
              · refine And.intro (fun h => absurd h (by decide)) (fun _ => hT _ _ ⟨_, rfl, ?_, hf7, hl7, hin7⟩)
                exact found_least hMb hMv hMo hi0 he (hvz _ hr.1 hsub) hok hsub ((hH c i).mp hc)
              · exact And.intro (fun _ => hskip m7 _ (fun _ _ => hok) hf7 hl7 hin7) (fun h => absurd rfl h)
            · exact And.intro (fun _ => hskip m5 _ (fun he hsub => absurd ⟨he, hsubq.mpr hsub⟩ hno) hfm hlm him) (fun h => absurd rfl h)
        refine kW_go ok_X1_fewestBars [3] 20 ?_
        refine kCall_mono (c_bitCount (eX X) mm M hMb.1 hMb.2) (Nat.le_of_ble_eq_true rfl) ?_
        rintro _ m5 ⟨rfl, rfl⟩
        refine And.intro (fun h => absurd h (by omega)) (fun _ => ?_)
        exact inner 256 255 m5 _ (by omega) (by omega) ((hH _ _).mpr (fun j hj hcj hsub => (hH c 256).mp hc j hj (by omega) hsub)) hfm hlm him
    have hgo := outer (pop M + 1).toNat 0 m4 none none (by omega) (by omega) ((hH _ _).mpr (fun j hj hcj _ => by have := pop_in (rvS j); omega)) hf3 hlk3 hin4
    exact hgo
  · refine And.intro (fun h => absurd rfl h) (fun _ => ?_)
    exact hT _ _ ⟨-1, rfl, Or.inl ⟨rfl, fun s hs h => hall (okV_mono hD hM hn8 hv.2 h)⟩, hf3, hlk3, hin3⟩
