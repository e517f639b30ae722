/-! STRETCH and SPAN alike -/
theorem inv_at {X : Xv} {w d l : Int} {m c' m1 m2 : Mem} (hI : Inv X w d l m) (hc : ∀ o, o ≠ 17 → o ≠ 19 → c' o = m o) (hM : WM w d l c') (h : ∀ o, ((1 ≤ o ∧ o ≤ 19 ∧ o ≠ 8) ∨ o = 31 ∨ o = 41 ∨ o = 47) → o ≠ 17 → o ≠ 19 → m1 o = m o) (h19 : rows19 w d l c' m1) (h17 : ∀ x, inC w d l x → m1 17 x = c' 17 x) (h2 : ∀ o, o < 54 → m2 o = m1 o) (hR : RR w d l c' m2) : Inv X w d l m2 := by
  obtain ⟨mx, hmx⟩ : ∃ mx : Mem, mx = fun o => if o = 17 then m1 17 else if o = 19 then m1 19 else m o := ⟨_, rfl⟩
  have e17 : mx 17 = m1 17 := by rw [hmx]; rfl
  have e19 : mx 19 = m1 19 := by rw [hmx]; rfl
  have eo : ∀ o, o ≠ 17 → o ≠ 19 → mx o = m o := fun o a b => by rw [hmx]; simp only [if_neg a, if_neg b]
  have eoc : ∀ o, o ≠ 17 → o ≠ 19 → mx o = c' o := fun o a b => by rw [eo o a b, hc o a b]
  have r19 : rows19 w d l c' mx := fun n x hn hx => by rw [e19]; exact h19 n x hn hx
  have r17 : ∀ x, inC w d l x → mx 17 x = c' 17 x := fun x hx => by rw [e17]; exact h17 x hx
  have hE : Es mx m1 := by
    refine Es_of (fun o ho => ?_)
    by_cases a : o = 17
    · rw [a, e17]
    · by_cases b : o = 19
      · rw [b, e19]
      · rw [eo o a b]
        exact h o (by omega) a b
  have hR0 := RR0_pt hI.1.1 eoc r19 (fun x o hx _ => by rw [r17 x hx]) (RR_0 hR)
  refine inv_mk (m1 := m1) (c' := mx) hI (fun o a b => h o (by omega) (by omega) (by omega)) hE (WF_pt eoc r19 r17 (WF_of_WM hI.2.2.1 hM hc)) ?_ ?_ h2 ⟨hR0.1, hR0.2, hR.2.2⟩
  · rw [h 6 (by omega) (by decide) (by decide)]
  · exact h 31 (by omega) (by decide) (by decide)
/-- the trail of a net that can be followed -/
def SF (w d l : Int) (N : Nat) (c r : Mem) (n : Int) (P K : Int → Int) : Prop := TrL w d l (fun x => c 19 (n * (w * d * l) + x)) (r 68 n) P K ∧ P 0 = c 14 (n * 4 + 1) ∧ (∀ i : Int, (0 ≤ i ∧ i < r 68 n) → r 69 (2400 * n + i) = cR w d (P i) ∧ r 70 (2400 * n + i) = cR w d (P (i + 1))) ∧ (1 ≤ r 68 n ∧ r 68 n < (N : Int)) ∧ ∀ j : Int, (0 ≤ j ∧ j ≤ r 68 n) → cuN c n (P j)
theorem st_pre {X : Xv} {w d l : Int} {m : Mem} (hI : Inv X w d l m) {n : Int} (hn : 0 ≤ n ∧ n < m 9 14) (hc : canF m m n) : ∃ P K, SF w d l (nC X) m m n P K := by
  obtain ⟨hB, hl, hW, hR, h60, h31⟩ := id hI
  have hD := hB.1
  have hN := hB.2.1
  have h8 := hW.1.2.1
  have hn8 : 0 ≤ n ∧ n < 8 := by omega
  have hWn := hW.2.2.1 n hn8
  obtain ⟨P, K, h1, h2, h3⟩ := net_trl hD hn8 hW.2.1 (hR.2.1 n hn8) hc.1
  have hq0 := (hR.2.1 n hn8).2.2.1.1.1
  have hc3 := hc.2.2
  refine ⟨P, K, h1, h2, h3, ⟨by omega, trl_len hN hq0 h1⟩, fun j hj => ?_⟩
  have hx := h1.1 j hj
  refine Or.inr ((hWn.1 (P j) hx).2.2.1.mpr (fun hz => ?_))
  have hbit : ∃ k : Int, bt (m 19 (n * (w * d * l) + P j)) k.toNat = true := by
    by_cases hjq : j < m 68 n
    · obtain ⟨k1, k2, k3⟩ := h1.2.1 j ⟨hj.1, hjq⟩
      exact ⟨K j, (h1.2.2.2 (P j) (K j) hx k1 k2).mpr ⟨j, ⟨hj.1, hjq⟩, Or.inl ⟨rfl, rfl⟩⟩⟩
    · obtain ⟨k1, k2, k3⟩ := h1.2.1 (j - 1) (by omega)
      have hne := nx_opp_ne hD (h1.1 (j - 1) (by omega)) k1 k2
      rw [k3, show j - 1 + 1 = j by omega] at hne
      exact ⟨oppF (K (j - 1)), (h1.2.2.2 (P j) (oppF (K (j - 1))) hx (opp_in k1) hne).mpr ⟨j - 1, by omega, Or.inr ⟨by rw [show j - 1 + 1 = j by omega], rfl⟩⟩⟩
  obtain ⟨k, hk⟩ := hbit
  rw [hz, bt_zero] at hk
  cases hk
/-- the class's traces behind the bends are those of the moves laid anew -/
theorem st_cls {w d l n q : Int} {P K : Int → Int} {m m1 mm : Mem} {U : Int → Prop} {ks : List Int} {L0 len : Int} {cu : Int → Prop} (hD : okD w d l) (hS : WS w d l m) (hnn : 0 ≤ n ∧ n < m 9 14) (hP0 : inC w d l (P 0)) (g17 : m1 17 = m 17) (g19 : m1 19 = m 19) (hCL : CL w d l n q P K m1 q U ks mm) (hB : BI w d l cu P L0 q U len ks) : WM w d l (adP w d l (w * d * l) n ks (P 0) (rmT (w * d * l) n m)) ∧ tsame w d l n m (adP w d l (w * d * l) n ks (P 0) (rmT (w * d * l) n m)) ∧ rows19 w d l (adP w d l (w * d * l) n ks (P 0) (rmT (w * d * l) n m)) mm ∧ ∀ x, inC w d l x → mm 17 x = adP w d l (w * d * l) n ks (P 0) (rmT (w * d * l) n m) 17 x := by
  have h8 := hS.1.1.2.1
  have hn8 : 0 ≤ n ∧ n < 8 := by omega
  obtain ⟨hS', ts'⟩ := WS_adP hD hn8 (ks := ks) (x := P 0) hP0 hB.1 (WS_rmT hS hn8) (by rw [rmT_ne (by decide) (by decide)]; exact hnn.2)
  have hbits := fun z k hz hk => adP_bits (n := n) ks (P 0) (rmT (w * d * l) n m) hP0 hB.1 z k hz hk
  have ts := tsame_tr (rmT_tsame (w := w) (d := d) (l := l) hn8 (fun x hx => (hS.1.2.2.2 x hx).2)) ts'
  obtain ⟨c', hc'⟩ : ∃ c', c' = adP w d l (w * d * l) n ks (P 0) (rmT (w * d * l) n m) := ⟨_, rfl⟩
  rw [← hc'] at hS' ts hbits ⊢
  obtain ⟨t1, t2, t3, t4, t5⟩ := hCL
  have hrow : ∀ x, inC w d l x → mm 19 (n * (w * d * l) + x) = c' 19 (n * (w * d * l) + x) := by
    intro x hx
    have v1 := (t3 x hx).1
    have v2 := ((hS'.1.2.2.1 n hn8).1 x hx).1.2
    refine bt_ext (inR_small (by omega)) (inR_small (by omega)) (fun k hk => ?_)
    by_cases h6 : k < 6
    · have e1 := t2 x (k : Int) hx (by omega)
      have e2 := hbits x (k : Int) hx (by omega)
      rw [Int.toNat_natCast] at e1 e2
      rw [rmT_row hx, if_pos rfl, bt_zero] at e2
      refine Bool.eq_iff_iff.mpr ?_
      rw [e1, e2]
      constructor
      · rintro (h | ⟨j, hj, -⟩)
        · exact Or.inr h
        · omega
      · rintro (h | h)
        · cases h
        · exact Or.inl h
    · rw [bt_small (n := 6) (inR_small (by omega)) v1.1 v1.2 (by omega), bt_small (n := 6) (inR_small (by omega)) v2.1 v2.2 (by omega)]
  refine ⟨hS'.1, ts, fun n' x hn' hx => ?_, fun x hx => ?_⟩
  · by_cases e : n' = n
    · rw [e]; exact hrow x hx
    · rw [t1.2.1 n' x hn' e hx, ts.2.1 n' x hn' e hx, g19]
  · have v1 := (t3 x hx).2
    have v2 := (hS'.1.2.2.2 x hx).2
    refine bt_ext (inR_small (by omega)) (inR_small (by omega)) (fun k hk => ?_)
    by_cases h8 : k < 8
    · by_cases e : (k : Int) = n
      · have a := t5 x hx
        have b := ((hS'.1.2.2.1 n hn8).1 x hx).2.2.1
        rw [hrow x hx, ← b, show n.toNat = k by omega] at a
        exact Bool.eq_iff_iff.mpr a
      · rw [t1.2.2 x k hx e, ts.2.2 x k hx e, g17]
    · rw [bt_small (n := 8) (inR_small (by omega)) v1.1 v1.2 (by omega), bt_small (n := 8) (inR_small (by omega)) v2.1 v2.2 (by omega)]
theorem bdS_lim {w d l : Int} (hD : okD w d l) {N : Nat} (hN : w * d * l = (N : Int)) {fr cu : Int → Prop} {P K row : Int → Int} {L0 q : Int} (hT : TrL w d l row q P K) (hcu : ∀ j : Int, (0 ≤ j ∧ j ≤ q) → cu (P j)) (hq : 0 ≤ q) {a b : Int} (hL0 : L0 ≤ 972) (ha : 2000 ≤ a) (hb : 2000 ≤ b) : ∀ i : Nat, (i : Int) ≤ q → bdS w d l a fr cu P K L0 i = bdS w d l b fr cu P K L0 i := by
  have hc4 := okD_cells hD
  intro i
  induction i with
  | zero => intro _; rfl
  | succ i ih =>
    intro hi
    have e := ih (by omega)
    have hBI := bdS_ok (lim := a) (fr := fr) (L0 := L0) hD hT hcu hq i (by omega)
    have hl := BI_len hN hBI
    have hlen := hBI.2.2.2.2.2.2.1
    have hp : (K (i : Int) < 4 ∧ (bdS w d l a fr cu P K L0 i).2.1 + 2 ≤ a) = (K (i : Int) < 4 ∧ (bdS w d l a fr cu P K L0 i).2.1 + 2 ≤ b) := propext ⟨fun h => ⟨h.1, by omega⟩, fun h => ⟨h.1, by omega⟩⟩
    have eN : bdN w d l a fr P K (bdS w d l a fr cu P K L0 i).1 (bdS w d l a fr cu P K L0 i).2.1 i = bdN w d l b fr P K (bdS w d l a fr cu P K L0 i).1 (bdS w d l a fr cu P K L0 i).2.1 i := by
      unfold bdN
      rw [hp]
    unfold bdS
    rw [eN, e]
theorem c_X12_stretch (X : Xv) (c m : Mem) {w d l : Int} (hD : okD w d l) (hN : w * d * l = (nC X : Int)) (hM : WM w d l c) (hR : RR w d l c m) (n s : Int) (P K : Int → Int) (hF : (0 ≤ n ∧ n < c 9 14) ∧ canF c m n → SF w d l (nC X) c m n P K) : kCall (eX X) 7 M_X12_stretch.1 [vR 54, vI n, vI s] m (fun r m' => (¬ (((0 ≤ n ∧ n < c 9 14) ∧ canF c m n) ∧ (0 ≤ s ∧ s ≤ 200)) ∧ r = some (vI (-1)) ∧ m' = m) ∨ ((((0 ≤ n ∧ n < c 9 14) ∧ canF c m n) ∧ (0 ≤ s ∧ s ≤ 200)) ∧ r = some (vI (bdS w d l s (frT w d l (fun _ => True) c n 0) (cuN c n) P K (lenA (nC X) c n) (m 68 n).toNat).2.1) ∧ RR w d l (adP w d l (w * d * l) n (bdS w d l s (frT w d l (fun _ => True) c n 0) (cuN c n) P K (lenA (nC X) c n) (m 68 n).toNat).2.2 (P 0) (rmT (w * d * l) n c)) m' ∧ ∀ o, o < 54 → m' o = m o)) := by
  refine kCall_ofT ok_X12_stretch rfl (Nat.le_of_ble_eq_true rfl) (fun T hT => ?_)
  have hno : ¬ (((0 ≤ n ∧ n < c 9 14) ∧ canF c m n) ∧ (0 ≤ s ∧ s ≤ 200)) → T (some (vI (-1))) m := fun h => hT _ _ (Or.inl ⟨h, rfl, rfl⟩)
  refine kW_go ok_X12_stretch [] 20 ?_
  refine kCall_mono (c_X12_isStretched X c m hM.1 (RR_0 hR) n) (Nat.le_of_ble_eq_true rfl) ?_
  rintro _ m1 ⟨⟨hh, rfl⟩ | ⟨hh, rfl⟩, rfl⟩
  · refine And.intro (fun h => absurd h (by decide)) (fun _ => ?_)
    refine kCall_mono (c_X12_in (eX X) m1 s 0 200) (Nat.le_of_ble_eq_true rfl) ?_
    rintro _ m2 ⟨rfl, rfl⟩
    refine And.intro (fun h => hno (fun q => b2i_0.mp h q.2)) (fun h => ?_)
    have hs := b2i_n.mp h
    obtain ⟨f1, f2, f3, f4, f5⟩ := hF hh
    refine kCall_mono (c_X12_stretched X c m2 hD hN hM hR n s (m2 68 n) P K hh.1 f1 rfl f4.1 hh.2.1 f2 f3 f5) (Nat.le_of_ble_eq_true rfl) ?_
    rintro _ m3 ⟨rfl, hR3, -, hf3⟩
    exact hT _ _ (Or.inr ⟨⟨hh, hs⟩, rfl, hR3, hf3⟩)
  · exact And.intro (fun _ => hno (fun q => hh q.1)) (fun h => absurd rfl h)
theorem c_X12_span (X : Xv) (c m : Mem) {w d l : Int} (hD : okD w d l) (hN : w * d * l = (nC X : Int)) (hS : WS w d l c) (hR : RR w d l c m) (n : Int) (P K : Int → Int) (hF : (0 ≤ n ∧ n < c 9 14) ∧ canF c m n → SF w d l (nC X) c m n P K) : kCall (eX X) 7 M_X12_span.1 [vR 54, vI n] m (fun r m' => (¬ ((0 ≤ n ∧ n < c 9 14) ∧ canF c m n) ∧ r = some (vI (-1)) ∧ m' = m) ∨ (((0 ≤ n ∧ n < c 9 14) ∧ canF c m n) ∧ r = some (vI (bdS w d l 1000000000 (frT w d l (fun _ => True) c n 0) (cuN c n) P K (lenA (nC X) c n) (m 68 n).toNat).2.1) ∧ RR w d l c m' ∧ ∀ o, o < 54 → m' o = m o)) := by
  have hM := hS.1
  have h8 := hM.1.2.1
  refine kCall_ofT ok_X12_span rfl (Nat.le_of_ble_eq_true rfl) (fun T hT => ?_)
  refine kW_go ok_X12_span [] 20 ?_
  refine kCall_mono (c_X12_isStretched X c m hM.1 (RR_0 hR) n) (Nat.le_of_ble_eq_true rfl) ?_
  rintro _ m1 ⟨⟨hh, rfl⟩ | ⟨hh, rfl⟩, rfl⟩
  · refine And.intro (fun _ => ?_) (fun h => absurd h (by decide))
    have hn8 : 0 ≤ n ∧ n < 8 := by omega
    obtain ⟨f1, f2, f3, f4, f5⟩ := hF hh
    refine kCall_mono (c_X12_stretched X c m1 hD hN hM hR n 1000000000 (m1 68 n) P K hh.1 f1 rfl f4.1 hh.2.1 f2 f3 f5) (Nat.le_of_ble_eq_true rfl) ?_
    rintro _ m3 ⟨rfl, hR3, hSV, hf3⟩
    have hBI := bdS_ok (lim := 1000000000) (fr := frT w d l (fun _ => True) c n 0) (L0 := lenA (nC X) c n) hD f1 f5 (by omega) (m1 68 n).toNat (by omega)
    have tc := rmT_tsame (w := w) (d := d) (l := l) hn8 (fun x hx => (hM.2.2.2 x hx).2)
    obtain ⟨-, ts'⟩ := WS_adP hD hn8 (x := P 0) (f1.1 0 (by omega)) hBI.1 (WS_rmT hS hn8) (by rw [rmT_ne (by decide) (by decide)]; exact hh.1.2)
    refine kCall_mono (c_X12_putBackR X c _ m3 hD hn8 (RR_0 hR3) (tsame_tr tc ts') hSV (hM.2.2.1 n hn8)) (Nat.le_of_ble_eq_true rfl) ?_
    rintro _ m4 ⟨rfl, hR4, hrs, e54, -, -⟩
    exact hT _ _ (Or.inr ⟨hh, rfl, ⟨hR4.1, hR4.2, by rw [e54]; exact hR3.2.2.1, by rw [e54]; exact hR3.2.2.2⟩, fun o ho => by rw [hrs.2.1 o ho, hf3 o ho]⟩)
  · exact And.intro (fun h => absurd rfl h) (fun _ => hT _ _ (Or.inl ⟨hh, rfl, rfl⟩))
