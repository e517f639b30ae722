/-! WHY alike -/
theorem okC_and {w d l : Int} {c : Mem} {n s M : Int} {ex : Int → Int} (hM : WM w d l c) (hn : 0 ≤ n ∧ n < 8) (hT : trM w d l c n M) (hs : vSet (c 9 14) n s) : okC w d l c n ex (kand s M) ↔ okC w d l c n ex s := by
  unfold okC okR okV
  rw [Fs_and hM hn hT hs]
theorem vSet_sub {w d l : Int} {c : Mem} {n s M : Int} (hM : WM w d l c) (hT : trM w d l c n M) (hs : 0 ≤ s ∧ s < 256) (hsub : ∀ k, bt s k = true → bt M k = true) : vSet (c 9 14) n s := by
  refine ⟨hs, fun k hk => ?_⟩
  obtain ⟨hkn, x, hx, hbx⟩ := (hT.2 k).mp (hsub k hk)
  refine ⟨Int.lt_of_not_ge (fun hge => ?_), hkn⟩
  by_cases h8k : k < 8
  · have := no_cu hM hx h8k hge
    rw [this.2] at hbx
    cases hbx
  · have hvx := hM.2.2.2 x hx
    rw [bt_small (n := 8) (inR_small (by omega)) hvx.2.1 hvx.2.2 (by omega)] at hbx
    cases hbx
theorem sub_k {s M : Int} : kand s (kxor M (-1)) = 0 ↔ ∀ k, bt s k = true → bt M k = true := by
  rw [k_and0]
  constructor
  · intro h k hk
    by_cases h32 : k < 32
    · cases hMk : bt M k with
      | true => rfl
      | false => exact absurd ⟨hk, by rw [bt_not h32, hMk]; rfl⟩ (h k h32)
    · rw [bt_ge _ (by omega)] at hk; cases hk
  · rintro h k h32 ⟨a, b⟩
    rw [bt_not h32, h k a] at b
    cases b
set_option maxRecDepth 100000 in
theorem c_X1_fewestByRows (X : Xv) (m : Mem) {w d l : Int} (hI : Inv X w d l m) (n : Int) (hnn : 0 ≤ n ∧ n < m 9 14) (hp1 : 1 ≤ m 13 n) : kCall (eX X) 6 M_X1_fewestByRows.1 [vR 40, vI n] m (fun r m' => ∃ z, r = some (vI z) ∧ leastS (m 9 14) n (okC w d l m n (m 31)) z ∧ rows19 w d l m m' ∧ (∀ x, inC w d l x → m' 17 x = m 17 x) ∧ ∀ o, o < 17 ∨ o = 18 ∨ o = 31 ∨ 36 < o → m' o = m o) := by
  obtain ⟨hB, hl, hW, hR, h60, h31⟩ := id hI
  obtain ⟨hD, hN, hG⟩ := id hB
  have hc4 := okD_cells hD
  have hWS := Inv_WS hI
  have hM := hWS.1
  have h8 := hM.1.2.1
  have hn8 : 0 ≤ n ∧ n < 8 := by omega
  refine kCall_ofT ok_X1_fewestByRows rfl (Nat.le_of_ble_eq_true rfl) (fun T hT => ?_)
  refine kW_go ok_X1_fewestByRows [1] 20 ?_
  refine kCall_mono (c_X1_fewestBars X m hB hM n 6 hnn hp1 (by omega)) (Nat.le_of_ble_eq_true rfl) ?_
  rintro _ m1 ⟨z0, rfl, hz0, hf1, hlk1, hin1⟩
  refine And.intro (fun hne => ?_) (fun he => ?_)
  · have hI1 : Inv X w d l m1 := inv_k hI (fun o ho => hf1 o (by omega))
    refine kW_go ok_X1_fewestByRows [2] 20 ?_
    refine kCall_mono (c_X1_othersWithTraces X m1 hI1.1 (WF_WM hI1.2.2.1) n hn8) (Nat.le_of_ble_eq_true rfl) ?_
    rintro _ m1' ⟨M, rfl, hT', rfl⟩
    have hTM : trM w d l m n M := by
      unfold trM at hT' ⊢
      rw [hf1 17 (by omega)] at hT'
      exact hT'
    have hMb := hTM.1
    have hpM := pop_in M
    have hMv : ∀ s, vSet (m 9 14) n s → vSet (m 9 14) n (kand s M) := fun s hs => vSet_and hs
    have hMo : ∀ s, vSet (m 9 14) n s → okC w d l m n (m 31) s → okC w d l m n (m 31) (kand s M) := fun s hs h => (okC_and hM hn8 hTM hs).mpr h
    refine kCall_mono (kCall_in (c_save X hI1)) (Nat.le_of_ble_eq_true rfl) ?_
    rintro _ m2 ⟨⟨rfl, hI2, hS2, hf2⟩, hin2⟩
    have hfm2 : ∀ o, o < 20 ∨ 29 < o → m2 o = m o := fun o ho => by rw [hf2 o (by omega) (by omega)]; exact hf1 o (by omega)
    have hSm : Sv w d l m m2 := by
      unfold Sv at hS2 ⊢
      rw [← hfm2 17 (by omega), ← hfm2 19 (by omega)]
      exact hS2
    have hlk2 := looked_same hlk1 (fun o a b => hf2 o (by omega) (by omega))
    -- what the search keeps
    obtain ⟨K, hK⟩ : ∃ K : Mem → Prop, ∀ mm, K mm ↔ ((∀ o, o < 17 ∨ o = 18 ∨ o = 31 ∨ 36 < o → mm o = m o) ∧ mm 20 = m2 20 ∧ mm 21 = m2 21 ∧ rmT (w * d * l) n mm 19 = rmT (w * d * l) n m 19 ∧ rmT (w * d * l) n mm 17 = rmT (w * d * l) n m 17 ∧ looked w d l X m mm n 0 ∧ ∀ o i, inR (mm o i)) := ⟨_, fun _ => Iff.rfl⟩
    have six : ∀ (z c : Int) (x5 x6 : Option AV) (mm : Mem), K mm → leastS (m 9 14) n (okC w d l m n (m 31)) z → kW (eX X) 5 M_X1_fewestByRows T 6 [some (vR 40), some (vI n), some (vI M), some (vI z), some (vI c), x5, x6] [] mm := by
      intro z c x5 x6 mm hk hz
      obtain ⟨k1, k2, k3, -⟩ := (hK mm).mp hk
      refine kW_go ok_X1_fewestByRows [] 20 ?_
      refine kCall_mono (c_back X hN (Sv_same k2 k3 hSm)) (Nat.le_of_ble_eq_true rfl) ?_
      rintro _ m3 ⟨rfl, h19, h17, h3⟩
      exact hT _ _ ⟨z, rfl, hz, h19, h17, fun o ho => by rw [h3 o (by omega) (by omega)]; exact k1 o ho⟩
    obtain ⟨H, hH⟩ : ∃ H : Int → Int → Prop, ∀ c i, H c i ↔ ∀ j : Int, (0 ≤ j ∧ j < 256) → (pop (rvS j) < c ∨ (pop (rvS j) = c ∧ i < j)) → (∀ k, bt (rvS j) k = true → bt M k = true) → ¬ okC w d l m n (m 31) (rvS j) := ⟨_, fun _ _ => Iff.rfl⟩
    have outer : ∀ (q : Nat) (c : Int) (mm : Mem) (x5 x6 : Option AV), c + q = pop M + 1 → 0 ≤ c → H c 256 → K mm → kW (eX X) 5 M_X1_fewestByRows T 2 [some (vR 40), some (vI n), some (vI M), some (vI (-1)), some (vI c), x5, x6] [] mm := by
      intro q
      induction q with
      | zero =>
        intro c mm x5 x6 hq h0 hc hk
        refine kW_go ok_X1_fewestByRows [6] 20 ?_
        refine kCall_mono (c_bitCount (eX X) mm M hMb.1 hMb.2) (Nat.le_of_ble_eq_true rfl) ?_
        rintro _ m5 ⟨rfl, rfl⟩
        exact And.intro (fun _ => six (-1) c x5 x6 m5 hk (none_least hMb hMo (fun j hj hpj hsub => (hH c 256).mp hc j hj (Or.inl (by omega)) hsub))) (fun h => absurd h (by omega))
      | succ q ih =>
        intro c mm x5 x6 hq h0 hc hk
        have inner : ∀ (p : Nat) (i : Int) (mm : Mem) (x6 : Option AV), i + 1 = p → i < 256 → H c i → K mm → kW (eX X) 5 M_X1_fewestByRows T 3 [some (vR 40), some (vI n), some (vI M), some (vI (-1)), some (vI c), some (vI i), x6] [] mm := by
          intro p
          induction p with
          | zero =>
            intro i mm x6 hp hi hc hk
            refine kW_go ok_X1_fewestByRows [2, 3] 20 ?_
            refine And.intro (fun _ => ⟨by constructor <;> omega, ih (c + 1) mm _ _ (by omega) (by omega) ((hH _ _).mpr (fun j hj hcj hsub => (hH c i).mp hc j hj (by omega) hsub)) hk⟩) (fun h => absurd h (by omega))
          | succ p ihp =>
            intro i mm x6 hp hi hc hk
            have hi0 : 0 ≤ i ∧ i < 256 := by omega
            have hr := rvS_in hi0
            obtain ⟨k1, k2, k3, k4, k5, k6, k7⟩ := (hK mm).mp hk
            have hskip : ∀ (m5 : Mem) (x6 : Option AV), ((pop (rvS i) = c) → (∀ k, bt (rvS i) k = true → bt M k = true) → ¬ okC w d l m n (m 31) (rvS i)) → K m5 → inR (i + -1) ∧ kW (eX X) 5 M_X1_fewestByRows T 3 [some (vR 40), some (vI n), some (vI M), some (vI (-1)), some (vI c), some (vI (i + -1)), x6] [] m5 := by
              intro m5 x6 h1 h2
              refine ⟨by constructor <;> omega, ihp (i + -1) m5 x6 (by omega) (by omega) ((hH _ _).mpr (fun j hj hcj hsub => ?_)) h2⟩
              by_cases e : j = i ∧ pop (rvS j) = c
              · rw [e.1] at hsub ⊢
                exact h1 (by rw [← e.1]; exact e.2) hsub
              · exact (hH c i).mp hc j hj (by omega) hsub
            refine kW_go ok_X1_fewestByRows [3, 5] 20 ?_
            refine And.intro (fun h => absurd h (by omega)) (fun _ => And.intro (fun h => absurd rfl h) (fun _ => ?_))
            refine kCall_mono (c_X1_setAt X mm i c M hi0) (Nat.le_of_ble_eq_true rfl) ?_
            rintro _ m5 ⟨rfl, ⟨he, hns, rfl⟩ | ⟨hno, rfl⟩⟩
            · refine And.intro (fun h => absurd h (by have := hr.1.1; omega)) (fun _ => ?_)
              have hsub := sub_k.mp hns
              refine kCall_mono (c_X1_layFlat X m m5 hB hWS n (rvS i) hnn hp1 h31 (fun o ho => k1 o (by omega)) k4 k5 k6 k7) (Nat.le_of_ble_eq_true rfl) ?_
              rintro _ m6 ⟨⟨hq6, f6, g19, g17, gl⟩, gin⟩
              have hk6 : K m6 := (hK _).mpr ⟨fun o ho => by rw [f6 o (by omega)]; exact k1 o ho, by rw [f6 20 (by omega)]; exact k2, by rw [f6 21 (by omega)]; exact k3, g19, g17, gl, gin⟩
              rcases hq6 with ⟨hok, rfl⟩ | ⟨hok, rfl⟩
              · refine And.intro (fun h => absurd h (by decide)) (fun _ => ?_)
                have hz := found_least hMb hMv hMo hi0 he (vSet_sub hM hTM hr.1 hsub) hok hsub ((hH c i).mp hc)
                have hne : rvS i ≠ -1 := by have := hr.1.1; omega
                have hfive : ∀ x6, kW (eX X) 5 M_X1_fewestByRows T 5 [some (vR 40), some (vI n), some (vI M), some (vI (rvS i)), some (vI c), some (vI (i + -1)), x6] [] m6 := by
                  intro x6
                  refine kW_go ok_X1_fewestByRows [6] 20 ?_
                  refine ⟨by constructor <;> omega, ?_⟩
                  refine kCall_mono (c_bitCount (eX X) m6 M hMb.1 hMb.2) (Nat.le_of_ble_eq_true rfl) ?_
                  rintro _ m7 ⟨rfl, rfl⟩
                  exact And.intro (fun _ => six _ _ _ _ m7 hk6 hz) (fun _ => And.intro (fun _ => six _ _ _ _ m7 hk6 hz) (fun h => absurd h hne))
                have hthree : ∀ x6, kW (eX X) 5 M_X1_fewestByRows T 3 [some (vR 40), some (vI n), some (vI M), some (vI (rvS i)), some (vI c), some (vI (i + -1)), x6] [] m6 := by
                  intro x6
                  refine kW_go ok_X1_fewestByRows [5] 20 ?_
                  exact And.intro (fun _ => hfive _) (fun _ => And.intro (fun _ => hfive _) (fun h => absurd h hne))
                exact ⟨by constructor <;> omega, hthree _⟩
              · exact And.intro (fun _ => hskip m6 _ (fun _ _ => hok) hk6) (fun h => absurd rfl h)
            · exact And.intro (fun _ => hskip m5 _ (fun he hsub => absurd ⟨he, sub_k.mpr hsub⟩ hno) hk) (fun h => absurd rfl h)
        refine kW_go ok_X1_fewestByRows [3, 6] 20 ?_
        refine kCall_mono (c_bitCount (eX X) mm M hMb.1 hMb.2) (Nat.le_of_ble_eq_true rfl) ?_
        rintro _ m5 ⟨rfl, rfl⟩
        refine And.intro (fun h => absurd h (by omega)) (fun _ => And.intro (fun h => absurd rfl h) (fun _ => ?_))
        exact inner 256 255 m5 _ (by omega) (by omega) ((hH _ _).mpr (fun j hj hcj hsub => (hH c 256).mp hc j hj (by omega) hsub)) hk
    have hgo := outer (pop M + 1).toNat 0 m2 none none (by omega) (by omega) ((hH _ _).mpr (fun j hj hcj _ => by have := pop_in (rvS j); omega)) ((hK _).mpr ⟨fun o ho => hfm2 o (by omega), rfl, rfl, by funext j; rw [rmT_19, rmT_19, hfm2 19 (by omega)], by funext j; rw [rmT_17, rmT_17, hfm2 17 (by omega)], hlk2, hin2⟩)
    exact hgo
  · have he : z0 = -1 := he
    refine hT _ _ ⟨-1, rfl, Or.inl ⟨rfl, fun s hs h => ?_⟩, fun n' x _ _ => by rw [hf1 19 (by omega)], fun x _ => by rw [hf1 17 (by omega)], fun o ho => hf1 o (by omega)⟩
    rcases hz0 with ⟨-, h0⟩ | ⟨h0, -⟩
    · exact h0 s hs h.1
    · have := h0.1.1; omega
theorem noHoles {w d l : Int} {N : Nat} {c : Mem} {n : Int} (hD : okD w d l) (hN : w * d * l = (N : Int)) (hM : WS w d l c) (hn : 0 ≤ n ∧ n < 8) (h : ∀ x : Int, (0 ≤ x ∧ x < (N : Int)) → kand (c 18 (n * (N : Int) + x)) 16 = 0) : ownV w d l n 4 (rmT (w * d * l) n c) := by
  have h16 : ∀ v : Int, kand v 16 = 0 ↔ bt v 4 = false := by
    intro v
    have := k_ask0 (v := v) (n := 4) (by decide) (by decide)
    rw [k_and0]
    have hb : ∀ k : Fin 32, bt 16 k.val = decide (k.val = 4) := by decide +kernel
    constructor
    · intro h
      cases hh : bt v 4 with
      | false => rfl
      | true => exact absurd ⟨hh, by rw [hb ⟨4, by decide⟩]; rfl⟩ (h 4 (by decide))
    · rintro hv k hk ⟨a, b⟩
      rw [hb ⟨k, hk⟩, decide_eq_true_eq] at b
      have b : k = 4 := b
      rw [b, hv] at a
      cases a
  have h4 : ∀ x, inC w d l x → bt (c 18 (n * (w * d * l) + x)) 4 = false := fun x hx => by rw [hN]; exact (h16 _).mp (h x ⟨hx.1, by have := hx.2; omega⟩)
  rintro a b ha ⟨k, hk, h1, h2, h3⟩
  refine ⟨k, ⟨hk.1, ?_⟩, h1⟩
  unfold mvB at h3
  rw [rmT_ne (o := 18) (by decide) (by decide), bt_or, Bool.or_eq_true, rmT_row ha, if_pos rfl, bt_zero] at h3
  have h3 := h3.resolve_right (by decide)
  refine Int.lt_of_not_ge (fun hge => ?_)
  by_cases e4 : k = 4
  · rw [e4] at h3
    rw [show (4 : Int).toNat = 4 from rfl, h4 a ha] at h3
    cases h3
  · have e5 : k = 5 := by omega
    subst e5
    have hne : nx w d l a 5 ≠ -1 := by rw [h1]; exact h2
    have hs := (hM.2 n hn a 5 ha hk hne).1 h3
    rw [show oppF 5 = 4 from rfl, show (4 : Int).toNat = 4 from rfl, h4 _ (nx_in hne).1] at hs
    cases hs
set_option maxRecDepth 100000 in
theorem pair_why (X : Xv) (m : Mem) {w d l : Int} (hI : Inv X w d l m) (n : Int) : kPair X 167 308 [vI n] m (Inv X w d l) := by
  obtain ⟨hB, hl, hW, hR, h60, h31⟩ := id hI
  obtain ⟨hD, hN, hG⟩ := id hB
  have hc4 := okD_cells hD
  have hM := WF_WM hW
  have hWS := Inv_WS hI
  have h8 := hW.1.2.1
  have g4 : m 1 4 = (nC X : Int) := by rw [hG.2.2.2.2.1, hN]
  refine kp2 (k1 := 8) (k2 := 11) (by decide) (by decide) ?_
  refine kCall_ofT ok_X11_why rfl (Nat.le_of_ble_eq_true rfl) (fun T hT => ?_)
  have hno : ¬ ((0 ≤ n ∧ n < m 9 14) ∧ m 13 n ≠ 0) → T (some (vI (-1))) m := by
    intro h
    refine hT _ _ ⟨_, rfl, kCall_mono (c_X12_why X m m hD hM hR h31 n) (Nat.le_refl _) ?_⟩
    rintro _ m2 (⟨-, rfl, rfl⟩ | ⟨h2, -⟩)
    · exact ⟨rfl, hI⟩
    · exact absurd h2 h
  refine kW_go ok_X11_why [] 20 ?_
  refine kCall_mono (c_X11_isNet X m n) (Nat.le_of_ble_eq_true rfl) ?_
  rintro _ m ⟨rfl, rfl⟩
  refine And.intro (fun h => hno (fun q => b2i_0.mp h q.1)) (fun h => ?_)
  have hnn := b2i_n.mp h
  have hn8 : 0 ≤ n ∧ n < 8 := by omega
  have hnb : 0 ≤ n ∧ n < ((8 : Nat) : Int) := hn8
  have hP4 := (hM.2.1.1 n hn8).1
  refine ⟨hnb, And.intro (fun hp => ?_) (fun hp => ?_)⟩
  · have hp : m 13 n ≤ 0 := hp
    exact hno (fun q => q.2 (by omega))
  have hp : 0 < m 13 n := hp
  have hfin : ∀ (z : Int) (m3 : Mem), leastS (m 9 14) n (okR w d l m n 4 (m 31)) z → rows19 w d l m m3 → (∀ x, inC w d l x → m3 17 x = m 17 x) → (∀ o, o < 17 ∨ o = 18 ∨ o = 31 ∨ 36 < o → m3 o = m o) → T (some (vI z)) m3 := by
    intro z m3 hz h19 h17 hf
    have hR3 : RR w d l m m3 := RR_ref (fun o a _ => hf o (by omega)) hR
    refine hT _ _ ⟨_, rfl, kCall_mono (c_X12_why X m m3 hD hM hR3 h31 n) (Nat.le_refl _) ?_⟩
    rintro _ m4 (⟨h2, -⟩ | ⟨-, ⟨z2, rfl, hz2⟩, hR4, hf4⟩)
    · exact absurd ⟨hnn, by omega⟩ h2
    exact ⟨by rw [leastS_one (fun s _ => Iff.rfl) hz hz2], inv_back2 hI (fun o ho a b => hf o (by omega)) h19 h17 hf4 hR4⟩
  have hwhy : kCall (eX X) 7 M_X1_whyVias.1 [vR 40, vI n] m (fun r m' => ∃ z, r = some (vI z) ∧ leastS (m 9 14) n (okR w d l m n 4 (m 31)) z ∧ rows19 w d l m m' ∧ (∀ x, inC w d l x → m' 17 x = m 17 x) ∧ ∀ o, o < 17 ∨ o = 18 ∨ o = 31 ∨ 36 < o → m' o = m o) := by
    refine kCall_ofT ok_X1_whyVias rfl (Nat.le_of_ble_eq_true rfl) (fun T2 hT2 => ?_)
    have hholes : kCall (eX X) 2 M_X3_hasHoles.1 [vR 9, vI n] m (fun r m' => (((∃ c : Int, (0 ≤ c ∧ c < (nC X : Int)) ∧ kand (m 18 (n * (nC X : Int) + c)) 16 ≠ 0) ∧ r = some (vI 1)) ∨ ((∀ c : Int, (0 ≤ c ∧ c < (nC X : Int)) → kand (m 18 (n * (nC X : Int) + c)) 16 = 0) ∧ r = some (vI 0))) ∧ m' = m) := by
      refine kCall_ofT ok_X3_hasHoles rfl (Nat.le_of_ble_eq_true rfl) (fun T3 hT3 => ?_)
      refine kW_go ok_X3_hasHoles [] 20 ?_
      refine kCall_mono (c_X3_anyMove_w X m n 16 (by omega) g4 hn8) (Nat.le_of_ble_eq_true rfl) ?_
      rintro _ m2 ⟨⟨h, rfl⟩ | ⟨h, rfl⟩, rfl⟩
      · exact hT3 _ _ ⟨Or.inr rfl, Or.inl ⟨h, rfl⟩, rfl⟩
      · exact hT3 _ _ ⟨Or.inl rfl, Or.inr ⟨h, rfl⟩, rfl⟩
    refine kW_go ok_X1_whyVias [] 20 ?_
    refine kCall_mono hholes (Nat.le_of_ble_eq_true rfl) ?_
    rintro _ m2 ⟨⟨hh, rfl⟩ | ⟨hh, rfl⟩, rfl⟩
    · refine And.intro (fun h => absurd h (by decide)) (fun _ => ?_)
      refine kCall_mono (c_X1_fewestByRows X m2 hI n hnn (by omega)) (Nat.le_of_ble_eq_true rfl) ?_
      rintro _ m3 ⟨z, rfl, hz, a, b, e⟩
      refine hT2 _ _ ⟨z, rfl, ?_, a, b, e⟩
      have he : ∀ s, okC w d l m2 n (m2 31) s ↔ okR w d l m2 n 4 (m2 31) s := fun s => ⟨fun h => h.2, fun h => ⟨okR_V6 hD hWS hn8 (by omega) (Or.inl rfl) h, h⟩⟩
      rw [show okC w d l m2 n (m2 31) = okR w d l m2 n 4 (m2 31) from funext (fun s => propext (he s))] at hz
      exact hz
    · refine And.intro (fun _ => ?_) (fun h => absurd rfl h)
      refine kCall_mono (c_X1_fewestBars X m2 hB hM n 4 hnn (by omega) (by omega)) (Nat.le_of_ble_eq_true rfl) ?_
      rintro _ m3 ⟨z, rfl, hz, hf, -, -⟩
      have hV := noHoles hD hN hWS hn8 hh
      refine hT2 _ _ ⟨z, rfl, ?_, fun n' x _ _ => by rw [hf 19 (by omega)], fun x _ => by rw [hf 17 (by omega)], fun o ho => hf o (by omega)⟩
      have he : ∀ s, okV w d l m2 n 4 s ↔ okR w d l m2 n 4 (m2 31) s := fun s => ⟨fun h => okV_R hD hWS hnn (by omega) (Or.inl rfl) h, fun h => okR_V4 hD hWS hn8 (by omega) hV h⟩
      rw [show okV w d l m2 n 4 = okR w d l m2 n 4 (m2 31) from funext (fun s => propext (he s))] at hz
      exact hz
  refine kCall_mono hwhy (Nat.le_of_ble_eq_true rfl) ?_
  rintro _ m3 ⟨z, rfl, hz, a, b, e⟩
  exact hfin z m3 hz a b e
