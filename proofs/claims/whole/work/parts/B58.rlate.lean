/-! LATE alike: the reference, and both -/
set_option maxRecDepth 100000 in
theorem c_X12_late (X : Xv) (c m : Mem) {w d l : Int} {ex : Int → Int} (hD : okD w d l) (hWS : WS w d l c) (hR : RR w d l c m) (hex : ∀ y, inC w d l y → ex y = 0) (n p x y z : Int) (T : Option AV → Mem → Prop)
    (hno : ¬ ((0 ≤ n ∧ n < c 9 14) ∧ (0 ≤ p ∧ p < c 13 n) ∧ ((0 ≤ x ∧ x < w) ∧ (0 ≤ y ∧ y < d) ∧ (0 ≤ z ∧ z < l)) ∧ noPin c (ix w d x y z)) → T (some (vI (-1))) m)
    (hyes : ((0 ≤ n ∧ n < c 9 14) ∧ (0 ≤ p ∧ p < c 13 n) ∧ ((0 ≤ x ∧ x < w) ∧ (0 ≤ y ∧ y < d) ∧ (0 ≤ z ∧ z < l)) ∧ noPin c (ix w d x y z)) → ∃ cP, mvd w d l n p (ix w d x y z) c cP ∧ WS w d l cP ∧ ∀ v m', leastS (c 9 14) n (okT w d l ex cP n) v → (∀ o, o < 54 → m' o = m o) → ((v = -1 ∧ RR w d l c m') ∨ (v ≠ -1 ∧ ∃ c', lwA w d l ex (cS (w * d * l) n v cP) n v true c' ∧ RR w d l c' m')) → T (some (vI v)) m') : kCall (eX X) 11 285 [vR 54, vI n, vI p, vI x, vI y, vI z] m T := by
  have hM := hWS.1
  have h8 := hM.1.2.1
  refine kCall_ofT ok_X12_late rfl (Nat.le_of_ble_eq_true rfl) (fun T0 hT0 => ?_)
  have hno : ¬ ((0 ≤ n ∧ n < c 9 14) ∧ (0 ≤ p ∧ p < c 13 n) ∧ ((0 ≤ x ∧ x < w) ∧ (0 ≤ y ∧ y < d) ∧ (0 ≤ z ∧ z < l)) ∧ noPin c (ix w d x y z)) → T0 (some (vI (-1))) m := fun h => hT0 _ _ (hno h)
  refine kW_go ok_X12_late [2] 20 ?_
  refine kCall_mono (isNetR hM.1 hR.1 n) (Nat.le_of_ble_eq_true rfl) ?_
  rintro _ m ⟨rfl, rfl⟩
  refine And.intro (fun h => hno (fun q => b2i_0.mp h q.1)) (fun h => ?_)
  have hnn := b2i_n.mp h
  have hn8 : 0 ≤ n ∧ n < 8 := by omega
  have hnb : 0 ≤ n ∧ n < ((8 : Nat) : Int) := hn8
  obtain ⟨-, e63, e64⟩ := hR.1.2.2.2.2.1 n hn8
  have hP4 := (hM.2.1.1 n hn8).1
  have hP4' : 0 ≤ m 63 n ∧ m 63 n ≤ 4 := by rw [e63]; exact hP4
  refine ⟨hnb, by constructor <;> omega, ?_⟩
  refine kCall_mono (c_X12_in (eX X) m p 0 _) (Nat.le_of_ble_eq_true rfl) ?_
  rintro _ m ⟨rfl, rfl⟩
  refine And.intro (fun h => hno (fun q => b2i_0.mp h (by have := q.2.1; omega))) (fun h => ?_)
  have hp : 0 ≤ p ∧ p < c 13 n := by have := b2i_n.mp h; omega
  refine kCall_mono (c_X12_isCell X m hR.1.1 x y z) (Nat.le_of_ble_eq_true rfl) ?_
  rintro _ m ⟨rfl, rfl⟩
  refine And.intro (fun h => ?_) (fun h => hno (fun q => b2i_0.mp h q.2.2.1))
  have hc := b2i_n.mp h
  obtain ⟨⟨w1, w2⟩, ⟨d1, d2⟩, l1, l2⟩ := id hD
  obtain ⟨t, ht⟩ : ∃ t, t = ix w d x y z := ⟨_, rfl⟩
  rw [← ht] at hno hyes
  have hti : inC w d l t := by rw [ht]; exact ix_in hc.1 hc.2.1 hc.2.2
  have htc : cR w d t = 81 * z + 9 * y + x := by rw [ht]; exact cR_ix (l := l) hc.1 hc.2.1
  have hi4p : 0 ≤ 4 * n + p ∧ 4 * n + p < ((32 : Nat) : Int) := by omega
  obtain ⟨a, hao⟩ : ∃ a, a = c 14 (n * 4 + p) := ⟨_, rfl⟩
  have hai : inC w d l a := by rw [hao]; exact hM.2.1.2.1 n p hn8 hp
  have e64p : m 64 (4 * n + p) = cR w d a := by rw [hao]; exact e64 p hp
  have hcell : ∀ mm : Mem, kCall (eX X) 1 M_X12_cell.1 [vI x, vI y, vI z] mm (cP (cR w d t) mm) := by
    intro mm
    have := c_X12_cell (eX X) mm x y z (by omega) (by omega) (by omega)
    rw [show cR w d t = 81 * z + 9 * y + x from htc]
    exact this
  refine kW_go ok_X12_late [3] 20 ?_
  refine ⟨by constructor <;> omega, by constructor <;> omega, hi4p, ?_⟩
  refine kCall_mono (hcell m) (Nat.le_of_ble_eq_true rfl) ?_
  rintro _ m ⟨rfl, rfl⟩
  have h26 : m 54 26 = c 9 14 := hR.1.2.2.2.1.1
  refine kCall_mono (c_X12_pinOn X m (cR w d t) (by rw [h26]; exact h8) (fun n' hn' => by rw [(hR.1.2.2.2.2.1 n' hn').2.1]; exact (hM.2.1.1 n' hn').1)) (Nat.le_of_ble_eq_true rfl) ?_
  rintro _ m ⟨⟨rfl, hnone⟩ | ⟨n', p', h1, h2, h3, rfl⟩, rfl⟩
  · refine And.intro (fun _ => ?_) (fun h => absurd rfl h)
    have hnp : noPin c t := by
      intro n' p' hn' hp' e
      by_cases hlt : n' < c 9 14
      · obtain ⟨-, f63, f64⟩ := hR.1.2.2.2.2.1 n' hn'
        exact hnone n' p' (by omega) (by rw [f63]; exact hp') (by rw [f64 p' hp', e])
      · have := (hM.2.1.1 n' hn').2 (by omega)
        omega
    obtain ⟨cp, hmv, hWP, hT'⟩ := hyes ⟨hnn, hp, hc, hnp⟩
    have fP := hmv.1
    have hMP := hWP.1
    have eP9 : cp 9 = c 9 := fP 9 (by decide) (by decide)
    have eP13 : cp 13 = c 13 := fP 13 (by decide) (by decide)
    have hnnP : 0 ≤ n ∧ n < cp 9 14 := by rw [eP9]; exact hnn
    have hsh := shl_set.1 ⟨(c 9 14).toNat, by omega⟩
    simp only [Int.toNat_of_nonneg h8.1] at hsh
    refine kW_go ok_X12_late [4] 20 ?_
    refine kCall_mono (c_X12_plainly X m 1 (Or.inr rfl)) (Nat.le_of_ble_eq_true rfl) ?_
    rintro _ m1 ⟨rfl, hp1⟩
    have hR1 := plain_R hR hp1
    obtain ⟨hSt1, hr1⟩ := plain_Rst hp1
    refine kCall_mono (c_X12_takeAllOff X c m1 hD h8 (RR_0 hR1)) (Nat.le_of_ble_eq_true rfl) ?_
    rintro _ m2 ⟨rfl, hSA2, f2⟩
    have hR2 : RR0 w d l c m2 := RR0_fld (fun o u v => f2 o (by omega) (by omega) (by omega)) (fun i _ => by rw [f2 54 (by decide) (by decide) (by decide)]) (RR_0 hR1)
    refine kCall_mono (hcell m2) (Nat.le_of_ble_eq_true rfl) ?_
    rintro _ m2 ⟨rfl, rfl⟩
    refine kCall_mono (c_X12_movePin X c cp m2 hM (RR0_K hR2) n p t hn8 hp hti hnp hmv) (Nat.le_of_ble_eq_true rfl) ?_
    rintro _ m3 ⟨rfl, hR3, f3⟩
    -- what the search keeps
    obtain ⟨K, hK⟩ : ∃ K : Mem → Prop, ∀ mm, K mm ↔ (RRK w d l cp mm ∧ Rst mm ∧ SA 75 76 77 w d l c mm ∧ (∀ n', (0 ≤ n' ∧ n' < c 9 14) → LSn mm mm n') ∧ ∀ o, o < 54 → mm o = m o) := ⟨_, fun _ => Iff.rfl⟩
    have hCH : ∀ mm, K mm → ∀ n' : Int, (0 ≤ n' ∧ n' < 8) → CHn w d c mm n' := by
      intro mm hk n' hn'
      obtain ⟨k1, -, k3, k4, -⟩ := (hK mm).mp hk
      by_cases hlt : n' < c 9 14
      · obtain ⟨s1, s2, s3⟩ := k3 n' ⟨hn'.1, hlt⟩
        obtain ⟨l1, l2⟩ := k4 n' ⟨hn'.1, hlt⟩
        refine ⟨fun h => by rw [l1]; exact s2 h, fun h => ?_⟩
        rw [l1]
        exact CH_cong l2 (s3 h)
      · have hz : mm 68 n' = 0 := LT_zero (k1.2 n' hn').2.2.1 (fun y hy => ((hMP.2.2.1 n' hn').2 (by rw [eP9]; omega) y hy).2)
        exact ⟨fun _ => hz, fun h2 => by have := (hM.2.1.1 n' hn').2 (by omega); omega⟩
    have hCHP : ∀ mm, K mm → ∀ n' : Int, (0 ≤ n' ∧ n' < 8) → n' ≠ n → CHn w d cp mm n' := by
      intro mm hk n' hn' hne
      have h0 := hCH mm hk n' hn'
      unfold CHn at h0 ⊢
      rw [eP13]
      refine ⟨h0.1, fun h2 => ?_⟩
      have hP := (hM.2.1.1 n' hn').1
      rw [mvd_pins hmv, if_neg (by omega)]
      exact h0.2 h2
    have hSAK : ∀ mm, SA 75 76 77 w d l c mm → SAK w d l cp mm := by
      intro mm hs n' hn'
      rw [eP9] at hn'
      have := (hs n' hn').1
      rw [fP 19 (by decide) (by decide)]
      exact this
    have hlw : ∀ (s : Int) (mm : Mem), K mm → kCall (eX X) 9 M_X12_layWith.1 [vR 54, vI n, vI s] mm (fun r m' => ∃ ok c', lwA w d l ex (cS (w * d * l) n s cp) n s ok c' ∧ r = some (vI (if ok = true then 1 else 0)) ∧ ∃ cN, (ok = true → cN = c') ∧ RR0 w d l cN m' ∧ WM w d l cN ∧ (∀ o, o ≠ 17 → o ≠ 19 → cN o = cp o) ∧ rfr mm m' ∧ Rst m') := by
      intro s mm hk
      obtain ⟨k1, k2, -⟩ := (hK mm).mp hk
      exact c_X12_layWith X cp mm hD hMP k1 k2 hex n s hnnP (hCHP mm hk)
    have loop : ∀ (q : Nat) (i v : Int) (mm : Mem), i + q = kshl 1 (c 9 14) → 0 ≤ i → K mm → ((v = -1 ∧ ∀ s, s < i → vSet (c 9 14) n s → ¬ okT w d l ex cp n s) ∨ (vSet (c 9 14) n v ∧ okT w d l ex cp n v ∧ ∀ s, s < i → vSet (c 9 14) n s → okT w d l ex cp n s → s = v ∨ ahd v s)) → kW (eX X) 10 M_X12_late T0 4 [some (vR 54), some (vI n), some (vI p), some (vI x), some (vI y), some (vI z), some (vI (cR w d a)), some (vI (-1)), some (vI v), some (vI i)] [] mm := by
      intro q
      induction q with
      | zero =>
        intro i v mm hq h0 hk hv
        obtain ⟨k1, k2, k3, k4, k5⟩ := (hK mm).mp hk
        have e26 : mm 54 26 = c 9 14 := by rw [k1.1.2.2.2.1.1, eP9]
        have hleast : leastS (c 9 14) n (okT w d l ex cp n) v := by
          have hlt : ∀ s, vSet (c 9 14) n s → s < i := fun s hs => by
            have := ((vSet_iff h8 hn8 hs.1.1).mpr hs).2.1
            omega
          rcases hv with ⟨a, b⟩ | ⟨a, b, e⟩
          · exact Or.inl ⟨a, fun s hs => b s (hlt s hs) hs⟩
          · exact Or.inr ⟨a, b, fun s hs => e s (hlt s hs) hs⟩
        refine kW_go ok_X12_late [4] 20 ?_
        refine And.intro (fun _ => And.intro (fun hne => ?_) (fun he => ?_)) (fun h => ?_)
        · have hne : ¬ v = -1 := hne
          refine kCall_mono (hlw v mm hk) (Nat.le_of_ble_eq_true rfl) ?_
          rintro _ m4 ⟨ok, c', hL, rfl, cN, hcN, g1, g2, g3, g4, g5⟩
          rcases hv with ⟨a, -⟩ | ⟨-, ⟨-, c2, h2⟩, -⟩
          · exact absurd a hne
          have hok := (lwA_one hL h2).1
          subst hok
          obtain rfl := hcN rfl
          exact hT0 _ _ (hT' v m4 hleast (fun o ho => by rw [g4.1 o (by omega)]; exact k5 o ho) (Or.inr ⟨hne, cN, hL, ⟨g1.1, g1.2, g5.1, g5.2.1⟩⟩))
        · have he : v = -1 := he
          refine kCall_mono (c_X12_movePin X cp c mm hMP k1 n p a hn8 (by rw [eP13]; exact hp) hai (fun n' p' hn' hp' e => ?_) (by have := mvd_sym hM hn8 hmv; rw [← hao] at this; exact this)) (Nat.le_of_ble_eq_true rfl) ?_
          · rw [eP13] at hp'
            rw [mvd_pins hmv] at e
            have hPn' := (hM.2.1.1 n' hn').1
            by_cases e1 : n' * 4 + p' = n * 4 + p
            · rw [if_pos e1] at e
              exact hnp n p hn8 hp (by rw [← hao, ← e])
            · rw [if_neg e1, hao] at e
              have := hM.2.1.2.2 n' p' n p hn' hp' hn8 hp e
              omega
          · rintro _ m4 ⟨rfl, hR4, f4⟩
            have hR0 : RR0 w d l c m4 := RRK_0 hR4 (fun n' hn' => by
              have := hCH mm hk n' hn'
              unfold CHn at this ⊢
              rw [f4 68 (by decide) (by decide), f4 69 (by decide) (by decide), f4 70 (by decide) (by decide)]
              exact this)
            have e54 : m4 54 = mm 54 := f4 54 (by decide) (by decide)
            rw [he] at hleast
            exact hT0 _ _ (hT' (-1) m4 hleast (fun o ho => by rw [f4 o (by omega) (by omega)]; exact k5 o ho) (Or.inl ⟨rfl, ⟨hR0.1, hR0.2, by rw [e54]; exact k2.1, by rw [e54]; exact k2.2.1⟩⟩))
        · have h : i < kshl 1 (mm 54 26) := h
          rw [e26] at h
          omega
      | succ q ih =>
        intro i v mm hq h0 hk hv
        obtain ⟨k1, k2, k3, k4, k5⟩ := (hK mm).mp hk
        have e26 : mm 54 26 = c 9 14 := by rw [k1.1.2.2.2.1.1, eP9]
        have hi8 : 0 ≤ i ∧ i < 256 := by omega
        have hv8 : v = -1 ∨ (0 ≤ v ∧ v < 256) := by
          rcases hv with ⟨a, -⟩ | ⟨a, -⟩
          · exact Or.inl a
          · exact Or.inr a.1
        have hskip : ∀ (m2 : Mem), K m2 → (vSet (c 9 14) n i → okT w d l ex cp n i → v ≠ -1 ∧ (i = v ∨ ahd v i)) → kW (eX X) 10 M_X12_late T0 7 [some (vR 54), some (vI n), some (vI p), some (vI x), some (vI y), some (vI z), some (vI (cR w d a)), some (vI (-1)), some (vI v), some (vI i)] [] m2 := by
          intro m2 hk2 hi
          refine kW_go ok_X12_late [4] 20 ?_
          refine ⟨by constructor <;> omega, ih (i + 1) v m2 (by omega) (by omega) hk2 ?_⟩
          rcases hv with ⟨a, b⟩ | ⟨a, b, e⟩
          · refine Or.inl ⟨a, fun s hs hvs hok => ?_⟩
            by_cases hsi : s = i
            · rw [hsi] at hvs hok
              exact (hi hvs hok).1 a
            · exact b s (by omega) hvs hok
          · refine Or.inr ⟨a, b, fun s hs hvs hok => ?_⟩
            by_cases hsi : s = i
            · rw [hsi] at hvs hok ⊢
              exact (hi hvs hok).2
            · exact e s (by omega) hvs hok
        have hback : ∀ (u : Int) (cN m4 : Mem), RR0 w d l cN m4 → WM w d l cN → (∀ o, o ≠ 17 → o ≠ 19 → cN o = cp o) → rfr mm m4 → Rst m4 → (∀ m5, K m5 → kW (eX X) 10 M_X12_late T0 7 [some (vR 54), some (vI n), some (vI p), some (vI x), some (vI y), some (vI z), some (vI (cR w d a)), some (vI (-1)), some (vI u), some (vI i)] [] m5) → kW (eX X) 10 M_X12_late T0 6 [some (vR 54), some (vI n), some (vI p), some (vI x), some (vI y), some (vI z), some (vI (cR w d a)), some (vI (-1)), some (vI v), some (vI i)] [vI u] m4 := by
          intro u cN m4 g1 g2 g3 g4 g5 hout
          have hSA4 : SA 75 76 77 w d l c m4 := SA_same (g4.1 75 (by omega)) (g4.1 76 (by omega)) (g4.1 77 (by omega)) k3
          refine kW_go ok_X12_late [7] 20 ?_
          refine kCall_mono (c_X12_putAllBackK X cp cN m4 hD hMP g2 g3 (RR0_K g1) (hSAK m4 hSA4)) (Nat.le_of_ble_eq_true rfl) ?_
          rintro _ m5 ⟨rfl, q1, q2, q3⟩
          have e54 : m5 54 = m4 54 := q3 54 (by decide) (by decide) (by decide) (by decide)
          refine hout m5 ((hK _).mpr ⟨q1, ?_, SA_same (q3 75 (by decide) (by decide) (by decide) (by decide)) (q3 76 (by decide) (by decide) (by decide) (by decide)) (q3 77 (by decide) (by decide) (by decide) (by decide)) hSA4, fun n' hn' => ?_, fun o ho => ?_⟩)
          · unfold Rst at g5 ⊢
            rw [e54, q3 81 (by decide) (by decide) (by decide) (by decide)]
            exact g5
          · have := q2 n' (by rw [eP9]; exact hn')
            unfold LSn at this ⊢
            rw [q3 75 (by decide) (by decide) (by decide) (by decide), q3 76 (by decide) (by decide) (by decide) (by decide), q3 77 (by decide) (by decide) (by decide) (by decide)]
            exact this
          · rw [q3 o (by omega) (by omega) (by omega) (by omega), g4.1 o (by omega)]
            exact k5 o ho
        have hpi := pop_in i
        refine kW_go ok_X12_late [6, 7] 20 ?_
        refine And.intro (fun h => ?_) (fun _ => And.intro (fun hb => hskip mm hk (fun hvi _ => ?_)) (fun hb => ?_))
        · have h : kshl 1 (mm 54 26) ≤ i := h
          rw [e26] at h
          omega
        · have hb := (k_ask_ne hn8.1 (by omega)).mp hb
          rw [vSet_n hvi hn8.1] at hb
          cases hb
        · have hbn := (k_ask0 hn8.1 (by omega)).mp hb
          have hvi : vSet (c 9 14) n i := (vSet_iff h8 hn8 h0).mp ⟨h0, by omega, hbn⟩
          refine kCall_mono (c_bitCount (eX X) mm i hi8.1 hi8.2) (Nat.le_of_ble_eq_true rfl) ?_
          rintro _ mm ⟨rfl, rfl⟩
          refine And.intro (fun h3 => hskip mm hk (fun _ hok => ?_)) (fun h3 => ?_)
          · have h3 : 3 < pop i := h3
            have := hok.1
            omega
          · have h3 : pop i ≤ 3 := h3
            refine kCall_mono (c_X12_isAhead X mm i v hi8 hv8) (Nat.le_of_ble_eq_true rfl) ?_
            rintro _ m2 ⟨⟨hh, rfl⟩ | ⟨hh, rfl⟩, rfl⟩
            · refine And.intro (fun h => absurd h (by decide)) (fun _ => ?_)
              refine kCall_mono (hlw i m2 hk) (Nat.le_of_ble_eq_true rfl) ?_
              rintro _ m4 ⟨ok, c', hL, rfl, cN, hcN, g1, g2, g3, g4, g5⟩
              cases ok with
              | true =>
                rw [if_pos rfl]
                refine And.intro (fun h => absurd h (by decide)) (fun _ => ?_)
                have hok : okT w d l ex cp n i := ⟨h3, c', hL⟩
                refine hback i cN m4 g1 g2 g3 g4 g5 (fun m5 hk5 => ?_)
                refine kW_go ok_X12_late [4] 20 ?_
                refine ⟨by constructor <;> omega, ih (i + 1) i m5 (by omega) (by omega) hk5 (Or.inr ⟨hvi, hok, fun s hs hvs hsok => ?_⟩)⟩
                by_cases hsi : s = i
                · exact Or.inl hsi
                · right
                  rcases hv with ⟨a, b⟩ | ⟨a, b, e⟩
                  · exact absurd hsok (b s (by omega) hvs)
                  · have hiz : ahd i v := by
                      rcases hh with z0 | z0
                      · have := a.1.1; omega
                      · exact z0.2
                    rcases e s (by omega) hvs hsok with rfl | h
                    · exact hiz
                    · exact ahd_tr hiz h
              | false =>
                rw [if_neg (by decide)]
                refine And.intro (fun _ => ?_) (fun h => absurd rfl h)
                refine hback v cN m4 g1 g2 g3 g4 g5 (fun m5 hk5 => hskip m5 hk5 (fun _ hok => ?_))
                obtain ⟨-, c2, h2⟩ := hok
                have := (lwA_one hL h2).1
                cases this
            · refine And.intro (fun _ => hskip m2 hk (fun _ _ => ?_)) (fun h => absurd rfl h)
              have hzn : v ≠ -1 := fun e => hh (Or.inl e)
              refine ⟨hzn, ?_⟩
              by_cases e : i = v
              · exact Or.inl e
              · right
                rcases ahd_or hi8 (hv8.resolve_left hzn) e with h | h
                · exact absurd (Or.inr ⟨hzn, h⟩) hh
                · exact h
    have hgo := loop (kshl 1 (c 9 14)).toNat 0 (-1) m3 (by omega) (by omega) ((hK _).mpr ⟨hR3, ?_, SA_same (f3 75 (by decide) (by decide)) (f3 76 (by decide) (by decide)) (f3 77 (by decide) (by decide)) hSA2, fun n' hn' => ?_, fun o ho => ?_⟩) (Or.inl ⟨rfl, fun s hs hv => by have := hv.1.1; omega⟩)
    · rw [← e64p] at hgo
      exact hgo
    · unfold Rst at hSt1 ⊢
      rw [f3 54 (by decide) (by decide), f3 81 (by decide) (by decide), f2 54 (by decide) (by decide) (by decide), f2 81 (by decide) (by decide) (by decide)]
      exact hSt1
    · sorry
    · rw [f3 o (by omega) (by omega), f2 o (by omega) (by omega) (by omega), hp1.1 o (by omega) (by omega)]
  · have hr : 0 ≤ p' := h2.1
    refine And.intro (fun h => absurd h (by omega)) (fun _ => hno (fun q => ?_))
    have hn'8 : 0 ≤ n' ∧ n' < 8 := by omega
    obtain ⟨-, f63, f64⟩ := hR.1.2.2.2.2.1 n' hn'8
    rw [f63] at h2
    rw [f64 p' h2] at h3
    exact q.2.2.2 n' p' hn'8 h2 (cR_inj hD (hM.2.1.2.1 n' p' hn'8 h2) hti h3)
