/-! the first call on a new object -/
theorem f_X12_readSort (X : Xv) (m : Mem) {w d l : Int} (hD : okD w d l) (h : nR w d l m) (k : Int) (hk : 0 ≤ k ∧ k < 7) : kCall (eX X) 5 M_X12_readSort.1 [vR 54, vI k] m (fun r _ => r = some (vI 0)) := by
  have hhere : ∀ m' : Mem, m' 54 5 = 0 → m' 54 6 = 0 → kCall (eX X) 1 M_X12_here.1 [vR 54] m' (cP (-1) m') := by
    intro m' e5 e6
    refine kCall_of ok_X12_here rfl (Nat.le_of_ble_eq_true rfl) ?_
    refine kW_go ok_X12_here [] 20 ?_
    refine And.intro (fun _ => ⟨rfl, rfl⟩) (fun hh => ?_)
    have hh : m' 54 6 < m' 54 5 := hh
    omega
  have hlook : ∀ m' : Mem, m' 54 5 = 0 → m' 54 6 = 0 → kCall (eX X) 2 M_X12_look.1 [vR 54] m' (cP (-1) m') := by
    intro m' e5 e6
    refine kCall_of ok_X12_look rfl (Nat.le_of_ble_eq_true rfl) ?_
    refine kW_go ok_X12_look [] 20 ?_
    refine kCall_mono (hhere m' e5 e6) (Nat.le_of_ble_eq_true rfl) ?_
    rintro _ m' ⟨rfl, rfl⟩
    refine And.intro (fun _ => ?_) (fun hh => absurd hh (by decide))
    refine kCall_mono (hhere m' e5 e6) (Nat.le_of_ble_eq_true rfl) ?_
    rintro _ m' ⟨rfl, rfl⟩
    exact ⟨rfl, rfl⟩
  have hlet : ∀ m' : Mem, kCall (eX X) 2 M_X12_letterAt.1 [vR 54, vI (-1)] m' (cP 0 m') := by
    intro m'
    refine kCall_of ok_X12_letterAt rfl (Nat.le_of_ble_eq_true rfl) ?_
    refine kW_go ok_X12_letterAt [] 20 ?_
    exact And.intro (fun _ => And.intro (fun _ => And.intro (fun _ => And.intro (fun _ => And.intro (fun _ => ⟨rfl, rfl⟩) (fun hh => absurd hh (by decide))) (fun hh => absurd hh (by decide))) (fun hh => absurd hh (by decide))) (fun hh => absurd hh (by decide))) (fun hh => absurd hh (by decide))
  have hbad : ∀ m' : Mem, m' 54 7 = -1 → m' 54 6 = 0 → kCall (eX X) 2 M_X12_bad.1 [vR 54] m' (fun r m2 => r = none ∧ m2 = fset m' 54 7 0) := by
    intro m' e7 e6
    refine kCall_of ok_X12_bad rfl (Nat.le_of_ble_eq_true rfl) ?_
    refine kW_go ok_X12_bad [] 20 ?_
    refine And.intro (fun hh => absurd e7 hh) (fun _ => ?_)
    exact ⟨rfl, congrArg (fset m' 54 7) (show m' 54 6 = 0 from e6)⟩
  have hset : ∀ m' : Mem, m' 54 7 = -1 → m' 54 6 = 0 → m' 54 5 = 0 → kCall (eX X) 3 M_X12_setting.1 [vR 54, vI k] m' (fun r m2 => r = none ∧ m2 = fset m' 54 7 0) := by
    intro m' e7 e6 e5
    refine kCall_of ok_X12_setting rfl (Nat.le_of_ble_eq_true rfl) ?_
    refine kW_go ok_X12_setting [] 20 ?_
    refine kCall_mono (hlook m' e5 e6) (Nat.le_of_ble_eq_true rfl) ?_
    rintro _ m' ⟨rfl, rfl⟩
    refine kCall_mono (hlet m') (Nat.le_of_ble_eq_true rfl) ?_
    rintro _ m' ⟨rfl, rfl⟩
    refine And.intro (fun _ => ?_) (fun hh => absurd rfl hh)
    refine kCall_mono (hbad m' e7 e6) (Nat.le_of_ble_eq_true rfl) ?_
    rintro _ m2 ⟨rfl, rfl⟩
    exact ⟨rfl, rfl⟩
  obtain ⟨-, -, l1, l2⟩ := id hD
  refine kCall_ofT ok_X12_readSort rfl (Nat.le_of_ble_eq_true rfl) (fun T hT => ?_)
  have hmk := k_msk_in (l := l) (by omega) (by omega)
  have hb : 0 ≤ k ∧ k < ((7 : Nat) : Int) := by omega
  refine kW_go ok_X12_readSort [] 20 ?_
  refine ⟨hb, hb, hb, hb, ?_⟩
  have e3 : m 54 3 = l := h.2.2.1
  show inR (kshl 1 (m 54 3) - 1) ∧ (0 ≤ k ∧ k < ((7 : Nat) : Int)) ∧ _
  refine ⟨by rw [e3]; constructor <;> omega, hb, ?_⟩
  refine kCall_mono (hset _ rfl rfl h.2.2.2.1) (Nat.le_of_ble_eq_true rfl) ?_
  rintro _ m2 ⟨rfl, rfl⟩
  refine And.intro (fun _ => ?_) (fun hh => absurd (show (0 : Int) = -1 from hh) (by decide))
  exact And.intro (fun _ => hT _ _ rfl) (fun hh => absurd (show (0 : Int) = -1 from hh) (by decide))
theorem f_X12_fault (X : Xv) (m : Mem) {w d l : Int} (hD : okD w d l) (h : nR w d l m) : kCall (eX X) 6 M_X12_fault.1 [vR 54] m (fun r _ => r = some (vI 0)) := by
  refine kCall_of ok_X12_fault rfl (Nat.le_of_ble_eq_true rfl) ?_
  refine kW_go ok_X12_fault [] 20 ?_
  refine kCall_mono (f_X12_readSort X m hD h 6 (by decide)) (Nat.le_of_ble_eq_true rfl) ?_
  rintro _ m2 rfl
  exact rfl
theorem f_X12_sort (X : Xv) (m : Mem) {w d l : Int} (hD : okD w d l) (h : nR w d l m) : kCall (eX X) 6 M_X12_sort.1 [vR 54] m (fun r _ => r = some (vI (-1))) := by
  have e13 : m 54 13 = 0 := h.2.2.2.2.1
  refine kCall_ofT ok_X12_sort rfl (Nat.le_of_ble_eq_true rfl) (fun T hT => ?_)
  refine kW_go ok_X12_sort [] 20 ?_
  refine And.intro (fun hh => ?_) (fun _ => ?_)
  · have hh : m 54 13 = 6 := hh
    omega
  · refine kCall_mono (f_X12_readSort X m hD h (m 54 13) (by omega)) (Nat.le_of_ble_eq_true rfl) ?_
    rintro _ m2 rfl
    exact And.intro (fun hh => absurd hh (by decide)) (fun _ => hT _ _ rfl)
theorem kp_of {X : Xv} {k1 k2 n1 n2 : Nat} {as : List AV} {m : Mem} {I : Mem → Prop} {z : Int} (hI : ∀ m, I m) (h1 : kCall (eX X) k1 n1 (vR 0 :: as) m (fun r m' => r = some (vI z) ∧ ∀ o, 54 ≤ o → m' o = m o)) (hk1 : k1 ≤ 900) (h2 : ∀ m', (∀ o, 54 ≤ o → m' o = m o) → kCall (eX X) k2 n2 (vR 54 :: as) m' (fun r _ => r = some (vI z))) (hk2 : k2 ≤ 900) : kPair X n1 n2 as m I := by
  refine kCall_mono h1 hk1 ?_
  rintro _ m1 ⟨rfl, hf⟩
  refine ⟨z, rfl, kCall_mono (h2 m1 hf) hk2 ?_⟩
  rintro _ m2 rfl
  exact ⟨rfl, hI m2⟩
theorem kp_cP {X : Xv} {k1 k2 n1 n2 : Nat} {as : List AV} {m : Mem} {I : Mem → Prop} {z : Int} (hI : ∀ m, I m) (h1 : kCall (eX X) k1 n1 (vR 0 :: as) m (cP z m)) (hk1 : k1 ≤ 900) (h2 : kCall (eX X) k2 n2 (vR 54 :: as) m (cP z m)) (hk2 : k2 ≤ 900) : kPair X n1 n2 as m I := by
  refine kCall_mono h1 hk1 ?_
  rintro _ m1 ⟨rfl, rfl⟩
  refine ⟨z, rfl, kCall_mono h2 hk2 ?_⟩
  rintro _ m2 ⟨rfl, rfl⟩
  exact ⟨rfl, hI _⟩
set_option maxHeartbeats 4000000 in
theorem sim_1 : SimOK 1 := by
  intro X w d l hD hn hl hxs
  refine ⟨fun t m => t = 0 → initM w d l m, ?_, fun m hm _ => hm⟩
  intro t m ht hI
  have ht0 : t = 0 := by omega
  subst ht0
  obtain ⟨⟨hG, b6, b6z, bz, -, -, -⟩, r1, r2, r3, rz, rzz, r88, -⟩ := hI rfl
  have hcc := okD_cells hD
  have hn' : nC X ≤ 324 := by omega
  have hlr := hD.2.2
  have hN : noN m := ⟨bz 9 (by decide) (by decide) (by decide) (by decide) 13, bz 9 (by decide) (by decide) (by decide) (by decide) 14⟩
  have hR : nR w d l m := ⟨r1, r2, r3, rz 5 (by decide) (by decide) (by decide), rz 13 (by decide) (by decide) (by decide), rz 26 (by decide) (by decide) (by decide)⟩
  have hRm : ∀ m', (∀ o, 54 ≤ o → m' o = m o) → nR w d l m' := by
    intro m' hf
    have e := hf 54 (by decide)
    unfold nR noR
    rw [e]
    exact hR
  have hno : noR m := hR.2.2.2.2
  have b63 : m 6 3 = 0 := b6z 3 (by decide)
  have hC : noCu X m := fun i _ _ => ⟨bz 16 (by decide) (by decide) (by decide) (by decide) i, bz 17 (by decide) (by decide) (by decide) (by decide) i⟩
  have hI1 : ∀ m', (fun m => (0 + 1 : Nat) = 0 → initM w d l m) m' := fun m' h => absurd h (by decide)
  have e9 : m 9 13 = 0 := hN.1
  refine ⟨⟨by omega, by omega⟩, hI1 m, ?_, ?_, ?_, ?_, ?_, ?_, ?_, ?_, ?_, ?_, ?_, ?_, ?_, ?_, ?_, ?_, ?_, ?_, ?_, ?_, ?_, ?_, ?_, ?_, ?_, ?_, ?_, ?_, ?_, ?_, ?_, ?_, ?_, ?_, ?_, ?_, ?_, ?_, ?_, ?_, ?_, ?_⟩
  · intro a b c d e _ _ _ _ _
    refine kp_of (k1 := 3) (k2 := 3) (z := if 80 < nzc (fdB a b c d e) 20 then -1 else nzc (fdB a b c d e) 20) hI1 (kCall_mono (c_X11_feed X m a b c d e (by omega)) (Nat.le_refl _) ?_) (by decide) (fun m' hf => kCall_mono (c_X12_feed X m' a b c d e (by have := (hRm m' hf).2.2.2.1; omega)) (Nat.le_refl _) ?_) (by decide)
    · rintro _ m' (⟨h, rfl, rfl⟩ | ⟨h, rfl, rfl⟩)
      · rw [b63, Int.zero_add] at h
        exact ⟨by rw [if_pos h], fun _ _ => rfl⟩
      · rw [b63, Int.zero_add] at h ⊢
        exact ⟨by rw [if_neg (by omega)], fun o ho => tkM_ne (by omega) (by omega) _ _ _⟩
    · have h5 := (hRm m' hf).2.2.2.1
      rintro _ m' (⟨h, rfl, -⟩ | ⟨h, rfl, -⟩)
      · rw [h5, Int.zero_add] at h
        rw [if_pos h]
      · rw [h5, Int.zero_add] at h ⊢
        rw [if_neg (by omega)]
  · intro a _
    refine kp_of (k1 := 1) (k2 := 1) (z := b2i (0 ≤ a ∧ a ≤ 0)) hI1 (kCall_mono (c_X11_end X m a) (Nat.le_refl _) ?_) (by decide) (fun m' hf => kCall_mono (c_X12_end X m' a) (Nat.le_refl _) ?_) (by decide)
    · rw [b63]
      rintro _ m' ⟨rfl, rfl⟩
      refine ⟨rfl, fun o ho => ?_⟩
      split
      · unfold fset
        rw [k_mset_ne (by omega)]
      · rfl
    · rw [(hRm m' hf).2.2.2.1]
      rintro _ m' ⟨rfl, -⟩
      rfl
  · exact kp_of hI1 (f_X11_fault X m hlr b6 b63) (by decide) (fun m' hf => f_X12_fault X m' hD (hRm m' hf)) (by decide)
  · exact kp_of hI1 (f_X11_sort X m hlr b6 b63 hN) (by decide) (fun m' hf => f_X12_sort X m' hD (hRm m' hf)) (by decide)
  · intro k j _ _ m1 hm1
    have htd : ¬ tdOk m k j := fun h => by have := h.1; omega
    rcases hm1 with ⟨h, -⟩ | ⟨-, rfl⟩
    · exact absurd h htd
    · refine kCall_mono (f_X12_told X m1 hno k j) (by decide) ?_
      rintro _ m2 ⟨rfl, rfl⟩
      refine ⟨0, rfl, kCall_mono (c_X12_thrown X _) (by decide) ?_⟩
      rintro _ m3 ⟨rfl, rfl⟩
      exact ⟨1, rfl, Or.inr ⟨htd, rfl⟩, hI1 _⟩
  · intro a _
    exact kp_cP hI1 (f_X11_net X m hN a) (by decide) (f_X12_net X m hno a) (by decide)
  · intro a b c d _ _ _ _
    exact kp_cP hI1 (f_X11_pin X m hN hD hG a b c d) (by decide) (f_X12_pin X m hno a b c d) (by decide)
  · intro a b c d' e _ _ _ _ he
    by_cases hk : kpOk w d l a b c d' e
    · refine kp_of (k1 := 3) (k2 := 4) (z := 1) hI1 (kCall_mono (c_X11_keep X m hD hn hG a b c d' e he) (Nat.le_refl _) ?_) (by decide) (fun m' hf => kCall_mono (c_X12_keep X m' (nR_dim hD (hRm m' hf)) (fun i => Or.inl (by rw [hf 71 (by decide)]; exact rzz 71 (by decide) (by decide) (by decide) i)) a b c d' e he) (Nat.le_refl _) ?_) (by decide)
      · rintro _ m' (⟨-, rfl, hc⟩ | ⟨h, -, -⟩)
        · exact ⟨rfl, fun o ho => hc.1 o (by omega)⟩
        · exact absurd hk h
      · rintro _ m' (⟨-, rfl, -⟩ | ⟨h, -, -⟩)
        · rfl
        · exact absurd hk h
    · refine kp_of (k1 := 3) (k2 := 4) (z := 0) hI1 (kCall_mono (c_X11_keep X m hD hn hG a b c d' e he) (Nat.le_refl _) ?_) (by decide) (fun m' hf => kCall_mono (c_X12_keep X m' (nR_dim hD (hRm m' hf)) (fun i => Or.inl (by rw [hf 71 (by decide)]; exact rzz 71 (by decide) (by decide) (by decide) i)) a b c d' e he) (Nat.le_refl _) ?_) (by decide)
      · rintro _ m' (⟨h, -, -⟩ | ⟨-, rfl, rfl⟩)
        · exact absurd h hk
        · exact ⟨rfl, fun _ _ => rfl⟩
      · rintro _ m' (⟨h, -, -⟩ | ⟨-, rfl, -⟩)
        · exact absurd h hk
        · rfl
  · intro a b c d e f _ _ _ _ _ _
    exact kp_cP hI1 (f_X11_wire X m hN hD hG a b c d e f) (by decide) (f_X12_wire X m hno a b c d e f) (by decide)
  · intro a b c d _ _ _ _
    exact kp_cP hI1 (f_X11_hole X m hN hD hG a b c d) (by decide) (f_X12_hole X m hno a b c d) (by decide)
  · intro a b c _ _ _
    refine kp_of (k1 := 3) (k2 := 4) hI1 (kCall_mono (c_X11_copper X m hD hn hG a b c) (Nat.le_refl _) ?_) (by decide) (fun m' hf => kCall_mono (f_X12_copper X m' hD (hRm m' hf) a b c) (Nat.le_refl _) (fun _ _ h => h.1)) (by decide)
    rintro _ m' ⟨rfl, rfl⟩
    refine ⟨?_, fun _ _ => rfl⟩
    rw [bz 16 (by decide) (by decide) (by decide) (by decide), bz 17 (by decide) (by decide) (by decide) (by decide), k_or00]
  · intro a b c d _ _ _ _
    exact kp_cP hI1 (f_X11_free X m hN hD hG a b c d) (by decide) (f_X12_free X m hno a b c d) (by decide)
  · intro a _
    exact kp_cP hI1 (f_X11_lay X m hN a) (by decide) (f_X12_lay X m hno a) (by decide)
  · intro a b _ _
    exact kp_cP hI1 (f_X11_cost X m hN a b) (by decide) (f_X12_cost X m hno a b) (by decide)
  · intro a _
    exact kp_cP hI1 (f_X11_rip X m hN a) (by decide) (f_X12_rip X m hno a) (by decide)
  · intro a b _ _
    exact kp_cP hI1 (f_X11_rank X m hN a b) (by decide) (f_X12_rank X m hno a b) (by decide)
  · exact kp_of hI1 (f_X11_order X m hn' hN) (by decide) (fun m' hf => kCall_mono (f_X12_order X m' (hRm m' hf)) (Nat.le_refl _) (fun _ _ h => h.1)) (by decide)
  · intro a b _ _
    exact kp_of hI1 (f_X11_press X m hn hn' hG hN a b) (by decide) (fun m' hf => kCall_mono (f_X12_press X m' (hRm m' hf) a b) (Nat.le_refl _) (fun _ _ h => h.1)) (by decide)
  · intro a b _ _
    exact kp_cP hI1 (f_X11_cut X m hN a b) (by decide) (f_X12_cut X m hno a b) (by decide)
  · intro a _
    exact kp_cP hI1 (f_X11_bars X m hN a) (by decide) (f_X12_bars X m hno a) (by decide)
  · intro a ha
    exact kp_cP hI1 (f_X11_together X m hN a ha) (by decide) (f_X12_together X m hno a ha) (by decide)
  · intro a b _ _
    exact kp_cP hI1 (f_X11_about X m hN a b) (by decide) (f_X12_about X m hno a b) (by decide)
  · intro a b _ _
    exact kp_cP hI1 (f_X11_stretch X m hN a b) (by decide) (f_X12_stretch X m hno a b) (by decide)
  · intro a _
    exact kp_cP hI1 (f_X11_span X m hN a) (by decide) (f_X12_span X m hno a) (by decide)
  · intro a b ha _
    exact kp_cP hI1 (f_X11_equal X m hN a b ha) (by decide) (f_X12_equal X m hno a b ha) (by decide)
  · intro a b c _ _ _
    exact kp_cP hI1 (f_X11_plane X m hN a b c) (by decide) (f_X12_plane X m hno a b c) (by decide)
  · intro a b _ _
    exact kp_cP hI1 (f_X11_spokes X m hN a b) (by decide) (f_X12_spokes X m hno a b) (by decide)
  · intro a b c _ _ _
    exact kp_cP hI1 (f_X11_back X m hN a b c) (by decide) (f_X12_back X m hno a b c) (by decide)
  · intro a b c _ _ _
    exact kp_of hI1 (f_X11_wander X m hN a b c) (by decide) (fun m' hf => f_X12_wander X m' (hRm m' hf) a b c) (by decide)
  · intro a b _ _
    exact kp_of hI1 (f_X11_worst X m hN a b) (by decide) (fun m' hf => f_X12_worst X m' (hRm m' hf) a b) (by decide)
  · intro a b c d e _ _ _ _ _
    exact kp_cP hI1 (f_X11_late X m hN hD hG a b c d e) (by decide) (f_X12_late X m hno a b c d e) (by decide)
  · intro a _
    exact kp_of hI1 (f_X11_netlist X m hn hn' hG hC hN a) (by decide) (fun m' hf => f_X12_netlist X m' (hRm m' hf) a) (by decide)
  · intro a _
    refine kp_of (k1 := 6) hI1 (kCall_mono (f_X11_test X m hD hn hG hC a) (Nat.le_refl _) ?_) (by decide) (fun m' hf => f_X12_test X m' hD (hRm m' hf) a) (by decide)
    rintro _ m' ⟨rfl, rfl⟩
    exact ⟨rfl, fun _ _ => rfl⟩
  · intro a b _ _
    by_cases hk : slowOk l a b
    · refine kp_of (k1 := 3) (k2 := 3) (z := 1) hI1 (kCall_mono (c_X11_slow X m hD hG hl a b) (Nat.le_refl _) ?_) (by decide) (fun m' hf => kCall_mono (c_X12_slow X m' (w := w) (d := d) hlr (hRm m' hf).2.2.1 a b) (Nat.le_refl _) ?_) (by decide)
      · rintro _ m' (⟨-, rfl, rfl⟩ | ⟨h, -, -⟩)
        · exact ⟨rfl, fun o ho => k_mset_ne (by omega)⟩
        · exact absurd hk h
      · rintro _ m' (⟨-, rfl, -⟩ | ⟨h, -, -⟩)
        · rfl
        · exact absurd hk h
    · refine kp_of (k1 := 3) (k2 := 3) (z := 0) hI1 (kCall_mono (c_X11_slow X m hD hG hl a b) (Nat.le_refl _) ?_) (by decide) (fun m' hf => kCall_mono (c_X12_slow X m' (w := w) (d := d) hlr (hRm m' hf).2.2.1 a b) (Nat.le_refl _) ?_) (by decide)
      · rintro _ m' (⟨h, -, -⟩ | ⟨-, rfl, rfl⟩)
        · exact absurd h hk
        · exact ⟨rfl, fun _ _ => rfl⟩
      · rintro _ m' (⟨h, -, -⟩ | ⟨-, rfl, -⟩)
        · exact absurd h hk
        · rfl
  · intro a _
    exact kp_cP hI1 (f_X11_delay X m hN a) (by decide) (f_X12_delay X m hno a) (by decide)
  · intro a b c _ _ _
    exact kp_cP hI1 (f_X11_pair X m hN a b c) (by decide) (f_X12_pair X m hno a b c) (by decide)
  · intro a b c _ _ _
    exact kp_of hI1 (f_X11_beside X m hn hn' hG hN a b c) (by decide) (fun m' hf => f_X12_beside X m' (hRm m' hf) a b c) (by decide)
  · intro a _
    exact kp_cP hI1 (f_X11_why X m hN a) (by decide) (f_X12_why X m hno a) (by decide)
  · exact kp_of hI1 (f_X11_steady X m hn' hN (fun i _ _ => bz 19 (by decide) (by decide) (by decide) (by decide) i)) (by decide) (fun m' hf => f_X12_steady X m' (hRm m' hf)) (by decide)
  · intro a b c d' _ _ _ _
    by_cases hk : panOk a b c d'
    · refine kp_of (k1 := 3) (k2 := 3) (z := panA w d a b c d') hI1 (kCall_mono (c_X11_panel X m hD hG a b c d') (Nat.le_refl _) ?_) (by decide) (fun m' hf => kCall_mono (c_X12_panel X m' hD (hRm m' hf).1 (hRm m' hf).2.1 a b c d') (Nat.le_refl _) ?_) (by decide)
      · rintro _ m' ⟨⟨-, rfl⟩ | ⟨h, -⟩, rfl⟩
        · exact ⟨rfl, fun _ _ => rfl⟩
        · exact absurd hk h
      · rintro _ m' ⟨⟨-, rfl⟩ | ⟨h, -⟩, rfl⟩
        · rfl
        · exact absurd hk h
    · refine kp_of (k1 := 3) (k2 := 3) (z := -1) hI1 (kCall_mono (c_X11_panel X m hD hG a b c d') (Nat.le_refl _) ?_) (by decide) (fun m' hf => kCall_mono (c_X12_panel X m' hD (hRm m' hf).1 (hRm m' hf).2.1 a b c d') (Nat.le_refl _) ?_) (by decide)
      · rintro _ m' ⟨⟨h, -⟩ | ⟨-, rfl⟩, rfl⟩
        · exact absurd h hk
        · exact ⟨rfl, fun _ _ => rfl⟩
      · rintro _ m' ⟨⟨h, -⟩ | ⟨-, rfl⟩, rfl⟩
        · exact absurd h hk
        · rfl
  · intro a _
    exact kp_cP hI1 (f_X11_unwire X m hN a) (by decide) (f_X12_unwire X m hno a) (by decide)
  · intro a _
    refine kp_cP (z := cntC m a) hI1 (c_X11_count X m a) (by decide) ?_ (by decide) (k2 := 1)
    have e : cntC m a = cntR m a := by
      unfold cntC cntR
      rw [hN.1, hN.2, b63, hG.1, hG.2.1, hG.2.2.1, hno.1, hno.2, hR.2.2.2.1, hR.1, hR.2.1, hR.2.2.1]
    rw [e]
    exact c_X12_count X m a
