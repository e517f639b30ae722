/-! LATE alike: the reference, and both -/
set_option maxRecDepth 100000 in
theorem c_X12_takeAllOffL (X : Xv) (c m : Mem) {w d l : Int} (hD : okD w d l) (h8 : 0 ≤ c 9 14 ∧ c 9 14 ≤ 8) (hR : RR0 w d l c m) : kCall (eX X) 2 M_X12_takeAllOff.1 [vR 54] m (fun r m' => r = none ∧ SA 75 76 77 w d l c m' ∧ (∀ n', (0 ≤ n' ∧ n' < c 9 14) → LSn m' m' n') ∧ ∀ o, o ≠ 75 → o ≠ 76 → o ≠ 77 → m' o = m o) := by
  refine kCall_ofT ok_X12_takeAllOff rfl (Nat.le_of_ble_eq_true rfl) (fun T hT => ?_)
  have h26 := hR.1.2.2.2.1.1
  have hle : ∀ n : Int, (0 ≤ n ∧ n < 8) → 0 ≤ m 68 n ∧ m 68 n ≤ 972 := fun n hn => ⟨(RRn_k.mp (hR.2 n hn)).1.2.2.1.1.1, okL_le hD (RRn_k.mp (hR.2 n hn)).1.2.2.1.1⟩
  -- what is laid aside of the nets before n, and of n the first k
  obtain ⟨J, hJ⟩ : ∃ J : Int → Int → Mem → Prop, ∀ n k m', J n k m' ↔ ((∀ o, o ≠ 75 → o ≠ 76 → o ≠ 77 → m' o = m o) ∧ (∀ n' : Int, (0 ≤ n' ∧ n' < n) → m' 77 n' = m 68 n' ∧ ∀ i : Int, (0 ≤ i ∧ i < m 68 n') → m' 75 (2400 * n' + i) = m 69 (2400 * n' + i) ∧ m' 76 (2400 * n' + i) = m 70 (2400 * n' + i)) ∧ ∀ i : Int, (0 ≤ i ∧ i < k) → m' 75 (2400 * n + i) = m 69 (2400 * n + i) ∧ m' 76 (2400 * n + i) = m 70 (2400 * n + i)) := ⟨_, fun _ _ _ => Iff.rfl⟩
  have outer : ∀ (q : Nat) (n : Int) (m' : Mem) (x2 : Option AV), n + q = c 9 14 → 0 ≤ n → J n 0 m' → kW (eX X) 1 M_X12_takeAllOff T 1 [some (vR 54), some (vI n), x2] [] m' := by
    intro q
    induction q with
    | zero =>
      intro n m' x2 hnq h0 hj
      obtain ⟨j1, j2, j3⟩ := (hJ _ _ _).mp hj
      refine kW_go ok_X12_takeAllOff [1, 2] 20 ?_
      refine And.intro (fun _ => hT _ _ ⟨rfl, fun n' hn' => ?_, fun n' hn' => ?_, j1⟩) (fun h => ?_)
      · have hk := RRn_k.mp (hR.2 n' (by omega))
        obtain ⟨e1, e2⟩ := j2 n' (by omega)
        unfold SAn
        rw [e1]
        exact ⟨LT_cong e2 (fun _ _ => rfl) hk.1.2.2.1, hk.2.1, fun h2 => CH_cong e2 (hk.2.2 h2)⟩
      · obtain ⟨e1, e2⟩ := j2 n' (by omega)
        unfold LSn
        rw [e1, j1 68 (by decide) (by decide) (by decide), j1 69 (by decide) (by decide) (by decide), j1 70 (by decide) (by decide) (by decide)]
        exact ⟨rfl, fun i hi => ⟨(e2 i hi).1.symm, (e2 i hi).2.symm⟩⟩
      · have h : n < m' 54 26 := h
        rw [j1 54 (by decide) (by decide) (by decide), h26] at h
        omega
    | succ q ih =>
      intro n m' x2 hnq h0 hj
      have hn8 : 0 ≤ n ∧ n < 8 := by omega
      have hnb : 0 ≤ n ∧ n < ((8 : Nat) : Int) := hn8
      have hl := hle n hn8
      have inner : ∀ (p : Nat) (k : Int) (m2 : Mem), k + p = m 68 n → 0 ≤ k → J n k m2 → m2 77 n = m 68 n → kW (eX X) 1 M_X12_takeAllOff T 2 [some (vR 54), some (vI n), some (vI k)] [] m2 := by
        intro p
        induction p with
        | zero =>
          intro k m2 hkp hk0 hj2 he2
          obtain ⟨j1, j2, j3⟩ := (hJ _ _ _).mp hj2
          have e68 : m2 68 = m 68 := j1 68 (by decide) (by decide) (by decide)
          refine kW_go ok_X12_takeAllOff [1] 20 ?_
          refine ⟨hnb, And.intro (fun _ => ⟨by constructor <;> omega, ih (n + 1) m2 _ (by omega) (by omega) ((hJ _ _ _).mpr ⟨j1, fun n' hn' => ?_, fun i hi => by omega⟩)⟩) (fun h => ?_)⟩
          · by_cases hnn : n' = n
            · rw [hnn]
              exact ⟨he2, fun i hi => j3 i (by omega)⟩
            · exact j2 n' (by omega)
          · have h : k < m2 68 n := h
            rw [e68] at h
            omega
        | succ p ihp =>
          intro k m2 hkp hk0 hj2 he2
          obtain ⟨j1, j2, j3⟩ := (hJ _ _ _).mp hj2
          have e68 : m2 68 = m 68 := j1 68 (by decide) (by decide) (by decide)
          have e69 : m2 69 = m 69 := j1 69 (by decide) (by decide) (by decide)
          have e70 : m2 70 = m 70 := j1 70 (by decide) (by decide) (by decide)
          have hix : 0 ≤ 2400 * n + k ∧ 2400 * n + k < ((19200 : Nat) : Int) := by omega
          refine kW_go ok_X12_takeAllOff [2, 3] 20 ?_
          show (0 ≤ n ∧ n < ((8 : Nat) : Int)) ∧ (m2 68 n ≤ k → _) ∧ (k < m2 68 n → inR (2400 * n) ∧ inR (2400 * n + k) ∧ inR (2400 * n) ∧ inR (2400 * n + k) ∧ (0 ≤ 2400 * n + k ∧ 2400 * n + k < ((19200 : Nat) : Int)) ∧ (0 ≤ 2400 * n + k ∧ 2400 * n + k < ((19200 : Nat) : Int)) ∧ inR (2400 * n) ∧ inR (2400 * n + k) ∧ inR (2400 * n) ∧ inR (2400 * n + k) ∧ (0 ≤ 2400 * n + k ∧ 2400 * n + k < ((19200 : Nat) : Int)) ∧ (0 ≤ 2400 * n + k ∧ 2400 * n + k < ((19200 : Nat) : Int)) ∧ inR (k + 1) ∧ kW (eX X) 1 M_X12_takeAllOff T 2 [some (vR 54), some (vI n), some (vI (k + 1))] [] (mset (mset m2 75 (2400 * n + k) (m2 69 (2400 * n + k))) 76 (2400 * n + k) (m2 70 (2400 * n + k))))
          rw [e68, e69, e70]
          have hA : ∀ j, mset (mset m2 75 (2400 * n + k) (m 69 (2400 * n + k))) 76 (2400 * n + k) (m 70 (2400 * n + k)) 75 j = if j = 2400 * n + k then m 69 (2400 * n + k) else m2 75 j := fun j => by rw [k_mset_ne (show (75 : Nat) ≠ 76 by decide), k_mset_at]
          have hB : ∀ j, mset (mset m2 75 (2400 * n + k) (m 69 (2400 * n + k))) 76 (2400 * n + k) (m 70 (2400 * n + k)) 76 j = if j = 2400 * n + k then m 70 (2400 * n + k) else m2 76 j := fun j => by rw [k_mset_at, k_mset_ne (show (76 : Nat) ≠ 75 by decide)]
          have hE : mset (mset m2 75 (2400 * n + k) (m 69 (2400 * n + k))) 76 (2400 * n + k) (m 70 (2400 * n + k)) 77 = m2 77 := by rw [k_mset_ne (by decide), k_mset_ne (by decide)]
          refine ⟨hnb, fun h => absurd h (by omega), fun _ => ⟨by constructor <;> omega, by constructor <;> omega, by constructor <;> omega, by constructor <;> omega, hix, hix, by constructor <;> omega, by constructor <;> omega, by constructor <;> omega, by constructor <;> omega, hix, hix, by constructor <;> omega, ihp (k + 1) _ (by omega) (by omega) ((hJ _ _ _).mpr ⟨fun o a b e => by rw [k_mset_ne b, k_mset_ne a]; exact j1 o a b e, fun n' hn' => ?_, fun i hi => ?_⟩) (by rw [hE]; exact he2)⟩⟩
          · obtain ⟨e1, e2⟩ := j2 n' hn'
            have hl' := hle n' (by omega)
            refine ⟨by rw [hE]; exact e1, fun i hi => ?_⟩
            rw [hA, hB, if_neg (by omega), if_neg (by omega)]
            exact e2 i hi
          · rw [hA, hB]
            by_cases hik : i = k
            · rw [hik, if_pos rfl, if_pos rfl]; exact ⟨rfl, rfl⟩
            · rw [if_neg (by omega), if_neg (by omega)]; exact j3 i (by omega)
      obtain ⟨j1, j2, j3⟩ := (hJ _ _ _).mp hj
      refine kW_go ok_X12_takeAllOff [2] 20 ?_
      refine And.intro (fun h => ?_) (fun _ => ⟨hnb, hnb, ?_⟩)
      · have h : m' 54 26 ≤ n := h
        rw [j1 54 (by decide) (by decide) (by decide), h26] at h
        omega
      · have e68 : m' 68 = m 68 := j1 68 (by decide) (by decide) (by decide)
        show kW (eX X) 1 M_X12_takeAllOff T 2 [some (vR 54), some (vI n), some (vI 0)] [] (mset m' 77 n (m' 68 n))
        rw [e68]
        refine inner (m 68 n).toNat 0 _ (by omega) (by omega) ((hJ _ _ _).mpr ⟨fun o a b e => by rw [k_mset_ne e]; exact j1 o a b e, fun n' hn' => ?_, fun i hi => by omega⟩) (by rw [k_mset_at, if_pos rfl])
        obtain ⟨e1, e2⟩ := j2 n' hn'
        rw [k_mset_at, if_neg (by omega), k_mset_ne (by decide), k_mset_ne (by decide)]
        exact ⟨e1, e2⟩
  refine kW_go ok_X12_takeAllOff [1] 20 ?_
  exact outer (c 9 14).toNat 0 m none (by omega) (by omega) ((hJ _ _ _).mpr ⟨fun _ _ _ _ => rfl, fun n' hn' => by omega, fun i hi => by omega⟩)
set_option maxRecDepth 100000 in
theorem c_X12_late (X : Xv) (c m : Mem) {w d l : Int} {ex : Int → Int} (hD : okD w d l) (hWS : WS w d l c) (hR : RR w d l c m) (hex : ∀ y, inC w d l y → ex y = 0) (n p x y z : Int) (T : Option AV → Mem → Prop)
    (hno : ¬ ((0 ≤ n ∧ n < c 9 14) ∧ (0 ≤ p ∧ p < c 13 n) ∧ ((0 ≤ x ∧ x < w) ∧ (0 ≤ y ∧ y < d) ∧ (0 ≤ z ∧ z < l)) ∧ noPin c (ix w d x y z)) → T (some (vI (-1))) m)
    (hyes : ((0 ≤ n ∧ n < c 9 14) ∧ (0 ≤ p ∧ p < c 13 n) ∧ ((0 ≤ x ∧ x < w) ∧ (0 ≤ y ∧ y < d) ∧ (0 ≤ z ∧ z < l)) ∧ noPin c (ix w d x y z)) → ∃ cP, mvd w d l n p (ix w d x y z) c cP ∧ WS w d l cP ∧ ∀ v m', leastS (c 9 14) n (okT w d l ex cP n) v → (∀ o, o < 54 → m' o = m o) → ((v = -1 ∧ RR w d l c m') ∨ (v ≠ -1 ∧ ∃ c', lwA w d l ex (cS (w * d * l) n v cP) n v true c' ∧ RR w d l c' m')) → T (some (vI v)) m') : kCall (eX X) 11 285 [vR 54, vI n, vI p, vI x, vI y, vI z] m T := by
  have hM := hWS.1
  have h8 := hM.1.2.1
  refine kCall_ofT ok_X12_late rfl (Nat.le_of_ble_eq_true rfl) (fun T0 hT0 => ?_)
  have hno : ¬ ((0 ≤ n ∧ n < c 9 14) ∧ (0 ≤ p ∧ p < c 13 n) ∧ ((0 ≤ x ∧ x < w) ∧ (0 ≤ y ∧ y < d) ∧ (0 ≤ z ∧ z < l)) ∧ noPin c (ix w d x y z)) → T0 (some (vI (-1))) m := fun h => hT0 _ _ (hno h)
  refine kW_go ok_X12_late [2] 20 ?_
  refine kCall_mono (isNetR hM.1 hR.1 n) (Nat.le_of_ble_eq_true rfl) ?_
  rintro _ m ⟨rfl, rfl⟩
  refine And.intro (fun h => hno (fun q => b2i_0.mp h q.1)) (fun h => ?_)
  have hnn := b2i_n.mp h
  have hn8 : 0 ≤ n ∧ n < 8 := by omega
  have hnb : 0 ≤ n ∧ n < ((8 : Nat) : Int) := hn8
  obtain ⟨-, e63, e64⟩ := hR.1.2.2.2.2.1 n hn8
  have hP4 := (hM.2.1.1 n hn8).1
  have hP4' : 0 ≤ m 63 n ∧ m 63 n ≤ 4 := by rw [e63]; exact hP4
  refine ⟨hnb, by constructor <;> omega, ?_⟩
  refine kCall_mono (c_X12_in (eX X) m p 0 _) (Nat.le_of_ble_eq_true rfl) ?_
  rintro _ m ⟨rfl, rfl⟩
  refine And.intro (fun h => hno (fun q => b2i_0.mp h (by have := q.2.1; omega))) (fun h => ?_)
  have hp : 0 ≤ p ∧ p < c 13 n := by have := b2i_n.mp h; omega
  refine kCall_mono (c_X12_isCell X m hR.1.1 x y z) (Nat.le_of_ble_eq_true rfl) ?_
  rintro _ m ⟨rfl, rfl⟩
  refine And.intro (fun h => ?_) (fun h => hno (fun q => b2i_0.mp h q.2.2.1))
  have hc := b2i_n.mp h
  obtain ⟨⟨w1, w2⟩, ⟨d1, d2⟩, l1, l2⟩ := id hD
  obtain ⟨t, ht⟩ : ∃ t, t = ix w d x y z := ⟨_, rfl⟩
  rw [← ht] at hno hyes
  have hti : inC w d l t := by rw [ht]; exact ix_in hc.1 hc.2.1 hc.2.2
  have htc : cR w d t = 81 * z + 9 * y + x := by rw [ht]; exact cR_ix (l := l) hc.1 hc.2.1
  have hi4p : 0 ≤ 4 * n + p ∧ 4 * n + p < ((32 : Nat) : Int) := by omega
  obtain ⟨a, hao⟩ : ∃ a, a = c 14 (n * 4 + p) := ⟨_, rfl⟩
  have hai : inC w d l a := by rw [hao]; exact hM.2.1.2.1 n p hn8 hp
  have e64p : m 64 (4 * n + p) = cR w d a := by rw [hao]; exact e64 p hp
  have hcell : ∀ mm : Mem, kCall (eX X) 1 M_X12_cell.1 [vI x, vI y, vI z] mm (cP (cR w d t) mm) := by
    intro mm
    have := c_X12_cell (eX X) mm x y z (by omega) (by omega) (by omega)
    rw [show cR w d t = 81 * z + 9 * y + x from htc]
    exact this
  refine kW_go ok_X12_late [3] 20 ?_
  refine ⟨by constructor <;> omega, by constructor <;> omega, hi4p, ?_⟩
  refine kCall_mono (hcell m) (Nat.le_of_ble_eq_true rfl) ?_
  rintro _ m ⟨rfl, rfl⟩
  have h26 : m 54 26 = c 9 14 := hR.1.2.2.2.1.1
  refine kCall_mono (c_X12_pinOn X m (cR w d t) (by rw [h26]; exact h8) (fun n' hn' => by rw [(hR.1.2.2.2.2.1 n' hn').2.1]; exact (hM.2.1.1 n' hn').1)) (Nat.le_of_ble_eq_true rfl) ?_
  rintro _ m ⟨⟨rfl, hnone⟩ | ⟨n', p', h1, h2, h3, rfl⟩, rfl⟩
  · refine And.intro (fun _ => ?_) (fun h => absurd rfl h)
    have hnp : noPin c t := by
      intro n' p' hn' hp' e
      by_cases hlt : n' < c 9 14
      · obtain ⟨-, f63, f64⟩ := hR.1.2.2.2.2.1 n' hn'
        exact hnone n' p' (by omega) (by rw [f63]; exact hp') (by rw [f64 p' hp', e])
      · have := (hM.2.1.1 n' hn').2 (by omega)
        omega
    obtain ⟨cp, hmv, hWP, hT'⟩ := hyes ⟨hnn, hp, hc, hnp⟩
    have fP := hmv.1
    have hMP := hWP.1
    have eP9 : cp 9 = c 9 := fP 9 (by decide) (by decide)
    have eP13 : cp 13 = c 13 := fP 13 (by decide) (by decide)
    have hnnP : 0 ≤ n ∧ n < cp 9 14 := by rw [eP9]; exact hnn
    have hsh := shl_set.1 ⟨(c 9 14).toNat, by omega⟩
    simp only [Int.toNat_of_nonneg h8.1] at hsh
    refine kW_go ok_X12_late [4] 20 ?_
    refine kCall_mono (c_X12_plainly X m 1 (Or.inr rfl)) (Nat.le_of_ble_eq_true rfl) ?_
    rintro _ m1 ⟨rfl, hp1⟩
    have hR1 := plain_R hR hp1
    obtain ⟨hSt1, hr1⟩ := plain_Rst hp1
    refine kCall_mono (c_X12_takeAllOffL X c m1 hD h8 (RR_0 hR1)) (Nat.le_of_ble_eq_true rfl) ?_
    rintro _ m2 ⟨rfl, hSA2, hLS2, f2⟩
    have hR2 : RR0 w d l c m2 := RR0_fld (fun o u v => f2 o (by omega) (by omega) (by omega)) (fun i _ => by rw [f2 54 (by decide) (by decide) (by decide)]) (RR_0 hR1)
    refine kCall_mono (hcell m2) (Nat.le_of_ble_eq_true rfl) ?_
    rintro _ m2 ⟨rfl, rfl⟩
    refine kCall_mono (c_X12_movePin X c cp m2 hM (RR0_K hR2) n p t hn8 hp hti hnp hmv) (Nat.le_of_ble_eq_true rfl) ?_
    rintro _ m3 ⟨rfl, hR3, f3⟩
    -- what the search keeps
    obtain ⟨K, hK⟩ : ∃ K : Mem → Prop, ∀ mm, K mm ↔ (RRK w d l cp mm ∧ Rst mm ∧ SA 75 76 77 w d l c mm ∧ (∀ n', (0 ≤ n' ∧ n' < c 9 14) → LSn mm mm n') ∧ ∀ o, o < 54 → mm o = m o) := ⟨_, fun _ => Iff.rfl⟩
    have hCH : ∀ mm, K mm → ∀ n' : Int, (0 ≤ n' ∧ n' < 8) → CHn w d c mm n' := by
      intro mm hk n' hn'
      obtain ⟨k1, -, k3, k4, -⟩ := (hK mm).mp hk
      by_cases hlt : n' < c 9 14
      · obtain ⟨s1, s2, s3⟩ := k3 n' ⟨hn'.1, hlt⟩
        obtain ⟨l1, l2⟩ := k4 n' ⟨hn'.1, hlt⟩
        refine ⟨fun h => by rw [l1]; exact s2 h, fun h => ?_⟩
        rw [l1]
        exact CH_cong l2 (s3 h)
      · have hz : mm 68 n' = 0 := LT_zero (k1.2 n' hn').2.2.1 (fun y hy => ((hMP.2.2.1 n' hn').2 (by rw [eP9]; omega) y hy).2)
        exact ⟨fun _ => hz, fun h2 => by have := (hM.2.1.1 n' hn').2 (by omega); omega⟩
    have hCHP : ∀ mm, K mm → ∀ n' : Int, (0 ≤ n' ∧ n' < 8) → n' ≠ n → CHn w d cp mm n' := by
      intro mm hk n' hn' hne
      have h0 := hCH mm hk n' hn'
      unfold CHn at h0 ⊢
      rw [eP13]
      refine ⟨h0.1, fun h2 => ?_⟩
      have hP := (hM.2.1.1 n' hn').1
      rw [mvd_pins hmv, if_neg (by omega)]
      exact h0.2 h2
    have hSAK : ∀ mm, SA 75 76 77 w d l c mm → SAK w d l cp mm := by
      intro mm hs n' hn'
      rw [eP9] at hn'
      have := (hs n' hn').1
      rw [fP 19 (by decide) (by decide)]
      exact this
    have hlw : ∀ (s : Int) (mm : Mem), K mm → kCall (eX X) 9 M_X12_layWith.1 [vR 54, vI n, vI s] mm (fun r m' => ∃ ok c', lwA w d l ex (cS (w * d * l) n s cp) n s ok c' ∧ r = some (vI (if ok = true then 1 else 0)) ∧ ∃ cN, (ok = true → cN = c') ∧ RR0 w d l cN m' ∧ WM w d l cN ∧ (∀ o, o ≠ 17 → o ≠ 19 → cN o = cp o) ∧ rfr mm m' ∧ Rst m') := by
      intro s mm hk
      obtain ⟨k1, k2, -⟩ := (hK mm).mp hk
      exact c_X12_layWith X cp mm hD hMP k1 k2 hex n s hnnP (hCHP mm hk)
    have loop : ∀ (q : Nat) (i v : Int) (mm : Mem), i + q = kshl 1 (c 9 14) → 0 ≤ i → K mm → ((v = -1 ∧ ∀ s, s < i → vSet (c 9 14) n s → ¬ okT w d l ex cp n s) ∨ (vSet (c 9 14) n v ∧ okT w d l ex cp n v ∧ ∀ s, s < i → vSet (c 9 14) n s → okT w d l ex cp n s → s = v ∨ ahd v s)) → kW (eX X) 10 M_X12_late T0 4 [some (vR 54), some (vI n), some (vI p), some (vI x), some (vI y), some (vI z), some (vI (cR w d a)), some (vI (-1)), some (vI v), some (vI i)] [] mm := by
      intro q
      induction q with
      | zero =>
        intro i v mm hq h0 hk hv
        obtain ⟨k1, k2, k3, k4, k5⟩ := (hK mm).mp hk
        have e26 : mm 54 26 = c 9 14 := by rw [k1.1.2.2.2.1.1, eP9]
        have hleast : leastS (c 9 14) n (okT w d l ex cp n) v := by
          have hlt : ∀ s, vSet (c 9 14) n s → s < i := fun s hs => by
            have := ((vSet_iff h8 hn8 hs.1.1).mpr hs).2.1
            omega
          rcases hv with ⟨a, b⟩ | ⟨a, b, e⟩
          · exact Or.inl ⟨a, fun s hs => b s (hlt s hs) hs⟩
          · exact Or.inr ⟨a, b, fun s hs => e s (hlt s hs) hs⟩
        refine kW_go ok_X12_late [4] 20 ?_
        refine And.intro (fun _ => And.intro (fun hne => ?_) (fun he => ?_)) (fun h => ?_)
        · have hne : ¬ v = -1 := hne
          refine kCall_mono (hlw v mm hk) (Nat.le_of_ble_eq_true rfl) ?_
          rintro _ m4 ⟨ok, c', hL, rfl, cN, hcN, g1, g2, g3, g4, g5⟩
          rcases hv with ⟨a, -⟩ | ⟨-, ⟨-, c2, h2⟩, -⟩
          · exact absurd a hne
          have hok := (lwA_one hL h2).1
          subst hok
          obtain rfl := hcN rfl
          exact hT0 _ _ (hT' v m4 hleast (fun o ho => by rw [g4.1 o (by omega)]; exact k5 o ho) (Or.inr ⟨hne, cN, hL, ⟨g1.1, g1.2, g5.1, g5.2.1⟩⟩))
        · have he : v = -1 := he
          refine kCall_mono (c_X12_movePin X cp c mm hMP k1 n p a hn8 (by rw [eP13]; exact hp) hai (fun n' p' hn' hp' e => ?_) (by have := mvd_sym hM hn8 hmv; rw [← hao] at this; exact this)) (Nat.le_of_ble_eq_true rfl) ?_
          · rw [eP13] at hp'
            rw [mvd_pins hmv] at e
            have hPn' := (hM.2.1.1 n' hn').1
            by_cases e1 : n' * 4 + p' = n * 4 + p
            · rw [if_pos e1] at e
              exact hnp n p hn8 hp (by rw [← hao, ← e])
            · rw [if_neg e1, hao] at e
              have := hM.2.1.2.2 n' p' n p hn' hp' hn8 hp e
              omega
          · rintro _ m4 ⟨rfl, hR4, f4⟩
            have hR0 : RR0 w d l c m4 := RRK_0 hR4 (fun n' hn' => by
              have := hCH mm hk n' hn'
              unfold CHn at this ⊢
              rw [f4 68 (by decide) (by decide), f4 69 (by decide) (by decide), f4 70 (by decide) (by decide)]
              exact this)
            have e54 : m4 54 = mm 54 := f4 54 (by decide) (by decide)
            rw [he] at hleast
            exact hT0 _ _ (hT' (-1) m4 hleast (fun o ho => by rw [f4 o (by omega) (by omega)]; exact k5 o ho) (Or.inl ⟨rfl, ⟨hR0.1, hR0.2, by rw [e54]; exact k2.1, by rw [e54]; exact k2.2.1⟩⟩))
        · have h : i < kshl 1 (mm 54 26) := h
          rw [e26] at h
          omega
      | succ q ih =>
        intro i v mm hq h0 hk hv
        obtain ⟨k1, k2, k3, k4, k5⟩ := (hK mm).mp hk
        have e26 : mm 54 26 = c 9 14 := by rw [k1.1.2.2.2.1.1, eP9]
        have hi8 : 0 ≤ i ∧ i < 256 := by omega
        have hv8 : v = -1 ∨ (0 ≤ v ∧ v < 256) := by
          rcases hv with ⟨a, -⟩ | ⟨a, -⟩
          · exact Or.inl a
          · exact Or.inr a.1
        have hskip : ∀ (m2 : Mem), K m2 → (vSet (c 9 14) n i → okT w d l ex cp n i → v ≠ -1 ∧ (i = v ∨ ahd v i)) → kW (eX X) 10 M_X12_late T0 7 [some (vR 54), some (vI n), some (vI p), some (vI x), some (vI y), some (vI z), some (vI (cR w d a)), some (vI (-1)), some (vI v), some (vI i)] [] m2 := by
          intro m2 hk2 hi
          refine kW_go ok_X12_late [4] 20 ?_
          refine ⟨by constructor <;> omega, ih (i + 1) v m2 (by omega) (by omega) hk2 ?_⟩
          rcases hv with ⟨a, b⟩ | ⟨a, b, e⟩
          · refine Or.inl ⟨a, fun s hs hvs hok => ?_⟩
            by_cases hsi : s = i
            · rw [hsi] at hvs hok
              exact (hi hvs hok).1 a
            · exact b s (by omega) hvs hok
          · refine Or.inr ⟨a, b, fun s hs hvs hok => ?_⟩
            by_cases hsi : s = i
            · rw [hsi] at hvs hok ⊢
              exact (hi hvs hok).2
            · exact e s (by omega) hvs hok
        have hback : ∀ (u : Int) (cN m4 : Mem), RR0 w d l cN m4 → WM w d l cN → (∀ o, o ≠ 17 → o ≠ 19 → cN o = cp o) → rfr mm m4 → Rst m4 → (∀ m5, K m5 → kW (eX X) 10 M_X12_late T0 7 [some (vR 54), some (vI n), some (vI p), some (vI x), some (vI y), some (vI z), some (vI (cR w d a)), some (vI (-1)), some (vI u), some (vI i)] [] m5) → kW (eX X) 10 M_X12_late T0 6 [some (vR 54), some (vI n), some (vI p), some (vI x), some (vI y), some (vI z), some (vI (cR w d a)), some (vI (-1)), some (vI v), some (vI i)] [vI u] m4 := by
          intro u cN m4 g1 g2 g3 g4 g5 hout
          have hSA4 : SA 75 76 77 w d l c m4 := SA_same (g4.1 75 (by omega)) (g4.1 76 (by omega)) (g4.1 77 (by omega)) k3
          refine kW_go ok_X12_late [7] 20 ?_
          refine kCall_mono (c_X12_putAllBackK X cp cN m4 hD hMP g2 g3 (RR0_K g1) (hSAK m4 hSA4)) (Nat.le_of_ble_eq_true rfl) ?_
          rintro _ m5 ⟨rfl, q1, q2, q3⟩
          have e54 : m5 54 = m4 54 := q3 54 (by decide) (by decide) (by decide) (by decide)
          refine hout m5 ((hK _).mpr ⟨q1, ?_, SA_same (q3 75 (by decide) (by decide) (by decide) (by decide)) (q3 76 (by decide) (by decide) (by decide) (by decide)) (q3 77 (by decide) (by decide) (by decide) (by decide)) hSA4, fun n' hn' => ?_, fun o ho => ?_⟩)
          · unfold Rst at g5 ⊢
            rw [e54, q3 81 (by decide) (by decide) (by decide) (by decide)]
            exact g5
          · have := q2 n' (by rw [eP9]; exact hn')
            unfold LSn at this ⊢
            rw [q3 75 (by decide) (by decide) (by decide) (by decide), q3 76 (by decide) (by decide) (by decide) (by decide), q3 77 (by decide) (by decide) (by decide) (by decide)]
            exact this
          · rw [q3 o (by omega) (by omega) (by omega) (by omega), g4.1 o (by omega)]
            exact k5 o ho
        have hpi := pop_in i
        refine kW_go ok_X12_late [6, 7] 20 ?_
        refine And.intro (fun h => ?_) (fun _ => And.intro (fun hb => hskip mm hk (fun hvi _ => ?_)) (fun hb => ?_))
        · have h : kshl 1 (mm 54 26) ≤ i := h
          rw [e26] at h
          omega
        · have hb := (k_ask_ne hn8.1 (by omega)).mp hb
          rw [vSet_n hvi hn8.1] at hb
          cases hb
        · have hbn := (k_ask0 hn8.1 (by omega)).mp hb
          have hvi : vSet (c 9 14) n i := (vSet_iff h8 hn8 h0).mp ⟨h0, by omega, hbn⟩
          refine kCall_mono (c_bitCount (eX X) mm i hi8.1 hi8.2) (Nat.le_of_ble_eq_true rfl) ?_
          rintro _ mm ⟨rfl, rfl⟩
          refine And.intro (fun h3 => hskip mm hk (fun _ hok => ?_)) (fun h3 => ?_)
          · have h3 : 3 < pop i := h3
            have := hok.1
            omega
          · have h3 : pop i ≤ 3 := h3
            refine kCall_mono (c_X12_isAhead X mm i v hi8 hv8) (Nat.le_of_ble_eq_true rfl) ?_
            rintro _ m2 ⟨⟨hh, rfl⟩ | ⟨hh, rfl⟩, rfl⟩
            · refine And.intro (fun h => absurd h (by decide)) (fun _ => ?_)
              refine kCall_mono (hlw i m2 hk) (Nat.le_of_ble_eq_true rfl) ?_
              rintro _ m4 ⟨ok, c', hL, rfl, cN, hcN, g1, g2, g3, g4, g5⟩
              cases ok with
              | true =>
                rw [if_pos rfl]
                refine And.intro (fun h => absurd h (by decide)) (fun _ => ?_)
                have hok : okT w d l ex cp n i := ⟨h3, c', hL⟩
                refine hback i cN m4 g1 g2 g3 g4 g5 (fun m5 hk5 => ?_)
                refine kW_go ok_X12_late [4] 20 ?_
                refine ⟨by constructor <;> omega, ih (i + 1) i m5 (by omega) (by omega) hk5 (Or.inr ⟨hvi, hok, fun s hs hvs hsok => ?_⟩)⟩
                by_cases hsi : s = i
                · exact Or.inl hsi
                · right
                  rcases hv with ⟨a, b⟩ | ⟨a, b, e⟩
                  · exact absurd hsok (b s (by omega) hvs)
                  · have hiz : ahd i v := by
                      rcases hh with z0 | z0
                      · have := a.1.1; omega
                      · exact z0.2
                    rcases e s (by omega) hvs hsok with rfl | h
                    · exact hiz
                    · exact ahd_tr hiz h
              | false =>
                rw [if_neg (by decide)]
                refine And.intro (fun _ => ?_) (fun h => absurd rfl h)
                refine hback v cN m4 g1 g2 g3 g4 g5 (fun m5 hk5 => hskip m5 hk5 (fun _ hok => ?_))
                obtain ⟨-, c2, h2⟩ := hok
                have := (lwA_one hL h2).1
                cases this
            · refine And.intro (fun _ => hskip m2 hk (fun _ _ => ?_)) (fun h => absurd rfl h)
              have hzn : v ≠ -1 := fun e => hh (Or.inl e)
              refine ⟨hzn, ?_⟩
              by_cases e : i = v
              · exact Or.inl e
              · right
                rcases ahd_or hi8 (hv8.resolve_left hzn) e with h | h
                · exact absurd (Or.inr ⟨hzn, h⟩) hh
                · exact h
    have hgo := loop (kshl 1 (c 9 14)).toNat 0 (-1) m3 (by omega) (by omega) ((hK _).mpr ⟨hR3, ?_, SA_same (f3 75 (by decide) (by decide)) (f3 76 (by decide) (by decide)) (f3 77 (by decide) (by decide)) hSA2, fun n' hn' => ?_, fun o ho => ?_⟩) (Or.inl ⟨rfl, fun s hs hv => by have := hv.1.1; omega⟩)
    · rw [← e64p] at hgo
      exact hgo
    · unfold Rst at hSt1 ⊢
      rw [f3 54 (by decide) (by decide), f3 81 (by decide) (by decide), f2 54 (by decide) (by decide) (by decide), f2 81 (by decide) (by decide) (by decide)]
      exact hSt1
    · have := hLS2 n' hn'
      unfold LSn at this ⊢
      rw [f3 68 (by decide) (by decide), f3 69 (by decide) (by decide), f3 70 (by decide) (by decide), f3 75 (by decide) (by decide), f3 76 (by decide) (by decide), f3 77 (by decide) (by decide)]
      exact this
    · rw [f3 o (by omega) (by omega), f2 o (by omega) (by omega) (by omega), hp1.1 o (by omega) (by omega)]
  · have hr : 0 ≤ p' := h2.1
    refine And.intro (fun h => absurd h (by omega)) (fun _ => hno (fun q => ?_))
    have hn'8 : 0 ≤ n' ∧ n' < 8 := by omega
    obtain ⟨-, f63, f64⟩ := hR.1.2.2.2.2.1 n' hn'8
    rw [f63] at h2
    rw [f64 p' h2] at h3
    exact q.2.2.2 n' p' hn'8 h2 (cR_inj hD (hM.2.1.2.1 n' p' hn'8 h2) hti h3)
theorem inv_back3 {X : Xv} {w d l : Int} {m m3 m4 : Mem} (hI : Inv X w d l m) (h : ∀ o, ((1 ≤ o ∧ o ≤ 19 ∧ o ≠ 8) ∨ o = 31 ∨ o = 41 ∨ o = 47 ∨ 54 ≤ o) → o ≠ 16 → o ≠ 17 → o ≠ 19 → m3 o = m o) (h16 : ∀ x, inC w d l x → m3 16 x = m 16 x) (h19 : rows19 w d l m m3) (h17 : ∀ x, inC w d l x → m3 17 x = m 17 x) (h2 : ∀ o, o < 54 → m4 o = m3 o) (hR : RR w d l m m4) : Inv X w d l m4 := by
  obtain ⟨mH, hmH⟩ : ∃ mH : Mem, mH = fun o => if o = 16 then m3 16 else m o := ⟨_, rfl⟩
  have e16 : mH 16 = m3 16 := by rw [hmH]; rfl
  have eo : ∀ o, o ≠ 16 → mH o = m o := fun o a => by rw [hmH]; show (if o = 16 then _ else _) = _; rw [if_neg a]
  have h16' : ∀ x, inC w d l x → mH 16 x = m 16 x := fun x hx => by rw [e16]; exact h16 x hx
  obtain ⟨i1, i2, i3, i4, i5, i6⟩ := hI
  have hIH : Inv X w d l mH := ⟨Bd_same i1 (fun o a b => eo o (by omega)), i2, WF_16 eo h16' i3, RR_16 eo h16' (RR_ref (fun o a _ => eo o (by omega)) i4), ⟨by rw [eo 6 (by decide)]; exact i5.1, MK_same (eo 41 (by decide)) i5.2⟩, fun y hy => by rw [eo 31 (by decide)]; exact i6 y hy⟩
  refine inv_back2 (m3 := m3) hIH (fun o ho a b => ?_) (fun n x hn hx => ?_) (fun x hx => ?_) h2 (RR_16 eo h16' hR)
  · by_cases e : o = 16
    · rw [e]; exact e16.symm
    · rw [eo o e]; exact h o ho e a b
  · rw [eo 19 (by decide)]; exact h19 n x hn hx
  · rw [eo 17 (by decide)]; exact h17 x hx
set_option maxRecDepth 100000 in
theorem pair_late (X : Xv) (m : Mem) {w d l : Int} (hI : Inv X w d l m) (n p x y z : Int) : kPair X 160 285 [vI n, vI p, vI x, vI y, vI z] m (Inv X w d l) := by
  obtain ⟨hB, hl, hW, hR, h60, h31⟩ := id hI
  obtain ⟨hD, hN, hG⟩ := id hB
  have hWS := Inv_WS hI
  have h8 := hW.1.2.1
  refine kp2 (k1 := 9) (k2 := 11) (by decide) (by decide) ?_
  refine kCall_ofT ok_X11_late rfl (Nat.le_of_ble_eq_true rfl) (fun T hT => ?_)
  obtain ⟨ok, hok⟩ : ∃ ok : Prop, ok ↔ ((0 ≤ n ∧ n < m 9 14) ∧ (0 ≤ p ∧ p < m 13 n) ∧ ((0 ≤ x ∧ x < w) ∧ (0 ≤ y ∧ y < d) ∧ (0 ≤ z ∧ z < l)) ∧ noPin m (ix w d x y z)) := ⟨_, Iff.rfl⟩
  have hno : ¬ ok → T (some (vI (-1))) m := by
    intro h
    refine hT _ _ ⟨_, rfl, c_X12_late X m m hD hWS hR h31 n p x y z _ (fun _ => ⟨rfl, hI⟩) (fun q => absurd (hok.mpr q) h)⟩
  refine kW_go ok_X11_late [2] 20 ?_
  refine kCall_mono (c_X2_cellAt X m hD hG x y z) (Nat.le_of_ble_eq_true rfl) ?_
  rintro _ m ⟨rfl, rfl⟩
  refine kCall_mono (c_X11_isNet X m n) (Nat.le_of_ble_eq_true rfl) ?_
  rintro _ m ⟨rfl, rfl⟩
  refine And.intro (fun h => hno (fun q => b2i_0.mp h (hok.mp q).1)) (fun h => And.intro (fun h0 => hno (fun q => ?_)) (fun h0 => ?_))
  · have h0 : p < 0 := h0
    have := (hok.mp q).2.1
    omega
  have hnn := b2i_n.mp h
  have hn8 : 0 ≤ n ∧ n < 8 := by omega
  have hnb : 0 ≤ n ∧ n < ((8 : Nat) : Int) := hn8
  refine ⟨hnb, And.intro (fun h1 => hno (fun q => ?_)) (fun h1 => And.intro (fun h2 => hno (fun q => ?_)) (fun h2 => ?_))⟩
  · have h1 : m 13 n ≤ p := h1
    have := (hok.mp q).2.1
    omega
  · have h2 : cAt w d l x y z = -1 := h2
    rw [cAt_no hD.2.2.1 ⟨hD.1.1, hD.2.1.1⟩] at h2
    exact h2 (hok.mp q).2.2.1
  have hp : 0 ≤ p ∧ p < m 13 n := by
    have h0 : ¬ p < 0 := fun z => by have h0 : 0 ≤ p := h0; omega
    have h1 : p < m 13 n := h1
    omega
  have hc : (0 ≤ x ∧ x < w) ∧ (0 ≤ y ∧ y < d) ∧ (0 ≤ z ∧ z < l) := Classical.byContradiction (fun q => h2 ((cAt_no hD.2.2.1 ⟨hD.1.1, hD.2.1.1⟩).mpr q))
  have hcx : cAt w d l x y z = ix w d x y z := by unfold cAt; rw [if_pos hc]
  have hti := ix_in (w := w) (d := d) (l := l) hc.1 hc.2.1 hc.2.2
  refine kCall_mono (c_X3_hasPin X m (cAt w d l x y z) h8 (fun n' a b => (hW.2.1.1 n' ⟨a, b⟩).1)) (Nat.le_of_ble_eq_true rfl) ?_
  rw [hcx]
  rintro _ m2 ⟨⟨⟨n', p', h5, h6, h7⟩, rfl⟩ | ⟨h5, rfl⟩, rfl⟩
  · refine And.intro (fun h => absurd h (by decide)) (fun _ => hno (fun q => ?_))
    exact (hok.mp q).2.2.2 n' p' (by omega) h6 h7
  · refine And.intro (fun _ => ?_) (fun h => absurd rfl h)
    have hnp : noPin m2 (ix w d x y z) := by
      intro n' p' hn' hp' e
      by_cases hlt : n' < m2 9 14
      · exact h5 n' p' ⟨hn'.1, hlt⟩ hp' e
      · have := (hW.2.1.1 n' hn').2 (by omega)
        omega
    have hokk : ok := hok.mpr ⟨hnn, hp, hc, hnp⟩
    refine kW_go ok_X11_late [] 20 ?_
    refine kCall_mono (c_X1_moveLate X m2 hI n p (ix w d x y z) hnn hp hti hnp) (Nat.le_of_ble_eq_true rfl) ?_
    rintro _ m3 ⟨v, m1, cP, hI1, f1, hmv, rfl, hz, f3, hout⟩
    refine hT _ _ ⟨v, rfl, ?_⟩
    have hWS1 := Inv_WS hI1
    have e9 : m1 9 = m2 9 := f1 9 (by decide) (by decide)
    have e13 : m1 13 = m2 13 := f1 13 (by decide) (by decide)
    have hnp1 : noPin m1 (ix w d x y z) := by
      unfold noPin at hnp ⊢
      rw [e13, f1 14 (by decide) (by decide)]
      exact hnp
    have hR3 : RR w d l m1 m3 := RR_ref (fun o a _ => by rw [f3 o (by omega)]; exact (f1 o (by omega) (by omega)).symm) hI1.2.2.2.1
    refine c_X12_late X m1 m3 hD hWS1 hR3 (ex := m2 31) h31 n p x y z _ (fun q => absurd ⟨by rw [e9]; exact hnn, by rw [e13]; exact hp, hc, hnp1⟩ q) (fun _ => ⟨cP, hmv, mvd_WS hWS1 hn8 (by rw [e13]; exact hp) hti hnp1 hmv, fun v2 m4 hz2 h4 hout2 => ?_⟩)
    rw [e9] at hz2
    have hvv := leastS_one (fun s _ => Iff.rfl) hz hz2
    subst hvv
    refine ⟨rfl, ?_⟩
    rcases hout with ⟨hv, q14, q16, q19, q17⟩ | ⟨hv, c', hL, hE, hWc, hcc⟩
    · rcases hout2 with ⟨-, hR4⟩ | ⟨h, -⟩
      · refine inv_back3 hI1 (m3 := m3) (fun o ho a b e => ?_) (fun x hx => by rw [q16 x hx, f1 16 (by decide) (by decide)]) (fun n' x hn' hx => by rw [q19 n' x hn' hx, f1 19 (by decide) (by decide)]) (fun x hx => by rw [q17 x hx, f1 17 (by decide) (by decide)]) h4 hR4
        by_cases e14 : o = 14
        · rw [e14, q14, f1 14 (by decide) (by decide)]
        · rw [f3 o (by omega), f1 o (by omega) (by omega)]
      · exact absurd hv h
    · rcases hout2 with ⟨h, -⟩ | ⟨-, c2, hL2, hR4⟩
      · exact absurd h hv
      · obtain ⟨-, hc⟩ := lwA_one hL hL2
        obtain rfl := hc rfl
        -- the board with the pin moved and the traces new
        have fc : ∀ o, o ≠ 14 → o ≠ 16 → o ≠ 17 → o ≠ 19 → c' o = m1 o := fun o a b e g => by rw [hcc o e g]; exact hmv.1 o a b
        have hWF : WF w d l c' := by
          obtain ⟨-, -, -, -, w5, w6, w7⟩ := hI1.2.2.1
          refine ⟨hWc.1.1, hWc.1.2.1, hWc.1.2.2.1, hWc.1.2.2.2, ?_, ?_, ?_⟩
          · rw [fc 15 (by decide) (by decide) (by decide) (by decide)]; exact w5
          · rw [fc 6 (by decide) (by decide) (by decide) (by decide), fc 7 (by decide) (by decide) (by decide) (by decide)]; exact w6
          · rw [fc 47 (by decide) (by decide) (by decide) (by decide)]; exact w7
        refine inv_mk hI1 (m1 := m3) (c' := c') (fun o a b => by rw [f3 o (by omega), f1 o (by omega) (by omega)]) (Es_of (fun o ho => ?_)) hWF (by rw [f3 6 (by omega), f1 6 (by decide) (by decide)]) (by rw [f3 31 (by omega), f1 31 (by decide) (by decide)]) h4 hR4
        by_cases h9 : 9 ≤ o ∧ o ≤ 19
        · exact hE o h9.1 h9.2
        · rw [f3 o (by omega), fc o (by omega) (by omega) (by omega) (by omega), f1 o (by omega) (by omega)]
