/-! LATE: lists without how they run -/
theorem RRk_F {w d l n : Int} {c r : Mem} : RRk w d l c r n ↔ RRn w d l (fun o => if o = 13 then (fun _ => 3) else c o) r n := by
  rw [RRn_k]
  exact ⟨fun h => ⟨h, fun z => absurd (show (3 : Int) ≤ 1 from z) (by decide), fun z => absurd (show (3 : Int) = 2 from z) (by decide)⟩, fun h => h.1⟩
theorem tsame_F {w d l n : Int} {c c' : Mem} (h : tsame w d l n c c') : tsame w d l n (fun o => if o = 13 then (fun _ => 3) else c o) (fun o => if o = 13 then (fun _ => 3) else c' o) := ⟨fun o a b => by
  show (if o = 13 then (fun _ => 3) else c' o) = (if o = 13 then (fun _ => 3) else c o)
  rw [h.1 o a b], h.2.1, h.2.2⟩
theorem RRk_rsm {w d l n n' : Int} {c c' m m' : Mem} (hD : okD w d l) (hn : 0 ≤ n ∧ n < 8) (hn' : 0 ≤ n' ∧ n' < 8) (hne : n' ≠ n) (ht : tsame w d l n c c') (hr : rsm n m m') (h : RRk w d l c m n') : RRk w d l c' m' n' := RRk_F.mpr (RRn_rsm hD hn hn' hne (tsame_F ht) hr (RRk_F.mp h))
theorem RRK_rsm {w d l n : Int} {c c' m m' : Mem} (hD : okD w d l) (hn : 0 ≤ n ∧ n < 8) (ht : tsame w d l n c c') (hr : rsm n m m') (h : RRK w d l c m) (hnew : RRk w d l c' m' n) : RRK w d l c' m' := by
  refine ⟨RRs_rsm ht.1 hr h.1, fun n' hn' => ?_⟩
  by_cases hne : n' = n
  · rw [hne]; exact hnew
  · exact RRk_rsm hD hn hn' hne ht hr (h.2 n' hn')
theorem RRK_pt {w d l : Int} {c c' r : Mem} (hD : okD w d l) (hc : ∀ o, o ≠ 17 → o ≠ 19 → c' o = c o) (h19 : ∀ n x : Int, (0 ≤ n ∧ n < 8) → inC w d l x → c' 19 (n * (w * d * l) + x) = c 19 (n * (w * d * l) + x)) (h17 : ∀ (x : Int) (o : Nat), inC w d l x → o < 8 → bt (c' 17 x) o = bt (c 17 x) o) (h : RRK w d l c r) : RRK w d l c' r := by
  refine ⟨RRs_c hc (fun _ _ _ => rfl) h.1, fun n hn => ?_⟩
  obtain ⟨a1, a2, a3, a5, a6⟩ := h.2 n hn
  unfold RRk
  rw [hc 16 (by decide) (by decide), hc 18 (by decide) (by decide)]
  exact ⟨a1, a2, LT_cong (fun _ _ => ⟨rfl, rfl⟩) (fun x hx => h19 n x hn hx) a3, fun x hx => by rw [h17 x n.toNat hx (by omega)]; exact a5 x hx, a6⟩
theorem RRK_fld {w d l : Int} {c r r' : Mem} (h : ∀ o, 55 ≤ o → o ≤ 72 ∨ o = 88 → r' o = r o) (h54 : ∀ i : Int, i = 1 ∨ i = 2 ∨ i = 3 ∨ i = 5 ∨ i = 13 ∨ i = 26 → r' 54 i = r 54 i) (hw : RRK w d l c r) : RRK w d l c r' := by
  have e : ∀ o, 55 ≤ o → o ≤ 72 → r' o = r o := fun o h1 h2 => h o h1 (Or.inl h2)
  have f1 : r' 54 ((1 : Nat) : Int) = r 54 ((1 : Nat) : Int) := h54 1 (by decide)
  have f2 : r' 54 ((2 : Nat) : Int) = r 54 ((2 : Nat) : Int) := h54 2 (by decide)
  have f3 : r' 54 ((3 : Nat) : Int) = r 54 ((3 : Nat) : Int) := h54 3 (by decide)
  have f5 := h54 5 (by decide)
  have f13 := h54 13 (by decide)
  have f26 := h54 26 (by decide)
  unfold RRK RRs RRk dimM fld at hw ⊢
  rw [f1, f2, f3, f5, f13, f26, e 55 (by decide) (by decide), e 56 (by decide) (by decide), e 57 (by decide) (by decide), e 58 (by decide) (by decide), e 59 (by decide) (by decide), e 60 (by decide) (by decide), e 61 (by decide) (by decide), e 62 (by decide) (by decide), e 63 (by decide) (by decide), e 64 (by decide) (by decide), e 65 (by decide) (by decide), e 66 (by decide) (by decide), e 67 (by decide) (by decide), e 68 (by decide) (by decide), e 69 (by decide) (by decide), e 70 (by decide) (by decide), e 71 (by decide) (by decide), e 72 (by decide) (by decide), h 88 (by decide) (Or.inr rfl)]
  exact hw
def SAK (w d l : Int) (c r : Mem) : Prop := ∀ n : Int, (0 ≤ n ∧ n < c 9 14) → LT w d l (fun i => r 75 (2400 * n + i)) (fun i => r 76 (2400 * n + i)) (r 77 n) (fun x => c 19 (n * (w * d * l) + x))
/-- a net's list is the one laid aside -/
def LSn (m m' : Mem) (n : Int) : Prop := m' 68 n = m 77 n ∧ ∀ i : Int, (0 ≤ i ∧ i < m 77 n) → m' 69 (2400 * n + i) = m 75 (2400 * n + i) ∧ m' 70 (2400 * n + i) = m 76 (2400 * n + i)
set_option maxRecDepth 100000 in
theorem c_X12_putAllBackK (X : Xv) (c0 c m : Mem) {w d l : Int} (hD : okD w d l) (hM0 : WM w d l c0) (hM : WM w d l c) (hc : ∀ o, o ≠ 17 → o ≠ 19 → c o = c0 o) (hR : RRK w d l c m) (hS : SAK w d l c0 m) : kCall (eX X) 2 M_X12_putAllBack.1 [vR 54] m (fun r m' => r = none ∧ RRK w d l c0 m' ∧ (∀ n', (0 ≤ n' ∧ n' < c0 9 14) → LSn m m' n') ∧ ∀ o, o ≠ 68 → o ≠ 69 → o ≠ 70 → o ≠ 72 → m' o = m o) := by
  have h8 := hM0.1.2.1
  have h26 : m 54 26 = c0 9 14 := by rw [hR.1.2.2.2.1.1, hc 9 (by decide) (by decide)]
  refine kCall_ofT ok_X12_putAllBack rfl (Nat.le_of_ble_eq_true rfl) (fun T hT => ?_)
  have outer : ∀ (q : Nat) (n : Int) (cn m' : Mem) (x2 : Option AV), n + q = c0 9 14 → 0 ≤ n → RRK w d l cn m' → (∀ n', (0 ≤ n' ∧ n' < n) → LSn m m' n') → WM w d l cn → (∀ o, o ≠ 17 → o ≠ 19 → cn o = c0 o) → (∀ j x : Int, (0 ≤ j ∧ j < n) → inC w d l x → cn 19 (j * (w * d * l) + x) = c0 19 (j * (w * d * l) + x) ∧ bt (cn 17 x) j.toNat = bt (c0 17 x) j.toNat) → (∀ o, o ≠ 68 → o ≠ 69 → o ≠ 70 → o ≠ 72 → m' o = m o) → kW (eX X) 1 M_X12_putAllBack T 1 [some (vR 54), some (vI n), x2] [] m' := by
    intro q
    induction q with
    | zero =>
      intro n cn m' x2 hnq h0 hRn hLn hMn hcn hz hf
      refine kW_go ok_X12_putAllBack [1, 2] 20 ?_
      refine And.intro (fun _ => hT _ _ ⟨rfl, ?_, fun n' hn' => hLn n' (by omega), hf⟩) (fun h => ?_)
      · have hrow : ∀ j x : Int, (0 ≤ j ∧ j < 8) → inC w d l x → cn 19 (j * (w * d * l) + x) = c0 19 (j * (w * d * l) + x) := by
          intro j x hj hx
          by_cases hjn : j < n
          · exact (hz j x ⟨hj.1, hjn⟩ hx).1
          · rw [((hMn.2.2.1 j hj).2 (by rw [hcn 9 (by decide) (by decide)]; omega) x hx).2, ((hM0.2.2.1 j hj).2 (by omega) x hx).2]
        refine RRK_pt hD (fun o a b => (hcn o a b).symm) (fun j x hj hx => (hrow j x hj hx).symm) (fun x o hx ho => ?_) hRn
        have h1 := ((hMn.2.2.1 (o : Int) (by omega)).1 x hx).2.2.1
        have h2 := ((hM0.2.2.1 (o : Int) (by omega)).1 x hx).2.2.1
        rw [Int.toNat_natCast] at h1 h2
        rw [hrow (o : Int) x (by omega) hx, ← h2] at h1
        cases ha : bt (cn 17 x) o <;> cases hb : bt (c0 17 x) o <;> simp_all
      · have h : n < m' 54 26 := h
        rw [hf 54 (by decide) (by decide) (by decide) (by decide), h26] at h
        omega
    | succ q ih =>
      intro n cn m' x2 hnq h0 hRn hLn hMn hcn hz hf
      have hn8 : 0 ≤ n ∧ n < 8 := by omega
      have hnb : 0 ≤ n ∧ n < ((8 : Nat) : Int) := hn8
      have hSn := hS n (by omega)
      have hl0 := hSn.1.1
      have hl := okL_le hD hSn.1
      have eE : m' 77 = m 77 := hf 77 (by decide) (by decide) (by decide) (by decide)
      have eA : m' 75 = m 75 := hf 75 (by decide) (by decide) (by decide) (by decide)
      have eB : m' 76 = m 76 := hf 76 (by decide) (by decide) (by decide) (by decide)
      have hk := hRn.2 n hn8
      -- the copied list
      obtain ⟨J, hJ⟩ : ∃ J : Int → Mem → Prop, ∀ k m2, J k m2 ↔ ((∀ o, o ≠ 68 → o ≠ 69 → o ≠ 70 → m2 o = m' o) ∧ (∀ j, m2 68 j = if j = n then m 77 n else m' 68 j) ∧ (∀ j : Int, ¬ (2400 * n ≤ j ∧ j < 2400 * n + 2400) → m2 69 j = m' 69 j ∧ m2 70 j = m' 70 j) ∧ ∀ i : Int, (0 ≤ i ∧ i < k) → m2 69 (2400 * n + i) = m 75 (2400 * n + i) ∧ m2 70 (2400 * n + i) = m 76 (2400 * n + i)) := ⟨_, fun _ _ => Iff.rfl⟩
      have inner : ∀ (p : Nat) (k : Int) (m2 : Mem), k + p = m 77 n → 0 ≤ k → J k m2 → kW (eX X) 1 M_X12_putAllBack T 2 [some (vR 54), some (vI n), some (vI k)] [] m2 := by
        intro p
        induction p with
        | zero =>
          intro k m2 hkp hk0 hj2
          obtain ⟨j1, j2, j3, j4⟩ := (hJ _ _).mp hj2
          have e68 : m2 68 n = m 77 n := by rw [j2, if_pos rfl]
          have hval := fun i hi => LT_val hD hSn (i := i) hi
          have j4' : ∀ i : Int, (0 ≤ i ∧ i < m 77 n) → m2 69 (2400 * n + i) = m 75 (2400 * n + i) ∧ m2 70 (2400 * n + i) = m 76 (2400 * n + i) := fun i hi => j4 i (by omega)
          refine kW_go ok_X12_putAllBack [1] 20 ?_
          refine ⟨hnb, And.intro (fun _ => ?_) (fun h => ?_)⟩
          · refine kCall_mono (c_X12_paint X m2 n hn8 (by rw [e68]; omega) (fun i h1 h2 => by rw [e68] at h2; rw [(j4' i ⟨h1, h2⟩).1, (j4' i ⟨h1, h2⟩).2]; exact ⟨(hval i ⟨h1, h2⟩).1, (hval i ⟨h1, h2⟩).2.1⟩)) (Nat.le_of_ble_eq_true rfl) ?_
            rintro _ m3 ⟨rfl, hp⟩
            rw [e68] at hp
            have p1 := hp.1
            have hts := stn_tsame (w := w) (d := d) (l := l) (c0 := c0) (c := cn) hn8
            have hrs : rsm n m' m3 := ⟨fun o h1 h2 h3 h4 h5 h6 h7 h8 h9 h10 h11 => by rw [p1 o h6, j1 o h3 h4 h5], fun o ho => by rw [p1 o (by omega), j1 o (by omega) (by omega) (by omega)], fun i hi => by rw [p1 54 (by decide), j1 54 (by decide) (by decide) (by decide)], fun j hj => by rw [p1 68 (by decide), j2, if_neg hj], fun j hj => by rw [p1 69 (by decide), p1 70 (by decide)]; exact j3 j hj, fun j hj => by rw [pnt_rsame hp j hj, j1 72 (by decide) (by decide) (by decide)]⟩
            have h683 : m3 68 n = m 77 n := by rw [p1 68 (by decide)]; exact e68
            have hLT : LT w d l (fun i => m2 69 (2400 * n + i)) (fun i => m2 70 (2400 * n + i)) (m2 68 n) (fun x => stn (w * d * l) n c0 cn 19 (n * (w * d * l) + x)) := by
              rw [e68]
              exact LT_cong j4' (fun x hx => by rw [stn_19 hx, if_pos rfl]) hSn
            have hWn := stn_WFn (w := w) (d := d) (l := l) hn8 hcn (hM0.2.2.1 n hn8)
            have hnew : RRk w d l (stn (w * d * l) n c0 cn) m3 n := by
              refine paint_RRk hD hn8 hWn (c0 := cn) (m := m2) (stn_ne (by decide) (by decide)) (stn_ne (by decide) (by decide)) (RRw_m (j1 65 (by decide) (by decide) (by decide)) (j1 66 (by decide) (by decide) (by decide)) (j1 67 (by decide) (by decide) (by decide)) (j1 72 (by decide) (by decide) (by decide)) (RRk_w hk)) hLT hp (fun x hx => by rw [e68]; exact Iff.rfl) (fun j hj z => ?_)
              obtain ⟨i, hi, hh⟩ := z
              have hv := hval i hi
              have hq := j4' i hi
              rw [hq.1, hq.2] at hh
              rcases hh with hh | hh
              · rw [← hh] at hj; exact hj hv.2.2.1
              · rw [← hh] at hj; exact hj hv.2.2.2
            refine ⟨by constructor <;> omega, ih (n + 1) (stn (w * d * l) n c0 cn) m3 _ (by omega) (by omega) (RRK_rsm hD hn8 hts hrs hRn hnew) (fun n' hn' => ?_) (stn_WM hn8 hcn hM0 hMn) (fun o a b => by rw [stn_ne a b]; exact hcn o a b) (fun j x hj hx => ?_) (fun o a b e f => by rw [p1 o f, j1 o a b e]; exact hf o a b e f)⟩
            · by_cases hnn' : n' = n
              · rw [hnn']
                exact ⟨h683, fun i hi => by rw [p1 69 (by decide), p1 70 (by decide)]; exact j4' i hi⟩
              · have hl' := hLn n' (by omega)
                have hSn' := hS n' (by omega)
                have hle' := okL_le hD hSn'.1
                refine ⟨by rw [p1 68 (by decide), j2, if_neg hnn']; exact hl'.1, fun i hi => ?_⟩
                have := j3 (2400 * n' + i) (by omega)
                rw [p1 69 (by decide), p1 70 (by decide), this.1, this.2]
                exact hl'.2 i hi
            rw [stn_19 hx, stn_17 hn8 hx (by omega)]
            by_cases hjn : j = n
            · rw [if_pos hjn, if_pos (by omega)]; exact ⟨rfl, rfl⟩
            · rw [if_neg hjn, if_neg (by omega)]; exact hz j x (by omega) hx
          · have h : k < m2 68 n := h
            omega
        | succ p ihp =>
          intro k m2 hkp hk0 hj2
          obtain ⟨j1, j2, j3, j4⟩ := (hJ _ _).mp hj2
          have e68 : m2 68 n = m 77 n := by rw [j2, if_pos rfl]
          have fA : m2 75 = m 75 := by rw [j1 75 (by decide) (by decide) (by decide)]; exact eA
          have fB : m2 76 = m 76 := by rw [j1 76 (by decide) (by decide) (by decide)]; exact eB
          have hix : 0 ≤ 2400 * n + k ∧ 2400 * n + k < ((19200 : Nat) : Int) := by omega
          refine kW_go ok_X12_putAllBack [2, 3] 20 ?_
          show (0 ≤ n ∧ n < ((8 : Nat) : Int)) ∧ (m2 68 n ≤ k → _) ∧ (k < m2 68 n → inR (2400 * n) ∧ inR (2400 * n + k) ∧ inR (2400 * n) ∧ inR (2400 * n + k) ∧ (0 ≤ 2400 * n + k ∧ 2400 * n + k < ((19200 : Nat) : Int)) ∧ (0 ≤ 2400 * n + k ∧ 2400 * n + k < ((19200 : Nat) : Int)) ∧ inR (2400 * n) ∧ inR (2400 * n + k) ∧ inR (2400 * n) ∧ inR (2400 * n + k) ∧ (0 ≤ 2400 * n + k ∧ 2400 * n + k < ((19200 : Nat) : Int)) ∧ (0 ≤ 2400 * n + k ∧ 2400 * n + k < ((19200 : Nat) : Int)) ∧ inR (k + 1) ∧ kW (eX X) 1 M_X12_putAllBack T 2 [some (vR 54), some (vI n), some (vI (k + 1))] [] (mset (mset m2 69 (2400 * n + k) (m2 75 (2400 * n + k))) 70 (2400 * n + k) (m2 76 (2400 * n + k))))
          rw [e68, fA, fB]
          have hA : ∀ j, mset (mset m2 69 (2400 * n + k) (m 75 (2400 * n + k))) 70 (2400 * n + k) (m 76 (2400 * n + k)) 69 j = if j = 2400 * n + k then m 75 (2400 * n + k) else m2 69 j := fun j => by rw [k_mset_ne (show (69 : Nat) ≠ 70 by decide), k_mset_at]
          have hB : ∀ j, mset (mset m2 69 (2400 * n + k) (m 75 (2400 * n + k))) 70 (2400 * n + k) (m 76 (2400 * n + k)) 70 j = if j = 2400 * n + k then m 76 (2400 * n + k) else m2 70 j := fun j => by rw [k_mset_at, k_mset_ne (show (70 : Nat) ≠ 69 by decide)]
          refine ⟨hnb, fun h => absurd h (by omega), fun _ => ⟨by constructor <;> omega, by constructor <;> omega, by constructor <;> omega, by constructor <;> omega, hix, hix, by constructor <;> omega, by constructor <;> omega, by constructor <;> omega, by constructor <;> omega, hix, hix, by constructor <;> omega, ihp (k + 1) _ (by omega) (by omega) ((hJ _ _).mpr ⟨fun o a b e => by rw [k_mset_ne e, k_mset_ne b]; exact j1 o a b e, fun j => by rw [k_mset_ne (by decide), k_mset_ne (by decide)]; exact j2 j, fun j hj => ?_, fun i hi => ?_⟩)⟩⟩
          · rw [hA, hB, if_neg (by omega), if_neg (by omega)]
            exact j3 j hj
          · rw [hA, hB]
            by_cases hik : i = k
            · rw [hik, if_pos rfl, if_pos rfl]; exact ⟨rfl, rfl⟩
            · rw [if_neg (by omega), if_neg (by omega)]; exact j4 i (by omega)
      refine kW_go ok_X12_putAllBack [2] 20 ?_
      refine And.intro (fun h => ?_) (fun _ => ⟨hnb, hnb, ?_⟩)
      · have h : m' 54 26 ≤ n := h
        rw [hf 54 (by decide) (by decide) (by decide) (by decide), h26] at h
        omega
      · show kW (eX X) 1 M_X12_putAllBack T 2 [some (vR 54), some (vI n), some (vI 0)] [] (mset m' 68 n (m' 77 n))
        rw [eE]
        exact inner (m 77 n).toNat 0 _ (by omega) (by omega) ((hJ _ _).mpr ⟨fun o a b e => by rw [k_mset_ne a], fun j => by rw [k_mset_at], fun j _ => by rw [k_mset_ne (by decide), k_mset_ne (by decide)]; exact ⟨rfl, rfl⟩, fun i hi => by omega⟩)
  refine kW_go ok_X12_putAllBack [1] 20 ?_
  exact outer (c0 9 14).toNat 0 c m none (by omega) (by omega) hR (fun n' hn' => by omega) hM hc (fun j x hj => by omega) (fun _ _ _ _ _ => rfl)
