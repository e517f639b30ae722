/-! the reference's traces of all nets laid aside and brought back (one text, twice, by a program of ours) -/
/-- a net's traces laid aside in arrays of all nets -/
def SAn (a b e : Nat) (w d l : Int) (c r : Mem) (n : Int) : Prop := LT w d l (fun i => r a (2400 * n + i)) (fun i => r b (2400 * n + i)) (r e n) (fun x => c 19 (n * (w * d * l) + x)) ∧ (c 13 n ≤ 1 → r e n = 0) ∧ (c 13 n = 2 → CH (fun i => r a (2400 * n + i)) (fun i => r b (2400 * n + i)) (r e n) (cR w d (c 14 (n * 4 + 1))))
def SA (a b e : Nat) (w d l : Int) (c r : Mem) : Prop := ∀ n : Int, (0 ≤ n ∧ n < c 9 14) → SAn a b e w d l c r n
theorem SA_same {a b e : Nat} {w d l : Int} {c r r' : Mem} (ha : r' a = r a) (hb : r' b = r b) (he : r' e = r e) (h : SA a b e w d l c r) : SA a b e w d l c r' := by
  unfold SA SAn at h ⊢
  rw [ha, hb, he]
  exact h
/-- a memory with one net's traces from another -/
def stn (N n : Int) (c0 c : Mem) : Mem := mmap (mmap c 19 (n * N) (n * N + N) (c0 19)) 17 0 N (fun x => kor (kand (c 17 x) (nall n)) (kand (c0 17 x) (nbit n)))
theorem stn_ne {N n : Int} {c0 c : Mem} {o : Nat} (h7 : o ≠ 17) (h9 : o ≠ 19) : stn N n c0 c o = c o := by
  unfold stn
  rw [mmap_ne h7, mmap_ne h9]
theorem stn_19 {w d l n n' x : Int} {c0 c : Mem} (hx : inC w d l x) : stn (w * d * l) n c0 c 19 (n' * (w * d * l) + x) = if n' = n then c0 19 (n' * (w * d * l) + x) else c 19 (n' * (w * d * l) + x) := by
  obtain ⟨h1, h2⟩ := hx
  unfold stn
  rw [mmap_ne (by decide), mmap_at]
  by_cases hn : n' = n
  · rw [if_pos hn, hn, if_pos (by omega)]
  · rw [if_neg hn]
    by_cases hlt : n' < n
    · have hm : (n' + 1) * (w * d * l) ≤ n * (w * d * l) := Int.mul_le_mul_of_nonneg_right (by omega) (by omega)
      rw [Int.add_mul, Int.one_mul] at hm
      rw [if_neg (by omega)]
    · have hm : (n + 1) * (w * d * l) ≤ n' * (w * d * l) := Int.mul_le_mul_of_nonneg_right (by omega) (by omega)
      rw [Int.add_mul, Int.one_mul] at hm
      rw [if_neg (by omega)]
theorem stn_17 {w d l n x : Int} {c0 c : Mem} (hn : 0 ≤ n ∧ n < 8) (hx : inC w d l x) {o : Nat} (ho : o < 32) : bt (stn (w * d * l) n c0 c 17 x) o = if (o : Int) = n then bt (c0 17 x) o else bt (c 17 x) o := by
  unfold stn
  rw [mmap_at, if_pos hx, bt_or, bt_and, bt_and, bt_nall hn.1 (by omega) ho, bt_bit hn.1 (by omega)]
  by_cases h : (o : Int) = n
  · simp [h]
  · simp [h]
theorem stn_tsame {w d l n : Int} {c0 c : Mem} (hn : 0 ≤ n ∧ n < 8) : tsame w d l n c (stn (w * d * l) n c0 c) := by
  refine ⟨fun o h1 h2 => stn_ne h1 h2, fun n' x hn' hne hx => by rw [stn_19 hx, if_neg hne], fun x o hx ho => ?_⟩
  by_cases h32 : o < 32
  · rw [stn_17 hn hx h32, if_neg ho]
  · rw [bt_ge _ (by omega), bt_ge _ (by omega)]
theorem stn_WFn {w d l n : Int} {c0 c : Mem} (hn : 0 ≤ n ∧ n < 8) (hc : ∀ o, o ≠ 17 → o ≠ 19 → c o = c0 o) (hW : WFn w d l c0 n) : WFn w d l (stn (w * d * l) n c0 c) n := by
  obtain ⟨w1, w2⟩ := hW
  have e : ∀ o, o ≠ 17 → o ≠ 19 → stn (w * d * l) n c0 c o = c0 o := fun o a b => by rw [stn_ne a b, hc o a b]
  have en : ((n.toNat : Nat) : Int) = n := Int.toNat_of_nonneg hn.1
  unfold WFn pinT
  rw [e 9 (by decide) (by decide), e 13 (by decide) (by decide), e 14 (by decide) (by decide), e 16 (by decide) (by decide), e 18 (by decide) (by decide)]
  refine ⟨fun x hx => ?_, fun hcc x hx => ?_⟩
  · rw [stn_19 hx, if_pos rfl, stn_17 hn hx (by omega), if_pos en]
    exact w1 x hx
  · rw [stn_19 hx, if_pos rfl]
    exact w2 hcc x hx
theorem stn_WM {w d l n : Int} {c0 c : Mem} (hn : 0 ≤ n ∧ n < 8) (hc : ∀ o, o ≠ 17 → o ≠ 19 → c o = c0 o) (h0 : WM w d l c0) (h : WM w d l c) : WM w d l (stn (w * d * l) n c0 c) := by
  refine WM_t h (stn_tsame hn) (stn_WFn hn hc (h0.2.2.1 n hn)) (fun x hx => ?_)
  have v0 := (h0.2.2.2 x hx).2
  have v1 := (h.2.2.2 x hx).2
  unfold stn
  rw [mmap_at, if_pos hx]
  refine k_lt_bits (n := 8) (k_in_kor _ _) (by decide) (fun k h1 h2 => ?_)
  rw [bt_or, bt_and, bt_and, bt_small (n := 8) (inR_small (by omega)) v0.1 v0.2 h1, bt_small (n := 8) (inR_small (by omega)) v1.1 v1.2 h1]
  rfl
set_option maxRecDepth 100000 in
theorem c_X12_keepNow (X : Xv) (c m : Mem) {w d l : Int} (hD : okD w d l) (h8 : 0 ≤ c 9 14 ∧ c 9 14 ≤ 8) (hR : RR0 w d l c m) : kCall (eX X) 2 M_X12_keepNow.1 [vR 54] m (fun r m' => r = none ∧ SA 89 90 91 w d l c m' ∧ ∀ o, o ≠ 89 → o ≠ 90 → o ≠ 91 → m' o = m o) := by
  refine kCall_ofT ok_X12_keepNow rfl (Nat.le_of_ble_eq_true rfl) (fun T hT => ?_)
  have h26 := hR.1.2.2.2.1.1
  have hle : ∀ n : Int, (0 ≤ n ∧ n < 8) → 0 ≤ m 68 n ∧ m 68 n ≤ 972 := fun n hn => ⟨(RRn_k.mp (hR.2 n hn)).1.2.2.1.1.1, okL_le hD (RRn_k.mp (hR.2 n hn)).1.2.2.1.1⟩
  -- what is laid aside of the nets before n, and of n the first k
  obtain ⟨J, hJ⟩ : ∃ J : Int → Int → Mem → Prop, ∀ n k m', J n k m' ↔ ((∀ o, o ≠ 89 → o ≠ 90 → o ≠ 91 → m' o = m o) ∧ (∀ n' : Int, (0 ≤ n' ∧ n' < n) → m' 91 n' = m 68 n' ∧ ∀ i : Int, (0 ≤ i ∧ i < m 68 n') → m' 89 (2400 * n' + i) = m 69 (2400 * n' + i) ∧ m' 90 (2400 * n' + i) = m 70 (2400 * n' + i)) ∧ ∀ i : Int, (0 ≤ i ∧ i < k) → m' 89 (2400 * n + i) = m 69 (2400 * n + i) ∧ m' 90 (2400 * n + i) = m 70 (2400 * n + i)) := ⟨_, fun _ _ _ => Iff.rfl⟩
  have outer : ∀ (q : Nat) (n : Int) (m' : Mem) (x2 : Option AV), n + q = c 9 14 → 0 ≤ n → J n 0 m' → kW (eX X) 1 M_X12_keepNow T 1 [some (vR 54), some (vI n), x2] [] m' := by
    intro q
    induction q with
    | zero =>
      intro n m' x2 hnq h0 hj
      obtain ⟨j1, j2, j3⟩ := (hJ _ _ _).mp hj
      refine kW_go ok_X12_keepNow [1, 2] 20 ?_
      refine And.intro (fun _ => hT _ _ ⟨rfl, fun n' hn' => ?_, j1⟩) (fun h => ?_)
      · have hk := RRn_k.mp (hR.2 n' (by omega))
        obtain ⟨e1, e2⟩ := j2 n' (by omega)
        unfold SAn
        rw [e1]
        exact ⟨LT_cong e2 (fun _ _ => rfl) hk.1.2.2.1, hk.2.1, fun h2 => CH_cong e2 (hk.2.2 h2)⟩
      · have h : n < m' 54 26 := h
        rw [j1 54 (by decide) (by decide) (by decide), h26] at h
        omega
    | succ q ih =>
      intro n m' x2 hnq h0 hj
      have hn8 : 0 ≤ n ∧ n < 8 := by omega
      have hnb : 0 ≤ n ∧ n < ((8 : Nat) : Int) := hn8
      have hl := hle n hn8
      have inner : ∀ (p : Nat) (k : Int) (m2 : Mem), k + p = m 68 n → 0 ≤ k → J n k m2 → m2 91 n = m 68 n → kW (eX X) 1 M_X12_keepNow T 2 [some (vR 54), some (vI n), some (vI k)] [] m2 := by
        intro p
        induction p with
        | zero =>
          intro k m2 hkp hk0 hj2 he2
          obtain ⟨j1, j2, j3⟩ := (hJ _ _ _).mp hj2
          have e68 : m2 68 = m 68 := j1 68 (by decide) (by decide) (by decide)
          refine kW_go ok_X12_keepNow [1] 20 ?_
          refine ⟨hnb, And.intro (fun _ => ⟨by constructor <;> omega, ih (n + 1) m2 _ (by omega) (by omega) ((hJ _ _ _).mpr ⟨j1, fun n' hn' => ?_, fun i hi => by omega⟩)⟩) (fun h => ?_)⟩
          · by_cases hnn : n' = n
            · rw [hnn]
              exact ⟨he2, fun i hi => j3 i (by omega)⟩
            · exact j2 n' (by omega)
          · have h : k < m2 68 n := h
            rw [e68] at h
            omega
        | succ p ihp =>
          intro k m2 hkp hk0 hj2 he2
          obtain ⟨j1, j2, j3⟩ := (hJ _ _ _).mp hj2
          have e68 : m2 68 = m 68 := j1 68 (by decide) (by decide) (by decide)
          have e69 : m2 69 = m 69 := j1 69 (by decide) (by decide) (by decide)
          have e70 : m2 70 = m 70 := j1 70 (by decide) (by decide) (by decide)
          have hix : 0 ≤ 2400 * n + k ∧ 2400 * n + k < ((19200 : Nat) : Int) := by omega
          refine kW_go ok_X12_keepNow [2, 3] 20 ?_
          show (0 ≤ n ∧ n < ((8 : Nat) : Int)) ∧ (m2 68 n ≤ k → _) ∧ (k < m2 68 n → inR (2400 * n) ∧ inR (2400 * n + k) ∧ inR (2400 * n) ∧ inR (2400 * n + k) ∧ (0 ≤ 2400 * n + k ∧ 2400 * n + k < ((19200 : Nat) : Int)) ∧ (0 ≤ 2400 * n + k ∧ 2400 * n + k < ((19200 : Nat) : Int)) ∧ inR (2400 * n) ∧ inR (2400 * n + k) ∧ inR (2400 * n) ∧ inR (2400 * n + k) ∧ (0 ≤ 2400 * n + k ∧ 2400 * n + k < ((19200 : Nat) : Int)) ∧ (0 ≤ 2400 * n + k ∧ 2400 * n + k < ((19200 : Nat) : Int)) ∧ inR (k + 1) ∧ kW (eX X) 1 M_X12_keepNow T 2 [some (vR 54), some (vI n), some (vI (k + 1))] [] (mset (mset m2 89 (2400 * n + k) (m2 69 (2400 * n + k))) 90 (2400 * n + k) (m2 70 (2400 * n + k))))
          rw [e68, e69, e70]
          have hA : ∀ j, mset (mset m2 89 (2400 * n + k) (m 69 (2400 * n + k))) 90 (2400 * n + k) (m 70 (2400 * n + k)) 89 j = if j = 2400 * n + k then m 69 (2400 * n + k) else m2 89 j := fun j => by rw [k_mset_ne (show (89 : Nat) ≠ 90 by decide), k_mset_at]
          have hB : ∀ j, mset (mset m2 89 (2400 * n + k) (m 69 (2400 * n + k))) 90 (2400 * n + k) (m 70 (2400 * n + k)) 90 j = if j = 2400 * n + k then m 70 (2400 * n + k) else m2 90 j := fun j => by rw [k_mset_at, k_mset_ne (show (90 : Nat) ≠ 89 by decide)]
          have hE : mset (mset m2 89 (2400 * n + k) (m 69 (2400 * n + k))) 90 (2400 * n + k) (m 70 (2400 * n + k)) 91 = m2 91 := by rw [k_mset_ne (by decide), k_mset_ne (by decide)]
          refine ⟨hnb, fun h => absurd h (by omega), fun _ => ⟨by constructor <;> omega, by constructor <;> omega, by constructor <;> omega, by constructor <;> omega, hix, hix, by constructor <;> omega, by constructor <;> omega, by constructor <;> omega, by constructor <;> omega, hix, hix, by constructor <;> omega, ihp (k + 1) _ (by omega) (by omega) ((hJ _ _ _).mpr ⟨fun o a b e => by rw [k_mset_ne b, k_mset_ne a]; exact j1 o a b e, fun n' hn' => ?_, fun i hi => ?_⟩) (by rw [hE]; exact he2)⟩⟩
          · obtain ⟨e1, e2⟩ := j2 n' hn'
            have hl' := hle n' (by omega)
            refine ⟨by rw [hE]; exact e1, fun i hi => ?_⟩
            rw [hA, hB, if_neg (by omega), if_neg (by omega)]
            exact e2 i hi
          · rw [hA, hB]
            by_cases hik : i = k
            · rw [hik, if_pos rfl, if_pos rfl]; exact ⟨rfl, rfl⟩
            · rw [if_neg (by omega), if_neg (by omega)]; exact j3 i (by omega)
      obtain ⟨j1, j2, j3⟩ := (hJ _ _ _).mp hj
      refine kW_go ok_X12_keepNow [2] 20 ?_
      refine And.intro (fun h => ?_) (fun _ => ⟨hnb, hnb, ?_⟩)
      · have h : m' 54 26 ≤ n := h
        rw [j1 54 (by decide) (by decide) (by decide), h26] at h
        omega
      · have e68 : m' 68 = m 68 := j1 68 (by decide) (by decide) (by decide)
        show kW (eX X) 1 M_X12_keepNow T 2 [some (vR 54), some (vI n), some (vI 0)] [] (mset m' 91 n (m' 68 n))
        rw [e68]
        refine inner (m 68 n).toNat 0 _ (by omega) (by omega) ((hJ _ _ _).mpr ⟨fun o a b e => by rw [k_mset_ne e]; exact j1 o a b e, fun n' hn' => ?_, fun i hi => by omega⟩) (by rw [k_mset_at, if_pos rfl])
        obtain ⟨e1, e2⟩ := j2 n' hn'
        rw [k_mset_at, if_neg (by omega), k_mset_ne (by decide), k_mset_ne (by decide)]
        exact ⟨e1, e2⟩
  refine kW_go ok_X12_keepNow [1] 20 ?_
  exact outer (c 9 14).toNat 0 m none (by omega) (by omega) ((hJ _ _ _).mpr ⟨fun _ _ _ _ => rfl, fun n' hn' => by omega, fun i hi => by omega⟩)
set_option maxRecDepth 100000 in
theorem c_X12_bringNow (X : Xv) (c0 c m : Mem) {w d l : Int} (hD : okD w d l) (hM0 : WM w d l c0) (hM : WM w d l c) (hc : ∀ o, o ≠ 17 → o ≠ 19 → c o = c0 o) (hR : RR0 w d l c m) (hS : SA 89 90 91 w d l c0 m) : kCall (eX X) 2 M_X12_bringNow.1 [vR 54] m (fun r m' => r = none ∧ RR0 w d l c0 m' ∧ ∀ o, o ≠ 68 → o ≠ 69 → o ≠ 70 → o ≠ 72 → m' o = m o) := by
  have h8 := hM0.1.2.1
  have h26 : m 54 26 = c0 9 14 := by rw [hR.1.2.2.2.1.1, hc 9 (by decide) (by decide)]
  refine kCall_ofT ok_X12_bringNow rfl (Nat.le_of_ble_eq_true rfl) (fun T hT => ?_)
  have outer : ∀ (q : Nat) (n : Int) (cn m' : Mem) (x2 : Option AV), n + q = c0 9 14 → 0 ≤ n → RR0 w d l cn m' → WM w d l cn → (∀ o, o ≠ 17 → o ≠ 19 → cn o = c0 o) → (∀ j x : Int, (0 ≤ j ∧ j < n) → inC w d l x → cn 19 (j * (w * d * l) + x) = c0 19 (j * (w * d * l) + x) ∧ bt (cn 17 x) j.toNat = bt (c0 17 x) j.toNat) → (∀ o, o ≠ 68 → o ≠ 69 → o ≠ 70 → o ≠ 72 → m' o = m o) → kW (eX X) 1 M_X12_bringNow T 1 [some (vR 54), some (vI n), x2] [] m' := by
    intro q
    induction q with
    | zero =>
      intro n cn m' x2 hnq h0 hRn hMn hcn hz hf
      refine kW_go ok_X12_bringNow [1, 2] 20 ?_
      refine And.intro (fun _ => hT _ _ ⟨rfl, ?_, hf⟩) (fun h => ?_)
      · have hrow : ∀ j x : Int, (0 ≤ j ∧ j < 8) → inC w d l x → cn 19 (j * (w * d * l) + x) = c0 19 (j * (w * d * l) + x) := by
          intro j x hj hx
          by_cases hjn : j < n
          · exact (hz j x ⟨hj.1, hjn⟩ hx).1
          · rw [((hMn.2.2.1 j hj).2 (by rw [hcn 9 (by decide) (by decide)]; omega) x hx).2, ((hM0.2.2.1 j hj).2 (by omega) x hx).2]
        refine RR0_pt hD (fun o a b => (hcn o a b).symm) (fun j x hj hx => (hrow j x hj hx).symm) (fun x o hx ho => ?_) hRn
        have h1 := ((hMn.2.2.1 (o : Int) (by omega)).1 x hx).2.2.1
        have h2 := ((hM0.2.2.1 (o : Int) (by omega)).1 x hx).2.2.1
        rw [Int.toNat_natCast] at h1 h2
        rw [hrow (o : Int) x (by omega) hx, ← h2] at h1
        cases ha : bt (cn 17 x) o <;> cases hb : bt (c0 17 x) o <;> simp_all
      · have h : n < m' 54 26 := h
        rw [hf 54 (by decide) (by decide) (by decide) (by decide), h26] at h
        omega
    | succ q ih =>
      intro n cn m' x2 hnq h0 hRn hMn hcn hz hf
      have hn8 : 0 ≤ n ∧ n < 8 := by omega
      have hnb : 0 ≤ n ∧ n < ((8 : Nat) : Int) := hn8
      have hSn := hS n (by omega)
      have hl0 := hSn.1.1.1
      have hl := okL_le hD hSn.1.1
      have eE : m' 91 = m 91 := hf 91 (by decide) (by decide) (by decide) (by decide)
      have eA : m' 89 = m 89 := hf 89 (by decide) (by decide) (by decide) (by decide)
      have eB : m' 90 = m 90 := hf 90 (by decide) (by decide) (by decide) (by decide)
      have hk := RRn_k.mp (hRn.2 n hn8)
      -- the copied list
      obtain ⟨J, hJ⟩ : ∃ J : Int → Mem → Prop, ∀ k m2, J k m2 ↔ ((∀ o, o ≠ 68 → o ≠ 69 → o ≠ 70 → m2 o = m' o) ∧ (∀ j, m2 68 j = if j = n then m 91 n else m' 68 j) ∧ (∀ j : Int, ¬ (2400 * n ≤ j ∧ j < 2400 * n + 2400) → m2 69 j = m' 69 j ∧ m2 70 j = m' 70 j) ∧ ∀ i : Int, (0 ≤ i ∧ i < k) → m2 69 (2400 * n + i) = m 89 (2400 * n + i) ∧ m2 70 (2400 * n + i) = m 90 (2400 * n + i)) := ⟨_, fun _ _ => Iff.rfl⟩
      have inner : ∀ (p : Nat) (k : Int) (m2 : Mem), k + p = m 91 n → 0 ≤ k → J k m2 → kW (eX X) 1 M_X12_bringNow T 2 [some (vR 54), some (vI n), some (vI k)] [] m2 := by
        intro p
        induction p with
        | zero =>
          intro k m2 hkp hk0 hj2
          obtain ⟨j1, j2, j3, j4⟩ := (hJ _ _).mp hj2
          have e68 : m2 68 n = m 91 n := by rw [j2, if_pos rfl]
          have hval := fun i hi => LT_val hD hSn.1 (i := i) hi
          have j4' : ∀ i : Int, (0 ≤ i ∧ i < m 91 n) → m2 69 (2400 * n + i) = m 89 (2400 * n + i) ∧ m2 70 (2400 * n + i) = m 90 (2400 * n + i) := fun i hi => j4 i (by omega)
          refine kW_go ok_X12_bringNow [1] 20 ?_
          refine ⟨hnb, And.intro (fun _ => ?_) (fun h => ?_)⟩
          · refine kCall_mono (c_X12_paint X m2 n hn8 (by rw [e68]; omega) (fun i h1 h2 => by rw [e68] at h2; rw [(j4' i ⟨h1, h2⟩).1, (j4' i ⟨h1, h2⟩).2]; exact ⟨(hval i ⟨h1, h2⟩).1, (hval i ⟨h1, h2⟩).2.1⟩)) (Nat.le_of_ble_eq_true rfl) ?_
            rintro _ m3 ⟨rfl, hp⟩
            rw [e68] at hp
            have p1 := hp.1
            have hts := stn_tsame (w := w) (d := d) (l := l) (c0 := c0) (c := cn) hn8
            have hrs : rsm n m' m3 := ⟨fun o h1 h2 h3 h4 h5 h6 h7 h8 h9 h10 h11 => by rw [p1 o h6, j1 o h3 h4 h5], fun o ho => by rw [p1 o (by omega), j1 o (by omega) (by omega) (by omega)], fun i hi => by rw [p1 54 (by decide), j1 54 (by decide) (by decide) (by decide)], fun j hj => by rw [p1 68 (by decide), j2, if_neg hj], fun j hj => by rw [p1 69 (by decide), p1 70 (by decide)]; exact j3 j hj, fun j hj => by rw [pnt_rsame hp j hj, j1 72 (by decide) (by decide) (by decide)]⟩
            have h683 : m3 68 n = m 91 n := by rw [p1 68 (by decide)]; exact e68
            have hLT : LT w d l (fun i => m2 69 (2400 * n + i)) (fun i => m2 70 (2400 * n + i)) (m2 68 n) (fun x => stn (w * d * l) n c0 cn 19 (n * (w * d * l) + x)) := by
              rw [e68]
              exact LT_cong j4' (fun x hx => by rw [stn_19 hx, if_pos rfl]) hSn.1
            have hWn := stn_WFn (w := w) (d := d) (l := l) hn8 hcn (hM0.2.2.1 n hn8)
            have hnew : RRn w d l (stn (w * d * l) n c0 cn) m3 n := by
              refine RRn_k.mpr ⟨?_, ?_⟩
              · refine paint_RRk hD hn8 hWn (c0 := cn) (m := m2) (stn_ne (by decide) (by decide)) (stn_ne (by decide) (by decide)) (RRw_m (j1 65 (by decide) (by decide) (by decide)) (j1 66 (by decide) (by decide) (by decide)) (j1 67 (by decide) (by decide) (by decide)) (j1 72 (by decide) (by decide) (by decide)) (RRk_w hk.1)) hLT hp (fun x hx => by rw [e68]; exact Iff.rfl) (fun j hj z => ?_)
                obtain ⟨i, hi, hh⟩ := z
                have hv := hval i hi
                have hq := j4' i hi
                rw [hq.1, hq.2] at hh
                rcases hh with hh | hh
                · rw [← hh] at hj; exact hj hv.2.2.1
                · rw [← hh] at hj; exact hj hv.2.2.2
              · unfold CHn
                rw [stn_ne (by decide) (by decide), stn_ne (by decide) (by decide), hcn 13 (by decide) (by decide), hcn 14 (by decide) (by decide), h683, p1 69 (by decide), p1 70 (by decide)]
                exact ⟨hSn.2.1, fun h2 => CH_cong j4' (hSn.2.2 h2)⟩
            refine ⟨by constructor <;> omega, ih (n + 1) (stn (w * d * l) n c0 cn) m3 _ (by omega) (by omega) (RR0_rsm hD hn8 hts hrs hRn hnew) (stn_WM hn8 hcn hM0 hMn) (fun o a b => by rw [stn_ne a b]; exact hcn o a b) (fun j x hj hx => ?_) (fun o a b e f => by rw [p1 o f, j1 o a b e]; exact hf o a b e f)⟩
            rw [stn_19 hx, stn_17 hn8 hx (by omega)]
            by_cases hjn : j = n
            · rw [if_pos hjn, if_pos (by omega)]; exact ⟨rfl, rfl⟩
            · rw [if_neg hjn, if_neg (by omega)]; exact hz j x (by omega) hx
          · have h : k < m2 68 n := h
            omega
        | succ p ihp =>
          intro k m2 hkp hk0 hj2
          obtain ⟨j1, j2, j3, j4⟩ := (hJ _ _).mp hj2
          have e68 : m2 68 n = m 91 n := by rw [j2, if_pos rfl]
          have fA : m2 89 = m 89 := by rw [j1 89 (by decide) (by decide) (by decide)]; exact eA
          have fB : m2 90 = m 90 := by rw [j1 90 (by decide) (by decide) (by decide)]; exact eB
          have hix : 0 ≤ 2400 * n + k ∧ 2400 * n + k < ((19200 : Nat) : Int) := by omega
          refine kW_go ok_X12_bringNow [2, 3] 20 ?_
          show (0 ≤ n ∧ n < ((8 : Nat) : Int)) ∧ (m2 68 n ≤ k → _) ∧ (k < m2 68 n → inR (2400 * n) ∧ inR (2400 * n + k) ∧ inR (2400 * n) ∧ inR (2400 * n + k) ∧ (0 ≤ 2400 * n + k ∧ 2400 * n + k < ((19200 : Nat) : Int)) ∧ (0 ≤ 2400 * n + k ∧ 2400 * n + k < ((19200 : Nat) : Int)) ∧ inR (2400 * n) ∧ inR (2400 * n + k) ∧ inR (2400 * n) ∧ inR (2400 * n + k) ∧ (0 ≤ 2400 * n + k ∧ 2400 * n + k < ((19200 : Nat) : Int)) ∧ (0 ≤ 2400 * n + k ∧ 2400 * n + k < ((19200 : Nat) : Int)) ∧ inR (k + 1) ∧ kW (eX X) 1 M_X12_bringNow T 2 [some (vR 54), some (vI n), some (vI (k + 1))] [] (mset (mset m2 69 (2400 * n + k) (m2 89 (2400 * n + k))) 70 (2400 * n + k) (m2 90 (2400 * n + k))))
          rw [e68, fA, fB]
          have hA : ∀ j, mset (mset m2 69 (2400 * n + k) (m 89 (2400 * n + k))) 70 (2400 * n + k) (m 90 (2400 * n + k)) 69 j = if j = 2400 * n + k then m 89 (2400 * n + k) else m2 69 j := fun j => by rw [k_mset_ne (show (69 : Nat) ≠ 70 by decide), k_mset_at]
          have hB : ∀ j, mset (mset m2 69 (2400 * n + k) (m 89 (2400 * n + k))) 70 (2400 * n + k) (m 90 (2400 * n + k)) 70 j = if j = 2400 * n + k then m 90 (2400 * n + k) else m2 70 j := fun j => by rw [k_mset_at, k_mset_ne (show (70 : Nat) ≠ 69 by decide)]
          refine ⟨hnb, fun h => absurd h (by omega), fun _ => ⟨by constructor <;> omega, by constructor <;> omega, by constructor <;> omega, by constructor <;> omega, hix, hix, by constructor <;> omega, by constructor <;> omega, by constructor <;> omega, by constructor <;> omega, hix, hix, by constructor <;> omega, ihp (k + 1) _ (by omega) (by omega) ((hJ _ _).mpr ⟨fun o a b e => by rw [k_mset_ne e, k_mset_ne b]; exact j1 o a b e, fun j => by rw [k_mset_ne (by decide), k_mset_ne (by decide)]; exact j2 j, fun j hj => ?_, fun i hi => ?_⟩)⟩⟩
          · rw [hA, hB, if_neg (by omega), if_neg (by omega)]
            exact j3 j hj
          · rw [hA, hB]
            by_cases hik : i = k
            · rw [hik, if_pos rfl, if_pos rfl]; exact ⟨rfl, rfl⟩
            · rw [if_neg (by omega), if_neg (by omega)]; exact j4 i (by omega)
      refine kW_go ok_X12_bringNow [2] 20 ?_
      refine And.intro (fun h => ?_) (fun _ => ⟨hnb, hnb, ?_⟩)
      · have h : m' 54 26 ≤ n := h
        rw [hf 54 (by decide) (by decide) (by decide) (by decide), h26] at h
        omega
      · show kW (eX X) 1 M_X12_bringNow T 2 [some (vR 54), some (vI n), some (vI 0)] [] (mset m' 68 n (m' 91 n))
        rw [eE]
        exact inner (m 91 n).toNat 0 _ (by omega) (by omega) ((hJ _ _).mpr ⟨fun o a b e => by rw [k_mset_ne a], fun j => by rw [k_mset_at], fun j _ => by rw [k_mset_ne (by decide), k_mset_ne (by decide)]; exact ⟨rfl, rfl⟩, fun i hi => by omega⟩)
  refine kW_go ok_X12_bringNow [1] 20 ?_
  exact outer (c0 9 14).toNat 0 c m none (by omega) (by omega) hR hM hc (fun j x hj => by omega) (fun _ _ _ _ _ => rfl)
set_option maxRecDepth 100000 in
theorem c_X12_takeAllOff (X : Xv) (c m : Mem) {w d l : Int} (hD : okD w d l) (h8 : 0 ≤ c 9 14 ∧ c 9 14 ≤ 8) (hR : RR0 w d l c m) : kCall (eX X) 2 M_X12_takeAllOff.1 [vR 54] m (fun r m' => r = none ∧ SA 75 76 77 w d l c m' ∧ ∀ o, o ≠ 75 → o ≠ 76 → o ≠ 77 → m' o = m o) := by
  refine kCall_ofT ok_X12_takeAllOff rfl (Nat.le_of_ble_eq_true rfl) (fun T hT => ?_)
  have h26 := hR.1.2.2.2.1.1
  have hle : ∀ n : Int, (0 ≤ n ∧ n < 8) → 0 ≤ m 68 n ∧ m 68 n ≤ 972 := fun n hn => ⟨(RRn_k.mp (hR.2 n hn)).1.2.2.1.1.1, okL_le hD (RRn_k.mp (hR.2 n hn)).1.2.2.1.1⟩
  -- what is laid aside of the nets before n, and of n the first k
  obtain ⟨J, hJ⟩ : ∃ J : Int → Int → Mem → Prop, ∀ n k m', J n k m' ↔ ((∀ o, o ≠ 75 → o ≠ 76 → o ≠ 77 → m' o = m o) ∧ (∀ n' : Int, (0 ≤ n' ∧ n' < n) → m' 77 n' = m 68 n' ∧ ∀ i : Int, (0 ≤ i ∧ i < m 68 n') → m' 75 (2400 * n' + i) = m 69 (2400 * n' + i) ∧ m' 76 (2400 * n' + i) = m 70 (2400 * n' + i)) ∧ ∀ i : Int, (0 ≤ i ∧ i < k) → m' 75 (2400 * n + i) = m 69 (2400 * n + i) ∧ m' 76 (2400 * n + i) = m 70 (2400 * n + i)) := ⟨_, fun _ _ _ => Iff.rfl⟩
  have outer : ∀ (q : Nat) (n : Int) (m' : Mem) (x2 : Option AV), n + q = c 9 14 → 0 ≤ n → J n 0 m' → kW (eX X) 1 M_X12_takeAllOff T 1 [some (vR 54), some (vI n), x2] [] m' := by
    intro q
    induction q with
    | zero =>
      intro n m' x2 hnq h0 hj
      obtain ⟨j1, j2, j3⟩ := (hJ _ _ _).mp hj
      refine kW_go ok_X12_takeAllOff [1, 2] 20 ?_
      refine And.intro (fun _ => hT _ _ ⟨rfl, fun n' hn' => ?_, j1⟩) (fun h => ?_)
      · have hk := RRn_k.mp (hR.2 n' (by omega))
        obtain ⟨e1, e2⟩ := j2 n' (by omega)
        unfold SAn
        rw [e1]
        exact ⟨LT_cong e2 (fun _ _ => rfl) hk.1.2.2.1, hk.2.1, fun h2 => CH_cong e2 (hk.2.2 h2)⟩
      · have h : n < m' 54 26 := h
        rw [j1 54 (by decide) (by decide) (by decide), h26] at h
        omega
    | succ q ih =>
      intro n m' x2 hnq h0 hj
      have hn8 : 0 ≤ n ∧ n < 8 := by omega
      have hnb : 0 ≤ n ∧ n < ((8 : Nat) : Int) := hn8
      have hl := hle n hn8
      have inner : ∀ (p : Nat) (k : Int) (m2 : Mem), k + p = m 68 n → 0 ≤ k → J n k m2 → m2 77 n = m 68 n → kW (eX X) 1 M_X12_takeAllOff T 2 [some (vR 54), some (vI n), some (vI k)] [] m2 := by
        intro p
        induction p with
        | zero =>
          intro k m2 hkp hk0 hj2 he2
          obtain ⟨j1, j2, j3⟩ := (hJ _ _ _).mp hj2
          have e68 : m2 68 = m 68 := j1 68 (by decide) (by decide) (by decide)
          refine kW_go ok_X12_takeAllOff [1] 20 ?_
          refine ⟨hnb, And.intro (fun _ => ⟨by constructor <;> omega, ih (n + 1) m2 _ (by omega) (by omega) ((hJ _ _ _).mpr ⟨j1, fun n' hn' => ?_, fun i hi => by omega⟩)⟩) (fun h => ?_)⟩
          · by_cases hnn : n' = n
            · rw [hnn]
              exact ⟨he2, fun i hi => j3 i (by omega)⟩
            · exact j2 n' (by omega)
          · have h : k < m2 68 n := h
            rw [e68] at h
            omega
        | succ p ihp =>
          intro k m2 hkp hk0 hj2 he2
          obtain ⟨j1, j2, j3⟩ := (hJ _ _ _).mp hj2
          have e68 : m2 68 = m 68 := j1 68 (by decide) (by decide) (by decide)
          have e69 : m2 69 = m 69 := j1 69 (by decide) (by decide) (by decide)
          have e70 : m2 70 = m 70 := j1 70 (by decide) (by decide) (by decide)
          have hix : 0 ≤ 2400 * n + k ∧ 2400 * n + k < ((19200 : Nat) : Int) := by omega
          refine kW_go ok_X12_takeAllOff [2, 3] 20 ?_
          show (0 ≤ n ∧ n < ((8 : Nat) : Int)) ∧ (m2 68 n ≤ k → _) ∧ (k < m2 68 n → inR (2400 * n) ∧ inR (2400 * n + k) ∧ inR (2400 * n) ∧ inR (2400 * n + k) ∧ (0 ≤ 2400 * n + k ∧ 2400 * n + k < ((19200 : Nat) : Int)) ∧ (0 ≤ 2400 * n + k ∧ 2400 * n + k < ((19200 : Nat) : Int)) ∧ inR (2400 * n) ∧ inR (2400 * n + k) ∧ inR (2400 * n) ∧ inR (2400 * n + k) ∧ (0 ≤ 2400 * n + k ∧ 2400 * n + k < ((19200 : Nat) : Int)) ∧ (0 ≤ 2400 * n + k ∧ 2400 * n + k < ((19200 : Nat) : Int)) ∧ inR (k + 1) ∧ kW (eX X) 1 M_X12_takeAllOff T 2 [some (vR 54), some (vI n), some (vI (k + 1))] [] (mset (mset m2 75 (2400 * n + k) (m2 69 (2400 * n + k))) 76 (2400 * n + k) (m2 70 (2400 * n + k))))
          rw [e68, e69, e70]
          have hA : ∀ j, mset (mset m2 75 (2400 * n + k) (m 69 (2400 * n + k))) 76 (2400 * n + k) (m 70 (2400 * n + k)) 75 j = if j = 2400 * n + k then m 69 (2400 * n + k) else m2 75 j := fun j => by rw [k_mset_ne (show (75 : Nat) ≠ 76 by decide), k_mset_at]
          have hB : ∀ j, mset (mset m2 75 (2400 * n + k) (m 69 (2400 * n + k))) 76 (2400 * n + k) (m 70 (2400 * n + k)) 76 j = if j = 2400 * n + k then m 70 (2400 * n + k) else m2 76 j := fun j => by rw [k_mset_at, k_mset_ne (show (76 : Nat) ≠ 75 by decide)]
          have hE : mset (mset m2 75 (2400 * n + k) (m 69 (2400 * n + k))) 76 (2400 * n + k) (m 70 (2400 * n + k)) 77 = m2 77 := by rw [k_mset_ne (by decide), k_mset_ne (by decide)]
          refine ⟨hnb, fun h => absurd h (by omega), fun _ => ⟨by constructor <;> omega, by constructor <;> omega, by constructor <;> omega, by constructor <;> omega, hix, hix, by constructor <;> omega, by constructor <;> omega, by constructor <;> omega, by constructor <;> omega, hix, hix, by constructor <;> omega, ihp (k + 1) _ (by omega) (by omega) ((hJ _ _ _).mpr ⟨fun o a b e => by rw [k_mset_ne b, k_mset_ne a]; exact j1 o a b e, fun n' hn' => ?_, fun i hi => ?_⟩) (by rw [hE]; exact he2)⟩⟩
          · obtain ⟨e1, e2⟩ := j2 n' hn'
            have hl' := hle n' (by omega)
            refine ⟨by rw [hE]; exact e1, fun i hi => ?_⟩
            rw [hA, hB, if_neg (by omega), if_neg (by omega)]
            exact e2 i hi
          · rw [hA, hB]
            by_cases hik : i = k
            · rw [hik, if_pos rfl, if_pos rfl]; exact ⟨rfl, rfl⟩
            · rw [if_neg (by omega), if_neg (by omega)]; exact j3 i (by omega)
      obtain ⟨j1, j2, j3⟩ := (hJ _ _ _).mp hj
      refine kW_go ok_X12_takeAllOff [2] 20 ?_
      refine And.intro (fun h => ?_) (fun _ => ⟨hnb, hnb, ?_⟩)
      · have h : m' 54 26 ≤ n := h
        rw [j1 54 (by decide) (by decide) (by decide), h26] at h
        omega
      · have e68 : m' 68 = m 68 := j1 68 (by decide) (by decide) (by decide)
        show kW (eX X) 1 M_X12_takeAllOff T 2 [some (vR 54), some (vI n), some (vI 0)] [] (mset m' 77 n (m' 68 n))
        rw [e68]
        refine inner (m 68 n).toNat 0 _ (by omega) (by omega) ((hJ _ _ _).mpr ⟨fun o a b e => by rw [k_mset_ne e]; exact j1 o a b e, fun n' hn' => ?_, fun i hi => by omega⟩) (by rw [k_mset_at, if_pos rfl])
        obtain ⟨e1, e2⟩ := j2 n' hn'
        rw [k_mset_at, if_neg (by omega), k_mset_ne (by decide), k_mset_ne (by decide)]
        exact ⟨e1, e2⟩
  refine kW_go ok_X12_takeAllOff [1] 20 ?_
  exact outer (c 9 14).toNat 0 m none (by omega) (by omega) ((hJ _ _ _).mpr ⟨fun _ _ _ _ => rfl, fun n' hn' => by omega, fun i hi => by omega⟩)
set_option maxRecDepth 100000 in
theorem c_X12_putAllBack (X : Xv) (c0 c m : Mem) {w d l : Int} (hD : okD w d l) (hM0 : WM w d l c0) (hM : WM w d l c) (hc : ∀ o, o ≠ 17 → o ≠ 19 → c o = c0 o) (hR : RR0 w d l c m) (hS : SA 75 76 77 w d l c0 m) : kCall (eX X) 2 M_X12_putAllBack.1 [vR 54] m (fun r m' => r = none ∧ RR0 w d l c0 m' ∧ ∀ o, o ≠ 68 → o ≠ 69 → o ≠ 70 → o ≠ 72 → m' o = m o) := by
  have h8 := hM0.1.2.1
  have h26 : m 54 26 = c0 9 14 := by rw [hR.1.2.2.2.1.1, hc 9 (by decide) (by decide)]
  refine kCall_ofT ok_X12_putAllBack rfl (Nat.le_of_ble_eq_true rfl) (fun T hT => ?_)
  have outer : ∀ (q : Nat) (n : Int) (cn m' : Mem) (x2 : Option AV), n + q = c0 9 14 → 0 ≤ n → RR0 w d l cn m' → WM w d l cn → (∀ o, o ≠ 17 → o ≠ 19 → cn o = c0 o) → (∀ j x : Int, (0 ≤ j ∧ j < n) → inC w d l x → cn 19 (j * (w * d * l) + x) = c0 19 (j * (w * d * l) + x) ∧ bt (cn 17 x) j.toNat = bt (c0 17 x) j.toNat) → (∀ o, o ≠ 68 → o ≠ 69 → o ≠ 70 → o ≠ 72 → m' o = m o) → kW (eX X) 1 M_X12_putAllBack T 1 [some (vR 54), some (vI n), x2] [] m' := by
    intro q
    induction q with
    | zero =>
      intro n cn m' x2 hnq h0 hRn hMn hcn hz hf
      refine kW_go ok_X12_putAllBack [1, 2] 20 ?_
      refine And.intro (fun _ => hT _ _ ⟨rfl, ?_, hf⟩) (fun h => ?_)
      · have hrow : ∀ j x : Int, (0 ≤ j ∧ j < 8) → inC w d l x → cn 19 (j * (w * d * l) + x) = c0 19 (j * (w * d * l) + x) := by
          intro j x hj hx
          by_cases hjn : j < n
          · exact (hz j x ⟨hj.1, hjn⟩ hx).1
          · rw [((hMn.2.2.1 j hj).2 (by rw [hcn 9 (by decide) (by decide)]; omega) x hx).2, ((hM0.2.2.1 j hj).2 (by omega) x hx).2]
        refine RR0_pt hD (fun o a b => (hcn o a b).symm) (fun j x hj hx => (hrow j x hj hx).symm) (fun x o hx ho => ?_) hRn
        have h1 := ((hMn.2.2.1 (o : Int) (by omega)).1 x hx).2.2.1
        have h2 := ((hM0.2.2.1 (o : Int) (by omega)).1 x hx).2.2.1
        rw [Int.toNat_natCast] at h1 h2
        rw [hrow (o : Int) x (by omega) hx, ← h2] at h1
        cases ha : bt (cn 17 x) o <;> cases hb : bt (c0 17 x) o <;> simp_all
      · have h : n < m' 54 26 := h
        rw [hf 54 (by decide) (by decide) (by decide) (by decide), h26] at h
        omega
    | succ q ih =>
      intro n cn m' x2 hnq h0 hRn hMn hcn hz hf
      have hn8 : 0 ≤ n ∧ n < 8 := by omega
      have hnb : 0 ≤ n ∧ n < ((8 : Nat) : Int) := hn8
      have hSn := hS n (by omega)
      have hl0 := hSn.1.1.1
      have hl := okL_le hD hSn.1.1
      have eE : m' 77 = m 77 := hf 77 (by decide) (by decide) (by decide) (by decide)
      have eA : m' 75 = m 75 := hf 75 (by decide) (by decide) (by decide) (by decide)
      have eB : m' 76 = m 76 := hf 76 (by decide) (by decide) (by decide) (by decide)
      have hk := RRn_k.mp (hRn.2 n hn8)
      -- the copied list
      obtain ⟨J, hJ⟩ : ∃ J : Int → Mem → Prop, ∀ k m2, J k m2 ↔ ((∀ o, o ≠ 68 → o ≠ 69 → o ≠ 70 → m2 o = m' o) ∧ (∀ j, m2 68 j = if j = n then m 77 n else m' 68 j) ∧ (∀ j : Int, ¬ (2400 * n ≤ j ∧ j < 2400 * n + 2400) → m2 69 j = m' 69 j ∧ m2 70 j = m' 70 j) ∧ ∀ i : Int, (0 ≤ i ∧ i < k) → m2 69 (2400 * n + i) = m 75 (2400 * n + i) ∧ m2 70 (2400 * n + i) = m 76 (2400 * n + i)) := ⟨_, fun _ _ => Iff.rfl⟩
      have inner : ∀ (p : Nat) (k : Int) (m2 : Mem), k + p = m 77 n → 0 ≤ k → J k m2 → kW (eX X) 1 M_X12_putAllBack T 2 [some (vR 54), some (vI n), some (vI k)] [] m2 := by
        intro p
        induction p with
        | zero =>
          intro k m2 hkp hk0 hj2
          obtain ⟨j1, j2, j3, j4⟩ := (hJ _ _).mp hj2
          have e68 : m2 68 n = m 77 n := by rw [j2, if_pos rfl]
          have hval := fun i hi => LT_val hD hSn.1 (i := i) hi
          have j4' : ∀ i : Int, (0 ≤ i ∧ i < m 77 n) → m2 69 (2400 * n + i) = m 75 (2400 * n + i) ∧ m2 70 (2400 * n + i) = m 76 (2400 * n + i) := fun i hi => j4 i (by omega)
          refine kW_go ok_X12_putAllBack [1] 20 ?_
          refine ⟨hnb, And.intro (fun _ => ?_) (fun h => ?_)⟩
          · refine kCall_mono (c_X12_paint X m2 n hn8 (by rw [e68]; omega) (fun i h1 h2 => by rw [e68] at h2; rw [(j4' i ⟨h1, h2⟩).1, (j4' i ⟨h1, h2⟩).2]; exact ⟨(hval i ⟨h1, h2⟩).1, (hval i ⟨h1, h2⟩).2.1⟩)) (Nat.le_of_ble_eq_true rfl) ?_
            rintro _ m3 ⟨rfl, hp⟩
            rw [e68] at hp
            have p1 := hp.1
            have hts := stn_tsame (w := w) (d := d) (l := l) (c0 := c0) (c := cn) hn8
            have hrs : rsm n m' m3 := ⟨fun o h1 h2 h3 h4 h5 h6 h7 h8 h9 h10 h11 => by rw [p1 o h6, j1 o h3 h4 h5], fun o ho => by rw [p1 o (by omega), j1 o (by omega) (by omega) (by omega)], fun i hi => by rw [p1 54 (by decide), j1 54 (by decide) (by decide) (by decide)], fun j hj => by rw [p1 68 (by decide), j2, if_neg hj], fun j hj => by rw [p1 69 (by decide), p1 70 (by decide)]; exact j3 j hj, fun j hj => by rw [pnt_rsame hp j hj, j1 72 (by decide) (by decide) (by decide)]⟩
            have h683 : m3 68 n = m 77 n := by rw [p1 68 (by decide)]; exact e68
            have hLT : LT w d l (fun i => m2 69 (2400 * n + i)) (fun i => m2 70 (2400 * n + i)) (m2 68 n) (fun x => stn (w * d * l) n c0 cn 19 (n * (w * d * l) + x)) := by
              rw [e68]
              exact LT_cong j4' (fun x hx => by rw [stn_19 hx, if_pos rfl]) hSn.1
            have hWn := stn_WFn (w := w) (d := d) (l := l) hn8 hcn (hM0.2.2.1 n hn8)
            have hnew : RRn w d l (stn (w * d * l) n c0 cn) m3 n := by
              refine RRn_k.mpr ⟨?_, ?_⟩
              · refine paint_RRk hD hn8 hWn (c0 := cn) (m := m2) (stn_ne (by decide) (by decide)) (stn_ne (by decide) (by decide)) (RRw_m (j1 65 (by decide) (by decide) (by decide)) (j1 66 (by decide) (by decide) (by decide)) (j1 67 (by decide) (by decide) (by decide)) (j1 72 (by decide) (by decide) (by decide)) (RRk_w hk.1)) hLT hp (fun x hx => by rw [e68]; exact Iff.rfl) (fun j hj z => ?_)
                obtain ⟨i, hi, hh⟩ := z
                have hv := hval i hi
                have hq := j4' i hi
                rw [hq.1, hq.2] at hh
                rcases hh with hh | hh
                · rw [← hh] at hj; exact hj hv.2.2.1
                · rw [← hh] at hj; exact hj hv.2.2.2
              · unfold CHn
                rw [stn_ne (by decide) (by decide), stn_ne (by decide) (by decide), hcn 13 (by decide) (by decide), hcn 14 (by decide) (by decide), h683, p1 69 (by decide), p1 70 (by decide)]
                exact ⟨hSn.2.1, fun h2 => CH_cong j4' (hSn.2.2 h2)⟩
            refine ⟨by constructor <;> omega, ih (n + 1) (stn (w * d * l) n c0 cn) m3 _ (by omega) (by omega) (RR0_rsm hD hn8 hts hrs hRn hnew) (stn_WM hn8 hcn hM0 hMn) (fun o a b => by rw [stn_ne a b]; exact hcn o a b) (fun j x hj hx => ?_) (fun o a b e f => by rw [p1 o f, j1 o a b e]; exact hf o a b e f)⟩
            rw [stn_19 hx, stn_17 hn8 hx (by omega)]
            by_cases hjn : j = n
            · rw [if_pos hjn, if_pos (by omega)]; exact ⟨rfl, rfl⟩
            · rw [if_neg hjn, if_neg (by omega)]; exact hz j x (by omega) hx
          · have h : k < m2 68 n := h
            omega
        | succ p ihp =>
          intro k m2 hkp hk0 hj2
          obtain ⟨j1, j2, j3, j4⟩ := (hJ _ _).mp hj2
          have e68 : m2 68 n = m 77 n := by rw [j2, if_pos rfl]
          have fA : m2 75 = m 75 := by rw [j1 75 (by decide) (by decide) (by decide)]; exact eA
          have fB : m2 76 = m 76 := by rw [j1 76 (by decide) (by decide) (by decide)]; exact eB
          have hix : 0 ≤ 2400 * n + k ∧ 2400 * n + k < ((19200 : Nat) : Int) := by omega
          refine kW_go ok_X12_putAllBack [2, 3] 20 ?_
          show (0 ≤ n ∧ n < ((8 : Nat) : Int)) ∧ (m2 68 n ≤ k → _) ∧ (k < m2 68 n → inR (2400 * n) ∧ inR (2400 * n + k) ∧ inR (2400 * n) ∧ inR (2400 * n + k) ∧ (0 ≤ 2400 * n + k ∧ 2400 * n + k < ((19200 : Nat) : Int)) ∧ (0 ≤ 2400 * n + k ∧ 2400 * n + k < ((19200 : Nat) : Int)) ∧ inR (2400 * n) ∧ inR (2400 * n + k) ∧ inR (2400 * n) ∧ inR (2400 * n + k) ∧ (0 ≤ 2400 * n + k ∧ 2400 * n + k < ((19200 : Nat) : Int)) ∧ (0 ≤ 2400 * n + k ∧ 2400 * n + k < ((19200 : Nat) : Int)) ∧ inR (k + 1) ∧ kW (eX X) 1 M_X12_putAllBack T 2 [some (vR 54), some (vI n), some (vI (k + 1))] [] (mset (mset m2 69 (2400 * n + k) (m2 75 (2400 * n + k))) 70 (2400 * n + k) (m2 76 (2400 * n + k))))
          rw [e68, fA, fB]
          have hA : ∀ j, mset (mset m2 69 (2400 * n + k) (m 75 (2400 * n + k))) 70 (2400 * n + k) (m 76 (2400 * n + k)) 69 j = if j = 2400 * n + k then m 75 (2400 * n + k) else m2 69 j := fun j => by rw [k_mset_ne (show (69 : Nat) ≠ 70 by decide), k_mset_at]
          have hB : ∀ j, mset (mset m2 69 (2400 * n + k) (m 75 (2400 * n + k))) 70 (2400 * n + k) (m 76 (2400 * n + k)) 70 j = if j = 2400 * n + k then m 76 (2400 * n + k) else m2 70 j := fun j => by rw [k_mset_at, k_mset_ne (show (70 : Nat) ≠ 69 by decide)]
          refine ⟨hnb, fun h => absurd h (by omega), fun _ => ⟨by constructor <;> omega, by constructor <;> omega, by constructor <;> omega, by constructor <;> omega, hix, hix, by constructor <;> omega, by constructor <;> omega, by constructor <;> omega, by constructor <;> omega, hix, hix, by constructor <;> omega, ihp (k + 1) _ (by omega) (by omega) ((hJ _ _).mpr ⟨fun o a b e => by rw [k_mset_ne e, k_mset_ne b]; exact j1 o a b e, fun j => by rw [k_mset_ne (by decide), k_mset_ne (by decide)]; exact j2 j, fun j hj => ?_, fun i hi => ?_⟩)⟩⟩
          · rw [hA, hB, if_neg (by omega), if_neg (by omega)]
            exact j3 j hj
          · rw [hA, hB]
            by_cases hik : i = k
            · rw [hik, if_pos rfl, if_pos rfl]; exact ⟨rfl, rfl⟩
            · rw [if_neg (by omega), if_neg (by omega)]; exact j4 i (by omega)
      refine kW_go ok_X12_putAllBack [2] 20 ?_
      refine And.intro (fun h => ?_) (fun _ => ⟨hnb, hnb, ?_⟩)
      · have h : m' 54 26 ≤ n := h
        rw [hf 54 (by decide) (by decide) (by decide) (by decide), h26] at h
        omega
      · show kW (eX X) 1 M_X12_putAllBack T 2 [some (vR 54), some (vI n), some (vI 0)] [] (mset m' 68 n (m' 77 n))
        rw [eE]
        exact inner (m 77 n).toNat 0 _ (by omega) (by omega) ((hJ _ _).mpr ⟨fun o a b e => by rw [k_mset_ne a], fun j => by rw [k_mset_at], fun j _ => by rw [k_mset_ne (by decide), k_mset_ne (by decide)]; exact ⟨rfl, rfl⟩, fun i hi => by omega⟩)
  refine kW_go ok_X12_putAllBack [1] 20 ?_
  exact outer (c0 9 14).toNat 0 c m none (by omega) (by omega) hR hM hc (fun j x hj => by omega) (fun _ _ _ _ _ => rfl)
