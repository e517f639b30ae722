/-! NETLIST: what the class counts -/
/-- two nets with joined copper -/
def shP (w d l : Int) (c : Mem) (a b : Int) : Prop := ∃ x y, (inC w d l x ∧ cuN c a x) ∧ (inC w d l y ∧ cuN c b y) ∧ Rch (stN w d l c) x y
/-- a pin in a part of its own among the pins before it -/
def nwP (w d l : Int) (c : Mem) (n p : Int) : Prop := 1 ≤ p ∧ ∀ k : Int, (0 ≤ k ∧ k < p) → ¬ Rch (stN w d l c) (c 14 (n * 4 + k)) (c 14 (n * 4 + p))
noncomputable def prsV (w d l : Int) (c : Mem) : Int := sumN (fun a => sumN (fun b => iv (a < b ∧ shP w d l c a b) 1) (c 9 14).toNat) (c 9 14).toNat
noncomputable def opnV (w d l : Int) (c : Mem) : Int := sumN (fun n => sumN (fun p => iv (nwP w d l c n p) 1) (c 13 n).toNat) (c 9 14).toNat
theorem set_both {v a b : Int} (hv : 0 ≤ v ∧ v < 256) (ha : 0 ≤ a ∧ a < 8) (hb : 0 ≤ b ∧ b < 8) : kand v (kor (kshl 1 a) (kshl 1 b)) = kor (kshl 1 a) (kshl 1 b) ↔ bt v a.toNat = true ∧ bt v b.toNat = true := by
  have hbit : ∀ k : Nat, bt (kor (kshl 1 a) (kshl 1 b)) k = true ↔ (k : Int) = a ∨ (k : Int) = b := by
    intro k
    rw [bt_or, Bool.or_eq_true, bt_bit ha.1 (by omega), bt_bit hb.1 (by omega), decide_eq_true_iff, decide_eq_true_iff]
  constructor
  · intro h
    have h1 := (hbit a.toNat).mpr (Or.inl (by omega))
    have h2 := (hbit b.toNat).mpr (Or.inr (by omega))
    rw [← h, bt_and, Bool.and_eq_true] at h1 h2
    exact ⟨h1.1, h2.1⟩
  · rintro ⟨h1, h2⟩
    refine bt_ext (k_in_kand _ _) (k_in_kor _ _) (fun k hk => ?_)
    rw [bt_and]
    cases e : bt (kor (kshl 1 a) (kshl 1 b)) k
    · rw [Bool.and_false]
    · rw [Bool.and_true]
      rcases (hbit k).mp e with z | z
      · rw [← z, Int.toNat_natCast] at h1; exact h1
      · rw [← z, Int.toNat_natCast] at h2; exact h2
theorem c_X0_areJoined (X : Xv) (m : Mem) (s : Int) (q : Int) (h8 : m 46 8 = q) (hq : 0 ≤ q ∧ q ≤ (nC X : Int)) (hn : nC X ≤ 324) : kCall (eX X) 2 M_X0_areJoined.1 [vR 46, vI s] m (bP (∃ j : Int, (0 ≤ j ∧ j < q) ∧ kand (m 50 j) s = s) m) := by
  refine kCall_ofT ok_X0_areJoined rfl (Nat.le_of_ble_eq_true rfl) (fun T hT => ?_)
  have loop : ∀ (k : Nat) (i : Int), i + k = q → 0 ≤ i → (∀ j : Int, (0 ≤ j ∧ j < i) → kand (m 50 j) s ≠ s) → kW (eX X) 1 M_X0_areJoined T 1 [some (vR 46), some (vI s), some (vI i)] [] m := by
    intro k
    induction k with
    | zero =>
      intro i hk h0 hno
      refine kW_go ok_X0_areJoined [1] 20 ?_
      refine And.intro (fun _ => hT _ _ ⟨Or.inl rfl, Or.inr ⟨fun ⟨j, hj, z⟩ => hno j (by omega) z, rfl⟩, rfl⟩) (fun h => ?_)
      have h : i < m 46 8 := h
      omega
    | succ k ih =>
      intro i hk h0 hno
      have hib : 0 ≤ i ∧ i < (nC X : Int) := by omega
      refine kW_go ok_X0_areJoined [1] 20 ?_
      refine And.intro (fun h => ?_) (fun _ => ⟨hib, And.intro (fun h => ⟨by constructor <;> omega, ih (i + 1) (by omega) (by omega) (fun j hj => ?_)⟩) (fun h => hT _ _ ⟨Or.inr rfl, Or.inl ⟨⟨i, by omega, h⟩, rfl⟩, rfl⟩)⟩)
      · have h : m 46 8 ≤ i := h
        omega
      · by_cases e : j = i
        · rw [e]; exact h
        · exact hno j (by omega)
  refine kW_go ok_X0_areJoined [1] 20 ?_
  exact loop q.toNat 0 (by omega) (by omega) (fun j hj => by omega)
theorem lab_sh {w d l : Int} {c m' : Mem} {q : Int} (hL : labS w d l c m' q) {a b : Int} (ha : 0 ≤ a ∧ a < 8) (hb : 0 ≤ b ∧ b < 8) : (∃ j : Int, (0 ≤ j ∧ j < q) ∧ kand (m' 50 j) (kor (kshl 1 a) (kshl 1 b)) = kor (kshl 1 a) (kshl 1 b)) ↔ shP w d l c a b := by
  obtain ⟨h1, h2, h3, h4⟩ := hL
  have ea : ((a.toNat : Nat) : Int) = a := by omega
  have eb : ((b.toNat : Nat) : Int) = b := by omega
  constructor
  · rintro ⟨j, hj, h⟩
    obtain ⟨h5, h6⟩ := h4 j hj
    obtain ⟨za, zb⟩ := (set_both h5 ha hb).mp h
    obtain ⟨x, hx, ex, cx⟩ := (h6 a.toNat (by omega)).mp za
    obtain ⟨y, hy, ey, cy⟩ := (h6 b.toNat (by omega)).mp zb
    rw [ea] at cx
    rw [eb] at cy
    exact ⟨x, y, ⟨hx, cx⟩, ⟨hy, cy⟩, (h3 x y hx hy (by omega)).mp (by omega)⟩
  · rintro ⟨x, y, ⟨hx, cx⟩, ⟨hy, cy⟩, hr⟩
    have hnx := (h1 x hx).mpr ⟨a, ha, cx⟩
    have hj := h2 x hx hnx
    obtain ⟨h5, h6⟩ := h4 _ hj
    refine ⟨m' 48 x, hj, (set_both h5 ha hb).mpr ⟨(h6 a.toNat (by omega)).mpr ⟨x, hx, rfl, by rw [ea]; exact cx⟩, (h6 b.toNat (by omega)).mpr ⟨y, hy, (h3 x y hx hy hnx).mpr hr, by rw [eb]; exact cy⟩⟩⟩
set_option maxRecDepth 100000 in
theorem c_X0_joinedPairs (X : Xv) (c m : Mem) {w d l : Int} (hM : WM w d l c) (hn : nC X ≤ 324) (h9 : m 9 14 = c 9 14) (q : Int) (h8 : m 46 8 = q) (hq : 0 ≤ q ∧ q ≤ (nC X : Int)) (hL : labS w d l c m q) : kCall (eX X) 3 M_X0_joinedPairs.1 [vR 46] m (cP (prsV w d l c) m) := by
  have hc8 := hM.1.2.1
  refine kCall_ofT ok_X0_joinedPairs rfl (Nat.le_of_ble_eq_true rfl) (fun T hT => ?_)
  obtain ⟨K, hK⟩ : ∃ K : Nat, c 9 14 = (K : Int) := ⟨(c 9 14).toNat, by omega⟩
  obtain ⟨B, hB⟩ : ∃ B : Int → Int → Int, ∀ a b, B a b = iv (a < b ∧ shP w d l c a b) 1 := ⟨_, fun _ _ => rfl⟩
  obtain ⟨A, hA⟩ : ∃ A : Int → Int, ∀ a, A a = sumN (B a) K := ⟨_, fun _ => rfl⟩
  have bB : ∀ a (k : Nat), 0 ≤ sumN (B a) k ∧ sumN (B a) k ≤ 1 * k := fun a k => sumN_01 (fun x => by rw [hB]; exact iv_in ⟨by decide, by decide⟩) k
  have bA : ∀ k : Nat, 0 ≤ sumN A k ∧ sumN A k ≤ 8 * k := fun k => sumN_01 (fun a => by have := bB a K; rw [hA]; omega) k
  have hsum : sumN A K = prsV w d l c := by
    unfold prsV
    rw [show (c 9 14).toNat = K by omega]
    exact sumN_cong (fun a _ _ => by rw [hA]; exact sumN_cong (fun b _ _ => hB a b))
  have outer : ∀ (k : Nat) (i : Int) (x3 : Option AV), i + k = (K : Int) → 0 ≤ i → kW (eX X) 2 M_X0_joinedPairs T 1 [some (vR 46), some (vI (sumN A i.toNat)), some (vI i), x3] [] m := by
    intro k
    induction k with
    | zero =>
      intro i x3 hk h0
      have hi : i = (K : Int) := by omega
      refine kW_go ok_X0_joinedPairs [1] 20 ?_
      refine And.intro (fun _ => hT _ _ ⟨by rw [hi, Int.toNat_natCast, hsum], rfl⟩) (fun h => ?_)
      have h : i < m 9 14 := h
      omega
    | succ k ih =>
      intro i x3 hk h0
      have b1 := bA i.toNat
      have inner : ∀ (r : Nat) (j : Int), j + r = (K : Int) → i + 1 ≤ j → kW (eX X) 2 M_X0_joinedPairs T 2 [some (vR 46), some (vI (sumN A i.toNat + sumN (B i) j.toNat)), some (vI i), some (vI j)] [] m := by
        intro r
        induction r with
        | zero =>
          intro j hr hj
          have hjK : j = (K : Int) := by omega
          have := ih (i + 1) (some (vI j)) (by omega) (by omega)
          rw [sumN_s A h0, hA] at this
          refine kW_go ok_X0_joinedPairs [1] 20 ?_
          refine And.intro (fun _ => ⟨by constructor <;> omega, ?_⟩) (fun h => ?_)
          · rw [show j.toNat = K by omega]
            exact this
          · have h : j < m 9 14 := h
            omega
        | succ r ih2 =>
          intro j hr hj
          have b2 := bB i j.toNat
          have hfour : ∀ v : Int, v = B i j → kW (eX X) 2 M_X0_joinedPairs T 4 [some (vR 46), some (vI (sumN A i.toNat + sumN (B i) j.toNat)), some (vI i), some (vI j)] [vI v, vI (sumN A i.toNat + sumN (B i) j.toNat)] m := by
            intro v hv
            have hv1 : 0 ≤ v ∧ v ≤ 1 := by rw [hv, hB]; exact iv_in ⟨by decide, by decide⟩
            have := ih2 (j + 1) (by omega) (by omega)
            rw [sumN_s (B i) (by omega), ← hv, ← Int.add_assoc] at this
            refine kW_go ok_X0_joinedPairs [2] 20 ?_
            exact ⟨by constructor <;> omega, by constructor <;> omega, this⟩
          refine kW_go ok_X0_joinedPairs [4] 20 ?_
          refine And.intro (fun h => ?_) (fun _ => ?_)
          · have h : m 9 14 ≤ j := h
            omega
          · refine kCall_mono (c_X0_areJoined X m (kor (kshl 1 i) (kshl 1 j)) q h8 hq hn) (Nat.le_of_ble_eq_true rfl) ?_
            rw [lab_sh hL (by omega) (by omega)]
            rintro _ m2 ⟨⟨hh, rfl⟩ | ⟨hh, rfl⟩, rfl⟩
            · exact And.intro (fun h => absurd h (by decide)) (fun _ => hfour 1 (by rw [hB, iv_t ⟨by omega, hh⟩]))
            · exact And.intro (fun _ => hfour 0 (by rw [hB, iv_f (fun z => hh z.2)])) (fun h => absurd rfl h)
      have hz : sumN (B i) (i + 1).toNat = 0 := sumN_z (fun b _ hb => by rw [hB]; exact iv_f (fun z => by omega))
      have hgo := inner (K - (i + 1).toNat) (i + 1) (by omega) (by omega)
      rw [hz, Int.add_zero] at hgo
      refine kW_go ok_X0_joinedPairs [2] 20 ?_
      refine And.intro (fun h => ?_) (fun _ => ⟨by constructor <;> omega, hgo⟩)
      have h : m 9 14 ≤ i := h
      omega
  refine kW_go ok_X0_joinedPairs [1] 20 ?_
  exact outer K 0 none (by omega) (by omega)
theorem c_X0_isNewPart (X : Xv) (c m : Mem) {w d l : Int} (hM : WM w d l c) (hN : w * d * l = (nC X : Int)) (h14 : m 14 = c 14) (q : Int) (hL : labS w d l c m q) (n p : Int) (hn : 0 ≤ n ∧ n < 8) (hp : 1 ≤ p ∧ p < c 13 n) : kCall (eX X) 2 M_X0_isNewPart.1 [vR 46, vI n, vI p] m (bP (nwP w d l c n p) m) := by
  obtain ⟨h1, h2, h3, h4⟩ := hL
  have h13 := (hM.2.1.1 n hn).1
  have hpin : ∀ k : Int, (0 ≤ k ∧ k < c 13 n) → inC w d l (c 14 (n * 4 + k)) ∧ m 48 (c 14 (n * 4 + k)) ≠ -1 := by
    intro k hk
    have hx := hM.2.1.2.1 n k hn hk
    refine ⟨hx, (h1 _ hx).mpr ⟨n, hn, Or.inl (((hM.2.2.1 n hn).1 _ hx).2.2.2.mpr (Or.inr ⟨k, hk, rfl⟩))⟩⟩
  have hpp := hpin p (by omega)
  refine kCall_ofT ok_X0_isNewPart rfl (Nat.le_of_ble_eq_true rfl) (fun T hT => ?_)
  have loop : ∀ (r : Nat) (k : Int), k + r = p → 0 ≤ k → (∀ j : Int, (0 ≤ j ∧ j < k) → ¬ Rch (stN w d l c) (c 14 (n * 4 + j)) (c 14 (n * 4 + p))) → kW (eX X) 1 M_X0_isNewPart T 1 [some (vR 46), some (vI n), some (vI p), some (vI k)] [] m := by
    intro r
    induction r with
    | zero =>
      intro k hk h0 hno
      refine kW_go ok_X0_isNewPart [1] 20 ?_
      exact And.intro (fun _ => hT _ _ ⟨Or.inr rfl, Or.inl ⟨⟨hp.1, fun j hj => hno j (by omega)⟩, rfl⟩, rfl⟩) (fun h => absurd h (by omega))
    | succ r ih =>
      intro k hk h0 hno
      have hkk := hpin k (by omega)
      have b1 : 0 ≤ c 14 (n * 4 + k) ∧ c 14 (n * 4 + k) < (nC X : Int) := by have := hkk.1.1; have := hkk.1.2; omega
      have b2 : 0 ≤ c 14 (n * 4 + p) ∧ c 14 (n * 4 + p) < (nC X : Int) := by have := hpp.1.1; have := hpp.1.2; omega
      have he := h3 _ _ hkk.1 hpp.1 hkk.2
      refine kW_go ok_X0_isNewPart [1] 20 ?_
      refine And.intro (fun h => absurd h (by omega)) (fun _ => ?_)
      refine kCall_mono (c_X3_pinCell X m n k hn (by omega)) (Nat.le_of_ble_eq_true rfl) ?_
      rw [h14]
      rintro _ m2 ⟨rfl, rfl⟩
      refine ⟨b1, ?_⟩
      refine kCall_mono (c_X3_pinCell X m2 n p hn (by omega)) (Nat.le_of_ble_eq_true rfl) ?_
      rw [h14]
      rintro _ m3 ⟨rfl, rfl⟩
      refine ⟨b2, And.intro (fun h => ⟨by constructor <;> omega, ih (k + 1) (by omega) (by omega) (fun j hj => ?_)⟩) (fun h => hT _ _ ⟨Or.inl rfl, Or.inr ⟨fun z => z.2 k (by omega) (he.mp ?_), rfl⟩, rfl⟩)⟩
      · by_cases e : j = k
        · rw [e]
          exact fun z => h (he.mpr z).symm
        · exact hno j (by omega)
      · exact Eq.symm h
  refine kW_go ok_X0_isNewPart [1] 20 ?_
  exact loop p.toNat 0 (by omega) (by omega) (fun j hj => by omega)
set_option maxRecDepth 100000 in
theorem c_X0_openParts (X : Xv) (c m : Mem) {w d l : Int} (hM : WM w d l c) (hN : w * d * l = (nC X : Int)) (h9 : m 9 14 = c 9 14) (h13 : m 13 = c 13) (h14 : m 14 = c 14) (q : Int) (hL : labS w d l c m q) : kCall (eX X) 3 M_X0_openParts.1 [vR 46] m (cP (opnV w d l c) m) := by
  have hc8 := hM.1.2.1
  refine kCall_ofT ok_X0_openParts rfl (Nat.le_of_ble_eq_true rfl) (fun T hT => ?_)
  obtain ⟨B, hB⟩ : ∃ B : Int → Int → Int, ∀ a b, B a b = iv (nwP w d l c a b) 1 := ⟨_, fun _ _ => rfl⟩
  obtain ⟨A, hA⟩ : ∃ A : Int → Int, ∀ a, A a = if 0 ≤ a ∧ a < 8 then sumN (B a) (c 13 a).toNat else 0 := ⟨_, fun _ => rfl⟩
  have bB : ∀ a (k : Nat), 0 ≤ sumN (B a) k ∧ sumN (B a) k ≤ 1 * k := fun a k => sumN_01 (fun x => by rw [hB]; exact iv_in ⟨by decide, by decide⟩) k
  have bA : ∀ k : Nat, 0 ≤ sumN A k ∧ sumN A k ≤ 4 * k := fun k => sumN_01 (fun a => by
    rw [hA]
    split
    · rename_i h
      have := bB a (c 13 a).toNat
      have := (hM.2.1.1 a h).1
      omega
    · omega) k
  have hsum : sumN A (c 9 14).toNat = opnV w d l c := by
    unfold opnV
    exact sumN_cong (fun a h0 h1 => by rw [hA, if_pos (by omega)]; exact sumN_cong (fun b _ _ => hB a b))
  have outer : ∀ (k : Nat) (i : Int) (x3 : Option AV), i + k = c 9 14 → 0 ≤ i → kW (eX X) 2 M_X0_openParts T 1 [some (vR 46), some (vI (sumN A i.toNat)), some (vI i), x3] [] m := by
    intro k
    induction k with
    | zero =>
      intro i x3 hk h0
      have hi : i = c 9 14 := by omega
      refine kW_go ok_X0_openParts [1] 20 ?_
      refine And.intro (fun _ => hT _ _ ⟨by rw [hi, hsum], rfl⟩) (fun h => ?_)
      have h : i < m 9 14 := h
      omega
    | succ k ih =>
      intro i x3 hk h0
      have b1 := bA i.toNat
      have hi8 : 0 ≤ i ∧ i < 8 := by omega
      have hib : 0 ≤ i ∧ i < ((8 : Nat) : Int) := hi8
      have p4 := (hM.2.1.1 i hi8).1
      have inner : ∀ (r : Nat) (p : Int), (p + r = c 13 i ∨ (r = 0 ∧ c 13 i ≤ p)) → 1 ≤ p → p ≤ 5 → kW (eX X) 2 M_X0_openParts T 2 [some (vR 46), some (vI (sumN A i.toNat + sumN (B i) (if p ≤ c 13 i then p else c 13 i).toNat)), some (vI i), some (vI p)] [] m := by
        intro r
        induction r with
        | zero =>
          intro p hr hp hp5
          have := ih (i + 1) (some (vI p)) (by omega) (by omega)
          rw [sumN_s A h0, hA, if_pos hi8] at this
          have e : (if p ≤ c 13 i then p else c 13 i) = c 13 i := by split <;> omega
          rw [e]
          refine kW_go ok_X0_openParts [1] 20 ?_
          refine ⟨hib, And.intro (fun _ => ⟨by constructor <;> omega, this⟩) (fun h => ?_)⟩
          have h : p < m 13 i := h
          rw [h13] at h
          omega
        | succ r ih2 =>
          intro p hr hp hp5
          have hr : p + ((r + 1 : Nat) : Int) = c 13 i := by omega
          rw [if_pos (by omega)]
          have b2 := bB i p.toNat
          have hfour : ∀ v : Int, v = B i p → kW (eX X) 2 M_X0_openParts T 4 [some (vR 46), some (vI (sumN A i.toNat + sumN (B i) p.toNat)), some (vI i), some (vI p)] [vI v, vI (sumN A i.toNat + sumN (B i) p.toNat)] m := by
            intro v hv
            have hv1 : 0 ≤ v ∧ v ≤ 1 := by rw [hv, hB]; exact iv_in ⟨by decide, by decide⟩
            have := ih2 (p + 1) (Or.inl (by omega)) (by omega) (by omega)
            rw [if_pos (by omega), sumN_s (B i) (by omega), ← hv, ← Int.add_assoc] at this
            refine kW_go ok_X0_openParts [2] 20 ?_
            exact ⟨by constructor <;> omega, by constructor <;> omega, this⟩
          refine kW_go ok_X0_openParts [4] 20 ?_
          refine ⟨hib, And.intro (fun h => ?_) (fun _ => ?_)⟩
          · have h : m 13 i ≤ p := h
            rw [h13] at h
            omega
          · refine kCall_mono (c_X0_isNewPart X c m hM hN h14 q hL i p hi8 (by omega)) (Nat.le_of_ble_eq_true rfl) ?_
            rintro _ m2 ⟨⟨hh, rfl⟩ | ⟨hh, rfl⟩, rfl⟩
            · exact And.intro (fun h => absurd h (by decide)) (fun _ => hfour 1 (by rw [hB, iv_t hh]))
            · exact And.intro (fun _ => hfour 0 (by rw [hB, iv_f hh])) (fun h => absurd rfl h)
      have hz : sumN (B i) (if 1 ≤ c 13 i then 1 else c 13 i).toNat = 0 := sumN_z (fun b _ hb => by
        rw [hB]
        refine iv_f (fun z => ?_)
        have := z.1
        have e : (if 1 ≤ c 13 i then (1 : Int) else c 13 i) ≤ 1 := by split <;> omega
        omega)
      have hgo := inner (c 13 i - 1).toNat 1 (by omega) (by omega) (by omega)
      rw [hz, Int.add_zero] at hgo
      refine kW_go ok_X0_openParts [2] 20 ?_
      refine And.intro (fun h => ?_) (fun _ => hgo)
      have h : m 9 14 ≤ i := h
      omega
  refine kW_go ok_X0_openParts [1] 20 ?_
  exact outer (c 9 14).toNat 0 none (by omega) (by omega)
