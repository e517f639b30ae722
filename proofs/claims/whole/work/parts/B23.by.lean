/-! PAIR: what lies beside -/
def cuN (c : Mem) (n x : Int) : Prop := bt (c 16 x) n.toNat = true ∨ bt (c 17 x) n.toNat = true
/-- copper of a net lies a step from a cell -/
def byP (w d l : Int) (c : Mem) (n x : Int) : Prop := ∃ k : Int, (0 ≤ k ∧ k < 4) ∧ nx w d l x k ≠ -1 ∧ cuN c n (nx w d l x k)
theorem cuN_72 {w d l : Int} {c r : Mem} {n x : Int} (hR : RRn w d l c r n) (hx : inC w d l x) : r 72 (324 * n + cR w d x) ≠ 0 ↔ cuN c n x := by
  obtain ⟨-, -, -, -, h5, -⟩ := hR
  obtain ⟨v1, v2, v3⟩ := h5 x hx
  rw [v4_ne v1, v2, v3]
  exact Iff.rfl
theorem c_X12_isBy (X : Xv) (c m : Mem) {w d l : Int} (hD : okD w d l) (hd : dimM m w d l) (n x : Int) (hn : 0 ≤ n ∧ n < 8) (hR : RRn w d l c m n) (hx : inC w d l x) : kCall (eX X) 4 M_X12_isBy.1 [vR 54, vI (cR w d x), vI n] m (bP (byP w d l c n x) m) := by
  refine kCall_ofT ok_X12_isBy rfl (Nat.le_of_ble_eq_true rfl) (fun T hT => ?_)
  have loop : ∀ (q : Nat) (k : Int) (x4 : Option AV), k + q = 4 → 0 ≤ k → (∀ j : Int, (0 ≤ j ∧ j < k) → ¬ (nx w d l x j ≠ -1 ∧ cuN c n (nx w d l x j))) → kW (eX X) 3 M_X12_isBy T 1 [some (vR 54), some (vI (cR w d x)), some (vI n), some (vI k), x4] [] m := by
    intro q
    induction q with
    | zero =>
      intro k x4 hkq h0 hno
      refine kW_go ok_X12_isBy [1] 20 ?_
      exact And.intro (fun _ => hT _ _ ⟨Or.inl rfl, Or.inr ⟨fun ⟨j, hj, a, b⟩ => hno j (by omega) ⟨a, b⟩, rfl⟩, rfl⟩) (fun h => absurd h (by omega))
    | succ q ih =>
      intro k x4 hkq h0 hno
      have hnext : ¬ (nx w d l x k ≠ -1 ∧ cuN c n (nx w d l x k)) → ∀ x4, inR (k + 1) ∧ kW (eX X) 3 M_X12_isBy T 1 [some (vR 54), some (vI (cR w d x)), some (vI n), some (vI (k + 1)), x4] [] m := by
        intro hq x4
        refine ⟨by constructor <;> omega, ih (k + 1) x4 (by omega) (by omega) (fun j hj => ?_)⟩
        by_cases e : j = k
        · rw [e]; exact hq
        · exact hno j (by omega)
      refine kW_go ok_X12_isBy [1] 20 ?_
      refine And.intro (fun h => absurd h (by omega)) (fun _ => ?_)
      refine kCall_mono (c_X12_moved X m hd x k hx) (Nat.le_of_ble_eq_true rfl) ?_
      rintro _ m2 ⟨rfl, rfl⟩
      by_cases hne : nx w d l x k = -1
      · rw [show mR w d l x k = -1 from if_pos hne]
        exact And.intro (fun _ => hnext (fun z => z.1 hne) _) (fun h => absurd rfl h)
      · rw [show mR w d l x k = cR w d (nx w d l x k) from if_neg hne]
        have hyi := (nx_in hne).1
        have hg := (cR_geo hD hyi).1
        refine And.intro (fun h => absurd h (by omega)) (fun _ => ?_)
        refine kCall_mono (c_X12_has X m2 n _ hn hg) (Nat.le_of_ble_eq_true rfl) ?_
        rintro _ m3 ⟨⟨hh, rfl⟩ | ⟨hh, rfl⟩, rfl⟩
        · exact And.intro (fun h => absurd h (by decide)) (fun _ => hT _ _ ⟨Or.inr rfl, Or.inl ⟨⟨k, by omega, hne, (cuN_72 hR hyi).mp hh⟩, rfl⟩, rfl⟩)
        · exact And.intro (fun _ => hnext (fun z => hh ((cuN_72 hR hyi).mpr z.2)) _) (fun h => absurd rfl h)
  refine kW_go ok_X12_isBy [1] 20 ?_
  exact loop 4 0 none (by omega) (by omega) (fun j hj => by omega)
theorem cuN_or {c : Mem} {n x : Int} (hn : 0 ≤ n ∧ n < 8) : ¬ kand (kshr (kor (c 16 x) (c 17 x)) n) 1 = 0 ↔ cuN c n x := by
  rw [k_ask0 hn.1 (by omega), bt_or]
  unfold cuN
  cases bt (c 16 x) n.toNat <;> cases bt (c 17 x) n.toNat <;> simp
theorem c_X9_touches (X : Xv) (m : Mem) {w d l : Int} (hB : Bd X w d l m) (x n : Int) (hn : 0 ≤ n ∧ n < 8) (hx : inC w d l x) : kCall (eX X) 2 M_X9_touches.1 [vR 51, vI x, vI n] m (bP (byP w d l m n x) m) := by
  obtain ⟨hD, hN, hG⟩ := id hB
  have hc4 := okD_cells hD
  have hxb : 0 ≤ x ∧ x < (nC X : Int) := by obtain ⟨a, b⟩ := hx; omega
  refine kCall_ofT ok_X9_touches rfl (Nat.le_of_ble_eq_true rfl) (fun T hT => ?_)
  have loop : ∀ (q : Nat) (k : Int) (x4 : Option AV), k + q = 4 → 0 ≤ k → (∀ j : Int, (0 ≤ j ∧ j < k) → ¬ (nx w d l x j ≠ -1 ∧ cuN m n (nx w d l x j))) → kW (eX X) 1 M_X9_touches T 1 [some (vR 51), some (vI x), some (vI n), some (vI k), x4] [] m := by
    intro q
    induction q with
    | zero =>
      intro k x4 hkq h0 hno
      refine kW_go ok_X9_touches [1] 20 ?_
      exact And.intro (fun _ => hT _ _ ⟨Or.inl rfl, Or.inr ⟨fun ⟨j, hj, a, b⟩ => hno j (by omega) ⟨a, b⟩, rfl⟩, rfl⟩) (fun h => absurd h (by omega))
    | succ q ih =>
      intro k x4 hkq h0 hno
      have hnext : ¬ (nx w d l x k ≠ -1 ∧ cuN m n (nx w d l x k)) → ∀ x4, inR (k + 1) ∧ kW (eX X) 1 M_X9_touches T 1 [some (vR 51), some (vI x), some (vI n), some (vI (k + 1)), x4] [] m := by
        intro hq x4
        refine ⟨by constructor <;> omega, ih (k + 1) x4 (by omega) (by omega) (fun j hj => ?_)⟩
        by_cases e : j = k
        · rw [e]; exact hq
        · exact hno j (by omega)
      have e2 : m 2 (x * 6 + k) = nx w d l x k := (hG.2.2.2.2.2 x hx).2.2.2 k h0 (by omega)
      refine kW_go ok_X9_touches [1] 20 ?_
      refine And.intro (fun h => absurd h (by omega)) (fun _ => ?_)
      refine ⟨by constructor <;> omega, by constructor <;> omega, by show 0 ≤ x * 6 + k ∧ x * 6 + k < ((nC X * 6 : Nat) : Int); omega, ?_⟩
      rw [e2]
      by_cases hne : nx w d l x k = -1
      · exact And.intro (fun _ => hnext (fun z => z.1 hne) _) (fun h => absurd hne h)
      · have hyi := (nx_in hne).1
        refine And.intro (fun h => absurd h hne) (fun _ => ?_)
        refine kCall_mono (c_X3_copperAt X m (nx w d l x k) ⟨hyi.1, by have := hyi.2; omega⟩) (Nat.le_of_ble_eq_true rfl) ?_
        rintro _ m3 ⟨rfl, rfl⟩
        exact And.intro (fun h => hnext (fun z => (cuN_or hn).mpr z.2 h) _) (fun h => hT _ _ ⟨Or.inr rfl, Or.inl ⟨⟨k, by omega, hne, (cuN_or hn).mp h⟩, rfl⟩, rfl⟩)
  refine kW_go ok_X9_touches [1] 20 ?_
  exact loop 4 0 none (by omega) (by omega) (fun j hj => by omega)
theorem c_X0_copperBeside (X : Xv) (m : Mem) {w d l : Int} (hB : Bd X w d l m) (x : Int) (hx : inC w d l x) : kCall (eX X) 2 M_X0_copperBeside.1 [vR 46, vI x] m (fun r m' => (∃ v, r = some (vI v) ∧ inR v ∧ ∀ o : Nat, o < 8 → (bt v o = true ↔ byP w d l m (o : Int) x)) ∧ m' = m) := by
  obtain ⟨hD, hN, hG⟩ := id hB
  have hc4 := okD_cells hD
  have hxb : 0 ≤ x ∧ x < (nC X : Int) := by obtain ⟨a, b⟩ := hx; omega
  refine kCall_ofT ok_X0_copperBeside rfl (Nat.le_of_ble_eq_true rfl) (fun T hT => ?_)
  have loop : ∀ (q : Nat) (k v : Int) (x4 : Option AV), k + q = 4 → 0 ≤ k → inR v → (∀ o : Nat, o < 8 → (bt v o = true ↔ ∃ j : Int, (0 ≤ j ∧ j < k) ∧ nx w d l x j ≠ -1 ∧ cuN m (o : Int) (nx w d l x j))) → kW (eX X) 1 M_X0_copperBeside T 1 [some (vR 46), some (vI x), some (vI v), some (vI k), x4] [] m := by
    intro q
    induction q with
    | zero =>
      intro k v x4 hkq h0 hv hb
      have hk : k = 4 := by omega
      subst hk
      refine kW_go ok_X0_copperBeside [1] 20 ?_
      exact And.intro (fun _ => hT _ _ ⟨⟨v, rfl, hv, hb⟩, rfl⟩) (fun h => absurd h (by decide))
    | succ q ih =>
      intro k v x4 hkq h0 hv hb
      have e2 : m 2 (x * 6 + k) = nx w d l x k := (hG.2.2.2.2.2 x hx).2.2.2 k h0 (by omega)
      have hnext : ∀ u : Int, inR u → (∀ o : Nat, o < 8 → (bt u o = true ↔ nx w d l x k ≠ -1 ∧ cuN m (o : Int) (nx w d l x k))) → ∀ x4, inR (k + 1) ∧ kW (eX X) 1 M_X0_copperBeside T 1 [some (vR 46), some (vI x), some (vI (kor v u)), some (vI (k + 1)), x4] [] m := by
        intro u hu hbu x4
        refine ⟨by constructor <;> omega, ih (k + 1) (kor v u) x4 (by omega) (by omega) (k_in_kor _ _) (fun o ho => ?_)⟩
        rw [bt_or, Bool.or_eq_true, hb o ho, hbu o ho]
        constructor
        · rintro (⟨j, hj, z⟩ | z)
          · exact ⟨j, by omega, z⟩
          · exact ⟨k, by omega, z⟩
        · rintro ⟨j, hj, z⟩
          by_cases e : j = k
          · rw [e] at z; exact Or.inr z
          · exact Or.inl ⟨j, by omega, z⟩
      refine kW_go ok_X0_copperBeside [1] 20 ?_
      refine And.intro (fun h => absurd h (by omega)) (fun _ => ?_)
      refine ⟨by constructor <;> omega, by constructor <;> omega, by show 0 ≤ x * 6 + k ∧ x * 6 + k < ((nC X * 6 : Nat) : Int); omega, ?_⟩
      rw [e2]
      by_cases hne : nx w d l x k = -1
      · refine And.intro (fun h => absurd hne h) (fun _ => hnext 0 (by constructor <;> decide) (fun o ho => ?_) _)
        rw [bt_zero]
        exact ⟨fun z => (by cases z), fun z => absurd hne z.1⟩
      · have hyi := (nx_in hne).1
        refine And.intro (fun _ => ?_) (fun h => absurd h hne)
        refine kCall_mono (c_X3_copperAt X m (nx w d l x k) ⟨hyi.1, by have := hyi.2; omega⟩) (Nat.le_of_ble_eq_true rfl) ?_
        rintro _ m3 ⟨rfl, rfl⟩
        refine hnext _ (k_in_kor _ _) (fun o ho => ?_) _
        rw [bt_or, Bool.or_eq_true]
        unfold cuN
        rw [Int.toNat_natCast]
        exact ⟨fun z => ⟨hne, z⟩, fun z => z.2⟩
  refine kW_go ok_X0_copperBeside [1] 20 ?_
  refine loop 4 0 0 none (by omega) (by omega) (by constructor <;> decide) (fun o ho => ?_)
  rw [bt_zero]
  exact ⟨fun z => (by cases z), fun ⟨j, hj, _⟩ => by omega⟩
theorem c_X0_isBeside (X : Xv) (m : Mem) {w d l : Int} (hB : Bd X w d l m) (a b x : Int) (ha : 0 ≤ a ∧ a < 8) (hb : 0 ≤ b ∧ b < 8) (hx : inC w d l x) : kCall (eX X) 3 M_X0_isBeside.1 [vR 46, vI a, vI b, vI x] m (bP (cuN m a x ∧ byP w d l m b x) m) := by
  obtain ⟨hD, hN, hG⟩ := id hB
  refine kCall_ofT ok_X0_isBeside rfl (Nat.le_of_ble_eq_true rfl) (fun T hT => ?_)
  refine kW_go ok_X0_isBeside [] 20 ?_
  refine kCall_mono (c_X3_copperAt X m x ⟨hx.1, by have := hx.2; omega⟩) (Nat.le_of_ble_eq_true rfl) ?_
  rintro _ m ⟨rfl, rfl⟩
  refine And.intro (fun h => hT _ _ ⟨Or.inl rfl, Or.inr ⟨fun z => (cuN_or ha).mpr z.1 h, rfl⟩, rfl⟩) (fun h => ?_)
  have hca := (cuN_or ha).mp h
  refine kCall_mono (c_X0_copperBeside X m hB x hx) (Nat.le_of_ble_eq_true rfl) ?_
  rintro _ m2 ⟨⟨v, rfl, hv, hbv⟩, rfl⟩
  have hbb := hbv b.toNat (by omega)
  rw [Int.toNat_of_nonneg hb.1] at hbb
  refine And.intro (fun h => hT _ _ ⟨Or.inl rfl, Or.inr ⟨fun z => ?_, rfl⟩, rfl⟩) (fun h => hT _ _ ⟨Or.inr rfl, Or.inl ⟨⟨hca, hbb.mp ?_⟩, rfl⟩, rfl⟩)
  · have h := (k_ask0 hb.1 (by omega)).mp h
    rw [hbb.mpr z.2] at h
    cases h
  · cases hh : bt v b.toNat with
    | true => rfl
    | false => exact absurd ((k_ask0 hb.1 (by omega)).mpr hh) h
