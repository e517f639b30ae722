/-! UNWIRE alike -/
/-- a net's bits of copper that lasts set anew from its wires and pins -/
def setB (N n : Int) (m m' : Mem) : Prop := (∀ o, o ≠ 16 → m' o = m o) ∧ ∀ x, (0 ≤ x ∧ x < N) → (0 ≤ m' 16 x ∧ m' 16 x < 256) ∧ (∀ o : Nat, (o : Int) ≠ n → bt (m' 16 x) o = bt (m 16 x) o) ∧ (bt (m' 16 x) n.toNat = true ↔ m 18 (n * N + x) ≠ 0 ∨ pinT m n x)
theorem and8 {v u : Int} (h : 0 ≤ v ∧ v < 256) : 0 ≤ kand v u ∧ kand v u < 256 :=
  k_lt_bits (n := 8) (k_in_kand _ _) (by decide) (fun k h1 _ => by rw [bt_and, bt_small (n := 8) (inR_small (by omega)) h.1 h.2 h1]; rfl)
theorem bt_kor_n {n v : Int} (hn : 0 ≤ n ∧ n < 8) (o : Nat) : ((o : Int) ≠ n → bt (kor v (kshl 1 n)) o = bt v o) ∧ bt (kor v (kshl 1 n)) n.toNat = true := by
  refine ⟨fun h => ?_, ?_⟩
  · rw [bt_or, bt_bit hn.1 (by omega), decide_eq_false h, Bool.or_false]
  · rw [bt_or, bt_bit hn.1 (by omega), decide_eq_true (by omega), Bool.or_true]
theorem bt_kand_n {n v : Int} (hn : 0 ≤ n ∧ n < 8) (hv : inR v) (o : Nat) : ((o : Int) ≠ n → bt (kand v (kxor (kshl 1 n) (-1))) o = bt v o) ∧ bt (kand v (kxor (kshl 1 n) (-1))) n.toNat = false := by
  refine ⟨fun h => ?_, ?_⟩
  · by_cases h32 : o < 32
    · rw [bt_and, bt_nall hn.1 (by omega) h32, decide_eq_true h, Bool.and_true]
    · rw [bt_ge _ (by omega), bt_ge _ (by omega)]
  · rw [bt_and, bt_nall hn.1 (by omega) (by omega), decide_eq_false (by omega), Bool.and_false]
set_option maxRecDepth 100000 in
theorem c_X3_settle (X : Xv) (m : Mem) (n : Int) (h324 : nC X ≤ 324) (g4 : m 1 4 = (nC X : Int)) (hn : 0 ≤ n ∧ n < 8) (h13 : 0 ≤ m 13 n ∧ m 13 n ≤ 4) (h14 : ∀ p : Int, (0 ≤ p ∧ p < m 13 n) → 0 ≤ m 14 (n * 4 + p) ∧ m 14 (n * 4 + p) < (nC X : Int)) (h16 : ∀ x : Int, (0 ≤ x ∧ x < (nC X : Int)) → 0 ≤ m 16 x ∧ m 16 x < 256) : kCall (eX X) 2 M_X3_settle.1 [vR 9, vI n] m (fun r m' => r = none ∧ setB (nC X) n m m') := by
  refine kCall_ofT ok_X3_settle rfl (Nat.le_of_ble_eq_true rfl) (fun T hT => ?_)
  have hnb : 0 ≤ n ∧ n < ((8 : Nat) : Int) := hn
  obtain ⟨K, hK⟩ : ∃ K : Int → Mem → Prop, ∀ p m', K p m' ↔ ((∀ o, o ≠ 16 → m' o = m o) ∧ ∀ x, (0 ≤ x ∧ x < (nC X : Int)) → (0 ≤ m' 16 x ∧ m' 16 x < 256) ∧ (∀ o : Nat, (o : Int) ≠ n → bt (m' 16 x) o = bt (m 16 x) o) ∧ (bt (m' 16 x) n.toNat = true ↔ m 18 (n * (nC X : Int) + x) ≠ 0 ∨ ∃ p' : Int, (0 ≤ p' ∧ p' < p) ∧ m 14 (n * 4 + p') = x)) := ⟨_, fun _ _ => Iff.rfl⟩
  have pins : ∀ (q : Nat) (p : Int) (m' : Mem), p + q = m 13 n → 0 ≤ p → K p m' → kW (eX X) 1 M_X3_settle T 5 [some (vR 9), some (vI n), some (vI p)] [] m' := by
    intro q
    induction q with
    | zero =>
      intro p m' hpq h0 hk
      obtain ⟨k1, k2⟩ := (hK _ _).mp hk
      have hp : p = m 13 n := by omega
      refine kW_go ok_X3_settle [5] 20 ?_
      refine ⟨hnb, And.intro (fun _ => hT _ _ ⟨rfl, k1, fun x hx => ?_⟩) (fun h => ?_)⟩
      · have := k2 x hx
        rw [hp] at this
        exact this
      · have h : p < m' 13 n := h
        rw [k1 13 (by decide)] at h
        omega
    | succ q ih =>
      intro p m' hpq h0 hk
      obtain ⟨k1, k2⟩ := (hK _ _).mp hk
      have hc := h14 p (by omega)
      refine kW_go ok_X3_settle [5] 20 ?_
      refine ⟨hnb, And.intro (fun h => ?_) (fun _ => ?_)⟩
      · have h : m' 13 n ≤ p := h
        rw [k1 13 (by decide)] at h
        omega
      · refine kCall_mono (c_X3_pinCell X m' n p hn (by omega)) (Nat.le_of_ble_eq_true rfl) ?_
        rintro _ m2 ⟨rfl, rfl⟩
        rw [k1 14 (by decide)]
        refine ⟨hc, hc, by constructor <;> omega, ih (p + 1) _ (by omega) (by omega) ((hK _ _).mpr ⟨fun o ho => by rw [k_mset_ne ho]; exact k1 o ho, fun x hx => ?_⟩)⟩
        rw [k_mset_at]
        by_cases e : x = m 14 (n * 4 + p)
        · rw [if_pos e]
          have q1 := k2 _ hc
          refine ⟨kor8 q1.1 (bit8 hn), fun o ho => by rw [(bt_kor_n hn o).1 ho, e]; exact q1.2.1 o ho, ⟨fun _ => Or.inr ⟨p, by omega, e.symm⟩, fun _ => (bt_kor_n hn 0).2⟩⟩
        · rw [if_neg e]
          obtain ⟨q1, q2, q3⟩ := k2 x hx
          refine ⟨q1, q2, q3.trans ?_⟩
          constructor
          · rintro (z | ⟨p', hp', z⟩)
            · exact Or.inl z
            · exact Or.inr ⟨p', by omega, z⟩
          · rintro (z | ⟨p', hp', z⟩)
            · exact Or.inl z
            · by_cases ep : p' = p
              · rw [ep] at z; exact absurd z.symm e
              · exact Or.inr ⟨p', by omega, z⟩
  obtain ⟨J, hJ⟩ : ∃ J : Int → Mem → Prop, ∀ i m', J i m' ↔ ((∀ o, o ≠ 16 → m' o = m o) ∧ ∀ x, (0 ≤ x ∧ x < (nC X : Int)) → (0 ≤ m' 16 x ∧ m' 16 x < 256) ∧ (∀ o : Nat, (o : Int) ≠ n → bt (m' 16 x) o = bt (m 16 x) o) ∧ (x < i → (bt (m' 16 x) n.toNat = true ↔ m 18 (n * (nC X : Int) + x) ≠ 0))) := ⟨_, fun _ _ => Iff.rfl⟩
  have cells : ∀ (q : Nat) (i : Int) (m' : Mem), i + q = (nC X : Int) → 0 ≤ i → J i m' → kW (eX X) 1 M_X3_settle T 1 [some (vR 9), some (vI n), some (vI i)] [] m' := by
    intro q
    induction q with
    | zero =>
      intro i m' hiq h0 hj
      obtain ⟨j1, j2⟩ := (hJ _ _).mp hj
      have e4 : m' 1 4 = (nC X : Int) := by rw [j1 1 (by decide)]; exact g4
      refine kW_go ok_X3_settle [1, 5] 20 ?_
      refine And.intro (fun _ => pins (m 13 n).toNat 0 m' (by omega) (by omega) ((hK _ _).mpr ⟨j1, fun x hx => ?_⟩)) (fun h => ?_)
      · obtain ⟨q1, q2, q3⟩ := j2 x hx
        refine ⟨q1, q2, (q3 (by omega)).trans ⟨Or.inl, fun z => z.elim id (fun ⟨p', hp', _⟩ => by omega)⟩⟩
      · have h : i < m' 1 4 := h
        omega
    | succ q ih =>
      intro i m' hiq h0 hj
      obtain ⟨j1, j2⟩ := (hJ _ _).mp hj
      have e4 : m' 1 4 = (nC X : Int) := by rw [j1 1 (by decide)]; exact g4
      have hb : 0 ≤ i ∧ i < (nC X : Int) := by omega
      have hi := ixn (N := (nC X : Int)) (by omega) hn hb
      have hstep : ∀ v : Int, (0 ≤ v ∧ v < 256) → (∀ o : Nat, (o : Int) ≠ n → bt v o = bt (m' 16 i) o) → (bt v n.toNat = true ↔ m 18 (n * (nC X : Int) + i) ≠ 0) → inR (i + 1) ∧ kW (eX X) 1 M_X3_settle T 1 [some (vR 9), some (vI n), some (vI (i + 1))] [] (mset m' 16 i v) := by
        intro v h1 h2 h3
        refine ⟨by constructor <;> omega, ih (i + 1) _ (by omega) (by omega) ((hJ _ _).mpr ⟨fun o ho => by rw [k_mset_ne ho]; exact j1 o ho, fun x hx => ?_⟩)⟩
        rw [k_mset_at]
        by_cases e : x = i
        · rw [if_pos e, e]
          exact ⟨h1, fun o ho => by rw [h2 o ho]; exact (j2 i hb).2.1 o ho, fun _ => h3⟩
        · rw [if_neg e]
          obtain ⟨q1, q2, q3⟩ := j2 x hx
          exact ⟨q1, q2, fun z => q3 (by omega)⟩
      have q16 := (j2 i hb).1
      refine kW_go ok_X3_settle [1] 20 ?_
      refine And.intro (fun h => ?_) (fun _ => ?_)
      · have h : m' 1 4 ≤ i := h
        omega
      · show inR (n * m' 1 4) ∧ inR (n * m' 1 4 + i) ∧ (0 ≤ n * m' 1 4 + i ∧ n * m' 1 4 + i < ((nC X * 8 : Nat) : Int)) ∧ ((m' 18 (n * m' 1 4 + i) = 0 → _) ∧ (¬ m' 18 (n * m' 1 4 + i) = 0 → _))
        rw [e4, j1 18 (by decide)]
        refine ⟨by constructor <;> omega, by constructor <;> omega, by omega, fun h => ⟨hb, hb, hstep _ (and8 q16) (fun o ho => (bt_kand_n hn (inR_small (by omega)) o).1 ho) ?_⟩, fun h => ⟨hb, hb, hstep _ (kor8 q16 (bit8 hn)) (fun o ho => (bt_kor_n hn o).1 ho) ?_⟩⟩
        · rw [(bt_kand_n hn (inR_small (by omega)) 0).2]
          exact ⟨fun z => (by cases z), fun z => absurd h z⟩
        · exact ⟨fun _ => h, fun _ => (bt_kor_n hn 0).2⟩
  refine kW_go ok_X3_settle [1] 20 ?_
  exact cells (nC X) 0 m (by omega) (by omega) ((hJ _ _).mpr ⟨fun _ _ => rfl, fun x hx => ⟨h16 x hx, fun _ _ => rfl, fun h => by omega⟩⟩)
theorem c_X3_removeWires (X : Xv) (m : Mem) (n : Int) (h324 : nC X ≤ 324) (g4 : m 1 4 = (nC X : Int)) (hn : 0 ≤ n ∧ n < 8) (h13 : 0 ≤ m 13 n ∧ m 13 n ≤ 4) (h14 : ∀ p : Int, (0 ≤ p ∧ p < m 13 n) → 0 ≤ m 14 (n * 4 + p) ∧ m 14 (n * 4 + p) < (nC X : Int)) (h16 : ∀ x : Int, (0 ≤ x ∧ x < (nC X : Int)) → 0 ≤ m 16 x ∧ m 16 x < 256) : kCall (eX X) 3 M_X3_removeWires.1 [vR 9, vI n] m (fun r m' => r = none ∧ setB (nC X) n (mfill m 18 (n * (nC X : Int)) (n * (nC X : Int) + (nC X : Int)) 0) m') := by
  have hp := mb (a := n) (b := (nC X : Int)) (A := 7) (B := 324) (by omega) (by omega)
  have hp2 : (n + 1) * (nC X : Int) ≤ 8 * (nC X : Int) := Int.mul_le_mul_of_nonneg_right (by omega) (by omega)
  have hp3 : (n + 1) * (nC X : Int) = n * (nC X : Int) + (nC X : Int) := by rw [Int.add_mul, Int.one_mul]
  refine kCall_ofT ok_X3_removeWires rfl (Nat.le_of_ble_eq_true rfl) (fun T hT => ?_)
  refine kW_go ok_X3_removeWires [] 20 ?_
  show inR (n * m 1 4) ∧ inR (n + 1) ∧ inR ((n + 1) * m 1 4) ∧ kCall (eX X) 2 M_J7_fill_fda19.1 [vR 18, vI (n * m 1 4), vI ((n + 1) * m 1 4), vI 0] m _
  rw [g4, hp3]
  refine ⟨by constructor <;> omega, by constructor <;> omega, by constructor <;> omega, ?_⟩
  refine kCall_mono (c_fill4 (eX X) m 18 (nC X * 8) (n * (nC X : Int)) (n * (nC X : Int) + (nC X : Int)) 0 (by decide) rfl (by omega) (by omega)) (Nat.le_of_ble_eq_true rfl) ?_
  rintro _ m2 ⟨rfl, rfl⟩
  refine kCall_mono (c_X3_settle X _ n h324 (by rw [mfill_ne (by decide)]; exact g4) hn (by rw [mfill_ne (by decide)]; exact h13) (by rw [mfill_ne (by decide), mfill_ne (by decide)]; exact h14) (by rw [mfill_ne (by decide)]; exact h16)) (Nat.le_of_ble_eq_true rfl) ?_
  rintro _ m3 ⟨rfl, h⟩
  exact hT _ _ ⟨rfl, h⟩
theorem and2_v4 {v : Int} (h : 0 ≤ v ∧ v < 4) : (0 ≤ kand v 2 ∧ kand v 2 < 4) ∧ bt (kand v 2) 0 = false ∧ bt (kand v 2) 1 = bt v 1 := by
  have : ∀ i : Fin 4, (0 ≤ kand (i.val : Int) 2 ∧ kand (i.val : Int) 2 < 4) ∧ bt (kand (i.val : Int) 2) 0 = false ∧ bt (kand (i.val : Int) 2) 1 = bt (i.val : Int) 1 := by decide +kernel
  have h2 := this ⟨v.toNat, by omega⟩
  simp only [Int.toNat_of_nonneg h.1] at h2
  exact h2
set_option maxRecDepth 100000 in
theorem c_X12_unwire (X : Xv) (m : Mem) (n : Int) (h26 : 0 ≤ m 54 26 ∧ m 54 26 ≤ 8) (h63 : (0 ≤ n ∧ n < 8) → (0 ≤ m 63 n ∧ m 63 n ≤ 4) ∧ ∀ p : Int, (0 ≤ p ∧ p < m 63 n) → 0 ≤ m 64 (4 * n + p) ∧ m 64 (4 * n + p) < 324) (h72 : (0 ≤ n ∧ n < 8) → ∀ j : Int, (0 ≤ j ∧ j < 324) → 0 ≤ m 72 (324 * n + j) ∧ m 72 (324 * n + j) < 4) : kCall (eX X) 3 M_X12_unwire.1 [vR 54, vI n] m (fun r m' => (((0 ≤ n ∧ n < m 54 26) ∧ m 65 n ≠ 0) ∧ r = some (vI 1) ∧ (∀ o, o ≠ 65 → o ≠ 72 → m' o = m o) ∧ (∀ j, m' 65 j = if j = n then 0 else m 65 j) ∧ (∀ j, ¬ (324 * n ≤ j ∧ j < 324 * n + 324) → m' 72 j = m 72 j) ∧ ∀ j : Int, (0 ≤ j ∧ j < 324) → (0 ≤ m' 72 (324 * n + j) ∧ m' 72 (324 * n + j) < 4) ∧ (bt (m' 72 (324 * n + j)) 0 = true ↔ ∃ p : Int, (0 ≤ p ∧ p < m 63 n) ∧ m 64 (4 * n + p) = j) ∧ bt (m' 72 (324 * n + j)) 1 = bt (m 72 (324 * n + j)) 1) ∨ (¬ ((0 ≤ n ∧ n < m 54 26) ∧ m 65 n ≠ 0) ∧ r = some (vI 0) ∧ m' = m)) := by
  refine kCall_ofT ok_X12_unwire rfl (Nat.le_of_ble_eq_true rfl) (fun T hT => ?_)
  have hno : ¬ ((0 ≤ n ∧ n < m 54 26) ∧ m 65 n ≠ 0) → T (some (vI 0)) m := fun h => hT _ _ ⟨Or.inl rfl, Or.inr ⟨h, rfl, rfl⟩⟩
  refine kW_go ok_X12_unwire [2] 20 ?_
  refine kCall_mono (c_X12_isNet X m n h26) (Nat.le_of_ble_eq_true rfl) ?_
  rintro _ m ⟨rfl, rfl⟩
  refine And.intro (fun h => hno (fun q => b2i_0.mp h q.1)) (fun h => ?_)
  have hnn := b2i_n.mp h
  have hn8 : 0 ≤ n ∧ n < 8 := by omega
  have hnb : 0 ≤ n ∧ n < ((8 : Nat) : Int) := hn8
  obtain ⟨hp4, hpc⟩ := h63 hn8
  have h72 := h72 hn8
  refine ⟨hnb, And.intro (fun hw => ?_) (fun hw => hno (fun q => q.2 hw))⟩
  have hw : m 65 n ≠ 0 := hw
  obtain ⟨K, hK⟩ : ∃ K : Int → Mem → Prop, ∀ p m', K p m' ↔ ((∀ o, o ≠ 65 → o ≠ 72 → m' o = m o) ∧ (∀ j, m' 65 j = if j = n then 0 else m 65 j) ∧ (∀ j, ¬ (324 * n ≤ j ∧ j < 324 * n + 324) → m' 72 j = m 72 j) ∧ ∀ j : Int, (0 ≤ j ∧ j < 324) → (0 ≤ m' 72 (324 * n + j) ∧ m' 72 (324 * n + j) < 4) ∧ (bt (m' 72 (324 * n + j)) 0 = true ↔ ∃ p' : Int, (0 ≤ p' ∧ p' < p) ∧ m 64 (4 * n + p') = j) ∧ bt (m' 72 (324 * n + j)) 1 = bt (m 72 (324 * n + j)) 1) := ⟨_, fun _ _ => Iff.rfl⟩
  have pins : ∀ (q : Nat) (p : Int) (m' : Mem), p + q = m 63 n → 0 ≤ p → K p m' → kW (eX X) 2 M_X12_unwire T 5 [some (vR 54), some (vI n), some (vI p)] [] m' := by
    intro q
    induction q with
    | zero =>
      intro p m' hpq h0 hk
      have hp : p = m 63 n := by omega
      rw [hp] at hk
      have hk := (hK _ _).mp hk
      refine kW_go ok_X12_unwire [5] 20 ?_
      refine ⟨hnb, And.intro (fun _ => hT _ _ ⟨Or.inr rfl, Or.inl ⟨⟨hnn, hw⟩, rfl, hk⟩⟩) (fun h => ?_)⟩
      have h : p < m' 63 n := h
      rw [hk.1 63 (by decide) (by decide)] at h
      omega
    | succ q ih =>
      intro p m' hpq h0 hk
      obtain ⟨k1, k2, k3, k4⟩ := (hK _ _).mp hk
      have hc := hpc p (by omega)
      have e64 : m' 64 = m 64 := k1 64 (by decide) (by decide)
      refine kW_go ok_X12_unwire [5] 20 ?_
      refine ⟨hnb, And.intro (fun h => ?_) (fun _ => ?_)⟩
      · have h : m' 63 n ≤ p := h
        rw [k1 63 (by decide) (by decide)] at h
        omega
      · show inR (324 * n) ∧ inR (4 * n) ∧ inR (4 * n + p) ∧ (0 ≤ 4 * n + p ∧ 4 * n + p < ((32 : Nat) : Int)) ∧ inR (324 * n + m' 64 (4 * n + p)) ∧ (0 ≤ 324 * n + m' 64 (4 * n + p) ∧ 324 * n + m' 64 (4 * n + p) < ((2592 : Nat) : Int)) ∧ (0 ≤ 324 * n + m' 64 (4 * n + p) ∧ 324 * n + m' 64 (4 * n + p) < ((2592 : Nat) : Int)) ∧ inR (p + 1) ∧ kW (eX X) 2 M_X12_unwire T 5 [some (vR 54), some (vI n), some (vI (p + 1))] [] (mset m' 72 (324 * n + m' 64 (4 * n + p)) (kor (m' 72 (324 * n + m' 64 (4 * n + p))) 1))
        rw [e64]
        refine ⟨by constructor <;> omega, by constructor <;> omega, by constructor <;> omega, by omega, by constructor <;> omega, by omega, by omega, by constructor <;> omega, ih (p + 1) _ (by omega) (by omega) ((hK _ _).mpr ⟨fun o a b => by rw [k_mset_ne b]; exact k1 o a b, fun j => by rw [k_mset_ne (by decide)]; exact k2 j, fun j hj => by rw [k_mset_at, if_neg (by omega)]; exact k3 j hj, fun j hj => ?_⟩)⟩
        obtain ⟨q1, q2, q3⟩ := k4 j hj
        rw [k_mset_at]
        by_cases e : j = m 64 (4 * n + p)
        · rw [if_pos (by rw [e]), ← e]
          have v := or1_v4 q1
          exact ⟨v.1, by rw [v.2.1]; exact ⟨fun _ => ⟨p, by omega, e.symm⟩, fun _ => rfl⟩, by rw [v.2.2]; exact q3⟩
        · rw [if_neg (by omega)]
          refine ⟨q1, q2.trans ⟨fun ⟨p', a, b⟩ => ⟨p', by omega, b⟩, fun ⟨p', a, b⟩ => ⟨p', ?_, b⟩⟩, q3⟩
          by_cases ep : p' = p
          · rw [ep] at b; exact absurd b.symm e
          · omega
  obtain ⟨J, hJ⟩ : ∃ J : Int → Mem → Prop, ∀ i m', J i m' ↔ ((∀ o, o ≠ 65 → o ≠ 72 → m' o = m o) ∧ (∀ j, m' 65 j = if j = n then 0 else m 65 j) ∧ ∀ j, m' 72 j = if 324 * n ≤ j ∧ j < 324 * n + i then kand (m 72 j) 2 else m 72 j) := ⟨_, fun _ _ => Iff.rfl⟩
  have cells : ∀ (q : Nat) (i : Int) (m' : Mem), i + q = 324 → 0 ≤ i → J i m' → kW (eX X) 2 M_X12_unwire T 3 [some (vR 54), some (vI n), some (vI i)] [] m' := by
    intro q
    induction q with
    | zero =>
      intro i m' hiq h0 hj
      have : i = 324 := by omega
      subst this
      obtain ⟨j1, j2, j3⟩ := (hJ _ _).mp hj
      refine kW_go ok_X12_unwire [3, 5] 20 ?_
      refine And.intro (fun _ => pins (m 63 n).toNat 0 m' (by omega) (by omega) ((hK _ _).mpr ⟨j1, j2, fun j hj => by rw [j3, if_neg hj], fun j hj => ?_⟩)) (fun h => absurd h (by decide))
      rw [j3, if_pos (by omega)]
      have v := and2_v4 (h72 j hj)
      exact ⟨v.1, by rw [v.2.1]; exact ⟨fun z => (by cases z), fun ⟨p', a, _⟩ => by omega⟩, v.2.2⟩
    | succ q ih =>
      intro i m' hiq h0 hj
      obtain ⟨j1, j2, j3⟩ := (hJ _ _).mp hj
      refine kW_go ok_X12_unwire [3] 20 ?_
      refine And.intro (fun h => absurd h (by omega)) (fun _ => ⟨by constructor <;> omega, by constructor <;> omega, by omega, by omega, by constructor <;> omega, ih (i + 1) _ (by omega) (by omega) ((hJ _ _).mpr ⟨fun o a b => by rw [k_mset_ne b]; exact j1 o a b, fun j => by rw [k_mset_ne (by decide)]; exact j2 j, fun j => ?_⟩)⟩)
      rw [k_mset_at]
      by_cases e : j = 324 * n + i
      · rw [if_pos e, if_pos (by omega), j3, if_neg (by omega), e]
      · rw [if_neg e, j3]
        by_cases e2 : 324 * n ≤ j ∧ j < 324 * n + i
        · rw [if_pos e2, if_pos (by omega)]
        · rw [if_neg e2, if_neg (by omega)]
  refine kW_go ok_X12_unwire [3] 20 ?_
  refine ⟨hnb, cells 324 0 _ (by omega) (by omega) ((hJ _ _).mpr ⟨fun o a b => k_mset_ne a, fun j => k_mset_at, fun j => ?_⟩)⟩
  rw [k_mset_ne (by decide), if_neg (by omega)]
