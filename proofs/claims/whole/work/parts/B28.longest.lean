/-! PAIR alike -/
theorem inv_k {X : Xv} {w d l : Int} {m m' : Mem} (hI : Inv X w d l m) (h : ∀ o, (1 ≤ o ∧ o ≤ 19 ∧ o ≠ 8) ∨ o = 31 ∨ o = 41 ∨ o = 47 ∨ 54 ≤ o → m' o = m o) : Inv X w d l m' := inv_mk (m1 := m') (c' := m) hI (fun o a b => h o (by omega)) (Es_of (fun o ho => h o (by omega))) hI.2.2.1 (by rw [h 6 (by omega)]) (h 31 (by omega)) (fun _ _ => rfl) (RR_ref (fun o a _ => h o (by omega)) hI.2.2.2.1)
theorem trl_len {w d l : Int} {row P K : Int → Int} {q : Int} {N : Nat} (hN : w * d * l = (N : Int)) (h0 : 0 ≤ q) (hT : TrL w d l row q P K) : q < (N : Int) := by
  have hp := pigeon N ((List.range (q.toNat + 1)).map (fun i : Nat => P (i : Int))) ?_ ?_
  · rw [List.length_map, List.length_range] at hp
    omega
  · refine List.pairwise_map.mpr (List.Pairwise.imp_of_mem ?_ (List.nodup_range (n := q.toNat + 1)))
    intro a b ha hb hne e
    rw [List.mem_range] at ha hb
    rcases Nat.lt_trichotomy a b with h | h | h
    · exact absurd e (hT.2.2.1 (a : Int) (b : Int) ⟨by omega, by omega, by omega⟩)
    · exact hne h
    · exact absurd e.symm (hT.2.2.1 (b : Int) (a : Int) ⟨by omega, by omega, by omega⟩)
  · intro x hx
    obtain ⟨i, hi, rfl⟩ := List.mem_map.mp hx
    rw [List.mem_range] at hi
    have := hT.1 (i : Int) (by omega)
    exact ⟨this.1, by have := this.2; omega⟩
/-- rows one behind another -/
noncomputable def loR (b : Int → Prop) : Nat → Int
  | 0 => 0
  | j + 1 => iv (b (j : Int)) (loR b j + 1)
noncomputable def loM (b : Int → Prop) : Nat → Int
  | 0 => 0
  | j + 1 => max (loM b j) (loR b (j + 1))
theorem lo_in (b : Int → Prop) : ∀ j : Nat, (0 ≤ loR b j ∧ loR b j ≤ j) ∧ 0 ≤ loM b j ∧ loM b j ≤ j := by
  intro j
  induction j with
  | zero => exact ⟨⟨Int.le_refl _, Int.le_refl _⟩, Int.le_refl _, Int.le_refl _⟩
  | succ j ih =>
    have h1 : 0 ≤ loR b (j + 1) ∧ loR b (j + 1) ≤ j + 1 := by
      show 0 ≤ iv (b (j : Int)) (loR b j + 1) ∧ iv (b (j : Int)) (loR b j + 1) ≤ j + 1
      by_cases h : b (j : Int)
      · rw [iv_t h]; omega
      · rw [iv_f h]; omega
    have h2 : loM b (j + 1) = max (loM b j) (loR b (j + 1)) := rfl
    refine ⟨⟨h1.1, by omega⟩, by omega, by omega⟩
/-- a net whose trace can be followed -/
def canF (c r : Mem) (n : Int) : Prop := c 13 n = 2 ∧ r 65 n = 0 ∧ r 68 n ≠ 0
theorem c_X9_canFollow (X : Xv) (m : Mem) {w d l : Int} (hB : Bd X w d l m) (n : Int) (hn : 0 ≤ n ∧ n < 8) (hW : WFn w d l m n) {r : Mem} (hR : RRk w d l m r n) : kCall (eX X) 3 M_X9_canFollow.1 [vR 51, vI n] m (bP (canF m r n) m) := by
  have hnb : 0 ≤ n ∧ n < ((8 : Nat) : Int) := hn
  refine kCall_ofT ok_X9_canFollow rfl (Nat.le_of_ble_eq_true rfl) (fun T hT => ?_)
  have hno : ¬ canF m r n → T (some (vI 0)) m := fun h => hT _ _ ⟨Or.inl rfl, Or.inr ⟨h, rfl⟩, rfl⟩
  refine kW_go ok_X9_canFollow [] 20 ?_
  refine ⟨hnb, And.intro (fun h => hno (fun q => h q.1)) (fun h2 => ?_)⟩
  refine kCall_mono (c_X3_hasWires X m hB n hn hW hR) (Nat.le_of_ble_eq_true rfl) ?_
  rintro _ m1 ⟨⟨hw, rfl⟩ | ⟨hw, rfl⟩, rfl⟩
  · exact And.intro (fun _ => hno (fun q => hw q.2.1)) (fun h => absurd h (by decide))
  · refine And.intro (fun h => absurd rfl h) (fun _ => ?_)
    refine kCall_mono (c_X3_hasTraces X m1 hB n hn hW (q := 0) hR) (Nat.le_of_ble_eq_true rfl) ?_
    rintro _ m2 ⟨⟨ht, rfl⟩ | ⟨ht, rfl⟩, rfl⟩
    · exact And.intro (fun h => absurd h (by decide)) (fun _ => hT _ _ ⟨Or.inr rfl, Or.inl ⟨⟨h2, Classical.byContradiction hw, ht⟩, rfl⟩, rfl⟩)
    · exact And.intro (fun _ => hno (fun q => ht q.2.2)) (fun h => absurd rfl h)
theorem c_X12_isStretched (X : Xv) (c m : Mem) {w d l : Int} (hW : WFs c) (hR : RR0 w d l c m) (n : Int) : kCall (eX X) 3 M_X12_isStretched.1 [vR 54, vI n] m (bP ((0 ≤ n ∧ n < c 9 14) ∧ canF c m n) m) := by
  refine kCall_ofT ok_X12_isStretched rfl (Nat.le_of_ble_eq_true rfl) (fun T hT => ?_)
  have hno : ¬ ((0 ≤ n ∧ n < c 9 14) ∧ canF c m n) → T (some (vI 0)) m := fun h => hT _ _ ⟨Or.inl rfl, Or.inr ⟨h, rfl⟩, rfl⟩
  refine kW_go ok_X12_isStretched [] 20 ?_
  refine kCall_mono (isNetR hW hR.1 n) (Nat.le_of_ble_eq_true rfl) ?_
  rintro _ m ⟨rfl, rfl⟩
  refine And.intro (fun h => hno (fun q => b2i_0.mp h q.1)) (fun h => ?_)
  have hnn := b2i_n.mp h
  have h8 := hW.2.1
  have hn8 : 0 ≤ n ∧ n < 8 := by omega
  have hnb : 0 ≤ n ∧ n < ((8 : Nat) : Int) := hn8
  have e63 := (hR.1.2.2.2.2.1 n hn8).2.1
  have ht0 := (hR.2 n hn8).2.2.1.1.1
  refine ⟨hnb, And.intro (fun h => hno (fun q => h (e63.trans q.2.1))) (fun h2 => ⟨hnb, And.intro (fun h => hno (fun q => h q.2.2.1)) (fun h3 => ⟨hnb, And.intro (fun h => hno (fun q => ?_)) (fun h4 => hT _ _ ⟨Or.inr rfl, Or.inl ⟨⟨hnn, by rw [← e63]; exact h2, h3, ?_⟩, rfl⟩, rfl⟩)⟩)⟩)⟩
  · have h : m 68 n ≤ 0 := h
    have := q.2.2.2
    omega
  · have h4 : 0 < m 68 n := h4
    omega
/-- the trail of a net of two pins -/
theorem net_trl {w d l : Int} (hD : okD w d l) {c r : Mem} {n : Int} (hn : 0 ≤ n ∧ n < 8) (hP : WFp w d l c) (hR : RRn w d l c r n) (h2 : c 13 n = 2) : ∃ P K : Int → Int, TrL w d l (fun x => c 19 (n * (w * d * l) + x)) (r 68 n) P K ∧ P 0 = c 14 (n * 4 + 1) ∧ ∀ i : Int, (0 ≤ i ∧ i < r 68 n) → r 69 (2400 * n + i) = cR w d (P i) ∧ r 70 (2400 * n + i) = cR w d (P (i + 1)) := CH_TrL hD (hP.2.1 n 1 hn (by omega)) hR.2.2.1 (hR.2.2.2.1.2 h2)
