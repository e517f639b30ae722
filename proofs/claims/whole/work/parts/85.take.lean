/-! the least state taken from the heap -/
def HD (S q h s0 s1 : Int) (m : Mem) : Prop := (0 ≤ h ∧ h < q) ∧ (∀ i : Int, (0 ≤ i ∧ i < q) → i ≠ h → (0 ≤ m 35 i ∧ m 35 i < S) ∧ (m 35 i ≠ s1 ∧ m 35 i ≠ s0) ∧ m 36 (m 35 i) = i) ∧
  (∀ s : Int, (0 ≤ s ∧ s < S) → s ≠ s0 → s ≠ s1 → m 36 s = -1 ∨ ((0 ≤ m 36 s ∧ m 36 s < q) ∧ m 36 s ≠ h ∧ m 35 (m 36 s) = s)) ∧
  (∀ i : Int, (0 < i ∧ i < q) → i ≠ h → (i - 1) / 2 ≠ h → m 34 (m 35 ((i - 1) / 2)) ≤ m 34 (m 35 i)) ∧
  (∀ i : Int, (0 < i ∧ i < q) → (i - 1) / 2 = h → 0 < h → m 34 (m 35 ((h - 1) / 2)) ≤ m 34 (m 35 i)) ∧ (0 < h → m 34 (m 35 ((h - 1) / 2)) ≤ m 34 s1)
theorem HD_step {S q h s0 s1 c : Int} {m : Mem} (H : HD S q h s0 s1 m) (hc : 0 < c ∧ c < q) (hch : (c - 1) / 2 = h) (hmin : ∀ i, (0 < i ∧ i < q) → (i - 1) / 2 = h → m 34 (m 35 c) ≤ m 34 (m 35 i)) (hk : m 34 (m 35 c) < m 34 s1) : HD S q c s0 s1 (mset (mset m 35 h (m 35 c)) 36 (m 35 c) h) := by
  obtain ⟨h1, h2, h3, h4, h5, h6⟩ := H
  obtain ⟨u, hu⟩ : ∃ u, m 35 c = u := ⟨_, rfl⟩
  rw [hu] at hk hmin ⊢
  have hcb : h < c := by omega
  obtain ⟨p1, p2, p3⟩ := h2 c (by omega) (by omega)
  rw [hu] at p1 p2 p3
  generalize hm : mset (mset m 35 h u) 36 u h = m'
  have e34 : m' 34 = m 34 := by rw [← hm, k_mset_ne (by decide), k_mset_ne (by decide)]
  have e35 : ∀ i, m' 35 i = if i = h then u else m 35 i := fun i => by rw [← hm, k_mset_ne (by decide), k_mset_at]
  have e36 : ∀ s, m' 36 s = if s = u then h else m 36 s := fun s => by rw [← hm, k_mset_at, k_mset_ne (by decide)]
  have hne : ∀ i, (0 ≤ i ∧ i < q) → i ≠ h → i ≠ c → m 35 i ≠ u := by
    intro i hi hih hip hz
    have := (h2 i hi hih).2.2
    rw [hz, p3] at this
    exact hip this.symm
  refine ⟨by omega, fun i hi hic => ?_, fun s hs hs0 hs1 => ?_, fun i hi hic hpp => ?_, fun i hi hpp h0 => ?_, fun h0 => ?_⟩
  · rw [e35]
    by_cases hih : i = h
    · rw [if_pos hih]
      exact ⟨p1, p2, by rw [e36, if_pos rfl, hih]⟩
    · rw [if_neg hih]
      obtain ⟨a, b, e⟩ := h2 i hi hih
      exact ⟨a, b, by rw [e36, if_neg (hne i hi hih hic)]; exact e⟩
  · rw [e36]
    by_cases hsu : s = u
    · rw [if_pos hsu]
      exact Or.inr ⟨by omega, by omega, by rw [e35, if_pos rfl, hsu]⟩
    · rw [if_neg hsu]
      rcases h3 s hs hs0 hs1 with z | ⟨z1, z2, z3⟩
      · exact Or.inl z
      · refine Or.inr ⟨z1, fun z => ?_, by rw [e35, if_neg z2]; exact z3⟩
        rw [z, hu] at z3
        exact hsu z3.symm
  · rw [e34, e35 i, e35]
    by_cases hih : i = h
    · rw [if_pos hih, hih, if_neg (by omega)]
      have := h5 c hc hch (by omega)
      rw [hu] at this
      exact this
    · rw [if_neg hih]
      by_cases hq : (i - 1) / 2 = h
      · rw [if_pos hq]; exact hmin i hi hq
      · rw [if_neg hq]; exact h4 i hi hih hq
  · rw [e34, hch, e35, if_pos rfl, e35, if_neg (by omega)]
    have := h4 i hi (by omega) (by omega)
    rw [hpp, hu] at this
    exact this
  · rw [e34, hch, e35, if_pos rfl]
    omega
/-- what a take leaves -/
def tkP (S : Int) (m m' : Mem) : Prop := HI S m' ∧ (∀ o, o ≠ 30 → o ≠ 35 → o ≠ 36 → m' o = m o) ∧ (∀ i, i ≠ 9 → m' 30 i = m 30 i) ∧ m' 30 9 = m 30 9 - 1 ∧ ∀ t, (0 ≤ t ∧ t < S) → (m' 36 t ≠ -1 ↔ m 36 t ≠ -1 ∧ t ≠ m 35 0)
theorem HD_end {S h s0 s1 : Int} {m : Mem} (H : HD S (m 30 9) h s0 s1 m) (hs1 : 0 ≤ s1 ∧ s1 < S) (h01 : s0 ≠ s1) (hqS : m 30 9 ≤ S) (hk : ∀ i, (0 < i ∧ i < m 30 9) → (i - 1) / 2 = h → m 34 s1 ≤ m 34 (m 35 i)) : HI S (mset (mset (mset m 35 h s1) 36 s1 h) 36 s0 (-1)) := by
  obtain ⟨h1, h2, h3, h4, h5, h6⟩ := H
  generalize hm : mset (mset (mset m 35 h s1) 36 s1 h) 36 s0 (-1) = m'
  have e30 : m' 30 = m 30 := by rw [← hm, k_mset_ne (by decide), k_mset_ne (by decide), k_mset_ne (by decide)]
  have e34 : m' 34 = m 34 := by rw [← hm, k_mset_ne (by decide), k_mset_ne (by decide), k_mset_ne (by decide)]
  have e35 : ∀ i, m' 35 i = if i = h then s1 else m 35 i := fun i => by rw [← hm, k_mset_ne (by decide), k_mset_ne (by decide), k_mset_at]
  have e36 : ∀ s, m' 36 s = if s = s0 then -1 else if s = s1 then h else m 36 s := fun s => by rw [← hm, k_mset_at, k_mset_at, k_mset_ne (by decide)]
  unfold HI
  rw [e30, e34]
  refine ⟨by omega, fun i hi => ?_, fun s hs => ?_, fun i hi => ?_⟩
  · rw [e35]
    by_cases hih : i = h
    · rw [if_pos hih]; exact ⟨hs1, by rw [e36, if_neg (fun z => h01 z.symm), if_pos rfl, hih]⟩
    · rw [if_neg hih]
      obtain ⟨a, b, c⟩ := h2 i hi hih
      exact ⟨a, by rw [e36, if_neg b.2, if_neg b.1]; exact c⟩
  · rw [e36]
    by_cases hs0 : s = s0
    · rw [if_pos hs0]; exact Or.inl rfl
    · rw [if_neg hs0]
      by_cases hs1 : s = s1
      · rw [if_pos hs1]; exact Or.inr ⟨h1, by rw [e35, if_pos rfl, hs1]⟩
      · rw [if_neg hs1]
        rcases h3 s hs hs0 hs1 with z | ⟨z1, z2, z3⟩
        · exact Or.inl z
        · exact Or.inr ⟨z1, by rw [e35, if_neg z2]; exact z3⟩
  · rw [e35, e35]
    by_cases hih : i = h
    · rw [if_pos hih, hih, if_neg (by omega)]
      exact h6 (by omega)
    · rw [if_neg hih]
      by_cases hq : (i - 1) / 2 = h
      · rw [if_pos hq]; exact hk i hi hq
      · rw [if_neg hq]; exact h4 i hi hih hq
/-- the first of the heap is the least -/
theorem HI_min {S : Int} {m : Mem} (H : HI S m) : ∀ (n : Nat), (n : Int) < m 30 9 → m 34 (m 35 0) ≤ m 34 (m 35 (n : Int)) := by
  intro n
  induction n using Nat.strongRecOn with
  | ind n ih =>
    intro hn
    by_cases h0 : n = 0
    · subst h0; exact Int.le_refl _
    · have h1 := H.2.2.2 (n : Int) (by omega)
      have h2 := ih ((n - 1) / 2) (by omega) (by omega)
      have e : (((n - 1) / 2 : Nat) : Int) = ((n : Int) - 1) / 2 := by omega
      rw [e] at h2
      omega
theorem HI_least {S : Int} {m : Mem} (H : HI S m) {t : Int} (ht : 0 ≤ t ∧ t < S) (hw : m 36 t ≠ -1) : m 34 (m 35 0) ≤ m 34 t := by
  rcases H.2.2.1 t ht with z | ⟨z1, z2⟩
  · exact absurd z hw
  · have := HI_min H (m 36 t).toNat (by omega)
    rw [Int.toNat_of_nonneg z1.1, z2] at this
    exact this
set_option maxRecDepth 100000 in
theorem c_X7_takeLeast (X : Xv) (m : Mem) (S : Int) (h324 : nC X ≤ 324) (hS : S ≤ ((nC X * 5 : Nat) : Int)) (hH : HI S m) (hq : 0 < m 30 9) : kCall (eX X) 1 M_X7_takeLeast.1 [vR 30] m (fun r m' => r = some (vI (m 35 0)) ∧ tkP S m m') := by
  refine kCall_ofT ok_X7_takeLeast rfl (Nat.le_of_ble_eq_true rfl) (fun T hT => ?_)
  obtain ⟨i1, i2, i3, i4⟩ := id hH
  have hSn : S ≤ 1620 := by omega
  obtain ⟨Q, hQ⟩ : ∃ Q, Q = m 30 9 - 1 := ⟨_, rfl⟩
  obtain ⟨s0, hs0⟩ : ∃ s0, m 35 0 = s0 := ⟨_, rfl⟩
  obtain ⟨s1, hs1⟩ : ∃ s1, m 35 Q = s1 := ⟨_, rfl⟩
  have a0 := i2 0 (by omega)
  have a1 := i2 Q (by omega)
  rw [hs0] at a0
  rw [hs1] at a1
  have bS : ∀ {i : Int}, (0 ≤ i ∧ i < S) → 0 ≤ i ∧ i < ((nC X * 5 : Nat) : Int) := fun h => by omega
  -- the end
  have fin : ∀ (h x4 : Int) (m' : Mem), (0 ≤ h ∧ h < S) → HI S (mset (mset (mset m' 35 h s1) 36 s1 h) 36 s0 (-1)) → (∀ o, o ≠ 30 → o ≠ 35 → o ≠ 36 → m' o = m o) → (∀ i, i ≠ 9 → m' 30 i = m 30 i) → m' 30 9 = Q → (∀ t, (0 ≤ t ∧ t < S) → t ≠ s0 → t ≠ s1 → (m' 36 t ≠ -1 ↔ m 36 t ≠ -1)) → kW (eX X) 0 M_X7_takeLeast T 4 [some (vR 30), some (vI s0), some (vI s1), some (vI h), some (vI x4)] [] m' := by
    intro h x4 m' hh hHI hf hf30 h9 h36
    refine kW_go ok_X7_takeLeast [] 20 ?_
    refine ⟨bS hh, bS a1.1, bS a0.1, hT _ _ ⟨by rw [hs0], hHI, fun o a b c => ?_, fun i hi => ?_, ?_, fun t ht => ?_⟩⟩
    · rw [k_mset_ne c, k_mset_ne c, k_mset_ne b]; exact hf o a b c
    · rw [k_mset_ne (by decide), k_mset_ne (by decide), k_mset_ne (by decide)]; exact hf30 i hi
    · rw [k_mset_ne (by decide), k_mset_ne (by decide), k_mset_ne (by decide), h9, hQ]
    · rw [k_mset_at, k_mset_at, k_mset_ne (by decide), hs0]
      by_cases ht0 : t = s0
      · rw [if_pos ht0]
        exact ⟨fun z => absurd rfl z, fun z => absurd ht0 z.2⟩
      · rw [if_neg ht0]
        by_cases ht1 : t = s1
        · rw [if_pos ht1, ht1, a1.2]
          exact ⟨fun _ => ⟨by omega, fun z => ht0 (by rw [ht1, z])⟩, fun _ => by omega⟩
        · rw [if_neg ht1, h36 t ht ht0 ht1]
          exact ⟨fun z => ⟨z, ht0⟩, fun z => z.1⟩
  have loop : ∀ (n : Nat) (h : Int) (m' : Mem), (S - h).toNat = n → HD S Q h s0 s1 m' → s0 ≠ s1 → (∀ o, o ≠ 30 → o ≠ 35 → o ≠ 36 → m' o = m o) → (∀ i, i ≠ 9 → m' 30 i = m 30 i) → m' 30 9 = Q → (∀ t, (0 ≤ t ∧ t < S) → t ≠ s0 → t ≠ s1 → (m' 36 t ≠ -1 ↔ m 36 t ≠ -1)) → kW (eX X) 0 M_X7_takeLeast T 1 [some (vR 30), some (vI s0), some (vI s1), some (vI h), some (vI (2 * h + 1))] [] m' := by
    intro n
    induction n using Nat.strongRecOn with
    | ind n ih =>
      intro h m' hn hU h01 hf hf30 h9 h36
      have hU1 := hU.1
      have hU' : HD S (m' 30 9) h s0 s1 m' := by rw [h9]; exact hU
      have hhb : 0 ≤ h ∧ h < S := by omega
      have e34 : m' 34 = m 34 := hf 34 (by decide) (by decide) (by decide)
      have hend : ∀ x4, (∀ i, (0 < i ∧ i < Q) → (i - 1) / 2 = h → m' 34 s1 ≤ m' 34 (m' 35 i)) → kW (eX X) 0 M_X7_takeLeast T 4 [some (vR 30), some (vI s0), some (vI s1), some (vI h), some (vI x4)] [] m' := by
        intro x4 hz
        exact fin h x4 m' hhb (HD_end hU' a1.1 h01 (by omega) (by rw [h9]; exact hz)) hf hf30 h9 h36
      have blk2 : ∀ c : Int, (0 < c ∧ c < Q) → (c - 1) / 2 = h → (∀ i, (0 < i ∧ i < Q) → (i - 1) / 2 = h → m' 34 (m' 35 c) ≤ m' 34 (m' 35 i)) → kW (eX X) 0 M_X7_takeLeast T 2 [some (vR 30), some (vI s0), some (vI s1), some (vI h), some (vI c)] [] m' := by
        intro c hc hch hmin
        have hcv := (hU.2.1 c (by omega) (by omega)).1
        refine kW_go ok_X7_takeLeast [1, 4] 20 ?_
        refine ⟨bS (by omega), bS hcv, bS a1.1, And.intro (fun hlt => ?_) (fun hge => hend c (fun i hi hih => Int.le_trans hge (hmin i hi hih)))⟩
        have hcv' : 0 ≤ mset m' 35 h (m' 35 c) 35 h ∧ mset m' 35 h (m' 35 c) 35 h < ((nC X * 5 : Nat) : Int) := by rw [k_mset_at, if_pos rfl]; exact bS hcv
        refine ⟨bS (by omega), bS hhb, bS hhb, hcv', by constructor <;> omega, by constructor <;> omega, ?_⟩
        have := ih (S - c).toNat (by omega) c _ rfl (HD_step hU hc hch hmin hlt) h01 (fun o a b e => by rw [k_mset_ne e, k_mset_ne b]; exact hf o a b e) (fun i hi => by rw [k_mset_ne (by decide), k_mset_ne (by decide)]; exact hf30 i hi) (by rw [k_mset_ne (by decide), k_mset_ne (by decide)]; exact h9) (fun t ht t0 t1 => ?_)
        · have e : mset m' 35 h (m' 35 c) 35 h = m' 35 c := by rw [k_mset_at, if_pos rfl]
          rw [show m' 35 c = mset m' 35 h (m' 35 c) 35 h from e.symm] at this
          rw [e] at this
          show kW (eX X) 0 M_X7_takeLeast T 1 [some (vR 30), some (vI s0), some (vI s1), some (vI c), some (vI (2 * c + 1))] [] (mset (mset m' 35 h (m' 35 c)) 36 (mset m' 35 h (m' 35 c) 35 h) h)
          rw [e]
          exact this
        · rw [k_mset_at]
          by_cases htu : t = m' 35 c
          · rw [if_pos htu, ← h36 t ht t0 t1, htu, (hU.2.1 c (by omega) (by omega)).2.2]
            constructor <;> intro _ <;> omega
          · rw [if_neg htu, k_mset_ne (by decide)]
            exact h36 t ht t0 t1
      refine kW_go ok_X7_takeLeast [2, 4] 20 ?_
      show (m' 30 9 ≤ 2 * h + 1 → kW (eX X) 0 M_X7_takeLeast T 4 [some (vR 30), some (vI s0), some (vI s1), some (vI h), some (vI (2 * h + 1))] [] m') ∧ (2 * h + 1 < m' 30 9 → inR (2 * h + 1 + 1) ∧ (m' 30 9 ≤ 2 * h + 1 + 1 → kW (eX X) 0 M_X7_takeLeast T 2 [some (vR 30), some (vI s0), some (vI s1), some (vI h), some (vI (2 * h + 1))] [] m') ∧ (2 * h + 1 + 1 < m' 30 9 → inR (2 * h + 1 + 1) ∧ (0 ≤ 2 * h + 1 + 1 ∧ 2 * h + 1 + 1 < ((nC X * 5 : Nat) : Int)) ∧ (0 ≤ m' 35 (2 * h + 1 + 1) ∧ m' 35 (2 * h + 1 + 1) < ((nC X * 5 : Nat) : Int)) ∧ (0 ≤ 2 * h + 1 ∧ 2 * h + 1 < ((nC X * 5 : Nat) : Int)) ∧ (0 ≤ m' 35 (2 * h + 1) ∧ m' 35 (2 * h + 1) < ((nC X * 5 : Nat) : Int)) ∧ (m' 34 (m' 35 (2 * h + 1)) ≤ m' 34 (m' 35 (2 * h + 1 + 1)) → kW (eX X) 0 M_X7_takeLeast T 2 [some (vR 30), some (vI s0), some (vI s1), some (vI h), some (vI (2 * h + 1))] [] m') ∧ (m' 34 (m' 35 (2 * h + 1 + 1)) < m' 34 (m' 35 (2 * h + 1)) → inR (2 * h + 1 + 1) ∧ kW (eX X) 0 M_X7_takeLeast T 2 [some (vR 30), some (vI s0), some (vI s1), some (vI h), some (vI (2 * h + 1 + 1))] [] m')))
      rw [h9]
      have hI : inR (2 * h + 1 + 1) := by constructor <;> omega
      refine ⟨fun hge => hend _ (fun i hi hih => by omega), fun hlt => ⟨hI, fun hge => blk2 _ (by omega) (by omega) (fun i hi hih => ?_), fun hlt2 => ⟨hI, bS (by omega), bS (hU.2.1 (2 * h + 1 + 1) (by omega) (by omega)).1, bS (by omega), bS (hU.2.1 (2 * h + 1) (by omega) (by omega)).1, fun hle => blk2 _ (by omega) (by omega) (fun i hi hih => ?_), fun hle => ⟨hI, blk2 _ (by omega) (by omega) (fun i hi hih => ?_)⟩⟩⟩⟩
      · rw [show i = 2 * h + 1 by omega]; exact Int.le_refl _
      · rcases (show i = 2 * h + 1 ∨ i = 2 * h + 1 + 1 by omega) with rfl | rfl
        · exact Int.le_refl _
        · exact hle
      · rcases (show i = 2 * h + 1 ∨ i = 2 * h + 1 + 1 by omega) with rfl | rfl
        · omega
        · exact Int.le_refl _
  generalize hm1 : fset m 30 9 (m 30 9 - 1) = m1
  have e1 : ∀ o, o ≠ 30 → m1 o = m o := fun o ho => by rw [← hm1]; unfold fset; rw [k_mset_ne ho]
  have e30 : ∀ i, i ≠ 9 → m1 30 i = m 30 i := fun i hi => by rw [← hm1]; unfold fset; rw [k_mset_at, if_neg (show i ≠ ((9 : Nat) : Int) from hi)]
  have e9 : m1 30 9 = Q := by rw [← hm1, hQ]; unfold fset; rw [k_mset_at]; rfl
  refine kW_go ok_X7_takeLeast [1] 20 ?_
  show (0 ≤ (0 : Int) ∧ (0 : Int) < ((nC X * 5 : Nat) : Int)) ∧ inR (m 30 9 - 1) ∧ (0 ≤ fset m 30 9 (m 30 9 - 1) 30 9 ∧ fset m 30 9 (m 30 9 - 1) 30 9 < ((nC X * 5 : Nat) : Int)) ∧ kW (eX X) 0 M_X7_takeLeast T 1 [some (vR 30), some (vI (m 35 0)), some (vI (fset m 30 9 (m 30 9 - 1) 35 (fset m 30 9 (m 30 9 - 1) 30 9))), some (vI 0), some (vI 1)] [] (fset m 30 9 (m 30 9 - 1))
  rw [hm1, e9, e1 35 (by decide), hs0, hs1]
  refine ⟨by omega, by constructor <;> omega, by omega, ?_⟩
  by_cases hq0 : Q = 0
  · have hss : s1 = s0 := by rw [← hs1, hq0, hs0]
    refine kW_go ok_X7_takeLeast [4] 20 ?_
    refine And.intro (fun _ => ?_) (fun z => ?_)
    · refine fin 0 1 m1 (by omega) ?_ (fun o a _ _ => e1 o a) e30 e9 (fun t _ _ _ => by rw [e1 36 (by decide)])
      generalize hm2 : mset (mset (mset m1 35 0 s1) 36 s1 0) 36 s0 (-1) = m2
      have g9 : m2 30 9 = 0 := by rw [← hm2, k_mset_ne (by decide), k_mset_ne (by decide), k_mset_ne (by decide), e9, hq0]
      have g36 : ∀ s, m2 36 s = if s = s0 then -1 else if s = s1 then 0 else m 36 s := fun s => by rw [← hm2, k_mset_at, k_mset_at, k_mset_ne (by decide), e1 36 (by decide)]
      unfold HI
      rw [g9]
      refine ⟨by omega, fun i hi => absurd hi (by omega), fun s hs => ?_, fun i hi => absurd hi (by omega)⟩
      rw [g36]
      by_cases z0 : s = s0
      · rw [if_pos z0]; exact Or.inl rfl
      · rw [if_neg z0, if_neg (by rw [hss]; exact z0)]
        rcases i3 s hs with z | ⟨z1, z2⟩
        · exact Or.inl z
        · have : m 36 s = 0 := by omega
          rw [this, hs0] at z2
          exact absurd z2.symm z0
    · have z : (1 : Int) < m1 30 9 := z
      omega
  · have h01 : s0 ≠ s1 := fun z => by
      have := a1.2
      rw [← z, a0.2] at this
      exact hq0 this.symm
    refine loop _ 0 m1 rfl ?_ h01 (fun o a _ _ => e1 o a) e30 e9 (fun t _ _ _ => by rw [e1 36 (by decide)])
    unfold HD
    rw [e1 34 (by decide), e1 35 (by decide), e1 36 (by decide)]
    refine ⟨by omega, fun i hi hi0 => ⟨(i2 i (by omega)).1, ⟨fun z => ?_, fun z => ?_⟩, (i2 i (by omega)).2⟩, fun s hs z0 z1 => ?_, fun i hi _ _ => i4 i (by omega), fun i _ _ h => absurd h (by omega), fun h => absurd h (by omega)⟩
    · have := (i2 i (by omega)).2
      rw [z, a1.2] at this
      omega
    · have := (i2 i (by omega)).2
      rw [z, a0.2] at this
      omega
    · rcases i3 s hs with y | ⟨y1, y2⟩
      · exact Or.inl y
      · have n0 : m 36 s ≠ 0 := fun z => z0 (by rw [← y2, z, hs0])
        have n1 : m 36 s ≠ Q := fun z => z1 (by rw [← y2, z, hs1])
        exact Or.inr ⟨by omega, n0, y2⟩
