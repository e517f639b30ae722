/-! PLANE: the reference's parts of a layer -/
def jO (w d z x : Int) : Int := cR w d x - 81 * z
theorem jO_in {w d l z x : Int} (hD : okD w d l) (hx : inC w d l x) (hz : gZ w d x = z) : (0 ≤ jO w d z x ∧ jO w d z x < 81) ∧ cR w d x = 81 * z + jO w d z x := by
  have h1 := cR_geo hD hx
  rw [hz] at h1
  unfold jO
  omega
theorem jO_le {w d l z x y : Int} (hD : okD w d l) (hx : inC w d l x) (hy : inC w d l y) (hzx : gZ w d x = z) (hzy : gZ w d y = z) : jO w d z x ≤ jO w d z y ↔ x ≤ y := by
  have a1 := gX_in (c := x) hD
  have a2 := gX_in (c := y) hD
  have b1 := gY_in (c := x) hD
  have b2 := gY_in (c := y) hD
  have e1 := ix_eta hD x
  have e2 := ix_eta hD y
  obtain ⟨⟨w1, w2⟩, ⟨d1, d2⟩, l1, l2⟩ := id hD
  unfold ix at e1 e2
  rw [hzx] at e1
  rw [hzy] at e2
  unfold jO cR
  rw [hzx, hzy]
  obtain ⟨A, hA⟩ : ∃ A, A = z * (w * d) := ⟨_, rfl⟩
  rw [← hA] at e1 e2
  rcases Int.lt_trichotomy (gY w d x) (gY w d y) with h | h | h
  · have h3 : (gY w d x + 1) * w ≤ gY w d y * w := Int.mul_le_mul_of_nonneg_right (by omega) (by omega)
    rw [Int.add_mul, Int.one_mul] at h3
    constructor <;> intro _ <;> omega
  · rw [h] at e1 ⊢
    constructor <;> intro _ <;> omega
  · have h3 : (gY w d y + 1) * w ≤ gY w d x * w := Int.mul_le_mul_of_nonneg_right (by omega) (by omega)
    rw [Int.add_mul, Int.one_mul] at h3
    constructor <;> intro _ <;> omega
theorem nx_lay {w d l x k : Int} (hk : 0 ≤ k ∧ k < 4) (hne : nx w d l x k ≠ -1) : gZ w d (nx w d l x k) = gZ w d x := by
  rw [(nx_in hne).2.2.2, dZ_eq, if_neg (by omega), if_neg (by omega), Int.add_zero]
set_option maxRecDepth 100000 in
theorem c_X12_mingle (X : Xv) (m : Mem) {w d l z : Int} (hd : dimM m w d l) (hz : 0 ≤ z ∧ z < l) (i : Int) (hi : 0 ≤ i ∧ i < 81) (hP : ∀ j : Int, (0 ≤ j ∧ j < 81) → -1 ≤ m 86 j ∧ m 86 j ≤ 80) (hin : m 86 i ≠ -1 → inRf w d l (81 * z + i)) : kCall (eX X) 4 M_X12_mingle.1 [vR 54, vI i, vI z] m (fun r m' => (m 86 i = -1 ∧ r = some (vI 0) ∧ m' = m) ∨ (m 86 i ≠ -1 ∧ ∃ v, ((v = m 86 i ∧ r = some (vI 0) ∧ m' = m) ∨ (v < m 86 i ∧ r = some (vI 1) ∧ m' = mset m 86 i v)) ∧ (v = m 86 i ∨ ∃ k : Int, (0 ≤ k ∧ k < 4) ∧ nx w d l (cC w d (81 * z + i)) k ≠ -1 ∧ v ≠ -1 ∧ v = m 86 (jO w d z (nx w d l (cC w d (81 * z + i)) k))) ∧ ∀ k : Int, (0 ≤ k ∧ k < 4) → nx w d l (cC w d (81 * z + i)) k ≠ -1 → m 86 (jO w d z (nx w d l (cC w d (81 * z + i)) k)) = -1 ∨ v ≤ m 86 (jO w d z (nx w d l (cC w d (81 * z + i)) k)))) := by
  have hD : okD w d l := hd.2.2.2
  obtain ⟨-, -, l1, l2⟩ := id hD
  have hib : 0 ≤ i ∧ i < ((81 : Nat) : Int) := hi
  refine kCall_ofT ok_X12_mingle rfl (Nat.le_of_ble_eq_true rfl) (fun T hT => ?_)
  by_cases h1 : m 86 i = -1
  · refine kW_go ok_X12_mingle [] 20 ?_
    exact And.intro (fun h => absurd h (by decide)) (fun _ => ⟨hib, And.intro (fun _ => hT (some (vI 0)) m ⟨Or.inl rfl, Or.inl ⟨h1, rfl, rfl⟩⟩) (fun h => absurd h1 h)⟩)
  obtain ⟨hci, hcr⟩ := cC_in (hin h1)
  obtain ⟨x, hx⟩ : ∃ x, x = cC w d (81 * z + i) := ⟨_, rfl⟩
  rw [← hx] at hT hci hcr
  have hgz : gZ w d x = z := by
    have := (cR_geo hD hci).2.2.2
    rw [hcr] at this
    omega
  have hPi := hP i hi
  have loop : ∀ (q : Nat) (k v f : Int) (mm : Mem) (x5 x6 : Option AV), k + q = 4 → 0 ≤ k → v ≠ -1 → (-1 ≤ v ∧ v ≤ 80) → ((f = 0 ∧ v = m 86 i ∧ mm = m) ∨ (f = 1 ∧ v < m 86 i ∧ mm = mset m 86 i v)) → (v = m 86 i ∨ ∃ k : Int, (0 ≤ k ∧ k < 4) ∧ nx w d l x k ≠ -1 ∧ v ≠ -1 ∧ v = m 86 (jO w d z (nx w d l x k))) → (∀ k' : Int, (0 ≤ k' ∧ k' < k) → nx w d l x k' ≠ -1 → m 86 (jO w d z (nx w d l x k')) = -1 ∨ v ≤ m 86 (jO w d z (nx w d l x k'))) → kW (eX X) 3 M_X12_mingle T 1 [some (vR 54), some (vI i), some (vI z), some (vI f), some (vI k), x5, x6] [] mm := by
    intro q
    induction q with
    | zero =>
      intro k v f mm x5 x6 hk h0 hv1 hv8 hf hsrc hmin
      have hk4 : k = 4 := by omega
      subst hk4
      have hfin : T (some (vI f)) mm := by
        refine hT _ _ ⟨?_, Or.inr ⟨h1, v, ?_, hsrc, hmin⟩⟩
        · rcases hf with ⟨rfl, -⟩ | ⟨rfl, -⟩
          · exact Or.inl rfl
          · exact Or.inr rfl
        · rcases hf with ⟨rfl, a, b⟩ | ⟨rfl, a, b⟩
          · exact Or.inl ⟨a, rfl, b⟩
          · exact Or.inr ⟨a, rfl, b⟩
      refine kW_go ok_X12_mingle [] 20 ?_
      exact And.intro (fun _ => hfin) (fun h => absurd h (by decide))
    | succ q ih =>
      intro k v f mm x5 x6 hk h0 hv1 hv8 hf hsrc hmin
      have hk4 : 0 ≤ k ∧ k < 4 := by omega
      have e86 : ∀ j, mm 86 j = if j = i then v else m 86 j := by
        intro j
        rcases hf with ⟨-, a, b⟩ | ⟨-, a, b⟩
        · rw [b]
          by_cases e : j = i
          · rw [if_pos e, e]; exact a.symm
          · rw [if_neg e]
        · rw [b, k_mset_at]
      have hvi : mm 86 i = v := by rw [e86, if_pos rfl]
      have hdm : dimM mm w d l := by
        rcases hf with ⟨-, -, b⟩ | ⟨-, -, b⟩
        · rw [b]; exact hd
        · rw [b]
          unfold dimM fld at hd ⊢
          rw [k_mset_ne (by decide)]
          exact hd
      have hnext : ∀ (v' f' : Int) (m2 : Mem) (x5 x6 : Option AV), v' ≠ -1 → (-1 ≤ v' ∧ v' ≤ 80) → ((f' = 0 ∧ v' = m 86 i ∧ m2 = m) ∨ (f' = 1 ∧ v' < m 86 i ∧ m2 = mset m 86 i v')) → (v' = m 86 i ∨ ∃ k : Int, (0 ≤ k ∧ k < 4) ∧ nx w d l x k ≠ -1 ∧ v' ≠ -1 ∧ v' = m 86 (jO w d z (nx w d l x k))) → v' ≤ v → (nx w d l x k ≠ -1 → m 86 (jO w d z (nx w d l x k)) = -1 ∨ v' ≤ m 86 (jO w d z (nx w d l x k))) → kW (eX X) 3 M_X12_mingle T 4 [some (vR 54), some (vI i), some (vI z), some (vI f'), some (vI k), x5, x6] [] m2 := by
        intro v' f' m2 x5 x6 a1 a2 a3 a4 a5 a6
        refine kW_go ok_X12_mingle [1] 20 ?_
        refine ⟨by constructor <;> omega, ih (k + 1) v' f' m2 _ _ (by omega) (by omega) a1 a2 a3 a4 (fun k' hk' hne => ?_)⟩
        by_cases e : k' = k
        · rw [e] at hne ⊢; exact a6 hne
        · rcases hmin k' (by omega) hne with h | h
          · exact Or.inl h
          · exact Or.inr (by omega)
      refine kW_go ok_X12_mingle [4] 20 ?_
      show (4 ≤ k → _) ∧ (k < 4 → (0 ≤ i ∧ i < ((81 : Nat) : Int)) ∧ (mm 86 i = -1 → _) ∧ (¬ mm 86 i = -1 → _))
      rw [hvi]
      refine ⟨fun h => absurd h (by omega), fun _ => ⟨hib, fun h => absurd h hv1, fun _ => ⟨by constructor <;> omega, by constructor <;> omega, ?_⟩⟩⟩
      have hmo := c_X12_moved X mm hdm x k hci
      rw [hcr] at hmo
      refine kCall_mono hmo (Nat.le_of_ble_eq_true rfl) ?_
      rintro _ m2 ⟨rfl, rfl⟩
      by_cases hne : nx w d l x k = -1
      · rw [show mR w d l x k = -1 from if_pos hne]
        refine And.intro (fun h => absurd rfl h) (fun _ => ?_)
        exact And.intro (fun _ => hnext v f m2 _ _ hv1 hv8 hf hsrc (Int.le_refl _) (fun h => absurd hne h)) (fun h => absurd rfl h)
      · have hyi := (nx_in hne).1
        have hyz := nx_lay hk4 hne
        rw [hgz] at hyz
        obtain ⟨hj, hjc⟩ := jO_in hD hyi hyz
        obtain ⟨j, hjd⟩ : ∃ j, j = jO w d z (nx w d l x k) := ⟨_, rfl⟩
        rw [← hjd] at hj hjc
        have hjb : 0 ≤ j ∧ j < ((81 : Nat) : Int) := hj
        have hji : j ≠ i := by
          intro e
          have : nx w d l x k = x := cR_inj hD hyi hci (by rw [hjc, hcr, e])
          exact nx_self ⟨hk4.1, by omega⟩ hne this
        have hPj := hP j hj
        have ej : m2 86 j = m 86 j := by rw [e86, if_neg hji]
        have hsub : 81 * z + j - 81 * z = j := by omega
        rw [show mR w d l x k = 81 * z + j from (if_neg hne).trans hjc]
        refine And.intro (fun _ => ⟨by constructor <;> omega, by constructor <;> omega, ?_⟩) (fun h => absurd h (by omega))
        show (81 * z + j - 81 * z = -1 → _) ∧ (¬ 81 * z + j - 81 * z = -1 → _)
        rw [hsub]
        refine ⟨fun h => absurd h (by omega), fun _ => ?_⟩
        show (0 ≤ j ∧ j < ((81 : Nat) : Int)) ∧ (m2 86 j = -1 → _) ∧ (¬ m2 86 j = -1 → _)
        rw [ej]
        refine ⟨hjb, fun h => hnext v f m2 _ _ hv1 hv8 hf hsrc (Int.le_refl _) (fun _ => Or.inl (by rw [← hjd]; exact h)), fun h => ?_⟩
        show (0 ≤ j ∧ j < ((81 : Nat) : Int)) ∧ (0 ≤ i ∧ i < ((81 : Nat) : Int)) ∧ (m2 86 i ≤ m2 86 j → _) ∧ (m2 86 j < m2 86 i → (0 ≤ j ∧ j < ((81 : Nat) : Int)) ∧ (0 ≤ i ∧ i < ((81 : Nat) : Int)) ∧ kW (eX X) 3 M_X12_mingle T 4 [some (vR 54), some (vI i), some (vI z), some (vI 1), some (vI k), some (vI (81 * z + j)), some (vI j)] [] (mset m2 86 i (m2 86 j)))
        rw [ej, hvi]
        refine ⟨hjb, hib, fun hle => hnext v f m2 _ _ hv1 hv8 hf hsrc (Int.le_refl _) (fun _ => Or.inr (by rw [← hjd]; exact hle)), fun hlt => ⟨hjb, hib, ?_⟩⟩
        refine hnext (m 86 j) 1 _ _ _ h hPj (Or.inr ⟨rfl, ?_, ?_⟩) (Or.inr ⟨k, hk4, hne, h, by rw [← hjd]⟩) (by omega) (fun _ => Or.inr (by rw [← hjd]; exact Int.le_refl _))
        · rcases hf with ⟨-, a, -⟩ | ⟨-, a, -⟩ <;> omega
        · funext o
          by_cases eo : o = 86
          · rw [eo]
            funext t
            rw [k_mset_at, k_mset_at, e86]
            by_cases e : t = i
            · rw [if_pos e, if_pos e]
            · rw [if_neg e, if_neg e, if_neg e]
          · rw [k_mset_ne eo, k_mset_ne eo]
            rcases hf with ⟨-, -, b⟩ | ⟨-, -, b⟩
            · rw [b]
            · rw [b, k_mset_ne eo]
  refine kW_go ok_X12_mingle [1] 20 ?_
  exact loop 4 0 (m 86 i) 0 m none none (by omega) (by omega) h1 hPi (Or.inl ⟨rfl, rfl, rfl⟩) (Or.inl rfl) (fun k' hk' => by omega)
