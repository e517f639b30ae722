/-! PLANE: the class's parts of a layer -/
set_option maxRecDepth 100000 in
theorem c_X4_partPlane (X : Xv) (m : Mem) {w d l : Int} {G O : Int → Prop} (hB : Bd X w d l m) (z : Int) (hz : 0 ≤ z ∧ z < l) (hG : ∀ x, inC w d l x → (m 27 x ≠ 0 ↔ G x)) (hO : ∀ x, inC w d l x → (m 26 x ≠ 0 ↔ O x)) (hGz : ∀ x, G x → gZ w d x = z) : kCall (eX X) 2 M_X4_partPlane.1 [vR 45, vI z] m (fun r m' => r = none ∧ (∀ o, o ≠ 28 → o ≠ 29 → o ≠ 45 → m' o = m o) ∧ m' 45 3 = ptN w d l (nC X) G O ∧ m' 45 4 = isN w d l (nC X) G O) := by
  obtain ⟨hD, hN, hG0⟩ := id hB
  have hc4 := okD_cells hD
  obtain ⟨⟨w1, w2⟩, ⟨d1, d2⟩, l1, l2⟩ := id hD
  obtain ⟨F, hF⟩ : ∃ F, F = w * d := ⟨_, rfl⟩
  have hFp : 0 < F := by rw [hF]; exact Int.mul_pos (by omega) (by omega)
  have e1 : (z + 1) * F = z * F + F := by rw [Int.add_mul, Int.one_mul]
  have h0z : 0 ≤ z * F := Int.mul_nonneg hz.1 (by omega)
  have hle : (z + 1) * F ≤ (nC X : Int) := by
    rw [← hN, ← hF, Int.mul_comm F l]
    exact Int.mul_le_mul_of_nonneg_right (by omega) (by omega)
  have g3 : m 1 3 = F := by rw [hG0.2.2.2.1, hF]
  have hlay : ∀ x, inC w d l x → (gZ w d x = z ↔ z * F ≤ x ∧ x < (z + 1) * F) := by
    intro x hx
    unfold gZ
    rw [← hF]
    constructor
    · intro e
      have h1 := Int.ediv_mul_le x (show F ≠ 0 by omega)
      have h2 := Int.lt_ediv_add_one_mul_self x hFp
      rw [e] at h1 h2
      exact ⟨h1, h2⟩
    · rintro ⟨h1, h2⟩
      have h3 := Int.le_ediv_of_mul_le hFp h1
      have h4 := Int.ediv_lt_of_lt_mul hFp h2
      omega
  refine kCall_ofT ok_X4_partPlane rfl (Nat.le_of_ble_eq_true rfl) (fun T hT => ?_)
  obtain ⟨A, hA⟩ : ∃ A : Int → Int, ∀ x, A x = iv (leP w d l G x ∧ ownP w d l G O x) 1 := ⟨_, fun _ => rfl⟩
  obtain ⟨B, hBd⟩ : ∃ B : Int → Int, ∀ x, B x = iv (leP w d l G x ∧ ¬ ownP w d l G O x) 1 := ⟨_, fun _ => rfl⟩
  have bA : ∀ k : Nat, 0 ≤ sumN A k ∧ sumN A k ≤ 1 * k := fun k => sumN_01 (fun x => by rw [hA]; exact iv_in ⟨by decide, by decide⟩) k
  have bB : ∀ k : Nat, 0 ≤ sumN B k ∧ sumN B k ≤ 1 * k := fun k => sumN_01 (fun x => by rw [hBd]; exact iv_in ⟨by decide, by decide⟩) k
  have hoff : ∀ x, inC w d l x → ¬ (z * F ≤ x ∧ x < (z + 1) * F) → ¬ leP w d l G x := fun x hx hn q => hn ((hlay x hx).mp (hGz x q.1))
  have hsA : sumN A ((z + 1) * F).toNat = ptN w d l (nC X) G O := by
    unfold ptN
    rw [sumN_cong (f := A) (fun x _ _ => hA x)]
    exact (sum_cut (by omega) (fun i a b => iv_f (fun q => hoff i ⟨by omega, by omega⟩ (by omega) q.1))).symm
  have hsB : sumN B ((z + 1) * F).toNat = isN w d l (nC X) G O := by
    unfold isN
    rw [sumN_cong (f := B) (fun x _ _ => hBd x)]
    exact (sum_cut (by omega) (fun i a b => iv_f (fun q => hoff i ⟨by omega, by omega⟩ (by omega) q.1))).symm
  have hA0 : sumN A (z * F).toNat = 0 := sumN_z (fun i a b => by rw [hA]; exact iv_f (fun q => hoff i ⟨a, by omega⟩ (by omega) q.1))
  have hB0 : sumN B (z * F).toNat = 0 := sumN_z (fun i a b => by rw [hBd]; exact iv_f (fun q => hoff i ⟨a, by omega⟩ (by omega) q.1))
  have loop : ∀ (k : Nat) (i : Int) (mm : Mem) (x3 : Option AV), i + k = (z + 1) * F → z * F ≤ i → (∀ o, o ≠ 28 → o ≠ 29 → o ≠ 45 → mm o = m o) → (∀ x, inC w d l x → (mm 28 x ≠ 0 ↔ ∃ y, y < i ∧ inC w d l y ∧ G y ∧ Rch (stR w d l G 4) y x)) → mm 45 3 = sumN A i.toNat → mm 45 4 = sumN B i.toNat → kW (eX X) 1 M_X4_partPlane T 1 [some (vR 45), some (vI z), some (vI i), x3] [] mm := by
    intro k
    induction k with
    | zero =>
      intro i mm x3 hk h0 hf hv h3 h4
      have hi : i = (z + 1) * F := by omega
      have g3' : mm 1 3 = F := by rw [hf 1 (by decide) (by decide) (by decide)]; exact g3
      refine kW_go ok_X4_partPlane [1] 20 ?_
      show inR (z + 1) ∧ inR ((z + 1) * mm 1 3) ∧ ((z + 1) * mm 1 3 ≤ i → T none mm) ∧ (i < (z + 1) * mm 1 3 → _)
      rw [g3']
      exact ⟨by constructor <;> omega, by constructor <;> omega, fun _ => hT _ _ ⟨rfl, hf, by rw [h3, hi, hsA], by rw [h4, hi, hsB]⟩, fun h => absurd h (by omega)⟩
    | succ k ih =>
      intro i mm x3 hk h0 hf hv h3 h4
      have hib : 0 ≤ i ∧ i < (nC X : Int) := by omega
      have hix : inC w d l i := ⟨by omega, by omega⟩
      have g3' : mm 1 3 = F := by rw [hf 1 (by decide) (by decide) (by decide)]; exact g3
      have e27 : mm 27 = m 27 := hf 27 (by decide) (by decide) (by decide)
      have b1 := bA i.toNat
      have b2 := bB i.toNat
      have hskip : ¬ leP w d l G i → (∀ y, G i → inC w d l y → Rch (stR w d l G 4) i y → mm 28 y ≠ 0) → kW (eX X) 1 M_X4_partPlane T 3 [some (vR 45), some (vI z), some (vI i), x3] [] mm := by
        intro hnl hvis
        refine kW_go ok_X4_partPlane [1] 20 ?_
        refine ⟨by constructor <;> omega, ih (i + 1) mm _ (by omega) (by omega) hf (fun x hx => ?_) ?_ ?_⟩
        · rw [hv x hx]
          constructor
          · rintro ⟨y, a, b⟩; exact ⟨y, by omega, b⟩
          · rintro ⟨y, a, b, g, r⟩
            by_cases e : y = i
            · rw [e] at g r
              exact (hv x hx).mp (hvis x g hx r)
            · exact ⟨y, by omega, b, g, r⟩
        · rw [sumN_s A hix.1, h3, hA, iv_f (fun q => hnl q.1), Int.add_zero]
        · rw [sumN_s B hix.1, h4, hBd, iv_f (fun q => hnl q.1), Int.add_zero]
      refine kW_go ok_X4_partPlane [1, 3] 20 ?_
      show inR (z + 1) ∧ inR ((z + 1) * mm 1 3) ∧ ((z + 1) * mm 1 3 ≤ i → _) ∧ (i < (z + 1) * mm 1 3 → (0 ≤ i ∧ i < (nC X : Int)) ∧ ((mm 27 i = 0 → kW (eX X) 1 M_X4_partPlane T 3 [some (vR 45), some (vI z), some (vI i), x3] [] mm) ∧ (¬ mm 27 i = 0 → (0 ≤ i ∧ i < (nC X : Int)) ∧ ((¬ mm 28 i = 0 → kW (eX X) 1 M_X4_partPlane T 3 [some (vR 45), some (vI z), some (vI i), x3] [] mm) ∧ (mm 28 i = 0 → _)))))
      rw [g3']
      refine ⟨by constructor <;> omega, by constructor <;> omega, fun h => absurd h (by omega), fun _ => ⟨hib, fun hfr => ?_, fun hfr => ⟨hib, fun hre => ?_, fun hre => ?_⟩⟩⟩
      · have hng : ¬ G i := fun q => (hG i hix).mpr q (by rw [← e27]; exact hfr)
        exact hskip (fun q => hng q.1) (fun y q => absurd q hng)
      · obtain ⟨y, hy, hyi, hgy, hr⟩ := (hv i hix).mp hre
        refine hskip (fun q => ?_) (fun y' _ hy' hr' => (hv y' hy').mpr ⟨y, hy, hyi, hgy, Rch_tr hr hr'⟩)
        have := q.2 y (Rch_sym hD (Or.inl rfl) hyi hgy hr).2.2
        omega
      · have hgi : G i := (hG i hix).mp (by rw [← e27]; exact hfr)
        have hBm : Bd X w d l mm := Bd_same hB (fun o a b => hf o (by omega) (by omega) (by omega))
        have hnv : ∀ y, inC w d l y → G y → y < i → ¬ Rch (stR w d l G 4) y i := fun y a b e q => (hv i hix).mpr ⟨y, e, a, b, q⟩ hre
        have hleP : leP w d l G i := by
          refine ⟨hgi, fun y hy => Int.not_lt.mp (fun hlt => ?_)⟩
          obtain ⟨q1, q2, q3⟩ := Rch_sym hD (Or.inl rfl) hix hgi hy
          exact hnv y q1 q2 hlt q3
        have hRF : ∀ x, Rch (stF w d l mm 4) i x ↔ Rch (stR w d l G 4) i x := by
          intro x
          constructor
          · intro h
            refine (Rch_ind (P := fun e => inC w d l e ∧ Rch (stR w d l G 4) i e) ?_ ⟨hix, Rch_rf⟩ h).2
            rintro a b ⟨ha, hra⟩ ⟨k', hk', hn, hne, h27, h28⟩
            have hb : inC w d l b := by rw [← hn]; exact (nx_in (by rw [hn]; exact hne)).1
            exact ⟨hb, Rch_to hra ⟨k', hk', hn, hne, (hG b hb).mp (by rw [← e27]; exact h27)⟩⟩
          · intro h
            refine (Rch_ind (P := fun e => (inC w d l e ∧ Rch (stR w d l G 4) i e) ∧ Rch (stF w d l mm 4) i e) ?_ ⟨⟨hix, Rch_rf⟩, Rch_rf⟩ h).2
            rintro a b ⟨⟨ha, hra⟩, hfa⟩ hst
            have hrb := Rch_to hra hst
            obtain ⟨k', hk', hn, hne, hgb⟩ := hst
            have hb : inC w d l b := by rw [← hn]; exact (nx_in (by rw [hn]; exact hne)).1
            refine ⟨⟨hb, hrb⟩, Rch_to hfa ⟨k', hk', hn, hne, by rw [e27]; exact (hG b hb).mpr hgb, ?_⟩⟩
            refine Classical.byContradiction (fun h28 => ?_)
            obtain ⟨y, hy, hyi, hgy, hry⟩ := (hv b hb).mp h28
            exact hnv y hyi hgy hy (Rch_tr hry (Rch_sym hD (Or.inl rfl) hix hgi hrb).2.2)
        refine kCall_mono (c_X6_floodMore X mm hD hN hBm.2.2 i 4 hix (by omega) hre) (Nat.le_of_ble_eq_true rfl) ?_
        rintro _ m2 ⟨q, rfl, hq, f2, h28, -, -, h29⟩
        have f2' : ∀ o, o ≠ 28 → o ≠ 29 → o ≠ 45 → m2 o = m o := fun o a b e => by rw [f2 o a b]; exact hf o a b e
        have e45 : m2 45 = mm 45 := f2 45 (by decide) (by decide)
        have e26 : m2 26 = m 26 := f2' 26 (by decide) (by decide) (by decide)
        have hv2 : ∀ x, inC w d l x → (m2 28 x ≠ 0 ↔ ∃ y, y < i + 1 ∧ inC w d l y ∧ G y ∧ Rch (stR w d l G 4) y x) := by
          intro x hx
          rw [h28 x hx, hv x hx, hRF]
          constructor
          · rintro (⟨y, a, b⟩ | h)
            · exact ⟨y, by omega, b⟩
            · exact ⟨i, by omega, hix, hgi, h⟩
          · rintro ⟨y, a, b, g, r⟩
            by_cases e : y = i
            · rw [e] at r; exact Or.inr r
            · exact Or.inl ⟨y, by omega, b, g, r⟩
        have hcin : ∀ j : Int, (0 ≤ j ∧ j < q) → inC w d l (m2 29 j) ∧ Rch (stR w d l G 4) i (m2 29 j) := by
          intro j hj
          have hr := (hRF _).mp ((h29 (m2 29 j)).mp ⟨j, hj, rfl⟩)
          exact ⟨(Rch_sym hD (Or.inl rfl) hix hgi hr).1, hr⟩
        refine kCall_mono (c_X4_hasOwn X m2 q hq (by omega) (fun j hj => by have := (hcin j hj).1; exact ⟨this.1, by have := this.2; omega⟩)) (Nat.le_of_ble_eq_true rfl) ?_
        have hown : (∃ j : Int, (0 ≤ j ∧ j < q) ∧ m2 26 (m2 29 j) ≠ 0) ↔ ownP w d l G O i := by
          constructor
          · rintro ⟨j, hj, h⟩
            obtain ⟨a, b⟩ := hcin j hj
            rw [e26] at h
            exact ⟨_, b, (hO _ a).mp h⟩
          · rintro ⟨y, hy, hoy⟩
            obtain ⟨j, hj, e⟩ := (h29 y).mpr ((hRF y).mpr hy)
            refine ⟨j, hj, ?_⟩
            rw [e, e26]
            exact (hO y (Rch_sym hD (Or.inl rfl) hix hgi hy).1).mpr hoy
        rw [hown]
        have f3 : m2 45 3 = sumN A i.toNat := by rw [e45]; exact h3
        have f4 : m2 45 4 = sumN B i.toNat := by rw [e45]; exact h4
        have f3f : fld m2 45 3 = sumN A i.toNat := f3
        have f4f : fld m2 45 4 = sumN B i.toNat := f4
        rintro _ m3 ⟨⟨hh, rfl⟩ | ⟨hh, rfl⟩, rfl⟩
        · refine And.intro (fun h => absurd h (by decide)) (fun _ => ?_)
          refine ⟨by constructor <;> omega, ?_⟩
          refine kW_go ok_X4_partPlane [1] 20 ?_
          refine ⟨by constructor <;> omega, ih (i + 1) (mset m3 45 3 (m3 45 3 + 1)) _ (by omega) (by omega) (fun o a b e => by rw [k_mset_ne e]; exact f2' o a b e) (fun x hx => by rw [k_mset_ne (by decide)]; exact hv2 x hx) ?_ ?_⟩
          · rw [k_mset_at, if_pos rfl, sumN_s A hix.1, f3, hA, iv_t ⟨hleP, hh⟩]
          · rw [k_mset_at, if_neg (by decide), sumN_s B hix.1, f4, hBd, iv_f (fun q => q.2 hh), Int.add_zero]
        · refine And.intro (fun _ => ?_) (fun h => absurd rfl h)
          refine ⟨by constructor <;> omega, ?_⟩
          refine kW_go ok_X4_partPlane [1] 20 ?_
          refine ⟨by constructor <;> omega, ih (i + 1) (mset m3 45 4 (m3 45 4 + 1)) _ (by omega) (by omega) (fun o a b e => by rw [k_mset_ne e]; exact f2' o a b e) (fun x hx => by rw [k_mset_ne (by decide)]; exact hv2 x hx) ?_ ?_⟩
          · rw [k_mset_at, if_neg (by decide), sumN_s A hix.1, f3, hA, iv_f (fun q => hh q.2), Int.add_zero]
          · rw [k_mset_at, if_pos rfl, sumN_s B hix.1, f4, hBd, iv_t ⟨hleP, hh⟩]
  refine kW_go ok_X4_partPlane [1] 20 ?_
  refine kCall_mono (c_fill (eX X) _ 28 (nC X) 0 (by decide) rfl (by omega)) (Nat.le_of_ble_eq_true rfl) ?_
  rintro _ m2 ⟨rfl, rfl⟩
  obtain ⟨m2, hm2⟩ : ∃ m2, m2 = mfill (mset (mset m 45 3 0) 45 4 0) 28 0 ((nC X : Nat) : Int) 0 := ⟨_, rfl⟩
  have fm : ∀ o, o ≠ 28 → o ≠ 45 → m2 o = m o := fun o a b => by rw [hm2, mfill_ne a, k_mset_ne b, k_mset_ne b]
  have hgo := loop F.toNat (z * F) m2 none (by omega) (by omega) (fun o a b e => fm o a e) (fun x hx => ?_) ?_ ?_
  · rw [hm2] at hgo
    show inR (z * fld _ 1 3) ∧ _
    have g3' : fld (mfill (mset (mset m 45 3 0) 45 4 0) 28 0 ((nC X : Nat) : Int) 0) 1 3 = F := by
      rw [← hm2]
      show m2 1 3 = F
      rw [fm 1 (by decide) (by decide)]
      exact g3
    refine ⟨?_, ?_⟩
    · have : inR (z * F) := by constructor <;> omega
      rw [← g3'] at this
      exact this
    · rw [← g3'] at hgo
      exact hgo
  · rw [hm2, mfill_at, if_pos ⟨hx.1, by have := hx.2; omega⟩]
    refine ⟨fun q => absurd rfl q, fun ⟨y, a, b, g, _⟩ => ?_⟩
    have := (hlay y b).mp (hGz y g)
    omega
  · rw [hA0, hm2, mfill_ne (by decide), k_mset_at, if_neg (by decide), k_mset_at, if_pos rfl]
  · rw [hB0, hm2, mfill_ne (by decide), k_mset_at, if_pos rfl]
