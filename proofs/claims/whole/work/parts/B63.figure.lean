/-! PLANE alike -/
def plG (w d l : Int) (c : Mem) (n z x : Int) : Prop := inC w d l x ∧ plF w d l c n z x
noncomputable def figA (w d l : Int) (N : Nat) (c : Mem) (n z a : Int) : Int :=
  if a = 0 then sumN (fun x => iv (plG w d l c n z x) 1) N else if a = 1 then ptN w d l N (plG w d l c n z) (cuN c n) else if a = 2 then isN w d l N (plG w d l c n z) (cuN c n) else
    sumN (fun x => iv (plG w d l c n z x ∧ ¬ cuN c n x ∧ ptN w d l N (plG w d l c n z) (cuN c n) < ptN w d l N (fun y => plG w d l c n z y ∧ y ≠ x) (cuN c n)) 1) N
theorem ptN_in {w d l : Int} {N : Nat} {G O : Int → Prop} : (0 ≤ ptN w d l N G O ∧ ptN w d l N G O ≤ 1 * N) ∧ 0 ≤ isN w d l N G O ∧ isN w d l N G O ≤ 1 * N := ⟨sumN_01 (fun _ => iv_in ⟨by decide, by decide⟩) N, sumN_01 (fun _ => iv_in ⟨by decide, by decide⟩) N⟩
theorem ptN_cg {w d l : Int} {N : Nat} {G G' O : Int → Prop} (h : ∀ x, G x ↔ G' x) : ptN w d l N G O = ptN w d l N G' O := by
  rw [show G = G' from funext (fun x => propext (h x))]
theorem sum_plane {w d l z : Int} (hD : okD w d l) {N : Nat} (hN : w * d * l = (N : Int)) (hz : 0 ≤ z ∧ z < l) {P : Int → Prop} (hP : ∀ x, P x → inC w d l x ∧ gZ w d x = z) : sumN (fun i => iv (inRf w d l (81 * z + i) ∧ P (cC w d (81 * z + i))) 1) 81 = sumN (fun x => iv (P x) 1) N := by
  obtain ⟨⟨w1, w2⟩, ⟨d1, d2⟩, l1, l2⟩ := id hD
  rw [sum_lay hD (fun r => iv (inRf w d l r ∧ P (cC w d r)) 1) hz (fun r _ hni => iv_f (fun q => hni q.1)), sum_layer hD hN hz (fun x => iv (P x) 1) (fun x _ hne => iv_f (fun q => hne (hP x q).2))]
  refine sumN_cong (fun q a b => ?_)
  have hx : inC w d l (z * (w * d) + q) := by
    have h0z : 0 ≤ z * (w * d) := Int.mul_nonneg hz.1 (Int.mul_nonneg (by omega) (by omega))
    have hle : (z + 1) * (w * d) ≤ l * (w * d) := Int.mul_le_mul_of_nonneg_right (by omega) (Int.mul_nonneg (by omega) (by omega))
    rw [Int.add_mul, Int.one_mul, Int.mul_comm l] at hle
    exact ⟨by omega, by omega⟩
  have hin := cR_in hD hx
  refine iv_cong ?_
  rw [hin.2]
  exact ⟨fun q => q.2, fun q => ⟨hin.1, q⟩⟩
set_option maxRecDepth 100000 in
theorem c_X4_necks (X : Xv) (m : Mem) {w d l : Int} {G O : Int → Prop} (hB : Bd X w d l m) (z : Int) (hz : 0 ≤ z ∧ z < l) (hG : ∀ x, inC w d l x → (m 27 x ≠ 0 ↔ G x)) (hO : ∀ x, inC w d l x → (m 26 x ≠ 0 ↔ O x)) (hGz : ∀ x, G x → inC w d l x ∧ gZ w d x = z) (h3 : m 45 3 = ptN w d l (nC X) G O) : kCall (eX X) 3 M_X4_necks.1 [vR 45, vI z] m (fun r m' => r = some (vI (sumN (fun x => iv (G x ∧ ¬ O x ∧ ptN w d l (nC X) G O < ptN w d l (nC X) (fun y => G y ∧ y ≠ x) O) 1) (nC X))) ∧ ∀ o, o ≠ 27 → o ≠ 28 → o ≠ 29 → o ≠ 45 → m' o = m o) := by
  obtain ⟨hD, hN, hG0⟩ := id hB
  have hc4 := okD_cells hD
  obtain ⟨⟨w1, w2⟩, ⟨d1, d2⟩, l1, l2⟩ := id hD
  obtain ⟨F, hF⟩ : ∃ F, F = w * d := ⟨_, rfl⟩
  have hFp : 0 < F := by rw [hF]; exact Int.mul_pos (by omega) (by omega)
  have e1 : (z + 1) * F = z * F + F := by rw [Int.add_mul, Int.one_mul]
  have h0z : 0 ≤ z * F := Int.mul_nonneg hz.1 (by omega)
  have hle : (z + 1) * F ≤ (nC X : Int) := by
    rw [← hN, ← hF, Int.mul_comm F l]
    exact Int.mul_le_mul_of_nonneg_right (by omega) (by omega)
  have g3 : m 1 3 = F := by rw [hG0.2.2.2.1, hF]
  have hlay : ∀ x, G x → z * F ≤ x ∧ x < (z + 1) * F := by
    intro x hg
    have e := (hGz x hg).2
    unfold gZ at e
    rw [← hF] at e
    have h1 := Int.ediv_mul_le x (show F ≠ 0 by omega)
    have h2 := Int.lt_ediv_add_one_mul_self x hFp
    rw [e] at h1 h2
    exact ⟨h1, h2⟩
  obtain ⟨P0, hP0⟩ : ∃ P0, P0 = ptN w d l (nC X) G O := ⟨_, rfl⟩
  rw [← hP0] at h3 ⊢
  obtain ⟨A, hA⟩ : ∃ A : Int → Int, ∀ x, A x = iv (G x ∧ ¬ O x ∧ P0 < ptN w d l (nC X) (fun y => G y ∧ y ≠ x) O) 1 := ⟨_, fun _ => rfl⟩
  have bA : ∀ k : Nat, 0 ≤ sumN A k ∧ sumN A k ≤ 1 * k := fun k => sumN_01 (fun x => by rw [hA]; exact iv_in ⟨by decide, by decide⟩) k
  have hsA : sumN A ((z + 1) * F).toNat = sumN (fun x => iv (G x ∧ ¬ O x ∧ P0 < ptN w d l (nC X) (fun y => G y ∧ y ≠ x) O) 1) (nC X) := by
    rw [sumN_cong (f := A) (fun x _ _ => hA x)]
    exact (sum_cut (by omega) (fun i a b => iv_f (fun q => by have := hlay i q.1; omega))).symm
  have hA0 : sumN A (z * F).toNat = 0 := sumN_z (fun i a b => by rw [hA]; exact iv_f (fun q => by have := hlay i q.1; omega))
  refine kCall_ofT ok_X4_necks rfl (Nat.le_of_ble_eq_true rfl) (fun T hT => ?_)
  have loop : ∀ (k : Nat) (i : Int) (mm : Mem), i + k = (z + 1) * F → z * F ≤ i → (∀ o, o ≠ 27 → o ≠ 28 → o ≠ 29 → o ≠ 45 → mm o = m o) → (∀ x, inC w d l x → (mm 27 x ≠ 0 ↔ G x)) → kW (eX X) 2 M_X4_necks T 1 [some (vR 45), some (vI z), some (vI P0), some (vI (sumN A i.toNat)), some (vI i)] [] mm := by
    intro k
    induction k with
    | zero =>
      intro i mm hk h0 hf hg
      have hi : i = (z + 1) * F := by omega
      have g3' : mm 1 3 = F := by rw [hf 1 (by decide) (by decide) (by decide) (by decide)]; exact g3
      refine kW_go ok_X4_necks [1] 20 ?_
      show inR (z + 1) ∧ inR ((z + 1) * mm 1 3) ∧ ((z + 1) * mm 1 3 ≤ i → T (some (vI (sumN A i.toNat))) mm) ∧ (i < (z + 1) * mm 1 3 → _)
      rw [g3']
      exact ⟨by constructor <;> omega, by constructor <;> omega, fun _ => hT _ _ ⟨by rw [hi, hsA], hf⟩, fun h => absurd h (by omega)⟩
    | succ k ih =>
      intro i mm hk h0 hf hg
      have hib : 0 ≤ i ∧ i < (nC X : Int) := by omega
      have hix : inC w d l i := ⟨by omega, by omega⟩
      have g3' : mm 1 3 = F := by rw [hf 1 (by decide) (by decide) (by decide) (by decide)]; exact g3
      have e26 : mm 26 = m 26 := hf 26 (by decide) (by decide) (by decide) (by decide)
      have b1 := bA i.toNat
      have hnext : ∀ (v : Int) (m2 : Mem), v = A i → (∀ o, o ≠ 27 → o ≠ 28 → o ≠ 29 → o ≠ 45 → m2 o = m o) → (∀ x, inC w d l x → (m2 27 x ≠ 0 ↔ G x)) → inR (i + 1) ∧ kW (eX X) 2 M_X4_necks T 1 [some (vR 45), some (vI z), some (vI P0), some (vI (sumN A i.toNat + v)), some (vI (i + 1))] [] m2 := by
        intro v m2 hv hf2 hg2
        have := ih (i + 1) m2 (by omega) (by omega) hf2 hg2
        rw [sumN_s A hix.1, ← hv] at this
        exact ⟨by constructor <;> omega, this⟩
      have hskip : ¬ (G i ∧ ¬ O i) → kW (eX X) 2 M_X4_necks T 4 [some (vR 45), some (vI z), some (vI P0), some (vI (sumN A i.toNat)), some (vI i)] [] mm := by
        intro hn
        refine kW_go ok_X4_necks [1] 20 ?_
        have := hnext 0 mm (by rw [hA, iv_f (fun q => hn ⟨q.1, q.2.1⟩)]) hf hg
        rw [Int.add_zero] at this
        exact this
      refine kW_go ok_X4_necks [1, 3, 4] 20 ?_
      show inR (z + 1) ∧ inR ((z + 1) * mm 1 3) ∧ ((z + 1) * mm 1 3 ≤ i → _) ∧ (i < (z + 1) * mm 1 3 → (0 ≤ i ∧ i < (nC X : Int)) ∧ ((mm 27 i = 0 → kW (eX X) 2 M_X4_necks T 4 [some (vR 45), some (vI z), some (vI P0), some (vI (sumN A i.toNat)), some (vI i)] [] mm) ∧ (¬ mm 27 i = 0 → (0 ≤ i ∧ i < (nC X : Int)) ∧ ((¬ mm 26 i = 0 → kW (eX X) 2 M_X4_necks T 4 [some (vR 45), some (vI z), some (vI P0), some (vI (sumN A i.toNat)), some (vI i)] [] mm) ∧ (mm 26 i = 0 → (0 ≤ i ∧ i < (nC X : Int)) ∧ _)))))
      rw [g3']
      refine ⟨by constructor <;> omega, by constructor <;> omega, fun h => absurd h (by omega), fun _ => ⟨hib, fun hfr => hskip (fun q => (hg i hix).mpr q.1 hfr), fun hfr => ⟨hib, fun hre => hskip (fun q => q.2 ((hO i hix).mp (by rw [← e26]; exact hre))), fun hre => ⟨hib, ?_⟩⟩⟩⟩
      have hgi : G i := (hg i hix).mp hfr
      have hoi : ¬ O i := fun q => (hO i hix).mpr q (by rw [← e26]; exact hre)
      obtain ⟨m1, hm1⟩ : ∃ m1, m1 = mset mm 27 i 0 := ⟨_, rfl⟩
      have f1 : ∀ o, o ≠ 27 → m1 o = mm o := fun o ho => by rw [hm1]; exact k_mset_ne ho
      have hB1 : Bd X w d l m1 := Bd_same hB (fun o a b => by rw [f1 o (by omega)]; exact hf o (by omega) (by omega) (by omega) (by omega))
      have hpp := c_X4_partPlane X m1 (G := fun y => G y ∧ y ≠ i) (O := O) hB1 z hz (fun x hx => by
        rw [hm1, k_mset_at]
        by_cases e : x = i
        · rw [if_pos e]; exact ⟨fun q => absurd rfl q, fun q => absurd e q.2⟩
        · rw [if_neg e, hg x hx]; exact ⟨fun q => ⟨q, e⟩, fun q => q.1⟩) (fun x hx => by rw [f1 26 (by decide), e26]; exact hO x hx) (fun x q => (hGz x q.1).2)
      rw [hm1] at hpp
      refine kCall_mono hpp (Nat.le_of_ble_eq_true rfl) ?_
      rw [← hm1]
      rintro _ m2 ⟨rfl, f2, h45, -⟩
      have f2' : ∀ o, o ≠ 27 → o ≠ 28 → o ≠ 29 → o ≠ 45 → mset m2 27 i 1 o = m o := fun o a b e g => by rw [k_mset_ne a, f2 o b e g, f1 o a]; exact hf o a b e g
      have hg2 : ∀ x, inC w d l x → (mset m2 27 i 1 27 x ≠ 0 ↔ G x) := by
        intro x hx
        rw [k_mset_at]
        by_cases e : x = i
        · rw [if_pos e, e]; exact ⟨fun _ => hgi, fun _ => by decide⟩
        · rw [if_neg e, f2 27 (by decide) (by decide) (by decide), hm1, k_mset_at, if_neg e]
          exact hg x hx
      have h45' : m2 45 3 = ptN w d l (nC X) (fun y => G y ∧ y ≠ i) O := h45
      have three : ∀ v : Int, v = A i → kW (eX X) 2 M_X4_necks T 3 [some (vR 45), some (vI z), some (vI P0), some (vI (sumN A i.toNat)), some (vI i)] [vI v, vI (sumN A i.toNat)] (mset m2 27 i 1) := by
        intro v hv
        have hvb : 0 ≤ v ∧ v ≤ 1 := by rw [hv, hA]; exact iv_in ⟨by decide, by decide⟩
        refine kW_go ok_X4_necks [1] 20 ?_
        exact ⟨by constructor <;> omega, hnext v _ hv f2' hg2⟩
      refine ⟨hib, And.intro (fun h => three 0 ?_) (fun h => three 1 ?_)⟩
      · have h : m2 45 3 ≤ P0 := h
        rw [h45'] at h
        rw [hA, iv_f (fun q => by have := q.2.2; omega)]
      · have h : P0 < m2 45 3 := h
        rw [h45'] at h
        rw [hA, iv_t ⟨hgi, hoi, h⟩]
  have hgo := loop F.toNat (z * F) m (by omega) (by omega) (fun _ _ _ _ _ => rfl) hG
  rw [hA0] at hgo
  refine kW_go ok_X4_necks [1] 20 ?_
  show inR (z * m 1 3) ∧ kW (eX X) 2 M_X4_necks T 1 [some (vR 45), some (vI z), some (vI (m 45 3)), some (vI 0), some (vI (z * m 1 3))] [] m
  rw [g3, h3]
  exact ⟨by constructor <;> omega, hgo⟩
set_option maxRecDepth 100000 in
theorem c_X4_figure (X : Xv) (m : Mem) {w d l : Int} (hB : Bd X w d l m) (hM : WM w d l m) (n z a : Int) (hnn : 0 ≤ n ∧ n < m 9 14) (hz : 0 ≤ z ∧ z < l) (ha : 0 ≤ a ∧ a ≤ 3) : kCall (eX X) 4 M_X4_figure.1 [vR 45, vI n, vI z, vI a] m (fun r m' => r = some (vI (figA w d l (nC X) m n z a)) ∧ ∀ o, o < 22 ∨ (29 < o ∧ o ≠ 45) → m' o = m o) := by
  obtain ⟨hD, hN, hG0⟩ := id hB
  have hc4 := okD_cells hD
  have hs := WFs_srt hM.1
  have h8 := hM.1.2.1
  refine kCall_ofT ok_X4_figure rfl (Nat.le_of_ble_eq_true rfl) (fun T hT => ?_)
  refine kW_go ok_X4_figure [1] 20 ?_
  refine kCall_mono (kCall_in (c_X6_look X m hD hN hG0 hs n 1 hnn)) (Nat.le_of_ble_eq_true rfl) ?_
  rintro _ m1 ⟨⟨rfl, hf, h22, h26, hb⟩, hin⟩
  have hf1 : ∀ o, o < 22 ∨ 26 < o → m1 o = m o := fun o ho => hf o (by omega) (by omega) (by omega) (by omega) (by omega)
  have hlk : looked w d l X m m1 n 1 := ⟨h22.1, h26, hb⟩
  refine kCall_mono (c_X6_markPlane X m m1 hB hM n z hnn (fun o ho => hf1 o (by omega)) hlk hin) (Nat.le_of_ble_eq_true rfl) ?_
  rintro _ m2 ⟨rfl, f2, h27⟩
  have hf2 : ∀ o, o < 22 ∨ 27 < o → m2 o = m o := fun o ho => by rw [f2 o (by omega)]; exact hf1 o (by omega)
  have hB2 : Bd X w d l m2 := Bd_same hB (fun o x y => hf2 o (by omega))
  have hG : ∀ x, inC w d l x → (m2 27 x ≠ 0 ↔ plG w d l m n z x) := by
    intro x hx
    by_cases hq : plF w d l m n z x
    · rw [(h27 x hx).1 hq]; exact ⟨fun _ => ⟨hx, hq⟩, fun _ => by decide⟩
    · rw [(h27 x hx).2 hq]; exact ⟨fun q => absurd rfl q, fun q => absurd q.2 hq⟩
  have hO : ∀ x, inC w d l x → (m2 26 x ≠ 0 ↔ cuN m n x) := by
    intro x hx
    rw [f2 26 (by decide), looked_own (by omega) hlk hx]
    unfold cuT cuN
    exact or_congr_right ⟨fun q => q.2, fun q => ⟨(show (1 : Int) ≠ 0 by decide), q⟩⟩
  have hdone : ∀ v m', v = figA w d l (nC X) m n z a → (∀ o, o < 22 ∨ (29 < o ∧ o ≠ 45) → m' o = m o) → T (some (vI v)) m' := fun v m' hv hf' => hT _ _ ⟨by rw [hv], hf'⟩
  refine And.intro (fun h0 => ?_) (fun h0 => ?_)
  · have h0 : ¬ a = 0 := h0
    refine kCall_mono (c_X4_partPlane X m2 hB2 z hz hG hO (fun x q => q.2.1)) (Nat.le_of_ble_eq_true rfl) ?_
    rintro _ m3 ⟨rfl, f3, h3, h4⟩
    have hf3 : ∀ o, o < 22 ∨ (29 < o ∧ o ≠ 45) → m3 o = m o := fun o ho => by rw [f3 o (by omega) (by omega) (by omega)]; exact hf2 o (by omega)
    refine And.intro (fun h1 => And.intro (fun h2 => ?_) (fun h2 => hdone _ _ ?_ hf3)) (fun h1 => hdone _ _ ?_ hf3)
    · have hB3 : Bd X w d l m3 := Bd_same hB (fun o x y => hf3 o (by omega))
      refine kCall_mono (c_X4_necks X m3 hB3 z hz (fun x hx => by rw [f3 27 (by decide) (by decide) (by decide)]; exact hG x hx) (fun x hx => by rw [f3 26 (by decide) (by decide) (by decide)]; exact hO x hx) (fun x q => ⟨q.1, q.2.1⟩) h3) (Nat.le_of_ble_eq_true rfl) ?_
      rintro _ m4 ⟨rfl, f4⟩
      refine hdone _ _ ?_ (fun o ho => by rw [f4 o (by omega) (by omega) (by omega) (by omega)]; exact hf3 o ho)
      unfold figA
      rw [if_neg h0, if_neg h1, if_neg h2]
    · unfold figA
      rw [if_neg h0, if_neg h1, if_pos h2]
      exact h4
    · unfold figA
      rw [if_neg h0, if_pos h1]
      exact h3
  · have h0 : a = 0 := h0
    have g4 : m2 1 4 = (nC X : Int) := by rw [hB2.2.2.2.2.2.2.1, hN]
    obtain ⟨A, hA⟩ : ∃ A : Int → Int, ∀ x, A x = iv (plG w d l m n z x) 1 := ⟨_, fun _ => rfl⟩
    have bA : ∀ k : Nat, 0 ≤ sumN A k ∧ sumN A k ≤ 1 * k := fun k => sumN_01 (fun x => by rw [hA]; exact iv_in ⟨by decide, by decide⟩) k
    have loop : ∀ (k : Nat) (i : Int), i + k = (nC X : Int) → 0 ≤ i → kW (eX X) 3 M_X4_figure T 1 [some (vR 45), some (vI n), some (vI z), some (vI a), some (vI (sumN A i.toNat)), some (vI i)] [] m2 := by
      intro k
      induction k with
      | zero =>
        intro i hk hi0
        refine kW_go ok_X4_figure [1] 20 ?_
        refine And.intro (fun _ => hdone _ _ ?_ (fun o ho => hf2 o (by omega))) (fun h => ?_)
        · unfold figA
          rw [if_pos h0, show i.toNat = nC X by omega]
          exact sumN_cong (fun x _ _ => hA x)
        · have h : i < m2 1 4 := h
          omega
      | succ k ih =>
        intro i hk hi0
        have hib : 0 ≤ i ∧ i < (nC X : Int) := by omega
        have hix : inC w d l i := ⟨hi0, by omega⟩
        have b1 := bA i.toNat
        have e : m2 27 i = A i := by
          rw [hA]
          by_cases hq : plF w d l m n z i
          · rw [(h27 i hix).1 hq, iv_t ⟨hix, hq⟩]
          · rw [(h27 i hix).2 hq, iv_f (fun q => hq q.2)]
        have hbi : 0 ≤ A i ∧ A i ≤ 1 := by rw [hA]; exact iv_in ⟨by decide, by decide⟩
        have hnext := ih (i + 1) (by omega) (by omega)
        rw [sumN_s A hi0, ← e] at hnext
        refine kW_go ok_X4_figure [1] 20 ?_
        refine And.intro (fun h => ?_) (fun _ => ⟨hib, by constructor <;> omega, by constructor <;> omega, hnext⟩)
        have h : m2 1 4 ≤ i := h
        omega
    exact loop (nC X) 0 (by omega) (by omega)
