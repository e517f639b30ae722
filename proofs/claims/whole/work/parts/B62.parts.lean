/-! PLANE: how many parts the reference counts -/
theorem sum_layer {w d l z : Int} (hD : okD w d l) {N : Nat} (hN : w * d * l = (N : Int)) (hz : 0 ≤ z ∧ z < l) (f : Int → Int) (h0 : ∀ x, inC w d l x → gZ w d x ≠ z → f x = 0) : sumN f N = sumN (fun q => f (z * (w * d) + q)) (w * d).toNat := by
  obtain ⟨⟨w1, w2⟩, ⟨d1, d2⟩, l1, l2⟩ := id hD
  obtain ⟨F, hF⟩ : ∃ F, F = w * d := ⟨_, rfl⟩
  have hFp : 0 < F := by rw [hF]; exact Int.mul_pos (by omega) (by omega)
  have e1 : (z + 1) * F = z * F + F := by rw [Int.add_mul, Int.one_mul]
  have h0z : 0 ≤ z * F := Int.mul_nonneg hz.1 (by omega)
  have hle : (z + 1) * F ≤ (N : Int) := by
    rw [← hN, ← hF, Int.mul_comm F l]
    exact Int.mul_le_mul_of_nonneg_right (by omega) (by omega)
  have hlay : ∀ x, inC w d l x → ¬ (z * F ≤ x ∧ x < (z + 1) * F) → f x = 0 := by
    intro x hx hn
    refine h0 x hx (fun e => hn ?_)
    unfold gZ at e
    rw [← hF] at e
    have h1 := Int.ediv_mul_le x (show F ≠ 0 by omega)
    have h2 := Int.lt_ediv_add_one_mul_self x hFp
    rw [e] at h1 h2
    exact ⟨h1, h2⟩
  rw [← hF, sum_cut (f := f) (k := (z * F).toNat + F.toNat) (by omega) (fun i a b => hlay i ⟨by omega, by omega⟩ (by omega)), sumN_add, sumN_z (fun i a b => hlay i ⟨a, by omega⟩ (by omega)), Int.zero_add]
  refine sumN_cong (fun q a b => ?_)
  rw [show (((z * F).toNat : Nat) : Int) = z * F by omega]
set_option maxRecDepth 100000 in
theorem c_X12_parts (X : Xv) (c m : Mem) {w d l : Int} {G : Int → Prop} (hD : okD w d l) (hN : w * d * l = (nC X : Int)) (hR : RR w d l c m) (n z g b : Int) (hn : 0 ≤ n ∧ n < 8) (hz : 0 ≤ z ∧ z < l) (hb : b = 0 ∨ b = 1) (hG : ∀ x, inC w d l x → gZ w d x = z → ((m 85 (jO w d z x) ≠ 0 ∧ jO w d z x ≠ g) ↔ G x)) (hoff : ∀ i : Int, (0 ≤ i ∧ i < 81) → ¬ inRf w d l (81 * z + i) → m 85 i = 0) (hGz : ∀ x, G x → inC w d l x ∧ gZ w d x = z) : kCall (eX X) 5 M_X12_parts.1 [vR 54, vI n, vI z, vI g, vI b] m (fun r m' => r = some (vI (if b = 1 then ptN w d l (nC X) G (cuN c n) else isN w d l (nC X) G (cuN c n))) ∧ ∀ o, o ≠ 86 → m' o = m o) := by
  obtain ⟨⟨w1, w2⟩, ⟨d1, d2⟩, l1, l2⟩ := id hD
  obtain ⟨ans, hans⟩ : ∃ ans, ans = (if b = 1 then ptN w d l (nC X) G (cuN c n) else isN w d l (nC X) G (cuN c n)) := ⟨_, rfl⟩
  rw [← hans]
  refine kCall_ofT ok_X12_parts rfl (Nat.le_of_ble_eq_true rfl) (fun T hT => ?_)
  -- a cell of the layer at a number of the reference
  have hcell : ∀ i : Int, (0 ≤ i ∧ i < 81) → inRf w d l (81 * z + i) → inC w d l (cC w d (81 * z + i)) ∧ gZ w d (cC w d (81 * z + i)) = z ∧ jO w d z (cC w d (81 * z + i)) = i := by
    intro i hi h
    obtain ⟨a, b⟩ := cC_in h
    have h3 := (cR_geo hD a).2.2.2
    rw [b] at h3
    exact ⟨a, by omega, by unfold jO; rw [b]; omega⟩
  have hst : ∀ {x y}, G x → Rch (stR w d l G 4) x y → inC w d l y ∧ G y ∧ gZ w d y = z ∧ Rch (stR w d l G 4) y x := by
    intro x y hx h
    obtain ⟨a, b, e⟩ := Rch_sym hD (Or.inl rfl) (hGz x hx).1 hx h
    exact ⟨a, b, (hGz y b).2, e⟩
  obtain ⟨K, hK⟩ : ∃ K : Mem → Prop, ∀ mm, K mm ↔ ((∀ o, o ≠ 86 → mm o = m o) ∧ (∀ j : Int, (0 ≤ j ∧ j < 81) → -1 ≤ mm 86 j ∧ mm 86 j ≤ 80) ∧ (∀ j : Int, (0 ≤ j ∧ j < 81) → mm 86 j ≠ -1 → inRf w d l (81 * z + j) ∧ G (cC w d (81 * z + j))) ∧ ∀ x, G x → mm 86 (jO w d z x) ≤ jO w d z x ∧ ∃ y, Rch (stR w d l G 4) x y ∧ mm 86 (jO w d z x) = jO w d z y) := ⟨_, fun _ => Iff.rfl⟩
  have hRm : ∀ mm, K mm → RR w d l c mm := fun mm h => RR_ref (fun o a e => ((hK mm).mp h).1 o (by omega)) hR
  -- counting
  have count : ∀ mm, K mm → (∀ x y k, G x → (0 ≤ k ∧ k < 4) → nx w d l x k = y → y ≠ -1 → G y → mm 86 (jO w d z x) ≤ mm 86 (jO w d z y)) → kW (eX X) 4 M_X12_parts T 11 [some (vR 54), some (vI n), some (vI z), some (vI g), some (vI b), some (vI 0), some (vI 81), none, none, none] [] mm := by
    intro mm hk hcl
    obtain ⟨k1, k2, k3, k4⟩ := (hK mm).mp hk
    have hRmm := hRm mm hk
    have hle : ∀ x y, G x → Rch (stR w d l G 4) x y → mm 86 (jO w d z x) ≤ mm 86 (jO w d z y) := by
      intro x y hx h
      refine (Rch_ind (P := fun e => G e ∧ mm 86 (jO w d z x) ≤ mm 86 (jO w d z e)) ?_ ⟨hx, Int.le_refl _⟩ h).2
      rintro a e ⟨ga, ha⟩ ⟨k, hk', hn', hne, ge⟩
      have := hcl a e k ga hk' hn' hne ge
      exact ⟨ge, by omega⟩
    have heq : ∀ x y, G x → Rch (stR w d l G 4) x y → mm 86 (jO w d z x) = mm 86 (jO w d z y) := by
      intro x y hx h
      obtain ⟨-, hy, -, h'⟩ := hst hx h
      have := hle x y hx h
      have := hle y x hy h'
      omega
    have hlab : ∀ x y, G x → G y → (mm 86 (jO w d z y) = jO w d z x → Rch (stR w d l G 4) x y) := by
      intro x y hx hy h
      obtain ⟨-, y', hr, e⟩ := k4 y hy
      obtain ⟨a1, a2, a3, a4⟩ := hst hy hr
      have : y' = x := by
        have hx' := hGz x hx
        have h1 := jO_in hD a1 a3
        have h2 := jO_in hD hx'.1 hx'.2
        exact cR_inj hD a1 hx'.1 (by rw [h1.2, h2.2]; omega)
      rw [this] at a4
      exact a4
    have hleast : ∀ x, G x → (mm 86 (jO w d z x) = jO w d z x ↔ leP w d l G x) := by
      intro x hx
      have hxz := hGz x hx
      constructor
      · intro h
        refine ⟨hx, fun y hy => ?_⟩
        obtain ⟨a1, a2, a3, -⟩ := hst hx hy
        have h1 := (k4 y a2).1
        rw [← heq x y hx hy, h] at h1
        exact (jO_le hD hxz.1 a1 hxz.2 a3).mp h1
      · intro h
        obtain ⟨h1, y, hr, e⟩ := k4 x hx
        obtain ⟨a1, a2, a3, -⟩ := hst hx hr
        have := (jO_le hD hxz.1 a1 hxz.2 a3).mpr (h.2 y hr)
        omega
    obtain ⟨A, hA⟩ : ∃ A : Int → Int, ∀ r, A r = iv (inRf w d l r ∧ leP w d l G (cC w d r) ∧ (ownP w d l G (cuN c n) (cC w d r) ↔ b = 1)) 1 := ⟨_, fun _ => rfl⟩
    have bA : ∀ k : Nat, 0 ≤ sumN (fun k => A (81 * z + k)) k ∧ sumN (fun k => A (81 * z + k)) k ≤ 1 * k := fun k => sumN_01 (fun x => by
      show 0 ≤ A (81 * z + x) ∧ A (81 * z + x) ≤ 1
      rw [hA]; exact iv_in ⟨by decide, by decide⟩) k
    have hsum : sumN (fun k => A (81 * z + k)) 81 = ans := by
      rw [sum_lay hD A hz (fun r _ hni => by rw [hA]; exact iv_f (fun q => hni q.1))]
      have hg : ∀ q : Int, (0 ≤ q ∧ q < w * d) → A (cR w d (z * (w * d) + q)) = iv (leP w d l G (z * (w * d) + q) ∧ (ownP w d l G (cuN c n) (z * (w * d) + q) ↔ b = 1)) 1 := by
        intro q hq
        have hx : inC w d l (z * (w * d) + q) := by
          have h0z : 0 ≤ z * (w * d) := Int.mul_nonneg hz.1 (by omega)
          have hle : (z + 1) * (w * d) ≤ l * (w * d) := Int.mul_le_mul_of_nonneg_right (by omega) (by omega)
          rw [Int.add_mul, Int.one_mul, Int.mul_comm l] at hle
          exact ⟨by omega, by omega⟩
        have hin := cR_in hD hx
        rw [hA]
        refine iv_cong ?_
        rw [hin.2]
        exact ⟨fun q => q.2, fun q => ⟨hin.1, q⟩⟩
      rw [sumN_cong (fun q a e => hg q ⟨a, by omega⟩), hans]
      have hlz : ∀ x, inC w d l x → gZ w d x ≠ z → ¬ leP w d l G x := fun x _ hne q => hne (hGz x q.1).2
      rcases hb with rfl | rfl
      · rw [if_neg (by decide)]
        unfold isN
        rw [sum_layer hD hN hz _ (fun x hx hne => iv_f (fun q => hlz x hx hne q.1))]
        refine sumN_cong (fun q _ _ => iv_cong (and_congr_right (fun _ => ?_)))
        exact ⟨fun q h => absurd (q.mp h) (by decide), fun q => ⟨fun h => absurd h q, fun h => absurd h (by decide)⟩⟩
      · rw [if_pos rfl]
        unfold ptN
        rw [sum_layer hD hN hz _ (fun x hx hne => iv_f (fun q => hlz x hx hne q.1))]
        refine sumN_cong (fun q _ _ => iv_cong (and_congr_right (fun _ => ?_)))
        exact ⟨fun q => q.mpr rfl, fun q => ⟨fun _ => rfl, fun _ => q⟩⟩
    have outer : ∀ (q : Nat) (i : Int) (x8 x9 : Option AV), i + q = 81 → 0 ≤ i → kW (eX X) 4 M_X12_parts T 12 [some (vR 54), some (vI n), some (vI z), some (vI g), some (vI b), some (vI 0), some (vI (sumN (fun k => A (81 * z + k)) i.toNat)), some (vI i), x8, x9] [] mm := by
      intro q
      induction q with
      | zero =>
        intro i x8 x9 hq h0
        have hi : i = 81 := by omega
        subst hi
        refine kW_go ok_X12_parts [12] 20 ?_
        refine And.intro (fun _ => hT _ _ ⟨?_, k1⟩) (fun h => absurd h (by decide))
        rw [show (81 : Int).toNat = 81 from rfl, hsum]
      | succ q ih =>
        intro i x8 x9 hq h0
        have hib : 0 ≤ i ∧ i < ((81 : Nat) : Int) := by omega
        have b1 := bA i.toNat
        have hr0 : inR (sumN (fun k => A (81 * z + k)) i.toNat + 0) := by constructor <;> omega
        have hr1 : inR (sumN (fun k => A (81 * z + k)) i.toNat + 1) := by constructor <;> omega
        have hnext : ∀ (v : Int) (x8 x9 : Option AV), v = A (81 * z + i) → kW (eX X) 4 M_X12_parts T 20 [some (vR 54), some (vI n), some (vI z), some (vI g), some (vI b), some (vI 0), some (vI (sumN (fun k => A (81 * z + k)) i.toNat + v)), some (vI i), x8, x9] [] mm := by
          intro v x8 x9 hv
          have := ih (i + 1) x8 x9 (by omega) (by omega)
          rw [sumN_s (fun k => A (81 * z + k)) h0, ← hv] at this
          refine kW_go ok_X12_parts [12] 20 ?_
          exact ⟨by constructor <;> omega, this⟩
        refine kW_go ok_X12_parts [12, 13, 20] 20 ?_
        refine And.intro (fun h => absurd h (by omega)) (fun _ => ⟨hib, And.intro (fun h => ?_) (fun h => ?_)⟩)
        · have h : ¬ mm 86 i = i := h
          have hz0 : A (81 * z + i) = 0 := by
            rw [hA]
            refine iv_f (fun q => h ?_)
            obtain ⟨c1, c2, c3⟩ := hcell i (by omega) q.1
            have := (hleast _ q.2.1.1).mpr q.2.1
            rw [c3] at this
            exact this
          have := hnext 0 x8 x9 hz0.symm
          rw [Int.add_zero] at this
          exact this
        · have h : mm 86 i = i := h
          have hne : mm 86 i ≠ -1 := by omega
          obtain ⟨hin, hgx⟩ := k3 i (by omega) hne
          obtain ⟨c1, c2, c3⟩ := hcell i (by omega) hin
          obtain ⟨x, hx⟩ : ∃ x, x = cC w d (81 * z + i) := ⟨_, rfl⟩
          rw [← hx] at c1 c2 c3 hgx
          have hleP : leP w d l G x := (hleast x hgx).mp (by rw [c3]; exact h)
          have inner : ∀ (r : Nat) (j o : Int), j + r = 81 → 0 ≤ j → (o = 0 ∨ o = 1) → (o ≠ 0 ↔ ∃ y, inC w d l y ∧ gZ w d y = z ∧ jO w d z y < j ∧ mm 86 (jO w d z y) = i ∧ cuN c n y) → kW (eX X) 4 M_X12_parts T 13 [some (vR 54), some (vI n), some (vI z), some (vI g), some (vI b), some (vI 0), some (vI (sumN (fun k => A (81 * z + k)) i.toNat)), some (vI i), some (vI o), some (vI j)] [] mm := by
            intro r
            induction r with
            | zero =>
              intro j o hr hj0 ho hoi
              have hj : j = 81 := by omega
              have hown : o ≠ 0 ↔ ownP w d l G (cuN c n) x := by
                rw [hoi]
                constructor
                · rintro ⟨y, a1, a2, a3, a4, a5⟩
                  have hgy : G y := by
                    have hjy := jO_in hD a1 a2
                    obtain ⟨q1, q2⟩ := k3 (jO w d z y) hjy.1 (by omega)
                    have : cC w d (81 * z + jO w d z y) = y := by rw [← hjy.2]; exact (cR_in hD a1).2
                    rw [this] at q2
                    exact q2
                  exact ⟨y, hlab x y hgx hgy (by rw [a4, c3]), a5⟩
                · rintro ⟨y, hy, hcu⟩
                  obtain ⟨a1, a2, a3, -⟩ := hst hgx hy
                  have := jO_in hD a1 a3
                  exact ⟨y, a1, a3, by omega, by rw [← heq x y hgx hy, c3]; exact h, hcu⟩
              have hAv : A (81 * z + i) = iv (o = b) 1 := by
                rw [hA, ← hx]
                refine iv_cong ?_
                constructor
                · rintro ⟨-, -, q⟩
                  rcases ho with rfl | rfl <;> rcases hb with rfl | rfl
                  · rfl
                  · exact absurd rfl (hown.mpr (q.mpr rfl))
                  · exact absurd (q.mp (hown.mp (by decide))) (by decide)
                  · rfl
                · intro e
                  refine ⟨hin, hleP, ?_⟩
                  rw [← hown, e]
                  rcases hb with rfl | rfl
                  · exact ⟨fun q => absurd rfl q, fun q => absurd q (by decide)⟩
                  · exact ⟨fun _ => rfl, fun _ => by decide⟩
              refine kW_go ok_X12_parts [20] 20 ?_
              refine And.intro (fun _ => And.intro (fun hne => ⟨hr0, hnext 0 _ _ ?_⟩) (fun he => ⟨hr1, hnext 1 _ _ ?_⟩)) (fun h => absurd h (by omega))
              · rw [hAv, iv_f hne]
              · rw [hAv, iv_t he]
            | succ r ihr =>
              intro j o hr hj0 ho hoi
              have hjb : 0 ≤ j ∧ j < ((81 : Nat) : Int) := by omega
              have hstep : ∀ u : Int, (u = 0 ∨ u = 1) → (u ≠ 0 ↔ o ≠ 0 ∨ ∃ y, inC w d l y ∧ gZ w d y = z ∧ jO w d z y = j ∧ mm 86 j = i ∧ cuN c n y) → inR (j + 1) ∧ kW (eX X) 4 M_X12_parts T 13 [some (vR 54), some (vI n), some (vI z), some (vI g), some (vI b), some (vI 0), some (vI (sumN (fun k => A (81 * z + k)) i.toNat)), some (vI i), some (vI u), some (vI (j + 1))] [] mm := by
                intro u hu hui
                refine ⟨by constructor <;> omega, ihr (j + 1) u (by omega) (by omega) hu ?_⟩
                rw [hui, hoi]
                constructor
                · rintro (⟨y, a1, a2, a3, a4⟩ | ⟨y, a1, a2, a3, a4, a5⟩)
                  · exact ⟨y, a1, a2, by omega, a4⟩
                  · exact ⟨y, a1, a2, by omega, by rw [a3]; exact a4, a5⟩
                · rintro ⟨y, a1, a2, a3, a4, a5⟩
                  by_cases e : jO w d z y = j
                  · exact Or.inr ⟨y, a1, a2, e, by rw [← e]; exact a4, a5⟩
                  · exact Or.inl ⟨y, a1, a2, by omega, a4, a5⟩
              have one : (o ≠ 0 ∨ ∃ y, inC w d l y ∧ gZ w d y = z ∧ jO w d z y = j ∧ mm 86 j = i ∧ cuN c n y) → _ := fun z => hstep 1 (Or.inr rfl) ⟨fun _ => z, fun _ => by decide⟩
              have nul : ¬ (o ≠ 0 ∨ ∃ y, inC w d l y ∧ gZ w d y = z ∧ jO w d z y = j ∧ mm 86 j = i ∧ cuN c n y) → _ := fun z => hstep 0 (Or.inl rfl) ⟨fun y => absurd rfl y, fun y => absurd y z⟩
              refine kW_go ok_X12_parts [13] 20 ?_
              refine And.intro (fun h => absurd h (by omega)) (fun _ => And.intro (fun h => one (Or.inl h)) (fun ho0 => ⟨hjb, And.intro (fun h2 => nul ?_) (fun h2 => ⟨by constructor <;> omega, by constructor <;> omega, ?_⟩)⟩))
              · have h2 : ¬ mm 86 j = i := h2
                have ho0 : o = 0 := ho0
                rintro (q | ⟨y, -, -, -, q, -⟩)
                · exact q ho0
                · exact h2 q
              · have h2 : mm 86 j = i := h2
                have ho0 : o = 0 := ho0
                obtain ⟨hjin, hgj⟩ := k3 j (by omega) (by omega)
                obtain ⟨d1', d2', d3'⟩ := hcell j (by omega) hjin
                have hhas := c_X12_has X mm n (81 * z + j) hn (by omega)
                refine kCall_mono hhas (Nat.le_of_ble_eq_true rfl) ?_
                have hcu := cuN_72 (hRmm.2.1 n hn) d1'
                rw [(cC_in hjin).2] at hcu
                rw [hcu]
                rintro _ m3 ⟨⟨hq, rfl⟩ | ⟨hq, rfl⟩, rfl⟩
                · exact And.intro (fun h => absurd h (by decide)) (fun _ => one (Or.inr ⟨_, d1', d2', d3', h2, hq⟩))
                · refine And.intro (fun _ => nul ?_) (fun h => absurd rfl h)
                  rintro (q | ⟨y, a1, a2, a3, -, a5⟩)
                  · exact q ho0
                  · have : y = cC w d (81 * z + j) := by
                      have hy := jO_in hD a1 a2
                      exact cR_inj hD a1 d1' (by rw [hy.2, (cC_in hjin).2, a3])
                    rw [this] at a5
                    exact hq a5
          exact inner 81 0 0 (by omega) (by omega) (Or.inl rfl) ⟨fun q => absurd rfl q, fun ⟨y, a1, a2, a3, _⟩ => by have := (jO_in hD a1 a2).1; omega⟩
    refine kW_go ok_X12_parts [12] 20 ?_
    exact outer 81 0 none none (by omega) (by omega)
  have bsum : ∀ mm, K mm → -81 ≤ sumN (mm 86) 81 := by
    intro mm hk
    have h := ((hK mm).mp hk).2.1
    have h1 : sumN (fun _ => (-1 : Int)) 81 ≤ sumN (mm 86) 81 := sumN_ge (fun i a e => (h i ⟨a, by omega⟩).1)
    have h2 : sumN (fun _ => (-1 : Int)) 81 = -81 := by decide
    omega
  have pass : ∀ (q : Nat) (i f : Int) (m0 mm : Mem), i + q = 81 → 0 ≤ i → K mm → ((f = 0 ∧ mm = m0 ∧ ∀ x, G x → jO w d z x < i → ∀ k : Int, (0 ≤ k ∧ k < 4) → nx w d l x k ≠ -1 → G (nx w d l x k) → mm 86 (jO w d z x) ≤ mm 86 (jO w d z (nx w d l x k))) ∨ (f = 1 ∧ sumN (mm 86) 81 < sumN (m0 86) 81)) → (∀ f' m', K m' → ((f' = 0 ∧ m' = m0 ∧ ∀ x, G x → ∀ k : Int, (0 ≤ k ∧ k < 4) → nx w d l x k ≠ -1 → G (nx w d l x k) → m' 86 (jO w d z x) ≤ m' 86 (jO w d z (nx w d l x k))) ∨ (f' = 1 ∧ sumN (m' 86) 81 < sumN (m0 86) 81)) → kW (eX X) 4 M_X12_parts T 5 [some (vR 54), some (vI n), some (vI z), some (vI g), some (vI b), some (vI f'), some (vI 81), none, none, none] [] m') → kW (eX X) 4 M_X12_parts T 6 [some (vR 54), some (vI n), some (vI z), some (vI g), some (vI b), some (vI f), some (vI i), none, none, none] [] mm := by
    intro q
    induction q with
    | zero =>
      intro i f m0 mm hq h0 hk hf hout
      have hi : i = 81 := by omega
      subst hi
      refine kW_go ok_X12_parts [5] 20 ?_
      refine And.intro (fun _ => hout f mm hk ?_) (fun h => absurd h (by decide))
      rcases hf with ⟨a, e, h⟩ | h
      · exact Or.inl ⟨a, e, fun x hx => h x hx (jO_in hD (hGz x hx).1 (hGz x hx).2).1.2⟩
      · exact Or.inr h
    | succ q ih =>
      intro i f m0 mm hq h0 hk hf hout
      have hib : 0 ≤ i ∧ i < 81 := by omega
      obtain ⟨k1, k2, k3, k4⟩ := (hK mm).mp hk
      have hdm : dimM mm w d l := (hRm mm hk).1.1
      have hfb : f = 0 ∨ f = 1 := by
        rcases hf with ⟨a, -⟩ | ⟨a, -⟩
        · exact Or.inl a
        · exact Or.inr a
      -- the cell changed nothing
      have hsame : (∀ x, G x → jO w d z x = i → ∀ k : Int, (0 ≤ k ∧ k < 4) → nx w d l x k ≠ -1 → G (nx w d l x k) → mm 86 (jO w d z x) ≤ mm 86 (jO w d z (nx w d l x k))) → inR (i + 1) ∧ kW (eX X) 4 M_X12_parts T 6 [some (vR 54), some (vI n), some (vI z), some (vI g), some (vI b), some (vI f), some (vI (i + 1)), none, none, none] [] mm := by
        intro hx
        refine ⟨by constructor <;> omega, ih (i + 1) f m0 mm (by omega) (by omega) hk ?_ hout⟩
        rcases hf with ⟨a, e, h⟩ | h
        · refine Or.inl ⟨a, e, fun x hgx hlt => ?_⟩
          by_cases hxi : jO w d z x = i
          · exact hx x hgx hxi
          · exact h x hgx (by omega)
        · exact Or.inr h
      refine kW_go ok_X12_parts [6, 9] 20 ?_
      refine And.intro (fun h => absurd h (by omega)) (fun _ => ?_)
      refine kCall_mono (c_X12_mingle X mm hdm hz i hib k2 (fun h => (k3 i hib h).1)) (Nat.le_of_ble_eq_true rfl) ?_
      have hkeep9 : ∀ v : Int, (v = 0 ∨ v = 1) → v = f → ∀ m2, m2 = mm → (∀ x, G x → jO w d z x = i → ∀ k : Int, (0 ≤ k ∧ k < 4) → nx w d l x k ≠ -1 → G (nx w d l x k) → mm 86 (jO w d z x) ≤ mm 86 (jO w d z (nx w d l x k))) → kW (eX X) 4 M_X12_parts T 9 [some (vR 54), some (vI n), some (vI z), some (vI g), some (vI b), some (vI f), some (vI i), none, none, none] [vI v] m2 := by
        rintro v - rfl m2 rfl hx
        refine kW_go ok_X12_parts [6] 20 ?_
        exact hsame hx
      have hkeep : ∀ m2, m2 = mm → (∀ x, G x → jO w d z x = i → ∀ k : Int, (0 ≤ k ∧ k < 4) → nx w d l x k ≠ -1 → G (nx w d l x k) → mm 86 (jO w d z x) ≤ mm 86 (jO w d z (nx w d l x k))) → (f = 0 → kW (eX X) 4 M_X12_parts T 9 [some (vR 54), some (vI n), some (vI z), some (vI g), some (vI b), some (vI f), some (vI i), none, none, none] [vI 0] m2) ∧ (¬ f = 0 → kW (eX X) 4 M_X12_parts T 9 [some (vR 54), some (vI n), some (vI z), some (vI g), some (vI b), some (vI f), some (vI i), none, none, none] [vI 1] m2) := fun m2 e hx => ⟨fun h => hkeep9 0 (Or.inl rfl) h.symm m2 e hx, fun h => hkeep9 1 (Or.inr rfl) (hfb.resolve_left h).symm m2 e hx⟩
      rintro _ m2 (⟨h1, rfl, rfl⟩ | ⟨h1, v, ⟨rfl, rfl, rfl⟩ | ⟨hlt, rfl, rfl⟩, hsrc, hmin⟩)
      · refine And.intro (fun h => absurd rfl h) (fun _ => ?_)
        refine hkeep m2 rfl (fun x hgx hxi => ?_)
        obtain ⟨-, y, hr, e⟩ := k4 x hgx
        obtain ⟨a1, a2, a3, -⟩ := hst hgx hr
        have := (jO_in hD a1 a3).1
        rw [hxi] at e
        omega
      · refine And.intro (fun h => absurd rfl h) (fun _ => ?_)
        refine hkeep m2 rfl (fun x hgx hxi k hk4 hne hgy => ?_)
        have hxz := hGz x hgx
        have hjx := jO_in hD hxz.1 hxz.2
        have hcx : cC w d (81 * z + i) = x := by rw [← hxi, ← hjx.2]; exact (cR_in hD hxz.1).2
        rw [hcx] at hmin
        rw [hxi]
        rcases hmin k hk4 hne with h | h
        · obtain ⟨-, y, hr, e⟩ := k4 _ hgy
          obtain ⟨a1, a2, a3, -⟩ := hst hgy hr
          have := (jO_in hD a1 a3).1
          omega
        · exact h
      · refine And.intro (fun _ => ?_) (fun h => absurd h (by decide))
        obtain ⟨hin, hgx⟩ := k3 i hib h1
        obtain ⟨c1, c2, c3⟩ := hcell i hib hin
        obtain ⟨x, hx⟩ : ∃ x, x = cC w d (81 * z + i) := ⟨_, rfl⟩
        rw [← hx] at c1 c2 c3 hgx hsrc hmin
        have hsr : ∃ k : Int, (0 ≤ k ∧ k < 4) ∧ nx w d l x k ≠ -1 ∧ v ≠ -1 ∧ v = mm 86 (jO w d z (nx w d l x k)) := hsrc.resolve_left (by omega)
        obtain ⟨k, hk4, hne, hv1, hve⟩ := hsr
        have hyi := (nx_in hne).1
        have hyz : gZ w d (nx w d l x k) = z := by rw [nx_lay hk4 hne]; exact c2
        have hjy := jO_in hD hyi hyz
        have hgy : G (nx w d l x k) := by
          obtain ⟨q1, q2⟩ := k3 _ hjy.1 (by rw [← hve]; exact hv1)
          have : cC w d (81 * z + jO w d z (nx w d l x k)) = nx w d l x k := by rw [← hjy.2]; exact (cR_in hD hyi).2
          rw [this] at q2
          exact q2
        obtain ⟨-, y', hr', e'⟩ := k4 _ hgy
        obtain ⟨a1', a2', a3', -⟩ := hst hgy hr'
        have hj' := (jO_in hD a1' a3').1
        have hstep : Rch (stR w d l G 4) x y' := Rch_tr (Rch_to Rch_rf ⟨k, hk4, rfl, hne, hgy⟩) hr'
        have hK2 : K (mset mm 86 i v) := by
          refine (hK _).mpr ⟨fun o ho => by rw [k_mset_ne ho]; exact k1 o ho, fun j hj => ?_, fun j hj hj1 => ?_, fun y hgy2 => ?_⟩
          · rw [k_mset_at]
            by_cases e : j = i
            · rw [if_pos e]; omega
            · rw [if_neg e]; exact k2 j hj
          · rw [k_mset_at] at hj1
            by_cases e : j = i
            · rw [e]; exact k3 i hib h1
            · rw [if_neg e] at hj1; exact k3 j hj hj1
          · rw [k_mset_at]
            by_cases e : jO w d z y = i
            · rw [if_pos e]
              have hyy := hGz y hgy2
              have hjyy := jO_in hD hyy.1 hyy.2
              have : y = x := cR_inj hD hyy.1 c1 (by rw [hjyy.2, (jO_in hD c1 c2).2, e, c3])
              have h4 := (k4 x hgx).1
              rw [c3] at h4
              refine ⟨by omega, y', by rw [this]; exact hstep, by rw [hve]; exact e'⟩
            · rw [if_neg e]; exact k4 y hgy2
        have hsum : sumN (mset mm 86 i v 86) 81 = sumN (mm 86) 81 + (v - mm 86 i) := by
          rw [sumN_set (f := mm 86) (g := mset mm 86 i v 86) (i := i) (by omega) (fun c hc => by rw [k_mset_at, if_neg hc]), k_mset_at, if_pos rfl]
        have hlt2 : sumN (mset mm 86 i v 86) 81 < sumN (m0 86) 81 := by
          rcases hf with ⟨-, rfl, -⟩ | ⟨-, h⟩
          · omega
          · omega
        refine kW_go ok_X12_parts [6] 20 ?_
        exact ⟨by constructor <;> omega, ih (i + 1) 1 m0 _ (by omega) (by omega) hK2 (Or.inr ⟨rfl, hlt2⟩) hout⟩
  have rounds : ∀ (y : Nat) (mm : Mem) (x6 : Option AV), (sumN (mm 86) 81 + 81).toNat = y → K mm → kW (eX X) 4 M_X12_parts T 5 [some (vR 54), some (vI n), some (vI z), some (vI g), some (vI b), some (vI 1), x6, none, none, none] [] mm := by
    intro y
    induction y using Nat.strongRecOn with
    | _ y ih =>
      intro mm x6 hy hk
      have hb1 := bsum mm hk
      refine kW_go ok_X12_parts [6] 20 ?_
      refine And.intro (fun h => absurd h (by decide)) (fun _ => pass 81 0 0 mm mm (by omega) (by omega) hk (Or.inl ⟨rfl, rfl, fun x hx h => ?_⟩) (fun f' m' hk' hf' => ?_))
      · have := (jO_in hD (hGz x hx).1 (hGz x hx).2).1
        omega
      · rcases hf' with ⟨rfl, rfl, hcl⟩ | ⟨rfl, hlt⟩
        · refine kW_go ok_X12_parts [11] 20 ?_
          refine And.intro (fun _ => count m' hk' (fun x y k hx hk4 e hne hgy => ?_)) (fun h => absurd rfl h)
          rw [← e] at hne hgy ⊢
          exact hcl x hx k hk4 hne hgy
        · have hb2 := bsum m' hk'
          exact ih (sumN (m' 86) 81 + 81).toNat (by omega) m' _ rfl hk'
  have first : ∀ (q : Nat) (i : Int) (mm : Mem), i + q = 81 → 0 ≤ i → (∀ o, o ≠ 86 → mm o = m o) → (∀ j : Int, (0 ≤ j ∧ j < i) → (m 85 j ≠ 0 ∧ j ≠ g ∧ mm 86 j = j) ∨ (¬ (m 85 j ≠ 0 ∧ j ≠ g) ∧ mm 86 j = -1)) → kW (eX X) 4 M_X12_parts T 1 [some (vR 54), some (vI n), some (vI z), some (vI g), some (vI b), some (vI i), none, none, none, none] [] mm := by
    intro q
    induction q with
    | zero =>
      intro i mm hq h0 hf hl
      have hi : i = 81 := by omega
      subst hi
      refine kW_go ok_X12_parts [5] 20 ?_
      refine And.intro (fun _ => rounds _ mm none rfl ((hK mm).mpr ⟨hf, fun j hj => ?_, fun j hj hj1 => ?_, fun x hx => ?_⟩)) (fun h => absurd h (by decide))
      · rcases hl j hj with ⟨-, -, e⟩ | ⟨-, e⟩ <;> omega
      · rcases hl j hj with ⟨h1, h2, e⟩ | ⟨-, e⟩
        · have hin : inRf w d l (81 * z + j) := Classical.byContradiction (fun h => h1 (hoff j hj h))
          obtain ⟨c1, c2, c3⟩ := hcell j hj hin
          exact ⟨hin, (hG _ c1 c2).mp (by rw [c3]; exact ⟨h1, h2⟩)⟩
        · exact absurd e hj1
      · have hxz := hGz x hx
        have hj := jO_in hD hxz.1 hxz.2
        rcases hl _ hj.1 with ⟨-, -, e⟩ | ⟨h1, -⟩
        · exact ⟨by omega, x, Rch_rf, e⟩
        · exact absurd ((hG x hxz.1 hxz.2).mpr hx) h1
    | succ q ih =>
      intro i mm hq h0 hf hl
      have hib : 0 ≤ i ∧ i < ((81 : Nat) : Int) := by omega
      have e85 : mm 85 = m 85 := hf 85 (by decide)
      have hput : ∀ v : Int, ((m 85 i ≠ 0 ∧ i ≠ g ∧ v = i) ∨ (¬ (m 85 i ≠ 0 ∧ i ≠ g) ∧ v = -1)) → kW (eX X) 4 M_X12_parts T 3 [some (vR 54), some (vI n), some (vI z), some (vI g), some (vI b), some (vI i), none, none, none, none] [vI v, vI i, vR 86] mm := by
        intro v hv
        refine kW_go ok_X12_parts [1] 20 ?_
        refine ⟨hib, by constructor <;> omega, ih (i + 1) _ (by omega) (by omega) (fun o ho => by rw [k_mset_ne ho]; exact hf o ho) (fun j hj => ?_)⟩
        rw [k_mset_at]
        by_cases e : j = i
        · rw [if_pos e, e]; exact hv
        · rw [if_neg e]; exact hl j (by omega)
      refine kW_go ok_X12_parts [3, 5] 20 ?_
      refine And.intro (fun h => absurd h (by omega)) (fun _ => ⟨hib, And.intro (fun h => hput (-1) (Or.inr ⟨fun q => q.1 ?_, rfl⟩)) (fun h => And.intro (fun h2 => hput (-1) (Or.inr ⟨fun q => q.2 h2, rfl⟩)) (fun h2 => hput i (Or.inl ⟨?_, h2, rfl⟩)))⟩)
      · rw [← e85]; exact h
      · rw [← e85]; exact h
  refine kW_go ok_X12_parts [1] 20 ?_
  exact first 81 0 m (by omega) (by omega) (fun _ _ => rfl) (fun j hj => by omega)
