/-! CUT alike: what the reference reaches -/
set_option maxRecDepth 100000 in
theorem c_X12_reach (X : Xv) (c m : Mem) {w d l : Int} (hD : okD w d l) (hWs : WFs c) (hR : RR0 w d l c m) (n s : Int) (hn : 0 ≤ n ∧ n < c 9 14) (hs : inC w d l s) (e64 : m 64 (4 * n) = cR w d s) : kCall (eX X) 6 M_X12_reach.1 [vR 54, vI n] m (fun r m' => r = none ∧ (∀ o, o ≠ 80 → o ≠ 83 → m' o = m o) ∧ (∀ x, inC w d l x → (m' 83 (cR w d x) ≠ 0 ↔ Rch (stR w d l (frT w d l (cntT m) c n 0) 6) s x)) ∧ (∀ j : Int, (0 ≤ j ∧ j < 324) → m' 83 j = 0 ∨ m' 83 j = 1) ∧ ∀ j : Int, (0 ≤ j ∧ j < 324) → ¬ inRf w d l j → m' 83 j = 0) := by
  have h8 := hWs.2.1
  have hn8 : 0 ≤ n ∧ n < 8 := by omega
  have hi4 : 0 ≤ 4 * n ∧ 4 * n < ((32 : Nat) : Int) := by omega
  have hG := RR0_RelG hWs hR
  obtain ⟨F, hF⟩ : ∃ F, F = frT w d l (cntT m) c n 0 := ⟨_, rfl⟩
  rw [← hF]
  have hsr := (cR_in hD hs).1
  refine kCall_ofT ok_X12_reach rfl (Nat.le_of_ble_eq_true rfl) (fun T hT => ?_)
  -- what a pass keeps
  obtain ⟨K, hK⟩ : ∃ K : Mem → Prop, ∀ mm, K mm ↔ ((∀ o, o ≠ 80 → o ≠ 83 → mm o = m o) ∧ (∀ x, inC w d l x → (mm 80 (cR w d x) ≠ 0 ↔ F x)) ∧ (∀ j : Int, (0 ≤ j ∧ j < 324) → ¬ inRf w d l j → mm 80 j = 0) ∧ (∀ x, inC w d l x → mm 83 (cR w d x) ≠ 0 → Rch (stR w d l F 6) s x) ∧ mm 83 (cR w d s) ≠ 0 ∧ (∀ j : Int, (0 ≤ j ∧ j < 324) → mm 83 j = 0 ∨ mm 83 j = 1) ∧ ∀ j : Int, (0 ≤ j ∧ j < 324) → ¬ inRf w d l j → mm 83 j = 0) := ⟨_, fun _ => Iff.rfl⟩
  have bsum : ∀ mm, K mm → 0 ≤ sumN (mm 83) 324 ∧ sumN (mm 83) 324 ≤ 324 := by
    intro mm h
    obtain ⟨-, -, -, -, -, h01, -⟩ := (hK mm).mp h
    have h1 : sumN (mm 83) 324 ≤ sumN (fun _ => 1) 324 := sumN_ge (fun i a b => by have := h01 i ⟨a, by omega⟩; show mm 83 i ≤ 1; omega)
    have h2 : 0 ≤ sumN (mm 83) 324 := sumN_nn (fun i a b => by have := h01 i ⟨a, by omega⟩; omega)
    rw [sumN_one] at h1
    omega
  have pass : ∀ (q : Nat) (i f : Int) (m0 mm : Mem), i + q = 324 → 0 ≤ i → K mm → ((f = 0 ∧ mm = m0 ∧ ∀ x, inC w d l x → cR w d x < i → F x → mm 83 (cR w d x) = 0 → ¬ ∃ k : Int, (0 ≤ k ∧ k < 6) ∧ nx w d l x k ≠ -1 ∧ mm 83 (cR w d (nx w d l x k)) ≠ 0) ∨ (f = 1 ∧ sumN (m0 83) 324 < sumN (mm 83) 324)) → (∀ f' m', K m' → ((f' = 0 ∧ m' = m0 ∧ ∀ x, inC w d l x → F x → m' 83 (cR w d x) = 0 → ¬ ∃ k : Int, (0 ≤ k ∧ k < 6) ∧ nx w d l x k ≠ -1 ∧ m' 83 (cR w d (nx w d l x k)) ≠ 0) ∨ (f' = 1 ∧ sumN (m0 83) 324 < sumN (m' 83) 324)) → kW (eX X) 5 M_X12_reach T 7 [some (vR 54), some (vI n), some (vI f'), some (vI 324)] [] m') → kW (eX X) 5 M_X12_reach T 8 [some (vR 54), some (vI n), some (vI f), some (vI i)] [] mm := by
    intro q
    induction q with
    | zero =>
      intro i f m0 mm hq h0 hk hf hout
      have hi : i = 324 := by omega
      subst hi
      refine kW_go ok_X12_reach [7] 20 ?_
      refine And.intro (fun _ => hout f mm hk ?_) (fun h => absurd h (by decide))
      rcases hf with ⟨a, b, e⟩ | h
      · exact Or.inl ⟨a, b, fun x hx => e x hx (by have := (cR_geo hD hx).1; omega)⟩
      · exact Or.inr h
    | succ q ih =>
      intro i f m0 mm hq h0 hk hf hout
      have hib : 0 ≤ i ∧ i < ((324 : Nat) : Int) := by omega
      obtain ⟨k1, k2, k3, k4, k5, k6, k7⟩ := (hK mm).mp hk
      have hdm : dimM mm w d l := by
        have := hR.1.1
        unfold dimM fld at this ⊢
        rw [k1 54 (by decide) (by decide)]
        exact this
      have hskip : (∀ x, inC w d l x → cR w d x = i → F x → mm 83 (cR w d x) = 0 → ¬ ∃ k : Int, (0 ≤ k ∧ k < 6) ∧ nx w d l x k ≠ -1 ∧ mm 83 (cR w d (nx w d l x k)) ≠ 0) → inR (i + 1) ∧ kW (eX X) 5 M_X12_reach T 8 [some (vR 54), some (vI n), some (vI f), some (vI (i + 1))] [] mm := by
        intro hx
        refine ⟨by constructor <;> omega, ih (i + 1) f m0 mm (by omega) (by omega) hk ?_ hout⟩
        rcases hf with ⟨a, b, e⟩ | h
        · refine Or.inl ⟨a, b, fun x hxi hlt => ?_⟩
          by_cases hh : cR w d x = i
          · exact hx x hxi hh
          · exact e x hxi (by omega)
        · exact Or.inr h
      refine kW_go ok_X12_reach [8] 20 ?_
      refine And.intro (fun h => absurd h (by omega)) (fun _ => ⟨hib, And.intro (fun ho => hskip (fun x hx he hFx _ => ?_)) (fun ho => ⟨hib, And.intro (fun hr => hskip (fun x hx he _ hz => ?_)) (fun hr => ?_)⟩)⟩)
      · exact absurd (by rw [he]; exact ho) ((k2 x hx).mpr hFx)
      · rw [he] at hz
        exact absurd hz hr
      · have ho : ¬ mm 80 i = 0 := ho
        have hr : mm 83 i = 0 := hr
        have hin : inRf w d l i := Classical.byContradiction (fun z => ho (k3 i (by omega) z))
        obtain ⟨hci, hcr⟩ := cC_in hin
        have hbs := c_X12_isBeside X mm hdm _ hci
        rw [hcr] at hbs
        refine kCall_mono hbs (Nat.le_of_ble_eq_true rfl) ?_
        rintro _ m2 ⟨⟨hb, rfl⟩ | ⟨hb, rfl⟩, rfl⟩
        · refine And.intro (fun h => absurd h (by decide)) (fun _ => ?_)
          obtain ⟨k, hk6, hkne, hk83⟩ := hb
          have hFi : F (cC w d i) := (k2 _ hci).mp (by rw [hcr]; exact ho)
          have hri : Rch (stR w d l F 6) s (cC w d i) := by
            have hy := (nx_in hkne).1
            refine Rch_to (k4 _ hy hk83) ⟨oppF k, opp_in hk6, ?_, (by have := hci.1; omega), hFi⟩
            exact nx_opp hD hci hk6 hkne
          have hK2 : K (mset m2 83 i 1) := by
            refine (hK _).mpr ⟨fun o a b => by rw [k_mset_ne b]; exact k1 o a b, fun x hx => by rw [k_mset_ne (by decide)]; exact k2 x hx, fun j hj hj2 => by rw [k_mset_ne (by decide)]; exact k3 j hj hj2, fun x hx => ?_, ?_, fun j hj => ?_, fun j hj hj2 => ?_⟩
            · rw [k_mset_at]
              by_cases e : cR w d x = i
              · intro _
                have : x = cC w d i := cR_inj hD hx hci (by rw [e, hcr])
                rw [this]
                exact hri
              · rw [if_neg e]; exact k4 x hx
            · rw [k_mset_at]
              split
              · decide
              · exact k5
            · rw [k_mset_at]
              split
              · exact Or.inr rfl
              · exact k6 j hj
            · rw [k_mset_at, if_neg (fun e => hj2 (by rw [e]; exact hin))]
              exact k7 j hj hj2
          have hsum : sumN (mset m2 83 i 1 83) 324 = sumN (m2 83) 324 + 1 := by
            rw [sumN_set (f := m2 83) (g := mset m2 83 i 1 83) (i := i) (by omega) (fun c hc => by rw [k_mset_at, if_neg hc]), k_mset_at, if_pos rfl, hr]
            rfl
          refine ⟨hib, Or.inr rfl, by constructor <;> omega, ih (i + 1) 1 m0 _ (by omega) (by omega) hK2 (Or.inr ⟨rfl, ?_⟩) hout⟩
          rw [hsum]
          rcases hf with ⟨-, rfl, -⟩ | ⟨-, h⟩
          · omega
          · omega
        · refine And.intro (fun _ => hskip (fun x hx he _ _ => ?_)) (fun h => absurd rfl h)
          have : x = cC w d i := cR_inj hD hx hci (by rw [he, hcr])
          rw [this]
          exact hb
  have rounds : ∀ (z : Nat) (mm : Mem) (x3 : Option AV), (324 - sumN (mm 83) 324).toNat = z → K mm → kW (eX X) 5 M_X12_reach T 7 [some (vR 54), some (vI n), some (vI 1), x3] [] mm := by
    intro z
    induction z using Nat.strongRecOn with
    | _ z ih =>
      intro mm x3 hz hk
      have hb := bsum mm hk
      refine kW_go ok_X12_reach [8] 20 ?_
      refine And.intro (fun h => absurd h (by decide)) (fun _ => pass 324 0 0 mm mm (by omega) (by omega) hk (Or.inl ⟨rfl, rfl, fun x hx h => by have := (cR_geo hD hx).1; omega⟩) (fun f' m' hk' hf' => ?_))
      rcases hf' with ⟨rfl, rfl, hcl⟩ | ⟨rfl, hlt⟩
      · refine kW_go ok_X12_reach [] 20 ?_
        refine And.intro (fun _ => hT _ _ ⟨rfl, ?_⟩) (fun h => absurd rfl h)
        obtain ⟨k1, k2, k3, k4, k5, k6, k7⟩ := (hK m').mp hk'
        refine ⟨k1, fun x hx => ⟨k4 x hx, fun h => ?_⟩, k6, k7⟩
        have key : inC w d l x ∧ m' 83 (cR w d x) ≠ 0 := by
          refine Rch_ind (P := fun y => inC w d l y ∧ m' 83 (cR w d y) ≠ 0) ?_ ⟨hs, k5⟩ h
          rintro a b ⟨ha, ha83⟩ ⟨k, hk6, hnx, hbne, hFb⟩
          have hne : nx w d l a k ≠ -1 := by rw [hnx]; exact hbne
          have hbi : inC w d l b := by rw [← hnx]; exact (nx_in hne).1
          refine ⟨hbi, fun hz0 => hcl b hbi hFb hz0 ⟨oppF k, opp_in hk6, ?_⟩⟩
          have ho := nx_opp hD ha hk6 hne
          rw [hnx] at ho
          rw [ho]
          exact ⟨by have := ha.1; omega, ha83⟩
        exact key.2
      · have hb' := bsum m' hk'
        exact ih (324 - sumN (m' 83) 324).toNat (by omega) m' _ rfl hk'
  have first : ∀ (q : Nat) (i : Int) (mm : Mem) (x3 : Option AV), i + q = 324 → 0 ≤ i → (∀ o, o ≠ 80 → o ≠ 83 → mm o = m o) → (∀ x, inC w d l x → cR w d x < i → (mm 80 (cR w d x) ≠ 0 ↔ F x)) → (∀ j : Int, (0 ≤ j ∧ j < i) → ¬ inRf w d l j → mm 80 j = 0) → (∀ j : Int, (0 ≤ j ∧ j < i) → (j = cR w d s ∧ mm 83 j = 1) ∨ (j ≠ cR w d s ∧ mm 83 j = 0)) → kW (eX X) 5 M_X12_reach T 1 [some (vR 54), some (vI n), some (vI i), x3] [] mm := by
    intro q
    induction q with
    | zero =>
      intro i mm x3 hq h0 f1 f2 f3 f4
      have hi : i = 324 := by omega
      subst hi
      refine kW_go ok_X12_reach [7] 20 ?_
      refine And.intro (fun _ => rounds _ mm x3 rfl ((hK mm).mpr ⟨f1, fun x hx => f2 x hx (cR_geo hD hx).1.2, f3, fun x hx h => ?_, ?_, fun j hj => ?_, fun j hj hj2 => ?_⟩)) (fun h => absurd h (by decide))
      · rcases f4 _ (cR_geo hD hx).1 with ⟨e, -⟩ | ⟨-, e⟩
        · rw [cR_inj hD hx hs e]; exact Rch_rf
        · exact absurd e h
      · rcases f4 _ (cR_geo hD hs).1 with ⟨-, e⟩ | ⟨e, -⟩
        · rw [e]; decide
        · exact absurd rfl e
      · rcases f4 j hj with ⟨-, e⟩ | ⟨-, e⟩
        · exact Or.inr e
        · exact Or.inl e
      · rcases f4 j hj with ⟨e, -⟩ | ⟨-, e⟩
        · exact absurd (by rw [e]; exact hsr) hj2
        · exact e
    | succ q ih =>
      intro i mm x3 hq h0 f1 f2 f3 f4
      have hib : 0 ≤ i ∧ i < ((324 : Nat) : Int) := by omega
      have e64' : mm 64 (4 * n) = cR w d s := by rw [f1 64 (by decide) (by decide)]; exact e64
      have hnext : ∀ (b v : Int) (m2 : Mem), ((i = cR w d s ∧ b = 1) ∨ (i ≠ cR w d s ∧ b = 0)) → (v = 0 ∨ v = 1) → (∀ x, inC w d l x → cR w d x = i → (v ≠ 0 ↔ F x)) → (¬ inRf w d l i → v = 0) → m2 = mset mm 83 i b → kW (eX X) 5 M_X12_reach T 5 [some (vR 54), some (vI n), some (vI i), x3] [vI v, vI i, vR 80] m2 := by
        rintro b v _ hb hv hv1 hv2 rfl
        refine kW_go ok_X12_reach [1] 20 ?_
        refine ⟨hib, hv, by constructor <;> omega, ih (i + 1) _ x3 (by omega) (by omega) (fun o a e => by rw [k_mset_ne a, k_mset_ne e]; exact f1 o a e) (fun x hx hlt => ?_) (fun j hj hj2 => ?_) (fun j hj => ?_)⟩
        · rw [k_mset_at]
          by_cases e : cR w d x = i
          · rw [if_pos e]; exact hv1 x hx e
          · rw [if_neg e, k_mset_ne (by decide)]; exact f2 x hx (by omega)
        · rw [k_mset_at]
          by_cases e : j = i
          · rw [if_pos e]; exact hv2 (by rw [← e]; exact hj2)
          · rw [if_neg e, k_mset_ne (by decide)]; exact f3 j (by omega) hj2
        · rw [k_mset_ne (by decide), k_mset_at]
          by_cases e : j = i
          · rw [if_pos e, e]; exact hb
          · rw [if_neg e]; exact f4 j (by omega)
      have three : ∀ b : Int, ((i = cR w d s ∧ b = 1) ∨ (i ≠ cR w d s ∧ b = 0)) → kW (eX X) 5 M_X12_reach T 3 [some (vR 54), some (vI n), some (vI i), x3] [vI b, vI i, vR 83] mm := by
        intro b hb
        have hR3 : RR0 w d l c (mset mm 83 i b) := RR0_ref (fun o a e => by rw [k_mset_ne (by omega)]; exact f1 o (by omega) (by omega)) hR
        have hG3 := RR0_RelG hWs hR3
        have hct : cntT (mset mm 83 i b) = cntT m := by
          funext o
          unfold cntT
          rw [k_mset_ne (by decide), f1 54 (by decide) (by decide)]
        refine kW_go ok_X12_reach [5] 20 ?_
        refine ⟨hib, (by rcases hb with ⟨-, e⟩ | ⟨-, e⟩ <;> omega), ?_⟩
        refine kCall_mono (c_X12_isInside X (mset mm 83 i b) hR3.1.1 i (by omega)) (Nat.le_of_ble_eq_true rfl) ?_
        rintro _ m2 ⟨⟨hin, rfl⟩ | ⟨hin, rfl⟩, hm2⟩
        · refine And.intro (fun h => absurd h (by decide)) (fun _ => ?_)
          obtain ⟨hci, hcr⟩ := cC_in hin
          rw [← hm2] at hG3 hct
          have hfr := c_X12_isFreeT X c m2 hD (WFs_srt hWs) hG3 n _ 0 hn hci
          rw [hcr, hct, ← hF] at hfr
          have hxe : ∀ x, inC w d l x → cR w d x = i → x = cC w d i := fun x hx e => cR_inj hD hx hci (by rw [e, hcr])
          refine kCall_mono hfr (Nat.le_of_ble_eq_true rfl) ?_
          rintro _ m3 ⟨⟨hh, rfl⟩ | ⟨hh, rfl⟩, rfl⟩
          · exact And.intro (fun h => absurd h (by decide)) (fun _ => hnext b 1 _ hb (Or.inr rfl) (fun x hx e => ⟨fun _ => by rw [hxe x hx e]; exact hh, fun _ => by decide⟩) (fun z => absurd hin z) hm2)
          · exact And.intro (fun _ => hnext b 0 _ hb (Or.inl rfl) (fun x hx e => ⟨fun z => absurd rfl z, fun z => absurd (by rw [← hxe x hx e]; exact z) hh⟩) (fun _ => rfl) hm2) (fun h => absurd rfl h)
        · exact And.intro (fun _ => hnext b 0 _ hb (Or.inl rfl) (fun x hx e => absurd (by rw [← e]; exact (cR_in hD hx).1) hin) (fun _ => rfl) hm2) (fun h => absurd rfl h)
      refine kW_go ok_X12_reach [3, 7] 20 ?_
      refine And.intro (fun h => absurd h (by omega)) (fun _ => ⟨by constructor <;> omega, hi4, And.intro (fun h => three 0 (Or.inr ⟨?_, rfl⟩)) (fun h => three 1 (Or.inl ⟨?_, rfl⟩))⟩)
      · have h : ¬ i = mm 64 (4 * n) := h
        rw [e64'] at h
        exact h
      · have h : i = mm 64 (4 * n) := h
        rw [e64'] at h
        exact h
  refine kW_go ok_X12_reach [1] 20 ?_
  exact first 324 0 m none (by omega) (by omega) (fun _ _ _ => rfl) (fun x hx h => by have := (cR_geo hD hx).1; omega) (fun j hj => by omega) (fun j hj => by omega)
