/-! the reference's weights come to a standstill -/
/-- weights that rows account for -/
def wsOk (w d l mv : Int) (F J : Int → Prop) (cs : Int → Int → Int) (be : Int) (m : Mem) : Prop := (∀ i : Int, (0 ≤ i ∧ i < 1620) → 0 ≤ m 79 i ∧ m 79 i ≤ 1000000000) ∧ (∀ x dir, inC w d l x → (0 ≤ dir ∧ dir < 5) → stl w d m x dir = 1000000000 ∨ ∃ (ks : List Int) (C : Int), row w d l mv F J cs be ks x dir C ∧ stl w d m x dir = 1000 * C + (ks.length : Int)) ∧ ∀ x dir, inC w d l x → (0 ≤ dir ∧ dir < 5) → J x → stl w d m x dir = 0
/-- a cell's weights can't be made less -/
def wsAt (w d l mv : Int) (F J : Int → Prop) (cs : Int → Int → Int) (be : Int) (m : Mem) (x dir : Int) : Prop := ¬ J x → F x → ∀ k, mvOk w d l mv m x dir k → stl w d m x dir ≤ 1000 * wt cs be dir k (nx w d l x k) + 1 + stl w d m (nx w d l x k) (dr dir k)
theorem stl_idx {w d l x dir : Int} (hD : okD w d l) (hx : inC w d l x) (hd : 0 ≤ dir ∧ dir < 5) : 0 ≤ 5 * cR w d x + dir ∧ 5 * cR w d x + dir < 1620 := by
  have := (cR_geo hD hx).1
  omega
theorem stl_inj {w d l x dir y dir' : Int} (hD : okD w d l) (hx : inC w d l x) (hd : 0 ≤ dir ∧ dir < 5) (hy : inC w d l y) (hd' : 0 ≤ dir' ∧ dir' < 5) (h : 5 * cR w d x + dir = 5 * cR w d y + dir') : x = y ∧ dir = dir' := by
  have : cR w d x = cR w d y := by omega
  exact ⟨cR_inj hD hx hy this, by omega⟩
set_option maxRecDepth 100000 in
theorem c_X12_relax (X : Xv) (m : Mem) {w d l mv st vi be : Int} {ex : Int → Int} {n : Int} {F J : Int → Prop} (hd : dimM m w d l) (hn : 0 ≤ n ∧ n < 8) (hR : RWf w d l mv st vi be ex n m) (hF : ∀ x, inC w d l x → (m 80 (cR w d x) ≠ 0 ↔ F x)) (hJ : ∀ x, inC w d l x → (m 78 (cR w d x) ≠ 0 ↔ J x)) (hW : wsOk w d l mv F J (csF st vi ex) be m) (x : Int) (hx : inC w d l x) : kCall (eX X) 5 M_X12_relax.1 [vR 54, vI n, vI (cR w d x)] m (fun r m' => (∀ o, o ≠ 79 → m' o = m o) ∧ wsOk w d l mv F J (csF st vi ex) be m' ∧ ((r = some (vI 0) ∧ m' = m ∧ ∀ dir, (0 ≤ dir ∧ dir < 5) → wsAt w d l mv F J (csF st vi ex) be m x dir) ∨ (r = some (vI 1) ∧ sumN (m' 79) 1620 < sumN (m 79) 1620))) := by
  have hD : okD w d l := hd.2.2.2
  have hg := cR_geo hD hx
  have hcb : 0 ≤ cR w d x ∧ cR w d x < ((324 : Nat) : Int) := hg.1
  refine kCall_ofT ok_X12_relax rfl (Nat.le_of_ble_eq_true rfl) (fun T hT => ?_)
  have hquiet : (¬ (¬ J x ∧ F x)) → T (some (vI 0)) m := fun h => hT _ _ ⟨Or.inl rfl, fun _ _ => rfl, hW, Or.inl ⟨rfl, rfl, fun dir _ h1 h2 => absurd ⟨h1, h2⟩ h⟩⟩
  by_cases hjx : J x
  · refine kW_go ok_X12_relax [] 20 ?_
    exact ⟨hcb, And.intro (fun _ => hquiet (fun z => z.1 hjx)) (fun h => absurd h (fun z => (hJ x hx).mpr hjx z))⟩
  by_cases hfx : F x
  · have loop : ∀ (q : Nat) (dir more : Int) (m' : Mem) (x5 : Option AV), dir + q = 5 → 0 ≤ dir → (∀ o, o ≠ 79 → m' o = m o) → wsOk w d l mv F J (csF st vi ex) be m' → ((more = 0 ∧ m' = m ∧ ∀ e, (0 ≤ e ∧ e < dir) → wsAt w d l mv F J (csF st vi ex) be m x e) ∨ (more = 1 ∧ sumN (m' 79) 1620 < sumN (m 79) 1620)) → kW (eX X) 4 M_X12_relax T 3 [some (vR 54), some (vI n), some (vI (cR w d x)), some (vI more), some (vI dir), x5] [] m' := by
      intro q
      induction q with
      | zero =>
        intro dir more m' x5 hq h0 hf hW' hm
        refine kW_go ok_X12_relax [] 20 ?_
        refine And.intro (fun _ => ?_) (fun h => absurd h (by omega))
        rcases hm with ⟨rfl, rfl, h3⟩ | ⟨rfl, h3⟩
        · exact hT _ _ ⟨Or.inl rfl, hf, hW', Or.inl ⟨rfl, rfl, fun e he => h3 e (by omega)⟩⟩
        · exact hT _ _ ⟨Or.inr rfl, hf, hW', Or.inr ⟨rfl, h3⟩⟩
      | succ q ih =>
        intro dir more m' x5 hq h0 hf hW' hm
        have hd5 : 0 ≤ dir ∧ dir < 5 := by omega
        have hd' : dimM m' w d l := by unfold dimM fld at hd ⊢; rw [hf 54 (by decide)]; exact hd
        have hR' : RWf w d l mv st vi be ex n m' := RWf_same hR (fun o ho => hf o (by omega))
        have hix := stl_idx hD hx hd5
        have hixb : 0 ≤ 5 * cR w d x + dir ∧ 5 * cR w d x + dir < ((1620 : Nat) : Int) := hix
        refine kW_go ok_X12_relax [4] 20 ?_
        refine And.intro (fun h => absurd h (by omega)) (fun _ => ?_)
        refine kCall_mono (c_X12_bestFrom X m' hd' hn hR' x dir hx hd5 (fun i hi => (hW'.1 i hi).1)) (Nat.le_of_ble_eq_true rfl) ?_
        rintro _ m1 ⟨rfl, v, rfl, hvb, hall, hex⟩
        have hnext : ∀ (m2 : Mem) (more2 : Int) (z5 : Option AV), (∀ o, o ≠ 79 → m2 o = m o) → wsOk w d l mv F J (csF st vi ex) be m2 → ((more2 = 0 ∧ m2 = m ∧ ∀ e, (0 ≤ e ∧ e < dir + 1) → wsAt w d l mv F J (csF st vi ex) be m x e) ∨ (more2 = 1 ∧ sumN (m2 79) 1620 < sumN (m 79) 1620)) → kW (eX X) 4 M_X12_relax T 4 [some (vR 54), some (vI n), some (vI (cR w d x)), some (vI more2), some (vI dir), z5] [] m2 := by
          intro m2 more2 z5 a1 a2 a3
          refine kW_go ok_X12_relax [3] 20 ?_
          exact ⟨by constructor <;> omega, ih (dir + 1) more2 m2 z5 (by omega) (by omega) a1 a2 a3⟩
        refine ⟨by constructor <;> omega, by constructor <;> omega, hixb, And.intro (fun hge => ?_) (fun hlt => ?_)⟩
        · have hge : m1 79 (5 * cR w d x + dir) ≤ v := hge
          refine hnext m1 more _ hf hW' ?_
          rcases hm with ⟨h1, h2, h3⟩ | hm
          · refine Or.inl ⟨h1, h2, fun e he => ?_⟩
            by_cases hed : e = dir
            · rw [hed, ← h2]
              intro _ _ k hk
              have := hall k hk
              unfold stl at this ⊢
              omega
            · exact h3 e (by omega)
          · exact Or.inr hm
        · have hlt : v < m1 79 (5 * cR w d x + dir) := hlt
          have hle := (hW'.1 _ hix).2
          refine ⟨by constructor <;> omega, by constructor <;> omega, hixb, ?_⟩
          have est : ∀ y e, inC w d l y → (0 ≤ e ∧ e < 5) → stl w d (mset m1 79 (5 * cR w d x + dir) v) y e = if y = x ∧ e = dir then v else stl w d m1 y e := by
            intro y e hy he
            unfold stl
            rw [k_mset_at]
            by_cases h : y = x ∧ e = dir
            · rw [if_pos (by rw [h.1, h.2]), if_pos h]
            · rw [if_neg (fun z => h (stl_inj hD hy he hx hd5 z)), if_neg h]
          refine hnext _ 1 _ (fun o ho => by rw [k_mset_ne ho]; exact hf o ho) ⟨fun i hi => ?_, fun y e hy he => ?_, fun y e hy he hJy => ?_⟩ (Or.inr ⟨rfl, ?_⟩)
          · rw [k_mset_at]
            split
            · exact hvb
            · exact hW'.1 i hi
          · rw [est y e hy he]
            by_cases h : y = x ∧ e = dir
            · rw [if_pos h, h.1, h.2]
              rcases hex with z | ⟨k, hk, hv⟩
              · omega
              · right
                obtain ⟨k1, k2, k3, k4⟩ := hk
                have hyi := (nx_in k2).1
                have hdr := dr_in hd5 k1.1 (k := k)
                rcases hW'.2.1 _ _ hyi hdr with z | ⟨ks, C, r1, r2⟩
                · omega
                · refine ⟨k :: ks, C + wt (csF st vi ex) be dir k (nx w d l x k), ⟨hjx, hfx, k1, k2, ?_⟩, ?_⟩
                  · rw [show C + wt (csF st vi ex) be dir k (nx w d l x k) - wt (csF st vi ex) be dir k (nx w d l x k) = C by omega]
                    exact r1
                  · rw [hv, r2]
                    simp only [List.length_cons]
                    omega
            · rw [if_neg h]; exact hW'.2.1 y e hy he
          · rw [est y e hy he, if_neg (fun z => hjx (by rw [← z.1]; exact hJy))]
            exact hW'.2.2 y e hy he hJy
          · have s1 := sumN_set (f := m1 79) (g := mset m1 79 (5 * cR w d x + dir) v 79) (k := 1620) (i := 5 * cR w d x + dir) hix (fun c hc => by rw [k_mset_at, if_neg hc])
            have e2 : mset m1 79 (5 * cR w d x + dir) v 79 (5 * cR w d x + dir) = v := by rw [k_mset_at, if_pos rfl]
            rw [s1, e2]
            rcases hm with ⟨h1, h2, h3⟩ | ⟨h1, h2⟩
            · rw [h2] at hlt ⊢; omega
            · omega
    refine kW_go ok_X12_relax [3] 20 ?_
    refine ⟨hcb, And.intro (fun h => absurd ((hJ x hx).mp h) hjx) (fun _ => ⟨hcb, And.intro (fun _ => ?_) (fun h => absurd h ((hF x hx).mpr hfx))⟩)⟩
    exact loop 5 0 0 m none (by omega) (by omega) (fun _ _ => rfl) hW (Or.inl ⟨rfl, rfl, fun e he => absurd he (by omega)⟩)
  · refine kW_go ok_X12_relax [] 20 ?_
    exact ⟨hcb, And.intro (fun _ => hquiet (fun z => hfx z.2)) (fun _ => ⟨hcb, And.intro (fun h => absurd ((hF x hx).mp h) hfx) (fun _ => hquiet (fun z => hfx z.2))⟩)⟩
/-- off the board nothing is weighed -/
theorem c_X12_relax0 (X : Xv) (m : Mem) (n c : Int) (hc : 0 ≤ c ∧ c < 324) (h0 : m 80 c = 0) : kCall (eX X) 5 M_X12_relax.1 [vR 54, vI n, vI c] m (cP 0 m) := by
  have hcb : 0 ≤ c ∧ c < ((324 : Nat) : Int) := hc
  refine kCall_ofT ok_X12_relax rfl (Nat.le_of_ble_eq_true rfl) (fun T hT => ?_)
  refine kW_go ok_X12_relax [] 20 ?_
  exact ⟨hcb, And.intro (fun _ => hT _ _ ⟨Or.inl rfl, rfl, rfl⟩) (fun _ => ⟨hcb, And.intro (fun h => absurd h0 h) (fun _ => hT _ _ ⟨Or.inl rfl, rfl, rfl⟩)⟩)⟩
