/-! PLANE alike: the reference, and both -/
set_option maxRecDepth 100000 in
theorem c_X12_plane (X : Xv) (c m : Mem) {w d l : Int} (hD : okD w d l) (hN : w * d * l = (nC X : Int)) (hM : WM w d l c) (hR : RR w d l c m) (n z a : Int) : kCall (eX X) 6 274 [vR 54, vI n, vI z, vI a] m (fun r m' => (¬ ((0 ≤ n ∧ n < c 9 14) ∧ (0 ≤ z ∧ z < l) ∧ (0 ≤ a ∧ a ≤ 3)) ∧ r = some (vI (-1)) ∧ m' = m) ∨ (((0 ≤ n ∧ n < c 9 14) ∧ (0 ≤ z ∧ z < l) ∧ (0 ≤ a ∧ a ≤ 3)) ∧ r = some (vI (figA w d l (nC X) c n z a)) ∧ RR w d l c m' ∧ ∀ o, o < 54 → m' o = m o)) := by
  have h8 := hM.1.2.1
  obtain ⟨-, -, l1, l2⟩ := id hD
  have hc4 := okD_cells hD
  have e3 : m 54 3 = l := hR.1.1.2.2.1
  have e3f : fld m 54 3 = l := hR.1.1.2.2.1
  refine kCall_ofT ok_X12_plane rfl (Nat.le_of_ble_eq_true rfl) (fun T hT => ?_)
  have hno : ¬ ((0 ≤ n ∧ n < c 9 14) ∧ (0 ≤ z ∧ z < l) ∧ (0 ≤ a ∧ a ≤ 3)) → T (some (vI (-1))) m := fun h => hT _ _ (Or.inl ⟨h, rfl, rfl⟩)
  refine kW_go ok_X12_plane [2] 20 ?_
  refine kCall_mono (isNetR hM.1 hR.1 n) (Nat.le_of_ble_eq_true rfl) ?_
  rintro _ m ⟨rfl, rfl⟩
  refine And.intro (fun h => hno (fun q => b2i_0.mp h q.1)) (fun h => ?_)
  have hnn := b2i_n.mp h
  have hn8 : 0 ≤ n ∧ n < 8 := by omega
  refine ⟨by constructor <;> omega, ?_⟩
  refine kCall_mono (c_X12_in (eX X) m z 0 _) (Nat.le_of_ble_eq_true rfl) ?_
  rintro _ m ⟨rfl, rfl⟩
  refine And.intro (fun h => hno (fun q => b2i_0.mp h (by have := q.2.1; omega))) (fun h => ?_)
  have hz : 0 ≤ z ∧ z < l := by have := b2i_n.mp h; omega
  refine kCall_mono (c_X12_in (eX X) m a 0 3) (Nat.le_of_ble_eq_true rfl) ?_
  rintro _ m ⟨rfl, rfl⟩
  refine And.intro (fun h => ?_) (fun h => hno (fun q => b2i_0.mp h q.2.2))
  have ha := b2i_n.mp h
  refine kW_go ok_X12_plane [5] 20 ?_
  refine kCall_mono (c_X12_spread X c m hD hM hR n z hnn hz) (Nat.le_of_ble_eq_true rfl) ?_
  rintro _ m1 ⟨rfl, hR1, f1, h85⟩
  obtain ⟨G, hGd⟩ : ∃ G, G = plG w d l c n z := ⟨_, rfl⟩
  have hGz : ∀ x, G x → inC w d l x ∧ gZ w d x = z := fun x q => by rw [hGd] at q; exact ⟨q.1, q.2.1⟩
  have hpl : ∀ x, inC w d l x → gZ w d x = z → (m1 85 (jO w d z x) ≠ 0 ↔ G x) := by
    intro x hx hxz
    have hj := jO_in hD hx hxz
    rw [(h85 _ hj.1).2, ← hj.2, (cR_in hD hx).2, hGd]
    exact ⟨fun q => ⟨hx, q.2⟩, fun q => ⟨(cR_in hD hx).1, q.2⟩⟩
  have hoff : ∀ i : Int, (0 ≤ i ∧ i < 81) → ¬ inRf w d l (81 * z + i) → m1 85 i = 0 := fun i hi h => Classical.byContradiction (fun q => h ((h85 i hi).2.mp q).1)
  have hparts : ∀ (mm : Mem) (g b : Int) (G' : Int → Prop), RR w d l c mm → mm 85 = m1 85 → (b = 0 ∨ b = 1) → (∀ x, inC w d l x → gZ w d x = z → ((m1 85 (jO w d z x) ≠ 0 ∧ jO w d z x ≠ g) ↔ G' x)) → (∀ x, G' x → inC w d l x ∧ gZ w d x = z) → kCall (eX X) 5 M_X12_parts.1 [vR 54, vI n, vI z, vI g, vI b] mm (fun r m' => r = some (vI (if b = 1 then ptN w d l (nC X) G' (cuN c n) else isN w d l (nC X) G' (cuN c n))) ∧ ∀ o, o ≠ 86 → m' o = mm o) := by
    intro mm g b G' hRm e85 hb hG' hGz'
    exact c_X12_parts X c mm hD hN hRm n z g b hn8 hz hb (fun x hx hxz => by rw [e85]; exact hG' x hx hxz) (fun i hi h => by rw [e85]; exact hoff i hi h) hGz'
  have hfin : ∀ (v : Int) (m' : Mem), v = figA w d l (nC X) c n z a → (∀ o, o ≠ 86 → m' o = m1 o) → T (some (vI v)) m' := fun v m' hv hf => hT _ _ (Or.inr ⟨⟨hnn, hz, ha⟩, by rw [hv], RR_ref (fun o x y => hf o (by omega)) hR1, fun o ho => by rw [hf o (by omega)]; exact f1 o (by omega) (by omega) (by omega)⟩)
  refine kCall_mono (hparts m1 (-1) 1 G hR1 rfl (Or.inr rfl) (fun x hx hxz => (by
    rw [hpl x hx hxz]
    have := jO_in hD hx hxz
    exact ⟨fun q => q.1, fun q => ⟨q, by omega⟩⟩)) hGz) (Nat.le_of_ble_eq_true rfl) ?_
  rintro _ m2 ⟨rfl, f2⟩
  rw [if_pos rfl]
  obtain ⟨P0, hP0⟩ : ∃ P0, P0 = ptN w d l (nC X) G (cuN c n) := ⟨_, rfl⟩
  rw [← hP0]
  have hR2 : RR w d l c m2 := RR_ref (fun o x y => f2 o (by omega)) hR1
  refine And.intro (fun h1 => And.intro (fun h2 => ?_) (fun h2 => ?_)) (fun h1 => ?_)
  · have h1 : ¬ a = 1 := h1
    have h2 : ¬ a = 2 := h2
    obtain ⟨Q, hQ⟩ : ∃ Q : Int → Prop, ∀ x, Q x ↔ (G x ∧ (a = 0 ∨ (¬ cuN c n x ∧ P0 < ptN w d l (nC X) (fun y => G y ∧ y ≠ x) (cuN c n)))) := ⟨_, fun _ => Iff.rfl⟩
    obtain ⟨A, hA⟩ : ∃ A : Int → Int, ∀ i, A i = iv (inRf w d l (81 * z + i) ∧ Q (cC w d (81 * z + i))) 1 := ⟨_, fun _ => rfl⟩
    have bA : ∀ k : Nat, 0 ≤ sumN A k ∧ sumN A k ≤ 1 * k := fun k => sumN_01 (fun x => by rw [hA]; exact iv_in ⟨by decide, by decide⟩) k
    have hsum : sumN A 81 = figA w d l (nC X) c n z a := by
      rw [sumN_cong (f := A) (fun i _ _ => hA i), sum_plane hD hN hz (fun x q => hGz x ((hQ x).mp q).1)]
      unfold figA
      by_cases h0 : a = 0
      · rw [if_pos h0]
        refine sumN_cong (fun x _ _ => iv_cong ?_)
        rw [hQ, hGd]
        exact ⟨fun q => q.1, fun q => ⟨q, Or.inl h0⟩⟩
      · rw [if_neg h0, if_neg h1, if_neg h2]
        refine sumN_cong (fun x _ _ => iv_cong ?_)
        rw [hQ, hP0, hGd]
        exact ⟨fun q => ⟨q.1, q.2.resolve_left h0⟩, fun q => ⟨q.1, Or.inr q.2⟩⟩
    have loop : ∀ (q : Nat) (i : Int) (mm : Mem), i + q = 81 → 0 ≤ i → (∀ o, o ≠ 86 → mm o = m1 o) → kW (eX X) 5 M_X12_plane T 5 [some (vR 54), some (vI n), some (vI z), some (vI a), some (vI P0), some (vI (sumN A i.toNat)), some (vI i)] [] mm := by
      intro q
      induction q with
      | zero =>
        intro i mm hq h0 hf
        have hi : i = 81 := by omega
        subst hi
        refine kW_go ok_X12_plane [5] 20 ?_
        exact And.intro (fun _ => hfin _ mm (by rw [show (81 : Int).toNat = 81 from rfl]; exact hsum) hf) (fun h => absurd h (by decide))
      | succ q ih =>
        intro i mm hq h0 hf
        have hib : 0 ≤ i ∧ i < ((81 : Nat) : Int) := by omega
        have e85 : mm 85 = m1 85 := hf 85 (by decide)
        have hRm : RR w d l c mm := RR_ref (fun o x y => hf o (by omega)) hR1
        have b1 := bA i.toNat
        have hnext : ∀ (v : Int) (m3 : Mem), v = A i → (∀ o, o ≠ 86 → m3 o = m1 o) → kW (eX X) 5 M_X12_plane T 8 [some (vR 54), some (vI n), some (vI z), some (vI a), some (vI P0), some (vI (sumN A i.toNat)), some (vI i)] [vI v, vI (sumN A i.toNat)] m3 := by
          intro v m3 hv hf3
          have hvb : 0 ≤ v ∧ v ≤ 1 := by rw [hv, hA]; exact iv_in ⟨by decide, by decide⟩
          have := ih (i + 1) m3 (by omega) (by omega) hf3
          rw [sumN_s A h0, ← hv] at this
          refine kW_go ok_X12_plane [5] 20 ?_
          exact ⟨by constructor <;> omega, by constructor <;> omega, this⟩
        refine kW_go ok_X12_plane [5, 8] 20 ?_
        refine And.intro (fun h => absurd h (by omega)) (fun _ => ⟨hib, And.intro (fun hp => ?_) (fun hp => And.intro (fun ha0 => hnext 1 mm ?_ hf) (fun ha0 => ⟨by constructor <;> omega, by constructor <;> omega, ?_⟩))⟩)
        · have hp : mm 85 i = 0 := hp
          rw [e85] at hp
          have hz0 : A i = 0 := by
            rw [hA]
            refine iv_f (fun q => ?_)
            have hg := ((hQ _).mp q.2).1
            rw [hGd] at hg
            exact (h85 i (by omega)).2.mpr ⟨q.1, hg.2⟩ hp
          have := ih (i + 1) mm (by omega) (by omega) hf
          rw [sumN_s A h0, hz0, Int.add_zero] at this
          exact ⟨by constructor <;> omega, this⟩
        · have hp : ¬ mm 85 i = 0 := hp
          rw [e85] at hp
          have hq2 := (h85 i (by omega)).2.mp hp
          obtain ⟨c1, -⟩ := cC_in hq2.1
          rw [hA, iv_t ⟨hq2.1, (hQ _).mpr ⟨by rw [hGd]; exact ⟨c1, hq2.2⟩, Or.inl ha0⟩⟩]
        · have hp : ¬ mm 85 i = 0 := hp
          rw [e85] at hp
          have hq2 := (h85 i (by omega)).2.mp hp
          obtain ⟨c1, c2⟩ := cC_in hq2.1
          obtain ⟨x, hx⟩ : ∃ x, x = cC w d (81 * z + i) := ⟨_, rfl⟩
          rw [← hx] at c1 c2 hq2
          have hgx : G x := by rw [hGd]; exact ⟨c1, hq2.2⟩
          have hjx : jO w d z x = i := by unfold jO; rw [c2]; omega
          have ha0 : ¬ a = 0 := ha0
          refine kCall_mono (c_X12_has X mm n (81 * z + i) hn8 (by omega)) (Nat.le_of_ble_eq_true rfl) ?_
          have hcu := cuN_72 (hRm.2.1 n hn8) c1
          rw [c2] at hcu
          rw [hcu]
          rintro _ m3 ⟨⟨hh, rfl⟩ | ⟨hh, rfl⟩, rfl⟩
          · refine And.intro (fun _ => hnext 0 m3 ?_ hf) (fun h => absurd h (by decide))
            rw [hA, ← hx, iv_f (fun q => ?_)]
            rcases ((hQ x).mp q.2).2 with e | e
            · exact ha0 e
            · exact e.1 hh
          · refine And.intro (fun h => absurd rfl h) (fun _ => ?_)
            refine kCall_mono (hparts m3 i 1 (fun y => G y ∧ y ≠ x) hRm e85 (Or.inr rfl) (fun y hy hyz => ?_) (fun y q => hGz y q.1)) (Nat.le_of_ble_eq_true rfl) ?_
            · rw [hpl y hy hyz]
              refine and_congr_right (fun _ => not_congr ?_)
              constructor
              · intro e
                have h1 := jO_in hD hy hyz
                exact cR_inj hD hy c1 (by rw [h1.2, c2, e])
              · intro e
                rw [e]; exact hjx
            · rw [if_pos rfl]
              rintro _ m4 ⟨rfl, f4⟩
              have f4' : ∀ o, o ≠ 86 → m4 o = m1 o := fun o ho => by rw [f4 o ho]; exact hf o ho
              refine And.intro (fun hle => hnext 0 m4 ?_ f4') (fun hlt => hnext 1 m4 ?_ f4')
              · have hle : ptN w d l (nC X) (fun y => G y ∧ y ≠ x) (cuN c n) ≤ P0 := hle
                rw [hA, ← hx, iv_f (fun q => ?_)]
                rcases ((hQ x).mp q.2).2 with e | e
                · exact ha0 e
                · have := e.2; omega
              · have hlt : P0 < ptN w d l (nC X) (fun y => G y ∧ y ≠ x) (cuN c n) := hlt
                rw [hA, ← hx, iv_t ⟨hq2.1, (hQ x).mpr ⟨hgx, Or.inr ⟨hh, hlt⟩⟩⟩]
    exact loop 81 0 m2 (by omega) (by omega) f2
  · have h1 : ¬ a = 1 := h1
    have h2 : a = 2 := h2
    refine kCall_mono (hparts m2 (-1) 0 G hR2 (f2 85 (by decide)) (Or.inl rfl) (fun x hx hxz => (by
      rw [hpl x hx hxz]
      have := jO_in hD hx hxz
      exact ⟨fun q => q.1, fun q => ⟨q, by omega⟩⟩)) hGz) (Nat.le_of_ble_eq_true rfl) ?_
    rintro _ m3 ⟨rfl, f3⟩
    refine hfin _ m3 ?_ (fun o ho => by rw [f3 o ho]; exact f2 o ho)
    unfold figA
    rw [if_neg (by decide), if_neg (by omega), if_neg h1, if_pos h2, hGd]
  · have h1 : a = 1 := h1
    refine hfin _ m2 ?_ f2
    unfold figA
    rw [if_neg (by omega), if_pos h1, hP0, hGd]
theorem pair_plane (X : Xv) (m : Mem) {w d l : Int} (hI : Inv X w d l m) (n z a : Int) : kPair X 155 274 [vI n, vI z, vI a] m (Inv X w d l) := by
  obtain ⟨hB, hl, hW, hR, h60, h31⟩ := id hI
  obtain ⟨hD, hN, hG⟩ := id hB
  have hM := WF_WM hW
  refine kp2 (k1 := 6) (k2 := 6) (by decide) (by decide) ?_
  refine kCall_ofT ok_X11_plane rfl (Nat.le_of_ble_eq_true rfl) (fun T hT => ?_)
  have hno : ¬ ((0 ≤ n ∧ n < m 9 14) ∧ (0 ≤ z ∧ z < l) ∧ (0 ≤ a ∧ a ≤ 3)) → T (some (vI (-1))) m := by
    intro h
    refine hT _ _ ⟨_, rfl, kCall_mono (c_X12_plane X m m hD hN hM hR n z a) (Nat.le_refl _) ?_⟩
    rintro _ m2 (⟨-, rfl, rfl⟩ | ⟨h2, -⟩)
    · exact ⟨rfl, hI⟩
    · exact absurd h2 h
  refine kW_go ok_X11_plane [] 20 ?_
  refine kCall_mono (c_X11_isNet X m n) (Nat.le_of_ble_eq_true rfl) ?_
  rintro _ m ⟨rfl, rfl⟩
  refine And.intro (fun h => hno (fun q => b2i_0.mp h q.1)) (fun h => ?_)
  have hnn := b2i_n.mp h
  refine kCall_mono (c_X11_isLayer X m z) (Nat.le_of_ble_eq_true rfl) ?_
  rw [hG.2.2.1]
  rintro _ m ⟨rfl, rfl⟩
  refine And.intro (fun h => hno (fun q => b2i_0.mp h q.2.1)) (fun h => ?_)
  have hz := b2i_n.mp h
  refine And.intro (fun h => hno (fun q => by have := q.2.2; omega)) (fun h0 => And.intro (fun h3 => ?_) (fun h => hno (fun q => by have := q.2.2; omega)))
  refine kCall_mono (c_X4_figure X m hB hM n z a hnn hz (by omega)) (Nat.le_of_ble_eq_true rfl) ?_
  rintro _ m1 ⟨rfl, hf⟩
  have hI1 : Inv X w d l m1 := inv_k hI (fun o ho => hf o (by omega))
  refine hT _ _ ⟨_, rfl, kCall_mono (c_X12_plane X m m1 hD hN hM (RR_ref (fun o a _ => hf o (by omega)) hR) n z a) (Nat.le_refl _) ?_⟩
  rintro _ m2 (⟨h2, -⟩ | ⟨-, rfl, hR2, hf2⟩)
  · exact absurd ⟨hnn, hz, by omega, by omega⟩ h2
  · exact ⟨rfl, inv_mk hI1 (m1 := m1) (c' := m1) (fun _ _ _ => rfl) Es_rf hI1.2.2.1 rfl rfl hf2 (RR_es (Es_of (fun o ho => hf o (by omega))) hR2)⟩
