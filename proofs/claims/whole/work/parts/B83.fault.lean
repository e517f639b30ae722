/-! FAULT, SORT alike -/
/-- the tape's sign at a place -/
def chA (c : Mem) (i : Int) : Int := if 0 ≤ i ∧ i < c 6 3 then c 7 i else -1
theorem chA_TPE {w d l : Int} {c : Mem} (hW : WF w d l c) : TPE (chA c) (c 6 3) := by
  have h := hW.2.2.2.2.2.1
  refine ⟨h.1, fun i hi => if_neg (by omega), fun i hi => ?_⟩
  unfold chA
  rw [if_pos hi]
  exact (h.2 i hi).1
theorem RR_rt {w d l s : Int} {c r r' : Mem} (hs : c 9 13 ≤ s) (h : rtS s r r') (hR : RR w d l c r) : RR w d l c r' := by
  obtain ⟨rx, hrx⟩ : ∃ rx : Mem, ∀ o, rx o = if 56 ≤ o ∧ o ≤ 60 then r o else r' o := ⟨_, fun _ => rfl⟩
  have e1 : ∀ o, ¬ (56 ≤ o ∧ o ≤ 60) → rx o = r' o := fun o ho => by rw [hrx, if_neg ho]
  have e2 : ∀ o, (56 ≤ o ∧ o ≤ 60) → rx o = r o := fun o ho => by rw [hrx, if_pos ho]
  have hRx : RR w d l c rx := by
    refine RR_fld (fun o a b => ?_) (fun i hi => ?_) ?_ ?_ hR
    · by_cases ho : 56 ≤ o ∧ o ≤ 60
      · exact e2 o ho
      · rw [e1 o ho]; exact h.1 o (by omega) ho
    · rw [e1 54 (by decide)]; exact h.2.2 i (by omega) (by omega) (by omega)
    · rw [e1 54 (by decide), h.2.2 28 (by decide) (by decide) (by decide)]; exact hR.2.2.1
    · rw [e1 54 (by decide), h.2.2 30 (by decide) (by decide) (by decide)]; exact hR.2.2.2
  have e3 : ∀ o, 56 ≤ o → o ≤ 60 → ∀ j, j ≠ s → rx o j = r' o j := fun o a b j hj => by rw [e2 o ⟨a, b⟩]; exact (h.2.1 o a b j hj).symm
  unfold RR RRs RRn dimM fld at hRx ⊢
  rw [e1 54 (by decide), e1 55 (by decide), e1 61 (by decide), e1 62 (by decide), e1 63 (by decide), e1 64 (by decide), e1 65 (by decide), e1 66 (by decide), e1 67 (by decide), e1 68 (by decide), e1 69 (by decide), e1 70 (by decide), e1 71 (by decide), e1 72 (by decide), e1 88 (by decide)] at hRx
  obtain ⟨⟨a1, a2, ⟨a3, a4⟩, a5⟩, b⟩ := hRx
  refine ⟨⟨a1, a2, ⟨a3, fun s' hs' => ?_⟩, a5⟩, b⟩
  have := a4 s' hs'
  rw [e3 56 (by decide) (by decide) s' (by omega), e3 57 (by decide) (by decide) s' (by omega), e3 58 (by decide) (by decide) s' (by omega), e3 59 (by decide) (by decide) s' (by omega), e3 60 (by decide) (by decide) s' (by omega)] at this
  exact this
theorem inv_tape {X : Xv} {w d l s : Int} {m m1 m2 : Mem} (hI : Inv X w d l m) (h1 : tpS m m1) (hs : m 9 13 ≤ s) (h2 : rtS s m1 m2) : Inv X w d l m2 := by
  have hR1 : RR w d l m m1 := RR_ref (fun o a _ => h1.1 o (by omega) (by omega)) hI.2.2.2.1
  refine inv_mk (m1 := m1) (c' := m) hI (fun o a b => h1.1 o (by omega) (by omega)) ?_ hI.2.2.1 (h1.2 0 (by decide) (by decide)) (h1.1 31 (by decide) (by decide)) (fun o ho => h2.1 o (by omega) (by omega)) (RR_rt hs h2 hR1)
  exact ⟨h1.2 3 (by decide) (by decide), h1.1 7 (by decide) (by decide), h1.1 9 (by decide) (by decide), h1.1 10 (by decide) (by decide), h1.1 11 (by decide) (by decide), h1.1 12 (by decide) (by decide), h1.1 13 (by decide) (by decide), h1.1 14 (by decide) (by decide), h1.1 15 (by decide) (by decide), h1.1 16 (by decide) (by decide), h1.1 17 (by decide) (by decide), h1.1 18 (by decide) (by decide), h1.1 19 (by decide) (by decide), h1.1 47 (by decide) (by decide)⟩
theorem inv_CT {X : Xv} {w d l : Int} {m : Mem} (hI : Inv X w d l m) : CT (chA m) (m 6 3) l m := by
  obtain ⟨hB, hl, hW, hR, h60, h31⟩ := id hI
  exact ⟨h60.1, rfl, fun i hi => by unfold chA; rw [if_pos hi]⟩
theorem inv_RT {X : Xv} {w d l : Int} {m m1 : Mem} (hI : Inv X w d l m) (h1 : tpS m m1) : RT (chA m) (m 6 3) l m1 := by
  obtain ⟨hB, hl, hW, hR, h60, h31⟩ := id hI
  refine ⟨by rw [h1.1 54 (by decide) (by decide)]; exact hR.1.1.2.2.1, by rw [h1.1 54 (by decide) (by decide)]; exact hR.1.2.1.1, fun i hi => ?_⟩
  rw [h1.1 55 (by decide) (by decide), hR.1.2.1.2 i hi]
  unfold chA
  rw [if_pos hi]
theorem pair_fault (X : Xv) (m : Mem) {w d l : Int} (hI : Inv X w d l m) : kPair X 132 195 [] m (Inv X w d l) := by
  obtain ⟨hB, hl, hW, hR, h60, h31⟩ := id hI
  obtain ⟨hD, hN, hG⟩ := id hB
  have hL := hD.2.2
  have hg := chA_TPE hW
  refine kp2 (k1 := 6) (k2 := 6) (by decide) (by decide) ?_
  refine kCall_ofT ok_X11_fault rfl (Nat.le_of_ble_eq_true rfl) (fun T hT => ?_)
  refine kW_go ok_X11_fault [] 20 ?_
  refine kCall_mono (c_X8_scan X m hg hL (inv_CT hI)) (Nat.le_of_ble_eq_true rfl) ?_
  rintro _ m1 ⟨rfl, h1, -⟩
  refine hT _ _ ⟨_, rfl, ?_⟩
  refine kCall_ofT ok_X12_fault rfl (Nat.le_of_ble_eq_true rfl) (fun T hT => ?_)
  refine kW_go ok_X12_fault [] 20 ?_
  refine kCall_mono (c_X12_readSort X m1 hg hL (inv_RT hI h1) 6 (by decide)) (Nat.le_of_ble_eq_true rfl) ?_
  rintro _ m2 ⟨rfl, h2, -⟩
  exact hT _ _ ⟨rfl, inv_tape hI h1 (by have := hW.1.1; omega) h2⟩
