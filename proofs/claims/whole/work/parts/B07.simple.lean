/-! the short calls alike: COUNT, PANEL, FREE, END, SLOW, KEEP, RANK -/
theorem inv_scr {X : Xv} {w d l : Int} {m m' : Mem} (hI : Inv X w d l m) (h : ∀ o, scr o → m' o = m o) : Inv X w d l m' := inv_mk (m1 := m') (c' := m) hI (fun o a b => h o (by unfold scr; omega)) (Es_of (fun o ho => h o (by unfold scr; omega))) hI.2.2.1 (by rw [h 6 (by unfold scr; omega)]) (h 31 (by unfold scr; omega)) (fun _ _ => rfl) (RR_ref (fun o a _ => h o (by unfold scr; omega)) hI.2.2.2.1)
theorem WFs_o {c c' : Mem} (h : ∀ o, 9 ≤ o → o ≤ 12 → c' o = c o) (hw : WFs c) : WFs c' := by
  unfold WFs at hw ⊢
  rw [h 9 (by decide) (by decide), h 10 (by decide) (by decide), h 11 (by decide) (by decide), h 12 (by decide) (by decide)]
  exact hw
theorem WFp_o {w d l : Int} {c c' : Mem} (h9 : c' 9 14 = c 9 14) (h13 : c' 13 = c 13) (h14 : c' 14 = c 14) (hw : WFp w d l c) : WFp w d l c' := by
  unfold WFp at hw ⊢
  rw [h9, h13, h14]
  exact hw
theorem WFn_o {w d l n : Int} {c c' : Mem} (h9 : c' 9 14 = c 9 14) (h : ∀ o, 13 ≤ o → o ≤ 19 → o ≠ 15 → c' o = c o) (hw : WFn w d l c n) : WFn w d l c' n := by
  unfold WFn pinT at hw ⊢
  rw [h9, h 13 (by decide) (by decide) (by decide), h 14 (by decide) (by decide) (by decide), h 16 (by decide) (by decide) (by decide), h 17 (by decide) (by decide) (by decide), h 18 (by decide) (by decide) (by decide), h 19 (by decide) (by decide) (by decide)]
  exact hw
theorem RRn_o {w d l n : Int} {c c' r r' : Mem} (h : ∀ o, 13 ≤ o → o ≤ 19 → o ≠ 15 → c' o = c o) (hr : ∀ o, 65 ≤ o → o ≤ 72 → o ≠ 71 → r' o = r o) (hw : RRn w d l c r n) : RRn w d l c' r' n := by
  unfold RRn at hw ⊢
  rw [h 13 (by decide) (by decide) (by decide), h 14 (by decide) (by decide) (by decide), h 16 (by decide) (by decide) (by decide), h 17 (by decide) (by decide) (by decide), h 18 (by decide) (by decide) (by decide), h 19 (by decide) (by decide) (by decide), hr 65 (by decide) (by decide) (by decide), hr 66 (by decide) (by decide) (by decide), hr 67 (by decide) (by decide) (by decide), hr 68 (by decide) (by decide) (by decide), hr 69 (by decide) (by decide) (by decide), hr 70 (by decide) (by decide) (by decide), hr 72 (by decide) (by decide) (by decide)]
  exact hw
theorem pair_count (X : Xv) (m : Mem) {w d l : Int} (hI : Inv X w d l m) (a : Int) : kPair X 171 314 [vI a] m (Inv X w d l) := by
  refine kp2 (k1 := 1) (k2 := 1) (by decide) (by decide) (kCall_mono (c_X11_count X m a) (Nat.le_refl _) ?_)
  rintro _ m1 ⟨rfl, rfl⟩
  refine ⟨_, rfl, kCall_mono (c_X12_count X m1 a) (Nat.le_refl _) ?_⟩
  rintro _ m2 ⟨rfl, rfl⟩
  obtain ⟨⟨-, -, hG⟩, -, -, ⟨⟨⟨d1, d2, d3, -⟩, ⟨s1, -⟩, ⟨s2, -⟩, ⟨s3, -⟩, -⟩, -⟩, -⟩ := id hI
  have d1 : m2 54 1 = w := d1
  have d2 : m2 54 2 = d := d2
  have d3 : m2 54 3 = l := d3
  refine ⟨?_, hI⟩
  unfold cntC cntR
  rw [d1, d2, d3, s1, s2, s3, hG.1, hG.2.1, hG.2.2.1]
theorem pair_panel (X : Xv) (m : Mem) {w d l : Int} (hI : Inv X w d l m) (sw sd b a : Int) : kPair X 169 312 [vI sw, vI sd, vI b, vI a] m (Inv X w d l) := by
  have hD := hI.1.1
  have hd := hI.2.2.2.1.1.1
  refine kp2 (k1 := 3) (k2 := 3) (by decide) (by decide) (kCall_mono (c_X11_panel X m hD hI.1.2.2 sw sd b a) (Nat.le_refl _) ?_)
  rintro _ m1 ⟨h, rfl⟩
  rcases h with ⟨hq, rfl⟩ | ⟨hq, rfl⟩
  · refine ⟨_, rfl, kCall_mono (c_X12_panel X m1 hD hd.1 hd.2.1 sw sd b a) (Nat.le_refl _) ?_⟩
    rintro _ m2 ⟨h2, rfl⟩
    rcases h2 with ⟨-, rfl⟩ | ⟨hq2, -⟩
    · exact ⟨rfl, hI⟩
    · exact absurd hq hq2
  · refine ⟨_, rfl, kCall_mono (c_X12_panel X m1 hD hd.1 hd.2.1 sw sd b a) (Nat.le_refl _) ?_⟩
    rintro _ m2 ⟨h2, rfl⟩
    rcases h2 with ⟨hq2, -⟩ | ⟨-, rfl⟩
    · exact absurd hq2 hq
    · exact ⟨rfl, hI⟩
theorem RR_RelF {w d l : Int} {c r : Mem} (h : WF w d l c) (hr : RR w d l c r) : RelF w d l c r := by
  obtain ⟨⟨h1, h2, h3, h4, -⟩, -⟩ := h
  obtain ⟨⟨r1, -, ⟨-, r3⟩, ⟨r4, r5⟩, -, ⟨r6, -⟩, -⟩, hn, r28, r30⟩ := hr
  refine ⟨r1, r4, fun n hnn => ?_, r6, fun n x hnn hx => ?_, r28, r30⟩
  · have a := h4 n hnn
    have b := r3 (c 11 n) a
    exact ⟨r5 n hnn, by rw [r5 n hnn]; exact b.2.2.2.1, by rw [r5 n hnn]; exact b.2.2.2.2⟩
  · obtain ⟨-, -, -, -, h72, -⟩ := hn n hnn
    exact h72 x hx
theorem freeA_one {w d l : Int} {c : Mem} {n x y z : Int} {r r' : Option AV} (h : freeA w d l c n x y z r) (h' : freeA w d l c n x y z r') : r = r' ∧ ∃ v, r = some (vI v) := by
  rcases h with ⟨a, rfl⟩ | ⟨a, ⟨b, rfl⟩ | ⟨b, rfl⟩⟩ <;> rcases h' with ⟨a', rfl⟩ | ⟨a', ⟨b', rfl⟩ | ⟨b', rfl⟩⟩
  · exact ⟨rfl, _, rfl⟩
  · exact absurd a' a
  · exact absurd a' a
  · exact absurd a a'
  · exact ⟨rfl, _, rfl⟩
  · exact absurd b b'
  · exact absurd a a'
  · exact absurd b' b
  · exact ⟨rfl, _, rfl⟩
theorem pair_free (X : Xv) (m : Mem) {w d l : Int} (hI : Inv X w d l m) (n x y z : Int) : kPair X 141 219 [vI n, vI x, vI y, vI z] m (Inv X w d l) := by
  have hD := hI.1.1
  have hs := WF_srt hI.2.2.1
  refine kp2 (k1 := 5) (k2 := 5) (by decide) (by decide) (kCall_mono (c_X11_free X m hD hI.1.2.1 hI.1.2.2 hs n x y z) (Nat.le_refl _) ?_)
  rintro r m1 ⟨h, hf⟩
  obtain ⟨-, v, rfl⟩ := freeA_one h h
  have hR : RR w d l m m1 := RR_ref (fun o a _ => hf o (by omega)) hI.2.2.2.1
  refine ⟨v, rfl, kCall_mono (c_X12_free X m m1 hD hs (RR_RelF hI.2.2.1 hR) n x y z) (Nat.le_refl _) ?_⟩
  rintro r2 m2 ⟨h2, rfl⟩
  exact ⟨(freeA_one h h2).1.symm, inv_scr hI (fun o ho => hf o (by unfold scr at ho; omega))⟩
set_option maxRecDepth 100000 in
theorem pair_end (X : Xv) (m : Mem) {w d l : Int} (hI : Inv X w d l m) (a : Int) : kPair X 131 185 [vI a] m (Inv X w d l) := by
  obtain ⟨hB, hl, hW, hR, h60, h31⟩ := id hI
  refine kp2 (k1 := 1) (k2 := 1) (by decide) (by decide) (kCall_mono (c_X11_end X m a) (Nat.le_refl _) ?_)
  rintro _ m1 ⟨rfl, hm1⟩
  refine ⟨_, rfl, kCall_mono (c_X12_end X m1 a) (Nat.le_refl _) ?_⟩
  rintro _ m2 ⟨rfl, hm2⟩
  have e5 : m 54 5 = m 6 3 := hR.1.2.1.1
  by_cases h : 0 ≤ a ∧ a ≤ m 6 3
  · rw [if_pos h] at hm1
    have f : ∀ o, o ≠ 6 → m1 o = m o := fun o ho => by rw [hm1]; exact k_mset_ne ho
    have f6 : ∀ j, m1 6 j = if j = 3 then a else m 6 j := fun j => by rw [hm1]; exact k_mset_at
    have e54 : m1 54 5 = m 6 3 := by rw [f 54 (by decide)]; exact e5
    rw [e54, if_pos h] at hm2
    have g : ∀ o, o ≠ 54 → m2 o = m1 o := fun o ho => by rw [hm2]; exact k_mset_ne ho
    have g54 : ∀ j, m2 54 j = if j = 5 then a else m 54 j := fun j => by rw [hm2, ← f 54 (by decide)]; exact k_mset_at
    have e63 : m1 6 3 = a := by rw [f6, if_pos rfl]
    obtain ⟨w1, w2, w3, w4, w5, ⟨w6, w7⟩, w8⟩ := hW
    obtain ⟨⟨s1, ⟨-, s2⟩, ⟨s3, s4⟩, ⟨s5, s6⟩, s7, s8, s9⟩, hn, r28, r30⟩ := hR
    refine ⟨by rw [e54], inv_mk (m1 := m1) (c' := m1) hI (fun o a b => f o (by omega)) Es_rf ⟨WFs_o (fun o a b => f o (by omega)) w1, WFp_o (by rw [f 9 (by decide)]) (f 13 (by decide)) (f 14 (by decide)) w2, fun n hn => WFn_o (by rw [f 9 (by decide)]) (fun o a b _ => f o (by omega)) (w3 n hn), ?_, ?_, ?_, ?_⟩ (by rw [f6, if_neg (by decide)]) (f 31 (by decide)) (fun o ho => g o (by omega)) ⟨⟨?_, ?_, ?_, ?_, ?_, ?_, ?_⟩, fun n h => RRn_o (fun o a b _ => f o (by omega)) (fun o a b _ => by rw [g o (by omega), f o (by omega)]) (hn n h), ?_, ?_⟩⟩
    · rw [f 16 (by decide), f 17 (by decide)]; exact w4
    · rw [f 15 (by decide)]; exact w5
    · rw [e63, f 7 (by decide)]; exact ⟨by omega, fun i hi => w7 i (by omega)⟩
    · rw [f 47 (by decide)]; exact w8
    · unfold dimM fld
      rw [g54, g54, g54, if_neg (by decide), if_neg (by decide), if_neg (by decide)]
      exact s1
    · rw [g54, if_pos rfl, e63, g 55 (by decide), f 55 (by decide), f 7 (by decide)]
      exact ⟨rfl, fun i hi => s2 i (by omega)⟩
    · rw [g54, if_neg (by decide), f 9 (by decide), g 56 (by decide), g 57 (by decide), g 58 (by decide), g 59 (by decide), g 60 (by decide), f 56 (by decide), f 57 (by decide), f 58 (by decide), f 59 (by decide), f 60 (by decide), f 10 (by decide)]
      exact ⟨s3, s4⟩
    · rw [g54, if_neg (by decide), f 9 (by decide), g 61 (by decide), f 61 (by decide), f 11 (by decide)]
      exact ⟨s5, s6⟩
    · rw [g 62 (by decide), g 63 (by decide), g 64 (by decide), f 62 (by decide), f 63 (by decide), f 64 (by decide), f 12 (by decide), f 13 (by decide), f 14 (by decide)]
      exact s7
    · rw [g 71 (by decide), f 71 (by decide), f 15 (by decide)]
      exact s8
    · rw [g 88 (by decide), f 88 (by decide), f 47 (by decide)]
      exact s9
    · rw [g54, if_neg (by decide)]; exact r28
    · rw [g54, if_neg (by decide)]; exact r30
  · rw [if_neg h] at hm1
    subst hm1
    rw [e5, if_neg h] at hm2
    subst hm2
    exact ⟨by rw [e5], hI⟩
set_option maxRecDepth 100000 in
theorem pair_slow (X : Xv) (m : Mem) {w d l : Int} (hI : Inv X w d l m) (a b : Int) : kPair X 163 293 [vI a, vI b] m (Inv X w d l) := by
  obtain ⟨hB, hl, hW, hR, h60, h31⟩ := id hI
  have hD := hB.1
  have hl1 : 1 ≤ l ∧ l ≤ 4 := hD.2.2
  refine kp2 (k1 := 3) (k2 := 3) (by decide) (by decide) (kCall_mono (c_X11_slow X m hD hB.2.2 hl a b) (Nat.le_refl _) ?_)
  rintro _ m1 (⟨h, rfl, hm1⟩ | ⟨h, rfl, hm1⟩)
  · have f : ∀ o, o ≠ 47 → m1 o = m o := fun o ho => by rw [hm1]; exact k_mset_ne ho
    have f47 : ∀ j, m1 47 j = if j = a + 1 then b else m 47 j := fun j => by rw [hm1]; exact k_mset_at
    refine ⟨1, rfl, kCall_mono (c_X12_slow X m1 (w := w) (d := d) hl1 (by rw [f 54 (by decide)]; exact hR.1.1.2.2.1) a b) (Nat.le_refl _) ?_⟩
    rintro _ m2 (⟨-, rfl, hm2⟩ | ⟨h2, -⟩)
    · have g : ∀ o, o ≠ 88 → m2 o = m1 o := fun o ho => by rw [hm2]; exact k_mset_ne ho
      have g88 : ∀ j, m2 88 j = if j = (if a = -1 then 4 else a) then b else m 88 j := fun j => by rw [hm2, ← f 88 (by decide)]; exact k_mset_at
      obtain ⟨w1, w2, w3, w4, w5, w6, w8⟩ := hW
      obtain ⟨⟨s1, s2, s3, s5, s7, s8, s9⟩, hn, r28, r30⟩ := hR
      have gg : ∀ o, o ≠ 47 → o ≠ 88 → m2 o = m o := fun o p q => by rw [g o q, f o p]
      refine ⟨rfl, inv_mk (m1 := m1) (c' := m1) hI (fun o a b => f o (by omega)) Es_rf ⟨WFs_o (fun o a b => f o (by omega)) w1, WFp_o (by rw [f 9 (by decide)]) (f 13 (by decide)) (f 14 (by decide)) w2, fun n hn => WFn_o (by rw [f 9 (by decide)]) (fun o a b _ => f o (by omega)) (w3 n hn), ?_, ?_, ?_, ?_⟩ (by rw [f 6 (by decide)]) (f 31 (by decide)) (fun o ho => g o (by omega)) ⟨⟨?_, ?_, ?_, ?_, ?_, ?_, ?_, ?_⟩, fun n h => RRn_o (fun o a b _ => f o (by omega)) (fun o a b _ => gg o (by omega) (by omega)) (hn n h), ?_, ?_⟩⟩
      · rw [f 16 (by decide), f 17 (by decide)]; exact w4
      · rw [f 15 (by decide)]; exact w5
      · rw [f 6 (by decide), f 7 (by decide)]; exact w6
      · intro j hj
        rw [f47]
        by_cases e : j = a + 1
        · rw [if_pos e]; exact h.2
        · rw [if_neg e]; exact w8 j hj
      · unfold dimM fld
        rw [gg 54 (by decide) (by decide)]
        exact s1
      · rw [gg 54 (by decide) (by decide), gg 55 (by decide) (by decide), f 6 (by decide), f 7 (by decide)]
        exact s2
      · rw [gg 54 (by decide) (by decide), f 9 (by decide), gg 56 (by decide) (by decide), gg 57 (by decide) (by decide), gg 58 (by decide) (by decide), gg 59 (by decide) (by decide), gg 60 (by decide) (by decide), f 10 (by decide)]
        exact s3
      · rw [gg 54 (by decide) (by decide), f 9 (by decide), gg 61 (by decide) (by decide), f 11 (by decide)]
        exact s5
      · rw [gg 62 (by decide) (by decide), gg 63 (by decide) (by decide), gg 64 (by decide) (by decide), f 12 (by decide), f 13 (by decide), f 14 (by decide)]
        exact s7
      · rw [gg 71 (by decide) (by decide), f 15 (by decide)]
        exact s8
      · rw [g88, f47]
        have ha := h.1
        by_cases e : a = -1
        · rw [if_pos e, if_pos rfl, if_pos (by omega)]
        · rw [if_neg e, if_neg (by omega), if_neg (by omega)]
          exact s9.1
      · intro k hk
        rw [g88, f47]
        have ha := h.1
        by_cases e : a = -1
        · rw [if_pos e, if_neg (by omega), if_neg (by omega)]
          exact s9.2 k hk
        · rw [if_neg e]
          by_cases e2 : k = a
          · rw [if_pos e2, if_pos (by omega)]
          · rw [if_neg e2, if_neg (by omega)]
            exact s9.2 k hk
      · rw [gg 54 (by decide) (by decide)]; exact r28
      · rw [gg 54 (by decide) (by decide)]; exact r30
    · exact absurd h h2
  · subst hm1
    refine ⟨0, rfl, kCall_mono (c_X12_slow X m1 (w := w) (d := d) hl1 hR.1.1.2.2.1 a b) (Nat.le_refl _) ?_⟩
    rintro _ m2 (⟨h2, -⟩ | ⟨-, rfl, rfl⟩)
    · exact absurd h2 h
    · exact ⟨rfl, hI⟩
