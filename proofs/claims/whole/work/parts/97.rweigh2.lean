/-! the reference weighs all cells -/
set_option maxRecDepth 100000 in
set_option maxHeartbeats 1000000 in
theorem c_X12_weigh (X : Xv) (c m : Mem) {w d l mv st vi be : Int} {ex : Int → Int} {n : Int} {J : Int → Prop} (hD : okD w d l) (hs : srt c) (hG : RelG w d l c m) (hn : 0 ≤ n ∧ n < c 9 14) (hR : RWf w d l mv st vi be ex n m) (hJ : ∀ x, inC w d l x → (m 78 (cR w d x) ≠ 0 ↔ J x)) : kCall (eX X) 6 M_X12_weigh.1 [vR 54, vI n] m (fun r m' => r = none ∧ (∀ o, o ≠ 79 → o ≠ 80 → m' o = m o) ∧ (∀ x, inC w d l x → (m' 80 (cR w d x) ≠ 0 ↔ frT w d l (cntT m) c n 0 x)) ∧ wsOk w d l mv (frT w d l (cntT m) c n 0) J (csF st vi ex) be m' ∧ ∀ x dir, inC w d l x → (0 ≤ dir ∧ dir < 5) → wsAt w d l mv (frT w d l (cntT m) c n 0) J (csF st vi ex) be m' x dir) := by
  have ha := hs.1
  have hd := hG.1
  have hn8 : 0 ≤ n ∧ n < 8 := by omega
  refine kCall_ofT ok_X12_weigh rfl (Nat.le_of_ble_eq_true rfl) (fun T hT => ?_)
  obtain ⟨F, hFe⟩ : ∃ F, F = frT w d l (cntT m) c n 0 := ⟨_, rfl⟩
  rw [← hFe] at hT
  have hsumz : ∀ m' : Mem, (∀ i : Int, (0 ≤ i ∧ i < 1620) → 0 ≤ m' 79 i) → 0 ≤ sumN (m' 79) 1620 := fun m' h => by
    have := sumN_ge (f := fun _ => (0 : Int)) (g := m' 79) (k := 1620) (fun i h1 h2 => h i ⟨h1, by omega⟩)
    rw [sumN_z (f := fun _ => (0 : Int)) (fun _ _ _ => rfl)] at this
    exact this
  -- the rounds
  have rounds : ∀ (z : Nat) (m0 : Mem) (x3 x4 : Option AV), (sumN (m0 79) 1620).toNat = z → (∀ o, o ≠ 79 → o ≠ 80 → m0 o = m o) → (∀ x, inC w d l x → (m0 80 (cR w d x) ≠ 0 ↔ F x)) → (∀ j : Int, (0 ≤ j ∧ j < 324) → ¬ inRf w d l j → m0 80 j = 0) → wsOk w d l mv F J (csF st vi ex) be m0 → kW (eX X) 5 M_X12_weigh T 9 [some (vR 54), some (vI n), some (vI 1), x3, x4] [] m0 := by
    intro z
    induction z using Nat.strongRecOn with
    | ind z ihz =>
      intro m0 x3 x4 hz hf0 hF0 hO0 hW0
      obtain ⟨K, hKd⟩ : ∃ K : Int → Mem → (Int → Prop) → Prop, ∀ more m' D, K more m' D ↔ ((∀ o, o ≠ 79 → m' o = m0 o) ∧ wsOk w d l mv F J (csF st vi ex) be m' ∧ ((more = 0 ∧ m' = m0 ∧ ∀ x dir, inC w d l x → D (cR w d x) → (0 ≤ dir ∧ dir < 5) → wsAt w d l mv F J (csF st vi ex) be m0 x dir) ∨ (more = 1 ∧ sumN (m' 79) 1620 < sumN (m0 79) 1620))) := ⟨_, fun _ _ _ => Iff.rfl⟩
      -- one cell
      have one : ∀ (more : Int) (m' : Mem) (D : Int → Prop) (j : Int) (Q : Option AV → Mem → Prop), K more m' D → (0 ≤ j ∧ j < 324) → (∀ r m2, (r = some (vI 0) ∧ K more m2 (fun i => D i ∨ i = j)) ∨ (r = some (vI 1) ∧ K 1 m2 (fun i => D i ∨ i = j)) → Q r m2) → kCall (eX X) 5 M_X12_relax.1 [vR 54, vI n, vI j] m' Q := by
        intro more m' D j Q hK hj hQ
        obtain ⟨k1, k2, k3⟩ := (hKd _ _ _).mp hK
        have f54 : m' 54 = m 54 := by rw [k1 54 (by decide), hf0 54 (by decide) (by decide)]
        by_cases hin : inRf w d l j
        · obtain ⟨hxi, hxe⟩ := cC_in hin
          have hd' : dimM m' w d l := by unfold dimM fld at hd ⊢; rw [f54]; exact hd
          have hR' : RWf w d l mv st vi be ex n m' := RWf_same hR (fun o ho => by rw [k1 o (by omega), hf0 o (by omega) (by omega)])
          have := c_X12_relax X m' hd' hn8 hR' (F := F) (J := J) (fun x hx => by rw [k1 80 (by decide)]; exact hF0 x hx) (fun x hx => by rw [k1 78 (by decide), hf0 78 (by decide) (by decide)]; exact hJ x hx) k2 (cC w d j) hxi
          rw [hxe] at this
          refine kCall_mono this (Nat.le_refl _) ?_
          rintro r m2 ⟨g1, g2, g3⟩
          refine hQ r m2 ?_
          rcases g3 with ⟨hr, rfl, hat⟩ | ⟨hr, hlt⟩
          · refine Or.inl ⟨hr, (hKd _ _ _).mpr ⟨k1, k2, ?_⟩⟩
            rcases k3 with ⟨e1, e2, e3⟩ | h
            · refine Or.inl ⟨e1, e2, fun x dir hx hDx hdir => ?_⟩
              rcases hDx with hDx | hDx
              · exact e3 x dir hx hDx hdir
              · have : x = cC w d j := cR_inj hD hx hxi (by rw [hDx, hxe])
                rw [this, ← e2]
                exact hat dir hdir
            · exact Or.inr h
          · refine Or.inr ⟨hr, (hKd _ _ _).mpr ⟨fun o ho => by rw [g1 o ho]; exact k1 o ho, g2, Or.inr ⟨rfl, ?_⟩⟩⟩
            rcases k3 with ⟨e1, e2, e3⟩ | ⟨e1, e2⟩
            · rw [← e2]; exact hlt
            · omega
        · refine kCall_mono (c_X12_relax0 X m' n j hj (by rw [k1 80 (by decide)]; exact hO0 j hj hin)) (Nat.le_refl _) ?_
          rintro r m2 ⟨rfl, rfl⟩
          refine hQ _ _ (Or.inl ⟨rfl, (hKd _ _ _).mpr ⟨k1, k2, ?_⟩⟩)
          rcases k3 with ⟨e1, e2, e3⟩ | h
          · refine Or.inl ⟨e1, e2, fun x dir hx hDx hdir => ?_⟩
            rcases hDx with hDx | hDx
            · exact e3 x dir hx hDx hdir
            · exact absurd (by rw [← hDx]; exact (cR_in hD hx).1) hin
          · exact Or.inr h
      have hK01 : ∀ {more m' D}, K more m' D → more = 0 ∨ more = 1 := by
        intro more m' D hK
        rcases ((hKd _ _ _).mp hK).2.2 with ⟨h, -⟩ | ⟨h, -⟩
        · exact Or.inl h
        · exact Or.inr h
      have hKc : ∀ {more m' D D'}, (∀ i, (0 ≤ i ∧ i < 324) → D' i → D i) → K more m' D → K more m' D' := by
        intro more m' D D' hDD hK
        obtain ⟨k1, k2, k3⟩ := (hKd _ _ _).mp hK
        refine (hKd _ _ _).mpr ⟨k1, k2, ?_⟩
        rcases k3 with ⟨e1, e2, e3⟩ | h
        · exact Or.inl ⟨e1, e2, fun x dir hx hDx hdir => e3 x dir hx (hDD _ (cR_geo hD hx).1 hDx) hdir⟩
        · exact Or.inr h
      have hend : ∀ (more : Int) (m' : Mem) (y3 y4 : Option AV), K more m' (fun _ => True) → kW (eX X) 5 M_X12_weigh T 19 [some (vR 54), some (vI n), some (vI more), y3, y4] [] m' := by
        intro more m' y3 y4 hK
        obtain ⟨k1, k2, k3⟩ := (hKd _ _ _).mp hK
        rcases k3 with ⟨rfl, rfl, e3⟩ | ⟨rfl, e2⟩
        · refine kW_go ok_X12_weigh [10] 20 ?_
          refine And.intro (fun _ => hT _ _ ⟨rfl, hf0, hF0, hW0, fun x dir hx hdir => e3 x dir hx trivial hdir⟩) (fun h => absurd rfl h)
        · refine kW_go ok_X12_weigh [9] 20 ?_
          have h1 := hsumz m' (fun i hi => (k2.1 i hi).1)
          exact ihz _ (by omega) m' y3 y4 rfl (fun o a b => by rw [k1 o a]; exact hf0 o a b) (fun x hx => by rw [k1 80 (by decide)]; exact hF0 x hx) (fun j hj hj2 => by rw [k1 80 (by decide)]; exact hO0 j hj hj2) k2
      -- down
      have down : ∀ (q : Nat) (j more : Int) (m' : Mem) (y4 : Option AV), j + 1 = q → j < 324 → K more m' (fun _ => True) → kW (eX X) 5 M_X12_weigh T 15 [some (vR 54), some (vI n), some (vI more), some (vI j), y4] [] m' := by
        intro q
        induction q with
        | zero =>
          intro j more m' y4 hjq hj hK
          refine kW_go ok_X12_weigh [19] 20 ?_
          exact And.intro (fun _ => hend more m' _ _ hK) (fun h => absurd h (by omega))
        | succ q ih =>
          intro j more m' y4 hjq hj hK
          have hnext : ∀ (more2 : Int) (m2 : Mem), K more2 m2 (fun i => True ∨ i = j) → kW (eX X) 5 M_X12_weigh T 18 [some (vR 54), some (vI n), some (vI more), some (vI j), y4] [vI more2] m2 := by
            intro more2 m2 hK2
            refine kW_go ok_X12_weigh [15] 20 ?_
            exact ⟨by constructor <;> omega, ih (j + -1) more2 m2 y4 (by omega) (by omega) (hKc (fun i _ _ => Or.inl trivial) hK2)⟩
          refine kW_go ok_X12_weigh [18] 20 ?_
          refine And.intro (fun h => absurd h (by omega)) (fun _ => ?_)
          refine one more m' _ j _ hK (by omega) ?_
          rintro r m2 (⟨rfl, hK2⟩ | ⟨rfl, hK2⟩)
          · refine And.intro (fun h => absurd rfl h) (fun _ => And.intro (fun hm0 => ?_) (fun hm1 => ?_))
            · have hm0 : more = 0 := hm0
              rw [hm0] at hK2
              have := hnext 0 m2 hK2
              rw [hm0] at this ⊢
              exact this
            · have h1 : more = 1 := (hK01 hK2).resolve_left hm1
              rw [h1] at hK2
              have := hnext 1 m2 hK2
              rw [h1] at this ⊢
              exact this
          · exact And.intro (fun _ => hnext 1 m2 hK2) (fun h => absurd h (by decide))
      -- up
      have up : ∀ (q : Nat) (j more : Int) (m' : Mem) (y4 : Option AV), j + q = 324 → 0 ≤ j → K more m' (fun i => i < j) → kW (eX X) 5 M_X12_weigh T 10 [some (vR 54), some (vI n), some (vI more), some (vI j), y4] [] m' := by
        intro q
        induction q with
        | zero =>
          intro j more m' y4 hjq h0 hK
          refine kW_go ok_X12_weigh [15] 20 ?_
          exact And.intro (fun _ => down 324 323 more m' y4 (by omega) (by omega) (hKc (fun i hi _ => by omega) hK)) (fun h => absurd h (by omega))
        | succ q ih =>
          intro j more m' y4 hjq h0 hK
          have hnext : ∀ (more2 : Int) (m2 : Mem), K more2 m2 (fun i => i < j ∨ i = j) → kW (eX X) 5 M_X12_weigh T 13 [some (vR 54), some (vI n), some (vI more), some (vI j), y4] [vI more2] m2 := by
            intro more2 m2 hK2
            refine kW_go ok_X12_weigh [10] 20 ?_
            exact ⟨by constructor <;> omega, ih (j + 1) more2 m2 y4 (by omega) (by omega) (hKc (fun i _ hi => by omega) hK2)⟩
          refine kW_go ok_X12_weigh [13] 20 ?_
          refine And.intro (fun h => absurd h (by omega)) (fun _ => ?_)
          refine one more m' _ j _ hK (by omega) ?_
          rintro r m2 (⟨rfl, hK2⟩ | ⟨rfl, hK2⟩)
          · refine And.intro (fun h => absurd rfl h) (fun _ => And.intro (fun hm0 => ?_) (fun hm1 => ?_))
            · have hm0 : more = 0 := hm0
              rw [hm0] at hK2
              have := hnext 0 m2 hK2
              rw [hm0] at this ⊢
              exact this
            · have h1 : more = 1 := (hK01 hK2).resolve_left hm1
              rw [h1] at hK2
              have := hnext 1 m2 hK2
              rw [h1] at this ⊢
              exact this
          · exact And.intro (fun _ => hnext 1 m2 hK2) (fun h => absurd h (by decide))
      refine kW_go ok_X12_weigh [10] 20 ?_
      refine And.intro (fun h => absurd h (by decide)) (fun _ => up 324 0 0 m0 x4 (by omega) (by omega) ((hKd _ _ _).mpr ⟨fun _ _ => rfl, hW0, Or.inl ⟨rfl, rfl, fun x dir hx hDx _ => ?_⟩⟩))
      have := (cR_geo hD hx).1
      omega
  -- the first weights
  obtain ⟨V, hV⟩ : ∃ V : Mem → Int → Prop, ∀ m' i, V m' i ↔ ((inRf w d l (i / 5) ∧ m 78 (i / 5) ≠ 0 ∧ m' 79 i = 0) ∨ (¬ (inRf w d l (i / 5) ∧ m 78 (i / 5) ≠ 0) ∧ m' 79 i = 1000000000)) := ⟨_, fun _ _ => Iff.rfl⟩
  have first : ∀ (q : Nat) (j : Int) (m' : Mem) (x3 x4 : Option AV), j + q = 324 → 0 ≤ j → (∀ o, o ≠ 79 → o ≠ 80 → m' o = m o) → (∀ x, inC w d l x → cR w d x < j → (m' 80 (cR w d x) ≠ 0 ↔ F x)) → (∀ i : Int, (0 ≤ i ∧ i < j) → ¬ inRf w d l i → m' 80 i = 0) → (∀ i : Int, (0 ≤ i ∧ i < 5 * j) → V m' i) → kW (eX X) 5 M_X12_weigh T 1 [some (vR 54), some (vI n), some (vI j), x3, x4] [] m' := by
    intro q
    induction q with
    | zero =>
      intro j m' x3 x4 hjq h0 hf hF1 hO1 hV1
      refine kW_go ok_X12_weigh [9] 20 ?_
      refine And.intro (fun _ => ?_) (fun h => absurd h (by omega))
      have hst : ∀ x dir, inC w d l x → (0 ≤ dir ∧ dir < 5) → (J x ∧ stl w d m' x dir = 0) ∨ (¬ J x ∧ stl w d m' x dir = 1000000000) := by
        intro x dir hx hdir
        have hix := stl_idx hD hx hdir
        have h1 := (hV _ _).mp (hV1 (5 * cR w d x + dir) (by omega))
        have e : (5 * cR w d x + dir) / 5 = cR w d x := by omega
        rw [e] at h1
        rcases h1 with ⟨a, b, e0⟩ | ⟨a, e0⟩
        · exact Or.inl ⟨(hJ x hx).mp b, e0⟩
        · exact Or.inr ⟨fun z => a ⟨(cR_in hD hx).1, (hJ x hx).mpr z⟩, e0⟩
      refine rounds _ m' _ _ rfl hf (fun x hx => hF1 x hx (by have := (cR_geo hD hx).1; omega)) (fun i hi h2 => hO1 i (by omega) h2) ⟨fun i hi => ?_, fun x dir hx hdir => ?_, fun x dir hx hdir hJx => ?_⟩
      · rcases (hV _ _).mp (hV1 i (by omega)) with ⟨-, -, e⟩ | ⟨-, e⟩ <;> omega
      · rcases hst x dir hx hdir with ⟨a, e⟩ | ⟨a, e⟩
        · exact Or.inr ⟨[], 0, ⟨a, rfl⟩, by rw [e]; rfl⟩
        · exact Or.inl e
      · rcases hst x dir hx hdir with ⟨a, e⟩ | ⟨a, e⟩
        · exact e
        · exact absurd hJx a
    | succ q ih =>
      intro j m' x3 x4 hjq h0 hf hF1 hO1 hV1
      have hjb : 0 ≤ j ∧ j < ((324 : Nat) : Int) := by omega
      have f54 : m' 54 = m 54 := hf 54 (by decide) (by decide)
      have hd' : dimM m' w d l := by unfold dimM fld at hd ⊢; rw [f54]; exact hd
      -- the five weights of a cell
      have five : ∀ (p : Nat) (dir is : Int) (m2 : Mem), dir + p = 5 → 0 ≤ dir → (is = 1 ∧ inRf w d l j ∨ is = 0 ∧ ¬ inRf w d l j) → (∀ o, o ≠ 79 → o ≠ 80 → m2 o = m o) → (∀ x, inC w d l x → cR w d x < j + 1 → (m2 80 (cR w d x) ≠ 0 ↔ F x)) → (∀ i : Int, (0 ≤ i ∧ i < j + 1) → ¬ inRf w d l i → m2 80 i = 0) → (∀ i : Int, (0 ≤ i ∧ i < 5 * j + dir) → V m2 i) → kW (eX X) 5 M_X12_weigh T 4 [some (vR 54), some (vI n), some (vI j), some (vI is), some (vI dir)] [] m2 := by
        intro p
        induction p with
        | zero =>
          intro dir is m2 hdp hd0 his b1 b2 b3 b4
          refine kW_go ok_X12_weigh [1] 20 ?_
          exact And.intro (fun _ => ⟨by constructor <;> omega, ih (j + 1) m2 _ _ (by omega) (by omega) b1 b2 b3 (fun i hi => b4 i (by omega))⟩) (fun h => absurd h (by omega))
        | succ p ihp =>
          intro dir is m2 hdp hd0 his b1 b2 b3 b4
          have hib : 0 ≤ 5 * j + dir ∧ 5 * j + dir < ((1620 : Nat) : Int) := by omega
          have hput : ∀ v : Int, V (mset m2 79 (5 * j + dir) v) (5 * j + dir) → kW (eX X) 5 M_X12_weigh T 6 [some (vR 54), some (vI n), some (vI j), some (vI is), some (vI dir)] [vI v, vI (5 * j + dir), vR 79] m2 := by
            intro v hv
            refine kW_go ok_X12_weigh [4] 20 ?_
            refine ⟨hib, by constructor <;> omega, ihp (dir + 1) is _ (by omega) (by omega) his (fun o a b => by rw [k_mset_ne a]; exact b1 o a b) (fun x hx hlt => by rw [k_mset_ne (by decide)]; exact b2 x hx hlt) (fun i hi h2 => by rw [k_mset_ne (by decide)]; exact b3 i hi h2) (fun i hi => ?_)⟩
            by_cases hii : i = 5 * j + dir
            · rw [hii]; exact hv
            · have := (hV _ _).mp (b4 i (by omega))
              refine (hV _ _).mpr ?_
              rw [k_mset_at, if_neg hii]
              exact this
          have e5 : (5 * j + dir) / 5 = j := by omega
          have hno : ¬ (inRf w d l j ∧ m 78 j ≠ 0) → V (mset m2 79 (5 * j + dir) 1000000000) (5 * j + dir) := fun h => (hV _ _).mpr (Or.inr ⟨by rw [e5]; exact h, by rw [k_mset_at, if_pos rfl]⟩)
          have e78 : m2 78 = m 78 := b1 78 (by decide) (by decide)
          refine kW_go ok_X12_weigh [6] 20 ?_
          refine And.intro (fun h => absurd h (by omega)) (fun _ => ⟨by constructor <;> omega, by constructor <;> omega, And.intro (fun h => ?_) (fun h => ⟨hjb, And.intro (fun h2 => ?_) (fun h2 => ?_)⟩)⟩)
          · have h : is = 0 := h
            refine hput _ (hno (fun z => ?_))
            rcases his with ⟨q1, q2⟩ | ⟨q1, q2⟩
            · omega
            · exact q2 z.1
          · have h2 : m2 78 j = 0 := h2
            rw [e78] at h2
            exact hput _ (hno (fun z => z.2 h2))
          · have h2 : ¬ m2 78 j = 0 := h2
            rw [e78] at h2
            have hi : inRf w d l j := by
              rcases his with ⟨q1, q2⟩ | ⟨q1, q2⟩
              · exact q2
              · exact absurd q1 h
            exact hput _ ((hV _ _).mpr (Or.inl ⟨by rw [e5]; exact hi, by rw [e5]; exact h2, by rw [k_mset_at, if_pos rfl]⟩))
      have hbf : ∀ (v is : Int) (m2 : Mem), m2 = m' → (v = 0 ∨ v = 1) → (is = 1 ∧ inRf w d l j ∨ is = 0 ∧ ¬ inRf w d l j) → (inRf w d l j → (v ≠ 0 ↔ F (cC w d j))) → (¬ inRf w d l j → v = 0) → kW (eX X) 5 M_X12_weigh T 3 [some (vR 54), some (vI n), some (vI j), some (vI is), x4] [vI v, vI j, vR 80] m2 := by
        rintro v is m2 rfl hv his h1 h2
        refine kW_go ok_X12_weigh [4] 20 ?_
        refine ⟨hjb, hv, five 5 0 is _ (by omega) (by omega) his (fun o a b => by rw [k_mset_ne b]; exact hf o a b) (fun x hx hlt => ?_) (fun i hi hni => ?_) (fun i hi => ?_)⟩
        · rw [k_mset_at]
          by_cases hxj : cR w d x = j
          · rw [if_pos hxj]
            have hri := (cR_in hD hx)
            have : cC w d j = x := by rw [← hxj]; exact hri.2
            rw [h1 (by rw [← hxj]; exact hri.1), this]
          · rw [if_neg hxj]; exact hF1 x hx (by omega)
        · rw [k_mset_at]
          by_cases hij : i = j
          · rw [if_pos hij]; exact h2 (by rw [← hij]; exact hni)
          · rw [if_neg hij]; exact hO1 i (by omega) hni
        · have := (hV _ _).mp (hV1 i (by omega))
          refine (hV _ _).mpr ?_
          rw [k_mset_ne (by decide)]
          exact this
      refine kW_go ok_X12_weigh [3] 20 ?_
      refine And.intro (fun h => absurd h (by omega)) (fun _ => ?_)
      refine kCall_mono (c_X12_xOf _ m' j h0) (Nat.le_of_ble_eq_true rfl) ?_
      rintro _ m1 ⟨rfl, rfl⟩
      refine kCall_mono (c_X12_yOf _ m1 j h0 (by omega)) (Nat.le_of_ble_eq_true rfl) ?_
      rintro _ m1 ⟨rfl, rfl⟩
      refine kCall_mono (c_X12_layerOf _ m1 j h0 (by omega)) (Nat.le_of_ble_eq_true rfl) ?_
      rintro _ m1 ⟨rfl, rfl⟩
      refine kCall_mono (c_X12_isCell X m1 hd' _ _ _) (Nat.le_of_ble_eq_true rfl) ?_
      rintro _ m1 ⟨rfl, rfl⟩
      by_cases hin : inRf w d l j
      · obtain ⟨-, i1, i2, i3⟩ := id hin
        rw [b2i_t (by omega)]
        refine And.intro (fun h => absurd h (by decide)) (fun _ => ?_)
        obtain ⟨hxi, hxe⟩ := cC_in hin
        have hG' : RelG w d l c m1 := by
          unfold RelG at hG ⊢
          refine ⟨hd', ?_⟩
          rw [f54, hf 61 (by decide) (by decide), hf 59 (by decide) (by decide), hf 60 (by decide) (by decide), hf 71 (by decide) (by decide), hf 72 (by decide) (by decide)]
          exact hG.2
        have hct : cntT m1 = cntT m := by
          funext o
          unfold cntT
          rw [f54]
        have := c_X12_isFreeT X c m1 hD hs hG' n (cC w d j) 0 hn hxi
        rw [hxe, hct, ← hFe] at this
        refine kCall_mono this (Nat.le_of_ble_eq_true rfl) ?_
        rintro _ m2 ⟨⟨hp, rfl⟩ | ⟨hp, rfl⟩, rfl⟩
        · exact And.intro (fun h => absurd h (by decide)) (fun _ => hbf 1 1 _ rfl (Or.inr rfl) (Or.inl ⟨rfl, hin⟩) (fun _ => ⟨fun _ => hp, fun _ => by decide⟩) (fun z => absurd hin z))
        · exact And.intro (fun _ => hbf 0 1 _ rfl (Or.inl rfl) (Or.inl ⟨rfl, hin⟩) (fun _ => ⟨fun z => absurd rfl z, fun z => absurd z hp⟩) (fun _ => rfl)) (fun h => absurd rfl h)
      · rw [b2i_f (fun q => hin ⟨hjb, by omega, by omega, by omega⟩)]
        exact And.intro (fun _ => hbf 0 0 _ rfl (Or.inl rfl) (Or.inr ⟨rfl, hin⟩) (fun z => absurd z hin) (fun _ => rfl)) (fun h => absurd rfl h)
  refine kW_go ok_X12_weigh [1] 20 ?_
  exact first 324 0 m none none (by omega) (by omega) (fun _ _ _ => rfl) (fun x hx h => by have := (cR_geo hD hx).1; omega) (fun i hi => by omega) (fun i hi => by omega)
