/-! TEST alike: the reference, and both -/
set_option maxRecDepth 100000 in
theorem c_X12_isAlone (X : Xv) (c m : Mem) {w d l : Int} (hD : okD w d l) (hM : WM w d l c) (hR : RR w d l c m) (n x : Int) (hnn : 0 ≤ n ∧ n < 8) (hx : inC w d l x) : kCall (eX X) 4 M_X12_isAlone.1 [vR 54, vI n, vI (cR w d x)] m (bP (∀ o : Int, (0 ≤ o ∧ o < c 9 14) → o ≠ n → ¬ cuN c o x ∧ ¬ byP w d l c o x) m) := by
  have h8 := hM.1.2.1
  have hd := hR.1.1
  have g26 : m 54 26 = c 9 14 := hR.1.2.2.2.1.1
  have hgx := (cR_geo hD hx).1
  refine kCall_ofT ok_X12_isAlone rfl (Nat.le_of_ble_eq_true rfl) (fun T hT => ?_)
  obtain ⟨P, hP⟩ : ∃ P : Int → Prop, ∀ o, P o = (o ≠ n → ¬ cuN c o x ∧ ¬ byP w d l c o x) := ⟨_, fun _ => rfl⟩
  have loop : ∀ (q : Nat) (o b : Int) (x5 x6 : Option AV), o + q = c 9 14 → 0 ≤ o → (((∀ j, (0 ≤ j ∧ j < o) → P j) ∧ b = 1) ∨ (¬ (∀ j, (0 ≤ j ∧ j < o) → P j) ∧ b = 0)) → kW (eX X) 3 M_X12_isAlone T 1 [some (vR 54), some (vI n), some (vI (cR w d x)), some (vI b), some (vI o), x5, x6] [] m := by
    intro q
    induction q with
    | zero =>
      intro o b x5 x6 hq h0 hb
      have ho : o = c 9 14 := by omega
      refine kW_go ok_X12_isAlone [1] 20 ?_
      refine And.intro (fun _ => ?_) (fun h => ?_)
      · rcases hb with ⟨a, rfl⟩ | ⟨a, rfl⟩
        · exact hT _ _ ⟨Or.inr rfl, Or.inl ⟨fun j hj hne => by have := a j (by omega); rw [hP] at this; exact this hne, rfl⟩, rfl⟩
        · exact hT _ _ ⟨Or.inl rfl, Or.inr ⟨fun z => a (fun j hj => by rw [hP]; exact z j (by omega)), rfl⟩, rfl⟩
      · have h : o < m 54 26 := h
        omega
    | succ q ih =>
      intro o b x5 x6 hq h0 hb
      have ho8 : 0 ≤ o ∧ o < 8 := by omega
      have hRo := hR.2.1 o ho8
      have hnext : ∀ (b : Int) (x5 x6 : Option AV), (((∀ j, (0 ≤ j ∧ j < o) → P j) ∧ P o ∧ b = 1) ∨ (¬ ((∀ j, (0 ≤ j ∧ j < o) → P j) ∧ P o) ∧ b = 0)) → kW (eX X) 3 M_X12_isAlone T 8 [some (vR 54), some (vI n), some (vI (cR w d x)), some (vI b), some (vI o), x5, x6] [] m := by
        intro b x5 x6 hb
        refine kW_go ok_X12_isAlone [1] 20 ?_
        refine ⟨by constructor <;> omega, ih (o + 1) b x5 x6 (by omega) (by omega) ?_⟩
        have e : (∀ j, (0 ≤ j ∧ j < o + 1) → P j) ↔ (∀ j, (0 ≤ j ∧ j < o) → P j) ∧ P o := by
          constructor
          · intro z
            exact ⟨fun j hj => z j (by omega), z o (by omega)⟩
          · intro z j hj
            by_cases e : j = o
            · rw [e]; exact z.2
            · exact z.1 j (by omega)
        rw [e]
        rcases hb with ⟨a, b, c⟩ | ⟨a, c⟩
        · exact Or.inl ⟨⟨a, b⟩, c⟩
        · exact Or.inr ⟨a, c⟩
      by_cases hon : o = n
      · refine kW_go ok_X12_isAlone [8] 20 ?_
        refine And.intro (fun h => ?_) (fun _ => And.intro (fun _ => ?_) (fun h => absurd hon h))
        · have h : m 54 26 ≤ o := h
          omega
        · refine hnext b x5 x6 ?_
          have hPo : P o := by rw [hP]; exact fun z => absurd hon z
          rcases hb with ⟨a, rfl⟩ | ⟨a, rfl⟩
          · exact Or.inl ⟨a, hPo, rfl⟩
          · exact Or.inr ⟨fun z => a z.1, rfl⟩
      · have hPo : P o ↔ ¬ cuN c o x ∧ ¬ byP w d l c o x := by rw [hP]; exact ⟨fun z => z hon, fun z _ => z⟩
        obtain ⟨Q, hQ⟩ : ∃ Q : Int → Prop, ∀ k, Q k = ((∀ j, (0 ≤ j ∧ j < o) → P j) ∧ ¬ cuN c o x ∧ ∀ j : Int, (0 ≤ j ∧ j < k) → ¬ (nx w d l x j ≠ -1 ∧ cuN c o (nx w d l x j))) := ⟨_, fun _ => rfl⟩
        have inner : ∀ (q : Nat) (k b : Int) (x6 : Option AV), k + q = 4 → 0 ≤ k → ((Q k ∧ b = 1) ∨ (¬ Q k ∧ b = 0)) → kW (eX X) 3 M_X12_isAlone T 4 [some (vR 54), some (vI n), some (vI (cR w d x)), some (vI b), some (vI o), some (vI k), x6] [] m := by
          intro q
          induction q with
          | zero =>
            intro k b x6 hq h0 hb
            have hk : k = 4 := by omega
            subst hk
            refine kW_go ok_X12_isAlone [8] 20 ?_
            refine And.intro (fun _ => hnext b _ _ ?_) (fun h => absurd h (by decide))
            have e : Q 4 ↔ (∀ j, (0 ≤ j ∧ j < o) → P j) ∧ P o := by
              rw [hQ, hPo]
              constructor
              · rintro ⟨a, b, z⟩
                exact ⟨a, b, fun ⟨k, hk, y⟩ => z k hk y⟩
              · rintro ⟨a, b, z⟩
                exact ⟨a, b, fun k hk y => z ⟨k, hk, y⟩⟩
            rw [e] at hb
            rcases hb with ⟨a, c⟩ | ⟨a, c⟩
            · exact Or.inl ⟨a.1, a.2, c⟩
            · exact Or.inr ⟨a, c⟩
          | succ q ih2 =>
            intro k b x6 hq h0 hb
            have eQ : Q (k + 1) ↔ Q k ∧ ¬ (nx w d l x k ≠ -1 ∧ cuN c o (nx w d l x k)) := by
              rw [hQ, hQ]
              constructor
              · rintro ⟨a, b, z⟩
                exact ⟨⟨a, b, fun j hj => z j (by omega)⟩, z k (by omega)⟩
              · rintro ⟨⟨a, b, z⟩, y⟩
                refine ⟨a, b, fun j hj => ?_⟩
                by_cases e : j = k
                · rw [e]; exact y
                · exact z j (by omega)
            have hseven : ∀ (v : Int) (x6 : Option AV), ((Q (k + 1) ∧ v = 1) ∨ (¬ Q (k + 1) ∧ v = 0)) → kW (eX X) 3 M_X12_isAlone T 7 [some (vR 54), some (vI n), some (vI (cR w d x)), some (vI b), some (vI o), some (vI k), x6] [vI v] m := by
              intro v x6 hv
              refine kW_go ok_X12_isAlone [4] 20 ?_
              exact ⟨by constructor <;> omega, ih2 (k + 1) v x6 (by omega) (by omega) hv⟩
            have hmv := c_X12_moved X m hd x k hx
            refine kW_go ok_X12_isAlone [7] 20 ?_
            refine And.intro (fun h => absurd h (by omega)) (fun _ => ?_)
            refine kCall_mono hmv (Nat.le_of_ble_eq_true rfl) ?_
            rintro _ m2 ⟨rfl, rfl⟩
            refine And.intro (fun h => hseven 0 _ (Or.inr ⟨fun z => ?_, rfl⟩)) (fun h => ?_)
            · have h : b = 0 := h
              rcases hb with ⟨a, c⟩ | ⟨a, c⟩
              · omega
              · exact a (eQ.mp z).1
            · have hb1 : Q k := by
                rcases hb with ⟨a, c⟩ | ⟨a, c⟩
                · exact a
                · exact absurd c h
              by_cases hne : nx w d l x k = -1
              · rw [show mR w d l x k = -1 from if_pos hne]
                exact And.intro (fun _ => hseven 1 _ (Or.inl ⟨eQ.mpr ⟨hb1, fun z => z.1 hne⟩, rfl⟩)) (fun h => absurd rfl h)
              · rw [show mR w d l x k = cR w d (nx w d l x k) from if_neg hne]
                have hyi := (nx_in hne).1
                have hg := (cR_geo hD hyi).1
                refine And.intro (fun h => absurd h (by omega)) (fun _ => ?_)
                refine kCall_mono (c_X12_has X m2 o _ ho8 hg) (Nat.le_of_ble_eq_true rfl) ?_
                rintro _ m3 ⟨⟨hh, rfl⟩ | ⟨hh, rfl⟩, rfl⟩
                · exact And.intro (fun _ => hseven 0 _ (Or.inr ⟨fun z => (eQ.mp z).2 ⟨hne, (cuN_72 hRo hyi).mp hh⟩, rfl⟩)) (fun h => absurd h (by decide))
                · exact And.intro (fun h => absurd rfl h) (fun _ => hseven 1 _ (Or.inl ⟨eQ.mpr ⟨hb1, fun z => hh ((cuN_72 hRo hyi).mpr z.2)⟩, rfl⟩))
        have hthree : ∀ (v : Int), ((Q 0 ∧ v = 1) ∨ (¬ Q 0 ∧ v = 0)) → kW (eX X) 3 M_X12_isAlone T 3 [some (vR 54), some (vI n), some (vI (cR w d x)), some (vI b), some (vI o), x5, x6] [vI v] m := by
          intro v hv
          refine kW_go ok_X12_isAlone [4] 20 ?_
          exact inner 4 0 v _ (by omega) (by omega) hv
        have e0 : Q 0 ↔ (∀ j, (0 ≤ j ∧ j < o) → P j) ∧ ¬ cuN c o x := by
          rw [hQ]
          exact ⟨fun z => ⟨z.1, z.2.1⟩, fun z => ⟨z.1, z.2, fun j hj => by omega⟩⟩
        refine kW_go ok_X12_isAlone [3] 20 ?_
        refine And.intro (fun h => ?_) (fun _ => And.intro (fun h => absurd h hon) (fun _ => And.intro (fun h => hthree 0 (Or.inr ⟨fun z => ?_, rfl⟩)) (fun h => ?_)))
        · have h : m 54 26 ≤ o := h
          omega
        · have h : b = 0 := h
          rcases hb with ⟨a, c⟩ | ⟨a, c⟩
          · omega
          · exact a (e0.mp z).1
        · have hb1 : ∀ j, (0 ≤ j ∧ j < o) → P j := by
            rcases hb with ⟨a, c⟩ | ⟨a, c⟩
            · exact a
            · exact absurd c h
          refine kCall_mono (c_X12_has X m o _ ho8 hgx) (Nat.le_of_ble_eq_true rfl) ?_
          rintro _ m3 ⟨⟨hh, rfl⟩ | ⟨hh, rfl⟩, rfl⟩
          · exact And.intro (fun _ => hthree 0 (Or.inr ⟨fun z => (e0.mp z).2 ((cuN_72 hRo hx).mp hh), rfl⟩)) (fun h => absurd h (by decide))
          · exact And.intro (fun h => absurd rfl h) (fun _ => hthree 1 (Or.inl ⟨e0.mpr ⟨hb1, fun z => hh ((cuN_72 hRo hx).mpr z)⟩, rfl⟩))
  refine kW_go ok_X12_isAlone [1] 20 ?_
  exact loop (c 9 14).toNat 0 1 none none (by omega) (by omega) (Or.inl ⟨fun j hj => by omega, rfl⟩)
theorem alo_nets {w d l : Int} {c : Mem} (hM : WM w d l c) {n x : Int} (hx : inC w d l x) : aloP w d l c n x ↔ cuN c n x ∧ c 15 x = 0 ∧ ∀ o : Int, (0 ≤ o ∧ o < c 9 14) → o ≠ n → ¬ cuN c o x ∧ ¬ byP w d l c o x := by
  have h8 := hM.1.2.1
  constructor
  · rintro ⟨a, b, z⟩
    exact ⟨a, b, fun o ho hne => z o (by omega) hne⟩
  · rintro ⟨a, b, z⟩
    refine ⟨a, b, fun o ho hne => ?_⟩
    by_cases h : o < c 9 14
    · exact z o ⟨ho.1, h⟩ hne
    · exact ⟨fun q => h (cuN_am hM ho hx q), fun ⟨k, hk, hn, q⟩ => h (cuN_am hM ho (nx_in hn).1 q)⟩
set_option maxRecDepth 100000 in
theorem c_X12_test (X : Xv) (c m : Mem) {w d l : Int} (hD : okD w d l) (hM : WM w d l c) (hR : RR w d l c m) (z : Int) : kCall (eX X) 5 292 [vR 54, vI z] m (fun r m' => (¬ (0 ≤ z ∧ z < l) ∧ r = some (vI (-1)) ∧ m' = m) ∨ ((0 ≤ z ∧ z < l) ∧ (∃ v, r = some (vI v) ∧ (0 ≤ v ∧ v < 256) ∧ ∀ o : Nat, o < 8 → (bt v o = true ↔ tstP w d l c z (o : Int))) ∧ m' = m)) := by
  have h8 := hM.1.2.1
  have hl := hD.2.2
  have g26 : m 54 26 = c 9 14 := hR.1.2.2.2.1.1
  have e3f : fld m 54 3 = l := hR.1.1.2.2.1
  refine kCall_ofT ok_X12_test rfl (Nat.le_of_ble_eq_true rfl) (fun T hT => ?_)
  refine kW_go ok_X12_test [1] 20 ?_
  show inR (fld m 54 3 - 1) ∧ kCall _ _ _ [vI z, vI 0, vI (fld m 54 3 - 1)] m _
  rw [e3f]
  refine ⟨by constructor <;> omega, ?_⟩
  refine kCall_mono (c_X12_in (eX X) m z 0 _) (Nat.le_of_ble_eq_true rfl) ?_
  rintro _ m ⟨rfl, rfl⟩
  refine And.intro (fun h => ?_) (fun h => hT _ _ (Or.inl ⟨fun q => b2i_0.mp h (by omega), rfl, rfl⟩))
  have hz : 0 ≤ z ∧ z < l := by have := b2i_n.mp h; omega
  obtain ⟨P, hP⟩ : ∃ P : Int → Int → Prop, ∀ n i, P n i = (inRf w d l (81 * z + i) ∧ aloP w d l c n (cC w d (81 * z + i))) := ⟨_, fun _ _ => rfl⟩
  have hPt : ∀ n, 0 ≤ n → n < 8 → (tstP w d l c z n ↔ n < c 9 14 ∧ ∃ i : Int, (0 ≤ i ∧ i < 81) ∧ P n i) := by
    intro n h0 hn
    constructor
    · rintro ⟨x, ⟨hx, hxz⟩, ha⟩
      have hj := jO_in hD hx hxz
      refine ⟨cuN_am hM ⟨h0, hn⟩ hx ha.1, jO w d z x, hj.1, ?_⟩
      rw [hP, ← hj.2, (cR_in hD hx).2]
      exact ⟨(cR_in hD hx).1, ha⟩
    · rintro ⟨hlt, i, hi, hp⟩
      rw [hP] at hp
      obtain ⟨hci, hcr⟩ := cC_in hp.1
      refine ⟨_, ⟨hci, ?_⟩, hp.2⟩
      have := (cR_geo hD hci).2.2.2
      rw [hcr] at this
      omega
  have outer : ∀ (q : Nat) (n v : Int) (x4 x5 : Option AV), n + q = c 9 14 → 0 ≤ n → (0 ≤ v ∧ v < 256) → (∀ o : Nat, o < 8 → (bt v o = true ↔ (o : Int) < n ∧ ∃ i : Int, (0 ≤ i ∧ i < 81) ∧ P (o : Int) i)) → kW (eX X) 4 M_X12_test T 2 [some (vR 54), some (vI z), some (vI v), some (vI n), x4, x5] [] m := by
    intro q
    induction q with
    | zero =>
      intro n v x4 x5 hq h0 hv hb
      have hn : n = c 9 14 := by omega
      refine kW_go ok_X12_test [2] 20 ?_
      refine And.intro (fun _ => hT _ _ (Or.inr ⟨hz, ⟨v, rfl, hv, fun o ho => ?_⟩, rfl⟩)) (fun h => ?_)
      · rw [hb o ho, hPt o (by omega) (by omega), hn]
      · have h : n < m 54 26 := h
        omega
    | succ q ih =>
      intro n v x4 x5 hq h0 hv hb
      have hn8 : 0 ≤ n ∧ n < 8 := by omega
      have hRn := hR.2.1 n hn8
      have inner : ∀ (q : Nat) (i v : Int) (x5 : Option AV), i + q = 81 → 0 ≤ i → (0 ≤ v ∧ v < 256) → (∀ o : Nat, o < 8 → (bt v o = true ↔ ((o : Int) < n ∧ ∃ i : Int, (0 ≤ i ∧ i < 81) ∧ P (o : Int) i) ∨ ((o : Int) = n ∧ ∃ j : Int, (0 ≤ j ∧ j < i) ∧ P (o : Int) j))) → kW (eX X) 4 M_X12_test T 3 [some (vR 54), some (vI z), some (vI v), some (vI n), some (vI i), x5] [] m := by
        intro q
        induction q with
        | zero =>
          intro i v x5 hq h0 hv hb
          have hi : i = 81 := by omega
          subst hi
          refine kW_go ok_X12_test [2] 20 ?_
          refine And.intro (fun _ => ⟨by constructor <;> omega, ih (n + 1) v _ _ (by omega) (by omega) hv (fun o ho => ?_)⟩) (fun h => absurd h (by decide))
          rw [hb o ho]
          constructor
          · rintro (⟨a, b⟩ | ⟨a, b⟩)
            · exact ⟨by omega, b⟩
            · exact ⟨by omega, b⟩
          · rintro ⟨a, b⟩
            by_cases e : (o : Int) = n
            · exact Or.inr ⟨e, b⟩
            · exact Or.inl ⟨by omega, b⟩
        | succ q ih2 =>
          intro i v x5 hq hi0 hv hb
          have hib : 0 ≤ 81 * z + i ∧ 81 * z + i < 324 := by omega
          have hfive : ∀ u : Int, ((P n i ∧ u = kshl 1 n) ∨ (¬ P n i ∧ u = 0)) → kW (eX X) 4 M_X12_test T 5 [some (vR 54), some (vI z), some (vI v), some (vI n), some (vI i), some (vI (81 * z + i))] [vI u, vI v] m := by
            intro u hu
            have hu8 : (0 ≤ u ∧ u < 256) ∧ ∀ o : Nat, o < 8 → (bt u o = true ↔ (o : Int) = n ∧ P n i) := by
              rcases hu with ⟨a, rfl⟩ | ⟨a, rfl⟩
              · refine ⟨?_, fun o ho => ?_⟩
                · refine bits8 (k_in_kshl _ _) (fun o ho => ?_)
                  rw [bt_bit hn8.1 (by omega), decide_eq_false (by omega)]
                · rw [bt_bit hn8.1 (by omega), decide_eq_true_iff]
                  exact ⟨fun z => ⟨z, a⟩, fun z => z.1⟩
              · refine ⟨by decide, fun o ho => ?_⟩
                rw [bt_zero]
                exact ⟨fun z => (by cases z), fun z => absurd z.2 a⟩
            refine kW_go ok_X12_test [3] 20 ?_
            refine ⟨by constructor <;> omega, ih2 (i + 1) (kor v u) _ (by omega) (by omega) (kor8 hv hu8.1) (fun o ho => ?_)⟩
            rw [bt_or, Bool.or_eq_true, hb o ho, hu8.2 o ho]
            constructor
            · rintro ((a | ⟨a, j, hj, b⟩) | ⟨a, b⟩)
              · exact Or.inl a
              · exact Or.inr ⟨a, j, by omega, b⟩
              · exact Or.inr ⟨a, i, by omega, by rw [a]; exact b⟩
            · rintro (a | ⟨a, j, hj, b⟩)
              · exact Or.inl (Or.inl a)
              · by_cases e : j = i
                · rw [e, a] at b; exact Or.inr ⟨a, b⟩
                · exact Or.inl (Or.inr ⟨a, j, by omega, b⟩)
          have hzero : ¬ P n i → kW (eX X) 4 M_X12_test T 4 [some (vR 54), some (vI z), some (vI v), some (vI n), some (vI i), some (vI (81 * z + i))] [vI v] m := by
            intro h
            refine kW_go ok_X12_test [5] 20 ?_
            exact hfive 0 (Or.inr ⟨h, rfl⟩)
          refine kW_go ok_X12_test [4, 5] 20 ?_
          refine And.intro (fun h => absurd h (by omega)) (fun _ => ⟨by constructor <;> omega, by constructor <;> omega, ?_⟩)
          refine kCall_mono (c_X12_has X m n _ hn8 hib) (Nat.le_of_ble_eq_true rfl) ?_
          rintro _ m2 ⟨⟨hh, rfl⟩ | ⟨hh, rfl⟩, rfl⟩
          · have hin : inRf w d l (81 * z + i) := Classical.byContradiction (fun q => hh (hRn.2.2.2.2.2 _ hib q))
            obtain ⟨hci, hcr⟩ := cC_in hin
            have h71 : m2 71 (81 * z + i) = c 15 (cC w d (81 * z + i)) := by
              have := hR.1.2.2.2.2.2.1.1 _ hci
              rw [hcr] at this
              exact this
            have hcu : cuN c n (cC w d (81 * z + i)) := (cuN_72 hRn hci).mp (by rw [hcr]; exact hh)
            refine And.intro (fun h => absurd h (by decide)) (fun _ => ⟨hib, And.intro (fun h => hzero (fun q => ?_)) (fun h => ?_)⟩)
            · rw [hP] at q
              exact h (h71.trans q.2.2.1)
            · have h : m2 71 (81 * z + i) = 0 := h
              have hal := c_X12_isAlone X c m2 hD hM hR n _ hn8 hci
              rw [hcr] at hal
              refine kCall_mono hal (Nat.le_of_ble_eq_true rfl) ?_
              rintro _ m3 ⟨⟨ha, rfl⟩ | ⟨ha, rfl⟩, rfl⟩
              · refine And.intro (fun h => absurd h (by decide)) (fun _ => hfive _ (Or.inl ⟨?_, rfl⟩))
                rw [hP]
                exact ⟨hin, (alo_nets hM hci).mpr ⟨hcu, by rw [← h71]; exact h, ha⟩⟩
              · refine And.intro (fun _ => hzero (fun q => ?_)) (fun h => absurd rfl h)
                rw [hP] at q
                exact ha ((alo_nets hM hci).mp q.2).2.2
          · refine And.intro (fun _ => hzero (fun q => ?_)) (fun h => absurd rfl h)
            rw [hP] at q
            obtain ⟨hci, hcr⟩ := cC_in q.1
            have := (cuN_72 hRn hci).mpr q.2.1
            rw [hcr] at this
            exact hh this
      refine kW_go ok_X12_test [3] 20 ?_
      refine And.intro (fun h => ?_) (fun _ => inner 81 0 v _ (by omega) (by omega) hv (fun o ho => ?_))
      · have h : m 54 26 ≤ n := h
        omega
      · rw [hb o ho]
        exact ⟨fun z => Or.inl z, fun z => z.elim (fun z => z) (fun ⟨_, j, hj, _⟩ => by omega)⟩
  refine kW_go ok_X12_test [2] 20 ?_
  exact outer (c 9 14).toNat 0 0 none none (by omega) (by omega) (by decide) (fun o ho => by
    rw [bt_zero]
    exact ⟨fun z => (by cases z), fun z => by have := z.1; omega⟩)
theorem pair_test (X : Xv) (m : Mem) {w d l : Int} (hI : Inv X w d l m) (z : Int) : kPair X 162 292 [vI z] m (Inv X w d l) := by
  obtain ⟨hB, hl, hW, hR, h60, h31⟩ := id hI
  obtain ⟨hD, hN, hG⟩ := id hB
  have hM := WF_WM hW
  refine kp2 (k1 := 6) (k2 := 5) (by decide) (by decide) ?_
  refine kCall_ofT ok_X11_test rfl (Nat.le_of_ble_eq_true rfl) (fun T hT => ?_)
  refine kW_go ok_X11_test [] 20 ?_
  refine kCall_mono (c_X11_isLayer X m z) (Nat.le_of_ble_eq_true rfl) ?_
  rw [hG.2.2.1]
  rintro _ m ⟨rfl, rfl⟩
  refine And.intro (fun h => ?_) (fun h => ?_)
  · have hz := b2i_0.mp h
    refine hT _ _ ⟨_, rfl, kCall_mono (c_X12_test X m m hD hM hR z) (Nat.le_refl _) ?_⟩
    rintro _ m2 (⟨-, rfl, rfl⟩ | ⟨h2, -⟩)
    · exact ⟨rfl, hI⟩
    · exact absurd h2 hz
  · have hz := b2i_n.mp h
    refine kCall_mono (c_X0_reachable X m hB hM z hz) (Nat.le_of_ble_eq_true rfl) ?_
    rintro _ m1 ⟨⟨v, rfl, hv, hb⟩, rfl⟩
    refine hT _ _ ⟨_, rfl, kCall_mono (c_X12_test X m1 m1 hD hM hR z) (Nat.le_refl _) ?_⟩
    rintro _ m2 (⟨h2, -⟩ | ⟨-, ⟨u, rfl, hu, hbu⟩, rfl⟩)
    · exact absurd hz h2
    · refine ⟨?_, hI⟩
      rw [bits_eq hv hu (fun k hk => Bool.eq_iff_iff.mpr (by rw [hb k hk, hbu k hk]))]
