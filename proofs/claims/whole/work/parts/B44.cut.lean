/-! CUT alike -/
def walP (w d l : Int) (R : Int → Prop) (x : Int) : Prop := ¬ R x ∧ ∃ k : Int, (0 ≤ k ∧ k < 6) ∧ nx w d l x k ≠ -1 ∧ R (nx w d l x k)
/-- a net holds a wall's cell against another -/
def walD (w d l : Int) (c : Mem) (n o x : Int) : Prop := c 15 x = 0 ∧ bt (c 10 (c 11 n * 5 + 4)) (gZ w d x).toNat = true ∧ o ≠ n ∧ ∃ y : Int, inC w d l y ∧ cuN c o y ∧ box w d l y (aptC c n o) x
def cutV (w d l : Int) (N : Nat) (c : Mem) (n : Int) (R : Int → Prop) (a z : Int) : Prop :=
  (a = 0 ∧ z = sumN (fun x => iv (R x) 1) N) ∨ (a = 1 ∧ ((z = -1 ∧ ∀ p : Int, (0 ≤ p ∧ p < c 13 n) → R (c 14 (n * 4 + p))) ∨ ((0 ≤ z ∧ z < c 13 n) ∧ ¬ R (c 14 (n * 4 + z)) ∧ ∀ p : Int, (0 ≤ p ∧ p < z) → R (c 14 (n * 4 + p))))) ∨ (a = 2 ∧ z = sumN (fun x => iv (walP w d l R x) 1) N) ∨ (a = 3 ∧ inR z ∧ ∀ o : Nat, o < 32 → (bt z o = true ↔ ((o : Int) < c 9 14 ∧ ∃ x : Int, inC w d l x ∧ walP w d l R x ∧ walD w d l c n (o : Int) x)))
theorem cutV_one {w d l : Int} {N : Nat} {c : Mem} {n : Int} {R : Int → Prop} {a z z' : Int} (h : cutV w d l N c n R a z) (h' : cutV w d l N c n R a z') : z = z' := by
  rcases h with ⟨e, h⟩ | ⟨e, h⟩ | ⟨e, h⟩ | ⟨e, h⟩ <;> rcases h' with ⟨e', h'⟩ | ⟨e', h'⟩ | ⟨e', h'⟩ | ⟨e', h'⟩ <;> try omega
  · rcases h with ⟨p, q⟩ | ⟨p, q, r⟩ <;> rcases h' with ⟨p', q'⟩ | ⟨p', q', r'⟩
    · omega
    · exact absurd (q z' p') q'
    · exact absurd (q' z p) q
    · rcases Int.lt_trichotomy z z' with hlt | he | hgt
      · exact absurd (r' z ⟨p.1, hlt⟩) q
      · exact he
      · exact absurd (r z' ⟨p'.1, hgt⟩) q'
  · refine bt_ext h.1 h'.1 (fun k hk => ?_)
    have := (h.2 k hk).trans (h'.2 k hk).symm
    cases hb : bt z k <;> cases hb' : bt z' k <;> simp_all
theorem cutV_cg {w d l : Int} {N : Nat} {c : Mem} {n : Int} {R R' : Int → Prop} {a z : Int} (hN : w * d * l = (N : Int)) (hR : ∀ x, inC w d l x → (R x ↔ R' x)) (hp : ∀ p : Int, (0 ≤ p ∧ p < c 13 n) → inC w d l (c 14 (n * 4 + p))) (h : cutV w d l N c n R a z) : cutV w d l N c n R' a z := by
  have hw : ∀ x, inC w d l x → (walP w d l R x ↔ walP w d l R' x) := by
    intro x hx
    unfold walP
    rw [hR x hx]
    exact and_congr_right (fun _ => ⟨fun ⟨k, a, b, e⟩ => ⟨k, a, b, (hR _ (nx_in b).1).mp e⟩, fun ⟨k, a, b, e⟩ => ⟨k, a, b, (hR _ (nx_in b).1).mpr e⟩⟩)
  rcases h with ⟨e, h⟩ | ⟨e, h⟩ | ⟨e, h⟩ | ⟨e, h⟩
  · refine Or.inl ⟨e, h.trans (sumN_cong (fun x x0 x1 => iv_cong (hR x ⟨x0, by omega⟩)))⟩
  · refine Or.inr (Or.inl ⟨e, ?_⟩)
    rcases h with ⟨p, q⟩ | ⟨p, q, r⟩
    · exact Or.inl ⟨p, fun i hi => (hR _ (hp i hi)).mp (q i hi)⟩
    · exact Or.inr ⟨p, fun z => q ((hR _ (hp _ p)).mpr z), fun i hi => (hR _ (hp i (by omega))).mp (r i hi)⟩
  · refine Or.inr (Or.inr (Or.inl ⟨e, h.trans (sumN_cong (fun x x0 x1 => iv_cong (hw x ⟨x0, by omega⟩)))⟩))
  · refine Or.inr (Or.inr (Or.inr ⟨e, h.1, fun o ho => (h.2 o ho).trans (and_congr_right (fun _ => ?_))⟩))
    exact ⟨fun ⟨x, a, b, e⟩ => ⟨x, a, (hw x a).mp b, e⟩, fun ⟨x, a, b, e⟩ => ⟨x, a, (hw x a).mpr b, e⟩⟩
set_option maxRecDepth 100000 in
theorem c_X1_cutOf (X : Xv) (m : Mem) {w d l : Int} (hB : Bd X w d l m) (hM : WM w d l m) (n a : Int) (hnn : 0 ≤ n ∧ n < m 9 14) (hp1 : 1 ≤ m 13 n) (ha : 0 ≤ a ∧ a ≤ 3) : kCall (eX X) 4 M_X1_cutOf.1 [vR 40, vI n, vI a] m (fun r m' => ∃ z, r = some (vI z) ∧ cutV w d l (nC X) m n (Rch (stR w d l (frT w d l (fun _ => True) (rmT (w * d * l) n m) n 0) 6) (m 14 (n * 4))) a z ∧ ∀ o, o < 22 ∨ 29 < o → m' o = m o) := by
  obtain ⟨hD, hN, hG⟩ := id hB
  have hc4 := okD_cells hD
  have h8 := hM.1.2.1
  have hs := WFs_srt hM.1
  have hn8 : 0 ≤ n ∧ n < 8 := by omega
  have hP4 := (hM.2.1.1 n hn8).1
  have hpa : ∀ p : Int, (0 ≤ p ∧ p < m 13 n) → inC w d l (m 14 (n * 4 + p)) := fun p hp => hM.2.1.2.1 n p hn8 hp
  have hp0i : inC w d l (m 14 (n * 4)) := pin_in hM.2.1 hn8 hp1
  refine kCall_ofT ok_X1_cutOf rfl (Nat.le_of_ble_eq_true rfl) (fun T hT => ?_)
  refine kW_go ok_X1_cutOf [2] 20 ?_
  refine kCall_mono (kCall_in (c_X6_look X m hD hN hG hs n 0 hnn)) (Nat.le_of_ble_eq_true rfl) ?_
  rintro _ m1 ⟨⟨rfl, hf, h22, h26, hb⟩, hin⟩
  have hf' : ∀ o, o < 22 ∨ 26 < o → m1 o = m o := fun o ho => hf o (by omega) (by omega) (by omega) (by omega) (by omega)
  have hlk : looked w d l X m m1 n 0 := ⟨h22.1, h26, hb⟩
  have hso := hs.2 n hnn
  refine kCall_mono (c_X6_mark X m1 hD hN (gridC_same hG (fun o o1 o2 => hf' o (by omega))) 0 n h22.1 hn8 (by rw [hf' 11 (by decide)]; exact hso.1)) (Nat.le_of_ble_eq_true rfl) ?_
  rintro _ m2 ⟨rfl, f2, h27⟩
  have hf2 : ∀ o, o < 22 ∨ 27 < o → m2 o = m o := fun o ho => by rw [f2 o (by omega), hf' o (by omega)]
  obtain ⟨F, hF⟩ : ∃ F, F = frT w d l (fun _ => True) (rmT (w * d * l) n m) n 0 := ⟨_, rfl⟩
  rw [← hF] at hT
  have hF2 : ∀ x, inC w d l x → (m2 27 x ≠ 0 ↔ F x) := by
    intro x hx
    have h1 := frC_frT (g := 0) hD hN hs hin hnn (hf' 10 (by decide)) (hf' 11 (by decide)) (hf' 15 (by decide)) hlk hx
    rw [free_rm (X := X) (m := m) hD hN hs hnn hx, ← hF] at h1
    rw [← h1]
    by_cases hc : frC w d m1 0 x
    · rw [(h27 x hx).1 hc]; exact ⟨fun _ => hc, fun _ => by decide⟩
    · rw [(h27 x hx).2 hc]; exact ⟨fun z => absurd rfl z, fun z => absurd z hc⟩
  have hst : stG w d l m2 6 = stR w d l F 6 := by
    funext a b
    exact propext (stG_stR hF2)
  have hB2 : Bd X w d l m2 := Bd_same hB (fun o a b => hf2 o (by omega))
  refine kCall_mono (c_X3_pinCell X m2 n 0 hn8 (by omega)) (Nat.le_of_ble_eq_true rfl) ?_
  rintro _ m2' ⟨rfl, rfl⟩
  have e14 : m2' 14 (n * 4 + 0) = m 14 (n * 4) := by rw [hf2 14 (by decide), Int.add_zero]
  have hfl := c_X6_flood X m2' hD hN hB2.2.2 (m2' 14 (n * 4 + 0)) 6 (by rw [e14]; exact hp0i) (by omega)
  rw [hst] at hfl
  refine kCall_mono hfl (Nat.le_of_ble_eq_true rfl) ?_
  rw [e14]
  rintro _ m3 ⟨q, rfl, hq, f3, h28, hsum⟩
  obtain ⟨R, hRd⟩ : ∃ R, R = Rch (stR w d l F 6) (m 14 (n * 4)) := ⟨_, rfl⟩
  rw [← hRd] at hT h28
  have hf3 : ∀ o, o < 22 ∨ 29 < o → m3 o = m o := fun o ho => by rw [f3 o (by omega) (by omega), hf2 o (by omega)]
  have hR28 : ∀ x, inC w d l x → (m3 28 x ≠ 0 ↔ R x) := fun x hx => (h28 x hx).1
  have hB3 : Bd X w d l m3 := Bd_same hB (fun o a b => hf3 o (by omega))
  have g4 : m3 1 4 = (nC X : Int) := by rw [hB3.2.2.2.2.2.2.1, hN]
  refine And.intro (fun h0 => And.intro (fun h1 => ?_) (fun h1 => ?_)) (fun h0 => ?_)
  · -- walls
    have hwal : ∀ x, inC w d l x → ((m3 28 x = 0 ∧ ∃ k : Int, (0 ≤ k ∧ k < 6) ∧ nx w d l x k ≠ -1 ∧ m3 28 (nx w d l x k) ≠ 0) ↔ walP w d l R x) := by
      intro x hx
      unfold walP
      rw [← hR28 x hx, Classical.not_not]
      exact and_congr_right (fun _ => ⟨fun ⟨k, a, b, e⟩ => ⟨k, a, b, (hR28 _ (nx_in b).1).mp e⟩, fun ⟨k, a, b, e⟩ => ⟨k, a, b, (hR28 _ (nx_in b).1).mpr e⟩⟩)
    obtain ⟨W, hW⟩ : ∃ W : Int → Int, ∀ x, W x = iv (walP w d l R x) 1 := ⟨_, fun _ => rfl⟩
    have bW : ∀ k : Nat, 0 ≤ sumN W k ∧ sumN W k ≤ 1 * k := fun k => sumN_01 (fun x => by rw [hW]; exact iv_in ⟨by decide, by decide⟩) k
    have hhs : ∀ x, inC w d l x → ∀ o : Nat, bt (kor (m3 24 x) (m3 25 x)) o = true ↔ ((o : Int) < m 9 14 ∧ (o : Int) ≠ n ∧ ∃ y : Int, inC w d l y ∧ cuN m (o : Int) y ∧ box w d l y (aptC m n (o : Int)) x) := by
      intro x hx o
      rw [f3 24 (by decide) (by decide), f3 25 (by decide) (by decide), f2 24 (by decide), f2 25 (by decide), bt_or, Bool.or_eq_true, (hb x hx o).1, (hb x hx o).2]
      unfold nrC cuN
      rw [Int.toNat_natCast]
      constructor
      · rintro (⟨⟨p, q⟩, y, hy, h1, h2⟩ | ⟨⟨p, q⟩, y, hy, h1, h2⟩)
        · exact ⟨p, q, y, ⟨hy.1, by omega⟩, Or.inl h1, h2⟩
        · exact ⟨p, q, y, ⟨hy.1, by omega⟩, Or.inr h1, h2⟩
      · rintro ⟨p, q, y, hy, h1 | h1, h2⟩
        · exact Or.inl ⟨⟨p, q⟩, y, ⟨hy.1, by have := hy.2; omega⟩, h1, h2⟩
        · exact Or.inr ⟨⟨p, q⟩, y, ⟨hy.1, by have := hy.2; omega⟩, h1, h2⟩
    have loop : ∀ (k : Nat) (i v : Int) (x7 : Option AV), i + k = (nC X : Int) → 0 ≤ i → inR v → (∀ o : Nat, o < 32 → (bt v o = true ↔ ((o : Int) < m 9 14 ∧ ∃ x : Int, (inC w d l x ∧ x < i) ∧ walP w d l R x ∧ walD w d l m n (o : Int) x))) → kW (eX X) 3 M_X1_cutOf T 3 [some (vR 40), some (vI n), some (vI a), some (vI q), some (vI (sumN W i.toNat)), some (vI v), some (vI i), x7] [] m3 := by
      intro k
      induction k with
      | zero =>
        intro i v x7 hk h0i hv hbv
        have hi : i.toNat = nC X := by omega
        refine kW_go ok_X1_cutOf [3] 20 ?_
        refine And.intro (fun _ => And.intro (fun h2 => ?_) (fun h2 => ?_)) (fun h => ?_)
        · have h2 : ¬ a = 2 := h2
          have h1' : ¬ a = 1 := h1
          have h0' : ¬ a = 0 := h0
          refine hT _ _ ⟨v, rfl, Or.inr (Or.inr (Or.inr ⟨by omega, hv, fun o ho => (hbv o ho).trans (and_congr_right (fun _ => ?_))⟩)), hf3⟩
          exact ⟨fun ⟨x, a, b⟩ => ⟨x, a.1, b⟩, fun ⟨x, a, b⟩ => ⟨x, ⟨a, by have := a.2; omega⟩, b⟩⟩
        · refine hT _ _ ⟨_, rfl, Or.inr (Or.inr (Or.inl ⟨h2, ?_⟩)), hf3⟩
          rw [hi]
          exact sumN_cong (fun x _ _ => hW x)
        · have h : i < m3 1 4 := h
          omega
      | succ k ih =>
        intro i v x7 hk h0i hv hbv
        have hib : 0 ≤ i ∧ i < (nC X : Int) := by omega
        have hix : inC w d l i := ⟨h0i, by omega⟩
        have hb1 := bW i.toNat
        have hgz := gZ_in hD hix
        obtain ⟨-, -, l1, l2⟩ := id hD
        have hnext : ∀ (v' wv : Int) (x7 : Option AV), wv = W i → inR v' → (∀ o : Nat, o < 32 → (bt v' o = true ↔ bt v o = true ∨ ((o : Int) < m 9 14 ∧ walP w d l R i ∧ walD w d l m n (o : Int) i))) → inR (i + 1) ∧ kW (eX X) 3 M_X1_cutOf T 3 [some (vR 40), some (vI n), some (vI a), some (vI q), some (vI (sumN W i.toNat + wv)), some (vI v'), some (vI (i + 1)), x7] [] m3 := by
          intro v' wv x7 hwv hv' hbv'
          have := ih (i + 1) v' x7 (by omega) (by omega) hv' (fun o ho => by
            rw [hbv' o ho, hbv o ho]
            constructor
            · rintro (⟨p, x, hx, h⟩ | ⟨p, h⟩)
              · exact ⟨p, x, ⟨hx.1, by omega⟩, h⟩
              · exact ⟨p, i, ⟨hix, by omega⟩, h⟩
            · rintro ⟨p, x, hx, h⟩
              by_cases e : x = i
              · rw [e] at h; exact Or.inr ⟨p, h⟩
              · exact Or.inl ⟨p, x, ⟨hx.1, by omega⟩, h⟩)
          rw [sumN_s W h0i, ← hwv] at this
          exact ⟨by constructor <;> omega, this⟩
        refine kW_go ok_X1_cutOf [3, 5] 20 ?_
        refine And.intro (fun h => ?_) (fun _ => ?_)
        · have h : m3 1 4 ≤ i := h
          omega
        refine kCall_mono (c_X1_isWall X m3 hD hN hB3.2.2 i hix) (Nat.le_of_ble_eq_true rfl) ?_
        rw [hwal i hix]
        rintro _ m4 ⟨⟨hw, rfl⟩ | ⟨hw, rfl⟩, rfl⟩
        · refine And.intro (fun h => absurd h (by decide)) (fun _ => ⟨by constructor <;> omega, ?_⟩)
          have e10 : m4 10 = m 10 := hf3 10 (by decide)
          have e11 : m4 11 = m 11 := hf3 11 (by decide)
          have e15 : m4 15 = m 15 := hf3 15 (by decide)
          have e5 : m4 5 i = gZ w d i := (hB3.2.2.2.2.2.2.2 i hix).2.2.1
          refine kCall_mono (c_X3_setting X m4 n 4 hn8 (by omega) (by rw [e11]; exact hso.1)) (Nat.le_of_ble_eq_true rfl) ?_
          rintro _ m5 ⟨rfl, rfl⟩
          have five : ∀ b : Int, (b = 0 ∨ b = 1) → (b ≠ 0 ↔ bt (m 10 (m 11 n * 5 + 4)) (gZ w d i).toNat = true) → kW (eX X) 3 M_X1_cutOf T 5 [some (vR 40), some (vI n), some (vI a), some (vI q), some (vI (sumN W i.toNat + 1)), some (vI v), some (vI i), x7] [vI b] m5 := by
            intro b hbb hbl
            have eW : (1 : Int) = W i := by rw [hW, iv_t hw]
            have h0 : ∀ u : Int, u = 0 → ¬ (bt (m 10 (m 11 n * 5 + 4)) (gZ w d i).toNat = true ∧ m 15 i = 0) → inR (i + 1) ∧ kW (eX X) 3 M_X1_cutOf T 3 [some (vR 40), some (vI n), some (vI a), some (vI q), some (vI (sumN W i.toNat + 1)), some (vI (kor v u)), some (vI (i + 1)), some (vI b)] [] m5 := by
              intro u hu hno
              refine hnext (kor v u) 1 _ eW (k_in_kor _ _) (fun o ho => ?_)
              rw [hu, bt_or, bt_zero, Bool.or_false]
              exact ⟨Or.inl, fun z => z.elim id (fun z => absurd ⟨z.2.2.2.1, z.2.2.1⟩ hno)⟩
            refine kW_go ok_X1_cutOf [3] 20 ?_
            refine And.intro (fun hz => h0 0 rfl (fun z => (hbl.mpr z.1) hz)) (fun hz => ⟨hib, And.intro (fun hc => h0 0 rfl (fun z => hc ?_)) (fun hc => ⟨hib, hib, ?_⟩)⟩)
            · show m5 15 i = 0
              rw [e15]; exact z.2
            · have hc : m5 15 i = 0 := hc
              rw [e15] at hc
              refine hnext _ 1 _ eW (k_in_kor _ _) (fun o ho => ?_)
              rw [bt_or, Bool.or_eq_true, hhs i hix o]
              unfold walD
              exact or_congr_right (and_congr_right (fun _ => ⟨fun z => ⟨hw, hc, hbl.mp hz, z⟩, fun z => z.2.2.2⟩))
          refine ⟨hib, ?_⟩
          refine And.intro (fun hz => five 0 (Or.inl rfl) ⟨fun z => absurd rfl z, fun z => ?_⟩) (fun hz => five 1 (Or.inr rfl) ⟨fun _ => ?_, fun _ => by decide⟩)
          · have hz : kand (kshr (m5 10 (m5 11 n * 5 + 4)) (m5 5 i)) 1 = 0 := hz
            rw [e10, e11, e5, k_ask0 hgz.1 (by omega)] at hz
            rw [hz] at z
            cases z
          · have hz : ¬ kand (kshr (m5 10 (m5 11 n * 5 + 4)) (m5 5 i)) 1 = 0 := hz
            rw [e10, e11, e5] at hz
            exact (k_ask_ne hgz.1 (by omega)).mp hz
        · refine And.intro (fun _ => ?_) (fun h => absurd rfl h)
          have := hnext v 0 x7 (by rw [hW, iv_f hw]) hv (fun o ho => ⟨Or.inl, fun z => z.elim id (fun z => absurd z.2.1 hw)⟩)
          rw [Int.add_zero] at this
          exact this
    refine kW_go ok_X1_cutOf [3] 20 ?_
    have := loop (nC X) 0 0 none (by omega) (by omega) (by constructor <;> decide) (fun o ho => by
      rw [bt_zero]
      exact ⟨fun z => (by cases z), fun ⟨_, x, hx, _⟩ => absurd hx.2 (by have := hx.1.1; omega)⟩)
    exact this
  · have h1 : a = 1 := h1
    have e13 : m3 13 = m 13 := hf3 13 (by decide)
    have e14' : m3 14 = m 14 := hf3 14 (by decide)
    refine kCall_mono (c_X6_lowestUnreachedPin X m3 n hn8 (by rw [e13]; exact hP4) (fun p hp => by rw [e13] at hp; rw [e14']; have := hpa p hp; exact ⟨this.1, by have := this.2; omega⟩)) (Nat.le_of_ble_eq_true rfl) ?_
    rw [e13, e14']
    rintro _ m4 ⟨⟨rfl, h⟩ | ⟨z, rfl, hz, h, h'⟩, rfl⟩
    · exact hT _ _ ⟨-1, rfl, Or.inr (Or.inl ⟨h1, Or.inl ⟨rfl, fun p hp => (hR28 _ (hpa p hp)).mp (h p hp)⟩⟩), hf3⟩
    · exact hT _ _ ⟨z, rfl, Or.inr (Or.inl ⟨h1, Or.inr ⟨hz, fun y => (hR28 _ (hpa z hz)).mpr y h, fun p hp => (hR28 _ (hpa p (by omega))).mp (h' p hp)⟩⟩), hf3⟩
  · have h0 : a = 0 := h0
    refine hT _ _ ⟨q, rfl, Or.inl ⟨h0, ?_⟩, hf3⟩
    rw [← hsum]
    refine sumN_cong (fun x x0 x1 => ?_)
    have hx : inC w d l x := ⟨x0, by omega⟩
    unfold flg
    by_cases hh : m3 28 x = 0
    · rw [if_pos hh, iv_f (fun z => (hR28 x hx).mpr z hh)]
    · rw [if_neg hh, iv_t ((hR28 x hx).mp hh)]
