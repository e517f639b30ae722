/-! WANDER and WORST alike -/
/-- a memory changed in two fields of an object alone -/
def StG (O : Nat) (p q : Int) (m m' : Mem) (a b : Int) : Prop := (∀ o : Nat, ∀ i : Int, o ≠ O ∨ (i ≠ p ∧ i ≠ q) → m' o i = m o i) ∧ m' O p = a ∧ m' O q = b
theorem StG_o {O : Nat} {p q : Int} {m m' : Mem} {a b : Int} (h : StG O p q m m' a b) {o : Nat} (ho : o ≠ O) : m' o = m o := funext (fun i => h.1 o i (Or.inl ho))
theorem StG_tr {O : Nat} {p q : Int} {m m' m2 : Mem} {a b a2 b2 : Int} (h : StG O p q m m' a b) (h2 : StG O p q m' m2 a2 b2) : StG O p q m m2 a2 b2 := ⟨fun o i ho => (h2.1 o i ho).trans (h.1 o i ho), h2.2.1, h2.2.2⟩
theorem StG_rf {O : Nat} {p q : Int} {m : Mem} : StG O p q m m (m O p) (m O q) := ⟨fun _ _ _ => rfl, rfl, rfl⟩
theorem StG_mk {O : Nat} {p q : Int} (hpq : p ≠ q) {m : Mem} (a b : Int) : StG O p q m (mset (mset m O p a) O q b) a b := by
  have hpq' : p ≠ q := hpq
  refine ⟨fun o i ho => ?_, ?_, ?_⟩
  · rcases ho with ho | ho
    · rw [k_mset_ne ho, k_mset_ne ho]
    · by_cases e : o = O
      · rw [e, k_mset_at, if_neg ho.2, k_mset_at, if_neg ho.1]
      · rw [k_mset_ne e, k_mset_ne e]
  · rw [k_mset_at, if_neg hpq', k_mset_at, if_pos rfl]
  · rw [k_mset_at, if_pos rfl]
theorem StG_q {O : Nat} {p q : Int} (hpq : p ≠ q) {m : Mem} (b : Int) : StG O p q m (mset m O q b) (m O p) b := by
  have hpq' : p ≠ q := hpq
  refine ⟨fun o i ho => ?_, ?_, ?_⟩
  · rcases ho with ho | ho
    · rw [k_mset_ne ho]
    · by_cases e : o = O
      · rw [e, k_mset_at, if_neg ho.2]
      · rw [k_mset_ne e]
  · rw [k_mset_at, if_neg hpq']
  · rw [k_mset_at, if_pos rfl]
theorem StG_p {O : Nat} {p q : Int} (hpq : p ≠ q) {m : Mem} (a : Int) : StG O p q m (mset m O p a) a (m O q) := by
  have hpq' : q ≠ p := fun z => hpq z.symm
  refine ⟨fun o i ho => ?_, ?_, ?_⟩
  · rcases ho with ho | ho
    · rw [k_mset_ne ho]
    · by_cases e : o = O
      · rw [e, k_mset_at, if_neg ho.1]
      · rw [k_mset_ne e]
  · rw [k_mset_at, if_pos rfl]
  · rw [k_mset_at, if_neg hpq']
/-- what a shifted hole does, told in the class's memory -/
def stTo (w d l dx dy x : Int) : Int := cAt w d l (gX w x + dx) (gY w d x + dy) (gZ w d x)
def shN (w d l : Int) (c : Mem) (dx dy n x : Int) : Prop := stTo w d l dx dy x ≠ -1 ∧ ∃ o : Int, (0 ≤ o ∧ o < c 9 14) ∧ o ≠ n ∧ (cuN c o (stTo w d l dx dy x) ∨ cuN c o (nx w d l (stTo w d l dx dy x) 4))
def opN (w d l : Int) (c : Mem) (dx dy n x : Int) : Prop := ¬ (stTo w d l dx dy x ≠ -1 ∧ cuN c n (stTo w d l dx dy x) ∧ cuN c n (nx w d l (stTo w d l dx dy x) 4))
/-- and in the reference's numbers -/
def stP (w d dx dy a : Int) : Prop := (0 ≤ a % 9 + dx ∧ a % 9 + dx < w) ∧ (0 ≤ a / 9 % 9 + dy ∧ a / 9 % 9 + dy < d)
def stH (r : Mem) (n p q : Int) : Prop := ∃ o : Int, (0 ≤ o ∧ o < r 54 26) ∧ o ≠ n ∧ (r 72 (324 * o + p) ≠ 0 ∨ r 72 (324 * o + q) ≠ 0)
def stL (r : Mem) (n p q : Int) : Prop := r 72 (324 * n + p) ≠ 0 ∧ r 72 (324 * n + q) ≠ 0
noncomputable def shR (w d : Int) (r : Mem) (dx dy n a b : Int) : Int := if a / 81 = b / 81 then 0 else iv (stP w d dx dy a ∧ stH r n (a + 9 * dy + dx) (b + 9 * dy + dx)) 1
noncomputable def opR (w d : Int) (r : Mem) (dx dy n a b : Int) : Int := if a / 81 = b / 81 then 0 else iv (¬ (stP w d dx dy a ∧ stL r n (a + 9 * dy + dx) (b + 9 * dy + dx))) 1
theorem st_sy {w d : Int} {r : Mem} {dx dy n a b : Int} (h : a % 9 = b % 9 ∧ a / 9 % 9 = b / 9 % 9) : shR w d r dx dy n a b = shR w d r dx dy n b a ∧ opR w d r dx dy n a b = opR w d r dx dy n b a := by
  have e1 : stP w d dx dy a ↔ stP w d dx dy b := by unfold stP; rw [h.1, h.2]
  have e2 : ∀ p q, stH r n p q ↔ stH r n q p := fun p q => ⟨fun ⟨o, a, b, e⟩ => ⟨o, a, b, e.symm⟩, fun ⟨o, a, b, e⟩ => ⟨o, a, b, e.symm⟩⟩
  have e3 : ∀ p q, stL r n p q ↔ stL r n q p := fun p q => ⟨fun e => e.symm, fun e => e.symm⟩
  unfold shR opR
  by_cases hl : a / 81 = b / 81
  · rw [if_pos hl, if_pos hl.symm, if_pos hl, if_pos hl.symm]
    exact ⟨rfl, rfl⟩
  · rw [if_neg hl, if_neg (fun z => hl z.symm), if_neg hl, if_neg (fun z => hl z.symm)]
    exact ⟨iv_cong (by rw [e1, e2]), iv_cong (by rw [e1, e3])⟩
theorem c_X12_strike (X : Xv) (m : Mem) {w d l : Int} (hd : dimM m w d l) (n a b dx dy : Int) (hn : 0 ≤ n ∧ n < 8) (h26 : 0 ≤ m 54 26 ∧ m 54 26 ≤ 8) (ha : 0 ≤ a ∧ a < 324) (hb : 0 ≤ b ∧ b < 324) (hab : a % 9 = b % 9 ∧ a / 9 % 9 = b / 9 % 9 ∨ a / 81 = b / 81) (hdx : -3 ≤ dx ∧ dx ≤ 3) (hdy : -3 ≤ dy ∧ dy ≤ 3) (h47 : 0 ≤ m 54 47 ∧ m 54 47 ≤ 1000000) (h48 : 0 ≤ m 54 48 ∧ m 54 48 ≤ 1000000) : kCall (eX X) 3 M_X12_strike.1 [vR 54, vI n, vI a, vI b, vI dx, vI dy] m (fun r m' => r = none ∧ StG 54 47 48 m m' (m 54 47 + shR w d m dx dy n a b) (m 54 48 + opR w d m dx dy n a b)) := by
  have hD : okD w d l := hd.2.2.2
  obtain ⟨⟨w1, w2⟩, ⟨d1, d2⟩, l1, l2⟩ := id hD
  have h47f : 0 ≤ fld m 54 47 ∧ fld m 54 47 ≤ 1000000 := h47
  have h48f : 0 ≤ fld m 54 48 ∧ fld m 54 48 ≤ 1000000 := h48
  refine kCall_ofT ok_X12_strike rfl (Nat.le_of_ble_eq_true rfl) (fun T hT => ?_)
  refine kW_go ok_X12_strike [1] 20 ?_
  refine kCall_mono (c_X12_layerOf (eX X) m a ha.1 (by omega)) (Nat.le_of_ble_eq_true rfl) ?_
  rintro _ m ⟨rfl, rfl⟩
  refine kCall_mono (c_X12_layerOf (eX X) m b hb.1 (by omega)) (Nat.le_of_ble_eq_true rfl) ?_
  rintro _ m ⟨rfl, rfl⟩
  refine And.intro (fun hl => ?_) (fun hl => ?_)
  · have hab : a % 9 = b % 9 ∧ a / 9 % 9 = b / 9 % 9 := hab.resolve_right hl
    refine kW_go ok_X12_strike [2] 20 ?_
    refine kCall_mono (c_X12_xOf (eX X) m a ha.1) (Nat.le_of_ble_eq_true rfl) ?_
    rintro _ m ⟨rfl, rfl⟩
    refine ⟨by constructor <;> omega, ?_⟩
    refine kCall_mono (c_X12_yOf (eX X) m a ha.1 (by omega)) (Nat.le_of_ble_eq_true rfl) ?_
    rintro _ m ⟨rfl, rfl⟩
    refine ⟨by constructor <;> omega, ?_⟩
    refine kCall_mono (c_X12_isCell X m hd _ _ _) (Nat.le_of_ble_eq_true rfl) ?_
    rintro _ m ⟨rfl, rfl⟩
    refine And.intro (fun h => ?_) (fun h => ?_)
    · have hP : stP w d dx dy a := by have h := b2i_n.mp h; exact ⟨h.1, h.2.1⟩
      obtain ⟨p, hp⟩ : ∃ p, p = a + 9 * dy + dx := ⟨_, rfl⟩
      obtain ⟨q, hq⟩ : ∃ q, q = b + 9 * dy + dx := ⟨_, rfl⟩
      have hp9 : 0 ≤ p ∧ p < 324 := by unfold stP at hP; omega
      have hq9 : 0 ≤ q ∧ q < 324 := by unfold stP at hP; omega
      have es : shR w d m dx dy n a b = iv (stH m n p q) 1 := by
        unfold shR
        rw [if_neg hl, ← hp, ← hq]
        exact iv_cong ⟨fun z => z.2, fun z => ⟨hP, z⟩⟩
      have eo : opR w d m dx dy n a b = iv (¬ stL m n p q) 1 := by
        unfold opR
        rw [if_neg hl, ← hp, ← hq]
        exact iv_cong ⟨fun z y => z ⟨hP, y⟩, fun z y => z y.2⟩
      rw [es, eo] at hT
      have twelve : ∀ (v u o : Int) (x8 : Option AV), v = iv (stH m n p q) 1 → u = iv (¬ stL m n p q) 1 → kW (eX X) 2 M_X12_strike T 12 [some (vR 54), some (vI n), some (vI a), some (vI b), some (vI dx), some (vI dy), some (vI p), some (vI q), x8, some (vI o)] [vI u, vI (m 54 48), vR 54] (mset m 54 47 (m 54 47 + v)) := by
        intro v u o x8 hv hu
        have hub : 0 ≤ u ∧ u ≤ 1 := by rw [hu]; exact iv_in ⟨by decide, by decide⟩
        refine kW_go ok_X12_strike [] 20 ?_
        refine ⟨by constructor <;> omega, hT _ _ ⟨rfl, ?_⟩⟩
        rw [← hv, ← hu]
        exact StG_mk (O := 54) (p := 47) (q := 48) (by decide) _ _
      have nine : ∀ (v o : Int) (x8 : Option AV), v = iv (stH m n p q) 1 → kW (eX X) 2 M_X12_strike T 9 [some (vR 54), some (vI n), some (vI a), some (vI b), some (vI dx), some (vI dy), some (vI p), some (vI q), x8, some (vI o)] [vI v, vI (m 54 47), vR 54] m := by
        intro v o x8 hv
        have hvb : 0 ≤ v ∧ v ≤ 1 := by rw [hv]; exact iv_in ⟨by decide, by decide⟩
        refine kW_go ok_X12_strike [12] 20 ?_
        refine ⟨by constructor <;> omega, ?_⟩
        refine kCall_mono (c_X12_has X _ n p hn hp9) (Nat.le_of_ble_eq_true rfl) ?_
        rintro _ m2 ⟨⟨h1, rfl⟩ | ⟨h1, rfl⟩, rfl⟩
        · refine And.intro (fun h => absurd h (by decide)) (fun _ => ?_)
          refine kCall_mono (c_X12_has X _ n q hn hq9) (Nat.le_of_ble_eq_true rfl) ?_
          rintro _ m2 ⟨⟨h2, rfl⟩ | ⟨h2, rfl⟩, rfl⟩
          · exact And.intro (fun _ => twelve v 0 o x8 hv (iv_f (fun z => z ⟨h1, h2⟩)).symm) (fun h => absurd h (by decide))
          · exact And.intro (fun h => absurd rfl h) (fun _ => twelve v 1 o x8 hv (iv_t (fun z => h2 z.2)).symm)
        · exact And.intro (fun _ => twelve v 1 o x8 hv (iv_t (fun z => h1 z.1)).symm) (fun h => absurd rfl h)
      have loop : ∀ (k : Nat) (o v : Int), o + k = m 54 26 → 0 ≤ o → (v = 0 ∨ v = 1) → (v ≠ 0 ↔ ∃ j : Int, (0 ≤ j ∧ j < o) ∧ j ≠ n ∧ (m 72 (324 * j + p) ≠ 0 ∨ m 72 (324 * j + q) ≠ 0)) → kW (eX X) 2 M_X12_strike T 3 [some (vR 54), some (vI n), some (vI a), some (vI b), some (vI dx), some (vI dy), some (vI p), some (vI q), some (vI v), some (vI o)] [] m := by
        intro k
        induction k with
        | zero =>
          intro o v hk h0 hv hi
          have ho : o = m 54 26 := by omega
          have hi : v ≠ 0 ↔ stH m n p q := by rw [hi, ho]; exact Iff.rfl
          refine kW_go ok_X12_strike [3, 9] 20 ?_
          refine And.intro (fun _ => ?_) (fun h => ?_)
          · rcases hv with rfl | rfl
            · exact And.intro (fun _ => nine 0 o _ (iv_f (fun z => hi.mpr z rfl)).symm) (fun h => absurd rfl h)
            · exact And.intro (fun h => absurd h (by decide)) (fun _ => nine 1 o _ (iv_t (hi.mp (by decide))).symm)
          · have h : o < m 54 26 := h
            omega
        | succ k ih =>
          intro o v hk h0 hv hi
          have ho8 : 0 ≤ o ∧ o < 8 := by omega
          have hnext : ∀ u : Int, (u = 0 ∨ u = 1) → (u ≠ 0 ↔ v ≠ 0 ∨ (o ≠ n ∧ (m 72 (324 * o + p) ≠ 0 ∨ m 72 (324 * o + q) ≠ 0))) → inR (o + 1) ∧ kW (eX X) 2 M_X12_strike T 3 [some (vR 54), some (vI n), some (vI a), some (vI b), some (vI dx), some (vI dy), some (vI p), some (vI q), some (vI u), some (vI (o + 1))] [] m := by
            intro u hu hui
            refine ⟨by constructor <;> omega, ih (o + 1) u (by omega) (by omega) hu ?_⟩
            rw [hui, hi]
            constructor
            · rintro (⟨j, hj, z⟩ | z)
              · exact ⟨j, by omega, z⟩
              · exact ⟨o, by omega, z⟩
            · rintro ⟨j, hj, z⟩
              by_cases e : j = o
              · rw [e] at z; exact Or.inr z
              · exact Or.inl ⟨j, by omega, z⟩
          have one : (v ≠ 0 ∨ (o ≠ n ∧ (m 72 (324 * o + p) ≠ 0 ∨ m 72 (324 * o + q) ≠ 0))) → _ := fun z => hnext 1 (Or.inr rfl) ⟨fun _ => z, fun _ => by decide⟩
          have nul : ¬ (v ≠ 0 ∨ (o ≠ n ∧ (m 72 (324 * o + p) ≠ 0 ∨ m 72 (324 * o + q) ≠ 0))) → _ := fun z => hnext 0 (Or.inl rfl) ⟨fun y => absurd rfl y, fun y => absurd y z⟩
          refine kW_go ok_X12_strike [3, 9] 20 ?_
          refine And.intro (fun h => ?_) (fun _ => ?_)
          · have h : m 54 26 ≤ o := h
            omega
          refine And.intro (fun h => one (Or.inl h)) (fun hv0 => And.intro (fun hon => nul ?_) (fun hon => ?_))
          · rintro (z | z)
            · exact z hv0
            · exact z.1 hon
          refine kCall_mono (c_X12_has X m o p ho8 hp9) (Nat.le_of_ble_eq_true rfl) ?_
          rintro _ m2 ⟨⟨h1, rfl⟩ | ⟨h1, rfl⟩, rfl⟩
          · exact And.intro (fun _ => one (Or.inr ⟨hon, Or.inl h1⟩)) (fun h => absurd h (by decide))
          · refine And.intro (fun h => absurd rfl h) (fun _ => ?_)
            refine kCall_mono (c_X12_has X m2 o q ho8 hq9) (Nat.le_of_ble_eq_true rfl) ?_
            rintro _ m3 ⟨⟨h2, rfl⟩ | ⟨h2, rfl⟩, rfl⟩
            · exact And.intro (fun h => absurd h (by decide)) (fun _ => one (Or.inr ⟨hon, Or.inr h2⟩))
            · refine And.intro (fun _ => nul ?_) (fun h => absurd rfl h)
              rintro (z | ⟨-, z | z⟩)
              · exact z hv0
              · exact h1 z
              · exact h2 z
      have hl0 := loop (m 54 26).toNat 0 0 (by omega) (by omega) (Or.inl rfl) ⟨fun z => absurd rfl z, fun ⟨j, hj, _⟩ => by omega⟩
      rw [hp] at hp9
      rw [hq] at hq9
      rw [hp, hq] at hl0
      refine kW_go ok_X12_strike [3, 9] 20 ?_
      exact ⟨by constructor <;> omega, by constructor <;> omega, by constructor <;> omega, by constructor <;> omega, by constructor <;> omega, by constructor <;> omega, hl0⟩
    · have hP : ¬ stP w d dx dy a := fun z => b2i_0.mp h ⟨z.1, z.2, by omega⟩
      have es : shR w d m dx dy n a b = 0 := by
        unfold shR
        rw [if_neg hl, iv_f (fun z => hP z.1)]
      have eo : opR w d m dx dy n a b = 1 := by
        unfold opR
        rw [if_neg hl, iv_t (fun z => hP z.1)]
      rw [es, eo] at hT
      refine ⟨by constructor <;> omega, hT _ _ ⟨rfl, ?_⟩⟩
      rw [Int.add_zero]
      exact StG_q (O := 54) (p := 47) (q := 48) (by decide) (m 54 48 + 1)
  · refine hT _ _ ⟨rfl, ?_⟩
    unfold shR opR
    rw [if_pos hl, if_pos hl, Int.add_zero, Int.add_zero]
    exact StG_rf (O := 54) (p := 47) (q := 48)
