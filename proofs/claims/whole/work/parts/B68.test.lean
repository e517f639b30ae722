/-! TEST alike -/
theorem cuN_am {w d l : Int} {c : Mem} (hM : WM w d l c) {o x : Int} (ho : 0 ≤ o ∧ o < 8) (hx : inC w d l x) (h : cuN c o x) : o < c 9 14 := by
  refine Classical.byContradiction (fun hn => ?_)
  have hn : c 9 14 ≤ o := by omega
  obtain ⟨h1, h2⟩ := hM.2.2.1 o ho
  have hz := h2 hn x hx
  have h13 := (hM.2.1.1 o ho).2 hn
  obtain ⟨-, -, h17, h16⟩ := h1 x hx
  rcases h with h | h
  · rcases h16.mp h with h | ⟨p, hp, -⟩
    · exact h hz.1
    · omega
  · exact h17.mp h hz.2
theorem lay_iff {w d l z x : Int} (hD : okD w d l) (hz : 0 ≤ z ∧ z < l) : (inC w d l x ∧ gZ w d x = z) ↔ (z * (w * d) ≤ x ∧ x < (z + 1) * (w * d)) := by
  have hl := hD.2.2
  obtain ⟨F, hF⟩ : ∃ F, F = w * d := ⟨_, rfl⟩
  have hFp : 0 < F := by rw [hF]; exact Int.mul_pos (by have := hD.1; omega) (by have := hD.2.1; omega)
  have e1 : (z + 1) * F = z * F + F := by rw [Int.add_mul, Int.one_mul]
  rw [← hF]
  constructor
  · rintro ⟨hx, e⟩
    unfold gZ at e
    rw [← hF] at e
    have h1 := Int.ediv_mul_le x (show F ≠ 0 by omega)
    have h2 := Int.lt_ediv_add_one_mul_self x hFp
    rw [e] at h1 h2
    exact ⟨h1, h2⟩
  · rintro ⟨h1, h2⟩
    have := lay_q (q := x - z * F) hD hz (by rw [← hF]; omega)
    rw [← hF, show z * F + (x - z * F) = x by omega] at this
    exact this
/-- a net's copper that a needle reaches alone -/
def aloP (w d l : Int) (c : Mem) (n x : Int) : Prop := cuN c n x ∧ c 15 x = 0 ∧ ∀ o : Int, (0 ≤ o ∧ o < 8) → o ≠ n → ¬ cuN c o x ∧ ¬ byP w d l c o x
def tstP (w d l : Int) (c : Mem) (z n : Int) : Prop := ∃ x, (inC w d l x ∧ gZ w d x = z) ∧ aloP w d l c n x
theorem c_X0_copperBeside8 (X : Xv) (m : Mem) {w d l : Int} (hB : Bd X w d l m) (hM : WM w d l m) (x : Int) (hx : inC w d l x) : kCall (eX X) 2 M_X0_copperBeside.1 [vR 46, vI x] m (fun r m' => (∃ v, r = some (vI v) ∧ (0 ≤ v ∧ v < 256) ∧ ∀ o : Nat, o < 8 → (bt v o = true ↔ byP w d l m (o : Int) x)) ∧ m' = m) := by
  obtain ⟨hD, hN, hG⟩ := id hB
  have hc4 := okD_cells hD
  have hxb : 0 ≤ x ∧ x < (nC X : Int) := by obtain ⟨a, b⟩ := hx; omega
  refine kCall_ofT ok_X0_copperBeside rfl (Nat.le_of_ble_eq_true rfl) (fun T hT => ?_)
  have loop : ∀ (q : Nat) (k v : Int) (x4 : Option AV), k + q = 4 → 0 ≤ k → (0 ≤ v ∧ v < 256) → (∀ o : Nat, o < 8 → (bt v o = true ↔ ∃ j : Int, (0 ≤ j ∧ j < k) ∧ nx w d l x j ≠ -1 ∧ cuN m (o : Int) (nx w d l x j))) → kW (eX X) 1 M_X0_copperBeside T 1 [some (vR 46), some (vI x), some (vI v), some (vI k), x4] [] m := by
    intro q
    induction q with
    | zero =>
      intro k v x4 hkq h0 hv hb
      have hk : k = 4 := by omega
      subst hk
      refine kW_go ok_X0_copperBeside [1] 20 ?_
      exact And.intro (fun _ => hT _ _ ⟨⟨v, rfl, hv, hb⟩, rfl⟩) (fun h => absurd h (by decide))
    | succ q ih =>
      intro k v x4 hkq h0 hv hb
      have e2 : m 2 (x * 6 + k) = nx w d l x k := (hG.2.2.2.2.2 x hx).2.2.2 k h0 (by omega)
      have hnext : ∀ u : Int, (0 ≤ u ∧ u < 256) → (∀ o : Nat, o < 8 → (bt u o = true ↔ nx w d l x k ≠ -1 ∧ cuN m (o : Int) (nx w d l x k))) → ∀ x4, inR (k + 1) ∧ kW (eX X) 1 M_X0_copperBeside T 1 [some (vR 46), some (vI x), some (vI (kor v u)), some (vI (k + 1)), x4] [] m := by
        intro u hu hbu x4
        refine ⟨by constructor <;> omega, ih (k + 1) (kor v u) x4 (by omega) (by omega) (kor8 hv hu) (fun o ho => ?_)⟩
        rw [bt_or, Bool.or_eq_true, hb o ho, hbu o ho]
        constructor
        · rintro (⟨j, hj, z⟩ | z)
          · exact ⟨j, by omega, z⟩
          · exact ⟨k, by omega, z⟩
        · rintro ⟨j, hj, z⟩
          by_cases e : j = k
          · rw [e] at z; exact Or.inr z
          · exact Or.inl ⟨j, by omega, z⟩
      refine kW_go ok_X0_copperBeside [1] 20 ?_
      refine And.intro (fun h => absurd h (by omega)) (fun _ => ?_)
      refine ⟨by constructor <;> omega, by constructor <;> omega, by show 0 ≤ x * 6 + k ∧ x * 6 + k < ((nC X * 6 : Nat) : Int); omega, ?_⟩
      rw [e2]
      by_cases hne : nx w d l x k = -1
      · refine And.intro (fun h => absurd hne h) (fun _ => hnext 0 (by decide) (fun o ho => ?_) _)
        rw [bt_zero]
        exact ⟨fun z => (by cases z), fun z => absurd hne z.1⟩
      · have hyi := (nx_in hne).1
        refine And.intro (fun _ => ?_) (fun h => absurd h hne)
        refine kCall_mono (c_X3_copperAt X m (nx w d l x k) ⟨hyi.1, by have := hyi.2; omega⟩) (Nat.le_of_ble_eq_true rfl) ?_
        rintro _ m3 ⟨rfl, rfl⟩
        refine hnext _ (kor8 (hM.2.2.2 _ hyi).1 (hM.2.2.2 _ hyi).2) (fun o ho => ?_) _
        rw [bt_or, Bool.or_eq_true]
        unfold cuN
        rw [Int.toNat_natCast]
        exact ⟨fun z => ⟨hne, z⟩, fun z => z.2⟩
  refine kW_go ok_X0_copperBeside [1] 20 ?_
  refine loop 4 0 0 none (by omega) (by omega) (by decide) (fun o ho => ?_)
  rw [bt_zero]
  exact ⟨fun z => (by cases z), fun ⟨j, hj, _⟩ => by omega⟩
theorem pop_one : ∀ v : Fin 256, pop (v.val : Int) = 1 ↔ ∃ n : Fin 8, bt (v.val : Int) n.val = true ∧ ∀ o : Fin 8, o ≠ n → bt (v.val : Int) o.val = false := by decide +kernel
/-- what the class asks of a cell -/
theorem alo_iff {w d l : Int} {c : Mem} {x b u : Int} (hu : u = kor (c 16 x) (c 17 x)) (hu8 : 0 ≤ u ∧ u < 256) (hb8 : 0 ≤ b ∧ b < 256) (hb : ∀ o : Nat, o < 8 → (bt b o = true ↔ byP w d l c (o : Int) x)) : ((pop u = 1 ∧ c 15 x = 0 ∧ kand b (kxor u (-1)) = 0) → ∀ o : Nat, o < 8 → (bt u o = true ↔ aloP w d l c (o : Int) x)) ∧ (¬ (pop u = 1 ∧ c 15 x = 0 ∧ kand b (kxor u (-1)) = 0) → ∀ o : Nat, o < 8 → ¬ aloP w d l c (o : Int) x) := by
  have hcu : ∀ o : Nat, o < 8 → (bt u o = true ↔ cuN c (o : Int) x) := by
    intro o ho
    rw [hu, bt_or, Bool.or_eq_true]
    unfold cuN
    rw [Int.toNat_natCast]
  have hp := pop_one ⟨u.toNat, by omega⟩
  simp only [Int.toNat_of_nonneg hu8.1] at hp
  have hk : kand b (kxor u (-1)) = 0 ↔ ∀ o : Nat, o < 8 → bt b o = true → bt u o = true := by
    constructor
    · intro h o ho hbo
      have h2 : bt (kand b (kxor u (-1))) o = false := by rw [h, bt_zero]
      rw [bt_and, hbo, bt_not (by omega)] at h2
      cases e : bt u o
      · rw [e] at h2; cases h2
      · rfl
    · intro h
      refine bits_eq (and8 hb8) (by decide) (fun k hk => ?_)
      rw [bt_and, bt_zero, bt_not (by omega)]
      cases e : bt b k
      · rfl
      · rw [h k hk e]; rfl
  constructor
  · rintro ⟨h1, h2, h3⟩ o ho
    obtain ⟨n, hn, hno⟩ := hp.mp h1
    have hk3 := hk.mp h3
    constructor
    · intro ho2
      refine ⟨(hcu o ho).mp ho2, h2, fun j hj hne => ?_⟩
      have hjn : (⟨j.toNat, by omega⟩ : Fin 8) ≠ n := by
        intro e
        have e2 : o = n.val := by
          refine Classical.byContradiction (fun q => ?_)
          have := hno ⟨o, ho⟩ (fun z => q (congrArg Fin.val z))
          rw [ho2] at this
          cases this
        have e3 := congrArg Fin.val e
        have e3 : j.toNat = n.val := e3
        omega
      have hf : bt u j.toNat = false := hno _ hjn
      have ej : ((j.toNat : Nat) : Int) = j := by omega
      constructor
      · intro q
        rw [← ej, ← hcu j.toNat (by omega), hf] at q
        cases q
      · intro q
        rw [← ej, ← hb j.toNat (by omega)] at q
        have := hk3 _ (by omega) q
        rw [hf] at this
        cases this
    · intro q
      exact (hcu o ho).mpr q.1
  · intro hno o ho q
    refine hno ⟨hp.mpr ⟨⟨o, ho⟩, (hcu o ho).mpr q.1, fun j hj => ?_⟩, q.2.1, hk.mpr (fun j hj hbj => ?_)⟩
    · have hne : (j.val : Int) ≠ (o : Int) := fun z => hj (Fin.ext (show j.val = o by omega))
      have := (q.2.2 (j.val : Int) ⟨by omega, by omega⟩ hne).1
      cases e : bt u j.val
      · rfl
      · exact absurd ((hcu j.val j.isLt).mp e) this
    · by_cases e : j = o
      · rw [e]; exact (hcu o ho).mpr q.1
      · exact absurd ((hb j hj).mp hbj) (q.2.2 (j : Int) ⟨by omega, by omega⟩ (by omega)).2
set_option maxRecDepth 100000 in
theorem c_X0_reachable (X : Xv) (m : Mem) {w d l : Int} (hB : Bd X w d l m) (hM : WM w d l m) (z : Int) (hz : 0 ≤ z ∧ z < l) : kCall (eX X) 4 M_X0_reachable.1 [vR 46, vI z] m (fun r m' => (∃ v, r = some (vI v) ∧ (0 ≤ v ∧ v < 256) ∧ ∀ o : Nat, o < 8 → (bt v o = true ↔ tstP w d l m z (o : Int))) ∧ m' = m) := by
  obtain ⟨hD, hN, hG⟩ := id hB
  have hc4 := okD_cells hD
  obtain ⟨F, hF⟩ : ∃ F, F = w * d := ⟨_, rfl⟩
  have hFp : 0 < F := by rw [hF]; exact Int.mul_pos (by have := hD.1; omega) (by have := hD.2.1; omega)
  have e1 : (z + 1) * F = z * F + F := by rw [Int.add_mul, Int.one_mul]
  have h0z : 0 ≤ z * F := Int.mul_nonneg hz.1 (by omega)
  have hle : (z + 1) * F ≤ (nC X : Int) := by
    rw [← hN, ← hF, Int.mul_comm F l]
    exact Int.mul_le_mul_of_nonneg_right (by omega) (by omega)
  have hlay : ∀ x, (inC w d l x ∧ gZ w d x = z) ↔ (z * F ≤ x ∧ x < (z + 1) * F) := fun x => by rw [hF]; exact lay_iff hD hz
  have g3 : m 1 3 = F := by rw [hG.2.2.2.1, hF]
  have hl := hD.2.2
  refine kCall_ofT ok_X0_reachable rfl (Nat.le_of_ble_eq_true rfl) (fun T hT => ?_)
  have loop : ∀ (q : Nat) (i v : Int) (x4 : Option AV), i + q = (z + 1) * F → z * F ≤ i → (0 ≤ v ∧ v < 256) → (∀ o : Nat, o < 8 → (bt v o = true ↔ ∃ x, (z * F ≤ x ∧ x < i) ∧ aloP w d l m (o : Int) x)) → kW (eX X) 3 M_X0_reachable T 1 [some (vR 46), some (vI z), some (vI v), some (vI i), x4] [] m := by
    intro q
    induction q with
    | zero =>
      intro i v x4 hq h0 hv hb
      refine kW_go ok_X0_reachable [1] 20 ?_
      show inR (z + 1) ∧ inR ((z + 1) * m 1 3) ∧ ((z + 1) * m 1 3 ≤ i → T (some (vI v)) m) ∧ (i < (z + 1) * m 1 3 → _)
      rw [g3]
      refine ⟨by constructor <;> omega, by constructor <;> omega, fun _ => hT _ _ ⟨⟨v, rfl, hv, fun o ho => ?_⟩, rfl⟩, fun h => absurd h (by omega)⟩
      rw [hb o ho]
      constructor
      · rintro ⟨x, hx, ha⟩
        exact ⟨x, (hlay x).mpr (by omega), ha⟩
      · rintro ⟨x, hx, ha⟩
        exact ⟨x, by have := (hlay x).mp hx; omega, ha⟩
    | succ q ih =>
      intro i v x4 hq h0 hv hb
      have hix := ((hlay i).mpr ⟨h0, by omega⟩).1
      have hib : 0 ≤ i ∧ i < (nC X : Int) := by omega
      obtain ⟨u, hu⟩ : ∃ u, u = kor (m 16 i) (m 17 i) := ⟨_, rfl⟩
      have hu8 : 0 ≤ u ∧ u < 256 := by rw [hu]; exact kor8 (hM.2.2.2 i hix).1 (hM.2.2.2 i hix).2
      have hskip : (∀ o : Nat, o < 8 → ¬ aloP w d l m (o : Int) i) → kW (eX X) 3 M_X0_reachable T 2 [some (vR 46), some (vI z), some (vI v), some (vI i), some (vI u)] [] m := by
        intro hno
        refine kW_go ok_X0_reachable [1] 20 ?_
        refine ⟨by constructor <;> omega, ih (i + 1) v _ (by omega) (by omega) hv (fun o ho => ?_)⟩
        rw [hb o ho]
        constructor
        · rintro ⟨x, hx, ha⟩
          exact ⟨x, by omega, ha⟩
        · rintro ⟨x, hx, ha⟩
          by_cases e : x = i
          · rw [e] at ha; exact absurd ha (hno o ho)
          · exact ⟨x, by omega, ha⟩
      refine kW_go ok_X0_reachable [1, 2] 20 ?_
      show inR (z + 1) ∧ inR ((z + 1) * m 1 3) ∧ ((z + 1) * m 1 3 ≤ i → _) ∧ (i < (z + 1) * m 1 3 → _)
      rw [g3]
      refine ⟨by constructor <;> omega, by constructor <;> omega, fun h => absurd h (by omega), fun _ => ?_⟩
      refine kCall_mono (c_X3_copperAt X m i hib) (Nat.le_of_ble_eq_true rfl) ?_
      rw [← hu]
      rintro _ m2 ⟨rfl, rfl⟩
      refine kCall_mono (c_bitCount (eX X) m2 u hu8.1 hu8.2) (Nat.le_of_ble_eq_true rfl) ?_
      rintro _ m3 ⟨rfl, rfl⟩
      have hskip2 : ¬ (pop u = 1 ∧ m3 15 i = 0) → kW (eX X) 3 M_X0_reachable T 2 [some (vR 46), some (vI z), some (vI v), some (vI i), some (vI u)] [] m3 := fun h => hskip (fun o ho q => h ⟨by
        have hp := pop_one ⟨u.toNat, by omega⟩
        simp only [Int.toNat_of_nonneg hu8.1] at hp
        refine hp.mpr ⟨⟨o, ho⟩, ?_, fun j hj => ?_⟩
        · have := q.1
          unfold cuN at this
          rw [Int.toNat_natCast] at this
          show bt u o = true
          rw [hu, bt_or, Bool.or_eq_true]
          exact this
        · have hne : (j.val : Int) ≠ (o : Int) := fun z => hj (Fin.ext (show j.val = o by omega))
          have := (q.2.2 (j.val : Int) ⟨by omega, by omega⟩ hne).1
          cases e : bt u j.val
          · rfl
          · refine absurd ?_ this
            unfold cuN
            rw [Int.toNat_natCast, ← Bool.or_eq_true, ← bt_or, ← hu]
            exact e, q.2.1⟩)
      refine And.intro (fun h => hskip2 (fun q => h q.1)) (fun h1 => ⟨hib, And.intro (fun h => hskip2 (fun q => h q.2)) (fun h2 => ?_)⟩)
      have h1 : pop u = 1 := h1
      have h2 : m3 15 i = 0 := h2
      refine kCall_mono (c_X0_copperBeside8 X m3 hB hM i hix) (Nat.le_of_ble_eq_true rfl) ?_
      rintro _ m4 ⟨⟨b, rfl, hb8, hbb⟩, rfl⟩
      have ha := alo_iff hu hu8 hb8 hbb
      refine And.intro (fun h => hskip (ha.2 (fun q => h q.2.2))) (fun h3 => ?_)
      have h3 : kand b (kxor u (-1)) = 0 := h3
      have ha := ha.1 ⟨h1, h2, h3⟩
      refine kW_go ok_X0_reachable [1] 20 ?_
      refine ⟨by constructor <;> omega, ih (i + 1) (kor v u) _ (by omega) (by omega) (kor8 hv hu8) (fun o ho => ?_)⟩
      rw [bt_or, Bool.or_eq_true, hb o ho, ha o ho]
      constructor
      · rintro (⟨x, hx, q⟩ | q)
        · exact ⟨x, by omega, q⟩
        · exact ⟨i, by omega, q⟩
      · rintro ⟨x, hx, q⟩
        by_cases e : x = i
        · rw [e] at q; exact Or.inr q
        · exact Or.inl ⟨x, by omega, q⟩
  have hgo : kW (eX X) 3 M_X0_reachable T 1 [some (vR 46), some (vI z), some (vI 0), some (vI (z * F)), none] [] m := loop F.toNat (z * F) 0 none (by omega) (by omega) (by decide) (fun o ho => by
    rw [bt_zero]
    exact ⟨fun z => (by cases z), fun ⟨x, hx, _⟩ => by omega⟩)
  refine kW_go ok_X0_reachable [1] 20 ?_
  show inR (z * fld m 1 3) ∧ kW (eX X) 3 M_X0_reachable T 1 [some (vR 46), some (vI z), some (vI 0), some (vI (z * fld m 1 3)), none] [] m
  rw [show fld m 1 3 = F from g3]
  exact ⟨by constructor <;> omega, hgo⟩
