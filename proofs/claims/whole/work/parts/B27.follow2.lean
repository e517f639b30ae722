/-! a trail followed by the class -/
theorem trl_bits {w d l : Int} {row P K : Int → Int} {q : Int} (hD : okD w d l) (hT : TrL w d l row q P K) (hr : ∀ x, inC w d l x → (0 ≤ row x ∧ row x < 64) ∧ ∀ k : Int, (0 ≤ k ∧ k < 6) → nx w d l x k = -1 → bt (row x) k.toNat = false) {i : Int} (hi : 0 ≤ i ∧ i ≤ q) (k : Nat) : bt (row (P i)) k = true ↔ (i < q ∧ (k : Int) = K i) ∨ (0 < i ∧ (k : Int) = oppF (K (i - 1))) := by
  obtain ⟨t1, t2, t3, t4⟩ := hT
  have hx := t1 i hi
  obtain ⟨hv, hz⟩ := hr _ hx
  constructor
  · intro hb
    have hk : k < 6 := by
      refine Decidable.byContradiction (fun h => ?_)
      rw [bt_small (n := 6) (inR_small (by omega)) hv.1 hv.2 (by omega)] at hb
      cases hb
    have hne : nx w d l (P i) (k : Int) ≠ -1 := by
      intro h
      have := hz (k : Int) (by omega) h
      rw [Int.toNat_natCast, hb] at this
      cases this
    have hq := (t4 (P i) (k : Int) hx (by omega) hne).mp (by rw [Int.toNat_natCast]; exact hb)
    obtain ⟨j, hj, ⟨a, b⟩ | ⟨a, b⟩⟩ := hq
    · have e : j = i := by
        by_cases h1 : j < i
        · exact absurd a (t3 j i ⟨by omega, h1, hi.2⟩)
        · by_cases h2 : i < j
          · exact absurd a.symm (t3 i j ⟨by omega, h2, by omega⟩)
          · omega
      rw [e] at b hj
      exact Or.inl ⟨hj.2, b.symm⟩
    · have e : j + 1 = i := by
        by_cases h1 : j + 1 < i
        · exact absurd a (t3 (j + 1) i ⟨by omega, h1, hi.2⟩)
        · by_cases h2 : i < j + 1
          · exact absurd a.symm (t3 i (j + 1) ⟨by omega, h2, by omega⟩)
          · omega
      refine Or.inr ⟨by omega, ?_⟩
      rw [show i - 1 = j by omega]
      exact b.symm
  · rintro (⟨a, b⟩ | ⟨a, b⟩)
    · have h2 := t2 i ⟨hi.1, a⟩
      have := (t4 (P i) (K i) hx h2.1 h2.2.1).mpr ⟨i, ⟨hi.1, a⟩, Or.inl ⟨rfl, rfl⟩⟩
      rw [show k = (K i).toNat by omega]
      exact this
    · have h2 := t2 (i - 1) (by omega)
      have e : nx w d l (P (i - 1)) (K (i - 1)) = P i := by rw [h2.2.2, show i - 1 + 1 = i by omega]
      have hne := nx_opp_ne hD (t1 (i - 1) (by omega)) h2.1 h2.2.1
      rw [e] at hne
      have ho := opp_in h2.1
      have := (t4 (P i) (oppF (K (i - 1))) hx ho hne).mpr ⟨i - 1, by omega, Or.inr ⟨by rw [show i - 1 + 1 = i by omega], rfl⟩⟩
      rw [show k = (oppF (K (i - 1))).toNat by omega]
      exact this
theorem trl_turn {w d l : Int} {row P K : Int → Int} {q : Int} (hD : okD w d l) (hT : TrL w d l row q P K) {i : Int} (hi : 0 < i ∧ i < q) : K i ≠ oppF (K (i - 1)) := by
  obtain ⟨t1, t2, t3, t4⟩ := hT
  intro e
  have h1 := t2 (i - 1) (by omega)
  have h2 := t2 i (by omega)
  have hb := nx_opp hD (t1 (i - 1) (by omega)) h1.1 h1.2.1
  rw [h1.2.2, show i - 1 + 1 = i by omega, ← e, h2.2.2] at hb
  exact t3 (i - 1) (i + 1) ⟨by omega, by omega, by omega⟩ hb.symm
/-- where the trail came from, as a bit -/
def bkW (K : Int → Int) (i : Int) : Int := if i = 0 then 0 else kshl 1 (oppF (K (i - 1)))
theorem trl_ways {w d l : Int} {row P K : Int → Int} {q : Int} (hD : okD w d l) (hT : TrL w d l row q P K) (hr : ∀ x, inC w d l x → (0 ≤ row x ∧ row x < 64) ∧ ∀ k : Int, (0 ≤ k ∧ k < 6) → nx w d l x k = -1 → bt (row x) k.toNat = false) {i : Int} (hi : 0 ≤ i ∧ i ≤ q) : kand (row (P i)) (kxor (bkW K i) (-1)) = if i < q then kshl 1 (K i) else 0 := by
  have hR : inR (if i < q then kshl 1 (K i) else 0) := by
    split
    · exact k_in_kshl _ _
    · exact k_in_lit (by decide)
  refine bt_ext (k_in_kand _ _) hR (fun k hk => ?_)
  have hb := trl_bits hD hT hr hi k
  have hbk : bt (bkW K i) k = true ↔ 0 < i ∧ (k : Int) = oppF (K (i - 1)) := by
    unfold bkW
    by_cases h0 : i = 0
    · rw [if_pos h0, bt_zero]
      exact ⟨fun z => (by cases z), fun z => by omega⟩
    · have ho := opp_in (hT.2.1 (i - 1) (by omega)).1
      rw [if_neg h0, bt_bit ho.1 (by omega), decide_eq_true_iff]
      exact ⟨fun z => ⟨by omega, z⟩, fun z => z.2⟩
  have hrhs : bt (if i < q then kshl 1 (K i) else 0) k = true ↔ i < q ∧ (k : Int) = K i := by
    by_cases hlt : i < q
    · have hk6 := (hT.2.1 i ⟨hi.1, hlt⟩).1
      rw [if_pos hlt, bt_bit hk6.1 (by omega), decide_eq_true_iff]
      exact ⟨fun z => ⟨hlt, z⟩, fun z => z.2⟩
    · rw [if_neg hlt, bt_zero]
      exact ⟨fun z => (by cases z), fun z => absurd z.1 hlt⟩
  refine Bool.eq_iff_iff.mpr ?_
  rw [bt_and, bt_not hk, Bool.and_eq_true, Bool.not_eq_true', hrhs, hb]
  constructor
  · rintro ⟨a | a, b⟩
    · exact a
    · rw [hbk.mpr a] at b; cases b
  · intro a
    refine ⟨Or.inl a, ?_⟩
    refine Bool.eq_false_iff.mpr (fun z => ?_)
    have := hbk.mp z
    exact trl_turn hD hT ⟨this.1, a.1⟩ (by rw [← a.2]; exact this.2)
theorem way_bit {k j : Int} (hk : 0 ≤ k ∧ k < 6) (hj : 0 ≤ j ∧ j < 6) : (kand (kshr (kshl 1 k) j) 1 ≠ 0 ↔ j = k) ∧ kand (kshr 0 j) 1 = 0 := by
  have : ∀ i : Fin 36, (kand (kshr (kshl 1 (((i.val / 6 : Nat) : Int))) (((i.val % 6 : Nat) : Int))) 1 ≠ 0 ↔ i.val % 6 = i.val / 6) ∧ kand (kshr 0 (((i.val % 6 : Nat) : Int))) 1 = 0 := by decide +kernel
  have h := this ⟨6 * k.toNat + j.toNat, by omega⟩
  have e1 : (6 * k.toNat + j.toNat) / 6 = k.toNat := by omega
  have e2 : (6 * k.toNat + j.toNat) % 6 = j.toNat := by omega
  simp only [e1, e2, Int.toNat_of_nonneg hk.1, Int.toNat_of_nonneg hj.1] at h
  exact ⟨h.1.trans (by omega), h.2⟩
set_option maxRecDepth 100000 in
theorem c_X9_follow (X : Xv) (m : Mem) {w d l : Int} (hB : Bd X w d l m) (n : Int) (hn : 0 ≤ n ∧ n < 8) (hW : WFn w d l m n) {P K : Int → Int} {q : Int} (hT : TrL w d l (fun x => m 19 (n * (w * d * l) + x)) q P K) (hq : 0 ≤ q ∧ q < (nC X : Int)) (hp : m 14 (n * 4 + 1) = P 0) : kCall (eX X) 2 M_X9_follow.1 [vR 51, vI n] m (fun r m' => r = none ∧ (∀ o, o ≠ 51 → o ≠ 52 → o ≠ 53 → m' o = m o) ∧ m' 51 5 = q ∧ (∀ i : Int, (0 ≤ i ∧ i ≤ q) → m' 52 i = P i) ∧ ∀ i : Int, (0 ≤ i ∧ i < q) → m' 53 i = K i) := by
  obtain ⟨hD, hN, hG⟩ := id hB
  have hc4 := okD_cells hD
  have g4 : m 1 4 = (nC X : Int) := by rw [hG.2.2.2.2.1]; exact hN
  have hr : ∀ x, inC w d l x → (0 ≤ m 19 (n * (w * d * l) + x) ∧ m 19 (n * (w * d * l) + x) < 64) ∧ ∀ k : Int, (0 ≤ k ∧ k < 6) → nx w d l x k = -1 → bt (m 19 (n * (w * d * l) + x)) k.toNat = false := fun x hx => ⟨(hW.1 x hx).1.2, fun k hk hne => ((hW.1 x hx).2.1 k hk hne).2⟩
  refine kCall_ofT ok_X9_follow rfl (Nat.le_of_ble_eq_true rfl) (fun T hT' => ?_)
  obtain ⟨J, hJ⟩ : ∃ J : Int → Mem → Prop, ∀ s m', J s m' ↔ ((∀ o, o ≠ 51 → o ≠ 52 → o ≠ 53 → m' o = m o) ∧ m' 51 5 = s ∧ (∀ i : Int, (0 ≤ i ∧ i ≤ s) → m' 52 i = P i) ∧ ∀ i : Int, (0 ≤ i ∧ i < s) → m' 53 i = K i) := ⟨_, fun _ _ => Iff.rfl⟩
  have loop : ∀ (k : Nat) (s : Int) (m' : Mem) (x5 x6 : Option AV), s + k = q → 0 ≤ s → J s m' → kW (eX X) 1 M_X9_follow T 1 [some (vR 51), some (vI n), some (vI (P s)), some (vI (bkW K s)), some (vI s), x5, x6] [] m' := by
    intro k
    induction k with
    | zero =>
      intro s m' x5 x6 hsk h0 hj
      have hs : s = q := by omega
      subst hs
      obtain ⟨j1, j2, j3, j4⟩ := (hJ _ _).mp hj
      have hx := hT.1 s ⟨h0, Int.le_refl _⟩
      have hxb : 0 ≤ P s ∧ P s < (nC X : Int) := by obtain ⟨a, b⟩ := hx; omega
      have hi := ixn (N := (nC X : Int)) (by omega) hn hxb
      have e4 : m' 1 4 = (nC X : Int) := by rw [j1 1 (by decide) (by decide) (by decide)]; exact g4
      have hw := trl_ways hD hT hr (i := s) ⟨h0, Int.le_refl _⟩
      rw [if_neg (Int.lt_irrefl _)] at hw
      have hw : kand (m 19 (n * (nC X : Int) + P s)) (kxor (bkW K s) (-1)) = 0 := by rw [← hN]; exact hw
      have turn : ∀ (r : Nat) (j : Int), j + r = 6 → 0 ≤ j → kW (eX X) 1 M_X9_follow T 2 [some (vR 51), some (vI n), some (vI (P s)), some (vI (bkW K s)), some (vI s), some (vI 0), some (vI j)] [] m' := by
        intro r
        induction r with
        | zero =>
          intro j hjr hj0
          refine kW_go ok_X9_follow [1, 2] 20 ?_
          exact And.intro (fun _ => And.intro (fun _ => hT' _ _ ⟨rfl, j1, j2, j3, j4⟩) (fun h => absurd h (by omega))) (fun h => absurd h (by omega))
        | succ r ihr =>
          intro j hjr hj0
          have hz := (way_bit (k := 0) (by decide) (j := j) (by omega)).2
          refine kW_go ok_X9_follow [1, 2] 20 ?_
          exact And.intro (fun h => absurd h (by omega)) (fun _ => And.intro (fun h => absurd hz h) (fun _ => ⟨by constructor <;> omega, ihr (j + 1) (by omega) (by omega)⟩))
      refine kW_go ok_X9_follow [1, 2] 20 ?_
      refine And.intro (fun h => ?_) (fun _ => ?_)
      · have h : m' 1 4 ≤ s := h
        omega
      have hgoal : inR (n * m' 1 4) ∧ inR (n * m' 1 4 + P s) ∧ (0 ≤ n * m' 1 4 + P s ∧ n * m' 1 4 + P s < ((nC X * 8 : Nat) : Int)) ∧ kW (eX X) 1 M_X9_follow T 2 [some (vR 51), some (vI n), some (vI (P s)), some (vI (bkW K s)), some (vI s), some (vI (kand (m' 19 (n * m' 1 4 + P s)) (kxor (bkW K s) (-1)))), some (vI 0)] [] m' := by
        rw [e4, j1 19 (by decide) (by decide) (by decide), hw]
        exact ⟨by constructor <;> omega, by constructor <;> omega, by omega, turn 6 0 (by omega) (by omega)⟩
      exact hgoal
    | succ k ih =>
      intro s m' x5 x6 hsk h0 hj
      obtain ⟨j1, j2, j3, j4⟩ := (hJ _ _).mp hj
      have hx := hT.1 s ⟨h0, by omega⟩
      have hxb : 0 ≤ P s ∧ P s < (nC X : Int) := by obtain ⟨a, b⟩ := hx; omega
      have hi := ixn (N := (nC X : Int)) (by omega) hn hxb
      have e4 : m' 1 4 = (nC X : Int) := by rw [j1 1 (by decide) (by decide) (by decide)]; exact g4
      have hw := trl_ways hD hT hr (i := s) ⟨h0, by omega⟩
      rw [if_pos (by omega)] at hw
      have hw : kand (m 19 (n * (nC X : Int) + P s)) (kxor (bkW K s) (-1)) = kshl 1 (K s) := by rw [← hN]; exact hw
      obtain ⟨hk6, hne, hnx⟩ := hT.2.1 s ⟨h0, by omega⟩
      have e2 : m' 2 (P s * 6 + K s) = P (s + 1) := by rw [j1 2 (by decide) (by decide) (by decide), (hG.2.2.2.2.2 (P s) hx).2.2.2 (K s) hk6.1 hk6.2, hnx]
      have hx1 := hT.1 (s + 1) ⟨by omega, by omega⟩
      have hix : 0 ≤ P s * 6 + K s ∧ P s * 6 + K s < ((nC X * 6 : Nat) : Int) := by omega
      have turn : ∀ (r : Nat) (j : Int), j + r = K s → 0 ≤ j → kW (eX X) 1 M_X9_follow T 2 [some (vR 51), some (vI n), some (vI (P s)), some (vI (bkW K s)), some (vI s), some (vI (kshl 1 (K s))), some (vI j)] [] m' := by
        intro r
        induction r with
        | zero =>
          intro j hjr hj0
          have hjK : j = K s := by omega
          have hb := (way_bit hk6 (j := j) (by omega)).1.mpr hjK
          subst hjK
          refine kW_go ok_X9_follow [1, 2] 20 ?_
          refine And.intro (fun h => absurd h (by omega)) (fun _ => And.intro (fun _ => ?_) (fun h => absurd h hb))
          refine And.intro (fun h => absurd h (by omega)) (fun _ => ⟨by constructor <;> omega, by constructor <;> omega, hix, ?_⟩)
          have hq1 : P (s + 1) ≠ -1 := by have := hx1.1; omega
          refine And.intro (fun _ => ?_) (fun h => absurd (show m' 2 (P s * 6 + K s) = -1 from h) (by rw [e2]; exact hq1))
          obtain ⟨mA, hmA⟩ : ∃ mA, mA = mset m' 53 (m' 51 5) (K s) := ⟨_, rfl⟩
          obtain ⟨mB, hmB⟩ : ∃ mB, mB = mset mA 51 5 (mA 51 5 + 1) := ⟨_, rfl⟩
          obtain ⟨mC, hmC⟩ : ∃ mC, mC = mset mB 52 (mB 51 5) (mA 2 (P s * 6 + K s)) := ⟨_, rfl⟩
          have a5 : mA 51 5 = s := by rw [hmA, k_mset_ne (by decide)]; exact j2
          have a2 : mA 2 (P s * 6 + K s) = P (s + 1) := by rw [hmA, k_mset_ne (by decide)]; exact e2
          have b5 : mB 51 5 = s + 1 := by rw [hmB, k_mset_at, if_pos rfl, a5]
          have hgoal : (0 ≤ m' 51 5 ∧ m' 51 5 < ((nC X + 1 : Nat) : Int)) ∧ (0 ≤ K s ∧ K s < ((6 : Nat) : Int)) ∧ inR (P s * 6) ∧ inR (P s * 6 + K s) ∧ (0 ≤ P s * 6 + K s ∧ P s * 6 + K s < ((nC X * 6 : Nat) : Int)) ∧ inR (mA 51 5 + 1) ∧ (0 ≤ mB 51 5 ∧ mB 51 5 < ((nC X + 1 : Nat) : Int)) ∧ inR (s + 1) ∧ kW (eX X) 1 M_X9_follow T 1 [some (vR 51), some (vI n), some (vI (mA 2 (P s * 6 + K s))), some (vI (kshl 1 (oppF (K s)))), some (vI (s + 1)), some (vI (kshl 1 (K s))), some (vI (K s))] [] mC := by
            rw [j2, a5, a2, b5]
            refine ⟨by omega, hk6, by constructor <;> omega, by constructor <;> omega, by omega, by constructor <;> omega, by omega, by constructor <;> omega, ?_⟩
            have hih := ih (s + 1) mC (some (vI (kshl 1 (K s)))) (some (vI (K s))) (by omega) (by omega) ((hJ _ _).mpr ⟨fun o p1 p2 p3 => by rw [hmC, hmB, hmA, k_mset_ne p2, k_mset_ne p1, k_mset_ne p3]; exact j1 o p1 p2 p3, by rw [hmC, k_mset_ne (by decide)]; exact b5, fun i hi => ?_, fun i hi => ?_⟩)
            · rw [show bkW K (s + 1) = kshl 1 (oppF (K s)) from by unfold bkW; rw [if_neg (by omega), show s + 1 - 1 = s by omega]] at hih
              exact hih
            · rw [hmC, k_mset_at, b5, a2]
              by_cases e : i = s + 1
              · rw [if_pos e, e]
              · rw [if_neg e, hmB, hmA, k_mset_ne (by decide), k_mset_ne (by decide)]
                exact j3 i (by omega)
            · rw [hmC, hmB, hmA, k_mset_ne (by decide), k_mset_ne (by decide), k_mset_at, j2]
              by_cases e : i = s
              · rw [if_pos e, e]
              · rw [if_neg e]
                exact j4 i (by omega)
          subst hmC hmB hmA
          exact hgoal
        | succ r ihr =>
          intro j hjr hj0
          have hb : kand (kshr (kshl 1 (K s)) j) 1 = 0 := Decidable.byContradiction (fun z => by have := (way_bit hk6 (j := j) (by omega)).1.mp z; omega)
          refine kW_go ok_X9_follow [1, 2] 20 ?_
          exact And.intro (fun h => absurd h (by omega)) (fun _ => And.intro (fun h => absurd hb h) (fun _ => ⟨by constructor <;> omega, ihr (j + 1) (by omega) (by omega)⟩))
      refine kW_go ok_X9_follow [1, 2] 20 ?_
      refine And.intro (fun h => ?_) (fun _ => ?_)
      · have h : m' 1 4 ≤ s := h
        omega
      have hgoal : inR (n * m' 1 4) ∧ inR (n * m' 1 4 + P s) ∧ (0 ≤ n * m' 1 4 + P s ∧ n * m' 1 4 + P s < ((nC X * 8 : Nat) : Int)) ∧ kW (eX X) 1 M_X9_follow T 2 [some (vR 51), some (vI n), some (vI (P s)), some (vI (bkW K s)), some (vI s), some (vI (kand (m' 19 (n * m' 1 4 + P s)) (kxor (bkW K s) (-1)))), some (vI 0)] [] m' := by
        rw [e4, j1 19 (by decide) (by decide) (by decide), hw]
        exact ⟨by constructor <;> omega, by constructor <;> omega, by omega, turn (K s).toNat 0 (by omega) (by omega)⟩
      exact hgoal
  refine kW_go ok_X9_follow [1, 2] 20 ?_
  refine kCall_mono (c_X3_pinCell X m n 1 hn (by decide)) (Nat.le_of_ble_eq_true rfl) ?_
  rintro _ m1 ⟨rfl, rfl⟩
  rw [hp]
  refine ⟨by omega, loop q.toNat 0 _ none none (by omega) (by omega) ((hJ _ _).mpr ⟨fun o p1 p2 p3 => ?_, ?_, fun i hi => ?_, fun i hi => by omega⟩)⟩
  · rw [k_mset_ne p2]
    exact k_mset_ne p1
  · rw [k_mset_ne (by decide)]
    exact k_mset_at
  · rw [show i = 0 by omega, k_mset_at, if_pos rfl]
