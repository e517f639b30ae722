/-! the reference's free cells -/
/-- an answer that tells whether P holds; the memory stays -/
abbrev bP (P : Prop) (m : Mem) : Option AV → Mem → Prop := fun r m' => ((P ∧ r = some (vI 1)) ∨ (¬ P ∧ r = some (vI 0))) ∧ m' = m
/-- whether a net's traces count now -/
def cntT (m : Mem) (n : Int) : Prop := kand (kshr (m 54 28) n) 1 = 0 ∧ (m 54 30 = 0 ∨ n = m 54 29)
/-- whether a net's copper counts in a cell -/
def cnt (m : Mem) (n c : Int) : Prop := (cntT m n ∧ kand (m 72 (324 * n + c)) 7 ≠ 0) ∨ (¬ cntT m n ∧ kand (m 72 (324 * n + c)) 5 ≠ 0)
theorem c_X12_counts (X : Xv) (m : Mem) (n c : Int) (hn : 0 ≤ n ∧ n < 8) (hc : 0 ≤ c ∧ c < 324) : kCall (eX X) 1 M_X12_counts.1 [vR 54, vI n, vI c] m (bP (cnt m n c) m) := by
  refine kCall_ofT ok_X12_counts rfl (Nat.le_of_ble_eq_true rfl) (fun T hT => ?_)
  have hb : 0 ≤ 324 * n + c ∧ 324 * n + c < ((2592 : Nat) : Int) := by omega
  have p1 : cntT m n → kW (eX X) 0 M_X12_counts T 3 [some (vR 54), some (vI n), some (vI c), none] [vI 1] m := by
    intro ht
    refine kW_go ok_X12_counts [] 20 ?_
    refine ⟨by constructor <;> omega, by constructor <;> omega, hb, And.intro (fun h => absurd h (by decide)) (fun _ => And.intro (fun h => ?_) (fun h => ?_))⟩
    · refine hT _ _ ⟨Or.inl rfl, Or.inr ⟨?_, rfl⟩, rfl⟩
      rintro (⟨-, q⟩ | ⟨q, -⟩)
      · exact q h
      · exact q ht
    · exact hT _ _ ⟨Or.inr rfl, Or.inl ⟨Or.inl ⟨ht, h⟩, rfl⟩, rfl⟩
  have p0 : ¬ cntT m n → kW (eX X) 0 M_X12_counts T 3 [some (vR 54), some (vI n), some (vI c), none] [vI 0] m := by
    intro ht
    refine kW_go ok_X12_counts [] 20 ?_
    refine ⟨by constructor <;> omega, by constructor <;> omega, hb, And.intro (fun _ => And.intro (fun h => ?_) (fun h => ?_)) (fun h => absurd rfl h)⟩
    · refine hT _ _ ⟨Or.inl rfl, Or.inr ⟨?_, rfl⟩, rfl⟩
      rintro (⟨q, -⟩ | ⟨-, q⟩)
      · exact ht q
      · exact q h
    · exact hT _ _ ⟨Or.inr rfl, Or.inl ⟨Or.inr ⟨ht, h⟩, rfl⟩, rfl⟩
  refine kW_go ok_X12_counts [3] 20 ?_
  refine And.intro (fun h => p0 (fun q => h q.1)) (fun h => And.intro (fun h2 => p1 ⟨h, Or.inl h2⟩) (fun h2 => And.intro (fun h3 => p0 (fun q => ?_)) (fun h3 => p1 ⟨h, Or.inr h3⟩)))
  rcases q.2 with q | q
  · exact h2 q
  · exact h3 q
/-- how far two nets must lie apart -/
def aptR (m : Mem) (n o : Int) : Int := max (m 59 (m 61 n)) (m 59 (m 61 o))
theorem c_X12_apart (X : Xv) (m : Mem) (n o : Int) (hn : 0 ≤ n ∧ n < 8) (ho : 0 ≤ o ∧ o < 8) (h1 : 0 ≤ m 61 n ∧ m 61 n < 7) (h2 : 0 ≤ m 61 o ∧ m 61 o < 7) : kCall (eX X) 1 M_X12_apart.1 [vR 54, vI n, vI o] m (cP (aptR m n o) m) := by
  refine kCall_of ok_X12_apart rfl (Nat.le_of_ble_eq_true rfl) ?_
  refine kW_go ok_X12_apart [] 20 ?_
  exact ⟨hn, h1, ho, h2, rfl, rfl⟩
/-- whether a net's copper counts near a cell -/
def near (w d : Int) (m : Mem) (o c by' : Int) : Prop := ∃ x y : Int, ((0 ≤ x ∧ x < w) ∧ (c % 9 - by' ≤ x ∧ x ≤ c % 9 + by')) ∧ ((0 ≤ y ∧ y < d) ∧ (c / 9 % 9 - by' ≤ y ∧ y ≤ c / 9 % 9 + by')) ∧ cnt m o (81 * (c / 81) + 9 * y + x)
theorem c_X12_isNear (X : Xv) (m : Mem) {w d l : Int} (hd : dimM m w d l) (o c f : Int) (ho : 0 ≤ o ∧ o < 8) (hc : inRf w d l c) (hf : 0 ≤ f ∧ f ≤ 2) : kCall (eX X) 2 M_X12_isNear.1 [vR 54, vI o, vI c, vI f] m (bP (near w d m o c f) m) := by
  have g0 : m 54 1 = w := hd.1
  have g1 : m 54 2 = d := hd.2.1
  have g0f : fld m 54 1 = w := hd.1
  have g1f : fld m 54 2 = d := hd.2.1
  obtain ⟨⟨w1, w2⟩, ⟨d1, d2⟩, l1, l2⟩ := id hd.2.2.2
  obtain ⟨⟨c1, c2⟩, c3, c4, c5⟩ := id hc
  refine kCall_ofT ok_X12_isNear rfl (Nat.le_of_ble_eq_true rfl) (fun T hT => ?_)
  have hy : near w d m o c f → T (some (vI 1)) m := fun h => hT _ _ ⟨Or.inr rfl, Or.inl ⟨h, rfl⟩, rfl⟩
  have inner : ∀ (y : Int), (0 ≤ y ∧ y < d) → (c / 9 % 9 - f ≤ y ∧ y ≤ c / 9 % 9 + f) → ((∀ x : Int, (0 ≤ x ∧ x < w) → (c % 9 - f ≤ x ∧ x ≤ c % 9 + f) → ¬ cnt m o (81 * (c / 81) + 9 * y + x)) → ∀ x5, kW (eX X) 1 M_X12_isNear T 4 [some (vR 54), some (vI o), some (vI c), some (vI f), some (vI y), x5] [] m) →
      ∀ (k : Nat) (x : Int), x + k = 12 → max 0 (c % 9 - f) ≤ x → (∀ x' : Int, (0 ≤ x' ∧ x' < w) → (c % 9 - f ≤ x' ∧ x' < x) → ¬ cnt m o (81 * (c / 81) + 9 * y + x')) → kW (eX X) 1 M_X12_isNear T 2 [some (vR 54), some (vI o), some (vI c), some (vI f), some (vI y), some (vI x)] [] m := by
    intro y hy1 hy2 hout k
    induction k with
    | zero =>
      intro x hk hx hall
      refine kW_go ok_X12_isNear [2, 4] 20 ?_
      show inR (m 54 1 - 1) ∧ kCall (eX X) 1 M_X12_xOf.1 [vI c] m _
      rw [g0]
      refine ⟨by constructor <;> omega, ?_⟩
      refine kCall_mono (c_X12_xOf _ m c c1) (Nat.le_of_ble_eq_true rfl) ?_
      rintro _ m ⟨rfl, rfl⟩
      exact ⟨by constructor <;> omega, fun _ => hout (fun x' h1 h2 => hall x' h1 (by omega)) _, fun h => absurd h (by omega)⟩
    | succ k ih =>
      intro x hk hx hall
      refine kW_go ok_X12_isNear [2, 4] 20 ?_
      show inR (m 54 1 - 1) ∧ kCall (eX X) 1 M_X12_xOf.1 [vI c] m _
      rw [g0]
      refine ⟨by constructor <;> omega, ?_⟩
      refine kCall_mono (c_X12_xOf _ m c c1) (Nat.le_of_ble_eq_true rfl) ?_
      rintro _ m ⟨rfl, rfl⟩
      refine ⟨by constructor <;> omega, fun h => hout (fun x' h1 h2 => hall x' h1 (by omega)) _, fun h => ?_⟩
      refine kCall_mono (c_X12_layerOf _ m c c1 (by omega)) (Nat.le_of_ble_eq_true rfl) ?_
      rintro _ m ⟨rfl, rfl⟩
      refine kCall_mono (c_X12_cell _ m x y (c / 81) (by omega) (by omega) (by omega)) (Nat.le_of_ble_eq_true rfl) ?_
      rintro _ m ⟨rfl, rfl⟩
      refine kCall_mono (c_X12_counts X m o _ ho (by omega)) (Nat.le_of_ble_eq_true rfl) ?_
      rintro _ m ⟨⟨hp, rfl⟩ | ⟨hp, rfl⟩, rfl⟩
      · exact And.intro (fun h => absurd h (by decide)) (fun _ => hy ⟨x, y, by omega, by omega, hp⟩)
      · refine And.intro (fun _ => ⟨by constructor <;> omega, ih (x + 1) (by omega) (by omega) (fun x' h1 h2 => ?_)⟩) (fun h => absurd rfl h)
        by_cases he : x' = x
        · rw [he]; exact hp
        · exact hall x' h1 (by omega)
  have outer : ∀ (k : Nat) (y : Int) (x5 : Option AV), y + k = 12 → max 0 (c / 9 % 9 - f) ≤ y → (∀ x y' : Int, ((0 ≤ x ∧ x < w) ∧ (c % 9 - f ≤ x ∧ x ≤ c % 9 + f)) → ((0 ≤ y' ∧ y' < d) ∧ (c / 9 % 9 - f ≤ y' ∧ y' < y)) → ¬ cnt m o (81 * (c / 81) + 9 * y' + x)) → kW (eX X) 1 M_X12_isNear T 1 [some (vR 54), some (vI o), some (vI c), some (vI f), some (vI y), x5] [] m := by
    intro k
    induction k with
    | zero =>
      intro y x5 hk hyy hall
      refine kW_go ok_X12_isNear [1, 2, 4] 20 ?_
      show inR (m 54 2 - 1) ∧ kCall (eX X) 1 M_X12_yOf.1 [vI c] m _
      rw [g1]
      refine ⟨by constructor <;> omega, ?_⟩
      refine kCall_mono (c_X12_yOf _ m c c1 (by omega)) (Nat.le_of_ble_eq_true rfl) ?_
      rintro _ m ⟨rfl, rfl⟩
      refine ⟨by constructor <;> omega, fun _ => hT _ _ ⟨Or.inl rfl, Or.inr ⟨?_, rfl⟩, rfl⟩, fun h => absurd h (by omega)⟩
      rintro ⟨x, y', h1, h2, h3⟩
      exact hall x y' h1 (by omega) h3
    | succ k ih =>
      intro y x5 hk hyy hall
      refine kW_go ok_X12_isNear [1, 2, 4] 20 ?_
      show inR (m 54 2 - 1) ∧ kCall (eX X) 1 M_X12_yOf.1 [vI c] m _
      rw [g1]
      refine ⟨by constructor <;> omega, ?_⟩
      refine kCall_mono (c_X12_yOf _ m c c1 (by omega)) (Nat.le_of_ble_eq_true rfl) ?_
      rintro _ m ⟨rfl, rfl⟩
      refine ⟨by constructor <;> omega, fun h => hT _ _ ⟨Or.inl rfl, Or.inr ⟨?_, rfl⟩, rfl⟩, fun h => ?_⟩
      · rintro ⟨x, y', h1, h2, h3⟩
        exact hall x y' h1 (by omega) h3
      · refine kCall_mono (c_X12_xOf _ m c c1) (Nat.le_of_ble_eq_true rfl) ?_
        rintro _ m ⟨rfl, rfl⟩
        refine ⟨by constructor <;> omega, ?_⟩
        refine inner y (by omega) (by omega) (fun hno y5 => ?_) (12 - max 0 (c % 9 - f)).toNat (max 0 (c % 9 - f)) (by omega) (by omega) (fun x' h1 h2 => by omega)
        refine kW_go ok_X12_isNear [1, 2] 20 ?_
        refine ⟨by constructor <;> omega, ih (y + 1) _ (by omega) (by omega) (fun x y' h1 h2 => ?_)⟩
        by_cases he : y' = y
        · rw [he]; exact hno x h1.1 h1.2
        · exact hall x y' h1 (by omega)
  refine kW_go ok_X12_isNear [1, 2, 4] 20 ?_
  refine kCall_mono (c_X12_yOf _ m c c1 (by omega)) (Nat.le_of_ble_eq_true rfl) ?_
  rintro _ m ⟨rfl, rfl⟩
  exact ⟨by constructor <;> omega, outer (12 - max 0 (c / 9 % 9 - f)).toNat (max 0 (c / 9 % 9 - f)) none (by omega) (by omega) (fun x y' h1 h2 => by omega)⟩
/-- whether a cell is free for a net -/
def frR (w d : Int) (m : Mem) (n c t : Int) : Prop := cnt m n c ∨ (m 71 c = 0 ∧ (t ≠ 0 ∨ kand (kshr (m 60 (m 61 n)) (c / 81)) 1 ≠ 0) ∧ ∀ o : Int, (0 ≤ o ∧ o < m 54 26) → o ≠ n → ¬ near w d m o c (aptR m n o))
theorem c_X12_isFree (X : Xv) (m : Mem) {w d l : Int} (hd : dimM m w d l) (n c t : Int) (ha : 0 ≤ m 54 26 ∧ m 54 26 ≤ 8) (hn : 0 ≤ n ∧ n < m 54 26) (hc : inRf w d l c) (hs : ∀ o : Int, (0 ≤ o ∧ o < m 54 26) → (0 ≤ m 61 o ∧ m 61 o < 7) ∧ 0 ≤ m 59 (m 61 o) ∧ m 59 (m 61 o) ≤ 2) : kCall (eX X) 3 M_X12_isFree.1 [vR 54, vI n, vI c, vI t] m (bP (frR w d m n c t) m) := by
  obtain ⟨⟨c1, c2⟩, c3, c4, c5⟩ := id hc
  have hsn := hs n hn
  refine kCall_ofT ok_X12_isFree rfl (Nat.le_of_ble_eq_true rfl) (fun T hT => ?_)
  have hno : ¬ frR w d m n c t → T (some (vI 0)) m := fun h => hT _ _ ⟨Or.inl rfl, Or.inr ⟨h, rfl⟩, rfl⟩
  have loop : ¬ cnt m n c → m 71 c = 0 → (t ≠ 0 ∨ kand (kshr (m 60 (m 61 n)) (c / 81)) 1 ≠ 0) → ∀ (k : Nat) (o : Int), o + k = m 54 26 → 0 ≤ o → (∀ o' : Int, (0 ≤ o' ∧ o' < o) → o' ≠ n → ¬ near w d m o' c (aptR m n o')) → kW (eX X) 2 M_X12_isFree T 4 [some (vR 54), some (vI n), some (vI c), some (vI t), some (vI o)] [] m := by
    intro h1 h2 h3 k
    induction k with
    | zero =>
      intro o hk h0 hall
      refine kW_go ok_X12_isFree [4] 20 ?_
      exact ⟨fun _ => hT _ _ ⟨Or.inr rfl, Or.inl ⟨Or.inr ⟨h2, h3, fun o' ho' => hall o' (by omega)⟩, rfl⟩, rfl⟩, fun h => absurd (show o < m 54 26 from h) (by omega)⟩
    | succ k ih =>
      intro o hk h0 hall
      have hso := hs o (by omega)
      have hap : 0 ≤ aptR m n o ∧ aptR m n o ≤ 2 := by unfold aptR; omega
      refine kW_go ok_X12_isFree [4] 20 ?_
      refine ⟨fun h => absurd (show m 54 26 ≤ o from h) (by omega), fun _ => And.intro (fun he => ⟨by constructor <;> omega, ih (o + 1) (by omega) (by omega) (fun o' h4 h5 => hall o' (by omega) h5)⟩) (fun he => ?_)⟩
      refine kCall_mono (c_X12_apart X m n o (by omega) (by omega) hsn.1 hso.1) (Nat.le_of_ble_eq_true rfl) ?_
      rintro _ m ⟨rfl, rfl⟩
      refine kCall_mono (c_X12_isNear X m hd o c _ (by omega) hc hap) (Nat.le_of_ble_eq_true rfl) ?_
      rintro _ m ⟨⟨hp, rfl⟩ | ⟨hp, rfl⟩, rfl⟩
      · refine And.intro (fun h => absurd h (by decide)) (fun _ => hno ?_)
        rintro (q | ⟨-, -, q⟩)
        · exact h1 q
        · exact q o (by omega) he hp
      · refine And.intro (fun _ => ⟨by constructor <;> omega, ih (o + 1) (by omega) (by omega) (fun o' h4 h5 => ?_)⟩) (fun h => absurd rfl h)
        by_cases he' : o' = o
        · rw [he']; exact hp
        · exact hall o' (by omega) h5
  refine kW_go ok_X12_isFree [4] 20 ?_
  refine kCall_mono (c_X12_counts X m n c (by omega) (by omega)) (Nat.le_of_ble_eq_true rfl) ?_
  rintro _ m ⟨⟨hp, rfl⟩ | ⟨hp, rfl⟩, rfl⟩
  · exact And.intro (fun h => absurd h (by decide)) (fun _ => hT _ _ ⟨Or.inr rfl, Or.inl ⟨Or.inl hp, rfl⟩, rfl⟩)
  · refine And.intro (fun _ => ⟨⟨by omega, by show c < ((324 : Nat) : Int); omega⟩, And.intro (fun h => hno ?_) (fun h => And.intro (fun h2 => ?_) (fun h2 => ⟨⟨by omega, by show n < ((8 : Nat) : Int); omega⟩, ⟨hsn.1.1, hsn.1.2⟩, ?_⟩))⟩) (fun h => absurd rfl h)
    · rintro (q | ⟨q, -, -⟩)
      · exact hp q
      · exact h q
    · exact loop hp h (Or.inl h2) (m 54 26).toNat 0 (by omega) (by omega) (fun o' h3 _ => by omega)
    · refine kCall_mono (c_X12_layerOf _ m c c1 (by omega)) (Nat.le_of_ble_eq_true rfl) ?_
      rintro _ m ⟨rfl, rfl⟩
      refine And.intro (fun h3 => ?_) (fun h3 => hno ?_)
      · exact loop hp h (Or.inr h3) (m 54 26).toNat 0 (by omega) (by omega) (fun o' h3 _ => by omega)
      · rintro (q | ⟨-, q | q, -⟩)
        · exact hp q
        · exact q h2
        · exact q h3
