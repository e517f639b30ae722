/-! STRETCH: the bends, abstractly -/
def endP (w d l : Int) : List Int → Int → Int
  | [], x => x
  | k :: ks, x => endP w d l ks (nx w d l x k)
theorem endP_app {w d l : Int} : ∀ (ks ks' : List Int) (x : Int), endP w d l (ks ++ ks') x = endP w d l ks' (endP w d l ks x)
  | [], _, _ => rfl
  | k :: ks, ks', x => endP_app ks ks' (nx w d l x k)
theorem vis_app {w d l : Int} : ∀ (ks ks' : List Int) (x : Int), vis w d l (ks ++ ks') x = vis w d l ks x ++ vis w d l ks' (endP w d l ks x)
  | [], _, _ => rfl
  | k :: ks, ks', x => by
    show nx w d l x k :: vis w d l (ks ++ ks') (nx w d l x k) = nx w d l x k :: (vis w d l ks (nx w d l x k) ++ _)
    rw [vis_app ks ks' (nx w d l x k)]
    rfl
theorem okm_app {w d l : Int} : ∀ (ks ks' : List Int) (x : Int), okm w d l (ks ++ ks') x ↔ okm w d l ks x ∧ okm w d l ks' (endP w d l ks x)
  | [], _, _ => ⟨fun h => ⟨trivial, h⟩, fun h => h.2⟩
  | k :: ks, ks', x => by
    show (_ ∧ _ ∧ okm w d l (ks ++ ks') (nx w d l x k)) ↔ (_ ∧ _ ∧ okm w d l ks (nx w d l x k)) ∧ okm w d l ks' (endP w d l ks (nx w d l x k))
    rw [okm_app ks ks' (nx w d l x k)]
    exact ⟨fun h => ⟨⟨h.1, h.2.1, h.2.2.1⟩, h.2.2.2⟩, fun h => ⟨h.1.1, h.1.2.1, h.1.2.2, h.2⟩⟩
/-- the moves of a path, from either end -/
def pE (w d l : Int) : List Int → Int → Int → Int → Prop
  | [], _, _, _ => False
  | κ :: ks, a, x, k => (x = a ∧ k = κ) ∨ (x = nx w d l a κ ∧ k = oppF κ) ∨ pE w d l ks (nx w d l a κ) x k
theorem pE_app {w d l : Int} : ∀ (ks ks' : List Int) (a x k : Int), pE w d l (ks ++ ks') a x k ↔ pE w d l ks a x k ∨ pE w d l ks' (endP w d l ks a) x k
  | [], _, _, _, _ => ⟨Or.inr, fun h => h.elim False.elim id⟩
  | κ :: ks, ks', a, x, k => by
    show ((x = a ∧ k = κ) ∨ (x = nx w d l a κ ∧ k = oppF κ) ∨ pE w d l (ks ++ ks') (nx w d l a κ) x k) ↔ ((x = a ∧ k = κ) ∨ (x = nx w d l a κ ∧ k = oppF κ) ∨ pE w d l ks (nx w d l a κ) x k) ∨ pE w d l ks' (endP w d l ks (nx w d l a κ)) x k
    rw [pE_app ks ks' (nx w d l a κ) x k]
    constructor
    · rintro (h | h | h | h)
      · exact Or.inl (Or.inl h)
      · exact Or.inl (Or.inr (Or.inl h))
      · exact Or.inl (Or.inr (Or.inr h))
      · exact Or.inr h
    · rintro ((h | h | h) | h)
      · exact Or.inl h
      · exact Or.inr (Or.inl h)
      · exact Or.inr (Or.inr (Or.inl h))
      · exact Or.inr (Or.inr (Or.inr h))
theorem pE_in {w d l : Int} (hD : okD w d l) : ∀ (ks : List Int) (a x k : Int), inC w d l a → okm w d l ks a → pE w d l ks a x k → (x ∈ a :: vis w d l ks a ∧ nx w d l x k ∈ a :: vis w d l ks a) ∧ (0 ≤ k ∧ k < 6) ∧ nx w d l x k ≠ -1
  | [], _, _, _, _, _, h => h.elim
  | κ :: ks, a, x, k, ha, hok, h => by
    obtain ⟨o1, o2, o3⟩ := hok
    have hy := (nx_in o2).1
    rcases h with ⟨rfl, rfl⟩ | ⟨rfl, rfl⟩ | h
    · exact ⟨⟨List.mem_cons_self, List.mem_cons_of_mem _ List.mem_cons_self⟩, o1, o2⟩
    · refine ⟨⟨List.mem_cons_of_mem _ List.mem_cons_self, ?_⟩, opp_in o1, nx_opp_ne hD ha o1 o2⟩
      rw [nx_opp hD ha o1 o2]
      exact List.mem_cons_self
    · obtain ⟨⟨p1, p2⟩, p3⟩ := pE_in hD ks _ x k hy o3 h
      exact ⟨⟨List.mem_cons_of_mem _ p1, List.mem_cons_of_mem _ p2⟩, p3⟩
/-- the bits of a net's moves behind a path laid -/
theorem adP_bits {w d l n : Int} : ∀ (ks : List Int) (a : Int) (m : Mem), inC w d l a → okm w d l ks a → ∀ (z k : Int), inC w d l z → (0 ≤ k ∧ k < 6) → (bt (adP w d l (w * d * l) n ks a m 19 (n * (w * d * l) + z)) k.toNat = true ↔ bt (m 19 (n * (w * d * l) + z)) k.toNat = true ∨ pE w d l ks a z k)
  | [], _, _, _, _, _, _, _, _ => ⟨Or.inl, fun h => h.elim id False.elim⟩
  | κ :: ks, a, m, ha, hok, z, k, hz, hk => by
    obtain ⟨o1, o2, o3⟩ := hok
    have hy := (nx_in o2).1
    show bt (adP w d l (w * d * l) n ks (nx w d l a κ) (jn 19 17 (n * (w * d * l)) n a κ (nx w d l a κ) m) 19 (n * (w * d * l) + z)) k.toNat = true ↔ bt (m 19 (n * (w * d * l) + z)) k.toNat = true ∨ (z = a ∧ k = κ) ∨ (z = nx w d l a κ ∧ k = oppF κ) ∨ pE w d l ks (nx w d l a κ) z k
    rw [adP_bits ks _ _ hy o3 z k hz hk, jn_bit rfl ha o1 o2 hz k.toNat, Int.toNat_of_nonneg hk.1]
    constructor
    · rintro ((h | h | h) | h)
      · exact Or.inl h
      · exact Or.inr (Or.inl h)
      · exact Or.inr (Or.inr (Or.inl h))
      · exact Or.inr (Or.inr (Or.inr h))
    · rintro (h | h | h | h)
      · exact Or.inl (Or.inl h)
      · exact Or.inl (Or.inr (Or.inl h))
      · exact Or.inl (Or.inr (Or.inr h))
      · exact Or.inr h
/-- two moves in either order -/
theorem nx_sq {w d l p a b : Int} (hD : okD w d l) (ha : nx w d l p a ≠ -1) (hb : nx w d l p b ≠ -1) (hab : nx w d l (nx w d l p a) b ≠ -1) : nx w d l (nx w d l p b) a = nx w d l (nx w d l p a) b := by
  have h1 := nx_in ha
  have h2 := nx_in hb
  have h3 := nx_in hab
  have x3 := gX_in (c := nx w d l (nx w d l p a) b) hD
  have y3 := gY_in (c := nx w d l (nx w d l p a) b) hD
  have z3 := gZ_in hD h3.1
  have hne : nx w d l (nx w d l p b) a ≠ -1 := nx_of (by rw [h2.2.1, h2.2.2.1, h2.2.2.2]; omega)
  have h4 := nx_in hne
  have e1 := ix_eta hD (nx w d l (nx w d l p b) a)
  have e2 := ix_eta hD (nx w d l (nx w d l p a) b)
  rw [← e1, ← e2, h4.2.1, h4.2.2.1, h4.2.2.2, h3.2.1, h3.2.2.1, h3.2.2.2, h2.2.1, h2.2.2.1, h2.2.2.2, h1.2.1, h1.2.2.1, h1.2.2.2, show gX w p + dX b + dX a = gX w p + dX a + dX b by omega, show gY w d p + dY b + dY a = gY w d p + dY a + dY b by omega, show gZ w d p + dZ b + dZ a = gZ w d p + dZ a + dZ b by omega]
/-- room for a bend in a cell -/
def bdR (fr U : Int → Prop) (x : Int) : Prop := x ≠ -1 ∧ fr x ∧ ¬ U x
/-- a bend of a move to a side -/
def bdC (w d l : Int) (fr : Int → Prop) (P : Int → Int) (U : Int → Prop) (i σ : Int) : Prop := bdR fr U (nx w d l (P i) σ) ∧ bdR fr U (nx w d l (P (i + 1)) σ)
/-- the side a move bends to, or -1 -/
noncomputable def bdN (w d l lim : Int) (fr : Int → Prop) (P K : Int → Int) (U : Int → Prop) (len i : Int) : Int :=
  @ite Int ((K i < 4 ∧ len + 2 ≤ lim) ∧ bdC w d l fr P U i ((K i + 3) % 4)) (Classical.propDecidable _) ((K i + 3) % 4)
    (@ite Int ((K i < 4 ∧ len + 2 ≤ lim) ∧ bdC w d l fr P U i ((K i + 1) % 4)) (Classical.propDecidable _) ((K i + 1) % 4) (-1))
/-- cells with copper, length and moves behind the bends of so many moves -/
noncomputable def bdS (w d l lim : Int) (fr cu : Int → Prop) (P K : Int → Int) (L0 : Int) : Nat → (Int → Prop) × Int × List Int
  | 0 => (cu, L0, [])
  | i + 1 =>
    if bdN w d l lim fr P K (bdS w d l lim fr cu P K L0 i).1 (bdS w d l lim fr cu P K L0 i).2.1 i = -1 then ((bdS w d l lim fr cu P K L0 i).1, (bdS w d l lim fr cu P K L0 i).2.1, (bdS w d l lim fr cu P K L0 i).2.2 ++ [K i])
    else (fun x => (bdS w d l lim fr cu P K L0 i).1 x ∨ x = nx w d l (P i) (bdN w d l lim fr P K (bdS w d l lim fr cu P K L0 i).1 (bdS w d l lim fr cu P K L0 i).2.1 i) ∨ x = nx w d l (P (i + 1)) (bdN w d l lim fr P K (bdS w d l lim fr cu P K L0 i).1 (bdS w d l lim fr cu P K L0 i).2.1 i), (bdS w d l lim fr cu P K L0 i).2.1 + 2, (bdS w d l lim fr cu P K L0 i).2.2 ++ [bdN w d l lim fr P K (bdS w d l lim fr cu P K L0 i).1 (bdS w d l lim fr cu P K L0 i).2.1 i, K i, oppF (bdN w d l lim fr P K (bdS w d l lim fr cu P K L0 i).1 (bdS w d l lim fr cu P K L0 i).2.1 i)])
theorem bdN_a {w d l lim : Int} {fr : Int → Prop} {P K : Int → Int} {U : Int → Prop} {len i : Int} (h : (K i < 4 ∧ len + 2 ≤ lim) ∧ bdC w d l fr P U i ((K i + 3) % 4)) : bdN w d l lim fr P K U len i = (K i + 3) % 4 := @if_pos _ (Classical.propDecidable _) h _ _ _
theorem bdN_b {w d l lim : Int} {fr : Int → Prop} {P K : Int → Int} {U : Int → Prop} {len i : Int} (h1 : ¬ bdC w d l fr P U i ((K i + 3) % 4)) (h : (K i < 4 ∧ len + 2 ≤ lim) ∧ bdC w d l fr P U i ((K i + 1) % 4)) : bdN w d l lim fr P K U len i = (K i + 1) % 4 := by
  unfold bdN
  rw [@if_neg _ (Classical.propDecidable _) (fun q => h1 q.2)]
  exact @if_pos _ (Classical.propDecidable _) h _ _ _
theorem bdN_n {w d l lim : Int} {fr : Int → Prop} {P K : Int → Int} {U : Int → Prop} {len i : Int} (h : ¬ ((K i < 4 ∧ len + 2 ≤ lim) ∧ (bdC w d l fr P U i ((K i + 3) % 4) ∨ bdC w d l fr P U i ((K i + 1) % 4)))) : bdN w d l lim fr P K U len i = -1 := by
  unfold bdN
  rw [@if_neg _ (Classical.propDecidable _) (fun q => h ⟨q.1, Or.inl q.2⟩)]
  exact @if_neg _ (Classical.propDecidable _) (fun q => h ⟨q.1, Or.inr q.2⟩) _ _ _
theorem bdN_cs {w d l lim : Int} (fr : Int → Prop) (P K : Int → Int) (U : Int → Prop) (len i : Int) : bdN w d l lim fr P K U len i = -1 ∨ ((K i < 4 ∧ len + 2 ≤ lim) ∧ bdC w d l fr P U i (bdN w d l lim fr P K U len i) ∧ (bdN w d l lim fr P K U len i = (K i + 3) % 4 ∨ bdN w d l lim fr P K U len i = (K i + 1) % 4)) := by
  by_cases h1 : (K i < 4 ∧ len + 2 ≤ lim) ∧ bdC w d l fr P U i ((K i + 3) % 4)
  · rw [bdN_a h1]
    exact Or.inr ⟨h1.1, h1.2, Or.inl rfl⟩
  · by_cases h2 : (K i < 4 ∧ len + 2 ≤ lim) ∧ bdC w d l fr P U i ((K i + 1) % 4)
    · rw [bdN_b (fun q => h1 ⟨h2.1, q⟩) h2]
      exact Or.inr ⟨h2.1, h2.2, Or.inr rfl⟩
    · exact Or.inl (bdN_n (fun q => q.2.elim (fun z => h1 ⟨q.1, z⟩) (fun z => h2 ⟨q.1, z⟩)))
