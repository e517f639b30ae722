/-! TOGETHER, the class: what is tried -/
def layY (w d l : Int) (c : Mem) (s : Int) (f : Int → Int) : Lay := ⟨stM w d l, fun i => c 14 (f i * 4 + 0), fun i => c 14 (f i * 4 + 1), fun i y => inC w d l y ∧ frT w d l (fun o => bt s o.toNat = false) c (f i) 0 y, fun i j x y => box w d l x (aptC c (f i) (f j)) y⟩
/-- the nets of a set, in their order -/
def FL (c : Mem) (s : Int) (f : Int → Int) (A : Int) : Prop := 0 ≤ A ∧ (∀ i, 0 ≤ i → i < A → (0 ≤ f i ∧ f i < c 9 14) ∧ bt s (f i).toNat = true) ∧ (∀ i j, 0 ≤ i → i < j → j < A → f i < f j) ∧ ∀ n, 0 ≤ n → n < c 9 14 → bt s n.toNat = true → ∃ i, (0 ≤ i ∧ i < A) ∧ f i = n
def TOK (w d l : Int) (c r : Mem) (s : Int) : Prop := w * d * l ≤ 24 ∧ pop s ≤ 3 ∧ ∀ n, 0 ≤ n → n < c 9 14 → bt s n.toNat = true → c 13 n = 2 ∧ r 65 n = 0
theorem frT_mem {w d l n t x : Int} {q : Int → Prop} {m m' : Mem} (h : ∀ o, 9 ≤ o → o ≤ 17 → m' o = m o) : frT w d l q m' n t x ↔ frT w d l q m n t x := by
  unfold frT clT cuT aptC
  rw [h 9 (by decide) (by decide), h 10 (by decide) (by decide), h 11 (by decide) (by decide), h 15 (by decide) (by decide), h 16 (by decide) (by decide), h 17 (by decide) (by decide)]
/-- a net without wires: its copper but traces is its pins -/
theorem two_solid {w d l n : Int} {c r : Mem} (hD : okD w d l) (hW : WFn w d l c n) (hR : RRk w d l c r n) (h2 : c 13 n = 2) (h65 : r 65 n = 0) {x : Int} (hx : inC w d l x) : bt (c 16 x) n.toNat = true ↔ x = c 14 (n * 4 + 0) ∨ x = c 14 (n * 4 + 1) := by
  have hno : ∀ x, inC w d l x → c 18 (n * (w * d * l) + x) = 0 := by
    intro x hx
    refine Classical.byContradiction (fun hne => ?_)
    exact (LT_some hD hR.1 (fun x hx => ⟨(hW.1 x hx).1.1, fun k hk hkn => ((hW.1 x hx).2.1 k hk hkn).1⟩)).mp ⟨x, hx, hne⟩ h65
  rw [(hW.1 x hx).2.2.2]
  unfold pinT
  rw [h2]
  constructor
  · rintro (h | ⟨p, hp, e⟩)
    · exact absurd (hno x hx) h
    · have : p = 0 ∨ p = 1 := by omega
      rcases this with rfl | rfl
      · exact Or.inl e.symm
      · exact Or.inr e.symm
  · rintro (e | e)
    · exact Or.inr ⟨0, by omega, e.symm⟩
    · exact Or.inr ⟨1, by omega, e.symm⟩
theorem apt_in {c : Mem} (hs : srt c) {n o : Int} (hn : 0 ≤ n ∧ n < c 9 14) (ho : 0 ≤ o ∧ o < c 9 14) : 0 ≤ aptC c n o ∧ aptC c n o ≤ 2 := by
  have a := (hs.2 n hn).2
  have b := (hs.2 o ho).2
  unfold aptC
  omega
theorem LO_lay {X : Xv} {w d l A s : Int} {c : Mem} {f : Int → Int} (hI : Inv X w d l c) (hF : FL c s f A) (hk : ∀ i, 0 ≤ i → i < A → c 13 (f i) = 2 ∧ c 65 (f i) = 0) : LO w d l A (layY w d l c s f) := by
  obtain ⟨hB, hl, hW, hR, h60, h31⟩ := id hI
  have hD := hB.1
  have hs := WFs_srt hW.1
  have h8 := hW.1.2.1
  have hn8 : ∀ i, 0 ≤ i → i < A → 0 ≤ f i ∧ f i < 8 := fun i a b => by have := (hF.2.1 i a b).1; omega
  have hsol : ∀ i, 0 ≤ i → i < A → ∀ x, inC w d l x → (bt (c 16 x) (f i).toNat = true ↔ x = c 14 (f i * 4 + 0) ∨ x = c 14 (f i * 4 + 1)) := fun i a b x hx => two_solid hD (hW.2.2.1 _ (hn8 i a b)) (RRn_k.mp (hR.2.1 _ (hn8 i a b))).1 (hk i a b).1 (hk i a b).2 hx
  have hpin : ∀ i, 0 ≤ i → i < A → inC w d l (c 14 (f i * 4 + 0)) ∧ inC w d l (c 14 (f i * 4 + 1)) := fun i a b => ⟨hW.2.1.2.1 _ 0 (hn8 i a b) (by have := (hk i a b).1; omega), hW.2.1.2.1 _ 1 (hn8 i a b) (by have := (hk i a b).1; omega)⟩
  have hfne : ∀ i j, 0 ≤ i → i < A → 0 ≤ j → j < A → i ≠ j → f i ≠ f j := by
    intro i j a b a' b' hne
    rcases Int.lt_trichotomy i j with h | h | h
    · have := hF.2.2.1 i j a h b'; omega
    · exact absurd h hne
    · have := hF.2.2.1 j i a' h b; omega
  have hd : ∀ i j p q : Int, 0 ≤ i → i < A → 0 ≤ j → j < A → (0 ≤ p ∧ p < 2) → (0 ≤ q ∧ q < 2) → c 14 (f i * 4 + p) = c 14 (f j * 4 + q) → f i = f j ∧ p = q := fun i j p q a b a' b' hp hq e => hW.2.1.2.2 _ p _ q (hn8 i a b) (by rw [(hk i a b).1]; exact hp) (hn8 j a' b') (by rw [(hk j a' b').1]; exact hq) e
  have hself : ∀ i j x, 0 ≤ i → i < A → 0 ≤ j → j < A → inC w d l x → box w d l x (aptC c (f i) (f j)) x := by
    intro i j x a b a' b' hx
    have := apt_in hs (hF.2.1 i a b).1 (hF.2.1 j a' b').1
    exact ⟨hx, rfl, by omega, by omega⟩
  have hnB : ∀ i j, 0 ≤ i → i < A → 0 ≤ j → j < A → i ≠ j → ∀ x, inC w d l x → (x = c 14 (f j * 4 + 0) ∨ x = c 14 (f j * 4 + 1)) → ¬ frT w d l (fun o => bt s o.toNat = false) c (f i) 0 x := by
    intro i j a b a' b' hne x hx hxp hfr
    rcases hfr with (h | ⟨h, -⟩) | ⟨-, -, h⟩
    · have h1 := (hsol i a b x hx).mp h
      have hfn := hfne i j a b a' b' hne
      rcases h1 with e | e
      · rcases hxp with e' | e'
        · exact hfn (hd i j 0 0 a b a' b' (by omega) (by omega) (by rw [← e, e'])).1
        · exact hfn (hd i j 0 1 a b a' b' (by omega) (by omega) (by rw [← e, e'])).1
      · rcases hxp with e' | e'
        · exact hfn (hd i j 1 0 a b a' b' (by omega) (by omega) (by rw [← e, e'])).1
        · exact hfn (hd i j 1 1 a b a' b' (by omega) (by omega) (by rw [← e, e'])).1
    · have h : bt s (f i).toNat = false := h
      rw [(hF.2.1 i a b).2] at h
      cases h
    · exact h (f j) (hF.2.1 j a' b').1 (hfne i j a b a' b' hne).symm ⟨x, hx, Or.inl ((hsol j a' b' x hx).mpr hxp), hself i j x a b a' b' hx⟩
  refine ⟨rfl, hpin, fun i a b e => ?_, fun i j a b a' b' hne => ⟨⟨fun e => ?_, fun e => ?_, fun e => ?_⟩, fun h => ?_, fun h => ?_⟩, fun i j a b a' b' x hx => hself i j x a b a' b' hx⟩
  · have := (hd i i 0 1 a b a b (by omega) (by omega) e).2
    omega
  · exact hfne i j a b a' b' hne (hd i j 0 0 a b a' b' (by omega) (by omega) e).1
  · exact hfne i j a b a' b' hne (hd i j 0 1 a b a' b' (by omega) (by omega) e).1
  · exact hfne i j a b a' b' hne (hd i j 1 1 a b a' b' (by omega) (by omega) e).1
  · exact hnB i j a b a' b' hne _ h.1 (Or.inl rfl) h.2
  · exact hnB i j a b a' b' hne _ h.1 (Or.inr rfl) h.2
set_option maxRecDepth 100000 in
theorem c_X10_openCells (X : Xv) (m : Mem) {w d l : Int} (hD : okD w d l) (hN : w * d * l = (nC X : Int)) (hG : gridC m w d l) (hs : srt m) (h24 : w * d * l ≤ 24) (n s : Int) (hnn : 0 ≤ n ∧ n < m 9 14) : kCall (eX X) 4 M_X10_openCells.1 [vR 41, vI n, vI s] m (fun r m' => ∃ z, (r = some (vI z) ∧ mloC w d l z ∧ ∀ y, mbt z y ↔ inC w d l y ∧ frT w d l (qC n 0 s) m n 0 y) ∧ ∀ o, o < 22 ∨ 27 < o → m' o = m o) := by
  have hs1 := hs.1
  refine kCall_ofT ok_X10_openCells rfl (Nat.le_of_ble_eq_true rfl) (fun T hT => ?_)
  refine kW_go ok_X10_openCells [1] 20 ?_
  refine kCall_mono (kCall_in (c_X6_look X m hD hN hG hs n 0 hnn)) (Nat.le_of_ble_eq_true rfl) ?_
  rintro _ m1 ⟨⟨rfl, hf, h22, h26, hb⟩, hin⟩
  have hf1 : ∀ o, o < 22 ∨ 26 < o → m1 o = m o := fun o ho => hf o (by omega) (by omega) (by omega) (by omega) (by omega)
  have hlk : looked w d l X m m1 n 0 := ⟨h22.1, h26, hb⟩
  refine kCall_mono (c_X6_mark X m1 hD hN (gridC_same hG (fun o a b => hf1 o (by omega))) s n h22.1 (by omega) (by rw [hf1 11 (by decide)]; exact (hs.2 n hnn).1)) (Nat.le_of_ble_eq_true rfl) ?_
  rintro _ m2 ⟨rfl, f2, h27⟩
  have hf2 : ∀ o, o < 22 ∨ 27 < o → m2 o = m o := fun o ho => by rw [f2 o (by omega)]; exact hf1 o (by omega)
  have hfr : ∀ x, inC w d l x → (frC w d m1 s x ↔ frT w d l (qC n 0 s) m n 0 x) := fun x hx => frC_frT hD hN hs hin hnn (hf1 10 (by decide)) (hf1 11 (by decide)) (hf1 15 (by decide)) hlk hx
  have g4 : m2 1 4 = (nC X : Int) := by rw [hf2 1 (by decide), hG.2.2.2.2.1, hN]
  have g4' : fld m2 1 4 = (nC X : Int) := g4
  have loop : ∀ (k : Nat) (x v : Int), x + k = (nC X : Int) → 0 ≤ x → inR v → (∀ y, mbt v y ↔ (0 ≤ y ∧ y < x) ∧ frT w d l (qC n 0 s) m n 0 y) → kW (eX X) 3 M_X10_openCells T 1 [some (vR 41), some (vI n), some (vI s), some (vI v), some (vI x)] [] m2 := by
    intro k
    induction k with
    | zero =>
      intro x v hk hx hv hb
      refine kW_go ok_X10_openCells [1] 40 ?_
      refine ⟨fun _ => hT _ _ ⟨v, ⟨rfl, ⟨hv, fun y hy => ?_⟩, fun y => ?_⟩, hf2⟩, fun h => absurd h (by omega)⟩
      · have := (hb y).mp hy
        exact ⟨this.1.1, by omega⟩
      · rw [hb]
        constructor
        · rintro ⟨⟨a, b⟩, h⟩; exact ⟨⟨a, by omega⟩, h⟩
        · rintro ⟨⟨a, b⟩, h⟩; exact ⟨⟨a, by omega⟩, h⟩
    | succ k ih =>
      intro x v hk hx hv hb
      have hxi : inC w d l x := ⟨hx, by omega⟩
      have h7 := h27 x hxi
      have hxb : 0 ≤ x ∧ x < (nC X : Int) := ⟨hx, by omega⟩
      refine kW_go ok_X10_openCells [1] 40 ?_
      refine ⟨fun h => absurd h (by omega), fun _ => ⟨hxb, ⟨by constructor <;> omega, ih (x + 1) _ (by omega) (by omega) (k_in_kor _ _) (fun y => ?_)⟩⟩⟩
      show mbt (kor v (kshl (m2 27 x) x)) y ↔ _
      rw [mbt_or, hb]
      by_cases hq : frC w d m1 s x
      · rw [h7.1 hq, mbt_bit ⟨hx, by omega⟩]
        constructor
        · rintro (⟨a, b⟩ | rfl)
          · exact ⟨by omega, b⟩
          · exact ⟨by omega, (hfr _ hxi).mp hq⟩
        · rintro ⟨a, b⟩
          by_cases e : y = x
          · exact Or.inr e
          · exact Or.inl ⟨by omega, b⟩
      · rw [h7.2 hq]
        constructor
        · rintro (⟨a, b⟩ | h)
          · exact ⟨by omega, b⟩
          · exfalso
            have h0 := h.1
            exact mbt_zero ((mbt_shl ⟨hx, by omega⟩ h0).mp h)
        · rintro ⟨a, b⟩
          by_cases e : y = x
          · rw [e] at b; exact absurd ((hfr _ hxi).mpr b) hq
          · exact Or.inl ⟨by omega, b⟩
  exact loop (nC X) 0 0 (by omega) (by omega) (by decide) (fun y => ⟨fun h => absurd h mbt_zero, fun h => absurd h.1 (by omega)⟩)
