/-! the class's room: what a net's pins reach -/
/-- one move of the first so many into a free cell -/
def stG (w d l : Int) (m : Mem) (v a b : Int) : Prop := ∃ k : Int, (0 ≤ k ∧ k < v) ∧ nx w d l a k = b ∧ b ≠ -1 ∧ m 27 b ≠ 0
theorem c_X6_flood (X : Xv) (m : Mem) {w d l : Int} (hD : okD w d l) (hn : w * d * l = (nC X : Int)) (hG : gridC m w d l) (a v : Int) (ha : inC w d l a) (hv : 0 ≤ v ∧ v ≤ 6) : kCall (eX X) 2 M_X6_flood.1 [vR 22, vI a, vI v] m (fun r m' => ∃ q : Int, r = some (vI q) ∧ (0 ≤ q ∧ q ≤ (nC X : Int)) ∧ (∀ o, o ≠ 28 → o ≠ 29 → m' o = m o) ∧ (∀ c, inC w d l c → (m' 28 c ≠ 0 ↔ Rch (stG w d l m v) a c) ∧ (m' 28 c = 0 ∨ m' 28 c = 1)) ∧ sumN (flg (m' 28)) (nC X) = q) := by
  have hcc := okD_cells hD
  refine kCall_ofT ok_X6_flood rfl (Nat.le_of_ble_eq_true rfl) (fun T hT => ?_)
  refine kW_go ok_X6_flood [] 20 ?_
  refine kCall_mono (c_fill (eX X) m 28 (nC X) 0 (by decide) rfl (by omega)) (Nat.le_of_ble_eq_true rfl) ?_
  rintro _ m1 ⟨rfl, hm1⟩
  have e1 : ∀ o, o ≠ 28 → m1 o = m o := fun o ho => by rw [hm1, mfill_ne ho]
  have z1 : ∀ c, inC w d l c → m1 28 c = 0 := fun c hc => by rw [hm1, mfill_at]; exact if_pos (by obtain ⟨p, q⟩ := hc; omega)
  clear hm1
  have hs : ∀ c, Rch (stF w d l m1 v) a c ↔ Rch (stG w d l m v) a c := by
    intro c
    constructor
    · refine Rch_mono ?_
      rintro x y ⟨k, h1, h2, h3, h4, -⟩
      exact ⟨k, h1, h2, h3, by rw [← e1 27 (by decide)]; exact h4⟩
    · refine Rch_mono ?_
      rintro x y ⟨k, h1, h2, h3, h4⟩
      refine ⟨k, h1, h2, h3, by rw [e1 27 (by decide)]; exact h4, z1 y ?_⟩
      rw [← h2] at h3 ⊢
      exact (nx_in h3).1
  have hz : sumN (flg (m1 28)) (nC X) = 0 := by
    rw [sumN_cong (g := fun _ => 0) (fun c h0 h1 => by unfold flg; rw [if_pos (z1 c ⟨h0, by omega⟩)])]
    have : ∀ k : Nat, sumN (fun _ => 0) k = 0 := fun k => by
      induction k with
      | zero => rfl
      | succ k ih => unfold sumN; rw [ih]; rfl
    exact this _
  refine kCall_mono (c_X6_floodMore X m1 hD hn (gridC_same hG (fun o o1 o2 => e1 o (by omega))) a v ha hv (z1 a ha)) (Nat.le_of_ble_eq_true rfl) ?_
  rintro _ m2 ⟨q, rfl, hq, hf, hr, hv2, hsum, -⟩
  refine hT _ _ ⟨q, rfl, hq, fun o h1 h2 => by rw [hf o h1 h2, e1 o h1], fun c hc => ⟨?_, ?_⟩, by omega⟩
  · rw [hr c hc, hs c, z1 c hc]
    constructor
    · rintro (h | h)
      · exact absurd rfl h
      · exact h
    · exact Or.inr
  · rcases hv2 c with h | h
    · exact Or.inl (by rw [h]; exact z1 c hc)
    · exact Or.inr h
theorem c_X6_lowestUnreachedPin (X : Xv) (m : Mem) (n : Int) (hn : 0 ≤ n ∧ n < 8) (hp : 0 ≤ m 13 n ∧ m 13 n ≤ 4) (hc : ∀ p : Int, (0 ≤ p ∧ p < m 13 n) → 0 ≤ m 14 (n * 4 + p) ∧ m 14 (n * 4 + p) < (nC X : Int)) : kCall (eX X) 2 M_X6_lowestUnreachedPin.1 [vR 22, vI n] m (fun r m' => ((r = some (vI (-1)) ∧ ∀ p : Int, (0 ≤ p ∧ p < m 13 n) → m 28 (m 14 (n * 4 + p)) ≠ 0) ∨ ∃ z : Int, r = some (vI z) ∧ (0 ≤ z ∧ z < m 13 n) ∧ m 28 (m 14 (n * 4 + z)) = 0 ∧ ∀ p : Int, (0 ≤ p ∧ p < z) → m 28 (m 14 (n * 4 + p)) ≠ 0) ∧ m' = m) := by
  refine kCall_ofT ok_X6_lowestUnreachedPin rfl (Nat.le_of_ble_eq_true rfl) (fun T hT => ?_)
  have hnb : 0 ≤ n ∧ n < ((8 : Nat) : Int) := hn
  have loop : ∀ (k : Nat) (p : Int), p + k = m 13 n → 0 ≤ p → (∀ p' : Int, (0 ≤ p' ∧ p' < p) → m 28 (m 14 (n * 4 + p')) ≠ 0) → kW (eX X) 1 M_X6_lowestUnreachedPin T 1 [some (vR 22), some (vI n), some (vI p)] [] m := by
    intro k
    induction k with
    | zero =>
      intro p hk h0 hall
      refine kW_go ok_X6_lowestUnreachedPin [1] 20 ?_
      exact ⟨hnb, fun _ => hT _ _ ⟨Or.inl ⟨rfl, fun p' hp' => hall p' (by omega)⟩, rfl⟩, fun h => absurd (show p < m 13 n from h) (by omega)⟩
    | succ k ih =>
      intro p hk h0 hall
      have hcp := hc p ⟨h0, by omega⟩
      refine kW_go ok_X6_lowestUnreachedPin [1] 20 ?_
      refine ⟨hnb, fun h => absurd (show m 13 n ≤ p from h) (by omega), fun _ => ?_⟩
      refine kCall_mono (c_X3_pinCell X m n p hn (by omega)) (Nat.le_of_ble_eq_true rfl) ?_
      rintro _ m ⟨rfl, rfl⟩
      refine ⟨hcp, And.intro (fun h => ⟨by constructor <;> omega, ih (p + 1) (by omega) (by omega) (fun p' hp' => ?_)⟩) (fun h => hT _ _ ⟨Or.inr ⟨p, rfl, ⟨h0, by omega⟩, h, hall⟩, rfl⟩)⟩
      by_cases he : p' = p
      · rw [he]; exact h
      · exact hall p' (by omega)
  refine kW_go ok_X6_lowestUnreachedPin [1] 20 ?_
  exact loop (m 13 n).toNat 0 (by omega) (by omega) (fun p' h => by omega)
/-- all pins of a net are reached from its first -/
def jnP (w d l : Int) (m : Mem) (n v : Int) : Prop := ∀ p : Int, (0 ≤ p ∧ p < m 13 n) → Rch (stG w d l m v) (m 14 (n * 4)) (m 14 (n * 4 + p))
theorem c_X6_joinsAllPins (X : Xv) (m : Mem) {w d l : Int} (hD : okD w d l) (hn : w * d * l = (nC X : Int)) (hG : gridC m w d l) (n v : Int) (hnn : 0 ≤ n ∧ n < 8) (hv : 0 ≤ v ∧ v ≤ 6) (hp : 1 ≤ m 13 n ∧ m 13 n ≤ 4) (hc : ∀ p : Int, (0 ≤ p ∧ p < m 13 n) → inC w d l (m 14 (n * 4 + p))) : kCall (eX X) 3 M_X6_joinsAllPins.1 [vR 22, vI n, vI v] m (fun r m' => ((jnP w d l m n v ∧ r = some (vI 1)) ∨ (¬ jnP w d l m n v ∧ r = some (vI 0))) ∧ ∀ o, o ≠ 28 → o ≠ 29 → m' o = m o) := by
  have hcc := okD_cells hD
  refine kCall_ofT ok_X6_joinsAllPins rfl (Nat.le_of_ble_eq_true rfl) (fun T hT => ?_)
  refine kW_go ok_X6_joinsAllPins [] 20 ?_
  refine kCall_mono (c_X3_pinCell X m n 0 hnn (by decide)) (Nat.le_of_ble_eq_true rfl) ?_
  rintro _ m ⟨rfl, rfl⟩
  rw [Int.add_zero]
  have h0 := hc 0 (by omega)
  rw [Int.add_zero] at h0
  refine kCall_mono (c_X6_flood X m hD hn hG _ v h0 hv) (Nat.le_of_ble_eq_true rfl) ?_
  rintro _ m2 ⟨q, rfl, -, hf, hr, -⟩
  have e13 : m2 13 = m 13 := hf 13 (by decide) (by decide)
  have e14 : m2 14 = m 14 := hf 14 (by decide) (by decide)
  refine kCall_mono (c_X6_lowestUnreachedPin X m2 n hnn (by rw [e13]; omega) (fun p hp' => ?_)) (Nat.le_of_ble_eq_true rfl) ?_
  · rw [e13] at hp'
    rw [e14]
    obtain ⟨a, b⟩ := hc p hp'
    omega
  · rw [e13, e14]
    rintro _ m3 ⟨⟨rfl, hall⟩ | ⟨z, rfl, hz, hzz, -⟩, rfl⟩
    · refine And.intro (fun h => absurd rfl h) (fun _ => hT _ _ ⟨Or.inr rfl, Or.inl ⟨fun p hp' => (hr _ (hc p hp')).1.mp (hall p hp'), rfl⟩, hf⟩)
    · refine And.intro (fun _ => hT _ _ ⟨Or.inl rfl, Or.inr ⟨fun hj => ?_, rfl⟩, hf⟩) (fun h => absurd h (by omega))
      exact ((hr _ (hc z hz)).1.mpr (hj z hz)) hzz
