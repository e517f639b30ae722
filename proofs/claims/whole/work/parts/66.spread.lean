/-! the class's room: what lies near to what -/
def spr (m m' : Mem) (u v : Int) (S : Int → Prop) : Prop := (∀ o, o ≠ 24 → o ≠ 25 → m' o = m o) ∧ ∀ j, (S j → m' 24 j = kor (m 24 j) u ∧ m' 25 j = kor (m 25 j) v) ∧ (¬ S j → m' 24 j = m 24 j ∧ m' 25 j = m 25 j)
theorem spr_rf {m : Mem} {u v : Int} {S : Int → Prop} (h : ∀ j, ¬ S j) : spr m m u v S := ⟨fun _ _ _ => rfl, fun j => ⟨fun q => absurd q (h j), fun _ => ⟨rfl, rfl⟩⟩⟩
theorem spr_cong {m m' : Mem} {u v : Int} {S S' : Int → Prop} (h : spr m m' u v S) (hs : ∀ j, S' j ↔ S j) : spr m m' u v S' := ⟨h.1, fun j => ⟨fun q => (h.2 j).1 ((hs j).mp q), fun q => (h.2 j).2 (fun z => q ((hs j).mpr z))⟩⟩
theorem spr_put {m m' : Mem} {u v : Int} {S : Int → Prop} {i : Int} (h : spr m m' u v S) : spr m (mset (mset m' 24 i (kor (m' 24 i) u)) 25 i (kor (m' 25 i) v)) u v (fun j => S j ∨ j = i) := by
  refine ⟨fun o h1 h2 => by rw [k_mset_ne h2, k_mset_ne h1]; exact h.1 o h1 h2, fun j => ⟨fun q => ?_, fun q => ?_⟩⟩
  · rw [k_mset_ne (show (24 : Nat) ≠ 25 by decide), k_mset_at, k_mset_at, k_mset_ne (show (25 : Nat) ≠ 24 by decide)]
    by_cases he : j = i
    · subst he
      rw [if_pos rfl, if_pos rfl]
      by_cases hs : S j
      · rw [((h.2 j).1 hs).1, ((h.2 j).1 hs).2, k_or_or, k_or_or]
        exact ⟨rfl, rfl⟩
      · rw [((h.2 j).2 hs).1, ((h.2 j).2 hs).2]
        exact ⟨rfl, rfl⟩
    · rw [if_neg he, if_neg he]
      rcases q with q | q
      · exact (h.2 j).1 q
      · exact absurd q he
  · have he : j ≠ i := fun z => q (Or.inr z)
    rw [k_mset_ne (show (24 : Nat) ≠ 25 by decide), k_mset_at, k_mset_at, k_mset_ne (show (25 : Nat) ≠ 24 by decide), if_neg he, if_neg he]
    exact (h.2 j).2 (fun z => q (Or.inl z))
theorem spr_tr {m m1 m2 : Mem} {u v : Int} {S S' : Int → Prop} (h1 : spr m m1 u v S) (h2 : spr m1 m2 u v S') : spr m m2 u v (fun j => S j ∨ S' j) := by
  refine ⟨fun o a b => by rw [h2.1 o a b, h1.1 o a b], fun j => ⟨fun q => ?_, fun q => ?_⟩⟩
  · by_cases hs : S' j
    · obtain ⟨a, b⟩ := (h2.2 j).1 hs
      rw [a, b]
      by_cases hz : S j
      · rw [((h1.2 j).1 hz).1, ((h1.2 j).1 hz).2, k_or_or, k_or_or]
        exact ⟨rfl, rfl⟩
      · rw [((h1.2 j).2 hz).1, ((h1.2 j).2 hz).2]
        exact ⟨rfl, rfl⟩
    · obtain ⟨a, b⟩ := (h2.2 j).2 hs
      rw [a, b]
      rcases q with q | q
      · exact (h1.2 j).1 q
      · exact absurd q hs
  · obtain ⟨a, b⟩ := (h2.2 j).2 (fun z => q (Or.inr z))
    rw [a, b]
    exact (h1.2 j).2 (fun z => q (Or.inl z))
/-- the cells of the board so far about one, in its layer -/
def box (w d l c f j : Int) : Prop := inC w d l j ∧ gZ w d j = gZ w d c ∧ (gX w c - f ≤ gX w j ∧ gX w j ≤ gX w c + f) ∧ (gY w d c - f ≤ gY w d j ∧ gY w d j ≤ gY w d c + f)
theorem c_X6_spread (X : Xv) (m : Mem) {w d l : Int} (hD : okD w d l) (hn : w * d * l = (nC X : Int)) (hG : gridC m w d l) (c f u v : Int) (hc : inC w d l c) (hf : 0 ≤ f ∧ f ≤ 2) : kCall (eX X) 1 M_X6_spread.1 [vR 22, vI c, vI f, vI u, vI v] m (fun r m' => r = none ∧ spr m m' u v (box w d l c f)) := by
  have hff := okD_floor hD
  have hcc := okD_cells hD
  have g0 := hG.1
  have g1 := hG.2.1
  have g3 := hG.2.2.2.1
  have gX3 := (hG.2.2.2.2.2 c hc).1
  have gY4 := (hG.2.2.2.2.2 c hc).2.1
  have gZ5 := (hG.2.2.2.2.2 c hc).2.2.1
  have bx := gX_in (c := c) hD
  have by' := gY_in (c := c) hD
  have bz := gZ_in hD hc
  have hcb : 0 ≤ c ∧ c < (nC X : Int) := by obtain ⟨a, b⟩ := hc; omega
  obtain ⟨⟨w1, w2⟩, ⟨d1, d2⟩, l1, l2⟩ := id hD
  have e1 := mb (a := gZ w d c) (b := w * d) (A := 4) (B := 81) (by omega) (by omega)
  refine kCall_ofT ok_X6_spread rfl (Nat.le_of_ble_eq_true rfl) (fun T hT => ?_)
  generalize hx : gX w c = x at *
  generalize hy : gY w d c = y at *
  generalize hz : gZ w d c = z at *
  have inner : ∀ (b : Int) (mb0 : Mem), (max 0 (y - f) ≤ b ∧ b ≤ min (d - 1) (y + f)) → (∀ m', spr mb0 m' u v (fun j => ∃ a, (max 0 (x - f) ≤ a ∧ a ≤ min (w - 1) (x + f)) ∧ j = ix w d a b z) → kW (eX X) 0 M_X6_spread T 3 [some (vR 22), some (vI c), some (vI f), some (vI u), some (vI v), some (vI (max 0 (x - f))), some (vI (min (w - 1) (x + f))), some (vI (min (d - 1) (y + f))), some (vI b), some (vI (z * (w * d) + b * w)), some (vI (min (w - 1) (x + f) + 1))] [] m') →
      ∀ (k : Nat) (a : Int) (m' : Mem), a + k = min (w - 1) (x + f) + 1 → max 0 (x - f) ≤ a → spr mb0 m' u v (fun j => ∃ a', (max 0 (x - f) ≤ a' ∧ a' < a) ∧ j = ix w d a' b z) → kW (eX X) 0 M_X6_spread T 2 [some (vR 22), some (vI c), some (vI f), some (vI u), some (vI v), some (vI (max 0 (x - f))), some (vI (min (w - 1) (x + f))), some (vI (min (d - 1) (y + f))), some (vI b), some (vI (z * (w * d) + b * w)), some (vI a)] [] m' := by
    intro b mb0 hb hout k
    induction k with
    | zero =>
      intro a m' ha hxa hs
      have : a = min (w - 1) (x + f) + 1 := by omega
      subst this
      refine kW_go ok_X6_spread [2, 3] 20 ?_
      refine And.intro (fun _ => hout m' (spr_cong hs (fun j => ?_))) (fun h => absurd h (by omega))
      constructor <;> (rintro ⟨a, h1, h2⟩; exact ⟨a, by omega, h2⟩)
    | succ k ih =>
      intro a m' ha hxa hs
      have hin := ix_in (w := w) (d := d) (l := l) (x := a) (y := b) (z := z) (by omega) (by omega) (by omega)
      have hib : 0 ≤ z * (w * d) + b * w + a ∧ z * (w * d) + b * w + a < (nC X : Int) := by
        obtain ⟨q1, q2⟩ := hin
        unfold ix at q1 q2
        omega
      refine kW_go ok_X6_spread [2, 3] 20 ?_
      refine And.intro (fun h => absurd h (by omega)) (fun _ => ⟨by constructor <;> omega, hib, hib, by constructor <;> omega, hib, hib, by constructor <;> omega, ?_⟩)
      refine ih (a + 1) _ (by omega) (by omega) (spr_cong (spr_put hs) (fun j => ?_))
      constructor
      · rintro ⟨a', h1, h2⟩
        by_cases he : a' = a
        · exact Or.inr (by rw [h2, he]; rfl)
        · exact Or.inl ⟨a', by omega, h2⟩
      · rintro (⟨a', h1, h2⟩ | h)
        · exact ⟨a', by omega, h2⟩
        · exact ⟨a, by omega, h⟩
  have outer : ∀ (k : Nat) (b : Int) (m' : Mem) (x9 x10 : Option AV), b + k = min (d - 1) (y + f) + 1 → max 0 (y - f) ≤ b → spr m m' u v (fun j => ∃ a b', (max 0 (x - f) ≤ a ∧ a ≤ min (w - 1) (x + f)) ∧ (max 0 (y - f) ≤ b' ∧ b' < b) ∧ j = ix w d a b' z) → kW (eX X) 0 M_X6_spread T 1 [some (vR 22), some (vI c), some (vI f), some (vI u), some (vI v), some (vI (max 0 (x - f))), some (vI (min (w - 1) (x + f))), some (vI (min (d - 1) (y + f))), some (vI b), x9, x10] [] m' := by
    intro k
    induction k with
    | zero =>
      intro b m' x9 x10 hb hyb hs
      refine kW_go ok_X6_spread [1, 2, 3] 20 ?_
      refine And.intro (fun _ => hT _ _ ⟨rfl, spr_cong hs (fun j => ?_)⟩) (fun h => absurd h (by omega))
      constructor
      · rintro ⟨h1, h2, h3, h4⟩
        have q1 := gX_in (c := j) hD
        have q2 := gY_in (c := j) hD
        refine ⟨gX w j, gY w d j, by omega, by omega, ?_⟩
        rw [← hz, ← h2]
        exact (ix_eta hD j).symm
      · rintro ⟨a, b', h1, h2, rfl⟩
        refine ⟨ix_in (by omega) (by omega) (by omega), ?_, ?_, ?_⟩
        · rw [ix_Z (by omega) (by omega), hz]
        · rw [ix_X (by omega), hx]; omega
        · rw [ix_Y (by omega) (by omega), hy]; omega
    | succ k ih =>
      intro b m' x9 x10 hb hyb hs
      have f1 : m' 1 = m 1 := hs.1 1 (by decide) (by decide)
      have f5 : m' 5 = m 5 := hs.1 5 (by decide) (by decide)
      have e2 := mb (a := b) (b := w) (A := 9) (B := 9) (by omega) (by omega)
      refine kW_go ok_X6_spread [1, 2, 3] 20 ?_
      show (min (d - 1) (y + f) < b → _) ∧ (b ≤ min (d - 1) (y + f) → (0 ≤ c ∧ c < (nC X : Int)) ∧ inR (m' 5 c * m' 1 3) ∧ inR (b * m' 1 0) ∧ inR (m' 5 c * m' 1 3 + b * m' 1 0) ∧ kW (eX X) 0 M_X6_spread T 2 [some (vR 22), some (vI c), some (vI f), some (vI u), some (vI v), some (vI (max 0 (x - f))), some (vI (min (w - 1) (x + f))), some (vI (min (d - 1) (y + f))), some (vI b), some (vI (m' 5 c * m' 1 3 + b * m' 1 0)), some (vI (max 0 (x - f)))] [] m')
      rw [f1, f5, gZ5, g3, g0]
      refine And.intro (fun h => absurd h (by omega)) (fun _ => ⟨hcb, by constructor <;> omega, by constructor <;> omega, by constructor <;> omega, ?_⟩)
      refine inner b m' (by omega) (fun m2 h2 => ?_) (min (w - 1) (x + f) + 1 - max 0 (x - f)).toNat (max 0 (x - f)) m' (by omega) (by omega) (spr_rf (fun j ⟨a, h, _⟩ => by omega))
      refine kW_go ok_X6_spread [1, 2] 20 ?_
      refine ⟨by constructor <;> omega, ih (b + 1) m2 _ _ (by omega) (by omega) (spr_cong (spr_tr hs h2) (fun j => ?_))⟩
      constructor
      · rintro ⟨a, b', h1, h3, h4⟩
        by_cases he : b' = b
        · exact Or.inr ⟨a, h1, by rw [h4, he]⟩
        · exact Or.inl ⟨a, b', h1, by omega, h4⟩
      · rintro (⟨a, b', h1, h3, h4⟩ | ⟨a, h1, h4⟩)
        · exact ⟨a, b', h1, by omega, h4⟩
        · exact ⟨a, b, h1, by omega, h4⟩
  refine kW_go ok_X6_spread [1, 2, 3] 20 ?_
  show (0 ≤ c ∧ c < (nC X : Int)) ∧ inR (m 3 c - f) ∧ inR (m 1 0 - 1) ∧ (0 ≤ c ∧ c < (nC X : Int)) ∧ inR (m 3 c + f) ∧ inR (m 1 1 - 1) ∧ (0 ≤ c ∧ c < (nC X : Int)) ∧ inR (m 4 c + f) ∧ (0 ≤ c ∧ c < (nC X : Int)) ∧ inR (m 4 c - f) ∧ kW (eX X) 0 M_X6_spread T 1 [some (vR 22), some (vI c), some (vI f), some (vI u), some (vI v), some (vI (max 0 (m 3 c - f))), some (vI (min (m 1 0 - 1) (m 3 c + f))), some (vI (min (m 1 1 - 1) (m 4 c + f))), some (vI (max 0 (m 4 c - f))), none, none] [] m
  rw [gX3, gY4, g0, g1]
  exact ⟨hcb, by constructor <;> omega, by constructor <;> omega, hcb, by constructor <;> omega, by constructor <;> omega, hcb, by constructor <;> omega, hcb, by constructor <;> omega, outer (min (d - 1) (y + f) + 1 - max 0 (y - f)).toNat (max 0 (y - f)) m none none (by omega) (by omega) (spr_rf (fun j ⟨a, b', _, h, _⟩ => by omega))⟩
