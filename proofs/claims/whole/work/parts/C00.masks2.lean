/-! TOGETHER, the class: cells beside cells, as bits -/
theorem g_of {w d l x k a b c : Int} (hD : okD w d l) (ha : dX k = a) (hb : dY k = b) (hc : dZ k = c) (h : (0 ≤ gX w x + a ∧ gX w x + a < w) ∧ (0 ≤ gY w d x + b ∧ gY w d x + b < d) ∧ (0 ≤ gZ w d x + c ∧ gZ w d x + c < l)) : inC w d l (x + a + b * w + c * (w * d)) ∧ gX w (x + a + b * w + c * (w * d)) = gX w x + a ∧ gY w d (x + a + b * w + c * (w * d)) = gY w d x + b ∧ gZ w d (x + a + b * w + c * (w * d)) = gZ w d x + c := by
  subst ha hb hc
  have hne := nx_of h
  have h1 := nx_in hne
  rw [nx_val hne hD] at h1
  exact h1
theorem c_rt {w d l x : Int} (hD : okD w d l) (hx : inC w d l x) (h : gX w x < w - 1) : inC w d l (x + 1) ∧ gX w (x + 1) = gX w x + 1 ∧ gY w d (x + 1) = gY w d x ∧ gZ w d (x + 1) = gZ w d x := by
  have h1 := gX_in (c := x) hD
  have h2 := gY_in (c := x) hD
  have h3 := gZ_in hD hx
  have := g_of (x := x) (k := 1) (a := 1) (b := 0) (c := 0) hD rfl rfl rfl (by omega)
  rw [show x + 1 + 0 * w + 0 * (w * d) = x + 1 by omega] at this
  exact ⟨this.1, this.2.1, by omega, by omega⟩
theorem c_lf {w d l x : Int} (hD : okD w d l) (hx : inC w d l x) (h : 0 < gX w x) : inC w d l (x - 1) ∧ gX w (x - 1) = gX w x - 1 ∧ gY w d (x - 1) = gY w d x ∧ gZ w d (x - 1) = gZ w d x := by
  have h1 := gX_in (c := x) hD
  have h2 := gY_in (c := x) hD
  have h3 := gZ_in hD hx
  have := g_of (x := x) (k := 3) (a := -1) (b := 0) (c := 0) hD rfl rfl rfl (by omega)
  rw [show x + -1 + 0 * w + 0 * (w * d) = x - 1 by omega] at this
  exact ⟨this.1, by omega, by omega, by omega⟩
theorem c_dn {w d l x : Int} (hD : okD w d l) (hx : inC w d l x) (h : gY w d x < d - 1) : inC w d l (x + w) ∧ gX w (x + w) = gX w x ∧ gY w d (x + w) = gY w d x + 1 ∧ gZ w d (x + w) = gZ w d x := by
  have h1 := gX_in (c := x) hD
  have h2 := gY_in (c := x) hD
  have h3 := gZ_in hD hx
  have := g_of (x := x) (k := 2) (a := 0) (b := 1) (c := 0) hD rfl rfl rfl (by omega)
  rw [show x + 0 + 1 * w + 0 * (w * d) = x + w by omega] at this
  exact ⟨this.1, by omega, by omega, by omega⟩
theorem c_up {w d l x : Int} (hD : okD w d l) (hx : inC w d l x) (h : 0 < gY w d x) : inC w d l (x - w) ∧ gX w (x - w) = gX w x ∧ gY w d (x - w) = gY w d x - 1 ∧ gZ w d (x - w) = gZ w d x := by
  have h1 := gX_in (c := x) hD
  have h2 := gY_in (c := x) hD
  have h3 := gZ_in hD hx
  have := g_of (x := x) (k := 0) (a := 0) (b := -1) (c := 0) hD rfl rfl rfl (by omega)
  rw [show x + 0 + -1 * w + 0 * (w * d) = x - w by omega] at this
  exact ⟨this.1, by omega, by omega, by omega⟩
theorem mk_b {w d l : Int} {m : Mem} (hK : MK w d l m) (h24 : w * d * l ≤ 24) {x : Int} : (mbt (m 41 7) x ↔ inC w d l x ∧ 0 < gX w x) ∧ (mbt (m 41 8) x ↔ inC w d l x ∧ gX w x < w - 1) ∧ (mbt (m 41 9) x ↔ inC w d l x ∧ 0 < gY w d x) ∧ (mbt (m 41 10) x ↔ inC w d l x ∧ gY w d x < d - 1) := by
  have key : ∀ v : Int, ∀ p : Int → Prop, (∀ k : Nat, k < 32 → (bt v k = true ↔ ((k : Int) < w * d * l ∧ k < 24) ∧ p (k : Int))) → (mbt v x ↔ inC w d l x ∧ p x) := by
    intro v p hv
    unfold mbt
    constructor
    · rintro ⟨h1, h2⟩
      have := (hv x.toNat (by omega)).mp h2
      rw [Int.toNat_of_nonneg h1.1] at this
      exact ⟨⟨h1.1, this.1.1⟩, this.2⟩
    · rintro ⟨h1, h2⟩
      have a := h1.1
      have b := h1.2
      refine ⟨⟨a, by omega⟩, (hv x.toNat (by omega)).mpr ?_⟩
      rw [Int.toNat_of_nonneg a]
      exact ⟨⟨b, by omega⟩, h2⟩
  exact ⟨key _ (fun x => 0 < gX w x) (fun k hk => (hK k hk).1), key _ (fun x => gX w x < w - 1) (fun k hk => (hK k hk).2.1), key _ (fun x => 0 < gY w d x) (fun k hk => (hK k hk).2.2.1), key _ (fun x => gY w d x < d - 1) (fun k hk => (hK k hk).2.2.2)⟩
/-- the cells one move from a set's -/
theorem om_bits {w d l : Int} {m : Mem} (hD : okD w d l) (hK : MK w d l m) (h24 : w * d * l ≤ 24) {v : Int} (hv : mloC w d l v) {y : Int} (hy : inC w d l y) : mbt (kor (kor (kor (kor (kshl (kand v (m 41 8)) 1) (kushr (kand v (m 41 7)) 1)) (kor (kshl (kand v (m 41 10)) w) (kushr (kand v (m 41 9)) w))) (kshl v (w * d))) (kushr v (w * d))) y ↔ ∃ x, mbt v x ∧ stM w d l x y := by
  have hf := okD_floor hD
  have hw := hD.1
  have hl := hD.2.2
  have hwd : w * d ≤ 24 := by
    have := Int.mul_le_mul_of_nonneg_left hl.1 (show 0 ≤ w * d by omega)
    omega
  have hy0 := hy.1
  have hy1 := hy.2
  have hy32 : 0 ≤ y ∧ y < 32 := by omega
  rw [mbt_or, mbt_or, mbt_or, mbt_or, mbt_or, mbt_shl (n := 1) (by omega) hy32, mbt_ushr (n := 1) (by omega) hy32, mbt_shl (n := w) (by omega) hy32, mbt_ushr (n := w) (by omega) hy32, mbt_shl (n := w * d) (by omega) hy32, mbt_ushr (n := w * d) (by omega) hy32, mbt_and, mbt_and, mbt_and, mbt_and, (mk_b hK h24).2.1, (mk_b hK h24).1, (mk_b hK h24).2.2.2, (mk_b hK h24).2.2.1]
  constructor
  · rintro ((((⟨a, b, c⟩ | ⟨a, b, c⟩) | ⟨a, b, c⟩ | ⟨a, b, c⟩) | a) | a)
    · exact ⟨_, a, (stM_iff hD b hy).mpr (Or.inl ⟨rfl, c⟩)⟩
    · exact ⟨_, a, (stM_iff hD b hy).mpr (Or.inr (Or.inl ⟨rfl, c⟩))⟩
    · exact ⟨_, a, (stM_iff hD b hy).mpr (Or.inr (Or.inr (Or.inl ⟨rfl, c⟩)))⟩
    · exact ⟨_, a, (stM_iff hD b hy).mpr (Or.inr (Or.inr (Or.inr (Or.inl ⟨rfl, c⟩))))⟩
    · exact ⟨_, a, (stM_iff hD (hv.2 _ a) hy).mpr (Or.inr (Or.inr (Or.inr (Or.inr (Or.inl rfl)))))⟩
    · exact ⟨_, a, (stM_iff hD (hv.2 _ a) hy).mpr (Or.inr (Or.inr (Or.inr (Or.inr (Or.inr rfl)))))⟩
  · rintro ⟨x, h1, h2⟩
    have hx := hv.2 x h1
    rcases (stM_iff hD hx hy).mp h2 with ⟨rfl, h⟩ | ⟨rfl, h⟩ | ⟨rfl, h⟩ | ⟨rfl, h⟩ | rfl | rfl
    · exact Or.inl (Or.inl (Or.inl (Or.inl ⟨h1, hx, h⟩)))
    · exact Or.inl (Or.inl (Or.inl (Or.inr ⟨h1, hx, h⟩)))
    · exact Or.inl (Or.inl (Or.inr (Or.inl ⟨h1, hx, h⟩)))
    · exact Or.inl (Or.inl (Or.inr (Or.inr ⟨h1, hx, h⟩)))
    · exact Or.inl (Or.inr h1)
    · exact Or.inr h1
/-- cells as far as i in their row from a set's -/
def wdX (w d l : Int) (S : Int → Prop) (i y : Int) : Prop := inC w d l y ∧ ∃ x, S x ∧ gZ w d y = gZ w d x ∧ gY w d y = gY w d x ∧ (gX w x - i ≤ gX w y ∧ gX w y ≤ gX w x + i)
def wdY (w d l : Int) (S : Int → Prop) (f i y : Int) : Prop := inC w d l y ∧ ∃ x, S x ∧ gZ w d y = gZ w d x ∧ (gX w x - f ≤ gX w y ∧ gX w y ≤ gX w x + f) ∧ (gY w d x - i ≤ gY w d y ∧ gY w d y ≤ gY w d x + i)
theorem wdX_step {w d l : Int} (hD : okD w d l) {S : Int → Prop} {i y : Int} (hi : 0 ≤ i) : wdX w d l S (i + 1) y ↔ wdX w d l S i y ∨ (wdX w d l S i (y - 1) ∧ gX w (y - 1) < w - 1) ∨ (wdX w d l S i (y + 1) ∧ 0 < gX w (y + 1)) := by
  constructor
  · rintro ⟨hy, x, hx, e1, e2, e3⟩
    have hxx := gX_in (c := x) hD
    have hyy := gX_in (c := y) hD
    by_cases a : gX w y = gX w x + (i + 1)
    · have q := c_lf hD hy (by omega)
      exact Or.inr (Or.inl ⟨⟨q.1, x, hx, by omega, by omega, by omega⟩, by omega⟩)
    · by_cases b : gX w y = gX w x - (i + 1)
      · have q := c_rt hD hy (by omega)
        exact Or.inr (Or.inr ⟨⟨q.1, x, hx, by omega, by omega, by omega⟩, by omega⟩)
      · exact Or.inl ⟨hy, x, hx, e1, e2, by omega⟩
  · rintro (⟨hy, x, hx, e1, e2, e3⟩ | ⟨⟨hy, x, hx, e1, e2, e3⟩, h⟩ | ⟨⟨hy, x, hx, e1, e2, e3⟩, h⟩)
    · exact ⟨hy, x, hx, e1, e2, by omega⟩
    · have q := c_rt hD hy h
      rw [show y - 1 + 1 = y by omega] at q
      exact ⟨q.1, x, hx, by omega, by omega, by omega⟩
    · have q := c_lf hD hy h
      rw [show y + 1 - 1 = y by omega] at q
      exact ⟨q.1, x, hx, by omega, by omega, by omega⟩
theorem wdY_step {w d l : Int} (hD : okD w d l) {S : Int → Prop} {f i y : Int} (hi : 0 ≤ i) : wdY w d l S f (i + 1) y ↔ wdY w d l S f i y ∨ (wdY w d l S f i (y - w) ∧ gY w d (y - w) < d - 1) ∨ (wdY w d l S f i (y + w) ∧ 0 < gY w d (y + w)) := by
  constructor
  · rintro ⟨hy, x, hx, e1, e2, e3⟩
    have hxx := gY_in (c := x) hD
    have hyy := gY_in (c := y) hD
    by_cases a : gY w d y = gY w d x + (i + 1)
    · have q := c_up hD hy (by omega)
      exact Or.inr (Or.inl ⟨⟨q.1, x, hx, by omega, by omega, by omega⟩, by omega⟩)
    · by_cases b : gY w d y = gY w d x - (i + 1)
      · have q := c_dn hD hy (by omega)
        exact Or.inr (Or.inr ⟨⟨q.1, x, hx, by omega, by omega, by omega⟩, by omega⟩)
      · exact Or.inl ⟨hy, x, hx, e1, e2, by omega⟩
  · rintro (⟨hy, x, hx, e1, e2, e3⟩ | ⟨⟨hy, x, hx, e1, e2, e3⟩, h⟩ | ⟨⟨hy, x, hx, e1, e2, e3⟩, h⟩)
    · exact ⟨hy, x, hx, e1, e2, by omega⟩
    · have q := c_dn hD hy h
      rw [show y - w + w = y by omega] at q
      exact ⟨q.1, x, hx, by omega, by omega, by omega⟩
    · have q := c_up hD hy h
      rw [show y + w - w = y by omega] at q
      exact ⟨q.1, x, hx, by omega, by omega, by omega⟩
/-- one turn of widening, by bits -/
theorem wd_bits {w d l : Int} {u a b : Int} {k : Int} {p q : Int → Prop} {Q Q' : Int → Prop} (h24 : w * d * l ≤ 24) (hk : 0 ≤ k ∧ k < 32) (hp : ∀ x, mbt a x ↔ inC w d l x ∧ p x) (hq : ∀ x, mbt b x ↔ inC w d l x ∧ q x) (hu : ∀ x, mbt u x ↔ Q x) (hQ : ∀ x, Q x → inC w d l x) (hQ' : ∀ x, Q' x → inC w d l x) (hs : ∀ y, Q' y ↔ Q y ∨ (Q (y - k) ∧ p (y - k)) ∨ (Q (y + k) ∧ q (y + k))) (y : Int) : mbt (kor u (kor (kshl (kand u a) k) (kushr (kand u b) k))) y ↔ Q' y := by
  by_cases hy : 0 ≤ y ∧ y < 32
  · rw [mbt_or, mbt_or, mbt_shl hk hy, mbt_ushr hk hy, mbt_and, mbt_and, hp, hq, hu, hu, hu, hs]
    constructor
    · rintro (h | ⟨h, -, h'⟩ | ⟨h, -, h'⟩)
      · exact Or.inl h
      · exact Or.inr (Or.inl ⟨h, h'⟩)
      · exact Or.inr (Or.inr ⟨h, h'⟩)
    · rintro (h | ⟨h, h'⟩ | ⟨h, h'⟩)
      · exact Or.inl h
      · exact Or.inr (Or.inl ⟨h, hQ _ h, h'⟩)
      · exact Or.inr (Or.inr ⟨h, hQ _ h, h'⟩)
  · constructor
    · intro h
      exact absurd h.1 hy
    · intro h
      have a := (hQ' y h).1
      have b := (hQ' y h).2
      omega
theorem c_X10_oneMove (X : Xv) (m : Mem) {w d l : Int} (hD : okD w d l) (hG : gridC m w d l) (hK : MK w d l m) (h24 : w * d * l ≤ 24) (v : Int) (hv : mloC w d l v) : kCall (eX X) 1 M_X10_oneMove.1 [vR 41, vI v] m (fun r m' => ∃ z, (r = some (vI z) ∧ inR z ∧ ∀ y, inC w d l y → (mbt z y ↔ ∃ x, mbt v x ∧ stM w d l x y)) ∧ m' = m) := by
  refine kCall_ofT ok_X10_oneMove rfl (Nat.le_of_ble_eq_true rfl) (fun T hT => ?_)
  have g0 : m 1 0 = w := hG.1
  have g3 : m 1 3 = w * d := hG.2.2.2.1
  refine kW_go ok_X10_oneMove [] 60 ?_
  refine hT _ _ ⟨_, ⟨rfl, k_in_kor _ _, fun y hy => ?_⟩, rfl⟩
  have key : ∀ a b : Int, a = w → b = w * d → (mbt (kor (kor (kor (kor (kshl (kand v (m 41 8)) 1) (kushr (kand v (m 41 7)) 1)) (kor (kshl (kand v (m 41 10)) a) (kushr (kand v (m 41 9)) a))) (kshl v b)) (kushr v b)) y ↔ ∃ x, mbt v x ∧ stM w d l x y) := by
    intro a b ha hb
    rw [ha, hb]
    exact om_bits hD hK h24 hv hy
  exact key _ _ g0 g3
theorem c_X10_widened (X : Xv) (m : Mem) {w d l : Int} (hD : okD w d l) (hG : gridC m w d l) (hK : MK w d l m) (h24 : w * d * l ≤ 24) (v f : Int) (hv : mloC w d l v) (hf : 0 ≤ f ∧ f ≤ 2) : kCall (eX X) 1 M_X10_widened.1 [vR 41, vI v, vI f] m (fun r m' => ∃ z, (r = some (vI z) ∧ inR z ∧ ∀ y, mbt z y ↔ ∃ x, mbt v x ∧ box w d l x f y) ∧ m' = m) := by
  refine kCall_ofT ok_X10_widened rfl (Nat.le_of_ble_eq_true rfl) (fun T hT => ?_)
  have g0 : m 1 0 = w := hG.1
  have hw := hD.1
  have loop2 : ∀ (k : Nat) (i u : Int), i + k = f → 0 ≤ i → inR u → (∀ y, mbt u y ↔ wdY w d l (mbt v) f i y) → kW (eX X) 0 M_X10_widened T 3 [some (vR 41), some (vI v), some (vI f), some (vI u), some (vI i)] [] m := by
    intro k
    induction k with
    | zero =>
      intro i u hk hi hu hb
      refine kW_go ok_X10_widened [3] 60 ?_
      refine ⟨fun _ => hT _ _ ⟨_, ⟨rfl, hu, fun y => ?_⟩, rfl⟩, fun h => absurd h (by omega)⟩
      rw [hb, show i = f by omega]
      constructor
      · rintro ⟨a, x, h1, h2, h3, h4⟩
        exact ⟨x, h1, a, h2, h3, h4⟩
      · rintro ⟨x, h1, a, h2, h3, h4⟩
        exact ⟨a, x, h1, h2, h3, h4⟩
    | succ k ih =>
      intro i u hk hi hu hb
      have hg := ih (i + 1) _ (by omega) (by omega) (k_in_kor u _) (wd_bits (k := w) (Q := wdY w d l (mbt v) f i) (Q' := wdY w d l (mbt v) f (i + 1)) h24 (by omega) (fun x => (mk_b hK h24).2.2.2) (fun x => (mk_b hK h24).2.2.1) hb (fun x h => h.1) (fun x h => h.1) (fun y => wdY_step hD hi))
      rw [← g0] at hg
      refine kW_go ok_X10_widened [3] 60 ?_
      exact ⟨fun h => absurd h (by omega), fun _ => ⟨by constructor <;> omega, hg⟩⟩
  have loop1 : ∀ (k : Nat) (i u : Int), i + k = f → 0 ≤ i → inR u → (∀ y, mbt u y ↔ wdX w d l (mbt v) i y) → kW (eX X) 0 M_X10_widened T 1 [some (vR 41), some (vI v), some (vI f), some (vI u), some (vI i)] [] m := by
    intro k
    induction k with
    | zero =>
      intro i u hk hi hu hb
      refine kW_go ok_X10_widened [1, 3] 60 ?_
      refine ⟨fun _ => loop2 f.toNat 0 u (by omega) (by omega) hu (fun y => ?_), fun h => absurd h (by omega)⟩
      rw [hb, show i = f by omega]
      constructor
      · rintro ⟨a, x, h1, h2, h3, h4⟩
        exact ⟨a, x, h1, h2, h4, by omega⟩
      · rintro ⟨a, x, h1, h2, h3, h4⟩
        exact ⟨a, x, h1, h2, by omega, h3⟩
    | succ k ih =>
      intro i u hk hi hu hb
      have hg := ih (i + 1) _ (by omega) (by omega) (k_in_kor u _) (wd_bits (k := 1) (Q := wdX w d l (mbt v) i) (Q' := wdX w d l (mbt v) (i + 1)) h24 (by omega) (fun x => (mk_b hK h24).2.1) (fun x => (mk_b hK h24).1) hb (fun x h => h.1) (fun x h => h.1) (fun y => wdX_step hD hi))
      refine kW_go ok_X10_widened [1, 3] 60 ?_
      exact ⟨fun h => absurd h (by omega), fun _ => ⟨by constructor <;> omega, hg⟩⟩
  refine kW_go ok_X10_widened [1] 20 ?_
  refine loop1 f.toNat 0 v (by omega) (by omega) hv.1 (fun y => ?_)
  constructor
  · intro h
    exact ⟨hv.2 y h, y, h, rfl, rfl, by omega⟩
  · rintro ⟨a, x, h1, h2, h3, h4⟩
    rw [g_ext hD (show gX w y = gX w x by omega) h3 h2]
    exact h1
