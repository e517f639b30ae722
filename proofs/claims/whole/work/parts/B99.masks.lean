/-! sets of at most 32 cells as bits -/
def mbt (v x : Int) : Prop := (0 ≤ x ∧ x < 32) ∧ bt v x.toNat = true
theorem mbt_and {a b x : Int} : mbt (kand a b) x ↔ mbt a x ∧ mbt b x := by
  unfold mbt
  rw [bt_and, Bool.and_eq_true]
  constructor
  · rintro ⟨h, a, b⟩; exact ⟨⟨h, a⟩, h, b⟩
  · rintro ⟨⟨h, a⟩, -, b⟩; exact ⟨h, a, b⟩
theorem mbt_or {a b x : Int} : mbt (kor a b) x ↔ mbt a x ∨ mbt b x := by
  unfold mbt
  rw [bt_or, Bool.or_eq_true]
  constructor
  · rintro ⟨h, a | b⟩
    · exact Or.inl ⟨h, a⟩
    · exact Or.inr ⟨h, b⟩
  · rintro (⟨h, a⟩ | ⟨h, b⟩)
    · exact ⟨h, Or.inl a⟩
    · exact ⟨h, Or.inr b⟩
theorem mbt_not {a x : Int} (hx : 0 ≤ x ∧ x < 32) : mbt (kxor a (-1)) x ↔ ¬ mbt a x := by
  unfold mbt
  rw [bt_xor, bt_neg1 (by omega)]
  cases h : bt a x.toNat <;> simp [hx]
theorem mbt_bit {n x : Int} (hn : 0 ≤ n ∧ n < 32) : mbt (kshl 1 n) x ↔ x = n := by
  unfold mbt
  rw [bt_bit hn.1 hn.2, decide_eq_true_eq]
  omega
theorem mbt_shl {a n x : Int} (hn : 0 ≤ n ∧ n < 32) (hx : 0 ≤ x ∧ x < 32) : mbt (kshl a n) x ↔ mbt a (x - n) := by
  unfold mbt
  rw [bt_shl hn.1 hn.2]
  simp only [Bool.and_eq_true, decide_eq_true_eq, Bool.not_eq_true', decide_eq_false_iff_not]
  constructor
  · rintro ⟨-, ⟨h1, h2⟩, h3⟩
    exact ⟨by omega, by rw [show (x - n).toNat = x.toNat - n.toNat by omega]; exact h3⟩
  · rintro ⟨h1, h2⟩
    exact ⟨hx, ⟨by omega, by omega⟩, by rw [show x.toNat - n.toNat = (x - n).toNat by omega]; exact h2⟩
theorem mbt_ushr {a n x : Int} (hn : 0 ≤ n ∧ n < 32) (hx : 0 ≤ x ∧ x < 32) : mbt (kushr a n) x ↔ mbt a (x + n) := by
  unfold mbt
  rw [bt_ushr hn.1 hn.2]
  constructor
  · rintro ⟨-, h⟩
    have h32 : x + n < 32 := by
      by_cases q : x + n < 32
      · exact q
      · rw [bt_ge _ (by omega)] at h; cases h
    exact ⟨⟨by omega, h32⟩, by rw [show (x + n).toNat = n.toNat + x.toNat by omega]; exact h⟩
  · rintro ⟨h1, h2⟩
    exact ⟨hx, by rw [show n.toNat + x.toNat = (x + n).toNat by omega]; exact h2⟩
theorem mbt_ne {a b : Int} : kand a b ≠ 0 ↔ ∃ x, mbt a x ∧ mbt b x := by
  constructor
  · intro h
    obtain ⟨k, k1, k2⟩ := (k_ne0 (k_in_kand a b)).mp h
    have : mbt (kand a b) (k : Int) := ⟨by omega, by rw [Int.toNat_natCast]; exact k2⟩
    exact ⟨_, mbt_and.mp this⟩
  · rintro ⟨x, h⟩
    have := mbt_and.mpr h
    exact (k_ne0 (k_in_kand a b)).mpr ⟨x.toNat, by have := this.1; omega, this.2⟩
theorem mbt_neb {a t : Int} (ht : 0 ≤ t ∧ t < 32) : kand a (kshl 1 t) ≠ 0 ↔ mbt a t := by
  rw [mbt_ne]
  constructor
  · rintro ⟨x, h1, h2⟩
    rw [mbt_bit ht] at h2
    exact h2 ▸ h1
  · intro h
    exact ⟨t, h, (mbt_bit ht).mpr rfl⟩
theorem mbt_ext {a b : Int} (ha : inR a) (hb : inR b) (h : ∀ x, mbt a x ↔ mbt b x) : a = b := by
  refine bt_ext ha hb (fun k hk => Bool.eq_iff_iff.mpr ?_)
  have := h (k : Int)
  unfold mbt at this
  rw [Int.toNat_natCast] at this
  constructor
  · intro q; exact (this.mp ⟨by omega, q⟩).2
  · intro q; exact (this.mpr ⟨by omega, q⟩).2
theorem mbt_zero {x : Int} : ¬ mbt 0 x := by
  rintro ⟨-, h⟩
  rw [bt_zero] at h
  cases h
/-- moves on the board -/
def stM (w d l x y : Int) : Prop := ∃ k : Int, (0 ≤ k ∧ k < 6) ∧ nx w d l x k ≠ -1 ∧ nx w d l x k = y
theorem nx_pl {w d l x k a b c : Int} (hD : okD w d l) (ha : dX k = a) (hb : dY k = b) (hc : dZ k = c) (_hx : inC w d l x) : nx w d l x k ≠ -1 ↔ ((0 ≤ gX w x + a ∧ gX w x + a < w) ∧ (0 ≤ gY w d x + b ∧ gY w d x + b < d) ∧ (0 ≤ gZ w d x + c ∧ gZ w d x + c < l)) := by
  subst ha hb hc
  constructor
  · intro h
    have h1 := nx_in h
    have a := gX_in (c := nx w d l x k) hD
    have b := gY_in (c := nx w d l x k) hD
    have c := gZ_in hD h1.1
    rw [h1.2.1] at a
    rw [h1.2.2.1] at b
    rw [h1.2.2.2] at c
    exact ⟨a, b, c⟩
  · exact nx_of
theorem stM_iff {w d l x y : Int} (hD : okD w d l) (hx : inC w d l x) (hy : inC w d l y) : stM w d l x y ↔ (x = y - 1 ∧ gX w x < w - 1) ∨ (x = y + 1 ∧ 0 < gX w x) ∨ (x = y - w ∧ gY w d x < d - 1) ∨ (x = y + w ∧ 0 < gY w d x) ∨ x = y - w * d ∨ x = y + w * d := by
  have h1 := gX_in (c := x) hD
  have h2 := gY_in (c := x) hD
  have h3 := gZ_in hD hx
  have e1 := ix_eta hD x
  have zz : ∀ c : Int, inC w d l (x + c * (w * d)) → 0 ≤ gZ w d x + c ∧ gZ w d x + c < l := by
    intro c hc
    have := gZ_in hD hc
    have hf := okD_floor hD
    unfold gZ at this ⊢
    rw [Int.add_mul_ediv_right _ _ (by omega)] at this
    exact this
  constructor
  · rintro ⟨k, hk, hne, he⟩
    have hv := nx_val hne hD
    rw [he] at hv
    have : k = 0 ∨ k = 1 ∨ k = 2 ∨ k = 3 ∨ k = 4 ∨ k = 5 := by omega
    rcases this with rfl | rfl | rfl | rfl | rfl | rfl
    · have := (nx_pl hD (a := 0) (b := -1) (c := 0) rfl rfl rfl hx).mp hne
      rw [show dX 0 = 0 from rfl, show dY 0 = -1 from rfl, show dZ 0 = 0 from rfl] at hv
      exact Or.inr (Or.inr (Or.inr (Or.inl ⟨by omega, by omega⟩)))
    · have := (nx_pl hD (a := 1) (b := 0) (c := 0) rfl rfl rfl hx).mp hne
      rw [show dX 1 = 1 from rfl, show dY 1 = 0 from rfl, show dZ 1 = 0 from rfl] at hv
      exact Or.inl ⟨by omega, by omega⟩
    · have := (nx_pl hD (a := 0) (b := 1) (c := 0) rfl rfl rfl hx).mp hne
      rw [show dX 2 = 0 from rfl, show dY 2 = 1 from rfl, show dZ 2 = 0 from rfl] at hv
      exact Or.inr (Or.inr (Or.inl ⟨by omega, by omega⟩))
    · have := (nx_pl hD (a := -1) (b := 0) (c := 0) rfl rfl rfl hx).mp hne
      rw [show dX 3 = -1 from rfl, show dY 3 = 0 from rfl, show dZ 3 = 0 from rfl] at hv
      exact Or.inr (Or.inl ⟨by omega, by omega⟩)
    · rw [show dX 4 = 0 from rfl, show dY 4 = 0 from rfl, show dZ 4 = 1 from rfl] at hv
      exact Or.inr (Or.inr (Or.inr (Or.inr (Or.inl (by omega)))))
    · rw [show dX 5 = 0 from rfl, show dY 5 = 0 from rfl, show dZ 5 = -1 from rfl] at hv
      exact Or.inr (Or.inr (Or.inr (Or.inr (Or.inr (by omega)))))
  · have go : ∀ k a b c : Int, (0 ≤ k ∧ k < 6) → dX k = a → dY k = b → dZ k = c → ((0 ≤ gX w x + a ∧ gX w x + a < w) ∧ (0 ≤ gY w d x + b ∧ gY w d x + b < d) ∧ (0 ≤ gZ w d x + c ∧ gZ w d x + c < l)) → x + a + b * w + c * (w * d) = y → stM w d l x y := by
      intro k a b c hk ha hb hc h e
      have hne := (nx_pl hD ha hb hc hx).mpr h
      exact ⟨k, hk, hne, by rw [nx_val hne hD, ha, hb, hc]; exact e⟩
    rintro (⟨e, h⟩ | ⟨e, h⟩ | ⟨e, h⟩ | ⟨e, h⟩ | e | e)
    · exact go 1 1 0 0 (by omega) rfl rfl rfl (by omega) (by omega)
    · exact go 3 (-1) 0 0 (by omega) rfl rfl rfl (by omega) (by omega)
    · exact go 2 0 1 0 (by omega) rfl rfl rfl (by omega) (by omega)
    · exact go 0 0 (-1) 0 (by omega) rfl rfl rfl (by omega) (by omega)
    · have := zz 1 (by rw [show x + 1 * (w * d) = y by omega]; exact hy)
      exact go 4 0 0 1 (by omega) rfl rfl rfl (by omega) (by omega)
    · have := zz (-1) (by rw [show x + -1 * (w * d) = y by omega]; exact hy)
      exact go 5 0 0 (-1) (by omega) rfl rfl rfl (by omega) (by omega)
theorem stM_in {w d l x y : Int} (h : stM w d l x y) : inC w d l y := by
  obtain ⟨k, -, h1, rfl⟩ := h
  exact (nx_in h1).1
theorem stM_self {w d l x : Int} : ¬ stM w d l x x := by
  rintro ⟨k, hk, h1, h2⟩
  exact nx_self hk h1 h2
/-- a set of cells of the board -/
def mloC (w d l v : Int) : Prop := inR v ∧ ∀ x, mbt v x → inC w d l x
