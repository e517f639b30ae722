/-! FREE, told of the class's memory -/
/-- a net has copper in a cell -/
def cu (c : Mem) (n x : Int) : Prop := bt (c 16 x) n.toNat = true ∨ bt (c 17 x) n.toNat = true
/-- a cell is free for a net -/
def frG (w d l : Int) (c : Mem) (n t x : Int) : Prop := cu c n x ∨ (c 15 x = 0 ∧ (t ≠ 0 ∨ bt (c 10 (c 11 n * 5 + 4)) (gZ w d x).toNat = true) ∧ ∀ o : Int, (0 ≤ o ∧ o < c 9 14) → o ≠ n → ¬ ∃ y : Int, inC w d l y ∧ cu c o y ∧ box w d l y (aptC c n o) x)
theorem k_ask_ne {v n : Int} (h0 : 0 ≤ n) (h1 : n < 32) : kand (kshr v n) 1 ≠ 0 ↔ bt v n.toNat = true := by
  rw [Ne, k_ask0 h0 h1]
  cases bt v n.toNat <;> simp
theorem k_eq0 {v : Int} (hv : inR v) : v = 0 ↔ ∀ o, o < 32 → bt v o = false := by
  constructor
  · rintro rfl o _
    exact bt_zero o
  · intro h
    exact bt_ext hv k_inR0 (fun o ho => by rw [h o ho, bt_zero])
theorem k_and_m1 {v : Int} (hv : inR v) : kand v (kxor 0 (-1)) = v := by
  have e2 : kxor 0 (-1) = -1 := by decide +kernel
  rw [e2]
  exact bt_ext (k_in_kand _ _) hv (fun k hk => by rw [bt_and, bt_neg1 hk, Bool.and_true])
/-- the room after a look with all copper, marked with no net gone, tells what is free -/
theorem frC_frG {w d l : Int} {X : Xv} {m m' : Mem} (hD : okD w d l) (hn : w * d * l = (nC X : Int)) (hs : srt m) (hz : ∀ o j, inR (m' o j)) {n : Int} (hnn : 0 ≤ n ∧ n < m 9 14) (e10 : m' 10 = m 10) (e11 : m' 11 = m 11) (e15 : m' 15 = m 15) (e22 : m' 22 9 = n) (h26 : ∀ c, inC w d l c → m' 26 c = kand (kshr (kor (m 16 c) (m 17 c)) n) 1) (hb : ∀ j, inC w d l j → ∀ o : Nat, (bt (m' 24 j) o = true ↔ nrC w d l m 16 n o j (nC X)) ∧ (bt (m' 25 j) o = true ↔ nrC w d l m 17 n o j (nC X))) (x : Int) (hx : inC w d l x) : frC w d m' 0 x ↔ frG w d l m n 0 x := by
  have hgz := gZ_in hD hx
  obtain ⟨-, -, l1, l2⟩ := id hD
  have ha := hs.1
  have hcu : m' 26 x ≠ 0 ↔ cu m n x := by
    rw [h26 x hx, k_ask_ne (by omega) (by omega), bt_or, Bool.or_eq_true]
    exact Iff.rfl
  have hlay : kand (kshr (m' 10 (m' 11 (m' 22 9) * 5 + 4)) (gZ w d x)) 1 ≠ 0 ↔ ((0 : Int) ≠ 0 ∨ bt (m 10 (m 11 n * 5 + 4)) (gZ w d x).toNat = true) := by
    rw [e22, e10, e11, k_ask_ne (by omega) (by omega)]
    constructor
    · exact Or.inr
    · rintro (h | h)
      · exact absurd rfl h
      · exact h
  have hno : (m' 24 x = 0 ∧ kand (m' 25 x) (kxor 0 (-1)) = 0) ↔ ∀ o : Int, (0 ≤ o ∧ o < m 9 14) → o ≠ n → ¬ ∃ y : Int, inC w d l y ∧ cu m o y ∧ box w d l y (aptC m n o) x := by
    rw [k_and_m1 (hz 25 x), k_eq0 (hz 24 x), k_eq0 (hz 25 x)]
    constructor
    · rintro ⟨h1, h2⟩ o ho hon ⟨y, q1, q2, q3⟩
      have e : ((o.toNat : Nat) : Int) = o := Int.toNat_of_nonneg ho.1
      have hy : 0 ≤ y ∧ y < (nC X : Int) := by obtain ⟨a, b⟩ := q1; omega
      rcases q2 with q2 | q2
      · have := ((hb x hx o.toNat).1).mpr ⟨by rw [e]; exact ⟨ho.2, hon⟩, y, hy, q2, by rw [e]; exact q3⟩
        rw [h1 o.toNat (by omega)] at this
        cases this
      · have := ((hb x hx o.toNat).2).mpr ⟨by rw [e]; exact ⟨ho.2, hon⟩, y, hy, q2, by rw [e]; exact q3⟩
        rw [h2 o.toNat (by omega)] at this
        cases this
    · intro h
      have hh : ∀ (o : Nat) (a : Nat), (a = 16 ∨ a = 17) → ¬ nrC w d l m a n o x (nC X) := by
        rintro o a haa ⟨⟨q1, q2⟩, y, q3, q4, q5⟩
        refine h (o : Int) ⟨by omega, q1⟩ q2 ⟨y, ⟨by omega, by omega⟩, ?_, q5⟩
        rcases haa with rfl | rfl
        · exact Or.inl q4
        · exact Or.inr q4
      constructor
      · intro o _
        cases hbt : bt (m' 24 x) o with
        | false => rfl
        | true => exact absurd ((hb x hx o).1.mp hbt) (hh o 16 (Or.inl rfl))
      · intro o _
        cases hbt : bt (m' 25 x) o with
        | false => rfl
        | true => exact absurd ((hb x hx o).2.mp hbt) (hh o 17 (Or.inr rfl))
  unfold frC frG
  rw [hcu, hlay, e15, hno]
  constructor
  · rintro (h | ⟨h1, h2, h3⟩)
    · exact Or.inl h
    · exact Or.inr ⟨h2, h1, h3⟩
  · rintro (h | ⟨h1, h2, h3⟩)
    · exact Or.inl h
    · exact Or.inr ⟨h2, h1, h3⟩
/-- the reference's objects in r stand for the class's in c: what FREE asks -/
def RelF (w d l : Int) (c r : Mem) : Prop := dimM r w d l ∧ r 54 26 = c 9 14 ∧ (∀ n : Int, (0 ≤ n ∧ n < c 9 14) → r 61 n = c 11 n ∧ r 59 (r 61 n) = c 10 (c 11 n * 5 + 3) ∧ r 60 (r 61 n) = c 10 (c 11 n * 5 + 4)) ∧ (∀ x, inC w d l x → r 71 (cR w d x) = c 15 x) ∧ (∀ n x : Int, (0 ≤ n ∧ n < 8) → inC w d l x → (0 ≤ r 72 (324 * n + cR w d x) ∧ r 72 (324 * n + cR w d x) < 4) ∧ (bt (r 72 (324 * n + cR w d x)) 0 = true ↔ bt (c 16 x) n.toNat = true) ∧ (bt (r 72 (324 * n + cR w d x)) 1 = true ↔ bt (c 17 x) n.toNat = true)) ∧ r 54 28 = 0 ∧ r 54 30 = 0
theorem and7 {v : Int} (h : 0 ≤ v ∧ v < 4) : kand v 7 ≠ 0 ↔ bt v 0 = true ∨ bt v 1 = true := by
  have : ∀ i : Fin 4, kand (i.val : Int) 7 ≠ 0 ↔ bt (i.val : Int) 0 = true ∨ bt (i.val : Int) 1 = true := by decide +kernel
  have h2 := this ⟨v.toNat, by omega⟩
  simp only [Int.toNat_of_nonneg h.1] at h2
  exact h2
theorem cnt_cu {w d l : Int} {c r : Mem} (hr : RelF w d l c r) {n x : Int} (hn : 0 ≤ n ∧ n < 8) (hx : inC w d l x) : cnt r n (cR w d x) ↔ cu c n x := by
  obtain ⟨-, -, -, -, h72, h28, h30⟩ := hr
  have hT : cntT r n := ⟨by rw [h28, k_ask0 (by omega) (by omega), bt_zero], Or.inl h30⟩
  obtain ⟨h1, h2, h3⟩ := h72 n x hn hx
  unfold cnt cu
  rw [and7 h1, h2, h3]
  constructor
  · rintro (⟨-, h⟩ | ⟨h, -⟩)
    · exact h
    · exact absurd hT h
  · exact fun h => Or.inl ⟨hT, h⟩
theorem near_box {w d l : Int} {c r : Mem} (hD : okD w d l) (hr : RelF w d l c r) {o x f : Int} (ho : 0 ≤ o ∧ o < 8) (hx : inC w d l x) : near w d r o (cR w d x) f ↔ ∃ y : Int, inC w d l y ∧ cu c o y ∧ box w d l y f x := by
  have hg := cR_geo hD hx
  have hz := gZ_in hD hx
  unfold near
  rw [hg.2.1, hg.2.2.1, hg.2.2.2]
  constructor
  · rintro ⟨a, b, h1, h2, h3⟩
    have hi := ix_in (w := w) (d := d) (l := l) h1.1 h2.1 hz
    rw [← cR_ix (l := l) h1.1 h2.1, cnt_cu hr ho hi] at h3
    refine ⟨_, hi, h3, hx, (ix_Z h1.1 h2.1).symm, ?_, ?_⟩
    · rw [ix_X h1.1]; omega
    · rw [ix_Y h1.1 h2.1]; omega
  · rintro ⟨y, h1, h2, -, h3, h4, h5⟩
    have q1 := gX_in (c := y) hD
    have q2 := gY_in (c := y) hD
    refine ⟨gX w y, gY w d y, ⟨q1, by omega⟩, ⟨q2, by omega⟩, ?_⟩
    have e : 81 * gZ w d x + 9 * gY w d y + gX w y = cR w d y := by unfold cR; rw [h3]
    rw [e, cnt_cu hr ho h1]
    exact h2
theorem frR_frG {w d l : Int} {c r : Mem} (hD : okD w d l) (hs : srt c) (hr : RelF w d l c r) {n t x : Int} (hn : 0 ≤ n ∧ n < c 9 14) (hx : inC w d l x) : frR w d r n (cR w d x) t ↔ frG w d l c n t x := by
  have hg := cR_geo hD hx
  have hz := gZ_in hD hx
  have ha := hs.1
  obtain ⟨-, -, l1, l2⟩ := id hD
  obtain ⟨hdim, h26, hso, h71, -, -, -⟩ := id hr
  unfold frR frG
  rw [cnt_cu hr (by omega) hx, h71 x hx, hg.2.2.2, (hso n hn).2.2, k_ask_ne (by omega) (by omega), h26]
  have hap : ∀ o : Int, (0 ≤ o ∧ o < c 9 14) → aptR r n o = aptC c n o := fun o ho => by unfold aptR aptC; rw [(hso n hn).2.1, (hso o ho).2.1]
  constructor
  · rintro (h | ⟨h1, h2, h3⟩)
    · exact Or.inl h
    · refine Or.inr ⟨h1, h2, fun o ho hon => ?_⟩
      rw [← near_box hD hr (by omega) hx, ← hap o ho]
      exact h3 o ho hon
  · rintro (h | ⟨h1, h2, h3⟩)
    · exact Or.inl h
    · refine Or.inr ⟨h1, h2, fun o ho hon => ?_⟩
      rw [near_box hD hr (by omega) hx, hap o ho]
      exact h3 o ho hon
