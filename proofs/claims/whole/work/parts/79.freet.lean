/-! FREE, where the traces of some nets alone count -/
/-- the board that contracts speak of -/
def Bd (X : Xv) (w d l : Int) (m : Mem) : Prop := okD w d l ∧ w * d * l = (nC X : Int) ∧ gridC m w d l
theorem Bd_same {X : Xv} {w d l : Int} {m m' : Mem} (h : Bd X w d l m) (hs : ∀ o, 1 ≤ o → o ≤ 5 → m' o = m o) : Bd X w d l m' := ⟨h.1, h.2.1, gridC_same h.2.2 hs⟩
/-- a net has copper in a cell; q: the nets whose traces count -/
def cuT (q : Int → Prop) (c : Mem) (n x : Int) : Prop := bt (c 16 x) n.toNat = true ∨ (q n ∧ bt (c 17 x) n.toNat = true)
/-- no other net's copper is too near -/
def clT (w d l : Int) (q : Int → Prop) (c : Mem) (n x : Int) : Prop := ∀ o : Int, (0 ≤ o ∧ o < c 9 14) → o ≠ n → ¬ ∃ y : Int, inC w d l y ∧ cuT q c o y ∧ box w d l y (aptC c n o) x
def frT (w d l : Int) (q : Int → Prop) (c : Mem) (n t x : Int) : Prop := cuT q c n x ∨ (c 15 x = 0 ∧ (t ≠ 0 ∨ bt (c 10 (c 11 n * 5 + 4)) (gZ w d x).toNat = true) ∧ clT w d l q c n x)
theorem bt_not {g : Int} {k : Nat} (hk : k < 32) : bt (kxor g (-1)) k = !bt g k := by
  rw [bt_xor, bt_neg1 hk]
  cases bt g k <;> rfl
/-- what a look leaves in the room -/
def looked (w d l : Int) (X : Xv) (c m : Mem) (n t : Int) : Prop := m 22 9 = n ∧ (∀ x, inC w d l x → m 26 x = kand (kshr (if t = 0 then c 16 x else kor (c 16 x) (c 17 x)) n) 1) ∧ ∀ j, inC w d l j → ∀ o : Nat, (bt (m 24 j) o = true ↔ nrC w d l c 16 n o j (nC X)) ∧ (bt (m 25 j) o = true ↔ nrC w d l c 17 n o j (nC X))
theorem looked_same {w d l : Int} {X : Xv} {c m m' : Mem} {n t : Int} (h : looked w d l X c m n t) (hs : ∀ o, 22 ≤ o → o ≤ 26 → m' o = m o) : looked w d l X c m' n t := by
  refine ⟨by rw [hs 22 (by decide) (by decide)]; exact h.1, fun x hx => by rw [hs 26 (by decide) (by decide)]; exact h.2.1 x hx, fun j hj o => ?_⟩
  rw [hs 24 (by decide) (by decide), hs 25 (by decide) (by decide)]
  exact h.2.2 j hj o
theorem looked_clr {w d l : Int} {X : Xv} {c m : Mem} {n t g : Int} (hD : okD w d l) (hn : w * d * l = (nC X : Int)) (hs : srt c) (hz : ∀ o j, inR (m o j)) (h : looked w d l X c m n t) {x : Int} (hx : inC w d l x) : (m 24 x = 0 ∧ kand (m 25 x) (kxor g (-1)) = 0) ↔ clT w d l (fun o => bt g o.toNat = false) c n x := by
  have ha := hs.1
  have hb := h.2.2
  rw [k_eq0 (hz 24 x), k_and0]
  constructor
  · rintro ⟨h1, h2⟩ o ho hon ⟨y, q1, q2, q3⟩
    have e : ((o.toNat : Nat) : Int) = o := Int.toNat_of_nonneg ho.1
    have hy : 0 ≤ y ∧ y < (nC X : Int) := by obtain ⟨a, b⟩ := q1; omega
    rcases q2 with q2 | ⟨qg, q2⟩
    · have := ((hb x hx o.toNat).1).mpr ⟨by rw [e]; exact ⟨ho.2, hon⟩, y, hy, q2, by rw [e]; exact q3⟩
      rw [h1 o.toNat (by omega)] at this
      cases this
    · have := ((hb x hx o.toNat).2).mpr ⟨by rw [e]; exact ⟨ho.2, hon⟩, y, hy, q2, by rw [e]; exact q3⟩
      refine h2 o.toNat (by omega) ⟨this, ?_⟩
      rw [bt_not (by omega), qg]; rfl
  · intro h
    constructor
    · intro o _
      cases hbt : bt (m 24 x) o with
      | false => rfl
      | true =>
        obtain ⟨⟨q1, q2⟩, y, q3, q4, q5⟩ := (hb x hx o).1.mp hbt
        exact absurd ⟨y, ⟨by omega, by omega⟩, Or.inl q4, q5⟩ (h (o : Int) ⟨by omega, q1⟩ q2)
    · rintro o ho ⟨z1, z2⟩
      obtain ⟨⟨q1, q2⟩, y, q3, q4, q5⟩ := (hb x hx o).2.mp z1
      rw [bt_not ho] at z2
      exact absurd ⟨y, ⟨by omega, by omega⟩, Or.inr ⟨by simpa using z2, q4⟩, q5⟩ (h (o : Int) ⟨by omega, q1⟩ q2)
theorem looked_own {w d l : Int} {X : Xv} {c m : Mem} {n t : Int} (hn : 0 ≤ n ∧ n < 8) (h : looked w d l X c m n t) {x : Int} (hx : inC w d l x) : m 26 x ≠ 0 ↔ cuT (fun _ => t ≠ 0) c n x := by
  rw [h.2.1 x hx, k_ask_ne (by omega) (by omega)]
  unfold cuT
  by_cases ht : t = 0
  · rw [if_pos ht]
    exact ⟨Or.inl, fun q => q.elim id (fun q => absurd ht q.1)⟩
  · rw [if_neg ht, bt_or, Bool.or_eq_true]
    exact ⟨fun q => q.elim Or.inl (fun q => Or.inr ⟨ht, q⟩), fun q => q.elim Or.inl (fun q => Or.inr q.2)⟩
/-- the nets whose traces count behind a look for n and a mark -/
def qC (n t g : Int) (o : Int) : Prop := (o = n ∧ t ≠ 0) ∨ (o ≠ n ∧ bt g o.toNat = false)
theorem cuT_cong {q q' : Int → Prop} {c : Mem} {n x : Int} (h : q n ↔ q' n) : cuT q c n x ↔ cuT q' c n x := by
  unfold cuT
  rw [h]
theorem clT_cong {w d l : Int} {q q' : Int → Prop} {c : Mem} {n x : Int} (h : ∀ o, (0 ≤ o ∧ o < c 9 14) → o ≠ n → (q o ↔ q' o)) : clT w d l q c n x ↔ clT w d l q' c n x := by
  constructor
  · rintro z o ho hon ⟨y, q1, q2, q3⟩
    exact z o ho hon ⟨y, q1, (cuT_cong (h o ho hon)).mpr q2, q3⟩
  · rintro z o ho hon ⟨y, q1, q2, q3⟩
    exact z o ho hon ⟨y, q1, (cuT_cong (h o ho hon)).mp q2, q3⟩
theorem frT_cong {w d l : Int} {q q' : Int → Prop} {c : Mem} {n t x : Int} (hn : q n ↔ q' n) (h : ∀ o, (0 ≤ o ∧ o < c 9 14) → o ≠ n → (q o ↔ q' o)) : frT w d l q c n t x ↔ frT w d l q' c n t x := by
  unfold frT
  rw [cuT_cong hn, clT_cong h]
theorem frC_frT {w d l : Int} {X : Xv} {c m : Mem} {n t g : Int} (hD : okD w d l) (hn : w * d * l = (nC X : Int)) (hs : srt c) (hz : ∀ o j, inR (m o j)) (hnn : 0 ≤ n ∧ n < c 9 14) (e10 : m 10 = c 10) (e11 : m 11 = c 11) (e15 : m 15 = c 15) (h : looked w d l X c m n t) {x : Int} (hx : inC w d l x) : frC w d m g x ↔ frT w d l (qC n t g) c n 0 x := by
  have hgz := gZ_in hD hx
  obtain ⟨-, -, l1, l2⟩ := id hD
  have ha := hs.1
  have hlay : kand (kshr (m 10 (m 11 (m 22 9) * 5 + 4)) (gZ w d x)) 1 ≠ 0 ↔ ((0 : Int) ≠ 0 ∨ bt (c 10 (c 11 n * 5 + 4)) (gZ w d x).toNat = true) := by
    rw [h.1, e10, e11, k_ask_ne (by omega) (by omega)]
    constructor
    · exact Or.inr
    · rintro (h | h)
      · exact absurd rfl h
      · exact h
  have e1 : cuT (fun _ => t ≠ 0) c n x ↔ cuT (qC n t g) c n x := cuT_cong ⟨fun z => Or.inl ⟨rfl, z⟩, fun z => z.elim (fun z => z.2) (fun z => absurd rfl z.1)⟩
  have e2 : clT w d l (fun o => bt g o.toNat = false) c n x ↔ clT w d l (qC n t g) c n x := clT_cong (fun o _ hon => ⟨fun z => Or.inr ⟨hon, z⟩, fun z => z.elim (fun z => absurd z.1 hon) (fun z => z.2)⟩)
  unfold frC frT
  rw [looked_own (by omega) h hx, hlay, e15, looked_clr hD hn hs hz h hx, e1, e2]
  constructor
  · rintro (h | ⟨h1, h2, h3⟩)
    · exact Or.inl h
    · exact Or.inr ⟨h2, h1, h3⟩
  · rintro (h | ⟨h1, h2, h3⟩)
    · exact Or.inl h
    · exact Or.inr ⟨h2, h1, h3⟩
/-- the reference's objects in r stand for the class's in c: what its FREE asks -/
def RelG (w d l : Int) (c r : Mem) : Prop := dimM r w d l ∧ r 54 26 = c 9 14 ∧ (∀ n : Int, (0 ≤ n ∧ n < c 9 14) → r 61 n = c 11 n ∧ r 59 (r 61 n) = c 10 (c 11 n * 5 + 3) ∧ r 60 (r 61 n) = c 10 (c 11 n * 5 + 4)) ∧ (∀ x, inC w d l x → r 71 (cR w d x) = c 15 x) ∧ (∀ n x : Int, (0 ≤ n ∧ n < 8) → inC w d l x → (0 ≤ r 72 (324 * n + cR w d x) ∧ r 72 (324 * n + cR w d x) < 8) ∧ ((bt (r 72 (324 * n + cR w d x)) 0 = true ∨ bt (r 72 (324 * n + cR w d x)) 2 = true) ↔ bt (c 16 x) n.toNat = true) ∧ (bt (r 72 (324 * n + cR w d x)) 1 = true ↔ bt (c 17 x) n.toNat = true))
theorem and75 {v : Int} (h : 0 ≤ v ∧ v < 8) : (kand v 7 ≠ 0 ↔ (bt v 0 = true ∨ bt v 2 = true) ∨ bt v 1 = true) ∧ (kand v 5 ≠ 0 ↔ (bt v 0 = true ∨ bt v 2 = true)) := by
  have : ∀ i : Fin 8, (kand (i.val : Int) 7 ≠ 0 ↔ (bt (i.val : Int) 0 = true ∨ bt (i.val : Int) 2 = true) ∨ bt (i.val : Int) 1 = true) ∧ (kand (i.val : Int) 5 ≠ 0 ↔ (bt (i.val : Int) 0 = true ∨ bt (i.val : Int) 2 = true)) := by decide +kernel
  have h2 := this ⟨v.toNat, by omega⟩
  simp only [Int.toNat_of_nonneg h.1] at h2
  exact h2
theorem cnt_cuT {w d l : Int} {c r : Mem} (hr : RelG w d l c r) {n x : Int} (hn : 0 ≤ n ∧ n < 8) (hx : inC w d l x) : cnt r n (cR w d x) ↔ cuT (cntT r) c n x := by
  obtain ⟨-, -, -, -, h72⟩ := hr
  obtain ⟨h1, h2, h3⟩ := h72 n x hn hx
  unfold cnt cuT
  rw [(and75 h1).1, (and75 h1).2, h2, h3]
  by_cases hT : cntT r n
  · exact ⟨fun q => q.elim (fun q => q.2.elim Or.inl (fun z => Or.inr ⟨hT, z⟩)) (fun q => absurd hT q.1), fun q => Or.inl ⟨hT, q.elim Or.inl (fun z => Or.inr z.2)⟩⟩
  · exact ⟨fun q => q.elim (fun q => absurd q.1 hT) (fun q => Or.inl q.2), fun q => q.elim (fun q => Or.inr ⟨hT, q⟩) (fun q => absurd q.1 hT)⟩
theorem near_boxT {w d l : Int} {c r : Mem} (hD : okD w d l) (hr : RelG w d l c r) {o x f : Int} (ho : 0 ≤ o ∧ o < 8) (hx : inC w d l x) : near w d r o (cR w d x) f ↔ ∃ y : Int, inC w d l y ∧ cuT (cntT r) c o y ∧ box w d l y f x := by
  have hg := cR_geo hD hx
  have hz := gZ_in hD hx
  unfold near
  rw [hg.2.1, hg.2.2.1, hg.2.2.2]
  constructor
  · rintro ⟨a, b, h1, h2, h3⟩
    have hi := ix_in (w := w) (d := d) (l := l) h1.1 h2.1 hz
    rw [← cR_ix (l := l) h1.1 h2.1, cnt_cuT hr ho hi] at h3
    refine ⟨_, hi, h3, hx, (ix_Z h1.1 h2.1).symm, ?_, ?_⟩
    · rw [ix_X h1.1]; omega
    · rw [ix_Y h1.1 h2.1]; omega
  · rintro ⟨y, h1, h2, -, h3, h4, h5⟩
    have q1 := gX_in (c := y) hD
    have q2 := gY_in (c := y) hD
    refine ⟨gX w y, gY w d y, ⟨q1, by omega⟩, ⟨q2, by omega⟩, ?_⟩
    have e : 81 * gZ w d x + 9 * gY w d y + gX w y = cR w d y := by unfold cR; rw [h3]
    rw [e, cnt_cuT hr ho h1]
    exact h2
theorem frR_frT {w d l : Int} {c r : Mem} (hD : okD w d l) (hs : srt c) (hr : RelG w d l c r) {n t x : Int} (hn : 0 ≤ n ∧ n < c 9 14) (hx : inC w d l x) : frR w d r n (cR w d x) t ↔ frT w d l (cntT r) c n t x := by
  have hg := cR_geo hD hx
  have hz := gZ_in hD hx
  have ha := hs.1
  obtain ⟨-, -, l1, l2⟩ := id hD
  obtain ⟨hdim, h26, hso, h71, -⟩ := id hr
  unfold frR frT
  rw [cnt_cuT hr (by omega) hx, h71 x hx, hg.2.2.2, (hso n hn).2.2, k_ask_ne (by omega) (by omega), h26]
  have hap : ∀ o : Int, (0 ≤ o ∧ o < c 9 14) → aptR r n o = aptC c n o := fun o ho => by unfold aptR aptC; rw [(hso n hn).2.1, (hso o ho).2.1]
  constructor
  · rintro (h | ⟨h1, h2, h3⟩)
    · exact Or.inl h
    · refine Or.inr ⟨h1, h2, fun o ho hon => ?_⟩
      rw [← near_boxT hD hr (by omega) hx, ← hap o ho]
      exact h3 o ho hon
  · rintro (h | ⟨h1, h2, h3⟩)
    · exact Or.inl h
    · refine Or.inr ⟨h1, h2, fun o ho hon => ?_⟩
      rw [near_boxT hD hr (by omega) hx, hap o ho]
      exact h3 o ho hon
/-- the reference's isFree, told of the class's memory -/
theorem c_X12_isFreeT (X : Xv) (c m : Mem) {w d l : Int} (hD : okD w d l) (hs : srt c) (hr : RelG w d l c m) (n x t : Int) (hn : 0 ≤ n ∧ n < c 9 14) (hx : inC w d l x) : kCall (eX X) 3 M_X12_isFree.1 [vR 54, vI n, vI (cR w d x), vI t] m (bP (frT w d l (cntT m) c n t x) m) := by
  have ha := hs.1
  have h26 := hr.2.1
  refine kCall_mono (c_X12_isFree X m hr.1 n _ t (by omega) (by omega) (cR_in hD hx).1 (fun o ho => ?_)) (Nat.le_refl _) ?_
  · rw [h26] at ho
    have h1 := hr.2.2.1 o ho
    have h2 := hs.2 o ho
    rw [h1.2.1, h1.1]
    exact ⟨⟨h2.1.1, by omega⟩, h2.2⟩
  · rintro _ m' ⟨hp, rfl⟩
    rw [frR_frT hD hs hr hn hx] at hp
    exact ⟨hp, rfl⟩
