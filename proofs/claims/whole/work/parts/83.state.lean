/-! the state: what the class's memory tells, when it is in order, and that the reference's stands for it -/
/-- classes, nets and their ranks -/
def WFs (c : Mem) : Prop := (0 ≤ c 9 13 ∧ c 9 13 ≤ 6) ∧ (0 ≤ c 9 14 ∧ c 9 14 ≤ 8) ∧
  (∀ s : Int, (0 ≤ s ∧ s < c 9 13) → (1 ≤ c 10 (s * 5) ∧ c 10 (s * 5) ≤ 9) ∧ (0 ≤ c 10 (s * 5 + 1) ∧ c 10 (s * 5 + 1) ≤ 99) ∧ (0 ≤ c 10 (s * 5 + 2) ∧ c 10 (s * 5 + 2) ≤ 99) ∧ (0 ≤ c 10 (s * 5 + 3) ∧ c 10 (s * 5 + 3) ≤ 2) ∧ (0 ≤ c 10 (s * 5 + 4) ∧ c 10 (s * 5 + 4) < 16)) ∧
  (∀ n : Int, (0 ≤ n ∧ n < c 9 14) → 0 ≤ c 11 n ∧ c 11 n < c 9 13) ∧ (∀ n : Int, (0 ≤ n ∧ n < 8) → 0 ≤ c 12 n ∧ c 12 n ≤ 99)
/-- pins -/
def WFp (w d l : Int) (c : Mem) : Prop := (∀ n : Int, (0 ≤ n ∧ n < 8) → (0 ≤ c 13 n ∧ c 13 n ≤ 4) ∧ (c 9 14 ≤ n → c 13 n = 0)) ∧
  (∀ n p : Int, (0 ≤ n ∧ n < 8) → (0 ≤ p ∧ p < c 13 n) → inC w d l (c 14 (n * 4 + p))) ∧
  (∀ n p n' p' : Int, (0 ≤ n ∧ n < 8) → (0 ≤ p ∧ p < c 13 n) → (0 ≤ n' ∧ n' < 8) → (0 ≤ p' ∧ p' < c 13 n') → c 14 (n * 4 + p) = c 14 (n' * 4 + p') → n = n' ∧ p = p')
/-- a pin of a net in a cell -/
def pinT (c : Mem) (n x : Int) : Prop := ∃ p : Int, (0 ≤ p ∧ p < c 13 n) ∧ c 14 (n * 4 + p) = x
/-- a net's moves, and its bits of copper -/
def WFn (w d l : Int) (c : Mem) (n : Int) : Prop := (∀ x : Int, inC w d l x → ((0 ≤ c 18 (n * (w * d * l) + x) ∧ c 18 (n * (w * d * l) + x) < 64) ∧ (0 ≤ c 19 (n * (w * d * l) + x) ∧ c 19 (n * (w * d * l) + x) < 64)) ∧
  (∀ k : Int, (0 ≤ k ∧ k < 6) → nx w d l x k = -1 → bt (c 18 (n * (w * d * l) + x)) k.toNat = false ∧ bt (c 19 (n * (w * d * l) + x)) k.toNat = false) ∧
  (bt (c 17 x) n.toNat = true ↔ c 19 (n * (w * d * l) + x) ≠ 0) ∧ (bt (c 16 x) n.toNat = true ↔ c 18 (n * (w * d * l) + x) ≠ 0 ∨ pinT c n x)) ∧
  (c 9 14 ≤ n → ∀ x : Int, inC w d l x → c 18 (n * (w * d * l) + x) = 0 ∧ c 19 (n * (w * d * l) + x) = 0)
/-- all that lasts is in order -/
def WF (w d l : Int) (c : Mem) : Prop := WFs c ∧ WFp w d l c ∧ (∀ n : Int, (0 ≤ n ∧ n < 8) → WFn w d l c n) ∧ (∀ x : Int, inC w d l x → (0 ≤ c 16 x ∧ c 16 x < 256) ∧ (0 ≤ c 17 x ∧ c 17 x < 256)) ∧
  (∀ x : Int, c 15 x = 0 ∨ c 15 x = 1) ∧ ((0 ≤ c 6 3 ∧ c 6 3 ≤ 80) ∧ ∀ i : Int, (0 ≤ i ∧ i < c 6 3) → 1 ≤ c 7 i ∧ c 7 i ≤ 255) ∧ (∀ j : Int, (0 ≤ j ∧ j ≤ l) → 0 ≤ c 47 j ∧ c 47 j ≤ 99)
/-- what never changes in the class, and what is at rest -/
def Cst (w d l : Int) (N : Int) (m : Mem) : Prop := m 6 0 = l ∧ (∀ i : Int, (0 ≤ i ∧ i < N) → m 31 i = 0)
/-- the reference's numbers that aren't moves or copper -/
def RRs (w d l : Int) (c r : Mem) : Prop := dimM r w d l ∧ (r 54 5 = c 6 3 ∧ ∀ i : Int, (0 ≤ i ∧ i < c 6 3) → r 55 i = c 7 i) ∧
  (r 54 13 = c 9 13 ∧ ∀ s : Int, (0 ≤ s ∧ s < c 9 13) → r 56 s = c 10 (s * 5) ∧ r 57 s = c 10 (s * 5 + 1) ∧ r 58 s = c 10 (s * 5 + 2) ∧ r 59 s = c 10 (s * 5 + 3) ∧ r 60 s = c 10 (s * 5 + 4)) ∧
  (r 54 26 = c 9 14 ∧ ∀ n : Int, (0 ≤ n ∧ n < c 9 14) → r 61 n = c 11 n) ∧
  (∀ n : Int, (0 ≤ n ∧ n < 8) → r 62 n = c 12 n ∧ r 63 n = c 13 n ∧ ∀ p : Int, (0 ≤ p ∧ p < c 13 n) → r 64 (4 * n + p) = cR w d (c 14 (n * 4 + p))) ∧
  ((∀ x : Int, inC w d l x → r 71 (cR w d x) = c 15 x) ∧ ∀ j : Int, r 71 j = 0 ∨ r 71 j = 1) ∧
  (r 88 4 = c 47 0 ∧ ∀ k : Int, (0 ≤ k ∧ k < l) → r 88 k = c 47 (k + 1))
/-- one trace behind another, from a cell on, none through a cell twice -/
def CH (f t : Int → Int) (q a : Int) : Prop := (0 < q → f 0 = a) ∧ (∀ i : Int, 0 ≤ i → i + 1 < q → t i = f (i + 1)) ∧ (∀ i j : Int, (0 ≤ i ∧ i < j ∧ j < q) → f i ≠ f j) ∧ ∀ i : Int, (0 ≤ i ∧ i < q) → f i ≠ t (q - 1)
/-- a net's lists and copper in the reference -/
def RRn (w d l : Int) (c r : Mem) (n : Int) : Prop := LT w d l (fun i => r 66 (1200 * n + i)) (fun i => r 67 (1200 * n + i)) (r 65 n) (fun x => c 18 (n * (w * d * l) + x)) ∧ (∀ i : Int, (0 ≤ i ∧ i < r 65 n) → r 66 (1200 * n + i) < r 67 (1200 * n + i)) ∧
  LT w d l (fun i => r 69 (2400 * n + i)) (fun i => r 70 (2400 * n + i)) (r 68 n) (fun x => c 19 (n * (w * d * l) + x)) ∧
  ((c 13 n ≤ 1 → r 68 n = 0) ∧ (c 13 n = 2 → CH (fun i => r 69 (2400 * n + i)) (fun i => r 70 (2400 * n + i)) (r 68 n) (cR w d (c 14 (n * 4 + 1))))) ∧
  (∀ x : Int, inC w d l x → (0 ≤ r 72 (324 * n + cR w d x) ∧ r 72 (324 * n + cR w d x) < 4) ∧ (bt (r 72 (324 * n + cR w d x)) 0 = true ↔ bt (c 16 x) n.toNat = true) ∧ (bt (r 72 (324 * n + cR w d x)) 1 = true ↔ bt (c 17 x) n.toNat = true)) ∧
  ∀ j : Int, (0 ≤ j ∧ j < 324) → ¬ inRf w d l j → r 72 (324 * n + j) = 0
/-- the reference's objects in r stand for the class's in c -/
def RR (w d l : Int) (c r : Mem) : Prop := RRs w d l c r ∧ (∀ n : Int, (0 ≤ n ∧ n < 8) → RRn w d l c r n) ∧ r 54 28 = 0 ∧ r 54 30 = 0
/-- the same in all that lasts -/
def Es (c m : Mem) : Prop := m 6 3 = c 6 3 ∧ m 7 = c 7 ∧ m 9 = c 9 ∧ m 10 = c 10 ∧ m 11 = c 11 ∧ m 12 = c 12 ∧ m 13 = c 13 ∧ m 14 = c 14 ∧ m 15 = c 15 ∧ m 16 = c 16 ∧ m 17 = c 17 ∧ m 18 = c 18 ∧ m 19 = c 19 ∧ m 47 = c 47
theorem Es_rf {c : Mem} : Es c c := ⟨rfl, rfl, rfl, rfl, rfl, rfl, rfl, rfl, rfl, rfl, rfl, rfl, rfl, rfl⟩
theorem Es_of {c m : Mem} (h : ∀ o, (6 ≤ o ∧ o ≤ 19 ∧ o ≠ 8) ∨ o = 47 → m o = c o) : Es c m := ⟨by rw [h 6 (by omega)], h 7 (by omega), h 9 (by omega), h 10 (by omega), h 11 (by omega), h 12 (by omega), h 13 (by omega), h 14 (by omega), h 15 (by omega), h 16 (by omega), h 17 (by omega), h 18 (by omega), h 19 (by omega), h 47 (by omega)⟩
theorem Es_tr {a b c : Mem} (h : Es a b) (h' : Es b c) : Es a c := by
  obtain ⟨a1, a2, a3, a4, a5, a6, a7, a8, a9, a10, a11, a12, a13, a14⟩ := h
  obtain ⟨b1, b2, b3, b4, b5, b6, b7, b8, b9, b10, b11, b12, b13, b14⟩ := h'
  exact ⟨b1.trans a1, b2.trans a2, b3.trans a3, b4.trans a4, b5.trans a5, b6.trans a6, b7.trans a7, b8.trans a8, b9.trans a9, b10.trans a10, b11.trans a11, b12.trans a12, b13.trans a13, b14.trans a14⟩
theorem WF_es {w d l : Int} {c m : Mem} (h : Es c m) (hw : WF w d l c) : WF w d l m := by
  obtain ⟨a1, a2, a3, a4, a5, a6, a7, a8, a9, a10, a11, a12, a13, a14⟩ := h
  unfold WF WFs WFp WFn pinT at hw ⊢
  rw [a1, a2, a3, a4, a5, a6, a7, a8, a9, a10, a11, a12, a13, a14]
  exact hw
theorem RR_es {w d l : Int} {c m r : Mem} (h : Es c m) (hw : RR w d l c r) : RR w d l m r := by
  obtain ⟨a1, a2, a3, a4, a5, a6, a7, a8, a9, a10, a11, a12, a13, a14⟩ := h
  unfold RR RRs RRn at hw ⊢
  rw [a1, a2, a3, a4, a5, a6, a7, a8, a9, a10, a11, a12, a13, a14]
  exact hw
theorem RR_ref {w d l : Int} {c r r' : Mem} (h : ∀ o, 54 ≤ o → o ≤ 72 ∨ o = 88 → r' o = r o) (hw : RR w d l c r) : RR w d l c r' := by
  have e : ∀ o, 54 ≤ o → o ≤ 72 → r' o = r o := fun o h1 h2 => h o h1 (Or.inl h2)
  unfold RR RRs RRn dimM fld at hw ⊢
  rw [e 54 (by decide) (by decide), e 55 (by decide) (by decide), e 56 (by decide) (by decide), e 57 (by decide) (by decide), e 58 (by decide) (by decide), e 59 (by decide) (by decide), e 60 (by decide) (by decide), e 61 (by decide) (by decide), e 62 (by decide) (by decide), e 63 (by decide) (by decide), e 64 (by decide) (by decide), e 65 (by decide) (by decide), e 66 (by decide) (by decide), e 67 (by decide) (by decide), e 68 (by decide) (by decide), e 69 (by decide) (by decide), e 70 (by decide) (by decide), e 71 (by decide) (by decide), e 72 (by decide) (by decide), h 88 (by decide) (Or.inr rfl)]
  exact hw
theorem WF_srt {w d l : Int} {c : Mem} (h : WF w d l c) : srt c := by
  obtain ⟨⟨h1, h2, h3, h4, -⟩, -⟩ := h
  refine ⟨h2, fun o ho => ?_⟩
  have a := h4 o ho
  have b := h3 (c 11 o) a
  exact ⟨by omega, b.2.2.2.1⟩
theorem k_bit4 {v : Int} (h : 0 ≤ v ∧ v < 4) : (0 ≤ v ∧ v < 8) ∧ bt v 2 = false := ⟨by omega, bt_small (n := 2) (k_in_lit (by omega)) h.1 (by show v < ((2 ^ 2 : Nat) : Int); omega) (by decide)⟩
theorem RR_RelG {w d l : Int} {c r : Mem} (h : WF w d l c) (hr : RR w d l c r) : RelG w d l c r := by
  obtain ⟨⟨h1, h2, h3, h4, -⟩, -⟩ := h
  obtain ⟨⟨r1, -, ⟨-, r3⟩, ⟨r4, r5⟩, -, ⟨r6, -⟩, -⟩, hn, -⟩ := hr
  refine ⟨r1, r4, fun n hnn => ?_, r6, fun n x hnn hx => ?_⟩
  · have a := h4 n hnn
    have b := r3 (c 11 n) a
    exact ⟨r5 n hnn, by rw [r5 n hnn]; exact b.2.2.2.1, by rw [r5 n hnn]; exact b.2.2.2.2⟩
  · obtain ⟨-, -, -, -, h72, -⟩ := hn n hnn
    obtain ⟨v1, v2, v3⟩ := h72 x hx
    have := k_bit4 v1
    exact ⟨this.1, by rw [this.2, ← v2]; simp, v3⟩
theorem RR_cntT {w d l : Int} {c r : Mem} (hr : RR w d l c r) {n : Int} (hn : 0 ≤ n ∧ n < 8) : cntT r n := ⟨by rw [hr.2.2.1, k_ask0 (by omega) (by omega), bt_zero], Or.inl hr.2.2.2⟩
