/-! rows of moves: what they cost, the least, the first of the least -/
theorem nat_least {P : Nat → Prop} (h : ∃ n, P n) : ∃ n, P n ∧ ∀ m, P m → n ≤ m := by
  obtain ⟨n, hn⟩ := h
  have H : ∀ n, P n → ∃ n, P n ∧ ∀ m, P m → n ≤ m := by
    intro n
    induction n using Nat.strongRecOn with
    | ind n ih =>
      intro hn
      by_cases hm : ∃ m, P m ∧ m < n
      · obtain ⟨m, h1, h2⟩ := hm
        exact ih m h2 h1
      · exact ⟨n, hn, fun m hm' => Decidable.byContradiction (fun z => hm ⟨m, hm', by omega⟩)⟩
  exact H n hn
/-- no more different numbers below N than N -/
theorem pigeon : ∀ (N : Nat) (L : List Int), L.Nodup → (∀ x ∈ L, 0 ≤ x ∧ x < (N : Int)) → L.length ≤ N := by
  intro N
  induction N with
  | zero =>
    intro L _ h
    cases L with
    | nil => exact Nat.le_refl _
    | cons a L => have := h a List.mem_cons_self; omega
  | succ N ih =>
    intro L hL h
    have h1 := ih (L.filter (fun x => decide (x ≠ (N : Int)))) (hL.filter _) (fun x hx => by
      rw [List.mem_filter] at hx
      have := h x hx.1
      have h2 : x ≠ (N : Int) := of_decide_eq_true hx.2
      omega)
    have h3 : L.length ≤ (L.filter (fun x => decide (x ≠ (N : Int)))).length + 1 := by
      clear h1 h ih
      induction L with
      | nil => simp
      | cons a L ihL =>
        rw [List.nodup_cons] at hL
        by_cases ha : a = (N : Int)
        · have hf : L.filter (fun x => decide (x ≠ (N : Int))) = L := by
            rw [List.filter_eq_self]
            intro x hx
            refine decide_eq_true (fun z => hL.1 ?_)
            rw [ha, ← z]; exact hx
          rw [List.filter_cons_of_neg (by simp [ha]), hf]
          simp
        · rw [List.filter_cons_of_pos (by simp [ha])]
          have := ihL hL.2
          simp only [List.length_cons]
          omega
    omega
section ROWS
variable (w d l mv : Int) (F J : Int → Prop) (cs : Int → Int → Int) (be : Int)
/-- the direction of the latest step behind a move -/
def dr (dir k : Int) : Int := if k < 4 then k else dir
/-- what a move costs -/
def wt (dir k y : Int) : Int := cs k y + (if k < 4 ∧ dir < 4 ∧ dir ≠ k then be else 0)
/-- a row of moves from a cell to a joined one -/
def row : List Int → Int → Int → Int → Prop
  | [], x, _, C => J x ∧ C = 0
  | k :: ks, x, dir, C => ¬ J x ∧ F x ∧ (0 ≤ k ∧ k < mv) ∧ nx w d l x k ≠ -1 ∧ row ks (nx w d l x k) (dr dir k) (C - wt cs be dir k (nx w d l x k))
def lx (C : Int) (n : Nat) (C' : Int) (n' : Nat) : Prop := C < C' ∨ (C = C' ∧ n ≤ n')
/-- the least of all rows -/
def Ls (x dir C : Int) (n : Nat) : Prop := (∃ ks : List Int, ks.length = n ∧ row w d l mv F J cs be ks x dir C) ∧ ∀ (ks : List Int) (C' : Int), row w d l mv F J cs be ks x dir C' → lx C n C' ks.length
/-- the cells behind the first -/
def vis : List Int → Int → List Int
  | [], _ => []
  | k :: ks, x => nx w d l x k :: vis ks (nx w d l x k)
/-- a move that loses nothing -/
def lds (x dir k : Int) : Prop := (0 ≤ k ∧ k < mv) ∧ nx w d l x k ≠ -1 ∧ ∃ (C : Int) (n : Nat) (C' : Int) (n' : Nat), Ls w d l mv F J cs be x dir C n ∧ Ls w d l mv F J cs be (nx w d l x k) (dr dir k) C' n' ∧ C = C' + wt cs be dir k (nx w d l x k) ∧ n = n' + 1
/-- the first of the least rows -/
def pth : List Int → Int → Int → Prop
  | [], x, _ => J x
  | k :: ks, x, dir => ¬ J x ∧ lds w d l mv F J cs be x dir k ∧ (∀ j, 0 ≤ j → j < k → ¬ lds w d l mv F J cs be x dir j) ∧ pth ks (nx w d l x k) (dr dir k)
end ROWS
section ROWT
variable {w d l mv : Int} {F J : Int → Prop} {cs : Int → Int → Int} {be : Int}
theorem wt_in (hcs : ∀ k y, 0 ≤ cs k y) (hbe : 0 ≤ be) (dir k y : Int) : 0 ≤ wt cs be dir k y ∧ cs k y ≤ wt cs be dir k y ∧ wt cs be dir k y ≤ cs k y + be := by
  have := hcs k y
  unfold wt
  split <;> omega
theorem row_ge (hcs : ∀ k y, 0 ≤ cs k y) (hbe : 0 ≤ be) : ∀ {ks : List Int} {x dir C : Int}, row w d l mv F J cs be ks x dir C → 0 ≤ C
  | [], _, _, _, h => by rw [h.2]; exact Int.le_refl _
  | k :: ks, x, dir, C, h => by
    have h1 := row_ge hcs hbe h.2.2.2.2
    have h2 := (wt_in hcs hbe dir k (nx w d l x k)).1
    omega
theorem Ls_one {x dir C C' : Int} {n n' : Nat} (h : Ls w d l mv F J cs be x dir C n) (h' : Ls w d l mv F J cs be x dir C' n') : C = C' ∧ n = n' := by
  obtain ⟨⟨ks, e1, r1⟩, m1⟩ := h
  obtain ⟨⟨ks', e2, r2⟩, m2⟩ := h'
  have a := m1 _ _ r2
  have b := m2 _ _ r1
  unfold lx at a b
  rw [e2] at a
  rw [e1] at b
  omega
theorem Ls_ex (hcs : ∀ k y, 0 ≤ cs k y) (hbe : 0 ≤ be) {ks : List Int} {x dir C : Int} (h : row w d l mv F J cs be ks x dir C) : ∃ C n, Ls w d l mv F J cs be x dir C n := by
  obtain ⟨C0, ⟨ks0, h0⟩, hm⟩ := nat_least (P := fun c => ∃ ks, row w d l mv F J cs be ks x dir (c : Int)) ⟨C.toNat, ks, by rw [Int.toNat_of_nonneg (row_ge hcs hbe h)]; exact h⟩
  obtain ⟨n0, ⟨ks1, e1, h1⟩, hn⟩ := nat_least (P := fun n => ∃ ks : List Int, ks.length = n ∧ row w d l mv F J cs be ks x dir (C0 : Int)) ⟨ks0.length, ks0, rfl, h0⟩
  refine ⟨(C0 : Int), n0, ⟨ks1, e1, h1⟩, fun ks' C' h' => ?_⟩
  have hp := row_ge hcs hbe h'
  have e : ((C'.toNat : Nat) : Int) = C' := Int.toNat_of_nonneg hp
  have a := hm C'.toNat ⟨ks', by rw [e]; exact h'⟩
  by_cases hc : C' = (C0 : Int)
  · right
    rw [hc] at h'
    exact ⟨hc.symm, hn _ ⟨ks', rfl, h'⟩⟩
  · left
    omega
/-- a row from the same cell with another direction behind it -/
theorem row_dir (hbe : 0 ≤ be) : ∀ {ks : List Int} {x dir C : Int} (dir' : Int), row w d l mv F J cs be ks x dir C → ∃ C', row w d l mv F J cs be ks x dir' C' ∧ C' ≤ C + be ∧ (4 ≤ dir' → C' ≤ C)
  | [], x, dir, C, dir', h => ⟨C, h, by omega, fun _ => Int.le_refl _⟩
  | k :: ks, x, dir, C, dir', h => by
    obtain ⟨h1, h2, h3, h4, h5⟩ := h
    by_cases hk : k < 4
    · have e : dr dir' k = dr dir k := by unfold dr; rw [if_pos hk, if_pos hk]
      refine ⟨C - wt cs be dir k (nx w d l x k) + wt cs be dir' k (nx w d l x k), ⟨h1, h2, h3, h4, ?_⟩, ?_, fun h4' => ?_⟩
      · rw [e, show C - wt cs be dir k (nx w d l x k) + wt cs be dir' k (nx w d l x k) - wt cs be dir' k (nx w d l x k) = C - wt cs be dir k (nx w d l x k) by omega]
        exact h5
      · unfold wt
        split <;> split <;> omega
      · unfold wt
        rw [if_neg (by omega : ¬ (k < 4 ∧ dir' < 4 ∧ dir' ≠ k))]
        split <;> omega
    · have e : ∀ q, dr q k = q := fun q => by unfold dr; rw [if_neg hk]
      have ew : ∀ q, wt cs be q k (nx w d l x k) = cs k (nx w d l x k) := fun q => by unfold wt; rw [if_neg (fun z => hk z.1)]; omega
      rw [e, ew] at h5
      obtain ⟨C', g1, g2, g3⟩ := row_dir hbe dir' h5
      refine ⟨C' + cs k (nx w d l x k), ⟨h1, h2, h3, h4, ?_⟩, by omega, fun q => by have := g3 q; omega⟩
      rw [e, ew, show C' + cs k (nx w d l x k) - cs k (nx w d l x k) = C' by omega]
      exact g1
/-- the rest of a least row is least -/
theorem Ls_tail {x dir C k : Int} {ks : List Int} (h : Ls w d l mv F J cs be x dir C (ks.length + 1)) (hr : row w d l mv F J cs be (k :: ks) x dir C) : Ls w d l mv F J cs be (nx w d l x k) (dr dir k) (C - wt cs be dir k (nx w d l x k)) ks.length := by
  obtain ⟨h1, h2, h3, h4, h5⟩ := hr
  refine ⟨⟨ks, rfl, h5⟩, fun ks' C' h' => ?_⟩
  have := h.2 (k :: ks') (C' + wt cs be dir k (nx w d l x k)) ⟨h1, h2, h3, h4, by rw [show C' + wt cs be dir k (nx w d l x k) - wt cs be dir k (nx w d l x k) = C' by omega]; exact h'⟩
  unfold lx at this ⊢
  simp only [List.length_cons] at this
  omega
theorem row_cut (hcs : ∀ k y, 0 ≤ cs k y) (hbe : 0 ≤ be) : ∀ {ks : List Int} {x dir C y : Int}, row w d l mv F J cs be ks x dir C → y ∈ vis w d l ks x → ∃ (ks2 : List Int) (d2 C2 : Int), row w d l mv F J cs be ks2 y d2 C2 ∧ ks2.length < ks.length ∧ C2 ≤ C ∧ (dir < 4 → d2 ≠ dir → C2 + be ≤ C)
  | [], x, dir, C, y, h, hy => by simp [vis] at hy
  | k :: ks, x, dir, C, y, h, hy => by
    obtain ⟨h1, h2, h3, h4, h5⟩ := h
    have hw := wt_in hcs hbe dir k (nx w d l x k)
    have hb : dir < 4 → dr dir k ≠ dir → be ≤ wt cs be dir k (nx w d l x k) := by
      intro q1 q2
      have := hcs k (nx w d l x k)
      unfold dr at q2
      unfold wt
      split at q2
      · rw [if_pos ⟨by assumption, q1, fun z => q2 z.symm⟩]; omega
      · exact absurd rfl q2
    rcases List.mem_cons.mp hy with rfl | hy
    · exact ⟨ks, dr dir k, _, h5, by simp, by omega, fun q1 q2 => by have := hb q1 q2; omega⟩
    · obtain ⟨ks2, d2, C2, g1, g2, g3, g4⟩ := row_cut hcs hbe h5 hy
      refine ⟨ks2, d2, C2, g1, by simp only [List.length_cons]; omega, by omega, fun q1 q2 => ?_⟩
      by_cases hd : dr dir k = dir
      · rw [hd] at g4
        have := g4 q1 q2
        omega
      · have := hb q1 hd
        omega
theorem Ls_fresh (hcs : ∀ k y, 0 ≤ cs k y) (hbe : 0 ≤ be) {ks : List Int} {x dir C : Int} (h : Ls w d l mv F J cs be x dir C ks.length) (hr : row w d l mv F J cs be ks x dir C) : x ∉ vis w d l ks x := by
  intro hx
  obtain ⟨ks2, d2, C2, g1, g2, g3, g4⟩ := row_cut hcs hbe hr hx
  obtain ⟨C', r1, r2, r3⟩ := row_dir hbe dir g1
  by_cases hd : d2 = dir
  · subst hd
    have := h.2 _ _ g1
    unfold lx at this
    omega
  · have := h.2 _ _ r1
    unfold lx at this
    by_cases h4 : dir < 4
    · have := g4 h4 hd
      omega
    · have := r3 (by omega)
      omega
/-- a least row comes to no cell twice -/
theorem Ls_nodup (hcs : ∀ k y, 0 ≤ cs k y) (hbe : 0 ≤ be) : ∀ {ks : List Int} {x dir C : Int}, Ls w d l mv F J cs be x dir C ks.length → row w d l mv F J cs be ks x dir C → (x :: vis w d l ks x).Nodup
  | [], x, dir, C, _, _ => by simp [vis]
  | k :: ks, x, dir, C, h, hr => by
    have h1 := Ls_tail h hr
    have h2 := Ls_nodup hcs hbe h1 hr.2.2.2.2
    rw [List.nodup_cons]
    exact ⟨Ls_fresh hcs hbe h hr, h2⟩
theorem vis_len : ∀ (ks : List Int) (x : Int), (vis w d l ks x).length = ks.length
  | [], _ => rfl
  | k :: ks, x => by simp [vis, vis_len ks]
theorem vis_in : ∀ {ks : List Int} {x dir C y : Int}, row w d l mv F J cs be ks x dir C → y ∈ vis w d l ks x → inC w d l y
  | [], x, dir, C, y, _, hy => by simp [vis] at hy
  | k :: ks, x, dir, C, y, h, hy => by
    rcases List.mem_cons.mp hy with rfl | hy
    · exact (nx_in h.2.2.2.1).1
    · exact vis_in h.2.2.2.2 hy
theorem Ls_short (hcs : ∀ k y, 0 ≤ cs k y) (hbe : 0 ≤ be) (hD : okD w d l) {x dir C : Int} {n : Nat} (hx : inC w d l x) (h : Ls w d l mv F J cs be x dir C n) : n < 324 := by
  obtain ⟨ks, rfl, hr⟩ := h.1
  have h1 := Ls_nodup hcs hbe h hr
  have hc := okD_cells hD
  have h2 := pigeon 324 _ h1 (fun y hy => by
    have : inC w d l y := by
      rcases List.mem_cons.mp hy with rfl | hy
      · exact hx
      · exact vis_in hr hy
    obtain ⟨a, b⟩ := this
    omega)
  simp only [List.length_cons, vis_len] at h2
  omega
theorem row_le {B : Int} (hcs : ∀ k y, 0 ≤ cs k y) (hbe : 0 ≤ be) (hB : ∀ k y, cs k y + be ≤ B) : ∀ {ks : List Int} {x dir C : Int}, row w d l mv F J cs be ks x dir C → C ≤ B * (ks.length : Int)
  | [], x, dir, C, h => by rw [h.2]; simp
  | k :: ks, x, dir, C, h => by
    have h1 := row_le hcs hbe hB h.2.2.2.2
    have h2 := (wt_in hcs hbe dir k (nx w d l x k)).2.2
    have h3 := hB k (nx w d l x k)
    simp only [List.length_cons]
    rw [Int.natCast_add, Int.mul_add]
    omega
theorem Ls_le {B : Int} (hcs : ∀ k y, 0 ≤ cs k y) (hbe : 0 ≤ be) (hB : ∀ k y, cs k y + be ≤ B) (hD : okD w d l) {x dir C : Int} {n : Nat} (hx : inC w d l x) (h : Ls w d l mv F J cs be x dir C n) : (0 ≤ C ∧ C ≤ B * 324) ∧ n < 324 := by
  have h1 := Ls_short hcs hbe hD hx h
  obtain ⟨ks, rfl, hr⟩ := h.1
  have h2 := row_le hcs hbe hB hr
  have h3 := row_ge hcs hbe hr
  have h4 : 0 ≤ B := by have := hB 0 0; have := hcs 0 0; omega
  have h5 : B * (ks.length : Int) ≤ B * 324 := Int.mul_le_mul_of_nonneg_left (by omega) h4
  exact ⟨⟨h3, by omega⟩, h1⟩
theorem Ls_J {x dir : Int} (hcs : ∀ k y, 0 ≤ cs k y) (hbe : 0 ≤ be) (hx : J x) : Ls w d l mv F J cs be x dir 0 0 := by
  refine ⟨⟨[], rfl, hx, rfl⟩, fun ks C' h => ?_⟩
  have := row_ge hcs hbe h
  unfold lx
  omega
theorem Ls_notJ {x dir C : Int} {n : Nat} (h : Ls w d l mv F J cs be x dir C n) (hx : ¬ J x) : ∃ k ks, ks.length + 1 = n ∧ row w d l mv F J cs be (k :: ks) x dir C := by
  obtain ⟨⟨ks, e, hr⟩, -⟩ := h
  cases ks with
  | nil => exact absurd hr.1 hx
  | cons k ks => exact ⟨k, ks, by simpa using e, hr⟩
theorem lds_ex {x dir C : Int} {n : Nat} (h : Ls w d l mv F J cs be x dir C n) (hx : ¬ J x) : ∃ k, lds w d l mv F J cs be x dir k := by
  obtain ⟨k, ks, e, hr⟩ := Ls_notJ h hx
  subst e
  exact ⟨k, hr.2.2.1, hr.2.2.2.1, C, _, _, _, h, Ls_tail h hr, by omega, rfl⟩
theorem pth_ex : ∀ (n : Nat) {x dir C : Int}, Ls w d l mv F J cs be x dir C n → ∃ ks, pth w d l mv F J cs be ks x dir
  | n, x, dir, C, h => by
    by_cases hx : J x
    · exact ⟨[], hx⟩
    · obtain ⟨k0, hk0⟩ := lds_ex h hx
      obtain ⟨k, hk, hm⟩ := nat_least (P := fun k : Nat => lds w d l mv F J cs be x dir (k : Int)) ⟨k0.toNat, by rw [Int.toNat_of_nonneg hk0.1.1]; exact hk0⟩
      obtain ⟨a1, a2, C1, n1, C2, n2, a3, a4, a5, a6⟩ := id hk
      obtain ⟨rfl, rfl⟩ := Ls_one h a3
      subst a6
      obtain ⟨ks, hks⟩ := pth_ex n2 a4
      refine ⟨(k : Int) :: ks, hx, hk, fun j h0 h1 z => ?_, hks⟩
      have := hm j.toNat (by rw [Int.toNat_of_nonneg h0]; exact z)
      omega
theorem pth_one : ∀ {ks ks' : List Int} {x dir : Int}, pth w d l mv F J cs be ks x dir → pth w d l mv F J cs be ks' x dir → ks = ks'
  | [], [], _, _, _, _ => rfl
  | [], k :: ks, x, dir, h, h' => absurd h h'.1
  | k :: ks, [], x, dir, h, h' => absurd h' h.1
  | k :: ks, k' :: ks', x, dir, h, h' => by
    obtain ⟨a1, a2, a3, a4⟩ := h
    obtain ⟨b1, b2, b3, b4⟩ := h'
    have e : k = k' := by
      rcases Int.lt_trichotomy k k' with q | q | q
      · exact absurd a2 (b3 k a2.1.1 q)
      · exact q
      · exact absurd b2 (a3 k' b2.1.1 q)
    subst e
    rw [pth_one a4 b4]
theorem pth_row : ∀ {ks : List Int} {x dir C : Int} {n : Nat}, pth w d l mv F J cs be ks x dir → Ls w d l mv F J cs be x dir C n → row w d l mv F J cs be ks x dir C ∧ ks.length = n
  | [], x, dir, C, n, h, hl => by
    have hx : J x := h
    have := hl.2 [] 0 ⟨hx, rfl⟩
    obtain ⟨ks, e, hr⟩ := hl.1
    cases ks with
    | nil => exact ⟨hr, e⟩
    | cons k ks => exact absurd hx hr.1
  | k :: ks, x, dir, C, n, h, hl => by
    obtain ⟨a1, ⟨b1, b2, C1, n1, C2, n2, b3, b4, b5, b6⟩, a3, a4⟩ := h
    obtain ⟨rfl, rfl⟩ := Ls_one hl b3
    obtain ⟨g1, g2⟩ := pth_row a4 b4
    obtain ⟨j, js, -, hr⟩ := Ls_notJ hl a1
    refine ⟨⟨a1, hr.2.1, b1, b2, ?_⟩, by simp only [List.length_cons]; omega⟩
    rw [b5, show C2 + wt cs be dir k (nx w d l x k) - wt cs be dir k (nx w d l x k) = C2 by omega]
    exact g1
end ROWT
