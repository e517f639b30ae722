/-! the class's room: look, mark -/
/-- others' copper of an array near to a cell, as bits -/
def nrC (w d l : Int) (m : Mem) (a : Nat) (n : Int) (o : Nat) (j i : Int) : Prop := ((o : Int) < m 9 14 ∧ (o : Int) ≠ n) ∧ ∃ c : Int, (0 ≤ c ∧ c < i) ∧ bt (m a c) o = true ∧ box w d l c (aptC m n o) j
theorem bt_nall {n : Int} (h0 : 0 ≤ n) (h1 : n < 32) {o : Nat} (ho : o < 32) : bt (kxor (kshl 1 n) (-1)) o = decide ((o : Int) ≠ n) := by
  rw [bt_xor, bt_bit h0 h1, bt_neg1 ho]
  by_cases h : (o : Int) = n <;> simp [h]
theorem c_X6_look (X : Xv) (m : Mem) {w d l : Int} (hD : okD w d l) (hn : w * d * l = (nC X : Int)) (hG : gridC m w d l) (hs : srt m) (n t : Int) (hnn : 0 ≤ n ∧ n < m 9 14) : kCall (eX X) 3 M_X6_look.1 [vR 22, vI n, vI t] m (fun r m' => r = none ∧ (∀ o, o ≠ 22 → o ≠ 23 → o ≠ 24 → o ≠ 25 → o ≠ 26 → m' o = m o) ∧ (m' 22 9 = n ∧ ∀ i, i ≠ 9 → m' 22 i = m 22 i) ∧ (∀ c, inC w d l c → m' 26 c = kand (kshr (if t = 0 then m 16 c else kor (m 16 c) (m 17 c)) n) 1) ∧ ∀ j, inC w d l j → ∀ o : Nat, (bt (m' 24 j) o = true ↔ nrC w d l m 16 n o j (nC X)) ∧ (bt (m' 25 j) o = true ↔ nrC w d l m 17 n o j (nC X))) := by
  have hcc := okD_cells hD
  have ha := hs.1
  refine kCall_ofT ok_X6_look rfl (Nat.le_of_ble_eq_true rfl) (fun T hT => ?_)
  refine kW_go ok_X6_look [1] 20 ?_
  refine kCall_mono (c_fill (eX X) (fset m 22 9 n) 24 (nC X) 0 (by decide) rfl (by omega)) (Nat.le_of_ble_eq_true rfl) ?_
  rintro _ m1 ⟨rfl, hm1⟩
  refine kCall_mono (c_fill (eX X) m1 25 (nC X) 0 (by decide) rfl (by omega)) (Nat.le_of_ble_eq_true rfl) ?_
  rintro _ m2 ⟨rfl, hm2⟩
  have e2 : ∀ o, o ≠ 22 → o ≠ 24 → o ≠ 25 → m2 o = m o := fun o h1 h2 h3 => by rw [hm2, mfill_ne h3, hm1, mfill_ne h2]; unfold fset; rw [k_mset_ne h1]
  have e22 : m2 22 9 = n ∧ ∀ i, i ≠ 9 → m2 22 i = m 22 i := by
    rw [hm2, mfill_ne (by decide), hm1, mfill_ne (by decide)]
    unfold fset
    exact ⟨by rw [k_mset_at]; exact if_pos rfl, fun i hi => by rw [k_mset_at]; exact if_neg hi⟩
  have z24 : ∀ j, inC w d l j → m2 24 j = 0 := fun j hj => by rw [hm2, mfill_ne (by decide), hm1, mfill_at, if_pos (by obtain ⟨a, b⟩ := hj; omega)]
  have z25 : ∀ j, inC w d l j → m2 25 j = 0 := fun j hj => by rw [hm2, mfill_at, if_pos (by obtain ⟨a, b⟩ := hj; omega)]
  clear hm1 hm2
  have e9 := e2 9 (by decide) (by decide) (by decide)
  have e10 := e2 10 (by decide) (by decide) (by decide)
  have e11 := e2 11 (by decide) (by decide) (by decide)
  have hap : ∀ o, aptC m2 n o = aptC m n o := fun o => by unfold aptC; rw [e10, e11]
  refine kCall_mono (c_X6_partOthers X m2 n (by unfold srt; rw [e9, e10, e11]; exact hs) (by rw [e9]; exact hnn)) (Nat.le_of_ble_eq_true rfl) ?_
  rintro _ m3 ⟨rfl, f3, hb3⟩
  have e3 : ∀ o, o ≠ 22 → o ≠ 23 → o ≠ 24 → o ≠ 25 → m3 o = m o := fun o h1 h2 h3 h4 => by rw [f3 o h2, e2 o h1 h3 h4]
  have hb3' : ∀ f : Int, (0 ≤ f ∧ f < 3) → ∀ o : Nat, bt (m3 23 f) o = true ↔ (((o : Int) < m 9 14 ∧ (o : Int) ≠ n) ∧ aptC m n o = f) := fun f hf o => by rw [hb3 f hf o, e9, hap]
  have loop : ∀ (k : Nat) (i : Int) (m' : Mem) (x5 x6 x7 : Option AV), i + k = (nC X : Int) → 0 ≤ i → (∀ o, o ≠ 24 → o ≠ 25 → o ≠ 26 → m' o = m3 o) → (∀ c, (0 ≤ c ∧ c < i) → m' 26 c = kand (kshr (if t = 0 then m 16 c else kor (m 16 c) (m 17 c)) n) 1) → (∀ j, inC w d l j → ∀ o : Nat, (bt (m' 24 j) o = true ↔ nrC w d l m 16 n o j i) ∧ (bt (m' 25 j) o = true ↔ nrC w d l m 17 n o j i)) → kW (eX X) 2 M_X6_look T 1 [some (vR 22), some (vI n), some (vI t), some (vI (kxor (kshl 1 n) (-1))), some (vI i), x5, x6, x7] [] m' := by
    intro k
    induction k with
    | zero =>
      intro i m' x5 x6 x7 hi h0 hf ho hb
      have hii : i = (nC X : Int) := by omega
      have h1 : m' 1 = m 1 := by rw [hf 1 (by decide) (by decide) (by decide), e3 1 (by decide) (by decide) (by decide) (by decide)]
      have h22 : m' 22 = m2 22 := by rw [hf 22 (by decide) (by decide) (by decide), f3 22 (by decide)]
      refine kW_go ok_X6_look [1, 3, 4] 20 ?_
      refine ⟨fun _ => hT _ _ ⟨rfl, fun o a b c' d' e' => by rw [hf o c' d' e', e3 o a b c' d'], by rw [h22]; exact e22, fun c hc => ho c (by obtain ⟨q1, q2⟩ := hc; omega), fun j hj o => by rw [← hii]; exact hb j hj o⟩, fun h => ?_⟩
      have h : i < m' 1 4 := h
      rw [h1, hG.2.2.2.2.1] at h
      omega
    | succ k ih =>
      intro i m' x5 x6 x7 hi h0 hf ho hb
      have hib : 0 ≤ i ∧ i < (nC X : Int) := by omega
      have hic : inC w d l i := ⟨by omega, by omega⟩
      have h1 : m' 1 = m 1 := by rw [hf 1 (by decide) (by decide) (by decide), e3 1 (by decide) (by decide) (by decide) (by decide)]
      have h16 : m' 16 = m 16 := by rw [hf 16 (by decide) (by decide) (by decide), e3 16 (by decide) (by decide) (by decide) (by decide)]
      have h17 : m' 17 = m 17 := by rw [hf 17 (by decide) (by decide) (by decide), e3 17 (by decide) (by decide) (by decide) (by decide)]
      have h23 : m' 23 = m3 23 := hf 23 (by decide) (by decide) (by decide)
      -- the end of a turn
      have hend : ∀ (m4 : Mem) (y5 y6 y7 : Option AV), (∀ o, o ≠ 24 → o ≠ 25 → o ≠ 26 → m4 o = m3 o) → (∀ c, (0 ≤ c ∧ c < i + 1) → m4 26 c = kand (kshr (if t = 0 then m 16 c else kor (m 16 c) (m 17 c)) n) 1) → (∀ j, inC w d l j → ∀ o : Nat, (bt (m4 24 j) o = true ↔ nrC w d l m 16 n o j (i + 1)) ∧ (bt (m4 25 j) o = true ↔ nrC w d l m 17 n o j (i + 1))) → kW (eX X) 2 M_X6_look T 4 [some (vR 22), some (vI n), some (vI t), some (vI (kxor (kshl 1 n) (-1))), some (vI i), y5, y6, y7] [] m4 := by
        intro m4 y5 y6 y7 a b c
        refine kW_go ok_X6_look [1] 20 ?_
        exact ⟨by constructor <;> omega, ih (i + 1) m4 _ _ _ (by omega) (by omega) a b c⟩
      -- from the cell's own copper on
      have hmid : ∀ mine : Int, mine = (if t = 0 then m 16 i else kor (m 16 i) (m 17 i)) → kW (eX X) 2 M_X6_look T 3 [some (vR 22), some (vI n), some (vI t), some (vI (kxor (kshl 1 n) (-1))), some (vI i), x5, x6, x7] [vI mine] m' := by
        intro mine hmine
        have hf4 : ∀ o, o ≠ 24 → o ≠ 25 → o ≠ 26 → mset m' 26 i (kand (kshr mine n) 1) o = m3 o := fun o a b c => by rw [k_mset_ne c]; exact hf o a b c
        have ho4 : ∀ c, (0 ≤ c ∧ c < i + 1) → mset m' 26 i (kand (kshr mine n) 1) 26 c = kand (kshr (if t = 0 then m 16 c else kor (m 16 c) (m 17 c)) n) 1 := fun c hc => by
          rw [k_mset_at]
          by_cases he : c = i
          · rw [if_pos he, he, hmine]
          · rw [if_neg he]; exact ho c (by omega)
        have hst : ∀ (a : Nat) (j : Int) (o : Nat), nrC w d l m a n o j (i + 1) ↔ nrC w d l m a n o j i ∨ (((o : Int) < m 9 14 ∧ (o : Int) ≠ n) ∧ bt (m a i) o = true ∧ box w d l i (aptC m n o) j) := by
          intro a j o
          constructor
          · rintro ⟨q1, c, q2, q3, q4⟩
            by_cases he : c = i
            · rw [he] at q3 q4; exact Or.inr ⟨q1, q3, q4⟩
            · exact Or.inl ⟨q1, c, by omega, q3, q4⟩
          · rintro (⟨q1, c, q2, q3, q4⟩ | ⟨q1, q3, q4⟩)
            · exact ⟨q1, c, by omega, q3, q4⟩
            · exact ⟨q1, i, by omega, q3, q4⟩
        have hlt : ∀ (o : Nat), (o : Int) < m 9 14 → o < 32 := fun o h => by omega
        refine kW_go ok_X6_look [4] 20 ?_
        show (0 ≤ i ∧ i < (nC X : Int)) ∧ (0 ≤ i ∧ i < (nC X : Int)) ∧ (0 ≤ i ∧ i < (nC X : Int)) ∧ (kor (kand (m' 16 i) (kxor (kshl 1 n) (-1))) (kand (m' 17 i) (kxor (kshl 1 n) (-1))) = 0 → kW (eX X) 2 M_X6_look T 4 [some (vR 22), some (vI n), some (vI t), some (vI (kxor (kshl 1 n) (-1))), some (vI i), some (vI mine), some (vI (kand (m' 16 i) (kxor (kshl 1 n) (-1)))), some (vI (kand (m' 17 i) (kxor (kshl 1 n) (-1))))] [] (mset m' 26 i (kand (kshr mine n) 1))) ∧ (¬ kor (kand (m' 16 i) (kxor (kshl 1 n) (-1))) (kand (m' 17 i) (kxor (kshl 1 n) (-1))) = 0 → kCall (eX X) 2 M_X6_spreadAll.1 [vR 22, vI i, vI (kand (m' 16 i) (kxor (kshl 1 n) (-1))), vI (kand (m' 17 i) (kxor (kshl 1 n) (-1)))] (mset m' 26 i (kand (kshr mine n) 1)) _)
        rw [h16, h17]
        have hbit : ∀ (v : Int) (o : Nat), o < 32 → (bt (kand v (kxor (kshl 1 n) (-1))) o = true ↔ bt v o = true ∧ (o : Int) ≠ n) := fun v o h => by
          rw [bt_and, bt_nall (by omega) (by omega) h, Bool.and_eq_true]
          simp
        refine ⟨hib, hib, hib, fun h => ?_, fun h => ?_⟩
        · refine hend _ _ _ _ hf4 ho4 (fun j hj o => ?_)
          have hno : ∀ x : Int, (x = m 16 i ∨ x = m 17 i) → (((o : Int) < m 9 14 ∧ (o : Int) ≠ n) ∧ bt x o = true) → False := by
            intro x hx ⟨⟨q1, q2⟩, q3⟩
            have ho := hlt o q1
            have hz := bt_zero o
            rw [← h, bt_or, Bool.or_eq_false_iff] at hz
            have hx1 := (hbit x o ho).mpr ⟨q3, q2⟩
            rcases hx with rfl | rfl
            · rw [hz.1] at hx1; cases hx1
            · rw [hz.2] at hx1; cases hx1
          rw [k_mset_ne (show (24 : Nat) ≠ 26 by decide), k_mset_ne (show (25 : Nat) ≠ 26 by decide), hst 16, hst 17, (hb j hj o).1, (hb j hj o).2]
          constructor
          · constructor
            · exact Or.inl
            · rintro (q | ⟨q1, q2, -⟩)
              · exact q
              · exact absurd ⟨q1, q2⟩ (hno _ (Or.inl rfl))
          · constructor
            · exact Or.inl
            · rintro (q | ⟨q1, q2, -⟩)
              · exact q
              · exact absurd ⟨q1, q2⟩ (hno _ (Or.inr rfl))
        · refine kCall_mono (c_X6_spreadAll X _ hD hn (gridC_same hG (fun o o1 o2 => by rw [k_mset_ne (by omega), hf o (by omega) (by omega) (by omega), e3 o (by omega) (by omega) (by omega) (by omega)])) i _ _ hic) (Nat.le_of_ble_eq_true rfl) ?_
          rintro _ m5 ⟨rfl, f5, hb5⟩
          refine hend _ _ _ _ (fun o a b c => by rw [f5 o a b]; exact hf4 o a b c) (fun c hc => by rw [f5 26 (by decide) (by decide)]; exact ho4 c hc) (fun j hj o => ?_)
          have hx : ∀ v : Int, (∃ f : Int, (0 ≤ f ∧ f < 3) ∧ bt (mset m' 26 i (kand (kshr mine n) 1) 23 f) o = true ∧ bt (kand v (kxor (kshl 1 n) (-1))) o = true ∧ box w d l i f j) ↔ (((o : Int) < m 9 14 ∧ (o : Int) ≠ n) ∧ bt v o = true ∧ box w d l i (aptC m n o) j) := by
            intro v
            rw [k_mset_ne (show (23 : Nat) ≠ 26 by decide), h23]
            constructor
            · rintro ⟨f, q1, q2, q3, q4⟩
              obtain ⟨q5, q6⟩ := (hb3' f q1 o).mp q2
              rw [← q6] at q4
              exact ⟨q5, ((hbit v o (hlt o q5.1)).mp q3).1, q4⟩
            · rintro ⟨q1, q2, q3⟩
              have hso := hs.2 (o : Int) ⟨by omega, q1.1⟩
              have hsn := hs.2 n hnn
              exact ⟨aptC m n o, by unfold aptC; omega, (hb3' _ (by unfold aptC; omega) o).mpr ⟨q1, rfl⟩, (hbit v o (hlt o q1.1)).mpr ⟨q2, q1.2⟩, q3⟩
          rw [(hb5 j o).1, (hb5 j o).2, hx, hx, k_mset_ne (show (24 : Nat) ≠ 26 by decide), k_mset_ne (show (25 : Nat) ≠ 26 by decide), hst 16, hst 17, (hb j hj o).1, (hb j hj o).2]
          exact ⟨Iff.rfl, Iff.rfl⟩
      refine kW_go ok_X6_look [3, 4] 20 ?_
      refine ⟨fun h => ?_, fun _ => And.intro (fun h => ⟨hib, hmid _ ?_⟩) (fun h => ?_)⟩
      · have h : m' 1 4 ≤ i := h
        rw [h1, hG.2.2.2.2.1] at h
        omega
      · show m' 16 i = _
        rw [if_pos h, h16]
      · refine kCall_mono (c_X3_copperAt X m' i hib) (Nat.le_of_ble_eq_true rfl) ?_
        rintro _ m' ⟨rfl, rfl⟩
        refine hmid _ ?_
        rw [if_neg h, h16, h17]
  refine loop (nC X) 0 m3 none none none (by omega) (by omega) (fun _ _ _ _ => rfl) (fun c h => by omega) (fun j hj o => ?_)
  rw [f3 24 (by decide), f3 25 (by decide), z24 j hj, z25 j hj, bt_zero]
  constructor <;> (constructor; (intro q; cases q); (rintro ⟨-, c, q, -⟩; omega))
