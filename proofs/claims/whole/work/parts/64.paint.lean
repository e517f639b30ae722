/-! the reference's copper: a net's traces painted -/
theorem k_or_or (a b : Int) : kor (kor a b) b = kor a b := bt_ext (k_in_kor _ _) (k_in_kor _ _) (fun k _ => by rw [bt_or, bt_or, Bool.or_assoc, Bool.or_self])
/-- net n's copper of m' is m's without its traces, and with traces in the cells of S -/
def pnt (n : Int) (m m' : Mem) (S : Int → Prop) : Prop := (∀ o, o ≠ 72 → m' o = m o) ∧ ∀ j, (¬ (324 * n ≤ j ∧ j < 324 * n + 324) → m' 72 j = m 72 j) ∧ ((324 * n ≤ j ∧ j < 324 * n + 324) → (S (j - 324 * n) → m' 72 j = kor (kand (m 72 j) 5) 2) ∧ (¬ S (j - 324 * n) → m' 72 j = kand (m 72 j) 5))
theorem pnt_cong {n : Int} {m m' : Mem} {S S' : Int → Prop} (h : pnt n m m' S) (hs : ∀ c, S' c ↔ S c) : pnt n m m' S' := ⟨h.1, fun j => ⟨(h.2 j).1, fun hj => ⟨fun q => ((h.2 j).2 hj).1 ((hs _).mp q), fun q => ((h.2 j).2 hj).2 (fun z => q ((hs _).mpr z))⟩⟩⟩
theorem pnt_put {n : Int} {m m' : Mem} {S : Int → Prop} {c : Int} (h : pnt n m m' S) (hc : 0 ≤ c ∧ c < 324) : pnt n m (mset m' 72 (324 * n + c) (kor (m' 72 (324 * n + c)) 2)) (fun x => S x ∨ x = c) := by
  refine ⟨fun o ho => by rw [k_mset_ne ho]; exact h.1 o ho, fun j => ⟨fun hj => ?_, fun hj => ⟨fun q => ?_, fun q => ?_⟩⟩⟩
  · rw [k_mset_at, if_neg (by omega)]
    exact (h.2 j).1 hj
  · rw [k_mset_at]
    by_cases he : j = 324 * n + c
    · rw [if_pos he, ← he]
      by_cases hs : S (j - 324 * n)
      · rw [((h.2 j).2 hj).1 hs, k_or_or]
      · rw [((h.2 j).2 hj).2 hs]
    · rw [if_neg he]
      refine ((h.2 j).2 hj).1 ?_
      rcases q with q | q
      · exact q
      · omega
  · have hne : j ≠ 324 * n + c := fun he => q (Or.inr (by omega))
    rw [k_mset_at, if_neg hne]
    exact ((h.2 j).2 hj).2 (fun z => q (Or.inl z))
/-- the cells of the first so many traces of a net -/
def trS (m : Mem) (n k c : Int) : Prop := ∃ i : Int, (0 ≤ i ∧ i < k) ∧ (m 69 (2400 * n + i) = c ∨ m 70 (2400 * n + i) = c)
theorem c_X12_paint (X : Xv) (m : Mem) (n : Int) (hn : 0 ≤ n ∧ n < 8) (hk : 0 ≤ m 68 n ∧ m 68 n ≤ 2400) (hf : ∀ i : Int, 0 ≤ i → i < m 68 n → (0 ≤ m 69 (2400 * n + i) ∧ m 69 (2400 * n + i) < 324) ∧ (0 ≤ m 70 (2400 * n + i) ∧ m 70 (2400 * n + i) < 324)) : kCall (eX X) 1 M_X12_paint.1 [vR 54, vI n] m (fun r m' => r = none ∧ pnt n m m' (trS m n (m 68 n))) := by
  refine kCall_ofT ok_X12_paint rfl (Nat.le_of_ble_eq_true rfl) (fun T hT => ?_)
  have loop2 : ∀ (k : Nat) (i : Int) (m' : Mem), i + k = m 68 n → 0 ≤ i → pnt n m m' (trS m n i) → kW (eX X) 0 M_X12_paint T 3 [some (vR 54), some (vI n), some (vI i)] [] m' := by
    intro k
    induction k with
    | zero =>
      intro i m' hi h0 hp
      have e68 : m' 68 = m 68 := hp.1 68 (by decide)
      refine kW_go ok_X12_paint [3] 20 ?_
      show (0 ≤ n ∧ n < ((8 : Nat) : Int)) ∧ (m' 68 n ≤ i → T none m') ∧ (i < m' 68 n → _)
      rw [e68]
      refine ⟨hn, fun _ => hT _ _ ⟨rfl, ?_⟩, fun h => absurd h (by omega)⟩
      rw [show m 68 n = i by omega]
      exact hp
    | succ k ih =>
      intro i m' hi h0 hp
      have e68 : m' 68 = m 68 := hp.1 68 (by decide)
      have e69 : m' 69 = m 69 := hp.1 69 (by decide)
      have e70 : m' 70 = m 70 := hp.1 70 (by decide)
      obtain ⟨hfa, hfb⟩ := hf i h0 (by omega)
      refine kW_go ok_X12_paint [3] 20 ?_
      show (0 ≤ n ∧ n < ((8 : Nat) : Int)) ∧ (m' 68 n ≤ i → T none m') ∧ (i < m' 68 n → inR (324 * n) ∧ inR (2400 * n) ∧ inR (2400 * n + i) ∧ (0 ≤ 2400 * n + i ∧ 2400 * n + i < ((19200 : Nat) : Int)) ∧ inR (324 * n + m' 69 (2400 * n + i)) ∧ (0 ≤ 324 * n + m' 69 (2400 * n + i) ∧ 324 * n + m' 69 (2400 * n + i) < ((2592 : Nat) : Int)) ∧ (0 ≤ 324 * n + m' 69 (2400 * n + i) ∧ 324 * n + m' 69 (2400 * n + i) < ((2592 : Nat) : Int)) ∧ inR (324 * n) ∧ inR (2400 * n) ∧ inR (2400 * n + i) ∧ (0 ≤ 2400 * n + i ∧ 2400 * n + i < ((19200 : Nat) : Int)) ∧ inR (324 * n + m' 70 (2400 * n + i)) ∧ (0 ≤ 324 * n + m' 70 (2400 * n + i) ∧ 324 * n + m' 70 (2400 * n + i) < ((2592 : Nat) : Int)) ∧ (0 ≤ 324 * n + m' 70 (2400 * n + i) ∧ 324 * n + m' 70 (2400 * n + i) < ((2592 : Nat) : Int)) ∧ inR (i + 1) ∧ kW (eX X) 0 M_X12_paint T 3 [some (vR 54), some (vI n), some (vI (i + 1))] [] (mset (mset m' 72 (324 * n + m' 69 (2400 * n + i)) (kor (m' 72 (324 * n + m' 69 (2400 * n + i))) 2)) 72 (324 * n + m' 70 (2400 * n + i)) (kor (mset m' 72 (324 * n + m' 69 (2400 * n + i)) (kor (m' 72 (324 * n + m' 69 (2400 * n + i))) 2) 72 (324 * n + m' 70 (2400 * n + i))) 2)))
      rw [e68, e69, e70]
      refine ⟨hn, fun h => absurd h (by omega), fun _ => ⟨by constructor <;> omega, by constructor <;> omega, by constructor <;> omega, by constructor <;> omega, by constructor <;> omega, by constructor <;> omega, by constructor <;> omega, by constructor <;> omega, by constructor <;> omega, by constructor <;> omega, by constructor <;> omega, by constructor <;> omega, by constructor <;> omega, by constructor <;> omega, by constructor <;> omega, ?_⟩⟩
      refine ih (i + 1) _ (by omega) (by omega) (pnt_cong (pnt_put (pnt_put hp hfa) hfb) (fun c => ?_))
      constructor
      · rintro ⟨j, hj, hv⟩
        by_cases he : j = i
        · subst he
          rcases hv with hv | hv
          · exact Or.inl (Or.inr hv.symm)
          · exact Or.inr hv.symm
        · exact Or.inl (Or.inl ⟨j, by omega, hv⟩)
      · rintro ((⟨j, hj, hv⟩ | h) | h)
        · exact ⟨j, by omega, hv⟩
        · exact ⟨i, by omega, Or.inl h.symm⟩
        · exact ⟨i, by omega, Or.inr h.symm⟩
  have loop1 : ∀ (k : Nat) (i : Int), i + k = 324 → 0 ≤ i → kW (eX X) 0 M_X12_paint T 1 [some (vR 54), some (vI n), some (vI i)] [] (mmap m 72 (324 * n) (324 * n + i) (fun j => kand (m 72 j) 5)) := by
    intro k
    induction k with
    | zero =>
      intro i hi h0
      have : i = 324 := by omega
      subst this
      refine kW_go ok_X12_paint [1, 3] 20 ?_
      refine ⟨fun _ => ?_, fun h => absurd h (by decide)⟩
      refine loop2 (m 68 n).toNat 0 _ (by omega) (by omega) ⟨fun o ho => mmap_ne ho, fun j => ⟨fun hj => by rw [mmap_at, if_neg hj], fun hj => ⟨fun q => ?_, fun _ => by rw [mmap_at, if_pos hj]⟩⟩⟩
      obtain ⟨i, hi, -⟩ := q
      omega
    | succ k ih =>
      intro i hi h0
      refine kW_go ok_X12_paint [1, 3] 20 ?_
      refine ⟨fun h => absurd h (by omega), fun _ => ⟨by constructor <;> omega, by constructor <;> omega, ⟨by omega, ?_⟩, ⟨by omega, ?_⟩, by constructor <;> omega, ?_⟩⟩
      · show 324 * n + i < ((2592 : Nat) : Int)
        omega
      · show 324 * n + i < ((2592 : Nat) : Int)
        omega
      · have := ih (i + 1) (by omega) (by omega)
        rw [← Int.add_assoc, ← mmap_s m 72 (324 * n) (324 * n + i) (fun j => kand (m 72 j) 5) (by omega)] at this
        have ev : mmap m 72 (324 * n) (324 * n + i) (fun j => kand (m 72 j) 5) 72 (324 * n + i) = m 72 (324 * n + i) := by rw [mmap_at, if_neg (by omega)]
        show kW (eX X) 0 M_X12_paint T 1 [some (vR 54), some (vI n), some (vI (i + 1))] [] (mset (mmap m 72 (324 * n) (324 * n + i) (fun j => kand (m 72 j) 5)) 72 (324 * n + i) (kand (mmap m 72 (324 * n) (324 * n + i) (fun j => kand (m 72 j) 5) 72 (324 * n + i)) 5))
        rw [ev]
        exact this
  refine kW_go ok_X12_paint [1] 20 ?_
  have := loop1 324 0 (by omega) (by omega)
  rw [Int.add_zero, mmap_e] at this
  exact this
