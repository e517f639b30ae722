/-! the reference takes a net's traces off, and puts them back -/
theorem mmap_mset {m : Mem} {o o' : Nat} {lo hi i v : Int} {F : Int → Int} (h : o ≠ o') : mset (mmap m o lo hi F) o' i v = mmap (mset m o' i v) o lo hi F := by
  funext p j
  by_cases hp : p = o'
  · subst hp
    rw [k_mset_at, mmap_ne (fun z => h z.symm), mmap_ne (fun z => h z.symm), k_mset_at]
  · rw [k_mset_ne hp]
    by_cases hq : p = o
    · subst hq
      rw [mmap_at, mmap_at, k_mset_ne h]
    · rw [mmap_ne hq, mmap_ne hq, k_mset_ne hp]
/-- the traces of a net laid aside -/
def tkO (n : Int) (m : Mem) : Mem := mset (mmap (mmap (fset m 54 33 (m 68 n)) 73 0 (m 68 n) (fun j => m 69 (2400 * n + j))) 74 0 (m 68 n) (fun j => m 70 (2400 * n + j))) 68 n 0
theorem c_X12_takeOff (X : Xv) (m : Mem) (n : Int) (hn : 0 ≤ n ∧ n < 8) (hk : 0 ≤ m 68 n ∧ m 68 n ≤ 2400) : kCall (eX X) 2 M_X12_takeOff.1 [vR 54, vI n] m (fun r m' => r = none ∧ pnt n (tkO n m) m' (fun _ => False)) := by
  refine kCall_ofT ok_X12_takeOff rfl (Nat.le_of_ble_eq_true rfl) (fun T hT => ?_)
  have hnb : 0 ≤ n ∧ n < ((8 : Nat) : Int) := hn
  generalize hm1 : fset m 54 33 (m 68 n) = m1
  have e1 : ∀ o, o ≠ 54 → m1 o = m o := fun o ho => by rw [← hm1]; unfold fset; rw [k_mset_ne ho]
  have e33 : m1 54 33 = m 68 n := by rw [← hm1]; rfl
  have loop : ∀ (k : Nat) (i : Int), i + k = m 68 n → 0 ≤ i → kW (eX X) 1 M_X12_takeOff T 1 [some (vR 54), some (vI n), some (vI i)] [] (mmap (mmap m1 73 0 i (fun j => m 69 (2400 * n + j))) 74 0 i (fun j => m 70 (2400 * n + j))) := by
    intro k
    induction k with
    | zero =>
      intro i hi h0
      have hii : i = m 68 n := by omega
      have e3 : mmap (mmap m1 73 0 i (fun j => m 69 (2400 * n + j))) 74 0 i (fun j => m 70 (2400 * n + j)) 54 33 = m 68 n := by rw [mmap_ne (by decide), mmap_ne (by decide)]; exact e33
      refine kW_go ok_X12_takeOff [1] 20 ?_
      refine ⟨fun _ => ⟨hnb, ?_⟩, fun h => ?_⟩
      · have ez : mset (mmap (mmap m1 73 0 i (fun j => m 69 (2400 * n + j))) 74 0 i (fun j => m 70 (2400 * n + j))) 68 n 0 68 n = 0 := by rw [k_mset_at, if_pos rfl]
        refine kCall_mono (c_X12_paint X (mset (mmap (mmap m1 73 0 i (fun j => m 69 (2400 * n + j))) 74 0 i (fun j => m 70 (2400 * n + j))) 68 n 0) n hn (by rw [ez]; decide) (fun j h1 h2 => by rw [ez] at h2; omega)) (Nat.le_of_ble_eq_true rfl) ?_
        rintro _ m3 ⟨rfl, hp⟩
        refine hT _ _ ⟨rfl, ?_⟩
        have : tkO n m = mset (mmap (mmap m1 73 0 i (fun j => m 69 (2400 * n + j))) 74 0 i (fun j => m 70 (2400 * n + j))) 68 n 0 := by
          unfold tkO
          rw [hm1, hii]
        rw [this]
        refine pnt_cong hp (fun c => ?_)
        constructor
        · exact False.elim
        · rintro ⟨j, hj, -⟩
          rw [ez] at hj
          omega
      · have h : i < mmap (mmap m1 73 0 i (fun j => m 69 (2400 * n + j))) 74 0 i (fun j => m 70 (2400 * n + j)) 54 33 := h
        rw [e3] at h
        omega
    | succ k ih =>
      intro i hi h0
      generalize hM : mmap (mmap m1 73 0 i (fun j => m 69 (2400 * n + j))) 74 0 i (fun j => m 70 (2400 * n + j)) = M
      have e3 : M 54 33 = m 68 n := by rw [← hM, mmap_ne (by decide), mmap_ne (by decide)]; exact e33
      have e69 : M 69 = m 69 := by rw [← hM, mmap_ne (by decide), mmap_ne (by decide)]; exact e1 69 (by decide)
      have e70 : M 70 = m 70 := by rw [← hM, mmap_ne (by decide), mmap_ne (by decide)]; exact e1 70 (by decide)
      have h1 : 0 ≤ 2400 * n + i ∧ 2400 * n + i < ((19200 : Nat) : Int) := by omega
      have h2 : 0 ≤ i ∧ i < ((2400 : Nat) : Int) := by omega
      have hst : mset (mset M 73 i (m 69 (2400 * n + i))) 74 i (m 70 (2400 * n + i)) = mmap (mmap m1 73 0 (i + 1) (fun j => m 69 (2400 * n + j))) 74 0 (i + 1) (fun j => m 70 (2400 * n + j)) := by
        rw [← hM, mmap_mset (by decide)]
        have a1 := mmap_s m1 73 0 i (fun j => m 69 (2400 * n + j)) h0
        have a2 := mmap_s (mmap m1 73 0 (i + 1) (fun j => m 69 (2400 * n + j))) 74 0 i (fun j => m 70 (2400 * n + j)) h0
        rw [a1, a2]
      refine kW_go ok_X12_takeOff [1] 20 ?_
      show (M 54 33 ≤ i → _) ∧ (i < M 54 33 → inR (2400 * n) ∧ inR (2400 * n + i) ∧ (0 ≤ 2400 * n + i ∧ 2400 * n + i < ((19200 : Nat) : Int)) ∧ (0 ≤ i ∧ i < ((2400 : Nat) : Int)) ∧ inR (2400 * n) ∧ inR (2400 * n + i) ∧ (0 ≤ 2400 * n + i ∧ 2400 * n + i < ((19200 : Nat) : Int)) ∧ (0 ≤ i ∧ i < ((2400 : Nat) : Int)) ∧ inR (i + 1) ∧ kW (eX X) 1 M_X12_takeOff T 1 [some (vR 54), some (vI n), some (vI (i + 1))] [] (mset (mset M 73 i (M 69 (2400 * n + i))) 74 i (M 70 (2400 * n + i))))
      rw [e3, e69, e70, hst]
      exact ⟨fun h => absurd h (by omega), fun _ => ⟨by constructor <;> omega, by constructor <;> omega, h1, h2, by constructor <;> omega, by constructor <;> omega, h1, h2, by constructor <;> omega, ih (i + 1) (by omega) (by omega)⟩⟩
  refine kW_go ok_X12_takeOff [1] 20 ?_
  refine ⟨hnb, ?_⟩
  have := loop (m 68 n).toNat 0 (by omega) (by omega)
  rw [mmap_e, mmap_e, ← hm1] at this
  exact this
