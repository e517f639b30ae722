/-! the class's nets: small methods, on any board -/
theorem k_rd_of {G : Gr} {RO : Ro} {m : Mem} {o ty n : Nat} {K : Nat → (Int → Int) → Prop} (ho : o < 1000) (hG : G[o]? = some (.inr (ty, n))) (h : K n (m o)) : k_rd G RO m o ty K := by
  unfold k_rd
  rw [show Nat.blt o 1000 = true from Nat.ble_eq_true_of_le ho]
  exact k_wr_of hG h
/-- places in arrays of nets times cells -/
theorem ixn {N n c : Int} (hN : 0 ≤ N ∧ N ≤ 324) (hn : 0 ≤ n ∧ n < 8) (hc : 0 ≤ c ∧ c < N) : (0 ≤ n * N ∧ n * N ≤ 2268) ∧ 0 ≤ n * N + c ∧ n * N + c < N * 8 := by
  have h := mb (a := n) (b := N) (A := 7) (B := 324) (by omega) hN
  have h2 : n * N ≤ 7 * N := Int.mul_le_mul_of_nonneg_right (by omega) hN.1
  omega
theorem ixn_inj {N n n' c c' : Int} (hc : 0 ≤ c ∧ c < N) (hc' : 0 ≤ c' ∧ c' < N) (h : n * N + c = n' * N + c') : n = n' ∧ c = c' := by
  have e1 : (n * N + c) % N = c := by rw [Int.add_comm, Int.add_mul_emod_self_right]; exact Int.emod_eq_of_lt hc.1 hc.2
  have e2 : (n' * N + c') % N = c' := by rw [Int.add_comm, Int.add_mul_emod_self_right]; exact Int.emod_eq_of_lt hc'.1 hc'.2
  have hcc : c = c' := by rw [← e1, h, e2]
  refine ⟨?_, hcc⟩
  have hm : n * N = n' * N := by omega
  exact Int.eq_of_mul_eq_mul_right (by omega) hm
theorem c_X3_setting (X : Xv) (m : Mem) (n k : Int) (hn : 0 ≤ n ∧ n < 8) (hk : 0 ≤ k ∧ k < 5) (hs : 0 ≤ m 11 n ∧ m 11 n < 6) : kCall (eX X) 1 M_X3_setting.1 [vR 9, vI n, vI k] m (cP (m 10 (m 11 n * 5 + k)) m) := by
  refine kCall_of ok_X3_setting rfl (Nat.le_of_ble_eq_true rfl) ?_
  refine kW_go ok_X3_setting [] 20 ?_
  refine ⟨hn, by constructor <;> omega, by constructor <;> omega, ⟨by omega, ?_⟩, rfl, rfl⟩
  show m 11 n * 5 + k < ((30 : Nat) : Int)
  omega
theorem c_X3_pinCell (X : Xv) (m : Mem) (n p : Int) (hn : 0 ≤ n ∧ n < 8) (hp : 0 ≤ p ∧ p < 4) : kCall (eX X) 1 M_X3_pinCell.1 [vR 9, vI n, vI p] m (cP (m 14 (n * 4 + p)) m) := by
  refine kCall_of ok_X3_pinCell rfl (Nat.le_of_ble_eq_true rfl) ?_
  refine kW_go ok_X3_pinCell [] 20 ?_
  refine ⟨by constructor <;> omega, by constructor <;> omega, ⟨by omega, ?_⟩, rfl, rfl⟩
  show n * 4 + p < ((32 : Nat) : Int)
  omega
theorem c_X3_movesAt (X : Xv) (m : Mem) (n c : Int) (h324 : nC X ≤ 324) (g4 : m 1 4 = (nC X : Int)) (hn : 0 ≤ n ∧ n < 8) (hc : 0 ≤ c ∧ c < (nC X : Int)) : kCall (eX X) 1 M_X3_movesAt.1 [vR 9, vI n, vI c] m (cP (kor (m 18 (n * (nC X : Int) + c)) (m 19 (n * (nC X : Int) + c))) m) := by
  have hi := ixn (N := (nC X : Int)) (by omega) hn hc
  refine kCall_ofT ok_X3_movesAt rfl (Nat.le_of_ble_eq_true rfl) (fun T hT => ?_)
  refine kW_go ok_X3_movesAt [] 20 ?_
  show inR (n * m 1 4) ∧ inR (n * m 1 4 + c) ∧ (0 ≤ n * m 1 4 + c ∧ n * m 1 4 + c < ((nC X * 8 : Nat) : Int)) ∧ inR (n * m 1 4) ∧ inR (n * m 1 4 + c) ∧ (0 ≤ n * m 1 4 + c ∧ n * m 1 4 + c < ((nC X * 8 : Nat) : Int)) ∧ T (some (vI (kor (m 18 (n * m 1 4 + c)) (m 19 (n * m 1 4 + c))))) m
  rw [g4]
  exact ⟨by constructor <;> omega, by constructor <;> omega, by constructor <;> omega, by constructor <;> omega, by constructor <;> omega, by constructor <;> omega, hT _ _ ⟨rfl, rfl⟩⟩
theorem c_X3_anyMove_w (X : Xv) (m : Mem) (n v : Int) (h324 : nC X ≤ 324) (g4 : m 1 4 = (nC X : Int)) (hn : 0 ≤ n ∧ n < 8) : kCall (eX X) 1 M_X3_anyMove.1 [vR 9, vR 18, vI n, vI v] m (fun r m' => (((∃ c : Int, (0 ≤ c ∧ c < (nC X : Int)) ∧ kand (m 18 (n * (nC X : Int) + c)) v ≠ 0) ∧ r = some (vI 1)) ∨ ((∀ c : Int, (0 ≤ c ∧ c < (nC X : Int)) → kand (m 18 (n * (nC X : Int) + c)) v = 0) ∧ r = some (vI 0))) ∧ m' = m) := by
  refine kCall_ofT ok_X3_anyMove rfl (Nat.le_of_ble_eq_true rfl) (fun T hT => ?_)
  have loop : ∀ (k : Nat) (c : Int), c + k = (nC X : Int) → 0 ≤ c → (∀ j : Int, (0 ≤ j ∧ j < c) → kand (m 18 (n * (nC X : Int) + j)) v = 0) → kW (eX X) 0 M_X3_anyMove T 1 [some (vR 9), some (vR 18), some (vI n), some (vI v), some (vI c)] [] m := by
    intro k
    induction k with
    | zero =>
      intro c hc h0 hall
      refine kW_go ok_X3_anyMove [1] 20 ?_
      refine ⟨fun _ => hT _ _ ⟨Or.inl rfl, Or.inr ⟨fun j h => hall j (by omega), rfl⟩, rfl⟩, fun h => ?_⟩
      have h : c < m 1 4 := h
      omega
    | succ k ih =>
      intro c hc h0 hall
      have hi := ixn (N := (nC X : Int)) (n := n) (c := c) (by omega) hn (by omega)
      refine kW_go ok_X3_anyMove [1] 20 ?_
      show (m 1 4 ≤ c → _) ∧ (c < m 1 4 → inR (n * m 1 4) ∧ inR (n * m 1 4 + c) ∧ (0 ≤ n * m 1 4 + c ∧ n * m 1 4 + c < ((nC X * 8 : Nat) : Int)) ∧ (kand (m 18 (n * m 1 4 + c)) v = 0 → inR (c + 1) ∧ kW (eX X) 0 M_X3_anyMove T 1 [some (vR 9), some (vR 18), some (vI n), some (vI v), some (vI (c + 1))] [] m) ∧ (¬ kand (m 18 (n * m 1 4 + c)) v = 0 → T (some (vI 1)) m))
      rw [g4]
      refine ⟨fun h => absurd h (by omega), fun _ => ⟨by constructor <;> omega, by constructor <;> omega, by constructor <;> omega, fun h => ⟨by constructor <;> omega, ih (c + 1) (by omega) (by omega) (fun j hj => ?_)⟩, fun h => hT _ _ ⟨Or.inr rfl, Or.inl ⟨⟨c, by omega, h⟩, rfl⟩, rfl⟩⟩⟩
      by_cases he : j = c
      · rw [he]; exact h
      · exact hall j (by omega)
  refine kW_go ok_X3_anyMove [1] 20 ?_
  exact loop (nC X) 0 (by omega) (by omega) (fun j h => by omega)
theorem c_X3_anyMove_t (X : Xv) (m : Mem) (n v : Int) (h324 : nC X ≤ 324) (g4 : m 1 4 = (nC X : Int)) (hn : 0 ≤ n ∧ n < 8) : kCall (eX X) 1 M_X3_anyMove.1 [vR 9, vR 19, vI n, vI v] m (fun r m' => (((∃ c : Int, (0 ≤ c ∧ c < (nC X : Int)) ∧ kand (m 19 (n * (nC X : Int) + c)) v ≠ 0) ∧ r = some (vI 1)) ∨ ((∀ c : Int, (0 ≤ c ∧ c < (nC X : Int)) → kand (m 19 (n * (nC X : Int) + c)) v = 0) ∧ r = some (vI 0))) ∧ m' = m) := by
  refine kCall_ofT ok_X3_anyMove rfl (Nat.le_of_ble_eq_true rfl) (fun T hT => ?_)
  have loop : ∀ (k : Nat) (c : Int), c + k = (nC X : Int) → 0 ≤ c → (∀ j : Int, (0 ≤ j ∧ j < c) → kand (m 19 (n * (nC X : Int) + j)) v = 0) → kW (eX X) 0 M_X3_anyMove T 1 [some (vR 9), some (vR 19), some (vI n), some (vI v), some (vI c)] [] m := by
    intro k
    induction k with
    | zero =>
      intro c hc h0 hall
      refine kW_go ok_X3_anyMove [1] 20 ?_
      refine ⟨fun _ => hT _ _ ⟨Or.inl rfl, Or.inr ⟨fun j h => hall j (by omega), rfl⟩, rfl⟩, fun h => ?_⟩
      have h : c < m 1 4 := h
      omega
    | succ k ih =>
      intro c hc h0 hall
      have hi := ixn (N := (nC X : Int)) (n := n) (c := c) (by omega) hn (by omega)
      refine kW_go ok_X3_anyMove [1] 20 ?_
      show (m 1 4 ≤ c → _) ∧ (c < m 1 4 → inR (n * m 1 4) ∧ inR (n * m 1 4 + c) ∧ (0 ≤ n * m 1 4 + c ∧ n * m 1 4 + c < ((nC X * 8 : Nat) : Int)) ∧ (kand (m 19 (n * m 1 4 + c)) v = 0 → inR (c + 1) ∧ kW (eX X) 0 M_X3_anyMove T 1 [some (vR 9), some (vR 19), some (vI n), some (vI v), some (vI (c + 1))] [] m) ∧ (¬ kand (m 19 (n * m 1 4 + c)) v = 0 → T (some (vI 1)) m))
      rw [g4]
      refine ⟨fun h => absurd h (by omega), fun _ => ⟨by constructor <;> omega, by constructor <;> omega, by constructor <;> omega, fun h => ⟨by constructor <;> omega, ih (c + 1) (by omega) (by omega) (fun j hj => ?_)⟩, fun h => hT _ _ ⟨Or.inr rfl, Or.inl ⟨⟨c, by omega, h⟩, rfl⟩, rfl⟩⟩⟩
      by_cases he : j = c
      · rw [he]; exact h
      · exact hall j (by omega)
  refine kW_go ok_X3_anyMove [1] 20 ?_
  exact loop (nC X) 0 (by omega) (by omega) (fun j h => by omega)
/-- sums over the first so many -/
def sumN (f : Int → Int) : Nat → Int
  | 0 => 0
  | k + 1 => sumN f k + f (k : Int)
theorem sumN_le {f : Int → Int} {B : Int} (h : ∀ c, 0 ≤ f c ∧ f c ≤ B) (k : Nat) : 0 ≤ sumN f k ∧ sumN f k ≤ B * k := by
  induction k with
  | zero => exact ⟨Int.le_refl _, by simp [sumN]⟩
  | succ k ih =>
    have := h (k : Int)
    have e : B * ((k + 1 : Nat) : Int) = B * (k : Int) + B := by rw [Int.natCast_add, Int.mul_add]; simp
    unfold sumN
    rw [e]
    omega
theorem k_and6 (v : Int) : 0 ≤ kand v 6 ∧ kand v 6 < 8 := by
  have h := k_lt_bits (v := kand v 6) (n := 3) (k_in_kand _ _) (by decide) (fun k h1 h2 => by
    rw [bt_and, show bt 6 k = false from bt_small (n := 3) (by decide) (by decide) (by decide) h1, Bool.and_false])
  exact ⟨h.1, by have := h.2; omega⟩
theorem k_and1 (v : Int) : 0 ≤ kand v 1 ∧ kand v 1 ≤ 1 := by
  have h := k_lt_bits (v := kand v 1) (n := 1) (k_in_kand _ _) (by decide) (fun k h1 h2 => by
    rw [bt_and, show bt 1 k = false from bt_small (n := 1) (by decide) (by decide) (by decide) h1, Bool.and_false])
  exact ⟨h.1, by have := h.2; omega⟩
theorem pop_in (x : Int) : 0 ≤ pop x ∧ pop x ≤ 8 := by unfold pop; omega
theorem c_X3_lengthOf (X : Xv) (m : Mem) (n : Int) (h324 : nC X ≤ 324) (g4 : m 1 4 = (nC X : Int)) (hn : 0 ≤ n ∧ n < 8) : kCall (eX X) 2 M_X3_lengthOf.1 [vR 9, vI n] m (cP (sumN (fun c => pop (kand (m 19 (n * (nC X : Int) + c)) 6)) (nC X)) m) := by
  refine kCall_ofT ok_X3_lengthOf rfl (Nat.le_of_ble_eq_true rfl) (fun T hT => ?_)
  generalize hf : (fun c : Int => pop (kand (m 19 (n * (nC X : Int) + c)) 6)) = f at hT
  have hfv : ∀ c, f c = pop (kand (m 19 (n * (nC X : Int) + c)) 6) := fun c => by rw [← hf]
  have hfb : ∀ c, 0 ≤ f c ∧ f c ≤ 8 := fun c => by rw [hfv]; exact pop_in _
  have loop : ∀ (k j : Nat), j + k = nC X → kW (eX X) 1 M_X3_lengthOf T 1 [some (vR 9), some (vI n), some (vI (sumN f j)), some (vI (j : Int))] [] m := by
    intro k
    induction k with
    | zero =>
      intro j hj
      refine kW_go ok_X3_lengthOf [1] 20 ?_
      show (m 1 4 ≤ (j : Int) → _) ∧ ((j : Int) < m 1 4 → _)
      rw [g4]
      refine And.intro (fun _ => hT _ _ ⟨?_, rfl⟩) (fun h => absurd h (by omega))
      rw [show j = nC X by omega]
    | succ k ih =>
      intro j hj
      have hi := ixn (N := (nC X : Int)) (n := n) (c := (j : Int)) (by omega) hn (by omega)
      have hs := sumN_le hfb j
      have hv := hfv (j : Int)
      have hb := hfb (j : Int)
      refine kW_go ok_X3_lengthOf [1] 20 ?_
      have hv' : f (j : Int) = pop (kand (m 19 (n * m 1 4 + (j : Int))) 6) := by rw [g4]; exact hv
      have h6 := k_and6 (m 19 (n * m 1 4 + (j : Int)))
      have hi2 : (0 ≤ n * fld m 1 4 ∧ n * fld m 1 4 ≤ 2268) ∧ 0 ≤ n * fld m 1 4 + (j : Int) ∧ n * fld m 1 4 + (j : Int) < (nC X : Int) * 8 := by
        rw [show fld m 1 4 = (nC X : Int) from g4]
        exact hi
      rw [← g4] at hi
      refine ⟨fun h => absurd (show m 1 4 ≤ (j : Int) from h) (by omega), fun _ => ⟨by constructor <;> omega, by constructor <;> omega, ⟨by omega, ?_⟩, ?_⟩⟩
      · show n * fld m 1 4 + (j : Int) < ((nC X * 8 : Nat) : Int)
        omega
      refine kCall_mono (c_bitCount _ _ (kand (m 19 (n * m 1 4 + (j : Int))) 6) h6.1 (by omega)) (Nat.le_of_ble_eq_true rfl) ?_
      rintro _ m ⟨rfl, rfl⟩
      rw [← hv']
      refine ⟨by constructor <;> omega, by constructor <;> omega, ?_⟩
      have := ih (j + 1) (by omega)
      rw [show ((j + 1 : Nat) : Int) = (j : Int) + 1 by omega] at this
      exact this
  refine kW_go ok_X3_lengthOf [1] 20 ?_
  exact loop (nC X) 0 (by omega)
