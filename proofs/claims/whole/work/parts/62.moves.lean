/-! the class's nets: moves laid and taken, pins (written by a program of ours; two arrays, one text) -/
/-- a move laid at both its ends; b: where the net's row begins -/
def jn (o1 o2 : Nat) (b n c k to : Int) (m : Mem) : Mem :=
  let m1 := mset m o1 (b + c) (kor (m o1 (b + c)) (kshl 1 k))
  let m2 := mset m1 o1 (b + to) (kor (m1 o1 (b + to)) (kshl 1 (oppF k)))
  let m3 := mset m2 o2 c (kor (m2 o2 c) (kshl 1 n))
  mset m3 o2 to (kor (m3 o2 to) (kshl 1 n))
theorem jn_ne {o1 o2 p : Nat} {b n c k to : Int} {m : Mem} (h1 : p ≠ o1) (h2 : p ≠ o2) : jn o1 o2 b n c k to m p = m p := by
  unfold jn
  show mset _ o2 to _ p = m p
  rw [k_mset_ne h2, k_mset_ne h2, k_mset_ne h1, k_mset_ne h1]
set_option maxRecDepth 100000 in
set_option maxHeartbeats 4000000 in
theorem c_X3_join_w (X : Xv) (m : Mem) (n c k to : Int) (h324 : nC X ≤ 324) (g4 : m 1 4 = (nC X : Int)) (hn : 0 ≤ n ∧ n < 8) (hc : 0 ≤ c ∧ c < (nC X : Int)) (hk : 0 ≤ k ∧ k < 6) (hto : m 2 (c * 6 + k) = to) (ht : to ≠ -1 → 0 ≤ to ∧ to < (nC X : Int)) : kCall (eX X) 1 M_X3_join.1 [vR 9, vR 18, vR 16, vI n, vI c, vI k] m (fun r m' => r = some (vI to) ∧ m' = if to = -1 then m else jn 18 16 (n * (nC X : Int)) n c k to m) := by
  have hi := ixn (N := (nC X : Int)) (by omega) hn hc
  refine kCall_ofT ok_X3_join rfl (Nat.le_of_ble_eq_true rfl) (fun T hT => ?_)
  refine kW_go ok_X3_join [] 20 ?_
  show inR (c * 6) ∧ inR (c * 6 + k) ∧ (0 ≤ c * 6 + k ∧ c * 6 + k < ((nC X * 6 : Nat) : Int)) ∧ ((¬ m 2 (c * 6 + k) = -1 → inR (n * m 1 4) ∧ inR (n * m 1 4 + c) ∧ (0 ≤ n * m 1 4 + c ∧ n * m 1 4 + c < ((nC X * 8 : Nat) : Int)) ∧ (0 ≤ n * m 1 4 + c ∧ n * m 1 4 + c < ((nC X * 8 : Nat) : Int)) ∧ inR (n * m 1 4) ∧ inR (n * m 1 4 + m 2 (c * 6 + k)) ∧ (0 ≤ n * m 1 4 + m 2 (c * 6 + k) ∧ n * m 1 4 + m 2 (c * 6 + k) < ((nC X * 8 : Nat) : Int)) ∧ (0 ≤ k ∧ k < ((6 : Nat) : Int)) ∧ (0 ≤ n * m 1 4 + m 2 (c * 6 + k) ∧ n * m 1 4 + m 2 (c * 6 + k) < ((nC X * 8 : Nat) : Int)) ∧ (0 ≤ c ∧ c < (nC X : Int)) ∧ (0 ≤ c ∧ c < (nC X : Int)) ∧ (0 ≤ m 2 (c * 6 + k) ∧ m 2 (c * 6 + k) < (nC X : Int)) ∧ (0 ≤ m 2 (c * 6 + k) ∧ m 2 (c * 6 + k) < (nC X : Int)) ∧ T (some (vI (m 2 (c * 6 + k)))) (jn 18 16 (n * m 1 4) n c k (m 2 (c * 6 + k)) m)) ∧ (m 2 (c * 6 + k) = -1 → T (some (vI (-1))) m))
  rw [hto, g4]
  refine ⟨by constructor <;> omega, by constructor <;> omega, by constructor <;> omega, fun h => ?_, fun h => ?_⟩
  · have ht := ht h
    have hj := ixn (N := (nC X : Int)) (by omega) hn ht
    exact ⟨by constructor <;> omega, by constructor <;> omega, by constructor <;> omega, by constructor <;> omega, by constructor <;> omega, by constructor <;> omega, by constructor <;> omega, hk, by constructor <;> omega, hc, hc, ht, ht, hT _ _ ⟨rfl, by rw [if_neg h]⟩⟩
  · subst h
    exact hT _ _ ⟨rfl, by rw [if_pos rfl]⟩
set_option maxRecDepth 100000 in
set_option maxHeartbeats 4000000 in
theorem c_X3_join_t (X : Xv) (m : Mem) (n c k to : Int) (h324 : nC X ≤ 324) (g4 : m 1 4 = (nC X : Int)) (hn : 0 ≤ n ∧ n < 8) (hc : 0 ≤ c ∧ c < (nC X : Int)) (hk : 0 ≤ k ∧ k < 6) (hto : m 2 (c * 6 + k) = to) (ht : to ≠ -1 → 0 ≤ to ∧ to < (nC X : Int)) : kCall (eX X) 1 M_X3_join.1 [vR 9, vR 19, vR 17, vI n, vI c, vI k] m (fun r m' => r = some (vI to) ∧ m' = if to = -1 then m else jn 19 17 (n * (nC X : Int)) n c k to m) := by
  have hi := ixn (N := (nC X : Int)) (by omega) hn hc
  refine kCall_ofT ok_X3_join rfl (Nat.le_of_ble_eq_true rfl) (fun T hT => ?_)
  refine kW_go ok_X3_join [] 20 ?_
  show inR (c * 6) ∧ inR (c * 6 + k) ∧ (0 ≤ c * 6 + k ∧ c * 6 + k < ((nC X * 6 : Nat) : Int)) ∧ ((¬ m 2 (c * 6 + k) = -1 → inR (n * m 1 4) ∧ inR (n * m 1 4 + c) ∧ (0 ≤ n * m 1 4 + c ∧ n * m 1 4 + c < ((nC X * 8 : Nat) : Int)) ∧ (0 ≤ n * m 1 4 + c ∧ n * m 1 4 + c < ((nC X * 8 : Nat) : Int)) ∧ inR (n * m 1 4) ∧ inR (n * m 1 4 + m 2 (c * 6 + k)) ∧ (0 ≤ n * m 1 4 + m 2 (c * 6 + k) ∧ n * m 1 4 + m 2 (c * 6 + k) < ((nC X * 8 : Nat) : Int)) ∧ (0 ≤ k ∧ k < ((6 : Nat) : Int)) ∧ (0 ≤ n * m 1 4 + m 2 (c * 6 + k) ∧ n * m 1 4 + m 2 (c * 6 + k) < ((nC X * 8 : Nat) : Int)) ∧ (0 ≤ c ∧ c < (nC X : Int)) ∧ (0 ≤ c ∧ c < (nC X : Int)) ∧ (0 ≤ m 2 (c * 6 + k) ∧ m 2 (c * 6 + k) < (nC X : Int)) ∧ (0 ≤ m 2 (c * 6 + k) ∧ m 2 (c * 6 + k) < (nC X : Int)) ∧ T (some (vI (m 2 (c * 6 + k)))) (jn 19 17 (n * m 1 4) n c k (m 2 (c * 6 + k)) m)) ∧ (m 2 (c * 6 + k) = -1 → T (some (vI (-1))) m))
  rw [hto, g4]
  refine ⟨by constructor <;> omega, by constructor <;> omega, by constructor <;> omega, fun h => ?_, fun h => ?_⟩
  · have ht := ht h
    have hj := ixn (N := (nC X : Int)) (by omega) hn ht
    exact ⟨by constructor <;> omega, by constructor <;> omega, by constructor <;> omega, by constructor <;> omega, by constructor <;> omega, by constructor <;> omega, by constructor <;> omega, hk, by constructor <;> omega, hc, hc, ht, ht, hT _ _ ⟨rfl, by rw [if_neg h]⟩⟩
  · subst h
    exact hT _ _ ⟨rfl, by rw [if_pos rfl]⟩
theorem c_X3_addTrace (X : Xv) (m : Mem) (n c k to : Int) (h324 : nC X ≤ 324) (g4 : m 1 4 = (nC X : Int)) (hn : 0 ≤ n ∧ n < 8) (hc : 0 ≤ c ∧ c < (nC X : Int)) (hk : 0 ≤ k ∧ k < 6) (hto : m 2 (c * 6 + k) = to) (ht : to ≠ -1 → 0 ≤ to ∧ to < (nC X : Int)) : kCall (eX X) 2 M_X3_addTrace.1 [vR 9, vI n, vI c, vI k] m (fun r m' => r = some (vI to) ∧ m' = if to = -1 then m else jn 19 17 (n * (nC X : Int)) n c k to m) := by
  refine kCall_ofT ok_X3_addTrace rfl (Nat.le_of_ble_eq_true rfl) (fun T hT => ?_)
  refine kW_go ok_X3_addTrace [] 20 ?_
  refine kCall_mono (c_X3_join_t X m n c k to h324 g4 hn hc hk hto ht) (Nat.le_of_ble_eq_true rfl) ?_
  rintro _ m' ⟨rfl, rfl⟩
  exact hT _ _ ⟨rfl, rfl⟩
/-- a row of so many moves one way, till the board ends -/
def wJ (N n k : Int) : Nat → Int → Mem → Mem
  | 0, _, m => m
  | j + 1, c, m => if c = -1 then m else if m 2 (c * 6 + k) = -1 then m else wJ N n k j (m 2 (c * 6 + k)) (jn 18 16 (n * N) n c k (m 2 (c * 6 + k)) m)
theorem wJ_no (N n k : Int) (j : Nat) (m : Mem) : wJ N n k j (-1) m = m := by
  cases j with
  | zero => rfl
  | succ j => exact if_pos rfl
theorem c_X3_addWire (X : Xv) (m : Mem) (n c k : Int) (q : Nat) (h324 : nC X ≤ 324) (g4 : m 1 4 = (nC X : Int)) (hn : 0 ≤ n ∧ n < 8) (hc : c = -1 ∨ (0 ≤ c ∧ c < (nC X : Int))) (hk : 0 ≤ k ∧ k < 6) (hto : ∀ c, (0 ≤ c ∧ c < (nC X : Int)) → m 2 (c * 6 + k) = -1 ∨ (0 ≤ m 2 (c * 6 + k) ∧ m 2 (c * 6 + k) < (nC X : Int))) (hq : q ≤ 1000) : kCall (eX X) 2 M_X3_addWire.1 [vR 9, vI n, vI c, vI k, vI (q : Int)] m (fun r m' => r = none ∧ m' = wJ (nC X) n k q c m) := by
  refine kCall_ofT ok_X3_addWire rfl (Nat.le_of_ble_eq_true rfl) (fun T hT => ?_)
  have loop : ∀ (j i : Nat) (c' : Int) (m' : Mem), i + j = q → (c' = -1 ∨ (0 ≤ c' ∧ c' < (nC X : Int))) → m' 1 = m 1 → m' 2 = m 2 → wJ (nC X) n k j c' m' = wJ (nC X) n k q c m → kW (eX X) 1 M_X3_addWire T 1 [some (vR 9), some (vI n), some (vI c), some (vI k), some (vI (q : Int)), some (vI c'), some (vI (i : Int))] [] m' := by
    intro j
    induction j with
    | zero =>
      intro i c' m' hi hc' h1 h2 hw
      refine kW_go ok_X3_addWire [1] 20 ?_
      exact ⟨fun _ => hT _ _ ⟨rfl, hw⟩, fun h => absurd h (by omega)⟩
    | succ j ih =>
      intro i c' m' hi hc' h1 h2 hw
      refine kW_go ok_X3_addWire [1] 20 ?_
      refine ⟨fun h => absurd h (by omega), fun _ => ⟨fun h => hT _ _ ⟨rfl, ?_⟩, fun h => ?_⟩⟩
      · rw [← hw, h, wJ_no]
      · have hcc : 0 ≤ c' ∧ c' < (nC X : Int) := by
          rcases hc' with h' | h'
          · exact absurd h' h
          · exact h'
        have htt := hto c' hcc
        have e2 : m' 2 (c' * 6 + k) = m 2 (c' * 6 + k) := by rw [h2]
        refine kCall_mono (c_X3_join_w X m' n c' k (m' 2 (c' * 6 + k)) h324 (by rw [h1]; exact g4) hn hcc hk rfl (fun h' => by rw [e2] at h' ⊢; rcases htt with q | q; exact absurd q h'; exact q)) (Nat.le_of_ble_eq_true rfl) ?_
        rintro _ m2 ⟨rfl, rfl⟩
        have hstep : wJ (nC X) n k (j + 1) c' m' = if m' 2 (c' * 6 + k) = -1 then m' else wJ (nC X) n k j (m' 2 (c' * 6 + k)) (jn 18 16 (n * (nC X : Int)) n c' k (m' 2 (c' * 6 + k)) m') := if_neg h
        refine ⟨by constructor <;> omega, ?_⟩
        have hgo : ∀ m3 : Mem, m3 1 = m 1 → m3 2 = m 2 → wJ (nC X) n k j (m' 2 (c' * 6 + k)) m3 = wJ (nC X) n k q c m → kW (eX X) 1 M_X3_addWire T 1 [some (vR 9), some (vI n), some (vI c), some (vI k), some (vI (q : Int)), some (vI (m' 2 (c' * 6 + k))), some (vI ((i : Int) + 1))] [] m3 := by
          intro m3 a1 a2 a3
          have := ih (i + 1) (m' 2 (c' * 6 + k)) m3 (by omega) (by rw [e2]; exact htt) a1 a2 a3
          rw [show ((i + 1 : Nat) : Int) = (i : Int) + 1 by omega] at this
          exact this
        by_cases ht : m' 2 (c' * 6 + k) = -1
        · rw [if_pos ht]
          refine hgo m' h1 h2 ?_
          rw [← hw, hstep, if_pos ht, ht, wJ_no]
        · rw [if_neg ht]
          refine hgo _ (by rw [jn_ne (by decide) (by decide)]; exact h1) (by rw [jn_ne (by decide) (by decide)]; exact h2) ?_
          rw [← hw, hstep, if_neg ht]
  refine kW_go ok_X3_addWire [1] 20 ?_
  exact loop q 0 c m (by omega) hc rfl rfl rfl
/-- a move taken from both its ends -/
def dn (b c k to : Int) (m : Mem) : Mem :=
  let m1 := mset m 19 (b + c) (kand (m 19 (b + c)) (kxor (kshl 1 k) (-1)))
  mset m1 19 (b + to) (kand (m1 19 (b + to)) (kxor (kshl 1 (oppF k)) (-1)))
theorem c_X3_dropTrace (X : Xv) (m : Mem) (n c k to : Int) (h324 : nC X ≤ 324) (g4 : m 1 4 = (nC X : Int)) (hn : 0 ≤ n ∧ n < 8) (hc : 0 ≤ c ∧ c < (nC X : Int)) (hk : 0 ≤ k ∧ k < 6) (hto : m 2 (c * 6 + k) = to) (ht : to ≠ -1 → 0 ≤ to ∧ to < (nC X : Int)) : kCall (eX X) 1 M_X3_dropTrace.1 [vR 9, vI n, vI c, vI k] m (fun r m' => r = none ∧ m' = if to = -1 then m else dn (n * (nC X : Int)) c k to m) := by
  have hi := ixn (N := (nC X : Int)) (by omega) hn hc
  refine kCall_ofT ok_X3_dropTrace rfl (Nat.le_of_ble_eq_true rfl) (fun T hT => ?_)
  refine kW_go ok_X3_dropTrace [] 20 ?_
  show inR (c * 6) ∧ inR (c * 6 + k) ∧ (0 ≤ c * 6 + k ∧ c * 6 + k < ((nC X * 6 : Nat) : Int)) ∧ ((m 2 (c * 6 + k) = -1 → T none m) ∧ (¬ m 2 (c * 6 + k) = -1 → inR (n * m 1 4) ∧ inR (n * m 1 4 + c) ∧ (0 ≤ n * m 1 4 + c ∧ n * m 1 4 + c < ((nC X * 8 : Nat) : Int)) ∧ (0 ≤ n * m 1 4 + c ∧ n * m 1 4 + c < ((nC X * 8 : Nat) : Int)) ∧ inR (n * m 1 4) ∧ inR (n * m 1 4 + m 2 (c * 6 + k)) ∧ (0 ≤ n * m 1 4 + m 2 (c * 6 + k) ∧ n * m 1 4 + m 2 (c * 6 + k) < ((nC X * 8 : Nat) : Int)) ∧ (0 ≤ k ∧ k < ((6 : Nat) : Int)) ∧ (0 ≤ n * m 1 4 + m 2 (c * 6 + k) ∧ n * m 1 4 + m 2 (c * 6 + k) < ((nC X * 8 : Nat) : Int)) ∧ T none (dn (n * m 1 4) c k (m 2 (c * 6 + k)) m)))
  rw [hto, g4]
  refine ⟨by constructor <;> omega, by constructor <;> omega, by constructor <;> omega, fun h => ?_, fun h => ?_⟩
  · exact hT _ _ ⟨rfl, by rw [if_pos h]⟩
  · have ht := ht h
    have hj := ixn (N := (nC X : Int)) (by omega) hn ht
    exact ⟨by constructor <;> omega, by constructor <;> omega, by constructor <;> omega, by constructor <;> omega, by constructor <;> omega, by constructor <;> omega, by constructor <;> omega, hk, by constructor <;> omega, hT _ _ ⟨rfl, by rw [if_neg h]⟩⟩
theorem c_X3_addPin (X : Xv) (m : Mem) (n c p : Int) (hn : 0 ≤ n ∧ n < 8) (hc : 0 ≤ c ∧ c < (nC X : Int)) (hp : m 13 n = p) (hp4 : 0 ≤ p ∧ p < 4) : kCall (eX X) 1 M_X3_addPin.1 [vR 9, vI n, vI c] m (fun r m' => r = some (vI p) ∧ m' = mset (mset (mset m 14 (n * 4 + p) c) 13 n (p + 1)) 16 c (kor (m 16 c) (kshl 1 n))) := by
  refine kCall_ofT ok_X3_addPin rfl (Nat.le_of_ble_eq_true rfl) (fun T hT => ?_)
  refine kW_go ok_X3_addPin [] 20 ?_
  show (0 ≤ n ∧ n < ((8 : Nat) : Int)) ∧ inR (n * 4) ∧ inR (n * 4 + m 13 n) ∧ (0 ≤ n * 4 + m 13 n ∧ n * 4 + m 13 n < ((32 : Nat) : Int)) ∧ (0 ≤ n ∧ n < ((8 : Nat) : Int)) ∧ inR (m 13 n + 1) ∧ (0 ≤ n ∧ n < ((8 : Nat) : Int)) ∧ (0 ≤ c ∧ c < (nC X : Int)) ∧ (0 ≤ c ∧ c < (nC X : Int)) ∧ T (some (vI (m 13 n))) (mset (mset (mset m 14 (n * 4 + m 13 n) c) 13 n (m 13 n + 1)) 16 c (kor (m 16 c) (kshl 1 n)))
  rw [hp]
  exact ⟨hn, by constructor <;> omega, by constructor <;> omega, by constructor <;> omega, hn, by constructor <;> omega, hn, hc, hc, hT _ _ ⟨rfl, rfl⟩⟩
