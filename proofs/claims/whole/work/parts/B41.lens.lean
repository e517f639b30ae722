/-! BESIDE alike -/
theorem lenA_in {N : Nat} {c : Mem} (n : Int) : 0 ≤ lenA N c n ∧ lenA N c n ≤ 8 * N := sumN_01 (fun i => pop_in _) N
theorem viaA_in {N : Nat} {c : Mem} (n : Int) : 0 ≤ viaA N c n ∧ viaA N c n ≤ 1 * N := sumN_01 (fun i => k_and1 _) N
/-- the lengths, or the holes, of all nets -/
def allA (N : Nat) (c : Mem) (b : Int) : Int := sumN (fun n => if b = 0 then viaA N c n else lenA N c n) (c 9 14).toNat
theorem allA_in {N : Nat} {c : Mem} (hN : (N : Int) ≤ 324) (b : Int) (k : Nat) : 0 ≤ sumN (fun n => if b = 0 then viaA N c n else lenA N c n) k ∧ sumN (fun n => if b = 0 then viaA N c n else lenA N c n) k ≤ 2592 * k := sumN_01 (fun n => by
  have h1 := lenA_in (N := N) (c := c) n
  have h2 := viaA_in (N := N) (c := c) n
  show 0 ≤ (if b = 0 then viaA N c n else lenA N c n) ∧ (if b = 0 then viaA N c n else lenA N c n) ≤ 2592
  split <;> omega) k
theorem c_X5_wholeFigure (X : Xv) (m : Mem) {w d l : Int} (hB : Bd X w d l m) (h8 : 0 ≤ m 9 14 ∧ m 9 14 ≤ 8) (b : Int) : kCall (eX X) 3 M_X5_wholeFigure.1 [vR 37, vI b] m (cP (allA (nC X) m b) m) := by
  obtain ⟨hD, hN, hG⟩ := id hB
  have hc4 := okD_cells hD
  have g4 : m 1 4 = (nC X : Int) := by rw [hG.2.2.2.2.1, hN]
  refine kCall_ofT ok_X5_wholeFigure rfl (Nat.le_of_ble_eq_true rfl) (fun T hT => ?_)
  obtain ⟨A, hA⟩ : ∃ A : Int → Int, ∀ n, A n = if b = 0 then viaA (nC X) m n else lenA (nC X) m n := ⟨_, fun _ => rfl⟩
  have hsum : sumN A (m 9 14).toNat = allA (nC X) m b := sumN_cong (fun o _ _ => hA o)
  have bA : ∀ k : Nat, 0 ≤ sumN A k ∧ sumN A k ≤ 2592 * k := fun k => by
    rw [sumN_cong (fun o _ _ => hA o)]
    exact allA_in (by omega) b k
  have loop : ∀ (k : Nat) (n : Int), n + k = m 9 14 → 0 ≤ n → kW (eX X) 2 M_X5_wholeFigure T 1 [some (vR 37), some (vI b), some (vI (sumN A n.toNat)), some (vI n)] [] m := by
    intro k
    induction k with
    | zero =>
      intro n hk h0
      refine kW_go ok_X5_wholeFigure [1] 20 ?_
      refine And.intro (fun _ => hT _ _ ⟨?_, rfl⟩) (fun h => ?_)
      · rw [show n = m 9 14 by omega, hsum]
      · have h : n < m 9 14 := h
        omega
    | succ k ih =>
      intro n hk h0
      have hn8 : 0 ≤ n ∧ n < 8 := by omega
      have hb := bA n.toNat
      have hb2 := bA (n + 1).toNat
      have hnext := ih (n + 1) (by omega) (by omega)
      rw [sumN_s A h0] at hnext hb2
      refine kW_go ok_X5_wholeFigure [1] 20 ?_
      refine And.intro (fun h => ?_) (fun _ => And.intro (fun h => ?_) (fun h => ?_))
      · have h : m 9 14 ≤ n := h
        omega
      · have h : b = 0 := h
        refine kCall_mono (c_X3_viasOf X m n (by omega) g4 hn8) (Nat.le_of_ble_eq_true rfl) ?_
        rintro _ m2 ⟨rfl, rfl⟩
        have e : A n = sumN (fun c => kand (kshr (m2 19 (n * (nC X : Int) + c)) 4) 1) (nC X) := by rw [hA, if_pos h]; rfl
        rw [e] at hnext hb2
        exact ⟨by constructor <;> omega, by constructor <;> omega, hnext⟩
      · have h : ¬ b = 0 := h
        refine kCall_mono (c_X3_lengthOf X m n (by omega) g4 hn8) (Nat.le_of_ble_eq_true rfl) ?_
        rintro _ m2 ⟨rfl, rfl⟩
        have e : A n = sumN (fun c => pop (kand (m2 19 (n * (nC X : Int) + c)) 6)) (nC X) := by rw [hA, if_neg h]; rfl
        rw [e] at hnext hb2
        exact ⟨by constructor <;> omega, by constructor <;> omega, hnext⟩
  refine kW_go ok_X5_wholeFigure [1] 20 ?_
  exact loop (m 9 14).toNat 0 (by omega) (by omega)
theorem c_X12_lengths (X : Xv) (c m : Mem) {w d l : Int} (hD : okD w d l) (hN : w * d * l = (nC X : Int)) (hM : WM w d l c) (hR : RR0 w d l c m) (b : Int) : kCall (eX X) 3 M_X12_lengths.1 [vR 54, vI b] m (cP (allA (nC X) c (if b = 0 then 1 else 0)) m) := by
  have hc4 := okD_cells hD
  have h8 := hM.1.2.1
  have h26 : m 54 26 = c 9 14 := hR.1.2.2.2.1.1
  refine kCall_ofT ok_X12_lengths rfl (Nat.le_of_ble_eq_true rfl) (fun T hT => ?_)
  obtain ⟨A, hA⟩ : ∃ A : Int → Int, ∀ n, A n = if (if b = 0 then (1 : Int) else 0) = 0 then viaA (nC X) c n else lenA (nC X) c n := ⟨_, fun _ => rfl⟩
  have hsum : sumN A (c 9 14).toNat = allA (nC X) c (if b = 0 then 1 else 0) := sumN_cong (fun o _ _ => hA o)
  have bA : ∀ k : Nat, 0 ≤ sumN A k ∧ sumN A k ≤ 2592 * k := fun k => by
    rw [sumN_cong (fun o _ _ => hA o)]
    exact allA_in (by omega) _ k
  have loop : ∀ (k : Nat) (n : Int), n + k = c 9 14 → 0 ≤ n → kW (eX X) 2 M_X12_lengths T 1 [some (vR 54), some (vI b), some (vI (sumN A n.toNat)), some (vI n)] [] m := by
    intro k
    induction k with
    | zero =>
      intro n hk h0
      refine kW_go ok_X12_lengths [1] 20 ?_
      refine And.intro (fun _ => hT _ _ ⟨?_, rfl⟩) (fun h => ?_)
      · rw [show n = c 9 14 by omega, hsum]
      · have h : n < m 54 26 := h
        omega
    | succ k ih =>
      intro n hk h0
      have hn8 : 0 ≤ n ∧ n < 8 := by omega
      have hnb : 0 ≤ n ∧ n < ((8 : Nat) : Int) := hn8
      have hb := bA n.toNat
      have hb2 := bA (n + 1).toNat
      have hnext := ih (n + 1) (by omega) (by omega)
      rw [sumN_s A h0] at hnext hb2
      have hRk := (RRn_k.mp (hR.2 n hn8)).1
      have hlen := len_list hD hN hn8 (hM.2.2.1 n hn8) hRk
      have hv := viaA_in (N := nC X) (c := c) n
      have hl := lenA_in (N := nC X) (c := c) n
      refine kW_go ok_X12_lengths [1] 20 ?_
      refine And.intro (fun h => ?_) (fun _ => And.intro (fun h => ?_) (fun h => ?_))
      · have h : m 54 26 ≤ n := h
        omega
      · have h : b = 0 := h
        refine kCall_mono (c_X12_lengthOf X c m hD hN n hn8 (hM.2.2.1 n hn8) hRk) (Nat.le_of_ble_eq_true rfl) ?_
        rintro _ m2 ⟨rfl, rfl⟩
        have e : A n = lenA (nC X) c n := by rw [hA, if_pos h, if_neg (by decide)]
        rw [e] at hnext hb2
        exact ⟨by constructor <;> omega, by constructor <;> omega, hnext⟩
      · have h : ¬ b = 0 := h
        refine ⟨hnb, ?_⟩
        refine kCall_mono (c_X12_lengthOf X c m hD hN n hn8 (hM.2.2.1 n hn8) hRk) (Nat.le_of_ble_eq_true rfl) ?_
        rintro _ m2 ⟨rfl, rfl⟩
        have e : A n = m2 68 n - lenA (nC X) c n := by rw [hA, if_neg h, if_pos rfl, hlen.2.1]; rfl
        have e2 : m2 68 n - lenA (nC X) c n = viaA (nC X) c n := hlen.2.1
        rw [e] at hnext hb2
        exact ⟨by constructor <;> omega, by constructor <;> omega, by constructor <;> omega, hnext⟩
  refine kW_go ok_X12_lengths [1] 20 ?_
  exact loop (c 9 14).toNat 0 (by omega) (by omega)
/-- the bits of an order are nets with pins -/
theorem kor_bit_in {s n : Int} (hs : 0 ≤ s ∧ s < 256) (hn : 0 ≤ n ∧ n < 8) (k : Nat) : bt (kor s (kshl 1 n)) k = true ↔ bt s k = true ∨ (k : Int) = n := by
  rw [bt_or, bt_bit hn.1 (by omega), Bool.or_eq_true, decide_eq_true_eq]
theorem oN_bits {w d l : Int} {ex : Int → Int} {N : Int} (hN8 : N ≤ 8) : ∀ {j : Nat} {n r : Int} {c : Mem} {s s' : Int} {c' : Mem}, (0 ≤ n ∧ n + j ≤ N) → oN w d l ex j n r c s s' c' → (0 ≤ s ∧ s < 256) → (0 ≤ s' ∧ s' < 256) ∧ (∀ o, o ≠ 17 → o ≠ 19 → c' o = c o) ∧ ∀ k : Nat, bt s' k = true → bt s k = true ∨ ((k : Int) < N ∧ 0 < c 13 (k : Int))
  | 0, n, r, c, s, s', c', hn, h, hs => by
    rw [h.1, h.2]
    exact ⟨hs, fun _ _ _ => rfl, fun k hk => Or.inl hk⟩
  | j + 1, n, r, c, s, s', c', hn, h, hs => by
    rcases h with ⟨a1, a2⟩ | ⟨a1, r1, x1, a2, a3⟩
    · exact oN_bits hN8 (by omega) a2 hs
    · have hx : ∀ o, o ≠ 17 → o ≠ 19 → x1 o = c o := by
        intro o p q
        rcases a2 with ⟨-, -, e⟩ | ⟨-, c2, hL, ⟨-, e⟩ | ⟨-, e⟩⟩
        · rw [e]
        · rw [e]
        · rw [e, LRw_ne hL o p q, rmT_ne p q]
      by_cases hr : r1 = none
      · rw [if_pos hr] at a3
        obtain ⟨b1, b2, b3⟩ := oN_bits hN8 (by omega) a3 (kor8 hs (bit8 (by omega)))
        refine ⟨b1, fun o p q => (b2 o p q).trans (hx o p q), fun k hk => ?_⟩
        rcases b3 k hk with z | z
        · rcases (kor_bit_in hs (by omega) k).mp z with z | z
          · exact Or.inl z
          · exact Or.inr ⟨by omega, by rw [z]; exact a1.2⟩
        · rw [hx 13 (by decide) (by decide)] at z
          exact Or.inr z
      · rw [if_neg hr] at a3
        obtain ⟨b1, b2, b3⟩ := oN_bits hN8 (by omega) a3 hs
        refine ⟨b1, fun o p q => (b2 o p q).trans (hx o p q), fun k hk => ?_⟩
        rw [← hx 13 (by decide) (by decide)]
        exact b3 k hk
theorem oR_bits {w d l : Int} {ex : Int → Int} : ∀ {j : Nat} {r : Int} {c : Mem} {s s' : Int} {c' : Mem}, (0 ≤ c 9 14 ∧ c 9 14 ≤ 8) → oR w d l ex j r c s s' c' → (0 ≤ s ∧ s < 256) → (0 ≤ s' ∧ s' < 256) ∧ (∀ o, o ≠ 17 → o ≠ 19 → c' o = c o) ∧ ∀ k : Nat, bt s' k = true → bt s k = true ∨ ((k : Int) < c 9 14 ∧ 0 < c 13 (k : Int))
  | 0, r, c, s, s', c', h8, h, hs => by
    rw [h.1, h.2]
    exact ⟨hs, fun _ _ _ => rfl, fun k hk => Or.inl hk⟩
  | j + 1, r, c, s, s', c', h8, ⟨s1, c1, h1, h2⟩, hs => by
    obtain ⟨a1, a2, a3⟩ := oN_bits h8.2 (by omega) h1 hs
    obtain ⟨b1, b2, b3⟩ := oR_bits (by rw [a2 9 (by decide) (by decide)]; exact h8) h2 a1
    refine ⟨b1, fun o p q => (b2 o p q).trans (a2 o p q), fun k hk => ?_⟩
    rw [a2 9 (by decide) (by decide), a2 13 (by decide) (by decide)] at b3
    rcases b3 k hk with z | z
    · exact a3 k z
    · exact Or.inr z
/-- nets with pins that an order has laid -/
noncomputable def laidN (c : Mem) (s : Int) : Int := sumN (fun n => iv (0 < c 13 n ∧ bt s n.toNat = false) 1) (c 9 14).toNat
theorem laid_pop {w d l : Int} {ex : Int → Int} {c c' : Mem} {s : Int} (h8 : 0 ≤ c 9 14 ∧ c 9 14 ≤ 8) (h : ordA w d l ex c s c') : laidN c' s = sumN (fun n => iv (0 < c 13 n) 1) (c 9 14).toNat - pop s ∧ (0 ≤ s ∧ s < 256) ∧ ∀ o, o ≠ 17 → o ≠ 19 → c' o = c o := by
  have hrm : ∀ o, o ≠ 17 → o ≠ 19 → rmA (w * d * l) c o = c o := fun o a b => rmA_ne a b
  obtain ⟨h1, h2, h3⟩ := oR_bits (by rw [hrm 9 (by decide) (by decide)]; exact h8) h (by decide)
  have hc : ∀ o, o ≠ 17 → o ≠ 19 → c' o = c o := fun o a b => (h2 o a b).trans (hrm o a b)
  have h4 : ∀ k : Nat, bt s k = true → (k : Int) < c 9 14 ∧ 0 < c 13 (k : Int) := by
    intro k hk
    rw [hrm 9 (by decide) (by decide), hrm 13 (by decide) (by decide)] at h3
    rcases h3 k hk with z | z
    · rw [bt_zero] at z; cases z
    · exact z
  refine ⟨?_, h1, hc⟩
  unfold laidN
  rw [hc 9 (by decide) (by decide), hc 13 (by decide) (by decide), pop_sum h1]
  have hz : sumN (fun o => if bt s o.toNat = true then 1 else 0) 8 = sumN (fun o => if bt s o.toNat = true then 1 else 0) (c 9 14).toNat := by
    refine sum_cut (by omega) (fun i i1 i2 => ?_)
    show (if bt s i.toNat = true then (1 : Int) else 0) = 0
    refine if_neg (fun z => ?_)
    have := (h4 i.toNat z).1
    omega
  rw [hz]
  have hs : sumN (fun n => iv (0 < c 13 n) 1) (c 9 14).toNat = sumN (fun n => iv (0 < c 13 n ∧ bt s n.toNat = false) 1) (c 9 14).toNat + sumN (fun o => if bt s o.toNat = true then 1 else 0) (c 9 14).toNat := by
    rw [← sumN_plus]
    refine sumN_cong (fun i i1 i2 => ?_)
    show iv (0 < c 13 i) 1 = iv (0 < c 13 i ∧ bt s i.toNat = false) 1 + if bt s i.toNat = true then (1 : Int) else 0
    have h5 := h4 i.toNat
    rw [show ((i.toNat : Nat) : Int) = i by omega] at h5
    cases hb : bt s i.toNat with
    | true => rw [iv_t (h5 hb).2, iv_f (fun z => by cases z.2), if_pos rfl]; rfl
    | false =>
      rw [if_neg (by decide), Int.add_zero]
      exact iv_cong ⟨fun z => ⟨z, rfl⟩, fun z => z.1⟩
  omega
