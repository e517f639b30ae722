/-! DELAY alike: both methods -/
theorem sumN_s (G : Int → Int) {i : Int} (h : 0 ≤ i) : sumN G (i + 1).toNat = sumN G i.toNat + G i := by
  rw [show (i + 1).toNat = i.toNat + 1 by omega]
  show sumN G i.toNat + G ((i.toNat : Nat) : Int) = _
  rw [show ((i.toNat : Nat) : Int) = i by omega]
theorem dlR_in {w d l a b : Int} {c r : Mem} (h88 : r 88 4 = c 47 0 ∧ ∀ k : Int, (0 ≤ k ∧ k < l) → r 88 k = c 47 (k + 1)) (h47 : ∀ j : Int, (0 ≤ j ∧ j ≤ l) → 0 ≤ c 47 j ∧ c 47 j ≤ 99) (hl : 0 ≤ l) (ha : inRf w d l a) : 0 ≤ dlR r a b ∧ dlR r a b ≤ 99 := by
  obtain ⟨⟨a1, a2⟩, -, -, a3⟩ := ha
  unfold dlR
  split
  · rw [h88.2 _ (by omega)]
    exact h47 _ (by omega)
  · rw [h88.1]
    exact h47 0 (by omega)
theorem c_X12_delayOf (X : Xv) (c m : Mem) {w d l : Int} (hD : okD w d l) (hN : w * d * l = (nC X : Int)) (n : Int) (hn : 0 ≤ n ∧ n < 8) (hW : WFn w d l c n) (hR : RRk w d l c m n) (h88 : m 88 4 = c 47 0 ∧ ∀ k : Int, (0 ≤ k ∧ k < l) → m 88 k = c 47 (k + 1)) (h47 : ∀ j : Int, (0 ≤ j ∧ j ≤ l) → 0 ≤ c 47 j ∧ c 47 j ≤ 99) : kCall (eX X) 3 M_X12_delayOf.1 [vR 54, vI n] m (cP (dlyA w d (nC X) c n) m) := by
  have hnb : 0 ≤ n ∧ n < ((8 : Nat) : Int) := hn
  have hl0 : 0 ≤ l := by have := hD.2.2; omega
  have hLw := hR.1
  have hLt := hR.2.2.1
  have hw0 := hLw.1.1
  have hw9 := okL_le hD hLw.1
  have ht0 := hLt.1.1
  have ht9 := okL_le hD hLt.1
  have hsum := dly_R hD hN hn hW hR h88
  have hvw : ∀ i : Int, (0 ≤ i ∧ i < m 65 n) → (0 ≤ m 66 (1200 * n + i) ∧ m 66 (1200 * n + i) < 324) ∧ (0 ≤ m 67 (1200 * n + i) ∧ m 67 (1200 * n + i) < 324) ∧ 0 ≤ dlR m (m 66 (1200 * n + i)) (m 67 (1200 * n + i)) ∧ dlR m (m 66 (1200 * n + i)) (m 67 (1200 * n + i)) ≤ 99 := fun i hi => by
    have := LT_val hD hLw hi
    exact ⟨this.1, this.2.1, dlR_in h88 h47 hl0 this.2.2.1⟩
  have hvt : ∀ i : Int, (0 ≤ i ∧ i < m 68 n) → (0 ≤ m 69 (2400 * n + i) ∧ m 69 (2400 * n + i) < 324) ∧ (0 ≤ m 70 (2400 * n + i) ∧ m 70 (2400 * n + i) < 324) ∧ 0 ≤ dlR m (m 69 (2400 * n + i)) (m 70 (2400 * n + i)) ∧ dlR m (m 69 (2400 * n + i)) (m 70 (2400 * n + i)) ≤ 99 := fun i hi => by
    have := LT_val hD hLt hi
    exact ⟨this.1, this.2.1, dlR_in h88 h47 hl0 this.2.2.1⟩
  refine kCall_ofT ok_X12_delayOf rfl (Nat.le_of_ble_eq_true rfl) (fun T hT => ?_)
  obtain ⟨A, hA⟩ : ∃ A : Int → Int, ∀ i, A i = dlR m (m 66 (1200 * n + i)) (m 67 (1200 * n + i)) := ⟨_, fun _ => rfl⟩
  obtain ⟨B, hBd⟩ : ∃ B : Int → Int, ∀ i, B i = iv (¬ wrP m n (m 69 (2400 * n + i)) (m 70 (2400 * n + i))) (dlR m (m 69 (2400 * n + i)) (m 70 (2400 * n + i))) := ⟨_, fun _ => rfl⟩
  have hsum : sumN A (m 65 n).toNat + sumN B (m 68 n).toNat = dlyA w d (nC X) c n := by
    rw [← hsum, sumN_cong (fun i _ _ => hA i), sumN_cong (fun i _ _ => hBd i)]
  have traces : ∀ (k : Nat) (i : Int), i + k = m 68 n → 0 ≤ i → (0 ≤ sumN A (m 65 n).toNat ∧ sumN A (m 65 n).toNat ≤ 99 * m 65 n) → (0 ≤ sumN B i.toNat ∧ sumN B i.toNat ≤ 99 * i) → kW (eX X) 2 M_X12_delayOf T 3 [some (vR 54), some (vI n), some (vI (sumN A (m 65 n).toNat + sumN B i.toNat)), some (vI i)] [] m := by
    intro k
    induction k with
    | zero =>
      intro i hik hi0 ha hb
      refine kW_go ok_X12_delayOf [3] 20 ?_
      refine ⟨hnb, And.intro (fun _ => hT _ _ ⟨?_, rfl⟩) (fun h => ?_)⟩
      · rw [show i = m 68 n by omega, hsum]
      · have h : i < m 68 n := h
        omega
    | succ k ih =>
      intro i hik hi0 ha hb
      have hv := hvt i (by omega)
      have hix : 0 ≤ 2400 * n + i ∧ 2400 * n + i < ((19200 : Nat) : Int) := by omega
      have hBi : 0 ≤ B i ∧ B i ≤ 99 := by rw [hBd]; exact iv_in hv.2.2
      have hnext := ih (i + 1) (by omega) (by omega) ha (by rw [sumN_s B hi0]; omega)
      rw [sumN_s B hi0, ← Int.add_assoc] at hnext
      refine kW_go ok_X12_delayOf [3] 20 ?_
      refine ⟨hnb, And.intro (fun h => ?_) (fun _ => ?_)⟩
      · have h : m 68 n ≤ i := h
        omega
      refine kCall_mono (c_X12_isFirstThere X m (w := w) (d := d) (l := l) n i hn hLt.1 ht9 ⟨hw0, by omega⟩ (by omega)) (Nat.le_of_ble_eq_true rfl) ?_
      rintro _ m2 ⟨⟨hh, rfl⟩ | ⟨hh, rfl⟩, rfl⟩
      · refine And.intro (fun h => absurd h (by decide)) (fun _ => ⟨by constructor <;> omega, by constructor <;> omega, hix, by constructor <;> omega, by constructor <;> omega, hix, ?_⟩)
        refine kCall_mono (c_X12_delayed X m2 _ _ hv.1 hv.2.1) (Nat.le_of_ble_eq_true rfl) ?_
        rintro _ m3 ⟨rfl, rfl⟩
        have e : B i = dlR m3 (m3 69 (2400 * n + i)) (m3 70 (2400 * n + i)) := by rw [hBd, iv_t hh]
        rw [e] at hnext
        exact ⟨by constructor <;> omega, by constructor <;> omega, hnext⟩
      · refine And.intro (fun _ => ?_) (fun h => absurd rfl h)
        have e : B i = 0 := by rw [hBd, iv_f hh]
        rw [e] at hnext
        exact ⟨by constructor <;> omega, by constructor <;> omega, hnext⟩
  have wires : ∀ (k : Nat) (i : Int), i + k = m 65 n → 0 ≤ i → (0 ≤ sumN A i.toNat ∧ sumN A i.toNat ≤ 99 * i) → kW (eX X) 2 M_X12_delayOf T 1 [some (vR 54), some (vI n), some (vI (sumN A i.toNat)), some (vI i)] [] m := by
    intro k
    induction k with
    | zero =>
      intro i hik hi0 ha
      have hi : i = m 65 n := by omega
      refine kW_go ok_X12_delayOf [1, 3] 20 ?_
      refine ⟨hnb, And.intro (fun _ => ?_) (fun h => ?_)⟩
      · rw [hi] at ha ⊢
        have := traces (m 68 n).toNat 0 (by omega) (by omega) ha (by show 0 ≤ (0 : Int) ∧ (0 : Int) ≤ 99 * 0; omega)
        rw [show sumN B (0 : Int).toNat = 0 from rfl, Int.add_zero] at this
        exact this
      · have h : i < m 65 n := h
        omega
    | succ k ih =>
      intro i hik hi0 ha
      have hv := hvw i (by omega)
      have hix : 0 ≤ 1200 * n + i ∧ 1200 * n + i < ((9600 : Nat) : Int) := by omega
      have hAi : 0 ≤ A i ∧ A i ≤ 99 := by rw [hA]; exact hv.2.2
      have hnext := ih (i + 1) (by omega) (by omega) (by rw [sumN_s A hi0]; omega)
      rw [sumN_s A hi0, hA i] at hnext
      rw [hA] at hAi
      refine kW_go ok_X12_delayOf [1, 3] 20 ?_
      refine ⟨hnb, And.intro (fun h => ?_) (fun _ => ⟨by constructor <;> omega, by constructor <;> omega, hix, by constructor <;> omega, by constructor <;> omega, hix, ?_⟩)⟩
      · have h : m 65 n ≤ i := h
        omega
      refine kCall_mono (c_X12_delayed X m _ _ hv.1 hv.2.1) (Nat.le_of_ble_eq_true rfl) ?_
      rintro _ m3 ⟨rfl, rfl⟩
      exact ⟨by constructor <;> omega, by constructor <;> omega, hnext⟩
  refine kW_go ok_X12_delayOf [1] 20 ?_
  exact wires (m 65 n).toNat 0 (by omega) (by omega) (by show 0 ≤ (0 : Int) ∧ (0 : Int) ≤ 99 * 0; omega)
theorem pop6_in {v : Int} (h : 0 ≤ v ∧ v < 64) : (0 ≤ pop (kand v 6) ∧ pop (kand v 6) ≤ 2) ∧ (0 ≤ kand (kshr v 4) 1 ∧ kand (kshr v 4) 1 ≤ 1) ∧ (0 ≤ kand v 6 ∧ kand v 6 < 256) := by
  have : ∀ i : Fin 64, (0 ≤ pop (kand (i.val : Int) 6) ∧ pop (kand (i.val : Int) 6) ≤ 2) ∧ (0 ≤ kand (kshr (i.val : Int) 4) 1 ∧ kand (kshr (i.val : Int) 4) 1 ≤ 1) ∧ (0 ≤ kand (i.val : Int) 6 ∧ kand (i.val : Int) 6 < 256) := by decide +kernel
  exact k_fin (P := fun v => (0 ≤ pop (kand v 6) ∧ pop (kand v 6) ≤ 2) ∧ (0 ≤ kand (kshr v 4) 1 ∧ kand (kshr v 4) 1 ≤ 1) ∧ (0 ≤ kand v 6 ∧ kand v 6 < 256)) this h.1 (by omega)
theorem r3_lin {v s t : Int} (h : 0 ≤ v ∧ v < 64) : pop (kand v 6) * s + kand (kshr v 4) 1 * t = r3 v (fun k => if k = 4 then t else s) := by
  rw [(pop6 h).1, (pop6 h).2]
  unfold r3
  simp only [show ((1 : Int) = 4) = False from eq_false (by decide), show ((2 : Int) = 4) = False from eq_false (by decide), if_false, if_true]
  split <;> split <;> split <;> omega
theorem c_X0_delayOf (X : Xv) (m : Mem) {w d l : Int} (hB : Bd X w d l m) (n : Int) (hn : 0 ≤ n ∧ n < 8) (hW : WFn w d l m n) (hl : l = (nL X : Int)) (h47 : ∀ j : Int, (0 ≤ j ∧ j ≤ l) → 0 ≤ m 47 j ∧ m 47 j ≤ 99) : kCall (eX X) 2 M_X0_delayOf.1 [vR 46, vI n] m (cP (dlyA w d (nC X) m n) m) := by
  obtain ⟨hD, hN, hG⟩ := id hB
  have hc4 := okD_cells hD
  have g4 : m 1 4 = (nC X : Int) := by rw [hG.2.2.2.2.1]; exact hN
  refine kCall_ofT ok_X0_delayOf rfl (Nat.le_of_ble_eq_true rfl) (fun T hT => ?_)
  obtain ⟨A, hA⟩ : ∃ A : Int → Int, ∀ x, A x = r3 (kor (m 18 (n * (nC X : Int) + x)) (m 19 (n * (nC X : Int) + x))) (dlC w d m x) := ⟨_, fun _ => rfl⟩
  have hsum : sumN A (nC X) = dlyA w d (nC X) m n := sumN_cong (fun i _ _ => hA i)
  have loop : ∀ (k : Nat) (i : Int) (x4 : Option AV), i + k = (nC X : Int) → 0 ≤ i → (0 ≤ sumN A i.toNat ∧ sumN A i.toNat ≤ 297 * i) → kW (eX X) 1 M_X0_delayOf T 1 [some (vR 46), some (vI n), some (vI (sumN A i.toNat)), some (vI i), x4] [] m := by
    intro k
    induction k with
    | zero =>
      intro i x4 hik hi0 ha
      refine kW_go ok_X0_delayOf [1] 20 ?_
      refine And.intro (fun _ => hT _ _ ⟨?_, rfl⟩) (fun h => ?_)
      · rw [show i.toNat = nC X by omega, hsum]
      · have h : i < m 1 4 := h
        omega
    | succ k ih =>
      intro i x4 hik hi0 ha
      have hb : 0 ≤ i ∧ i < (nC X : Int) := by omega
      have hx : inC w d l i := ⟨hi0, by omega⟩
      have hv := (hW.1 i hx).1
      rw [hN] at hv
      have hz := gZ_in hD hx
      have e5 : m 5 i = gZ w d i := (hG.2.2.2.2.2 i hx).2.2.1
      have q1 := h47 (gZ w d i + 1) (by omega)
      have q0 := h47 0 (by omega)
      have hor : 0 ≤ kor (m 18 (n * (nC X : Int) + i)) (m 19 (n * (nC X : Int) + i)) ∧ kor (m 18 (n * (nC X : Int) + i)) (m 19 (n * (nC X : Int) + i)) < 64 := kor_lt (n := 6) (by decide) (inR_small (by omega)) (inR_small (by omega)) hv.1 hv.2
      have hp := pop6_in hor
      have hAe : A i = pop (kand (kor (m 18 (n * (nC X : Int) + i)) (m 19 (n * (nC X : Int) + i))) 6) * m 47 (gZ w d i + 1) + kand (kshr (kor (m 18 (n * (nC X : Int) + i)) (m 19 (n * (nC X : Int) + i))) 4) 1 * m 47 0 := by
        rw [hA, r3_lin hor]
        rfl
      have m1 := mb hp.1 q1
      have m2 := mb hp.2.1 q0
      have hnext := fun x4 => ih (i + 1) x4 (by omega) (by omega) (by rw [sumN_s A hi0, hAe]; omega)
      rw [sumN_s A hi0, hAe, ← Int.add_assoc] at hnext
      refine kW_go ok_X0_delayOf [1] 20 ?_
      refine And.intro (fun h => ?_) (fun _ => ?_)
      · have h : m 1 4 ≤ i := h
        omega
      refine kCall_mono (c_X3_movesAt X m n i (by omega) g4 hn hb) (Nat.le_of_ble_eq_true rfl) ?_
      rintro _ m3 ⟨rfl, rfl⟩
      generalize hV : kor (m3 18 (n * (nC X : Int) + i)) (m3 19 (n * (nC X : Int) + i)) = V at *
      refine kCall_mono (c_bitCount (eX X) m3 (kand V 6) hp.2.2.1 hp.2.2.2) (Nat.le_of_ble_eq_true rfl) ?_
      rintro _ m4 ⟨rfl, rfl⟩
      show (0 ≤ i ∧ i < (nC X : Int)) ∧ inR (m4 5 i + 1) ∧ (0 ≤ m4 5 i + 1 ∧ m4 5 i + 1 < ((nL X + 1 : Nat) : Int)) ∧ inR (pop (kand V 6) * m4 47 (m4 5 i + 1)) ∧ inR (sumN A i.toNat + pop (kand V 6) * m4 47 (m4 5 i + 1)) ∧ (0 ≤ (0 : Int) ∧ (0 : Int) < ((nL X + 1 : Nat) : Int)) ∧ inR (kand (kshr V 4) 1 * m4 47 0) ∧ inR (sumN A i.toNat + pop (kand V 6) * m4 47 (m4 5 i + 1) + kand (kshr V 4) 1 * m4 47 0) ∧ inR (i + 1) ∧ kW (eX X) 1 M_X0_delayOf T 1 [some (vR 46), some (vI n), some (vI (sumN A i.toNat + pop (kand V 6) * m4 47 (m4 5 i + 1) + kand (kshr V 4) 1 * m4 47 0)), some (vI (i + 1)), some (vI V)] [] m4
      rw [e5]
      exact ⟨hb, by constructor <;> omega, by omega, by constructor <;> omega, by constructor <;> omega, by omega, by constructor <;> omega, by constructor <;> omega, by constructor <;> omega, hnext _⟩
  refine kW_go ok_X0_delayOf [1] 20 ?_
  exact loop (nC X) 0 none (by omega) (by omega) (by show 0 ≤ (0 : Int) ∧ (0 : Int) ≤ 297 * 0; omega)
theorem pair_delay (X : Xv) (m : Mem) {w d l : Int} (hI : Inv X w d l m) (n : Int) : kPair X 164 296 [vI n] m (Inv X w d l) := by
  obtain ⟨hB, hl, hW, hR, h60, h31⟩ := id hI
  have hD := hB.1
  have hN := hB.2.1
  have h8 := hW.1.2.1
  have h26 : m 54 26 = m 9 14 := hR.1.2.2.2.1.1
  refine kp2 (k1 := 4) (k2 := 5) (by decide) (by decide) ?_
  refine kCall_ofT ok_X11_delay rfl (Nat.le_of_ble_eq_true rfl) (fun T hT => ?_)
  have ref : ∀ z : Int, (((0 ≤ n ∧ n < m 9 14) ∧ z = dlyA w d (nC X) m n) ∨ (¬ (0 ≤ n ∧ n < m 9 14) ∧ z = -1)) → kCall (eX X) 5 296 [vR 54, vI n] m (fun r2 m2 => r2 = some (vI z) ∧ Inv X w d l m2) := by
    intro z hz
    refine kCall_ofT ok_X12_delay rfl (Nat.le_of_ble_eq_true rfl) (fun T2 hT2 => ?_)
    refine kW_go ok_X12_delay [] 20 ?_
    refine kCall_mono (c_X12_isNet X m n (by omega)) (Nat.le_of_ble_eq_true rfl) ?_
    rintro _ m ⟨rfl, rfl⟩
    rw [h26]
    rcases hz with ⟨hnn, rfl⟩ | ⟨hnn, rfl⟩
    · rw [b2i_t hnn]
      refine And.intro (fun h => absurd h (by decide)) (fun _ => ?_)
      refine kCall_mono (c_X12_delayOf X m m hD hN n (by omega) (hW.2.2.1 n (by omega)) (RRn_k.mp (hR.2.1 n (by omega))).1 hR.1.2.2.2.2.2.2 hW.2.2.2.2.2.2) (Nat.le_of_ble_eq_true rfl) ?_
      rintro _ m2 ⟨rfl, rfl⟩
      exact hT2 _ _ ⟨rfl, hI⟩
    · rw [b2i_f hnn]
      exact And.intro (fun _ => hT2 _ _ ⟨rfl, hI⟩) (fun h => absurd rfl h)
  refine kW_go ok_X11_delay [] 20 ?_
  refine kCall_mono (c_X11_isNet X m n) (Nat.le_of_ble_eq_true rfl) ?_
  rintro _ m ⟨rfl, rfl⟩
  by_cases hnn : 0 ≤ n ∧ n < m 9 14
  · rw [b2i_t hnn]
    refine And.intro (fun h => absurd h (by decide)) (fun _ => ?_)
    refine kCall_mono (c_X0_delayOf X m hB n (by omega) (hW.2.2.1 n (by omega)) hl hW.2.2.2.2.2.2) (Nat.le_of_ble_eq_true rfl) ?_
    rintro _ m2 ⟨rfl, rfl⟩
    exact hT _ _ ⟨_, rfl, ref _ (Or.inl ⟨hnn, rfl⟩)⟩
  · rw [b2i_f hnn]
    exact And.intro (fun _ => hT _ _ ⟨_, rfl, ref _ (Or.inr ⟨hnn, rfl⟩)⟩) (fun h => absurd rfl h)
