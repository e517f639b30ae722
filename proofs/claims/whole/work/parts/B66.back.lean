/-! BACK alike -/
theorem lay_q {w d l z q : Int} (hD : okD w d l) (hz : 0 ≤ z ∧ z < l) (hq : 0 ≤ q ∧ q < w * d) : inC w d l (z * (w * d) + q) ∧ gZ w d (z * (w * d) + q) = z := by
  obtain ⟨⟨w1, w2⟩, ⟨d1, d2⟩, l1, l2⟩ := id hD
  have h0z : 0 ≤ z * (w * d) := Int.mul_nonneg hz.1 (by omega)
  have hle : (z + 1) * (w * d) ≤ l * (w * d) := Int.mul_le_mul_of_nonneg_right (by omega) (by omega)
  rw [Int.add_mul, Int.one_mul, Int.mul_comm l] at hle
  refine ⟨⟨by omega, by omega⟩, ?_⟩
  unfold gZ
  have h3 : z ≤ (z * (w * d) + q) / (w * d) := Int.le_ediv_of_mul_le (by omega) (by omega)
  have h4 : (z * (w * d) + q) / (w * d) < z + 1 := Int.ediv_lt_of_lt_mul (by omega) (by rw [Int.add_mul, Int.one_mul]; omega)
  omega
theorem nx_up {w d l x : Int} (hD : okD w d l) (hne : nx w d l x 4 ≠ -1) : nx w d l x 4 = x + w * d := by
  have h := nx_in hne
  have e1 := ix_eta hD x
  have e2 := ix_eta hD (nx w d l x 4)
  rw [h.2.1, h.2.2.1, h.2.2.2, show dX 4 = 0 from rfl, show dY 4 = 0 from rfl, show dZ 4 = 1 from rfl, Int.add_zero, Int.add_zero] at e2
  unfold ix at e1 e2
  rw [Int.add_mul, Int.one_mul] at e2
  omega
theorem nx_dn {w d l x : Int} (hD : okD w d l) (hne : nx w d l x 5 ≠ -1) : nx w d l x 5 = x - w * d := by
  have h := nx_in hne
  have e1 := ix_eta hD x
  have e2 := ix_eta hD (nx w d l x 5)
  rw [h.2.1, h.2.2.1, h.2.2.2, show dX 5 = 0 from rfl, show dY 5 = 0 from rfl, show dZ 5 = -1 from rfl, Int.add_zero, Int.add_zero] at e2
  unfold ix at e1 e2
  rw [Int.add_mul] at e2
  omega
theorem nx_up_ne {w d l x : Int} (hD : okD w d l) (hx : inC w d l x) : nx w d l x 4 ≠ -1 ↔ gZ w d x + 1 < l := by
  have h1 := gX_in (c := x) hD
  have h2 := gY_in (c := x) hD
  have h3 := gZ_in hD hx
  constructor
  · intro h
    have := nx_in h
    have h4 := gZ_in hD this.1
    rw [this.2.2.2, show dZ 4 = 1 from rfl] at h4
    exact h4.2
  · intro h
    exact nx_of (by rw [show dX 4 = 0 from rfl, show dY 4 = 0 from rfl, show dZ 4 = 1 from rfl]; omega)
theorem nx_dn_ne {w d l x : Int} (hD : okD w d l) (hx : inC w d l x) : nx w d l x 5 ≠ -1 ↔ 1 ≤ gZ w d x := by
  have h1 := gX_in (c := x) hD
  have h2 := gY_in (c := x) hD
  have h3 := gZ_in hD hx
  constructor
  · intro h
    have := nx_in h
    have h4 := gZ_in hD this.1
    rw [this.2.2.2, show dZ 5 = -1 from rfl] at h4
    omega
  · intro h
    exact nx_of (by rw [show dX 5 = 0 from rfl, show dY 5 = 0 from rfl, show dZ 5 = -1 from rfl]; omega)
/-- copper of a net beside a layer where another net's plane is not behind it -/
def bacP (w d l : Int) (c : Mem) (n g z k x : Int) : Prop := gZ w d x = z ∧ ¬ plF w d l c g z x ∧ nx w d l x k ≠ -1 ∧ cuN c n (nx w d l x k)
noncomputable def bacV (w d l : Int) (N : Nat) (c : Mem) (n g z : Int) : Int := sumN (fun x => iv (bacP w d l c n g z 4 x) 1 + iv (bacP w d l c n g z 5 x) 1) N
set_option maxRecDepth 100000 in
theorem c_X4_withoutReturn (X : Xv) (m : Mem) {w d l : Int} (hB : Bd X w d l m) (hM : WM w d l m) (n g z : Int) (hnn : 0 ≤ n ∧ n < m 9 14) (hgg : 0 ≤ g ∧ g < m 9 14) (hz : 0 ≤ z ∧ z < l) : kCall (eX X) 4 M_X4_withoutReturn.1 [vR 45, vI n, vI g, vI z] m (fun r m' => r = some (vI (bacV w d l (nC X) m n g z)) ∧ ∀ o, o < 22 ∨ 27 < o → m' o = m o) := by
  obtain ⟨hD, hN, hG0⟩ := id hB
  have hc4 := okD_cells hD
  have hs := WFs_srt hM.1
  have h8 := hM.1.2.1
  have hn8 : 0 ≤ n ∧ n < 8 := by omega
  obtain ⟨⟨w1, w2⟩, ⟨d1, d2⟩, l1, l2⟩ := id hD
  obtain ⟨F, hF⟩ : ∃ F, F = w * d := ⟨_, rfl⟩
  have hFp : 0 < F := by rw [hF]; exact Int.mul_pos (by omega) (by omega)
  have e1 : (z + 1) * F = z * F + F := by rw [Int.add_mul, Int.one_mul]
  have h0z : 0 ≤ z * F := Int.mul_nonneg hz.1 (by omega)
  have hle : (z + 1) * F ≤ (nC X : Int) := by
    rw [← hN, ← hF, Int.mul_comm F l]
    exact Int.mul_le_mul_of_nonneg_right (by omega) (by omega)
  have hlayz : ∀ x, inC w d l x → gZ w d x = z → z * F ≤ x ∧ x < (z + 1) * F := by
    intro x hx e
    unfold gZ at e
    rw [← hF] at e
    have h1 := Int.ediv_mul_le x (show F ≠ 0 by omega)
    have h2 := Int.lt_ediv_add_one_mul_self x hFp
    rw [e] at h1 h2
    exact ⟨h1, h2⟩
  have hlay2 : ∀ x, z * F ≤ x → x < (z + 1) * F → gZ w d x = z := by
    intro x h1 h2
    have := (lay_q (q := x - z * F) hD hz (by rw [← hF]; omega)).2
    rw [← hF, show z * F + (x - z * F) = x by omega] at this
    exact this
  refine kCall_ofT ok_X4_withoutReturn rfl (Nat.le_of_ble_eq_true rfl) (fun T hT => ?_)
  refine kW_go ok_X4_withoutReturn [1] 20 ?_
  refine kCall_mono (kCall_in (c_X6_look X m hD hN hG0 hs g 1 hgg)) (Nat.le_of_ble_eq_true rfl) ?_
  rintro _ m1 ⟨⟨rfl, hf, h22, h26, hb⟩, hin⟩
  have hf1 : ∀ o, o < 22 ∨ 26 < o → m1 o = m o := fun o ho => hf o (by omega) (by omega) (by omega) (by omega) (by omega)
  have hlk : looked w d l X m m1 g 1 := ⟨h22.1, h26, hb⟩
  refine kCall_mono (c_X6_markPlane X m m1 hB hM g z hgg (fun o ho => hf1 o (by omega)) hlk hin) (Nat.le_of_ble_eq_true rfl) ?_
  rintro _ m2 ⟨rfl, f2, h27⟩
  have hf2 : ∀ o, o < 22 ∨ 27 < o → m2 o = m o := fun o ho => by rw [f2 o (by omega)]; exact hf1 o (by omega)
  have g3 : m2 1 3 = F := by rw [hf2 1 (by omega), hG0.2.2.2.1, hF]
  obtain ⟨B4, hB4⟩ : ∃ B4 : Int → Int, ∀ x, B4 x = iv (bacP w d l m n g z 4 x) 1 := ⟨_, fun _ => rfl⟩
  obtain ⟨B5, hB5⟩ : ∃ B5 : Int → Int, ∀ x, B5 x = iv (bacP w d l m n g z 5 x) 1 := ⟨_, fun _ => rfl⟩
  obtain ⟨A, hA⟩ : ∃ A : Int → Int, ∀ x, A x = B4 x + B5 x := ⟨_, fun _ => rfl⟩
  have b4 : ∀ x, 0 ≤ B4 x ∧ B4 x ≤ 1 := fun x => by rw [hB4]; exact iv_in ⟨by decide, by decide⟩
  have b5 : ∀ x, 0 ≤ B5 x ∧ B5 x ≤ 1 := fun x => by rw [hB5]; exact iv_in ⟨by decide, by decide⟩
  have bA : ∀ k : Nat, 0 ≤ sumN A k ∧ sumN A k ≤ 2 * k := fun k => sumN_01 (fun x => by have := b4 x; have := b5 x; rw [hA]; omega) k
  have hoff : ∀ x, inC w d l x → ¬ (z * F ≤ x ∧ x < (z + 1) * F) → A x = 0 := by
    intro x hx hn
    rw [hA, hB4, hB5, iv_f (fun q => hn (hlayz x hx q.1)), iv_f (fun q => hn (hlayz x hx q.1))]
    rfl
  have hsA : sumN A ((z + 1) * F).toNat = bacV w d l (nC X) m n g z := by
    have h1 : sumN A (nC X) = sumN A ((z + 1) * F).toNat := sum_cut (k := ((z + 1) * F).toNat) (K := nC X) (by omega) (fun i a b => hoff i ⟨by omega, by omega⟩ (by omega))
    rw [← h1]
    unfold bacV
    exact sumN_cong (fun x _ _ => by rw [hA, hB4, hB5])
  have hA0 : sumN A (z * F).toNat = 0 := sumN_z (fun i a b => hoff i ⟨a, by omega⟩ (by omega))
  have loop : ∀ (k : Nat) (i : Int) (x6 x7 : Option AV), i + k = (z + 1) * F → z * F ≤ i → kW (eX X) 3 M_X4_withoutReturn T 1 [some (vR 45), some (vI n), some (vI g), some (vI z), some (vI (sumN A i.toNat)), some (vI i), x6, x7] [] m2 := by
    intro k
    induction k with
    | zero =>
      intro i x6 x7 hk h0
      have hi : i = (z + 1) * F := by omega
      refine kW_go ok_X4_withoutReturn [1] 20 ?_
      show inR (z + 1) ∧ inR ((z + 1) * m2 1 3) ∧ ((z + 1) * m2 1 3 ≤ i → T (some (vI (sumN A i.toNat))) m2) ∧ (i < (z + 1) * m2 1 3 → _)
      rw [g3]
      exact ⟨by constructor <;> omega, by constructor <;> omega, fun _ => hT _ _ ⟨by rw [hi, hsA], hf2⟩, fun h => absurd h (by omega)⟩
    | succ k ih =>
      intro i x6 x7 hk h0
      have hib : 0 ≤ i ∧ i < (nC X : Int) := by omega
      have hix : inC w d l i := ⟨by omega, by omega⟩
      have hgi := hlay2 i h0 (by omega)
      have b1 := bA i.toNat
      have q4 := b4 i
      have q5 := b5 i
      -- one neighbour
      have one : ∀ (j acc : Int) (Bj : Int) (x7 : Option AV), (j = 4 ∨ j = 5) → Bj = iv (bacP w d l m n g z j i) 1 → (0 ≤ acc ∧ acc ≤ 2 * 324 + 2) → (∀ x7, kW (eX X) 3 M_X4_withoutReturn T 2 [some (vR 45), some (vI n), some (vI g), some (vI z), some (vI (acc + Bj)), some (vI i), some (vI (j + 1)), x7] [] m2) → kW (eX X) 3 M_X4_withoutReturn T 2 [some (vR 45), some (vI n), some (vI g), some (vI z), some (vI acc), some (vI i), some (vI j), x7] [] m2 := by
        intro j acc Bj x7 hj hBj hacc hout
        have hBjb : 0 ≤ Bj ∧ Bj ≤ 1 := by rw [hBj]; exact iv_in ⟨by decide, by decide⟩
        have e2 : m2 2 (i * 6 + j) = nx w d l i j := by rw [hf2 2 (by omega)]; exact (hG0.2.2.2.2.2 i hix).2.2.2 j (by omega) (by omega)
        have hi6 : 0 ≤ i * 6 + j ∧ i * 6 + j < ((nC X * 6 : Nat) : Int) := by omega
        have hskip : ¬ bacP w d l m n g z j i → ∀ x7, kW (eX X) 3 M_X4_withoutReturn T 3 [some (vR 45), some (vI n), some (vI g), some (vI z), some (vI acc), some (vI i), some (vI j), x7] [] m2 := by
          intro hn x7
          have := hout x7
          rw [hBj, iv_f hn, Int.add_zero] at this
          refine kW_go ok_X4_withoutReturn [2] 20 ?_
          exact ⟨by constructor <;> omega, this⟩
        refine kW_go ok_X4_withoutReturn [3] 20 ?_
        refine And.intro (fun h => absurd h (by omega)) (fun _ => ?_)
        show inR (i * 6) ∧ inR (i * 6 + j) ∧ (0 ≤ i * 6 + j ∧ i * 6 + j < ((nC X * 6 : Nat) : Int)) ∧ (m2 2 (i * 6 + j) = -1 → kW (eX X) 3 M_X4_withoutReturn T 3 [some (vR 45), some (vI n), some (vI g), some (vI z), some (vI acc), some (vI i), some (vI j), some (vI (m2 2 (i * 6 + j)))] [] m2) ∧ (¬ m2 2 (i * 6 + j) = -1 → (0 ≤ i ∧ i < (nC X : Int)) ∧ (¬ m2 27 i = 0 → kW (eX X) 3 M_X4_withoutReturn T 3 [some (vR 45), some (vI n), some (vI g), some (vI z), some (vI acc), some (vI i), some (vI j), some (vI (m2 2 (i * 6 + j)))] [] m2) ∧ (m2 27 i = 0 → kCall (eX X) 3 M_X3_copperAt.1 [vR 9, vI (m2 2 (i * 6 + j))] m2 _))
        rw [e2]
        refine ⟨by constructor <;> omega, by constructor <;> omega, hi6, fun he => hskip (fun q => q.2.2.1 he) _, fun hne => ⟨hib, fun hfr => hskip (fun q => ?_) _, fun hfr => ?_⟩⟩
        · exact hfr ((h27 i hix).2 q.2.1)
        · have hyi := (nx_in hne).1
          have hnp : ¬ plF w d l m g z i := fun q => by rw [(h27 i hix).1 q] at hfr; exact absurd hfr (by decide)
          refine kCall_mono (c_X3_copperAt X m2 (nx w d l i j) ⟨hyi.1, by have := hyi.2; omega⟩) (Nat.le_of_ble_eq_true rfl) ?_
          rintro _ m3 ⟨rfl, rfl⟩
          have hv : kand (kshr (kor (m3 16 (nx w d l i j)) (m3 17 (nx w d l i j))) n) 1 = Bj := by
            rw [hf2 16 (by omega), hf2 17 (by omega), ask_v hn8.1 (by omega), hBj]
            have hcu : cuN m n (nx w d l i j) ↔ bt (kor (m 16 (nx w d l i j)) (m 17 (nx w d l i j))) n.toNat = true := by
              rw [bt_or, Bool.or_eq_true]; exact Iff.rfl
            by_cases hc : bt (kor (m 16 (nx w d l i j)) (m 17 (nx w d l i j))) n.toNat = true
            · rw [if_pos hc, iv_t ⟨hgi, hnp, hne, hcu.mpr hc⟩]
            · rw [if_neg hc, iv_f (fun q => hc (hcu.mp q.2.2.2))]
          have hgo := hout (some (vI (nx w d l i j)))
          rw [← hv] at hgo hBjb
          have hthree : kW (eX X) 3 M_X4_withoutReturn T 3 [some (vR 45), some (vI n), some (vI g), some (vI z), some (vI (acc + kand (kshr (kor (m3 16 (nx w d l i j)) (m3 17 (nx w d l i j))) n) 1)), some (vI i), some (vI j), some (vI (nx w d l i j))] [] m3 := by
            refine kW_go ok_X4_withoutReturn [2] 20 ?_
            exact ⟨by constructor <;> omega, hgo⟩
          exact ⟨by constructor <;> omega, hthree⟩
      have last : ∀ x7, kW (eX X) 3 M_X4_withoutReturn T 2 [some (vR 45), some (vI n), some (vI g), some (vI z), some (vI (sumN A i.toNat + B4 i + B5 i)), some (vI i), some (vI (5 + 1)), x7] [] m2 := by
        intro x7
        have := ih (i + 1) (some (vI 6)) x7 (by omega) (by omega)
        rw [sumN_s A hix.1, hA, ← Int.add_assoc] at this
        refine kW_go ok_X4_withoutReturn [1] 20 ?_
        exact And.intro (fun _ => ⟨by constructor <;> omega, this⟩) (fun h => absurd h (by decide))
      refine kW_go ok_X4_withoutReturn [2] 20 ?_
      show inR (z + 1) ∧ inR ((z + 1) * m2 1 3) ∧ ((z + 1) * m2 1 3 ≤ i → _) ∧ (i < (z + 1) * m2 1 3 → kW (eX X) 3 M_X4_withoutReturn T 2 [some (vR 45), some (vI n), some (vI g), some (vI z), some (vI (sumN A i.toNat)), some (vI i), some (vI 4), x7] [] m2)
      rw [g3]
      refine ⟨by constructor <;> omega, by constructor <;> omega, fun h => absurd h (by omega), fun _ => ?_⟩
      exact one 4 _ (B4 i) x7 (Or.inl rfl) (hB4 i) (by omega) (fun x7 => one 5 _ (B5 i) x7 (Or.inr rfl) (hB5 i) (by omega) last)
  have hgo := loop F.toNat (z * F) none none (by omega) (by omega)
  rw [hA0] at hgo
  show inR (z * fld m2 1 3) ∧ kW (eX X) 3 M_X4_withoutReturn T 1 [some (vR 45), some (vI n), some (vI g), some (vI z), some (vI 0), some (vI (z * fld m2 1 3)), none, none] [] m2
  rw [show fld m2 1 3 = F from g3]
  exact ⟨by constructor <;> omega, hgo⟩
