/-! a net's traces taken off and put back, on both sides -/
theorem rmT_ne {N n : Int} {c : Mem} {o : Nat} (h7 : o ≠ 17) (h9 : o ≠ 19) : rmT N n c o = c o := by
  unfold rmT
  rw [mmap_ne h7, mfill_ne h9]
theorem rmT_19 {N n j : Int} {c : Mem} : rmT N n c 19 j = if n * N ≤ j ∧ j < (n + 1) * N then 0 else c 19 j := by
  unfold rmT
  rw [mmap_ne (by decide), mfill_at]
theorem rmT_17 {N n j : Int} {c : Mem} : rmT N n c 17 j = if 0 ≤ j ∧ j < N then kand (c 17 j) (nall n) else c 17 j := by
  unfold rmT
  rw [mmap_at, mfill_ne (by decide)]
theorem rmT_row {w d l n n' x : Int} {c : Mem} (hx : inC w d l x) : rmT (w * d * l) n c 19 (n' * (w * d * l) + x) = if n' = n then 0 else c 19 (n' * (w * d * l) + x) := by
  have e : (n + 1) * (w * d * l) = n * (w * d * l) + w * d * l := by rw [Int.add_mul, Int.one_mul]
  obtain ⟨h1, h2⟩ := hx
  rw [rmT_19, e]
  by_cases hn : n' = n
  · rw [if_pos hn, hn, if_pos (by omega)]
  · rw [if_neg hn]
    by_cases hlt : n' < n
    · have hm : (n' + 1) * (w * d * l) ≤ n * (w * d * l) := Int.mul_le_mul_of_nonneg_right (by omega) (by omega)
      rw [Int.add_mul, Int.one_mul] at hm
      rw [if_neg (by omega)]
    · have hm : (n + 1) * (w * d * l) ≤ n' * (w * d * l) := Int.mul_le_mul_of_nonneg_right (by omega) (by omega)
      rw [Int.add_mul, Int.one_mul] at hm
      rw [if_neg (by omega)]
theorem rmT_bit {w d l n x : Int} {c : Mem} (hn : 0 ≤ n ∧ n < 8) (hx : inC w d l x) {o : Nat} (ho : o < 32) : bt (rmT (w * d * l) n c 17 x) o = (bt (c 17 x) o && decide ((o : Int) ≠ n)) := by
  rw [rmT_17, if_pos hx, bt_and]
  rw [bt_nall hn.1 (by omega) ho]
theorem rmT_tsame {w d l n : Int} {c : Mem} (hn : 0 ≤ n ∧ n < 8) (hz : ∀ x, inC w d l x → 0 ≤ c 17 x ∧ c 17 x < 256) : tsame w d l n c (rmT (w * d * l) n c) := by
  refine ⟨fun o h1 h2 => rmT_ne h1 h2, fun n' x hn' hne hx => by rw [rmT_row hx, if_neg hne], fun x o hx ho => ?_⟩
  by_cases h32 : o < 32
  · rw [rmT_bit hn hx h32, decide_eq_true ho, Bool.and_true]
  · rw [bt_ge _ (by omega), bt_ge _ (by omega)]
theorem rmT_17b {w d l n x : Int} {c : Mem} (hx : inC w d l x) (hv : 0 ≤ c 17 x ∧ c 17 x < 256) : 0 ≤ rmT (w * d * l) n c 17 x ∧ rmT (w * d * l) n c 17 x < 256 := by
  rw [rmT_17, if_pos hx]
  exact k_lt_bits (n := 8) (k_in_kand _ _) (by decide) (fun k h1 h2 => by rw [bt_and, bt_small (n := 8) (inR_small (by omega)) hv.1 hv.2 h1]; rfl)
theorem rmT_WFn {w d l n : Int} {c : Mem} (hn : 0 ≤ n ∧ n < 8) (hW : WFn w d l c n) : WFn w d l (rmT (w * d * l) n c) n := by
  obtain ⟨w1, w2⟩ := hW
  unfold WFn pinT
  rw [rmT_ne (o := 9) (by decide) (by decide), rmT_ne (o := 13) (by decide) (by decide), rmT_ne (o := 14) (by decide) (by decide), rmT_ne (o := 16) (by decide) (by decide), rmT_ne (o := 18) (by decide) (by decide)]
  refine ⟨fun x hx => ?_, fun hc x hx => ?_⟩
  · obtain ⟨⟨z1, z2⟩, z3, z4, z5⟩ := w1 x hx
    rw [rmT_row hx, if_pos rfl, rmT_bit hn hx (by omega)]
    refine ⟨⟨z1, by decide⟩, fun k hk hkn => ⟨(z3 k hk hkn).1, bt_zero _⟩, ?_, z5⟩
    have : ((n.toNat : Nat) : Int) = n := Int.toNat_of_nonneg hn.1
    simp [this]
  · rw [rmT_row hx, if_pos rfl]
    exact ⟨(w2 hc x hx).1, rfl⟩
/-- the cells that a list's moves touch -/
theorem LT_ends {w d l : Int} (hD : okD w d l) {f t : Int → Int} {q : Int} {row : Int → Int} (h : LT w d l f t q row) (hr : ∀ x, inC w d l x → (0 ≤ row x ∧ row x < 64) ∧ ∀ k : Int, (0 ≤ k ∧ k < 6) → nx w d l x k = -1 → bt (row x) k.toNat = false) {x : Int} (hx : inC w d l x) : row x ≠ 0 ↔ ∃ i : Int, (0 ≤ i ∧ i < q) ∧ (f i = cR w d x ∨ t i = cR w d x) := by
  obtain ⟨⟨h1, h2, h3⟩, h4⟩ := h
  obtain ⟨r1, r2⟩ := hr x hx
  constructor
  · intro hne
    obtain ⟨k, hk, hb⟩ := (k_ne0 (inR_small (by omega))).mp hne
    have hk6 : k < 6 := Decidable.byContradiction (fun z => by
      rw [bt_small (n := 6) (inR_small (by omega)) r1.1 r1.2 (by omega)] at hb
      cases hb)
    have hk' : 0 ≤ (k : Int) ∧ (k : Int) < 6 := by omega
    have hnn : nx w d l x (k : Int) ≠ -1 := fun z => by
      have := r2 (k : Int) hk' z
      rw [Int.toNat_natCast, hb] at this
      cases this
    obtain ⟨i, hi, hh⟩ := (h4 x (k : Int) hx hk' hnn).mp (by rw [Int.toNat_natCast]; exact hb)
    exact ⟨i, hi, hh.elim (fun z => Or.inl z.1) (fun z => Or.inr z.2)⟩
  · rintro ⟨i, hi, hh⟩ h0
    obtain ⟨z, k, hz, hk, hkn, e1, e2⟩ := h2 i hi
    have hzi := (nx_in hkn).1
    have hno : ∀ j : Int, (0 ≤ j ∧ j < 6) → nx w d l x j ≠ -1 → ¬ eds w d l f t q x j := by
      intro j hj hjn he
      have := (h4 x j hx hj hjn).mpr he
      rw [h0, bt_zero] at this
      cases this
    rcases hh with hh | hh
    · have : z = x := cR_inj hD hz hx (by rw [← e1, hh])
      subst this
      exact hno k hk hkn ⟨i, hi, Or.inl ⟨e1, e2⟩⟩
    · have : nx w d l z k = x := cR_inj hD hzi hx (by rw [← e2, hh])
      have hb := nx_opp hD hz hk hkn
      rw [this] at hb
      refine hno (oppF k) (opp_in hk) (by rw [hb]; have := hz.1; omega) ⟨i, hi, Or.inr ⟨by rw [hb]; exact e1, hh⟩⟩
/-- the same in the reference but for a net's traces, its copper, and what is noted on the way -/
def rsm (n : Int) (m m' : Mem) : Prop := (∀ o, 54 ≤ o → o ≠ 54 → o ≠ 68 → o ≠ 69 → o ≠ 70 → o ≠ 72 → o ≠ 73 → o ≠ 74 → o ≠ 78 → o ≠ 79 → o ≠ 80 → m' o = m o) ∧ (∀ o, o < 54 → m' o = m o) ∧ (∀ i : Int, i ≠ 33 → m' 54 i = m 54 i) ∧ (∀ j : Int, j ≠ n → m' 68 j = m 68 j) ∧ (∀ j : Int, ¬ (2400 * n ≤ j ∧ j < 2400 * n + 2400) → m' 69 j = m 69 j ∧ m' 70 j = m 70 j) ∧ ∀ j : Int, ¬ (324 * n ≤ j ∧ j < 324 * n + 324) → m' 72 j = m 72 j
theorem rsm_rf {n : Int} {m : Mem} : rsm n m m := ⟨fun _ _ _ _ _ _ _ _ _ _ _ _ => rfl, fun _ _ => rfl, fun _ _ => rfl, fun _ _ => rfl, fun _ _ => ⟨rfl, rfl⟩, fun _ _ => rfl⟩
theorem rsm_tr {n : Int} {a b c : Mem} (h : rsm n a b) (h' : rsm n b c) : rsm n a c := ⟨fun o p q r s t u v w x y z => (h'.1 o p q r s t u v w x y z).trans (h.1 o p q r s t u v w x y z), fun o p => (h'.2.1 o p).trans (h.2.1 o p), fun i hi => (h'.2.2.1 i hi).trans (h.2.2.1 i hi), fun j hj => (h'.2.2.2.1 j hj).trans (h.2.2.2.1 j hj), fun j hj => ⟨(h'.2.2.2.2.1 j hj).1.trans (h.2.2.2.2.1 j hj).1, (h'.2.2.2.2.1 j hj).2.trans (h.2.2.2.2.1 j hj).2⟩, fun j hj => (h'.2.2.2.2.2 j hj).trans (h.2.2.2.2.2 j hj)⟩
theorem rsm_of {n : Int} {m m' : Mem} (h : rsame n m m') : rsm n m m' := ⟨fun o _ _ p q r s _ _ _ _ _ => h.1 o p q r s, fun o ho => h.1 o (by omega) (by omega) (by omega) (by omega), fun i _ => by rw [h.1 54 (by decide) (by decide) (by decide) (by decide)], h.2.1, h.2.2.1, h.2.2.2⟩
theorem RRs_rsm {w d l n : Int} {c c' m m' : Mem} (hc : ∀ o, o ≠ 17 → o ≠ 19 → c' o = c o) (hm : rsm n m m') (h : RRs w d l c m) : RRs w d l c' m' := by
  obtain ⟨m1, m2, m3, -⟩ := hm
  have e : ∀ o, 55 ≤ o → o ≤ 64 ∨ o = 71 ∨ o = 88 → m' o = m o := fun o h1 h2 => m1 o (by omega) (by omega) (by omega) (by omega) (by omega) (by omega) (by omega) (by omega) (by omega) (by omega) (by omega)
  have f : ∀ k : Nat, k ≠ 33 → m' 54 (k : Int) = m 54 (k : Int) := fun k hk => m3 _ (by omega)
  have f1 := f 1 (by decide)
  have f2 := f 2 (by decide)
  have f3 := f 3 (by decide)
  have f5 := m3 5 (by decide)
  have f13 := m3 13 (by decide)
  have f26 := m3 26 (by decide)
  unfold RRs dimM fld at h ⊢
  rw [f1, f2, f3, f5, f13, f26, hc 6 (by decide) (by decide), hc 7 (by decide) (by decide), hc 9 (by decide) (by decide), hc 10 (by decide) (by decide), hc 11 (by decide) (by decide), hc 12 (by decide) (by decide), hc 13 (by decide) (by decide), hc 14 (by decide) (by decide), hc 15 (by decide) (by decide), hc 47 (by decide) (by decide), e 55 (by decide) (by decide), e 56 (by decide) (by decide), e 57 (by decide) (by decide), e 58 (by decide) (by decide), e 59 (by decide) (by decide), e 60 (by decide) (by decide), e 61 (by decide) (by decide), e 62 (by decide) (by decide), e 63 (by decide) (by decide), e 64 (by decide) (by decide), e 71 (by decide) (by decide), e 88 (by decide) (by decide)]
  exact h
theorem RRn_rsm {w d l n n' : Int} {c c' m m' : Mem} (hD : okD w d l) (hn : 0 ≤ n ∧ n < 8) (hn' : 0 ≤ n' ∧ n' < 8) (hne : n' ≠ n) (ht : tsame w d l n c c') (hr : rsm n m m') (h : RRn w d l c m n') : RRn w d l c' m' n' := by
  -- a memory with the rest as in m
  have h1 : RRn w d l c' (fun o => if o = 65 ∨ o = 66 ∨ o = 67 ∨ o = 68 ∨ o = 69 ∨ o = 70 ∨ o = 72 then m' o else m o) n' := by
    refine RRn_other hD hn hn' hne ht ⟨fun o p q r s => ?_, fun j hj => ?_, fun j hj => ?_, fun j hj => ?_⟩ h
    · simp only
      split
      · rename_i hh
        have : o = 65 ∨ o = 66 ∨ o = 67 := by omega
        exact hr.1 o (by omega) (by omega) p q r s (by omega) (by omega) (by omega) (by omega) (by omega)
      · rfl
    · exact hr.2.2.2.1 j hj
    · exact hr.2.2.2.2.1 j hj
    · exact hr.2.2.2.2.2 j hj
  exact h1
theorem RR0_rsm {w d l n : Int} {c c' m m' : Mem} (hD : okD w d l) (hn : 0 ≤ n ∧ n < 8) (ht : tsame w d l n c c') (hr : rsm n m m') (h : RR0 w d l c m) (hnew : RRn w d l c' m' n) : RR0 w d l c' m' := by
  refine ⟨RRs_rsm ht.1 hr h.1, fun n' hn' => ?_⟩
  by_cases hne : n' = n
  · rw [hne]; exact hnew
  · exact RRn_rsm hD hn hn' hne ht hr (h.2 n' hn')
/-- a net's traces laid aside in the reference -/
def SVn (w d l : Int) (c r : Mem) (n : Int) : Prop := LT w d l (fun i => r 73 i) (fun i => r 74 i) (r 54 33) (fun x => c 19 (n * (w * d * l) + x)) ∧ (c 13 n ≤ 1 → r 54 33 = 0) ∧ (c 13 n = 2 → CH (fun i => r 73 i) (fun i => r 74 i) (r 54 33) (cR w d (c 14 (n * 4 + 1))))
theorem pnt_rsame {n : Int} {m m' : Mem} {S : Int → Prop} (h : pnt n m m' S) : ∀ j : Int, ¬ (324 * n ≤ j ∧ j < 324 * n + 324) → m' 72 j = m 72 j := fun j hj => (h.2 j).1 hj
theorem and5 {v : Int} (h : 0 ≤ v ∧ v < 4) : ((0 ≤ kand v 5 ∧ kand v 5 < 4) ∧ bt (kand v 5) 0 = bt v 0 ∧ bt (kand v 5) 1 = false) ∧ (0 ≤ kor (kand v 5) 2 ∧ kor (kand v 5) 2 < 4) ∧ bt (kor (kand v 5) 2) 0 = bt v 0 ∧ bt (kor (kand v 5) 2) 1 = true := by
  have : ∀ i : Fin 4, ((0 ≤ kand (i.val : Int) 5 ∧ kand (i.val : Int) 5 < 4) ∧ bt (kand (i.val : Int) 5) 0 = bt (i.val : Int) 0 ∧ bt (kand (i.val : Int) 5) 1 = false) ∧ (0 ≤ kor (kand (i.val : Int) 5) 2 ∧ kor (kand (i.val : Int) 5) 2 < 4) ∧ bt (kor (kand (i.val : Int) 5) 2) 0 = bt (i.val : Int) 0 ∧ bt (kor (kand (i.val : Int) 5) 2) 1 = true := by decide +kernel
  exact k_fin (P := fun v => ((0 ≤ kand v 5 ∧ kand v 5 < 4) ∧ bt (kand v 5) 0 = bt v 0 ∧ bt (kand v 5) 1 = false) ∧ (0 ≤ kor (kand v 5) 2 ∧ kor (kand v 5) 2 < 4) ∧ bt (kor (kand v 5) 2) 0 = bt v 0 ∧ bt (kor (kand v 5) 2) 1 = true) this h.1 (by omega)
/-- a net's wires, and its copper without traces -/
def RRw (w d l : Int) (c r : Mem) (n : Int) : Prop := LT w d l (fun i => r 66 (1200 * n + i)) (fun i => r 67 (1200 * n + i)) (r 65 n) (fun x => c 18 (n * (w * d * l) + x)) ∧ (∀ i : Int, (0 ≤ i ∧ i < r 65 n) → r 66 (1200 * n + i) < r 67 (1200 * n + i)) ∧
  (∀ x : Int, inC w d l x → (0 ≤ r 72 (324 * n + cR w d x) ∧ r 72 (324 * n + cR w d x) < 4) ∧ (bt (r 72 (324 * n + cR w d x)) 0 = true ↔ bt (c 16 x) n.toNat = true)) ∧
  ∀ j : Int, (0 ≤ j ∧ j < 324) → ¬ inRf w d l j → r 72 (324 * n + j) = 0
theorem RRk_w {w d l n : Int} {c r : Mem} (h : RRk w d l c r n) : RRw w d l c r n := ⟨h.1, h.2.1, fun x hx => ⟨(h.2.2.2.1 x hx).1, (h.2.2.2.1 x hx).2.1⟩, h.2.2.2.2⟩
theorem RRw_m {w d l n : Int} {c r r' : Mem} (h5 : r' 65 = r 65) (h6 : r' 66 = r 66) (h7 : r' 67 = r 67) (h2 : r' 72 = r 72) (h : RRw w d l c r n) : RRw w d l c r' n := by
  unfold RRw at h ⊢
  rw [h5, h6, h7, h2]
  exact h
/-- a painting that shows a net's traces -/
theorem paint_RRk {w d l n : Int} {c c0 m m' : Mem} {S : Int → Prop} (hD : okD w d l) (hn : 0 ≤ n ∧ n < 8) (hW : WFn w d l c n) (h16 : c 16 = c0 16) (h18 : c 18 = c0 18) (h0 : RRw w d l c0 m n) (hT : LT w d l (fun i => m 69 (2400 * n + i)) (fun i => m 70 (2400 * n + i)) (m 68 n) (fun x => c 19 (n * (w * d * l) + x))) (hp : pnt n m m' S) (hS : ∀ x, inC w d l x → (S (cR w d x) ↔ ∃ i : Int, (0 ≤ i ∧ i < m 68 n) ∧ (m 69 (2400 * n + i) = cR w d x ∨ m 70 (2400 * n + i) = cR w d x))) (hSo : ∀ j, ¬ inRf w d l j → ¬ S j) : RRk w d l c m' n := by
  obtain ⟨a1, a2, a4, a5⟩ := h0
  obtain ⟨p1, p2⟩ := hp
  unfold RRk
  rw [p1 65 (by decide), p1 66 (by decide), p1 67 (by decide), p1 68 (by decide), p1 69 (by decide), p1 70 (by decide), h16, h18]
  refine ⟨a1, a2, hT, fun x hx => ?_, fun j hj hj2 => ?_⟩
  · have hg := (cR_geo hD hx).1
    obtain ⟨v1, v2⟩ := a4 x hx
    obtain ⟨⟨b1, b2, b3⟩, b4, b5, b6⟩ := and5 v1
    have hq := (p2 (324 * n + cR w d x)).2 (by omega)
    rw [show 324 * n + cR w d x - 324 * n = cR w d x by omega] at hq
    have hend := LT_ends hD hT (fun y hy => ⟨(hW.1 y hy).1.2, fun k hk hkn => ((hW.1 y hy).2.1 k hk hkn).2⟩) hx
    have h17 := (hW.1 x hx).2.2.1
    by_cases hSx : S (cR w d x)
    · rw [hq.1 hSx]
      exact ⟨b4, by rw [b5]; exact v2, by rw [b6]; exact ⟨fun _ => h17.mpr (hend.mpr ((hS x hx).mp hSx)), fun _ => rfl⟩⟩
    · rw [hq.2 hSx]
      exact ⟨b1, by rw [b2]; exact v2, by rw [b3]; exact ⟨fun z => (by cases z), fun z => absurd ((hS x hx).mpr (hend.mp (h17.mp z))) hSx⟩⟩
  · rw [((p2 (324 * n + j)).2 (by omega)).2 (by rw [show 324 * n + j - 324 * n = j by omega]; exact hSo j hj2), a5 j hj hj2]
    decide +kernel
