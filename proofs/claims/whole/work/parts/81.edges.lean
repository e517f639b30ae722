/-! lists of moves: the reference's wires and traces, as sets of moves of cells -/
/-- a move is in the list, told from either end -/
def eds (w d l : Int) (f t : Int → Int) (q x k : Int) : Prop := ∃ i : Int, (0 ≤ i ∧ i < q) ∧ ((f i = cR w d x ∧ t i = cR w d (nx w d l x k)) ∨ (f i = cR w d (nx w d l x k) ∧ t i = cR w d x))
/-- a list of moves, none twice -/
def okL (w d l : Int) (f t : Int → Int) (q : Int) : Prop := 0 ≤ q ∧ (∀ i : Int, (0 ≤ i ∧ i < q) → ∃ x k : Int, inC w d l x ∧ (0 ≤ k ∧ k < 6) ∧ nx w d l x k ≠ -1 ∧ f i = cR w d x ∧ t i = cR w d (nx w d l x k)) ∧ ∀ i j : Int, (0 ≤ i ∧ i < j ∧ j < q) → ¬ (f i = f j ∧ t i = t j) ∧ ¬ (f i = t j ∧ t i = f j)
/-- the list's moves are a row of bits -/
def LT (w d l : Int) (f t : Int → Int) (q : Int) (row : Int → Int) : Prop := okL w d l f t q ∧ ∀ x k : Int, inC w d l x → (0 ≤ k ∧ k < 6) → nx w d l x k ≠ -1 → (bt (row x) k.toNat = true ↔ eds w d l f t q x k)
theorem opp_in {k : Int} (hk : 0 ≤ k ∧ k < 6) : 0 ≤ oppF k ∧ oppF k < 6 := ⟨(dX_opp k hk).2.2.2.1, (dX_opp k hk).2.2.2.2.1⟩
theorem opp_opp {k : Int} (hk : 0 ≤ k ∧ k < 6) : oppF (oppF k) = k := (dX_opp k hk).2.2.2.2.2
theorem nx_opp_ne {w d l c k : Int} (hD : okD w d l) (hc : inC w d l c) (hk : 0 ≤ k ∧ k < 6) (h : nx w d l c k ≠ -1) : nx w d l (nx w d l c k) (oppF k) ≠ -1 := by
  rw [nx_opp hD hc hk h]
  have := hc.1
  omega
theorem eds_opp {w d l : Int} {f t : Int → Int} {q x k : Int} (hD : okD w d l) (hx : inC w d l x) (hk : 0 ≤ k ∧ k < 6) (h : nx w d l x k ≠ -1) : eds w d l f t q (nx w d l x k) (oppF k) ↔ eds w d l f t q x k := by
  unfold eds
  rw [nx_opp hD hx hk h]
  exact ⟨fun ⟨i, h1, h2⟩ => ⟨i, h1, h2.elim Or.inr Or.inl⟩, fun ⟨i, h1, h2⟩ => ⟨i, h1, h2.elim Or.inr Or.inl⟩⟩
theorem dXYZ_inj {k k' : Int} (hk : 0 ≤ k ∧ k < 6) (hk' : 0 ≤ k' ∧ k' < 6) (h1 : dX k = dX k') (h2 : dY k = dY k') (h3 : dZ k = dZ k') : k = k' := by
  have : ∀ i j : Fin 6, dX (i.val : Int) = dX (j.val : Int) → dY (i.val : Int) = dY (j.val : Int) → dZ (i.val : Int) = dZ (j.val : Int) → i = j := by decide +kernel
  have h := this ⟨k.toNat, by omega⟩ ⟨k'.toNat, by omega⟩
  simp only [Int.toNat_of_nonneg hk.1, Int.toNat_of_nonneg hk'.1] at h
  have := congrArg Fin.val (h h1 h2 h3)
  simp only at this
  omega
theorem nx_inj {w d l x k k' : Int} (hk : 0 ≤ k ∧ k < 6) (hk' : 0 ≤ k' ∧ k' < 6) (h : nx w d l x k ≠ -1) (he : nx w d l x k = nx w d l x k') : k = k' := by
  obtain ⟨-, a1, a2, a3⟩ := nx_in h
  have h' : nx w d l x k' ≠ -1 := by rw [← he]; exact h
  obtain ⟨-, b1, b2, b3⟩ := nx_in h'
  rw [← he] at b1 b2 b3
  exact dXYZ_inj hk hk' (by omega) (by omega) (by omega)
theorem nx_self {w d l x k : Int} (hk : 0 ≤ k ∧ k < 6) (h : nx w d l x k ≠ -1) : nx w d l x k ≠ x := by
  intro he
  obtain ⟨-, a1, a2, a3⟩ := nx_in h
  rw [he] at a1 a2 a3
  have : ∀ i : Fin 6, ¬ (dX (i.val : Int) = 0 ∧ dY (i.val : Int) = 0 ∧ dZ (i.val : Int) = 0) := by decide +kernel
  have h2 := this ⟨k.toNat, by omega⟩
  simp only [Int.toNat_of_nonneg hk.1] at h2
  exact h2 ⟨by omega, by omega, by omega⟩
/-- one of the three moves that count at one end -/
abbrev can (k : Int) : Prop := k = 1 ∨ k = 2 ∨ k = 4
theorem can_opp {k : Int} (hk : 0 ≤ k ∧ k < 6) : can k ↔ ¬ can (oppF k) := by
  have : ∀ i : Fin 6, can (i.val : Int) ↔ ¬ can (oppF (i.val : Int)) := by decide +kernel
  have h := this ⟨k.toNat, by omega⟩
  simp only [Int.toNat_of_nonneg hk.1] at h
  exact h
/-- each move is told from one end by one of the three -/
theorem can_ex {w d l x k : Int} (hD : okD w d l) (hx : inC w d l x) (hk : 0 ≤ k ∧ k < 6) (h : nx w d l x k ≠ -1) : ∃ y j : Int, inC w d l y ∧ can j ∧ nx w d l y j ≠ -1 ∧ ((y = x ∧ nx w d l y j = nx w d l x k) ∨ (y = nx w d l x k ∧ nx w d l y j = x)) := by
  by_cases hc : can k
  · exact ⟨x, k, hx, hc, h, Or.inl ⟨rfl, rfl⟩⟩
  · refine ⟨nx w d l x k, oppF k, (nx_in h).1, ?_, nx_opp_ne hD hx hk h, Or.inr ⟨rfl, nx_opp hD hx hk h⟩⟩
    exact Decidable.byContradiction (fun z => hc ((can_opp hk).mpr z))
theorem can_in {k : Int} (h : can k) : 0 ≤ k ∧ k < 6 := by
  rcases h with rfl | rfl | rfl <;> omega
/-- no move is told from both ends by one of the three -/
theorem can_one {w d l x k y j : Int} (hD : okD w d l) (hx : inC w d l x) (hk : can k) (hj : can j) (h : nx w d l x k ≠ -1) (h2 : nx w d l y j ≠ -1) (e1 : y = nx w d l x k) (e2 : nx w d l y j = x) : False := by
  subst e1
  have h3 := nx_opp hD hx (can_in hk) h
  have := nx_inj (can_in hj) (opp_in (can_in hk)) h2 (by rw [e2, h3])
  subst this
  exact (can_opp (can_in hk)).mp hk hj
/-- what a cell's three moves count, of those that hold -/
noncomputable def e3 (P : Int → Prop) (h : Int → Int) : Int := iv (P 1) (h 1) + iv (P 2) (h 2) + iv (P 4) (h 4)
theorem e3_cong {P Q : Int → Prop} {h g : Int → Int} (hp : ∀ k, can k → (P k ↔ Q k)) (hh : ∀ k, can k → Q k → h k = g k) : e3 P h = e3 Q g := by
  have : ∀ k, can k → iv (P k) (h k) = iv (Q k) (g k) := by
    intro k hk
    rw [iv_cong (hp k hk)]
    by_cases hq : Q k
    · rw [iv_t hq, iv_t hq, hh k hk hq]
    · rw [iv_f hq, iv_f hq]
  unfold e3
  rw [this 1 (Or.inl rfl), this 2 (Or.inr (Or.inl rfl)), this 4 (Or.inr (Or.inr rfl))]
theorem e3_z {P : Int → Prop} {h : Int → Int} (hp : ∀ k, can k → ¬ P k) : e3 P h = 0 := by
  unfold e3
  rw [iv_f (hp 1 (Or.inl rfl)), iv_f (hp 2 (Or.inr (Or.inl rfl))), iv_f (hp 4 (Or.inr (Or.inr rfl)))]
  rfl
theorem e3_add {P Q : Int → Prop} {h : Int → Int} {j : Int} (hj : can j) (hQ : ∀ k, can k → (Q k ↔ P k ∨ k = j)) (hP : ¬ P j) : e3 Q h = e3 P h + h j := by
  have h1 : ∀ k, can k → k ≠ j → iv (Q k) (h k) = iv (P k) (h k) := fun k hk hkj => iv_cong ((hQ k hk).trans ⟨fun z => z.elim id (fun z => absurd z hkj), Or.inl⟩)
  have h2 : iv (Q j) (h j) = iv (P j) (h j) + h j := by
    rw [iv_t ((hQ j hj).mpr (Or.inr rfl)), iv_f hP]
    omega
  unfold e3
  rcases hj with rfl | rfl | rfl
  · rw [h2, h1 2 (Or.inr (Or.inl rfl)) (by decide), h1 4 (Or.inr (Or.inr rfl)) (by decide)]; omega
  · rw [h2, h1 1 (Or.inl rfl) (by decide), h1 4 (Or.inr (Or.inr rfl)) (by decide)]; omega
  · rw [h2, h1 1 (Or.inl rfl) (by decide), h1 2 (Or.inr (Or.inl rfl)) (by decide)]; omega
/-- the list's sum, told by cells and moves -/
theorem sum_list {w d l : Int} (hD : okD w d l) {n : Nat} (hn : w * d * l = (n : Int)) {f t : Int → Int} (H : Int → Int → Int) (h : Int → Int → Int) (hH : ∀ x k, inC w d l x → can k → nx w d l x k ≠ -1 → H (cR w d x) (cR w d (nx w d l x k)) = h x k ∧ H (cR w d (nx w d l x k)) (cR w d x) = h x k) : ∀ (q : Nat), okL w d l f t q → sumN (fun i => H (f i) (t i)) q = sumN (fun x => e3 (fun k => nx w d l x k ≠ -1 ∧ eds w d l f t q x k) (h x)) n := by
  intro q
  induction q with
  | zero =>
    intro _
    rw [sumN_z (k := n)]
    · rfl
    · intro x _ _
      refine e3_z (fun k _ => ?_)
      rintro ⟨-, i, hi, -⟩
      omega
  | succ q ih =>
    intro hok
    obtain ⟨-, h1, h2⟩ := hok
    have ih' := ih ⟨by omega, fun i hi => h1 i (by omega), fun i j hij => h2 i j (by omega)⟩
    obtain ⟨x, k, hx, hk, hne, hf, ht⟩ := h1 (q : Int) (by omega)
    obtain ⟨y, j, hy, hj, hyn, hcs⟩ := can_ex hD hx hk hne
    have hyb : 0 ≤ y ∧ y < (n : Int) := by obtain ⟨a, b⟩ := hy; omega
    have hyi := (nx_in hyn).1
    have hxi := (nx_in hne).1
    -- the new move, told from y
    have hedge : (f q = cR w d y ∧ t q = cR w d (nx w d l y j)) ∨ (f q = cR w d (nx w d l y j) ∧ t q = cR w d y) := by
      rcases hcs with ⟨a, b⟩ | ⟨a, b⟩
      · rw [a] at b ⊢; rw [b]; exact Or.inl ⟨hf, ht⟩
      · rw [b, a]; exact Or.inr ⟨hf, ht⟩
    have hval : H (f q) (t q) = h y j := by
      rcases hedge with ⟨a, b⟩ | ⟨a, b⟩
      · rw [a, b]; exact (hH y j hy hj hyn).1
      · rw [a, b]; exact (hH y j hy hj hyn).2
    have hnew : ¬ eds w d l f t q y j := by
      rintro ⟨i, hi, hh⟩
      have := h2 i q ⟨hi.1, hi.2, by omega⟩
      rcases hedge with ⟨a, b⟩ | ⟨a, b⟩ <;> rcases hh with ⟨a', b'⟩ | ⟨a', b'⟩
      · exact this.1 ⟨by rw [a, a'], by rw [b, b']⟩
      · exact this.2 ⟨by rw [a', b], by rw [b', a]⟩
      · exact this.2 ⟨by rw [a', b], by rw [b', a]⟩
      · exact this.1 ⟨by rw [a, a'], by rw [b, b']⟩
    have hex : ∀ z m, inC w d l z → can m → nx w d l z m ≠ -1 → (eds w d l f t ((q + 1 : Nat) : Int) z m ↔ eds w d l f t q z m ∨ (z = y ∧ m = j)) := by
      intro z m hz hm hzn
      have hzi := (nx_in hzn).1
      constructor
      · rintro ⟨i, hi, hh⟩
        by_cases hiq : i = q
        · right
          rw [hiq] at hh
          rcases hedge with ⟨a, b⟩ | ⟨a, b⟩ <;> rcases hh with ⟨a', b'⟩ | ⟨a', b'⟩
          · have e1 := cR_inj hD hy hz (by rw [← a, a'])
            have e2 := cR_inj hD hyi hzi (by rw [← b, b'])
            subst e1
            exact ⟨rfl, (nx_inj (can_in hj) (can_in hm) hyn e2).symm⟩
          · have e1 := cR_inj hD hy hzi (by rw [← a, a'])
            have e2 := cR_inj hD hyi hz (by rw [← b, b'])
            exact (can_one hD hz hm hj hzn hyn e1 e2).elim
          · have e1 := cR_inj hD hyi hz (by rw [← a, a'])
            have e2 := cR_inj hD hy hzi (by rw [← b, b'])
            exact (can_one hD hz hm hj hzn hyn e2 e1).elim
          · have e1 := cR_inj hD hy hz (by rw [← b, b'])
            have e2 := cR_inj hD hyi hzi (by rw [← a, a'])
            subst e1
            exact ⟨rfl, (nx_inj (can_in hj) (can_in hm) hyn e2).symm⟩
        · exact Or.inl ⟨i, by omega, hh⟩
      · rintro (⟨i, hi, hh⟩ | ⟨rfl, rfl⟩)
        · exact ⟨i, by omega, hh⟩
        · exact ⟨q, by omega, hedge⟩
    show sumN (fun i => H (f i) (t i)) q + H (f q) (t q) = _
    rw [ih', hval]
    have hin : ∀ x : Int, (0 ≤ x ∧ x < (n : Int)) → inC w d l x := fun x hx => ⟨hx.1, by omega⟩
    have hoth : ∀ z : Int, (0 ≤ z ∧ z < (n : Int)) → z ≠ y → e3 (fun k => nx w d l z k ≠ -1 ∧ eds w d l f t ((q + 1 : Nat) : Int) z k) (h z) = e3 (fun k => nx w d l z k ≠ -1 ∧ eds w d l f t q z k) (h z) := by
      intro z hz hzy
      refine e3_cong (fun m hm => ?_) (fun _ _ _ => rfl)
      constructor
      · rintro ⟨a, b⟩
        rcases (hex z m (hin z hz) hm a).mp b with b | ⟨b, -⟩
        · exact ⟨a, b⟩
        · exact absurd b hzy
      · rintro ⟨a, b⟩
        exact ⟨a, (hex z m (hin z hz) hm a).mpr (Or.inl b)⟩
    have hat : e3 (fun k => nx w d l y k ≠ -1 ∧ eds w d l f t ((q + 1 : Nat) : Int) y k) (h y) = e3 (fun k => nx w d l y k ≠ -1 ∧ eds w d l f t q y k) (h y) + h y j := by
      refine e3_add hj (fun m hm => ?_) (fun z => hnew z.2)
      constructor
      · rintro ⟨a, b⟩
        rcases (hex y m hy hm a).mp b with b | ⟨-, b⟩
        · exact Or.inl ⟨a, b⟩
        · exact Or.inr b
      · rintro (⟨a, b⟩ | rfl)
        · exact ⟨a, (hex y m hy hm a).mpr (Or.inl b)⟩
        · exact ⟨hyn, (hex y m hy hm hyn).mpr (Or.inr ⟨rfl, rfl⟩)⟩
    -- two functions that differ at y alone
    have hset := sumN_set (f := fun x => e3 (fun k => nx w d l x k ≠ -1 ∧ eds w d l f t q x k) (h x)) (g := fun x => if x = y then e3 (fun k => nx w d l y k ≠ -1 ∧ eds w d l f t q y k) (h y) + h y j else e3 (fun k => nx w d l x k ≠ -1 ∧ eds w d l f t q x k) (h x)) (k := n) (i := y) hyb (fun c hc => if_neg hc)
    have hcg : sumN (fun x => e3 (fun k => nx w d l x k ≠ -1 ∧ eds w d l f t ((q + 1 : Nat) : Int) x k) (h x)) n = sumN (fun x => if x = y then e3 (fun k => nx w d l y k ≠ -1 ∧ eds w d l f t q y k) (h y) + h y j else e3 (fun k => nx w d l x k ≠ -1 ∧ eds w d l f t q x k) (h x)) n := by
      refine sumN_cong (fun z z1 z2 => ?_)
      by_cases hzy : z = y
      · rw [if_pos hzy, hzy]; exact hat
      · rw [if_neg hzy]; exact hoth z ⟨z1, z2⟩ hzy
    rw [hcg, hset]
    simp only [if_true]
    omega
theorem e3_in {P : Int → Prop} {h : Int → Int} {B : Int} (hb : ∀ k, 0 ≤ h k ∧ h k ≤ B) : 0 ≤ e3 P h ∧ e3 P h ≤ B + B + B := by
  have a := iv_in (P := P 1) (hb 1)
  have b := iv_in (P := P 2) (hb 2)
  have c := iv_in (P := P 4) (hb 4)
  unfold e3
  omega
theorem okL_le {w d l : Int} (hD : okD w d l) {f t : Int → Int} {q : Int} (h : okL w d l f t q) : q ≤ 972 := by
  have hc := okD_cells hD
  obtain ⟨n, hn⟩ : ∃ n : Nat, w * d * l = (n : Int) := ⟨(w * d * l).toNat, by omega⟩
  obtain ⟨p, hp⟩ : ∃ p : Nat, q = (p : Int) := ⟨q.toNat, by have := h.1; omega⟩
  subst hp
  have h1 := sum_list hD hn (f := f) (t := t) (fun _ _ => 1) (fun _ _ => 1) (fun _ _ _ _ _ => ⟨rfl, rfl⟩) p h
  have h2 : ∀ k : Nat, sumN (fun _ => (1 : Int)) k = k := by
    intro k
    induction k with
    | zero => rfl
    | succ k ih => show sumN (fun _ => (1 : Int)) k + 1 = _; rw [ih]; omega
  rw [h2] at h1
  have h3 := (sumN_le (f := fun x => e3 (fun k => nx w d l x k ≠ -1 ∧ eds w d l f t p x k) (fun _ => 1)) (B := 1 + 1 + 1) (fun c => e3_in (fun _ => by decide)) n).2
  omega
