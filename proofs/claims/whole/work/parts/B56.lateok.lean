/-! LATE alike: what the least set means -/
theorem WF_16 {w d l : Int} {c c' : Mem} (hc : ∀ o, o ≠ 16 → c' o = c o) (h16 : ∀ x, inC w d l x → c' 16 x = c 16 x) (h : WF w d l c) : WF w d l c' := by
  obtain ⟨h1, h2, h3, h4, h5⟩ := h
  refine ⟨?_, ?_, fun n hn => ⟨fun x hx => ?_, fun hcc x hx => ?_⟩, fun x hx => ?_, ?_⟩
  · unfold WFs at h1 ⊢
    rw [hc 9 (by decide), hc 10 (by decide), hc 11 (by decide), hc 12 (by decide)]
    exact h1
  · unfold WFp at h2 ⊢
    rw [hc 9 (by decide), hc 13 (by decide), hc 14 (by decide)]
    exact h2
  · have := (h3 n hn).1 x hx
    unfold pinT at this ⊢
    rw [hc 13 (by decide), hc 14 (by decide), hc 17 (by decide), hc 18 (by decide), hc 19 (by decide), h16 x hx]
    exact this
  · rw [hc 18 (by decide), hc 19 (by decide)]
    rw [hc 9 (by decide)] at hcc
    exact (h3 n hn).2 hcc x hx
  · rw [h16 x hx, hc 17 (by decide)]
    exact h4 x hx
  · rw [hc 15 (by decide), hc 6 (by decide), hc 7 (by decide), hc 47 (by decide)]
    exact h5
theorem RR_16 {w d l : Int} {c c' r : Mem} (hc : ∀ o, o ≠ 16 → c' o = c o) (h16 : ∀ x, inC w d l x → c' 16 x = c 16 x) (h : RR w d l c r) : RR w d l c' r := by
  obtain ⟨h1, h2, h3⟩ := h
  refine ⟨?_, fun n hn => ?_, h3⟩
  · unfold RRs at h1 ⊢
    rw [hc 6 (by decide), hc 7 (by decide), hc 9 (by decide), hc 10 (by decide), hc 11 (by decide), hc 12 (by decide), hc 13 (by decide), hc 14 (by decide), hc 15 (by decide), hc 47 (by decide)]
    exact h1
  · obtain ⟨a1, a2, a3, a4, a5, a6⟩ := h2 n hn
    unfold RRn
    rw [hc 13 (by decide), hc 14 (by decide), hc 17 (by decide), hc 18 (by decide), hc 19 (by decide)]
    exact ⟨a1, a2, a3, a4, fun x hx => by rw [h16 x hx]; exact a5 x hx, a6⟩
theorem mvd_sym {w d l n p t : Int} {c cP : Mem} (hM : WM w d l c) (hn : 0 ≤ n ∧ n < 8) (h : mvd w d l n p t c cP) : mvd w d l n p (c 14 (n * 4 + p)) cP c := by
  refine ⟨fun o a b => (h.1 o a b).symm, ?_, fun x hx => ⟨(hM.2.2.2 x hx).1, fun o ho => ((h.2.2 x hx).2.1 o ho).symm, ?_⟩⟩
  · funext j
    rw [k_mset_at]
    by_cases e : j = n * 4 + p
    · rw [if_pos e, e]
    · rw [if_neg e, h.2.1, k_mset_at, if_neg e]
  · rw [h.1 18 (by decide) (by decide)]
    exact ((hM.2.2.1 n hn).1 x hx).2.2.2
theorem LT_zero {w d l : Int} {f t row : Int → Int} {q : Int} (h : LT w d l f t q row) (hz : ∀ x, inC w d l x → row x = 0) : q = 0 := by
  have h0 := h.1.1
  refine Classical.byContradiction (fun hne => ?_)
  obtain ⟨x, k, hx, hk, hnx, e1, e2⟩ := h.1.2.1 0 (by omega)
  have := (h.2 x k hx hk hnx).mpr ⟨0, by omega, Or.inl ⟨e1, e2⟩⟩
  rw [hz x hx, bt_zero] at this
  cases this
theorem exM (P : Nat → Prop) : ∃ M : Int, (0 ≤ M ∧ M < 256) ∧ ∀ k, bt M k = true ↔ (k < 8 ∧ P k) := by
  have key : ∀ n : Nat, n ≤ 8 → ∃ M : Int, (0 ≤ M ∧ M < 256) ∧ ∀ k, bt M k = true ↔ (k < n ∧ P k) := by
    intro n
    induction n with
    | zero => exact fun _ => ⟨0, by decide, fun k => by rw [bt_zero]; exact ⟨fun z => (by cases z), fun z => absurd z.1 (by omega)⟩⟩
    | succ n ih =>
      intro hn
      obtain ⟨M, hM, hb⟩ := ih (by omega)
      by_cases hp : P n
      · refine ⟨kor M (kshl 1 (n : Int)), kor8 hM (bit8 (by omega)), fun k => ?_⟩
        rw [bt_or, bt_bit (by omega) (by omega), Bool.or_eq_true, decide_eq_true_eq, hb k]
        constructor
        · rintro (⟨a, b⟩ | a)
          · exact ⟨by omega, b⟩
          · exact ⟨by omega, by rw [show k = n by omega]; exact hp⟩
        · rintro ⟨a, b⟩
          by_cases e : k = n
          · exact Or.inr (by omega)
          · exact Or.inl ⟨by omega, b⟩
      · refine ⟨M, hM, fun k => ?_⟩
        rw [hb k]
        constructor
        · rintro ⟨a, b⟩; exact ⟨by omega, b⟩
        · rintro ⟨a, b⟩
          refine ⟨?_, b⟩
          have : k ≠ n := fun e => hp (by rw [← e]; exact b)
          omega
  exact key 8 (Nat.le_refl _)
/-- memories with the same traces are the same -/
theorem mem_eq {w d l : Int} {c c1 c2 : Mem} (hD : okD w d l) (h1 : WM w d l c1) (h2 : WM w d l c2) (f1 : ∀ o, o ≠ 17 → o ≠ 19 → c1 o = c o) (f2 : ∀ o, o ≠ 17 → o ≠ 19 → c2 o = c o) (o1 : offS w d l c c1) (o2 : offS w d l c c2) (hr : ∀ n x : Int, (0 ≤ n ∧ n < 8) → inC w d l x → c1 19 (n * (w * d * l) + x) = c2 19 (n * (w * d * l) + x)) : c1 = c2 := by
  have hc4 := okD_cells hD
  funext o
  by_cases e7 : o = 17
  · subst e7
    funext x
    by_cases hx : inC w d l x
    · refine bits_eq (h1.2.2.2 x hx).2 (h2.2.2.2 x hx).2 (fun k hk => ?_)
      have a := ((h1.2.2.1 (k : Int) (by omega)).1 x hx).2.2.1
      have b := ((h2.2.2.1 (k : Int) (by omega)).1 x hx).2.2.1
      rw [Int.toNat_natCast] at a b
      rw [hr (k : Int) x (by omega) hx, ← b] at a
      cases p : bt (c1 17 x) k <;> cases q : bt (c2 17 x) k <;> simp_all
    · rw [o1.2 x hx, o2.2 x hx]
  · by_cases e9 : o = 19
    · subst e9
      funext j
      by_cases hj : 0 ≤ j ∧ j < w * d * l * 8
      · obtain ⟨n, x, hn, hx, rfl⟩ := cell8 (by omega) hj
        exact hr n x hn hx
      · rw [o1.1 j hj, o2.1 j hj]
    · rw [f1 o e7 e9, f2 o e7 e9]
theorem lwN_cg {w d l s s' : Int} {ex : Int → Int} : ∀ {j : Nat} {k : Int} {c : Mem} {ok : Bool} {c' : Mem}, (0 ≤ k ∧ k + j ≤ 8) → (∀ k' : Int, (0 ≤ k' ∧ k' < 8) → ((bt s k'.toNat = true ∧ 0 < c 13 k') ↔ (bt s' k'.toNat = true ∧ 0 < c 13 k'))) → lwN w d l ex s j k c ok c' → lwN w d l ex s' j k c ok c'
  | 0, _, _, _, _, _, _, h => h
  | j + 1, k, c, ok, c', hk, hs, h => by
    rcases h with ⟨a1, a2⟩ | ⟨a1, r1, x1, a2, a3⟩
    · exact Or.inl ⟨fun z => a1 ((hs k (by omega)).mpr z), lwN_cg (by omega) hs a2⟩
    · refine Or.inr ⟨(hs k (by omega)).mp a1, r1, x1, a2, ?_⟩
      rcases a3 with a3 | ⟨p, q⟩
      · exact Or.inl a3
      · refine Or.inr ⟨p, lwN_cg (by omega) (fun k' hk' => ?_) q⟩
        have e13 : x1 13 = c 13 := by
          rcases a2 with ⟨-, -, e⟩ | ⟨-, c2, hL, ⟨-, e⟩ | ⟨-, e⟩⟩
          · rw [e]
          · rw [e]
          · rw [e, LRw_ne hL 13 (by decide) (by decide), rmT_ne (by decide) (by decide)]
        rw [e13]
        exact hs k' hk'
/-- laid late with others, three of them at most -/
def okT (w d l : Int) (ex : Int → Int) (cP : Mem) (n s : Int) : Prop := pop s ≤ 3 ∧ ∃ c', lwA w d l ex (cS (w * d * l) n s cP) n s true c'
theorem cS_and {w d l n s M : Int} {cP : Mem} (hD : okD w d l) (hM : WM w d l cP) (hn : 0 ≤ n ∧ n < 8) (hpl : ∀ k x : Int, (0 ≤ k ∧ k < cP 9 14) → ¬ 0 < cP 13 k → inC w d l x → cP 19 (k * (w * d * l) + x) = 0) (hMb : ∀ k : Int, (0 ≤ k ∧ k < cP 9 14) → k ≠ n → (bt M k.toNat = true ↔ 0 < cP 13 k)) (hsn : bt s n.toNat = false) : cS (w * d * l) n (kand s M) cP = cS (w * d * l) n s cP := by
  have h8 := hM.1.2.1
  unfold cS
  refine mem_eq (c := cP) hD (rmL_WM _ _ _ (by omega) (WM_rmT hM hn)) (rmL_WM _ _ _ (by omega) (WM_rmT hM hn)) (fun o a b => by rw [rmL_ne a b, rmT_ne a b]) (fun o a b => by rw [rmL_ne a b, rmT_ne a b]) (offS_tr (offS_rmT hD hn) (offS_rmL hD _ _ _ (by omega))) (offS_tr (offS_rmT hD hn) (offS_rmL hD _ _ _ (by omega))) (fun n' x hn' hx => ?_)
  rw [rmL_row _ _ _ n' x hx, rmL_row _ _ _ n' x hx, rmT_row hx, bt_and]
  by_cases e : n' = n
  · rw [if_pos e, ite_z, ite_z]
  · rw [if_neg e]
    by_cases hr : (0 : Int) ≤ n' ∧ n' < 0 + ((cP 9 14).toNat : Int)
    · have hb := hMb n' (by omega) e
      cases hs : bt s n'.toNat with
      | false => rw [Bool.false_and]
      | true =>
        rw [Bool.true_and]
        by_cases hm : bt M n'.toNat = true
        · rw [hm]
        · rw [if_neg (fun z => hm z.2), if_pos ⟨hr, rfl⟩]
          exact hpl n' x (by omega) (fun z => hm (hb.mpr z)) hx
    · rw [if_neg (fun z => hr z.1), if_neg (fun z => hr z.1)]
theorem okT_and {w d l n s M : Int} {ex : Int → Int} {cP : Mem} (hD : okD w d l) (hM : WM w d l cP) (hnn : 0 ≤ n ∧ n < cP 9 14) (hpl : ∀ k x : Int, (0 ≤ k ∧ k < cP 9 14) → ¬ 0 < cP 13 k → inC w d l x → cP 19 (k * (w * d * l) + x) = 0) (hMb : ∀ k : Int, (0 ≤ k ∧ k < cP 9 14) → k ≠ n → (bt M k.toNat = true ↔ 0 < cP 13 k)) (hs : vSet (cP 9 14) n s) (h : okT w d l ex cP n s) : okT w d l ex cP n (kand s M) := by
  have h8 := hM.1.2.1
  have hsn := vSet_n hs hnn.1
  obtain ⟨h3, c', res, c2, hL, hr⟩ := h
  have hp := pop_and (b := M) hs.1
  refine ⟨by omega, c', ?_⟩
  rw [cS_and hD hM (by omega) hpl hMb hsn]
  refine ⟨res, c2, hL, ?_⟩
  rcases hr with ⟨-, z⟩ | ⟨p, q⟩
  · cases z
  · refine Or.inr ⟨p, ?_⟩
    have e9 : cS (w * d * l) n s cP 9 = cP 9 := by unfold cS; rw [rmL_ne (by decide) (by decide), rmT_ne (by decide) (by decide)]
    have e13 : c2 13 = cP 13 := by
      have e13' : cS (w * d * l) n s cP 13 = cP 13 := by unfold cS; rw [rmL_ne (by decide) (by decide), rmT_ne (by decide) (by decide)]
      rcases hL with ⟨-, -, e⟩ | ⟨-, c3, hL, ⟨-, e⟩ | ⟨-, e⟩⟩
      · rw [e]; exact e13'
      · rw [e]; exact e13'
      · rw [e, LRw_ne hL 13 (by decide) (by decide), rmT_ne (by decide) (by decide)]; exact e13'
    rw [e9] at q ⊢
    refine lwN_cg (by omega) (fun k hk => ?_) q
    rw [e13, bt_and, Bool.and_eq_true]
    constructor
    · rintro ⟨a, b⟩
      have ha := hs.2 _ a
      exact ⟨⟨a, (hMb k (by omega) (by omega)).mpr b⟩, b⟩
    · rintro ⟨a, b⟩
      exact ⟨a.1, b⟩
