/-! the router's search, as a method -/
/-- what a search that ended well leaves: the keys of all states up to the wanted one -/
def SP (w d l L mv st vi be : Int) (ex : Int → Int) (F J : Int → Prop) (S wd : Int) (m : Mem) : Prop := (∀ t, (0 ≤ t ∧ t < S) → m 34 t = 2147483647 ∨ (rwK w d l L mv st vi be ex F J t (m 34 t) ∧ m 34 t ≤ 260000000)) ∧ (∀ t K, (0 ≤ t ∧ t < S) → rwK w d l L mv st vi be ex F J t K → K < m 34 wd → m 34 t ≤ K) ∧ m 34 wd ≠ 2147483647 ∧ ∀ K, rwK w d l L mv st vi be ex F J wd K → m 34 wd ≤ K
set_option maxRecDepth 100000 in
set_option maxHeartbeats 4000000 in
theorem c_X7_search (X : Xv) (m : Mem) {w d l L mv st vi be : Int} {ex : Int → Int} {F J : Int → Prop} (hB : Bd X w d l m) (hR : RCf w d l L mv st vi be ex m) (hF : ∀ x, inC w d l x → (m 27 x ≠ 0 ↔ F x)) (hJ : ∀ x, inC w d l x → (m 32 x ≠ 0 ↔ J x)) (p : Int) (hp : inC w d l p) : kCall (eX X) 3 M_X7_search.1 [vR 30, vI p] m (fun r m' => (∀ o, o ≠ 30 → o ≠ 34 → o ≠ 35 → o ≠ 36 → m' o = m o) ∧ (∀ i, i ≠ 9 → m' 30 i = m 30 i) ∧ ((r = some (vI 1) ∧ SP w d l L mv st vi be ex F J ((nC X : Int) * L) (p * L + (L - 1)) m') ∨ (r = some (vI 0) ∧ ∀ K, ¬ rwK w d l L mv st vi be ex F J (p * L + (L - 1)) K))) := by
  obtain ⟨hD, hn, hG⟩ := id hB
  have hc4 := okD_cells hD
  have h324 : nC X ≤ 324 := by omega
  have hL15 : L = 1 ∨ L = 5 := hR.2.1.elim (fun z => Or.inl z.1) Or.inr
  have g4 : m 1 4 = (nC X : Int) := by rw [hG.2.2.2.2.1, hn]
  have g10 : m 30 10 = L := hR.1.1
  obtain ⟨S, hS⟩ : ∃ S, (nC X : Int) * L = S := ⟨_, rfl⟩
  obtain ⟨wd, hwd⟩ : ∃ wd, p * L + (L - 1) = wd := ⟨_, rfl⟩
  have hwr : 0 ≤ wd ∧ wd < S := by rw [← hS, ← hwd]; exact st_in hn hL15 hp (by omega)
  have hSb : 0 ≤ S ∧ S ≤ ((nC X * 5 : Nat) : Int) := by rw [← hS]; rcases hL15 with rfl | rfl <;> omega
  rw [hS, hwd]
  refine kCall_pre (fun hz0 => ?_)
  refine kCall_ofT ok_X7_search rfl (Nat.le_of_ble_eq_true rfl) (fun T hT => ?_)
  -- the searching loop
  have main : ∀ (q : Nat) (n : Int) (m' : Mem) (x5 : Option AV), n + q = S → 0 ≤ n → (∀ o i, inR (m' o i)) → (∀ o, o ≠ 30 → o ≠ 34 → o ≠ 35 → o ≠ 36 → m' o = m o) → (∀ i, i ≠ 9 → m' 30 i = m 30 i) → DI w d l L mv st vi be ex F J S wd m' → sumN (tknF m') S.toNat = n → kW (eX X) 2 M_X7_search T 5 [some (vR 30), some (vI p), some (vI S), some (vI wd), some (vI n), x5] [] m' := by
    intro q
    induction q with
    | zero =>
      intro n m' x5 hnq h0 hz hf hf30 hDI hsum
      -- all states would be taken
      exfalso
      have h1 : sumN (tknF m') S.toNat ≤ sumN (fun t => if t = wd then 0 else 1) S.toNat := by
        refine sumN_ge (fun t t0 t1 => ?_)
        unfold tknF
        by_cases htw : t = wd
        · rw [if_pos htw, if_neg (by rw [htw]; exact hDI.2.2.2.2.2.2)]; exact Int.le_refl _
        · rw [if_neg htw]; split <;> omega
      have h2 : sumN (fun t : Int => if t = wd then (0 : Int) else 1) S.toNat = sumN (fun _ => (1 : Int)) S.toNat + (0 - 1) := by
        have := sumN_set (f := fun _ => (1 : Int)) (g := fun t : Int => if t = wd then (0 : Int) else 1) (k := S.toNat) (i := wd) (by omega) (fun c hc => if_neg hc)
        rw [this]
        simp
      have h3 : ∀ k : Nat, sumN (fun _ => (1 : Int)) k = k := by
        intro k
        induction k with
        | zero => rfl
        | succ k ih => show sumN (fun _ => (1 : Int)) k + 1 = _; rw [ih]; omega
      rw [h2, h3] at h1
      omega
    | succ q ih =>
      intro n m' x5 hnq h0 hz hf hf30 hDI hsum
      have hHI := hDI.1
      refine kW_go ok_X7_search [6, 7] 20 ?_
      show (S ≤ n → kW (eX X) 2 M_X7_search T 7 [some (vR 30), some (vI p), some (vI S), some (vI wd), some (vI n), x5] [] m') ∧ (n < S → (m' 30 9 ≤ 0 → kW (eX X) 2 M_X7_search T 7 [some (vR 30), some (vI p), some (vI S), some (vI wd), some (vI n), x5] [] m') ∧ (0 < m' 30 9 → kCall (eX X) 2 M_X7_takeLeast.1 [vR 30] m' _))
      refine And.intro (fun h => absurd h (by omega)) (fun _ => And.intro (fun hq0 => ?_) (fun hq0 => ?_))
      · refine kW_go ok_X7_search [] 20 ?_
        refine hT _ _ ⟨Or.inl rfl, hf, hf30, Or.inr ⟨rfl, fun K hK => ?_⟩⟩
        obtain ⟨-, K', hK', hb⟩ := rwK_bound hD hR hK
        obtain ⟨x, a, ks, C, q1, q2, q3, q4, q5⟩ := hK'
        rcases DI_row hn hS.symm hR hz hDI q2 q3 q4 with g | ⟨u, u1, u2, u3⟩
        · rw [← q1, ← q5] at g
          refine hDI.2.2.2.2.2.2 ⟨by omega, ?_⟩
          rcases hHI.2.2.1 wd hwr with z | ⟨z1, z2⟩
          · exact z
          · omega
        · rcases hHI.2.2.1 u u1 with z | ⟨z1, z2⟩
          · exact u2 z
          · omega
      · refine kCall_mono (kCall_in (c_X7_takeLeast X m' S h324 hSb.2 hHI hq0)) (Nat.le_of_ble_eq_true rfl) ?_
        rintro _ m1 ⟨⟨rfl, ht⟩, hz1⟩
        obtain ⟨s, hs⟩ : ∃ s, m' 35 0 = s := ⟨_, rfl⟩
        rw [hs]
        obtain ⟨t1, t2, t3, t4, t5⟩ := id ht
        have hsi := hHI.2.1 0 (by omega)
        rw [hs] at hsi
        have hsW : m' 36 s ≠ -1 := by rw [hsi.2]; decide
        have hsF := hDI.2.2.1 s hsi.1 hsW
        have e34 : m1 34 = m' 34 := t2 34 (by decide) (by decide) (by decide)
        have hf1 : ∀ o, o ≠ 30 → o ≠ 34 → o ≠ 35 → o ≠ 36 → m1 o = m o := fun o a b c e => by rw [t2 o a c e]; exact hf o a b c e
        have hf130 : ∀ i, i ≠ 9 → m1 30 i = m 30 i := fun i hi => by rw [t3 i hi]; exact hf30 i hi
        have hsmin : ∀ u, (0 ≤ u ∧ u < S) → m' 36 u ≠ -1 → m' 34 s ≤ m' 34 u := fun u hu hw => by
          have := HI_least hHI hu hw
          rw [hs] at this
          exact this
        have hsR : rwK w d l L mv st vi be ex F J s (m' 34 s) := ((hDI.2.1 s hsi.1).resolve_left hsF).1
        have hexact : ∀ K, rwK w d l L mv st vi be ex F J s K → m' 34 s ≤ K := by
          rintro K ⟨x, a, ks, C, g1, g2, g3, g4, rfl⟩
          rcases DI_row hn hS.symm hR hz hDI g2 g3 g4 with g | ⟨u, u1, u2, u3⟩
          · rw [g1]; exact g
          · exact Int.le_trans (hsmin u u1 u2) u3
        refine And.intro (fun hne => ?_) (fun heq => ?_)
        · have hne : ¬ s = wd := hne
          obtain ⟨y, b, hy, hb, hyb⟩ := st_ex hn hL15 (t := s) (by rw [hS]; exact hsi.1)
          have hbnd : 0 ≤ m1 34 (y * L + b) ∧ m1 34 (y * L + b) ≤ 1000000000 := by
            rw [← hyb, e34]
            obtain ⟨a1, K', a2, a3⟩ := rwK_bound hD hR hsR
            have := hexact K' a2
            exact ⟨a1, by omega⟩
          refine kW_go ok_X7_search [5] 20 ?_
          rw [hyb]
          have hB1 : Bd X w d l m1 := Bd_same hB (fun o a b => hf1 o (by omega) (by omega) (by omega) (by omega))
          refine kCall_mono (kCall_in (c_X7_comeFrom X m1 hB1 (RCf_same hR hf130 (hf1 31 (by decide) (by decide) (by decide) (by decide))) (F := F) (fun x hx => by rw [hf1 27 (by decide) (by decide) (by decide) (by decide)]; exact hF x hx) (by rw [hS]; exact t1) y b hy hb hbnd)) (Nat.le_of_ble_eq_true rfl) ?_
          rintro _ m2 ⟨⟨rfl, hJ2, hall⟩, hz2⟩
          rw [hS] at hJ2
          rw [← hyb] at hJ2 hall
          obtain ⟨n1, n2⟩ := DI_step hD hn hS.symm hR hz hDI hq0 hs ht hne hwr hy hb hyb hJ2 hall
          refine ⟨by constructor <;> omega, ih (n + 1) m2 _ (by omega) (by omega) hz2 (fun o a b c e => by rw [hJ2.2.1 o a b c e]; exact hf1 o a b c e) (fun i hi => by rw [hJ2.2.2.1 i hi]; exact hf130 i hi) n1 ?_⟩
          have hs0 : tknF m' s = 0 := if_neg (fun z => hsW z.2)
          have e1 : sumN (tknF m2) S.toNat = sumN (fun t => if t = s then 1 else tknF m' t) S.toNat := sumN_cong (fun t a b => n2 t (by omega))
          have e2 := sumN_set (f := tknF m') (g := fun t => if t = s then 1 else tknF m' t) (k := S.toNat) (i := s) (by omega) (fun c hc => if_neg hc)
          rw [e1, e2, hsum, hs0]
          simp
        · have heq : s = wd := heq
          refine hT _ _ ⟨Or.inr rfl, hf1, hf130, Or.inl ⟨rfl, fun t ht' => by rw [e34]; exact hDI.2.1 t ht', fun t K ht' hK hlt => ?_, by rw [e34, ← heq]; exact hsF, fun K hK => by rw [e34, ← heq]; rw [← heq] at hK; exact hexact K hK⟩⟩
          rw [e34] at hlt ⊢
          obtain ⟨x, a, ks, C, q1, q2, q3, q4, q5⟩ := hK
          rcases DI_row hn hS.symm hR hz hDI q2 q3 q4 with g | ⟨u, u1, u2, u3⟩
          · rw [q1, q5]; exact g
          · have := hsmin u u1 u2
            rw [heq] at this
            omega
  -- the first offers
  generalize hm0 : fset (mfill (mfill m 34 0 S 2147483647) 36 0 S (-1)) 30 9 0 = m0
  have z34 : ∀ t, (0 ≤ t ∧ t < S) → m0 34 t = 2147483647 := fun t ht => by rw [← hm0]; unfold fset; rw [k_mset_ne (by decide), mfill_ne (by decide), mfill_at, if_pos ht]
  have z36 : ∀ t, (0 ≤ t ∧ t < S) → m0 36 t = -1 := fun t ht => by rw [← hm0]; unfold fset; rw [k_mset_ne (by decide), mfill_at, if_pos ht]
  have z9 : m0 30 9 = 0 := by rw [← hm0]; unfold fset; rw [k_mset_at]; rfl
  have z30 : ∀ i, i ≠ 9 → m0 30 i = m 30 i := fun i hi => by rw [← hm0]; unfold fset; rw [k_mset_at, if_neg (show i ≠ ((9 : Nat) : Int) from hi), mfill_ne (by decide), mfill_ne (by decide)]
  have zf : ∀ o, o ≠ 30 → o ≠ 34 → o ≠ 36 → m0 o = m o := fun o a b c => by rw [← hm0]; unfold fset; rw [k_mset_ne a, mfill_ne c, mfill_ne b]
  have zHI : HI S m0 := by
    unfold HI
    rw [z9]
    exact ⟨by omega, fun i hi => absurd hi (by omega), fun s hs => Or.inl (z36 s hs), fun i hi => absurd hi (by omega)⟩
  obtain ⟨Off, hOff⟩ : ∃ Off : Int → Int → Prop, Off = fun t v => v = 0 ∧ ∃ x a, t = x * L + a ∧ inC w d l x ∧ (0 ≤ a ∧ a < L) ∧ J x := ⟨_, rfl⟩
  have start : ∀ (m' : Mem) (x4 x5 : Option AV), (∀ o i, inR (m' o i)) → ofJ S Off m0 m' → (∀ x a, inC w d l x → (0 ≤ a ∧ a < L) → J x → m' 34 (x * L + a) ≤ 0) → kW (eX X) 2 M_X7_search T 4 [some (vR 30), some (vI p), some (vI S), some (vI (nC X : Int)), x4, x5] [] m' := by
    intro m' x4 x5 hz hJ' hdone
    obtain ⟨j1, j2, j3, j4, j5⟩ := id hJ'
    have f10 : m' 30 10 = L := by rw [j3 10 (by decide), z30 10 (by decide)]; exact g10
    refine kW_go ok_X7_search [5] 20 ?_
    show inR (p * m' 30 10) ∧ inR (p * m' 30 10 + m' 30 10) ∧ inR (p * m' 30 10 + m' 30 10 - 1) ∧ kW (eX X) 2 M_X7_search T 5 [some (vR 30), some (vI p), some (vI S), some (vI (p * m' 30 10 + m' 30 10 - 1)), some (vI 0), x5] [] m'
    rw [f10, show p * L + L - 1 = wd by omega]
    have hr : inR (p * L) ∧ inR (p * L + L) ∧ inR wd := by
      obtain ⟨p1, p2⟩ := hp
      rcases hL15 with rfl | rfl <;> (refine ⟨?_, ?_, ?_⟩ <;> constructor <;> omega)
    refine ⟨hr.1, hr.2.1, hr.2.2, ?_⟩
    have hval : ∀ t, (0 ≤ t ∧ t < S) → m' 34 t = 2147483647 ∨ (m' 34 t = 0 ∧ m' 34 t < m0 34 t ∧ ∃ x a, t = x * L + a ∧ inC w d l x ∧ (0 ≤ a ∧ a < L) ∧ J x) := by
      intro t ht
      rcases j4 t with z | ⟨z1, z2⟩
      · left; rw [z]; exact z34 t ht
      · right
        rw [hOff] at z2
        exact ⟨z2.1, z1, z2.2⟩
    have hnt : ∀ t, (0 ≤ t ∧ t < S) → ¬ tkn m' t := by
      rintro t ht ⟨a, b⟩
      rcases hval t ht with z | ⟨-, z, -⟩
      · exact a z
      · exact ((j5 t ht).mpr (Or.inr z)) b
    refine main S.toNat 0 m' _ (by omega) (by omega) hz (fun o a b c e => by rw [j2 o a b c e]; exact zf o a b e) (fun i hi => by rw [j3 i hi]; exact z30 i hi) ⟨j1, fun t ht => ?_, fun t ht hw => ?_, fun t ht hk => absurd hk (hnt t ht), fun x a k y b hy hb hk _ => absurd hk (hnt _ (by rw [← hS]; exact st_in hn hL15 hy hb)), fun x a hx ha hJx => ?_, hnt wd hwr⟩ (sumN_z (fun t t0 t1 => if_neg (hnt t (by omega))))
    · rcases hval t ht with z | ⟨z1, -, x, a, q1, q2, q3, q4⟩
      · exact Or.inl z
      · right
        rw [z1]
        exact ⟨⟨x, a, [], 0, q1, q2, q3, ⟨q4, rfl⟩, rfl⟩, by decide⟩
    · rcases (j5 t ht).mp hw with z | z
      · exact absurd (z36 t ht) z
      · have := z34 t ht
        omega
    · have hst := st_in hn hL15 hx ha
      rw [hS] at hst
      have := hdone x a hx ha hJx
      rcases hval _ hst with z | ⟨z, -⟩
      · omega
      · exact z
  have cells : ∀ (q : Nat) (x : Int) (m' : Mem) (x4 x5 : Option AV), x + q = (nC X : Int) → 0 ≤ x → (∀ o i, inR (m' o i)) → ofJ S Off m0 m' → (∀ x' a, inC w d l x' → (0 ≤ a ∧ a < L) → J x' → x' < x → m' 34 (x' * L + a) ≤ 0) → kW (eX X) 2 M_X7_search T 1 [some (vR 30), some (vI p), some (vI S), some (vI x), x4, x5] [] m' := by
    intro q
    induction q with
    | zero =>
      intro x m' x4 x5 hxq h0 hz hJ' hdone
      have hx : x = (nC X : Int) := by omega
      have f4 : m' 1 4 = (nC X : Int) := by rw [hJ'.2.1 1 (by decide) (by decide) (by decide) (by decide), zf 1 (by decide) (by decide) (by decide)]; exact g4
      refine kW_go ok_X7_search [4] 20 ?_
      refine And.intro (fun _ => ?_) (fun h => ?_)
      · rw [hx]
        exact start m' x4 x5 hz hJ' (fun x' a hx' ha hJx => hdone x' a hx' ha hJx (by rw [hx]; obtain ⟨u1, u2⟩ := hx'; omega))
      · have h : x < m' 1 4 := h
        omega
    | succ q ih =>
      intro x m' x4 x5 hxq h0 hz hJ' hdone
      have hxi : inC w d l x := ⟨h0, by omega⟩
      have hnext : ∀ (m2 : Mem) (z4 z5 : Option AV), (∀ o i, inR (m2 o i)) → ofJ S Off m0 m2 → (∀ x' a, inC w d l x' → (0 ≤ a ∧ a < L) → J x' → x' < x + 1 → m2 34 (x' * L + a) ≤ 0) → kW (eX X) 2 M_X7_search T 3 [some (vR 30), some (vI p), some (vI S), some (vI x), z4, z5] [] m2 := by
        intro m2 z4 z5 b1 b2 b3
        refine kW_go ok_X7_search [1] 20 ?_
        exact ⟨by constructor <;> omega, ih (x + 1) m2 z4 z5 (by omega) (by omega) b1 b2 b3⟩
      have lanes : ∀ (r : Nat) (a : Int) (m2 : Mem) (z5 : Option AV), a + r = L → 0 ≤ a → (∀ o i, inR (m2 o i)) → ofJ S Off m0 m2 → (∀ x' a', inC w d l x' → (0 ≤ a' ∧ a' < L) → J x' → (x' < x ∨ (x' = x ∧ a' < a)) → m2 34 (x' * L + a') ≤ 0) → kW (eX X) 2 M_X7_search T 2 [some (vR 30), some (vI p), some (vI S), some (vI x), some (vI a), z5] [] m2 := by
        intro r
        induction r with
        | zero =>
          intro a m2 z5 har ha b1 b2 b3
          have f32 : m2 32 = m 32 := by rw [b2.2.1 32 (by decide) (by decide) (by decide) (by decide), zf 32 (by decide) (by decide) (by decide)]
          have f10 : m2 30 10 = L := by rw [b2.2.2.1 10 (by decide), z30 10 (by decide)]; exact g10
          have hend := hnext m2 (some (vI a)) z5 b1 b2 (fun x' a' h1 h2 h3 h4 => b3 x' a' h1 h2 h3 (by omega))
          refine kW_go ok_X7_search [3] 20 ?_
          refine ⟨by obtain ⟨u1, u2⟩ := hxi; exact ⟨u1, by show x < (nC X : Int); omega⟩, And.intro (fun _ => hend) (fun _ => And.intro (fun _ => hend) (fun h => ?_))⟩
          have h : a < m2 30 10 := h
          omega
        | succ r ihr =>
          intro a m2 z5 har ha b1 b2 b3
          have f32 : m2 32 = m 32 := by rw [b2.2.1 32 (by decide) (by decide) (by decide) (by decide), zf 32 (by decide) (by decide) (by decide)]
          have f10 : m2 30 10 = L := by rw [b2.2.2.1 10 (by decide), z30 10 (by decide)]; exact g10
          have hst := st_in hn hL15 hxi (a := a) (by omega)
          rw [hS] at hst
          refine kW_go ok_X7_search [2, 3] 20 ?_
          show (0 ≤ x ∧ x < (nC X : Int)) ∧ (m2 32 x = 0 → kW (eX X) 2 M_X7_search T 3 [some (vR 30), some (vI p), some (vI S), some (vI x), some (vI a), z5] [] m2) ∧ (¬ m2 32 x = 0 → (m2 30 10 ≤ a → _) ∧ (a < m2 30 10 → inR (x * m2 30 10) ∧ inR (x * m2 30 10 + a) ∧ kCall (eX X) 2 M_X7_offer.1 [vR 30, vI (x * m2 30 10 + a), vI 0] m2 _))
          rw [f32, f10]
          refine ⟨by obtain ⟨u1, u2⟩ := hxi; exact ⟨u1, by omega⟩, fun hj0 => hnext m2 _ _ b1 b2 (fun x' a' h1 h2 h3 h4 => b3 x' a' h1 h2 h3 (Or.inl ?_)), fun hj1 => And.intro (fun h => absurd h (by omega)) (fun _ => ⟨?_, ?_, ?_⟩)⟩
          · by_cases hxx : x' = x
            · rw [hxx] at h3
              exact absurd hj0 ((hJ x hxi).mpr h3)
            · omega
          · rcases hL15 with rfl | rfl <;> (constructor <;> omega)
          · constructor <;> omega
          · refine kCall_mono (kCall_in (c_X7_offer X m2 S (x * L + a) 0 h324 hSb.2 b2.1 hst)) (Nat.le_of_ble_eq_true rfl) ?_
            rintro _ m3 ⟨⟨rfl, hp3⟩, hz3⟩
            obtain ⟨q1, q2, q3⟩ := ofJ_step b2 hp3 (by rw [hOff]; exact ⟨rfl, x, a, rfl, hxi, by omega, (hJ x hxi).mp hj1⟩)
            refine ⟨by constructor <;> omega, ihr (a + 1) m3 _ (by omega) (by omega) hz3 q1 (fun x' a' h1 h2 h3 h4 => ?_)⟩
            by_cases hxa : x' = x ∧ a' = a
            · rw [hxa.1, hxa.2]; exact q2
            · exact Int.le_trans (q3 _) (b3 x' a' h1 h2 h3 (by omega))
      have f4 : m' 1 4 = (nC X : Int) := by rw [hJ'.2.1 1 (by decide) (by decide) (by decide) (by decide), zf 1 (by decide) (by decide) (by decide)]; exact g4
      refine kW_go ok_X7_search [2, 4] 20 ?_
      refine And.intro (fun h => ?_) (fun _ => lanes L.toNat 0 m' x5 (by omega) (by omega) hz hJ' (fun x' a' h1 h2 h3 h4 => hdone x' a' h1 h2 h3 (by omega)))
      have h : m' 1 4 ≤ x := h
      omega
  refine kW_go ok_X7_search [1] 20 ?_
  show inR (m 1 4 * m 30 10) ∧ kCall (eX X) 2 M_J7_fill_fda19.1 [vR 34, vI 0, vI (m 1 4 * m 30 10), vI 2147483647] m _
  rw [g4, g10, hS]
  refine ⟨by constructor <;> omega, ?_⟩
  refine kCall_mono (c_fill4 (eX X) m 34 (nC X * 5) 0 S 2147483647 (by decide) rfl (by omega) (by omega)) (Nat.le_of_ble_eq_true rfl) ?_
  rintro _ m1 ⟨rfl, rfl⟩
  have hSf : fld m 1 4 * fld m 30 10 = S := by rw [show fld m 1 4 = (nC X : Int) from g4, show fld m 30 10 = L from g10, hS]
  rw [hSf]
  refine kCall_mono (kCall_in (h := 2) (c_fill4 (eX X) (mfill m 34 0 S 2147483647) 36 (nC X * 5) 0 S (-1) (by decide) rfl (by omega) (by omega))) (Nat.le_of_ble_eq_true rfl) ?_
  rintro _ m1 ⟨⟨rfl, rfl⟩, hz1⟩
  have hzz : ∀ o i, inR (m0 o i) := by
    rw [← hm0]
    unfold fset
    exact k_mset_in hz1 k_inR0
  have := cells (nC X) 0 m0 none none (by omega) (by omega) hzz (ofJ_rf zHI) (fun x' a h1 h2 h3 h4 => absurd h4 (by obtain ⟨u1, u2⟩ := h1; omega))
  rw [← hm0] at this
  exact this
