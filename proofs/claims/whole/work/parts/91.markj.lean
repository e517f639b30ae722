/-! the router's markJoined: what a net's own moves join with its first pin -/
/-- a net's moves in a cell, of wires and traces -/
def mvB (N n : Int) (m : Mem) (x : Int) : Int := kor (m 18 (n * N + x)) (m 19 (n * N + x))
/-- one own move -/
def stJ (w d l N n : Int) (m : Mem) (a b : Int) : Prop := ∃ k : Int, (0 ≤ k ∧ k < 6) ∧ nx w d l a k = b ∧ b ≠ -1 ∧ bt (mvB N n m a) k.toNat = true
theorem stJ_same {w d l N n : Int} {m m' : Mem} (h8 : m' 18 = m 18) (h9 : m' 19 = m 19) {a b : Int} : stJ w d l N n m' a b ↔ stJ w d l N n m a b := by
  unfold stJ mvB
  rw [h8, h9]
set_option maxRecDepth 100000 in
set_option maxHeartbeats 1000000 in
theorem c_X7_markJoined (X : Xv) (m : Mem) {w d l : Int} (hB : Bd X w d l m) (n : Int) (hnn : 0 ≤ n ∧ n < 8) (ha : inC w d l (m 14 (n * 4))) : kCall (eX X) 2 M_X7_markJoined.1 [vR 30, vI n] m (fun r m' => r = none ∧ (∀ o, o ≠ 32 → o ≠ 33 → m' o = m o) ∧ ∀ c, inC w d l c → (m' 32 c ≠ 0 ↔ Rch (stJ w d l (nC X) n m) (m 14 (n * 4)) c)) := by
  obtain ⟨hD, hn, hG⟩ := id hB
  have hcc := okD_cells hD
  have g4 : m 1 4 = (nC X : Int) := by rw [hG.2.2.2.2.1, hn]
  obtain ⟨a, hae⟩ : ∃ a, m 14 (n * 4) = a := ⟨_, rfl⟩
  rw [hae] at ha ⊢
  have hac : 0 ≤ a ∧ a < (nC X : Int) := by obtain ⟨p, q⟩ := ha; omega
  refine kCall_ofT ok_X7_markJoined rfl (Nat.le_of_ble_eq_true rfl) (fun T hT => ?_)
  have hsum : ∀ f : Int → Int, 0 ≤ sumN (flg f) (nC X) ∧ sumN (flg f) (nC X) ≤ (nC X : Int) := fun f => by have := sumN_le (flg_in f) (nC X); omega
  obtain ⟨st, hst⟩ : ∃ st, st = stJ w d l (nC X) n m := ⟨_, rfl⟩
  rw [← hst] at hT
  obtain ⟨J, hJd⟩ : ∃ J : Int → Mem → Prop, ∀ q m', J q m' ↔ (1 ≤ q ∧ (∀ o, o ≠ 32 → o ≠ 33 → m' o = m o) ∧ (∀ j : Int, (0 ≤ j ∧ j < q) → inC w d l (m' 33 j) ∧ Rch st a (m' 33 j)) ∧ (∀ c, (0 ≤ c ∧ c < (nC X : Int)) → (m' 32 c ≠ 0 ↔ ∃ j : Int, (0 ≤ j ∧ j < q) ∧ m' 33 j = c)) ∧ (∃ j : Int, (0 ≤ j ∧ j < q) ∧ m' 33 j = a) ∧ sumN (flg (m' 32)) (nC X) = q) := ⟨_, fun _ _ => Iff.rfl⟩
  obtain ⟨C, hCd⟩ : ∃ C : Int → Int → Mem → Prop, ∀ i k m', C i k m' ↔ (∀ j : Int, (0 ≤ j ∧ j < i) → ∀ e : Int, (0 ≤ e ∧ e < 6) → nx w d l (m' 33 j) e ≠ -1 → bt (mvB (nC X) n m (m' 33 j)) e.toNat = true → m' 32 (nx w d l (m' 33 j) e) ≠ 0) ∧ (∀ e : Int, (0 ≤ e ∧ e < k) → nx w d l (m' 33 i) e ≠ -1 → bt (mvB (nC X) n m (m' 33 i)) e.toNat = true → m' 32 (nx w d l (m' 33 i) e) ≠ 0) := ⟨_, fun _ _ _ => Iff.rfl⟩
  have inner : ∀ (i : Int), 0 ≤ i → (∀ q m' x4 x5 x6, i < q → J q m' → C (i + 1) 0 m' → kW (eX X) 1 M_X7_markJoined T 4 [some (vR 30), some (vI n), some (vI q), some (vI i), x4, x5, x6] [] m') →
      ∀ (k : Nat) (e q ways : Int) (m' : Mem) (x6 : Option AV), e + k = 6 → 0 ≤ e → i < q → J q m' → C i e m' → ways = mvB (nC X) n m (m' 33 i) → kW (eX X) 1 M_X7_markJoined T 2 [some (vR 30), some (vI n), some (vI q), some (vI i), some (vI ways), some (vI e), x6] [] m' := by
    intro i hi hout k
    induction k with
    | zero =>
      intro e q ways m' x6 hk he hq hj hc hw
      refine kW_go ok_X7_markJoined [4] 20 ?_
      refine And.intro (fun _ => ?_) (fun h => absurd h (by omega))
      refine hout q m' _ _ _ hq hj ((hCd _ _ _).mpr ⟨fun j hj' e' he' => ?_, fun e' he' => by omega⟩)
      have hc' := (hCd _ _ _).mp hc
      by_cases hji : j = i
      · rw [hji]; exact hc'.2 e' (by omega)
      · exact hc'.1 j (by omega) e' he'
    | succ k ih =>
      intro e q ways m' x6 hk he hq hj hc hw
      have hj' := (hJd _ _).mp hj
      obtain ⟨q1, hf, hrow, hre, hain, hsm⟩ := hj'
      have hc' := (hCd _ _ _).mp hc
      have hqN : q ≤ (nC X : Int) := by have := hsum (m' 32); omega
      have hcell := (hrow i ⟨hi, hq⟩).1
      have hnx : m 2 (m' 33 i * 6 + e) = nx w d l (m' 33 i) e := (hG.2.2.2.2.2 _ hcell).2.2.2 e he (by omega)
      have hcb : 0 ≤ m' 33 i ∧ m' 33 i < (nC X : Int) := by obtain ⟨p1, p2⟩ := hcell; omega
      have f2 : m' 2 = m 2 := hf 2 (by decide) (by decide)
      have hend : ∀ (q' : Int) (m4 : Mem), i < q' → J q' m4 → C i (e + 1) m4 → ways = mvB (nC X) n m (m4 33 i) → kW (eX X) 1 M_X7_markJoined T 3 [some (vR 30), some (vI n), some (vI q'), some (vI i), some (vI ways), some (vI e), some (vI (nx w d l (m' 33 i) e))] [] m4 := by
        intro q' m4 h1 h2 h3 h4
        refine kW_go ok_X7_markJoined [2] 20 ?_
        exact ⟨by constructor <;> omega, ih (e + 1) q' ways m4 _ (by omega) (by omega) h1 h2 h3 h4⟩
      have hsame : (nx w d l (m' 33 i) e ≠ -1 → bt (mvB (nC X) n m (m' 33 i)) e.toNat = true → m' 32 (nx w d l (m' 33 i) e) ≠ 0) → C i (e + 1) m' := by
        intro h
        refine (hCd _ _ _).mpr ⟨hc'.1, fun e' he' => ?_⟩
        by_cases hee : e' = e
        · rw [hee]; exact h
        · exact hc'.2 e' (by omega)
      refine kW_go ok_X7_markJoined [2, 3, 4] 20 ?_
      refine And.intro (fun h => absurd h (by omega)) (fun _ => ?_)
      show (0 ≤ i ∧ i < (nC X : Int)) ∧ inR (m' 33 i * 6) ∧ inR (m' 33 i * 6 + e) ∧ (0 ≤ m' 33 i * 6 + e ∧ m' 33 i * 6 + e < ((nC X * 6 : Nat) : Int)) ∧ (kand (kshr ways e) 1 = 0 → kW (eX X) 1 M_X7_markJoined T 3 [some (vR 30), some (vI n), some (vI q), some (vI i), some (vI ways), some (vI e), some (vI (m' 2 (m' 33 i * 6 + e)))] [] m') ∧ (¬ kand (kshr ways e) 1 = 0 → (m' 2 (m' 33 i * 6 + e) = -1 → kW (eX X) 1 M_X7_markJoined T 3 [some (vR 30), some (vI n), some (vI q), some (vI i), some (vI ways), some (vI e), some (vI (m' 2 (m' 33 i * 6 + e)))] [] m') ∧ (¬ m' 2 (m' 33 i * 6 + e) = -1 → (0 ≤ m' 2 (m' 33 i * 6 + e) ∧ m' 2 (m' 33 i * 6 + e) < (nC X : Int)) ∧ (¬ m' 32 (m' 2 (m' 33 i * 6 + e)) = 0 → kW (eX X) 1 M_X7_markJoined T 3 [some (vR 30), some (vI n), some (vI q), some (vI i), some (vI ways), some (vI e), some (vI (m' 2 (m' 33 i * 6 + e)))] [] m') ∧ (m' 32 (m' 2 (m' 33 i * 6 + e)) = 0 → (0 ≤ m' 2 (m' 33 i * 6 + e) ∧ m' 2 (m' 33 i * 6 + e) < (nC X : Int)) ∧ (0 ≤ q ∧ q < (nC X : Int)) ∧ inR (q + 1) ∧ kW (eX X) 1 M_X7_markJoined T 3 [some (vR 30), some (vI n), some (vI (q + 1)), some (vI i), some (vI ways), some (vI e), some (vI (m' 2 (m' 33 i * 6 + e)))] [] (mset (mset m' 32 (m' 2 (m' 33 i * 6 + e)) 1) 33 q (m' 2 (m' 33 i * 6 + e))))))
      rw [f2, hnx, k_ask0 he (by omega), hw]
      refine ⟨by omega, by constructor <;> omega, by constructor <;> omega, by constructor <;> omega, fun h => by rw [← hw]; exact hend q m' hq hj (hsame (fun _ z => absurd z (by rw [h]; decide))) hw, fun h => ⟨fun h2 => by rw [← hw]; exact hend q m' hq hj (hsame (fun z => absurd h2 z)) hw, fun h2 => ?_⟩⟩
      have hbit : bt (mvB (nC X) n m (m' 33 i)) e.toNat = true := by
        cases hb : bt (mvB (nC X) n m (m' 33 i)) e.toNat with
        | true => rfl
        | false => exact absurd hb h
      rw [← hw]
      have hti := (nx_in h2).1
      have htb : 0 ≤ nx w d l (m' 33 i) e ∧ nx w d l (m' 33 i) e < (nC X : Int) := by obtain ⟨p1, p2⟩ := hti; omega
      refine ⟨htb, fun h3 => hend q m' hq hj (hsame (fun _ _ => h3)) hw, fun h3 => ?_⟩
      generalize ht : nx w d l (m' 33 i) e = t at *
      have hnew : ∀ j : Int, (0 ≤ j ∧ j < q) → m' 33 j ≠ t := fun j hj'' z => ((hre t htb).mpr ⟨j, hj'', z⟩) h3
      have hstp : st (m' 33 i) t := by rw [hst]; exact ⟨e, by omega, ht, h2, hbit⟩
      have e32 : ∀ c, mset (mset m' 32 t 1) 33 q t 32 c = if c = t then 1 else m' 32 c := fun c => by rw [k_mset_ne (by decide), k_mset_at]
      have e33 : ∀ j, mset (mset m' 32 t 1) 33 q t 33 j = if j = q then t else m' 33 j := fun j => by rw [k_mset_at, k_mset_ne (show (33 : Nat) ≠ 32 by decide)]
      have hsum' : sumN (flg (mset (mset m' 32 t 1) 33 q t 32)) (nC X) = sumN (flg (m' 32)) (nC X) + 1 := by
        rw [sumN_set (f := flg (m' 32)) (i := t) htb (fun c hc => by unfold flg; rw [e32, if_neg hc])]
        unfold flg
        rw [e32, if_pos rfl, if_neg (by decide), if_pos h3]
        rfl
      have hqN' : q < (nC X : Int) := by have := hsum (mset (mset m' 32 t 1) 33 q t 32); omega
      refine ⟨htb, ⟨by omega, hqN'⟩, by constructor <;> omega, hend (q + 1) _ (by omega) ((hJd _ _).mpr ⟨by omega, fun o a b => by rw [k_mset_ne b, k_mset_ne a]; exact hf o a b, fun j hj'' => ?_, fun c hcb' => ?_, ?_, by rw [hsum', hsm]⟩) ((hCd _ _ _).mpr ⟨fun j hj'' e' he' => ?_, fun e' he' => ?_⟩) (by rw [e33, if_neg (by omega)]; exact hw)⟩
      · rw [e33]
        by_cases hjq : j = q
        · rw [if_pos hjq]; exact ⟨hti, Rch_to (hrow i ⟨hi, hq⟩).2 hstp⟩
        · rw [if_neg hjq]; exact hrow j (by omega)
      · rw [e32]
        constructor
        · intro z
          by_cases hct : c = t
          · exact ⟨q, by omega, by rw [e33, if_pos rfl, hct]⟩
          · rw [if_neg hct] at z
            obtain ⟨j, z1, z2⟩ := (hre c hcb').mp z
            exact ⟨j, by omega, by rw [e33, if_neg (by omega)]; exact z2⟩
        · rintro ⟨j, z1, z2⟩
          by_cases hct : c = t
          · rw [if_pos hct]; decide
          · rw [if_neg hct]
            rw [e33] at z2
            by_cases hjq : j = q
            · rw [if_pos hjq] at z2; exact absurd z2.symm hct
            · rw [if_neg hjq] at z2; exact (hre c hcb').mpr ⟨j, by omega, z2⟩
      · obtain ⟨j, z1, z2⟩ := hain
        exact ⟨j, by omega, by rw [e33, if_neg (by omega)]; exact z2⟩
      · rw [e33, if_neg (by omega), e32]
        intro z1 z2
        split
        · decide
        · exact hc'.1 j hj'' e' he' z1 z2
      · rw [e33, if_neg (by omega), e32]
        intro z1 z2
        split
        · decide
        · rename_i hct
          by_cases hee : e' = e
          · rw [hee] at hct; exact absurd ht hct
          · exact hc'.2 e' (by omega) z1 z2
  have outer : ∀ (k : Nat) (i q : Int) (m' : Mem) (x4 x5 x6 : Option AV), i + k = (nC X : Int) → 0 ≤ i → i ≤ q → J q m' → C i 0 m' → kW (eX X) 1 M_X7_markJoined T 1 [some (vR 30), some (vI n), some (vI q), some (vI i), x4, x5, x6] [] m' := by
    intro k
    have hfin : ∀ (q : Int) (m' : Mem), J q m' → C q 0 m' → T none m' := by
      intro q m' hj hc
      obtain ⟨q1, hf, hrow, hre, hain, hsm⟩ := (hJd _ _).mp hj
      have hc' := (hCd _ _ _).mp hc
      refine hT _ _ ⟨rfl, hf, fun c hci => ?_⟩
      have hcb : 0 ≤ c ∧ c < (nC X : Int) := by obtain ⟨p1, p2⟩ := hci; omega
      rw [hre c hcb]
      constructor
      · rintro ⟨j, z1, rfl⟩
        exact (hrow j z1).2
      · intro z
        refine Rch_ind (P := fun c => ∃ j : Int, (0 ≤ j ∧ j < q) ∧ m' 33 j = c) ?_ hain z
        rintro c b ⟨j, z1, rfl⟩ hs
        rw [hst] at hs
        obtain ⟨e, z2, rfl, z3, z4⟩ := hs
        have hti := (nx_in z3).1
        exact (hre _ (by obtain ⟨p1, p2⟩ := hti; omega)).mp (hc'.1 j z1 e z2 z3 z4)
    induction k with
    | zero =>
      intro i q m' x4 x5 x6 hk h0 hq hj hc
      have hqN : q ≤ (nC X : Int) := by have h := (hJd _ _).mp hj; have := hsum (m' 32); have := h.2.2.2.2.2; omega
      have : i = q := by omega
      subst this
      refine kW_go ok_X7_markJoined [1, 2] 20 ?_
      exact And.intro (fun _ => hfin i m' hj hc) (fun h => absurd h (by omega))
    | succ k ih =>
      intro i q m' x4 x5 x6 hk h0 hq hj hc
      obtain ⟨q1, hf, hrow, hre, hain, hsm⟩ := (hJd _ _).mp hj
      have h1 : m' 1 = m 1 := hf 1 (by decide) (by decide)
      have hib : 0 ≤ i ∧ i < (nC X : Int) := by omega
      refine kW_go ok_X7_markJoined [1, 2] 20 ?_
      refine And.intro (fun h => ?_) (fun h => And.intro (fun h2 => ?_) (fun _ => ⟨hib, ?_⟩))
      · have : i = q := by omega
        subst this
        exact hfin i m' hj hc
      · have h2 : m' 1 4 ≤ i := h2
        rw [h1, g4] at h2
        omega
      · have hlt : i < q := h
        have hcell := (hrow i ⟨h0, hlt⟩).1
        refine kCall_mono (c_X3_movesAt X m' n (m' 33 i) (by omega) (by rw [h1]; exact g4) hnn (by obtain ⟨p1, p2⟩ := hcell; omega)) (Nat.le_of_ble_eq_true rfl) ?_
        rintro _ m2 ⟨rfl, rfl⟩
        have e18 : m2 18 = m 18 := hf 18 (by decide) (by decide)
        have e19 : m2 19 = m 19 := hf 19 (by decide) (by decide)
        refine inner i h0 (fun q' m3 y4 y5 y6 z1 z2 z3 => ?_) 6 0 q _ m2 x6 (by omega) (by omega) hlt hj hc (by unfold mvB; rw [e18, e19])
        refine kW_go ok_X7_markJoined [1] 20 ?_
        exact ⟨by constructor <;> omega, ih (i + 1) q' m3 _ _ _ (by omega) (by omega) (by omega) z2 z3⟩
  refine kW_go ok_X7_markJoined [1] 20 ?_
  refine kCall_mono (c_fill (eX X) m 32 (nC X) 0 (by decide) rfl (by omega)) (Nat.le_of_ble_eq_true rfl) ?_
  rintro _ m1 ⟨rfl, rfl⟩
  refine kCall_mono (c_X3_pinCell X _ n 0 hnn (by omega)) (Nat.le_of_ble_eq_true rfl) ?_
  rintro _ m1 ⟨rfl, hm1⟩
  have ea : m1 14 (n * 4 + 0) = a := by rw [hm1, mfill_ne (by decide), show n * 4 + 0 = n * 4 by omega, hae]
  have ea' : mfill m 32 0 (nC X : Int) 0 14 (n * 4 + 0) = a := by rw [← hm1]; exact ea
  have hpos : (0 : Int) < (nC X : Int) := by omega
  show (0 ≤ (0 : Int) ∧ (0 : Int) < (nC X : Int)) ∧ (0 ≤ (0 : Int) ∧ (0 : Int) < (nC X : Int)) ∧ (0 ≤ mset m1 33 0 (mfill m 32 0 (nC X : Int) 0 14 (n * 4 + 0)) 33 0 ∧ mset m1 33 0 (mfill m 32 0 (nC X : Int) 0 14 (n * 4 + 0)) 33 0 < (nC X : Int)) ∧ kW (eX X) 1 M_X7_markJoined T 1 [some (vR 30), some (vI n), some (vI 1), some (vI 0), none, none, none] [] (mset (mset m1 33 0 (mfill m 32 0 (nC X : Int) 0 14 (n * 4 + 0))) 32 (mset m1 33 0 (mfill m 32 0 (nC X : Int) 0 14 (n * 4 + 0)) 33 0) 1)
  rw [ea', k_mset_at, if_pos rfl]
  generalize hm2 : mset (mset m1 33 0 a) 32 a 1 = m2
  have g32 : ∀ c, (0 ≤ c ∧ c < (nC X : Int)) → m2 32 c = if c = a then 1 else 0 := fun c hc => by rw [← hm2, k_mset_at, k_mset_ne (by decide), hm1, mfill_at, if_pos hc]
  have g33 : m2 33 0 = a := by rw [← hm2, k_mset_ne (by decide), k_mset_at, if_pos rfl]
  have gf : ∀ o, o ≠ 32 → o ≠ 33 → m2 o = m o := fun o u v => by rw [← hm2, k_mset_ne u, k_mset_ne v, hm1, mfill_ne u]
  refine ⟨⟨by omega, hpos⟩, ⟨by omega, hpos⟩, hac, outer (nC X) 0 1 m2 none none none (by omega) (by omega) (by omega) ((hJd _ _).mpr ⟨by omega, gf, fun j hj => ?_, fun c hc => ?_, ⟨0, by omega, g33⟩, ?_⟩) ((hCd _ _ _).mpr ⟨fun j hj => by omega, fun e he => by omega⟩)⟩
  · have : j = 0 := by omega
    rw [this, g33]
    exact ⟨ha, Rch_rf⟩
  · rw [g32 c hc]
    constructor
    · intro z
      by_cases hca : c = a
      · exact ⟨0, by omega, by rw [g33, hca]⟩
      · rw [if_neg hca] at z; exact absurd rfl z
    · rintro ⟨j, z1, z2⟩
      have : j = 0 := by omega
      rw [this, g33] at z2
      rw [if_pos z2.symm]; decide
  · rw [sumN_cong (g := fun c => if c = a then (1 : Int) else 0) (fun c h1 h2 => by
      unfold flg
      rw [g32 c ⟨h1, h2⟩]
      by_cases hca : c = a
      · rw [if_pos hca]; decide
      · rw [if_neg hca]; decide)]
    rw [sumN_set (f := fun _ => (0 : Int)) (g := fun c => if c = a then (1 : Int) else 0) (i := a) hac (fun c hc => if_neg hc), sumN_z (fun _ _ _ => rfl)]
    simp
