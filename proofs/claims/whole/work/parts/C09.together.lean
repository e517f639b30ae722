/-! TOGETHER alike -/
theorem FL_8 {c : Mem} {s A : Int} {f : Int → Int} (h8 : c 9 14 ≤ 8) (hF : FL c s f A) : A ≤ 8 := by
  have h : ∀ j : Nat, (j : Int) < A → (j : Int) ≤ f (j : Int) := by
    intro j
    induction j with
    | zero =>
      intro hj
      have := (hF.2.1 0 (by omega) hj).1
      show (0 : Int) ≤ f 0
      omega
    | succ j ih =>
      intro hj
      have h1 := ih (by omega)
      have h2 := hF.2.2.1 (j : Int) ((j + 1 : Nat) : Int) (by omega) (by omega) hj
      omega
  refine Classical.byContradiction (fun hn => ?_)
  have h1 := h 8 (by omega)
  have h2 := (hF.2.1 8 (by omega) (by omega)).1
  have h1 : (8 : Int) ≤ f 8 := h1
  omega
theorem FL_set {c : Mem} {s A : Int} {f : Int → Int} (h8 : 0 ≤ c 9 14 ∧ c 9 14 ≤ 8) (hs : inR s) (hl : ltB s (c 9 14)) (h256 : 0 ≤ s ∧ s < 256) (hF : FL c s f A) : SetI f A 0 s := by
  refine ⟨h256, fun k hk => ?_⟩
  constructor
  · intro h
    by_cases hn : (k : Int) < c 9 14
    · obtain ⟨j, hj, e⟩ := hF.2.2.2 (k : Int) (by omega) hn (by rw [Int.toNat_natCast]; exact h)
      exact ⟨j, hj, e⟩
    · rw [(ltB_bt hs (by omega) h8.1).mp hl k (by omega) (by omega)] at h
      cases h
  · rintro ⟨j, hj, e⟩
    have := (hF.2.1 j hj.1 hj.2).2
    rw [e, Int.toNat_natCast] at this
    exact this
theorem setOk_256 {c : Mem} {s : Int} (h8 : 0 ≤ c 9 14 ∧ c 9 14 ≤ 8) (h : setOk c s) : 0 ≤ s ∧ s < 256 := by
  have h1 := h.2.1
  have h2 := h.2.2
  have h3 : 2 ^ (c 9 14).toNat ≤ 2 ^ 8 := Nat.pow_le_pow_right (by decide) (by omega)
  have h4 : ((2 ^ (c 9 14).toNat : Nat) : Int) ≤ ((2 ^ 8 : Nat) : Int) := by exact_mod_cast h3
  have h5 : ((2 ^ 8 : Nat) : Int) = 256 := by decide
  omega
set_option maxRecDepth 100000 in
theorem c_X12_together (X : Xv) (c m : Mem) {w d l : Int} (hI : Inv X w d l c) (hm : ∀ o, 54 ≤ o → m o = c o) (s : Int) (hs : inR s) (f : Int → Int) (A : Int) (hFL : setOk c s ∧ TOK w d l c c s → FL c s f A) : kCall (eX X) 300 M_X12_together.1 [vR 54, vI s] m (fun r m' => (¬ (setOk c s ∧ TOK w d l c c s) ∧ r = some (vI (-1)) ∧ m' = m) ∨ ((setOk c s ∧ TOK w d l c c s) ∧ ((FA (layY w d l c s f) A.toNat 0 [] ∧ r = some (vI 1)) ∨ (¬ FA (layY w d l c s f) A.toNat 0 [] ∧ r = some (vI 0))) ∧ RR w d l c m' ∧ ∀ o, o < 54 → m' o = m o)) := by
  obtain ⟨hB, hl, hW, hR, h60, h31⟩ := id hI
  obtain ⟨hD, hN, hG⟩ := id hB
  have h8 := hW.1.2.1
  have hRm : RR w d l c m := RR_ref (fun o a _ => hm o (by omega)) hR
  have h26 : m 54 26 = c 9 14 := hRm.1.2.2.2.1.1
  have hdim : dimM m w d l := hRm.1.1
  have d1 : m 54 1 = w := hdim.1
  have d2 : m 54 2 = d := hdim.2.1
  have d3 : m 54 3 = l := hdim.2.2.1
  have hfl := okD_floor hD
  have hc4 := okD_cells hD
  have hw := hD.1
  have hd := hD.2.1
  have hll := hD.2.2
  refine kCall_ofT ok_X12_together rfl (Nat.le_of_ble_eq_true rfl) (fun T hT => ?_)
  have hno : ¬ (setOk c s ∧ TOK w d l c c s) → T (some (vI (-1))) m := fun h => hT _ _ (Or.inl ⟨h, rfl, rfl⟩)
  refine kW_go ok_X12_together [3] 30 ?_
  show (s ≤ 0 → T (some (vI (-1))) m) ∧ (0 < s → (¬ kshr s (m 54 26) = 0 → T (some (vI (-1))) m) ∧ (kshr s (m 54 26) = 0 → _))
  rw [h26]
  refine ⟨fun h => hno (fun q => ?_), fun h => ⟨fun h2 => hno (fun q => h2 ((k_shr_hi hs h8.1 h8.2).mpr q.1.2)), fun h2 => ?_⟩⟩
  · have h1 := q.1.1
    have h2 := q.1.2.1
    omega
  have hk : setOk c s := ⟨by omega, (k_shr_hi hs h8.1 h8.2).mp h2⟩
  have h256 := setOk_256 h8 hk
  refine kCall_mono (c_bitCount (eX X) m s h256.1 h256.2) (Nat.le_of_ble_eq_true rfl) ?_
  rintro _ m ⟨rfl, rfl⟩
  refine And.intro (fun h3 => hno (fun q => ?_)) (fun h3 => ?_)
  · have := q.2.2.1
    omega
  show inR (m 54 1 * m 54 2) ∧ inR (m 54 1 * m 54 2 * m 54 3) ∧ (m 54 1 * m 54 2 * m 54 3 ≤ 24 → _) ∧ (24 < m 54 1 * m 54 2 * m 54 3 → _)
  rw [d1, d2, d3]
  refine ⟨by constructor <;> omega, by constructor <;> omega, fun h24 => ?_, fun h24 => hno (fun q => absurd q.2.1 (by omega))⟩
  have hq65 : ∀ n : Int, (0 ≤ n ∧ n < 8) → 0 ≤ m 65 n := fun n hn => (hRm.2.1 n hn).1.1.1
  -- all is well
  have hgo : ∀ x2 : Option AV, TOK w d l c c s → kW (eX X) 299 M_X12_together T 6 [some (vR 54), some (vI s), x2] [] m := by
    intro x2 hTK
    have hF := hFL ⟨hk, hTK⟩
    have hA8 := FL_8 h8.2 hF
    refine kW_go ok_X12_together [] 40 ?_
    refine kCall_mono (c_X12_plainly X m 1 (Or.inr rfl)) (Nat.le_of_ble_eq_true rfl) ?_
    rintro _ m1 ⟨rfl, p1, p2, -, p28, p30, -⟩
    obtain ⟨m2, hm2⟩ : ∃ m2, m2 = mset m1 54 28 s := ⟨_, rfl⟩
    have q54 : ∀ i : Int, m2 54 i = if i = 28 then s else m1 54 i := fun i => by rw [hm2]; exact k_mset_at
    have qo : ∀ o, o ≠ 54 → m2 o = m1 o := fun o ho => by rw [hm2]; exact k_mset_ne ho
    have hR2 : RR0 w d l c m2 := RR0_fld (fun o a b => by rw [qo o (by omega)]; exact p1 o (by omega) (by omega)) (fun i hi => by rw [q54, if_neg (by omega)]; exact p2 i (by omega) (by omega) (by omega)) (RR_0 hRm)
    have hok : ∀ i, 0 ≤ i → i < A → c 13 (f i) = 2 ∧ c 65 (f i) = 0 := fun i a b => hTK.2.2 _ (hF.2.1 i a b).1.1 (hF.2.1 i a b).1.2 (hF.2.1 i a b).2
    have hn8 : ∀ i, 0 ≤ i → i < A → 0 ≤ f i ∧ f i < 8 := fun i a b => by have := (hF.2.1 i a b).1; omega
    have hRB : RB w d l s A c f := ⟨hD, hTK.1, WFs_srt hW.1, hF, LO_lay hI hF hok, fun i a b x hx => two_solid hD (hW.2.2.1 _ (hn8 i a b)) (RRn_k.mp (hR.2.1 _ (hn8 i a b))).1 (hok i a b).1 (hok i a b).2 hx⟩
    have hpin : ∀ i, 0 ≤ i → i < A → m2 64 (4 * f i) = cR w d (c 14 (f i * 4 + 0)) ∧ m2 64 (4 * f i + 1) = cR w d (c 14 (f i * 4 + 1)) := by
      intro i a b
      have h64 := (hR2.1.2.2.2.2.1 (f i) (hn8 i a b)).2.2
      rw [(hok i a b).1] at h64
      have g0 := h64 0 (by omega)
      have g1 := h64 1 (by omega)
      rw [Int.add_zero] at g0
      exact ⟨g0, g1⟩
    have hRS : RS w d l s A c f [] m2 := ⟨RR0_RelG hW.1 hR2, by rw [q54, if_pos rfl], by rw [q54, if_neg (by decide)]; exact p30, hpin⟩
    have hAn : ((A.toNat : Nat) : Int) = A := Int.toNat_of_nonneg hF.1
    have hcall := FA_all hN hRB A.toNat m2 0 s 0 [] (by omega) (by omega) hRS (FL_set h8 hs hk.2 h256 hF) (fun u hu => by cases hu) ⟨List.nodup_nil, fun x hx => by cases hx⟩ rfl
    rw [hm2] at hcall
    refine kCall_mono hcall (by omega) ?_
    rw [← hm2]
    rintro r m3 ⟨hres, k1, -⟩
    have s54 : ∀ i : Int, mset m3 54 28 0 54 i = if i = 28 then 0 else m1 54 i := fun i => by
      rw [k_mset_at]
      by_cases e : i = 28
      · rw [if_pos e, if_pos e]
      · rw [if_neg e, if_neg e, k1 54 (by decide), q54, if_neg e]
    have so : ∀ o, o ≠ 54 → o ≠ 84 → mset m3 54 28 0 o = m1 o := fun o a b => by rw [k_mset_ne a, k1 o b, qo o a]
    have hRR : RR w d l c (mset m3 54 28 0) := RR_fld (fun o a b => by rw [so o (by omega) (by omega)]; exact p1 o (by omega) (by omega)) (fun i hi => by rw [s54, if_neg (by omega)]; exact p2 i (by omega) (by omega) (by omega)) (by rw [s54, if_pos rfl]) (by rw [s54, if_neg (by decide)]; exact p30) hRm
    have hfr : ∀ o, o < 54 → mset m3 54 28 0 o = m o := fun o ho => by rw [so o (by omega) (by omega)]; exact p1 o (by omega) (by omega)
    rcases hres with ⟨hg, rfl⟩ | ⟨hg, rfl⟩
    · exact And.intro (fun h => absurd h (by decide)) (fun _ => hT _ _ (Or.inr ⟨⟨hk, hTK⟩, Or.inl ⟨hg, rfl⟩, hRR, hfr⟩))
    · exact And.intro (fun _ => hT _ _ (Or.inr ⟨⟨hk, hTK⟩, Or.inr ⟨hg, rfl⟩, hRR, hfr⟩)) (fun h => absurd rfl h)
  have hp63 : ∀ n : Int, (0 ≤ n ∧ n < 8) → m 63 n = c 13 n := fun n hn => (hRm.1.2.2.2.2.1 n hn).2.1
  have hp65 : m 65 = c 65 := hm 65 (by decide)
  have loop : ∀ (k : Nat) (n : Int), n + k = c 9 14 → 0 ≤ n → (∀ i, 0 ≤ i → i < n → bt s i.toNat = true → c 13 i = 2 ∧ c 65 i = 0) → kW (eX X) 299 M_X12_together T 3 [some (vR 54), some (vI s), some (vI n)] [] m := by
    intro k
    induction k with
    | zero =>
      intro n hk hn hb
      have h26' : fld m 54 26 = c 9 14 := h26
      refine kW_go ok_X12_together [3, 6] 20 ?_
      exact ⟨fun _ => hgo _ ⟨h24, h3, fun i a b e => hb i a (by omega) e⟩, fun h => absurd h (by omega)⟩
    | succ k ih =>
      intro n hk hn hb
      have h26' : fld m 54 26 = c 9 14 := h26
      have hn8 : 0 ≤ n ∧ n < 8 := by omega
      have hn8' : 0 ≤ n ∧ n < ((8 : Nat) : Int) := hn8
      have hq := k_ask (v := s) hn8.1 (show n < 32 by omega)
      have hnext : (bt s n.toNat = true → c 13 n = 2 ∧ c 65 n = 0) → kW (eX X) 299 M_X12_together T 5 [some (vR 54), some (vI s), some (vI n)] [] m := by
        intro h
        refine kW_go ok_X12_together [3] 20 ?_
        refine ⟨by constructor <;> omega, ih (n + 1) (by omega) (by omega) (fun i a b e => ?_)⟩
        by_cases ei : i = n
        · rw [ei] at e ⊢; exact h e
        · exact hb i a (by omega) e
      refine kW_go ok_X12_together [3, 5, 6] 40 ?_
      refine ⟨fun h => absurd h (by omega), fun _ => And.intro (fun h0 => hnext (fun e => ?_)) (fun h0 => ⟨hn8', And.intro (fun h1 => ?_) (fun h1 => ⟨hn8', And.intro (fun h2 => ?_) (fun h2 => ?_)⟩)⟩)⟩
      · rw [if_pos e] at hq
        exact absurd hq h0
      · refine hno (fun q => h1 ?_)
        have e : bt s n.toNat = true := by
          cases e : bt s n.toNat with
          | true => rfl
          | false =>
            rw [e, if_neg (by decide)] at hq
            have h0 : kand (kshr s n) 1 = 1 := h0
            rw [hq] at h0
            cases h0
        show m 63 n = 2
        rw [hp63 n hn8]
        exact (q.2.2.2 n hn (by omega) e).1
      · refine hnext (fun _ => ?_)
        have h1 : m 63 n = 2 := h1
        have h2 : m 65 n ≤ 0 := h2
        have h3 := hq65 n hn8
        rw [hp63 n hn8] at h1
        rw [← hp65]
        exact ⟨h1, by omega⟩
      · refine hno (fun q => ?_)
        have e : bt s n.toNat = true := by
          cases e : bt s n.toNat with
          | true => rfl
          | false =>
            rw [e, if_neg (by decide)] at hq
            have h0 : kand (kshr s n) 1 = 1 := h0
            rw [hq] at h0
            cases h0
        have h2 : 0 < m 65 n := h2
        rw [hp65, (q.2.2.2 n hn (by omega) e).2] at h2
        omega
  exact loop (c 9 14).toNat 0 (by omega) (by omega) (fun i a b => by omega)
set_option maxRecDepth 100000 in
theorem pair_together (X : Xv) (m : Mem) {w d l : Int} (hI : Inv X w d l m) (s : Int) (hs : inR s) : kPair X 150 260 [vI s] m (Inv X w d l) := by
  obtain ⟨hB, hl, hW, hR, h60, h31⟩ := id hI
  have h8 := hW.1.2.1
  refine kp2 (k1 := 300) (k2 := 300) (by decide) (by decide) ?_
  refine kCall_ofT ok_X11_together rfl (Nat.le_of_ble_eq_true rfl) (fun T hT => ?_)
  refine kW_go ok_X11_together [] 20 ?_
  refine kCall_mono (c_X11_areNets X m s hs h8) (Nat.le_of_ble_eq_true rfl) ?_
  rintro _ m ⟨⟨hk, rfl⟩ | ⟨hk, rfl⟩, rfl⟩
  · refine And.intro (fun h => absurd h (by decide)) (fun _ => ?_)
    have h256 := setOk_256 h8 hk
    refine kCall_mono (c_X10_tryWholly X m hI s h256) (Nat.le_of_ble_eq_true rfl) ?_
    rintro r m1 ⟨hres, f1, f41⟩
    have hI1 : Inv X w d l m1 := Inv_41 hI (fun o a b => f1 o (by omega) a (by omega) (by omega) (by omega)) f41
    rcases hres with ⟨hTK, rfl⟩ | ⟨hTK, f, A, hF, hres⟩
    · refine hT _ _ ⟨_, rfl, kCall_mono (c_X12_together X m m1 hI (fun o ho => f1 o (by omega) (by omega) (by omega) (by omega) (by omega)) s hs (fun _ => 0) 0 (fun q => absurd q.2 hTK)) (Nat.le_refl _) ?_⟩
      rintro _ m2 (⟨-, rfl, rfl⟩ | ⟨h2, -⟩)
      · exact ⟨rfl, hI1⟩
      · exact absurd h2.2 hTK
    · have hfin : ∀ v, ((FA (layY w d l m s f) A.toNat 0 [] ∧ v = 1) ∨ (¬ FA (layY w d l m s f) A.toNat 0 [] ∧ v = 0)) → kCall (eX X) 300 260 [vR 54, vI s] m1 (fun r2 m2 => r2 = some (vI v) ∧ Inv X w d l m2) := by
        intro v hv
        refine kCall_mono (c_X12_together X m m1 hI (fun o ho => f1 o (by omega) (by omega) (by omega) (by omega) (by omega)) s hs f A (fun _ => hF)) (Nat.le_refl _) ?_
        rintro _ m2 (⟨h2, -⟩ | ⟨-, hr2, hR2, hf2⟩)
        · exact absurd ⟨hk, hTK⟩ h2
        · refine ⟨?_, inv_mk hI1 (m1 := m1) (c' := m1) (fun _ _ _ => rfl) Es_rf hI1.2.2.1 rfl rfl hf2 (RR_es (Es_of (fun o ho => f1 o (by omega) (by omega) (by omega) (by omega) (by omega))) hR2)⟩
          rcases hv with ⟨a, rfl⟩ | ⟨a, rfl⟩
          · rcases hr2 with ⟨b, rfl⟩ | ⟨b, rfl⟩
            · rfl
            · exact absurd a b
          · rcases hr2 with ⟨b, rfl⟩ | ⟨b, rfl⟩
            · exact absurd b a
            · rfl
      rcases hres with ⟨hg, rfl⟩ | ⟨hg, rfl⟩
      · exact hT _ _ ⟨1, rfl, hfin 1 (Or.inl ⟨hg, rfl⟩)⟩
      · exact hT _ _ ⟨0, rfl, hfin 0 (Or.inr ⟨hg, rfl⟩)⟩
  · refine And.intro (fun _ => ?_) (fun h => absurd rfl h)
    refine hT _ _ ⟨_, rfl, kCall_mono (c_X12_together X m m hI (fun _ _ => rfl) s hs (fun _ => 0) 0 (fun q => absurd q.1 hk)) (Nat.le_refl _) ?_⟩
    rintro _ m2 (⟨-, rfl, rfl⟩ | ⟨h2, -⟩)
    · exact ⟨rfl, hI⟩
    · exact absurd h2.1 hk
