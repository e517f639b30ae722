/-! STRETCH: the class's bendOut -/
theorem c_X9_isOpen (X : Xv) (m : Mem) (n x : Int) (hn : 0 ≤ n ∧ n < 8) (hx : 0 ≤ x ∧ x < (nC X : Int)) : kCall (eX X) 2 M_X9_isOpen.1 [vR 51, vI n, vI x] m (bP (m 27 x ≠ 0 ∧ ¬ cuN m n x) m) := by
  refine kCall_ofT ok_X9_isOpen rfl (Nat.le_of_ble_eq_true rfl) (fun T hT => ?_)
  refine kW_go ok_X9_isOpen [] 20 ?_
  refine ⟨hx, And.intro (fun h => hT _ _ ⟨Or.inl rfl, Or.inr ⟨fun q => q.1 h, rfl⟩, rfl⟩) (fun h => ?_)⟩
  refine kCall_mono (c_X3_copperAt X m x hx) (Nat.le_of_ble_eq_true rfl) ?_
  rintro _ m2 ⟨rfl, rfl⟩
  exact And.intro (fun h2 => hT _ _ ⟨Or.inl rfl, Or.inr ⟨fun q => q.2 ((cuN_or hn).mp h2), rfl⟩, rfl⟩) (fun h2 => hT _ _ ⟨Or.inr rfl, Or.inl ⟨⟨h, fun q => (cuN_or hn).mpr q h2⟩, rfl⟩, rfl⟩)
set_option maxRecDepth 100000 in
theorem c_X9_goBeside (X : Xv) (m : Mem) {w d l : Int} (hB : Bd X w d l m) (n p κ σ : Int) (hn : 0 ≤ n ∧ n < 8) (hp : inC w d l p) (hκ : 0 ≤ κ ∧ κ < 6) (hne : nx w d l p κ ≠ -1) (hσ : 0 ≤ σ ∧ σ < 6) : kCall (eX X) 3 M_X9_goBeside.1 [vR 51, vI n, vI p, vI κ, vI σ] m (fun r m' => ((bdR (fun x => m 27 x ≠ 0) (cuN m n) (nx w d l p σ) ∧ bdR (fun x => m 27 x ≠ 0) (cuN m n) (nx w d l (nx w d l p κ) σ)) ∧ r = some (vI 1) ∧ m' = bdM w d l n p κ σ m) ∨ (¬ (bdR (fun x => m 27 x ≠ 0) (cuN m n) (nx w d l p σ) ∧ bdR (fun x => m 27 x ≠ 0) (cuN m n) (nx w d l (nx w d l p κ) σ)) ∧ r = some (vI 0) ∧ m' = m)) := by
  obtain ⟨hD, hN, hG⟩ := id hB
  have hc4 := okD_cells hD
  have g4 : m 1 4 = (nC X : Int) := hG.2.2.2.2.1.trans hN
  have hcb : ∀ {x}, inC w d l x → 0 ≤ x ∧ x < (nC X : Int) := fun {x} h => by obtain ⟨a, b⟩ := h; omega
  have hp1 := (nx_in hne).1
  have hpb := hcb hp
  have hp1b := hcb hp1
  have nxt : ∀ (x k : Int), inC w d l x → (0 ≤ k ∧ k < 6) → m 2 (x * 6 + k) = nx w d l x k := fun x k hx hk => (hG.2.2.2.2.2 x hx).2.2.2 k hk.1 hk.2
  have f2 : fld m 2 0 = fld m 2 0 := rfl
  have ix : ∀ (x k : Int), inC w d l x → (0 ≤ k ∧ k < 6) → inR (x * 6) ∧ inR (x * 6 + k) ∧ (0 ≤ x * 6 + k ∧ x * 6 + k < ((nC X * 6 : Nat) : Int)) := fun x k hx hk => by
    have := hcb hx
    exact ⟨by constructor <;> omega, by constructor <;> omega, by omega, by omega⟩
  obtain ⟨s, hs⟩ : ∃ s, s = nx w d l p σ := ⟨_, rfl⟩
  obtain ⟨p1, hpp1⟩ : ∃ p1, p1 = nx w d l p κ := ⟨_, rfl⟩
  obtain ⟨t, ht⟩ : ∃ t, t = nx w d l p1 σ := ⟨_, rfl⟩
  rw [← hs, ← hpp1, ← ht]
  rw [← hpp1] at hp1 hp1b hne
  have i1 := ix p κ hp hκ
  have i2 := ix p σ hp hσ
  have i3 := ix p1 σ hp1 hσ
  have n1 := nxt p κ hp hκ
  have n2 := nxt p σ hp hσ
  have n3 := nxt p1 σ hp1 hσ
  rw [← hpp1] at n1
  rw [← hs] at n2
  rw [← ht] at n3
  refine kCall_ofT ok_X9_goBeside rfl (Nat.le_of_ble_eq_true rfl) (fun T hT => ?_)
  have one : ∀ x7, ¬ (bdR (fun x => m 27 x ≠ 0) (cuN m n) s ∧ bdR (fun x => m 27 x ≠ 0) (cuN m n) t) → kW (eX X) 2 M_X9_goBeside T 1 [some (vR 51), some (vI n), some (vI p), some (vI κ), some (vI σ), some (vI p1), some (vI s), x7] [] m := by
    intro x7 h
    refine kW_go ok_X9_goBeside [] 20 ?_
    exact hT _ _ ⟨Or.inl rfl, Or.inr ⟨h, rfl, rfl⟩⟩
  have three : ∀ x7, ¬ (bdR (fun x => m 27 x ≠ 0) (cuN m n) s ∧ bdR (fun x => m 27 x ≠ 0) (cuN m n) t) → kW (eX X) 2 M_X9_goBeside T 3 [some (vR 51), some (vI n), some (vI p), some (vI κ), some (vI σ), some (vI p1), some (vI s), x7] [] m := by
    intro x7 h
    refine kW_go ok_X9_goBeside [] 20 ?_
    exact hT _ _ ⟨Or.inl rfl, Or.inr ⟨h, rfl, rfl⟩⟩
  have two : (bdR (fun x => m 27 x ≠ 0) (cuN m n) s) → kW (eX X) 2 M_X9_goBeside T 2 [some (vR 51), some (vI n), some (vI p), some (vI κ), some (vI σ), some (vI p1), some (vI s), none] [] m := by
    intro hbs
    have hsne : s ≠ -1 := hbs.1
    have hsi : inC w d l s := by rw [hs]; exact (nx_in (by rw [← hs]; exact hsne)).1
    have hsb := hcb hsi
    refine kW_go ok_X9_goBeside [3, 4] 20 ?_
    show inR (p1 * 6) ∧ inR (p1 * 6 + σ) ∧ (0 ≤ p1 * 6 + σ ∧ p1 * 6 + σ < ((nC X * 6 : Nat) : Int)) ∧ (m 2 (p1 * 6 + σ) = -1 → kW (eX X) 2 M_X9_goBeside T 3 [some (vR 51), some (vI n), some (vI p), some (vI κ), some (vI σ), some (vI p1), some (vI s), some (vI (m 2 (p1 * 6 + σ)))] [] m) ∧ (¬ m 2 (p1 * 6 + σ) = -1 → kCall (eX X) 2 116 [vR 51, vI n, vI (m 2 (p1 * 6 + σ))] m _)
    rw [n3]
    refine ⟨i3.1, i3.2.1, i3.2.2, fun h => three _ (fun q => q.2.1 h), fun htne => ?_⟩
    have hti : inC w d l t := by rw [ht]; exact (nx_in (by rw [← ht]; exact htne)).1
    have htb := hcb hti
    refine kCall_mono (c_X9_isOpen X m n t hn htb) (Nat.le_of_ble_eq_true rfl) ?_
    rintro _ m2 ⟨⟨hh, rfl⟩ | ⟨hh, rfl⟩, rfl⟩
    rotate_left
    · exact And.intro (fun h => absurd rfl h) (fun _ => three _ (fun q => hh q.2.2))
    refine And.intro (fun _ => ?_) (fun h => absurd h (by decide))
    have hbt : bdR (fun x => m2 27 x ≠ 0) (cuN m2 n) t := ⟨htne, hh⟩
    have hsκ : nx w d l s κ = t := by
      rw [hs, ht, hpp1]
      exact nx_sq hD (by rw [← hpp1]; exact hne) (by rw [← hs]; exact hsne) (by rw [← hpp1, ← ht]; exact htne)
    obtain ⟨ma, hma⟩ : ∃ ma, ma = dn (n * (w * d * l)) p κ p1 m2 := ⟨_, rfl⟩
    obtain ⟨mb, hmb⟩ : ∃ mb, mb = jn 19 17 (n * (w * d * l)) n p σ s ma := ⟨_, rfl⟩
    obtain ⟨mc, hmc⟩ : ∃ mc, mc = jn 19 17 (n * (w * d * l)) n s κ t mb := ⟨_, rfl⟩
    have ea : ∀ o, o ≠ 17 → o ≠ 19 → ma o = m2 o := fun o a b => by rw [hma]; exact dn_ne b
    have eb : ∀ o, o ≠ 17 → o ≠ 19 → mb o = m2 o := fun o a b => by rw [hmb, jn_ne b a]; exact ea o a b
    have ec : ∀ o, o ≠ 17 → o ≠ 19 → mc o = m2 o := fun o a b => by rw [hmc, jn_ne b a]; exact eb o a b
    have hgo : kW (eX X) 2 M_X9_goBeside T 4 [some (vR 51), some (vI n), some (vI p), some (vI κ), some (vI σ), some (vI p1), some (vI s), some (vI t)] [] m2 := by
      refine kW_go ok_X9_goBeside [] 20 ?_
      refine kCall_mono (c_X3_dropTrace X m2 n p κ p1 (by omega) g4 hn hpb hκ n1 (fun _ => hp1b)) (Nat.le_of_ble_eq_true rfl) ?_
      rw [if_neg hne, ← hN, ← hma]
      rintro _ m3 ⟨rfl, rfl⟩
      refine kCall_mono (c_X3_addTrace X m3 n p σ s (by omega) (by rw [ea 1 (by decide) (by decide)]; exact g4) hn hpb hσ (by rw [ea 2 (by decide) (by decide)]; exact n2) (fun _ => hsb)) (Nat.le_of_ble_eq_true rfl) ?_
      rw [if_neg hsne, ← hN, ← hmb]
      rintro _ m4 ⟨rfl, rfl⟩
      refine kCall_mono (c_X3_addTrace X m4 n s κ t (by omega) (by rw [eb 1 (by decide) (by decide)]; exact g4) hn hsb hκ (by rw [eb 2 (by decide) (by decide), ← hsκ]; exact nxt s κ hsi hκ) (fun _ => htb)) (Nat.le_of_ble_eq_true rfl) ?_
      rw [if_neg htne, ← hN, ← hmc]
      rintro _ m5 ⟨rfl, rfl⟩
      refine kCall_mono (c_X3_addTrace X m5 n p1 σ t (by omega) (by rw [ec 1 (by decide) (by decide)]; exact g4) hn hp1b hσ (by rw [ec 2 (by decide) (by decide)]; exact n3) (fun _ => htb)) (Nat.le_of_ble_eq_true rfl) ?_
      rw [if_neg htne, ← hN]
      rintro _ m6 ⟨rfl, rfl⟩
      refine hT _ _ ⟨Or.inr rfl, Or.inl ⟨⟨hbs, hbt⟩, rfl, ?_⟩⟩
      unfold bdM
      rw [← hpp1, ← hs, ← ht, hsκ, ← hma, ← hmb, ← hmc]
    exact hgo
  refine kW_go ok_X9_goBeside [1, 2] 20 ?_
  show inR (p * 6) ∧ inR (p * 6 + κ) ∧ (0 ≤ p * 6 + κ ∧ p * 6 + κ < ((nC X * 6 : Nat) : Int)) ∧ inR (p * 6) ∧ inR (p * 6 + σ) ∧ (0 ≤ p * 6 + σ ∧ p * 6 + σ < ((nC X * 6 : Nat) : Int)) ∧ (m 2 (p * 6 + κ) = -1 → kW (eX X) 2 M_X9_goBeside T 1 [some (vR 51), some (vI n), some (vI p), some (vI κ), some (vI σ), some (vI (m 2 (p * 6 + κ))), some (vI (m 2 (p * 6 + σ))), none] [] m) ∧ (¬ m 2 (p * 6 + κ) = -1 → (m 2 (p * 6 + σ) = -1 → kW (eX X) 2 M_X9_goBeside T 1 [some (vR 51), some (vI n), some (vI p), some (vI κ), some (vI σ), some (vI (m 2 (p * 6 + κ))), some (vI (m 2 (p * 6 + σ))), none] [] m) ∧ (¬ m 2 (p * 6 + σ) = -1 → _))
  rw [n1, n2]
  refine ⟨i1.1, i1.2.1, i1.2.2, i2.1, i2.2.1, i2.2.2, fun h => absurd h hne, fun _ => ⟨fun h => one _ (fun q => q.1.1 h), fun hsne => ?_⟩⟩
  have hsi : inC w d l s := by rw [hs]; exact (nx_in (by rw [← hs]; exact hsne)).1
  refine kCall_mono (c_X9_isOpen X m n s hn (hcb hsi)) (Nat.le_of_ble_eq_true rfl) ?_
  rintro _ m2 ⟨⟨hh, rfl⟩ | ⟨hh, rfl⟩, rfl⟩
  · refine And.intro (fun _ => ?_) (fun h => absurd h (by decide))
    exact two ⟨hsne, hh⟩
  · refine And.intro (fun h => absurd rfl h) (fun _ => ?_)
    exact one none (fun q => hh q.1.2)
