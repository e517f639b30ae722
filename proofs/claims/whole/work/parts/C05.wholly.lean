/-! TOGETHER, the class: the whole of it -/
theorem Inv_41 {X : Xv} {w d l : Int} {m m' : Mem} (hI : Inv X w d l m) (h : ∀ o, o ≠ 41 → ((1 ≤ o ∧ o ≤ 19 ∧ o ≠ 8) ∨ o = 31 ∨ o = 47 ∨ 54 ≤ o) → m' o = m o) (h41 : ∀ i : Int, i ≠ 6 → m' 41 i = m 41 i) : Inv X w d l m' := by
  obtain ⟨m1, hm1⟩ : ∃ m1 : Mem, m1 = fun o => if o = 41 then m 41 else m' o := ⟨_, rfl⟩
  have e41 : m1 41 = m 41 := by rw [hm1]; rfl
  have eo : ∀ o, o ≠ 41 → m1 o = m' o := fun o a => by rw [hm1]; simp only [if_neg a]
  have hI1 : Inv X w d l m1 := inv_k hI (fun o ho => by
    by_cases e : o = 41
    · rw [e]; exact e41
    · rw [eo o e]; exact h o e (by omega))
  have hE : Es m1 m' := Es_of (fun o ho => (eo o (by omega)).symm)
  refine ⟨Bd_same hI1.1 (fun o a b => (eo o (by omega)).symm), hI1.2.1, WF_es hE hI1.2.2.1, RR_es hE (RR_ref (fun o a _ => (eo o (by omega)).symm) hI1.2.2.2.1), ⟨by rw [← eo 6 (by decide)]; exact hI1.2.2.2.2.1.1, ?_⟩, fun y hy => by rw [← eo 31 (by decide)]; exact hI1.2.2.2.2.2 y hy⟩
  have hK := hI1.2.2.2.2.1.2
  intro k hk
  have := hK k hk
  rw [e41] at this
  have a7 := h41 7 (by decide)
  have a8 := h41 8 (by decide)
  have a9 := h41 9 (by decide)
  have a10 := h41 10 (by decide)
  rw [a7, a8, a9, a10]
  exact this
theorem sumN_up {f : Int → Int} (h : ∀ c, 0 ≤ f c) : ∀ {a b : Nat}, a ≤ b → sumN f a ≤ sumN f b := by
  intro a b hab
  induction b with
  | zero => rw [show a = 0 by omega]; exact Int.le_refl _
  | succ b ih =>
    by_cases e : a = b + 1
    · rw [e]; exact Int.le_refl _
    · have := ih (by omega)
      have h2 := h (b : Int)
      show sumN f a ≤ sumN f b + f (b : Int)
      omega
def bitN (s o : Int) : Int := if bt s o.toNat = true then 1 else 0
theorem bitN_in (s o : Int) : 0 ≤ bitN s o := by unfold bitN; split <;> omega
/-- with the first n nets seen -/
abbrev TS (w d l s : Int) (m : Mem) (n a : Int) (m' : Mem) : Prop := (∀ o, o < 22 ∨ 27 < o → o ≠ 41 → o ≠ 42 → o ≠ 43 → m' o = m o) ∧ (∀ i : Int, i ≠ 6 → m' 41 i = m 41 i) ∧ (m' 41 6 = a) ∧ (a = sumN (bitN s) n.toNat) ∧ (∀ i, 0 ≤ i → i < a → (0 ≤ m' 42 i ∧ m' 42 i < n) ∧ bt s (m' 42 i).toNat = true) ∧ (∀ i j, 0 ≤ i → i < j → j < a → m' 42 i < m' 42 j) ∧ (∀ k, 0 ≤ k → k < n → bt s k.toNat = true → ∃ i, (0 ≤ i ∧ i < a) ∧ m' 42 i = k) ∧ (∀ i, 0 ≤ i → i < a → mloC w d l (m' 43 i) ∧ ∀ y, mbt (m' 43 i) y ↔ inC w d l y ∧ frT w d l (qC (m' 42 i) 0 s) m (m' 42 i) 0 y) ∧ (∀ k, 0 ≤ k → k < n → bt s k.toNat = true → m 13 k = 2 ∧ m 65 k = 0)
theorem TS.fr {w d l s : Int} {m : Mem} {n a : Int} {m' : Mem} (h : TS w d l s m n a m') : ∀ o, o < 22 ∨ 27 < o → o ≠ 41 → o ≠ 42 → o ≠ 43 → m' o = m o := h.1
theorem TS.f41 {w d l s : Int} {m : Mem} {n a : Int} {m' : Mem} (h : TS w d l s m n a m') : ∀ i : Int, i ≠ 6 → m' 41 i = m 41 i := h.2.1
theorem TS.am {w d l s : Int} {m : Mem} {n a : Int} {m' : Mem} (h : TS w d l s m n a m') : m' 41 6 = a := h.2.2.1
theorem TS.an {w d l s : Int} {m : Mem} {n a : Int} {m' : Mem} (h : TS w d l s m n a m') : a = sumN (bitN s) n.toNat := h.2.2.2.1
theorem TS.ch {w d l s : Int} {m : Mem} {n a : Int} {m' : Mem} (h : TS w d l s m n a m') : ∀ i, 0 ≤ i → i < a → (0 ≤ m' 42 i ∧ m' 42 i < n) ∧ bt s (m' 42 i).toNat = true := h.2.2.2.2.1
theorem TS.up {w d l s : Int} {m : Mem} {n a : Int} {m' : Mem} (h : TS w d l s m n a m') : ∀ i j, 0 ≤ i → i < j → j < a → m' 42 i < m' 42 j := h.2.2.2.2.2.1
theorem TS.al {w d l s : Int} {m : Mem} {n a : Int} {m' : Mem} (h : TS w d l s m n a m') : ∀ k, 0 ≤ k → k < n → bt s k.toNat = true → ∃ i, (0 ≤ i ∧ i < a) ∧ m' 42 i = k := h.2.2.2.2.2.2.1
theorem TS.ba {w d l s : Int} {m : Mem} {n a : Int} {m' : Mem} (h : TS w d l s m n a m') : ∀ i, 0 ≤ i → i < a → mloC w d l (m' 43 i) ∧ ∀ y, mbt (m' 43 i) y ↔ inC w d l y ∧ frT w d l (qC (m' 42 i) 0 s) m (m' 42 i) 0 y := h.2.2.2.2.2.2.2.1
theorem TS.ok {w d l s : Int} {m : Mem} {n a : Int} {m' : Mem} (h : TS w d l s m n a m') : ∀ k, 0 ≤ k → k < n → bt s k.toNat = true → m 13 k = 2 ∧ m 65 k = 0 := h.2.2.2.2.2.2.2.2
theorem TB_of {X : Xv} {w d l s A : Int} {m m' : Mem} (hI : Inv X w d l m) (h : TS w d l s m (m 9 14) A m') (hA : A ≤ 3) (hA0 : 0 ≤ A) : FL m s (fun i => m' 42 i) A ∧ TB w d l A (layY w d l m s (fun i => m' 42 i)) m' := by
  have hF : FL m s (fun i => m' 42 i) A := ⟨hA0, fun i a b => h.ch i a b, h.up, h.al⟩
  have hok : ∀ i, 0 ≤ i → i < A → m 13 (m' 42 i) = 2 ∧ m 65 (m' 42 i) = 0 := fun i a b => h.ok _ (h.ch i a b).1.1 (h.ch i a b).1.2 (h.ch i a b).2
  have hLO := LO_lay hI hF hok
  have hs := WFs_srt hI.2.2.1.1
  have h8 := hI.2.2.1.1.2.1
  have f : ∀ o, o < 22 → m' o = m o := fun o ho => h.fr o (Or.inl ho) (by omega) (by omega) (by omega)
  have hI' := Inv_41 hI (m' := m') (fun o a b => h.fr o (by omega) a (by omega) (by omega)) h.f41
  refine ⟨hF, hI'.1.2.2, hLO, hI'.2.2.2.2.1.2, ⟨h.am, hA0, hA⟩, fun i a b => ?_, fun i => ?_, fun i => ?_, fun i a b y => ?_, fun i j a b a' b' x y => ?_⟩
  · have hn := (h.ch i a b).1
    rw [f 10 (by decide), f 11 (by decide)]
    exact ⟨by omega, (hs.2 _ hn).1, (hs.2 _ hn).2, (hLO.pin i a b).1, (hLO.pin i a b).2, (h.ba i a b).1⟩
  · rw [f 14 (by decide)]; rfl
  · rw [f 14 (by decide)]; rfl
  · rw [(h.ba i a b).2]
    show inC w d l y ∧ frT w d l (fun o => bt s o.toNat = false) m (m' 42 i) 0 y ↔ _
    have hcg : frT w d l (fun o => bt s o.toNat = false) m (m' 42 i) 0 y ↔ frT w d l (qC (m' 42 i) 0 s) m (m' 42 i) 0 y := by
      refine frT_cong ?_ (fun o _ hne => ?_)
      · unfold qC
        rw [(h.ch i a b).2]
        exact ⟨fun q => Bool.noConfusion q, fun q => q.elim (fun q => absurd rfl q.2) (fun q => absurd rfl q.1)⟩
      · unfold qC
        exact ⟨fun q => Or.inr ⟨hne, q⟩, fun q => q.elim (fun q => absurd q.1 hne) (fun q => q.2)⟩
    rw [hcg]
  · have : aptC m' (m' 42 i) (m' 42 j) = aptC m (m' 42 i) (m' 42 j) := by unfold aptC; rw [f 10 (by decide), f 11 (by decide)]
    rw [this]
    exact Iff.rfl
theorem TS_step {w d l s n a z : Int} {m m1 m2 M : Mem} (hS : TS w d l s m n a m1) (hn : 0 ≤ n) (ha : 0 ≤ a) (hbit : bt s n.toNat = true) (hp2 : m 13 n = 2) (hw0 : m 65 n = 0) (hz1 : mloC w d l z) (hz3 : ∀ y, mbt z y ↔ inC w d l y ∧ frT w d l (qC n 0 s) m n 0 y) (hf2 : ∀ o, o < 22 ∨ 27 < o → o ≠ 42 → m2 o = m1 o) (h42 : ∀ j, m2 42 j = if j = a then n else m1 42 j) (hM : ∀ o, o ≠ 41 → o ≠ 43 → M o = m2 o) (h43 : ∀ j, M 43 j = if j = a then z else m2 43 j) (h41 : ∀ j, M 41 j = if j = 6 then a + 1 else m2 41 j) : TS w d l s m (n + 1) (a + 1) M := by
  have hsum : sumN (bitN s) (n + 1).toNat = sumN (bitN s) n.toNat + bitN s n := sumN_s _ hn
  have hb1 : bitN s n = 1 := by unfold bitN; rw [if_pos hbit]
  have e42 : ∀ j, M 42 j = if j = a then n else m1 42 j := fun j => by rw [hM 42 (by decide) (by decide)]; exact h42 j
  refine ⟨fun o p1 p2 p3 p4 => by rw [hM o p2 p4, hf2 o p1 p3]; exact hS.fr o p1 p2 p3 p4, fun i hi => by rw [h41, if_neg hi, hf2 41 (by decide) (by decide)]; exact hS.f41 i hi, by rw [h41, if_pos rfl], by rw [hsum, hb1, ← hS.an], fun i p1 p2 => ?_, fun i j p1 p2 p3 => ?_, fun k p1 p2 p3 => ?_, fun i p1 p2 => ?_, fun k p1 p2 p3 => ?_⟩
  · rw [e42]
    by_cases e : i = a
    · rw [if_pos e]; exact ⟨by omega, hbit⟩
    · rw [if_neg e]
      have := hS.ch i p1 (by omega)
      exact ⟨by omega, this.2⟩
  · rw [e42, e42, if_neg (show ¬ i = a by omega)]
    have := hS.ch i p1 (by omega)
    by_cases e : j = a
    · rw [if_pos e]; omega
    · rw [if_neg e]
      exact hS.up i j p1 p2 (by omega)
  · by_cases e : k = n
    · exact ⟨a, by omega, by rw [e42, if_pos rfl, e]⟩
    · obtain ⟨i, i1, i2⟩ := hS.al k p1 (by omega) p3
      exact ⟨i, by omega, by rw [e42, if_neg (by omega)]; exact i2⟩
  · rw [e42, h43]
    by_cases e : i = a
    · rw [if_pos e, if_pos e]; exact ⟨hz1, hz3⟩
    · rw [if_neg e, if_neg e, hf2 43 (by decide) (by decide)]
      exact hS.ba i p1 (by omega)
  · by_cases e : k = n
    · rw [e]; exact ⟨hp2, hw0⟩
    · exact hS.ok k p1 (by omega) p3
set_option maxRecDepth 100000 in
theorem c_X10_tryWholly (X : Xv) (m : Mem) {w d l : Int} (hI : Inv X w d l m) (s : Int) (hs : 0 ≤ s ∧ s < 256) : kCall (eX X) 200 M_X10_tryWholly.1 [vR 41, vI s] m (fun r m' => ((¬ TOK w d l m m s ∧ r = some (vI (-1))) ∨ (TOK w d l m m s ∧ ∃ f A, FL m s f A ∧ ((FA (layY w d l m s f) A.toNat 0 [] ∧ r = some (vI 1)) ∨ (¬ FA (layY w d l m s f) A.toNat 0 [] ∧ r = some (vI 0))))) ∧ (∀ o, o < 22 ∨ 27 < o → o ≠ 41 → o ≠ 42 → o ≠ 43 → o ≠ 44 → m' o = m o) ∧ ∀ i : Int, i ≠ 6 → m' 41 i = m 41 i) := by
  obtain ⟨hB, hl, hW, hR, h60, h31⟩ := id hI
  obtain ⟨hD, hN, hG⟩ := id hB
  have h8 := hW.1.2.1
  have g4 : m 1 4 = w * d * l := hG.2.2.2.2.1
  have g4' : fld m 1 4 = w * d * l := g4
  have hsr := WFs_srt hW.1
  refine kCall_ofT ok_X10_tryWholly rfl (Nat.le_of_ble_eq_true rfl) (fun T hT => ?_)
  have hno : ∀ m', ¬ TOK w d l m m s → (∀ o, o < 22 ∨ 27 < o → o ≠ 41 → o ≠ 42 → o ≠ 43 → m' o = m o) → (∀ i : Int, i ≠ 6 → m' 41 i = m 41 i) → T (some (vI (-1))) m' := fun m' h a b => hT _ _ ⟨Or.inl ⟨h, rfl⟩, fun o p1 p2 p3 p4 _ => a o p1 p2 p3 p4, b⟩
  refine kW_go ok_X10_tryWholly [3] 20 ?_
  refine And.intro (fun h => hno m (fun q => ?_) (fun _ _ _ _ _ => rfl) (fun _ _ => rfl)) (fun h24 => ?_)
  · have := q.1
    omega
  have h24b : w * d * l ≤ 24 := by
    have h : m 1 4 ≤ 24 := h24
    omega
  clear h24
  have h24 := h24b
  refine kCall_mono (c_bitCount (eX X) m s hs.1 hs.2) (Nat.le_of_ble_eq_true rfl) ?_
  rintro _ m ⟨rfl, rfl⟩
  refine And.intro (fun h3 => ?_) (fun h3 => hno m (fun q => absurd q.2.1 (by omega)) (fun _ _ _ _ _ => rfl) (fun _ _ => rfl))
  have hpop := pop_sum hs
  have hle : ∀ k : Nat, k ≤ 8 → sumN (bitN s) k ≤ 3 := fun k hk => by
    have h1 := sumN_up (bitN_in s) hk
    have h2 : pop s = sumN (bitN s) 8 := hpop
    omega
  -- the last step
  have hlast : ∀ (m1 : Mem) (A : Int) (x2 : Option AV), TS w d l s m (m 9 14) A m1 → kW (eX X) 199 M_X10_tryWholly T 7 [some (vR 41), some (vI s), x2] [] m1 := by
    intro m1 A x2 hS
    have hA : A ≤ 3 := by rw [hS.an]; exact hle _ (by omega)
    have hA0 : 0 ≤ A := by
      rw [hS.an]
      have := sumN_up (bitN_in s) (a := 0) (b := (m 9 14).toNat) (by omega)
      exact this
    obtain ⟨hF, hTB⟩ := TB_of hI hS hA hA0
    have hTK : TOK w d l m m s := ⟨h24, h3, hS.ok⟩
    refine kW_go ok_X10_tryWholly [] 20 ?_
    refine kCall_mono (c_X10_laterCanJoin X m1 hD hN h24 hTB 0 0 ⟨by omega, hA0⟩ ⟨by omega, hA0⟩ (U := []) (fun u hu => by cases hu) (fun j a b => by omega)) (Nat.le_of_ble_eq_true rfl) ?_
    rintro _ m1 ⟨⟨hl, rfl⟩ | ⟨hl, rfl⟩, rfl⟩
    · refine And.intro (fun h => absurd h (by decide)) (fun _ => ?_)
      have hAn : ((A.toNat : Nat) : Int) = A := Int.toNat_of_nonneg hA0
      refine kCall_mono (FW_all hD hN h24 A.toNat m1 0 0 [] (by omega) (by omega) hTB (fun u hu => by cases hu) (fun j a b => by omega) ⟨List.nodup_nil, fun x hx => by cases hx⟩ rfl hl) (by omega) ?_
      rintro _ m2 ⟨hres, k1, k2⟩
      have l1 : ∀ o, o < 22 ∨ 27 < o → o ≠ 41 → o ≠ 42 → o ≠ 43 → o ≠ 44 → m2 o = m o := fun o a b c e f => by rw [k1 o f]; exact hS.fr o a b c e
      have l2 : ∀ i : Int, i ≠ 6 → m2 41 i = m 41 i := fun i hi => by rw [k1 41 (by decide)]; exact hS.f41 i hi
      rcases hres with ⟨hg, rfl⟩ | ⟨hg, rfl⟩
      · exact And.intro (fun h => absurd h (by decide)) (fun _ => hT _ _ ⟨Or.inr ⟨hTK, _, A, hF, Or.inl ⟨hg, rfl⟩⟩, l1, l2⟩)
      · exact And.intro (fun _ => hT _ _ ⟨Or.inr ⟨hTK, _, A, hF, Or.inr ⟨hg, rfl⟩⟩, l1, l2⟩) (fun h => absurd rfl h)
    · refine And.intro (fun _ => hT _ _ ⟨Or.inr ⟨hTK, _, A, hF, Or.inr ⟨fun q => hl (fun j a b => FA_reach _ _ _ q j a (by omega)), rfl⟩⟩, fun o a b c e _ => hS.fr o a b c e, hS.f41⟩) (fun h => absurd rfl h)
  have loop : ∀ (k : Nat) (n a : Int) (m1 : Mem), n + k = m 9 14 → 0 ≤ n → TS w d l s m n a m1 → kW (eX X) 199 M_X10_tryWholly T 3 [some (vR 41), some (vI s), some (vI n)] [] m1 := by
    intro k
    induction k with
    | zero =>
      intro n a m1 hk hn hS
      have e9 : m1 9 14 = m 9 14 := by rw [hS.fr 9 (by decide) (by decide) (by decide) (by decide)]
      have e9' : fld m1 9 14 = m 9 14 := e9
      refine kW_go ok_X10_tryWholly [3, 7] 20 ?_
      rw [show n = m 9 14 by omega] at hS
      exact ⟨fun _ => hlast m1 a _ hS, fun h => absurd h (by omega)⟩
    | succ k ih =>
      intro n a m1 hk hn hS
      have e9 : m1 9 14 = m 9 14 := by rw [hS.fr 9 (by decide) (by decide) (by decide) (by decide)]
      have e9' : fld m1 9 14 = m 9 14 := e9
      have hn8 : 0 ≤ n ∧ n < 8 := by omega
      have hn8' : 0 ≤ n ∧ n < ((8 : Nat) : Int) := hn8
      have e13 : m1 13 = m 13 := hS.fr 13 (by decide) (by decide) (by decide) (by decide)
      have hsum : sumN (bitN s) (n + 1).toNat = sumN (bitN s) n.toNat + bitN s n := sumN_s _ hn
      have hnx : ∀ (a2 : Int) (m2 : Mem), TS w d l s m (n + 1) a2 m2 → kW (eX X) 199 M_X10_tryWholly T 6 [some (vR 41), some (vI s), some (vI n)] [] m2 := by
        intro a2 m2 hS2
        refine kW_go ok_X10_tryWholly [3] 20 ?_
        exact ⟨by constructor <;> omega, ih (n + 1) a2 m2 (by omega) (by omega) hS2⟩
      refine kW_go ok_X10_tryWholly [3, 6, 7] 40 ?_
      refine ⟨fun h => absurd h (by omega), fun _ => And.intro (fun h0 => ?_) (fun h0 => ?_)⟩
      · have hbit := (k_ask0 hn8.1 (by omega)).mp h0
        refine hnx a m1 ⟨hS.fr, hS.f41, hS.am, ?_, fun i x y => ?_, hS.up, fun k' x y z => ?_, hS.ba, fun k' x y z => ?_⟩
        · rw [hsum]
          unfold bitN
          rw [hbit, if_neg (by decide), Int.add_zero]
          exact hS.an
        · have := hS.ch i x y
          exact ⟨by omega, this.2⟩
        · by_cases e : k' = n
          · rw [e, hbit] at z; cases z
          · exact hS.al k' x (by omega) z
        · by_cases e : k' = n
          · rw [e, hbit] at z; cases z
          · exact hS.ok k' x (by omega) z
      · have hbit : bt s n.toNat = true := by
          cases e : bt s n.toNat with
          | true => rfl
          | false => exact absurd ((k_ask0 hn8.1 (by omega)).mpr e) h0
        have hb1 : bitN s n = 1 := by unfold bitN; rw [if_pos hbit]
        have ha3 : a + 1 ≤ 3 := by
          have := hle (n + 1).toNat (by omega)
          rw [hsum, hb1, ← hS.an] at this
          exact this
        have ha0 : 0 ≤ a := by
          rw [hS.an]
          exact sumN_up (bitN_in s) (a := 0) (b := n.toNat) (by omega)
        have h3a : 0 ≤ a ∧ a < ((3 : Nat) : Int) := by omega
        refine ⟨hn8', And.intro (fun hne => ?_) (fun h2 => ?_)⟩
        · refine hno m1 (fun q => hne ?_) hS.fr hS.f41
          show m1 13 n = 2
          rw [e13]
          exact (q.2.2 n hn (by omega) hbit).1
        · have hp2 : m 13 n = 2 := by
            have h2 : m1 13 n = 2 := h2
            rw [e13] at h2
            exact h2
          have hI1 := Inv_41 hI (m' := m1) (fun o x y => hS.fr o (by omega) x (by omega) (by omega)) hS.f41
          refine kCall_mono (c_X3_hasWires X m1 hI1.1 n hn8 (hI1.2.2.1.2.2.1 n hn8) (RRn_k.mp (hI1.2.2.2.1.2.1 n hn8)).1) (Nat.le_of_ble_eq_true rfl) ?_
          rw [hS.fr 65 (by decide) (by decide) (by decide) (by decide)]
          rintro _ m1 ⟨⟨hw, rfl⟩ | ⟨hw, rfl⟩, rfl⟩
          · exact And.intro (fun h => absurd h (by decide)) (fun _ => hno m1 (fun q => hw (q.2.2 n hn (by omega) hbit).2) hS.fr hS.f41)
          · refine And.intro (fun _ => ?_) (fun h => absurd rfl h)
            have hw0 : m 65 n = 0 := Classical.byContradiction hw
            have a6 : m1 41 6 = a := hS.am
            have a6' : fld m1 41 6 = a := hS.am
            rw [← a6] at h3a
            refine ⟨h3a, ?_⟩
            have f1 : ∀ o, o ≠ 42 → mset m1 42 (m1 41 6) n o = m1 o := fun o ho => k_mset_ne ho
            have hs1 : srt (mset m1 42 (m1 41 6) n) := by
              have := WFs_srt hI1.2.2.1.1
              unfold srt at this ⊢
              rw [f1 9 (by decide), f1 10 (by decide), f1 11 (by decide)]
              exact this
            refine kCall_mono (c_X10_openCells X (mset m1 42 (m1 41 6) n) hD hN (gridC_same hI1.1.2.2 (fun o x y => f1 o (by omega))) hs1 h24 n s (by rw [f1 9 (by decide), e9]; omega)) (Nat.le_of_ble_eq_true rfl) ?_
            rintro _ m2 ⟨z, ⟨rfl, hz1, hz2⟩, hf2⟩
            have b6 : m2 41 6 = a := by rw [hf2 41 (by omega), f1 41 (by decide)]; exact a6
            have b6' : fld m2 41 6 = a := b6
            have hz3 : ∀ y, mbt z y ↔ inC w d l y ∧ frT w d l (qC n 0 s) m n 0 y := by
              intro y
              rw [hz2, frT_mem (m := m) (fun o x y => by rw [f1 o (by omega)]; exact hS.fr o (by omega) (by omega) (by omega) (by omega))]
            have hr : inR (m2 41 6 + 1) := by rw [b6]; constructor <;> omega
            refine ⟨h3a, hr, ?_⟩
            subst a6
            refine hnx (m1 41 6 + 1) (mset (mset m2 43 (m1 41 6) z) 41 6 (m2 41 6 + 1)) (TS_step hS hn ha0 hbit hp2 hw0 hz1 hz3 (m2 := m2) (fun o x y => by rw [hf2 o x, f1 o y]) (fun j => by rw [hf2 42 (by decide)]; exact k_mset_at) (fun o x y => by rw [k_mset_ne x, k_mset_ne y]) (fun j => ?_) (fun j => ?_))
            · rw [k_mset_ne (show (43 : Nat) ≠ 41 by decide)]; exact k_mset_at
            · rw [k_mset_at, b6, k_mset_ne (show (41 : Nat) ≠ 43 by decide)]
  refine loop (m 9 14).toNat 0 0 (mset m 41 6 0) (by omega) (by omega) ?_
  have e41 : ∀ i : Int, mset m 41 6 0 41 i = if i = 6 then 0 else m 41 i := fun i => k_mset_at
  exact ⟨fun o p1 p2 _ _ => k_mset_ne p2, fun i hi => by rw [e41, if_neg hi], by rw [e41, if_pos rfl], rfl, fun i p1 p2 => by omega, fun i j p1 p2 p3 => by omega, fun k p1 p2 => by omega, fun i p1 p2 => by omega, fun k p1 p2 => by omega⟩
