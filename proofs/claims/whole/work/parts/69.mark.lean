/-! the class's room: the free cells -/
theorem c_X6_isClear (X : Xv) (m : Mem) (c g : Int) (hc : 0 ≤ c ∧ c < (nC X : Int)) : kCall (eX X) 1 M_X6_isClear.1 [vR 22, vI c, vI g] m (bP (m 15 c = 0 ∧ m 24 c = 0 ∧ kand (m 25 c) (kxor g (-1)) = 0) m) := by
  refine kCall_ofT ok_X6_isClear rfl (Nat.le_of_ble_eq_true rfl) (fun T hT => ?_)
  refine kW_go ok_X6_isClear [] 20 ?_
  refine ⟨hc, And.intro (fun h => hT _ _ ⟨Or.inl rfl, Or.inr ⟨fun q => h q.1, rfl⟩, rfl⟩) (fun h1 => ⟨hc, And.intro (fun h => hT _ _ ⟨Or.inl rfl, Or.inr ⟨fun q => h q.2.1, rfl⟩, rfl⟩) (fun h2 => ⟨hc, And.intro (fun h => hT _ _ ⟨Or.inl rfl, Or.inr ⟨fun q => h q.2.2, rfl⟩, rfl⟩) (fun h3 => hT _ _ ⟨Or.inr rfl, Or.inl ⟨⟨h1, h2, h3⟩, rfl⟩, rfl⟩)⟩)⟩)⟩
/-- free for the net that is looked at, as if the traces of the nets in g were not there -/
def frC (w d : Int) (m : Mem) (g c : Int) : Prop := m 26 c ≠ 0 ∨ (kand (kshr (m 10 (m 11 (m 22 9) * 5 + 4)) (gZ w d c)) 1 ≠ 0 ∧ m 15 c = 0 ∧ m 24 c = 0 ∧ kand (m 25 c) (kxor g (-1)) = 0)
theorem c_X6_mark (X : Xv) (m : Mem) {w d l : Int} (hD : okD w d l) (hn : w * d * l = (nC X : Int)) (hG : gridC m w d l) (g n : Int) (hL : m 22 9 = n) (hnn : 0 ≤ n ∧ n < 8) (hs : 0 ≤ m 11 n ∧ m 11 n < 6) : kCall (eX X) 2 M_X6_mark.1 [vR 22, vI g] m (fun r m' => r = none ∧ (∀ o, o ≠ 27 → m' o = m o) ∧ ∀ c, inC w d l c → (frC w d m g c → m' 27 c = 1) ∧ (¬ frC w d m g c → m' 27 c = 0)) := by
  have hcc := okD_cells hD
  refine kCall_ofT ok_X6_mark rfl (Nat.le_of_ble_eq_true rfl) (fun T hT => ?_)
  refine kW_go ok_X6_mark [1] 20 ?_
  show kCall (eX X) 1 M_X3_setting.1 [vR 9, vI (m 22 9), vI 4] m _
  rw [hL]
  refine kCall_mono (c_X3_setting X m n 4 hnn (by decide) hs) (Nat.le_of_ble_eq_true rfl) ?_
  rintro _ m ⟨rfl, rfl⟩
  have loop : ∀ (k : Nat) (i : Int) (m' : Mem) (x4 : Option AV), i + k = (nC X : Int) → 0 ≤ i → (∀ o, o ≠ 27 → m' o = m o) → (∀ c, (0 ≤ c ∧ c < i) → (frC w d m g c → m' 27 c = 1) ∧ (¬ frC w d m g c → m' 27 c = 0)) → kW (eX X) 1 M_X6_mark T 1 [some (vR 22), some (vI g), some (vI (m 10 (m 11 n * 5 + 4))), some (vI i), x4] [] m' := by
    intro k
    induction k with
    | zero =>
      intro i m' x4 hi h0 hf hb
      have h1 : m' 1 = m 1 := hf 1 (by decide)
      refine kW_go ok_X6_mark [1, 3] 20 ?_
      refine ⟨fun _ => hT _ _ ⟨rfl, hf, fun c hc => hb c (by obtain ⟨a, b⟩ := hc; omega)⟩, fun h => ?_⟩
      have h : i < m' 1 4 := h
      rw [h1, hG.2.2.2.2.1] at h
      omega
    | succ k ih =>
      intro i m' x4 hi h0 hf hb
      have hib : 0 ≤ i ∧ i < (nC X : Int) := by omega
      have hic : inC w d l i := ⟨by omega, by omega⟩
      have h1 : m' 1 = m 1 := hf 1 (by decide)
      have h5 : m' 5 i = gZ w d i := by rw [hf 5 (by decide)]; exact (hG.2.2.2.2.2 i hic).2.2.1
      have h26 : m' 26 = m 26 := hf 26 (by decide)
      have h15 : m' 15 = m 15 := hf 15 (by decide)
      have h24 : m' 24 = m 24 := hf 24 (by decide)
      have h25 : m' 25 = m 25 := hf 25 (by decide)
      have hput : ∀ (v : Int) (y : Option AV), ((frC w d m g i ∧ v = 1) ∨ (¬ frC w d m g i ∧ v = 0)) → kW (eX X) 1 M_X6_mark T 1 [some (vR 22), some (vI g), some (vI (m 10 (m 11 n * 5 + 4))), some (vI (i + 1)), y] [] (mset m' 27 i v) := by
        intro v y hv
        refine ih (i + 1) _ y (by omega) (by omega) (fun o ho => by rw [k_mset_ne ho]; exact hf o ho) (fun c hc => ?_)
        rw [k_mset_at]
        by_cases he : c = i
        · subst he
          rw [if_pos rfl]
          rcases hv with ⟨q1, q2⟩ | ⟨q1, q2⟩
          · exact ⟨fun _ => q2, fun q => absurd q1 q⟩
          · exact ⟨fun q => absurd q q1, fun _ => q2⟩
        · rw [if_neg he]
          exact hb c (by omega)
      have hmid : ∀ f : Int, ((f = 1 ∧ (kand (kshr (m 10 (m 11 n * 5 + 4)) (gZ w d i)) 1 ≠ 0 ∧ m 15 i = 0 ∧ m 24 i = 0 ∧ kand (m 25 i) (kxor g (-1)) = 0)) ∨ (f = 0 ∧ ¬ (kand (kshr (m 10 (m 11 n * 5 + 4)) (gZ w d i)) 1 ≠ 0 ∧ m 15 i = 0 ∧ m 24 i = 0 ∧ kand (m 25 i) (kxor g (-1)) = 0))) → kW (eX X) 1 M_X6_mark T 3 [some (vR 22), some (vI g), some (vI (m 10 (m 11 n * 5 + 4))), some (vI i), x4] [vI f] m' := by
        intro f hf'
        have hown : m' 26 i = m 26 i := by rw [h26]
        refine kW_go ok_X6_mark [1] 20 ?_
        refine ⟨hib, And.intro (fun h => ⟨hib, by constructor <;> omega, hput 1 _ (Or.inl ⟨Or.inl (fun q => h (hown.trans q)), rfl⟩)⟩) (fun h => ?_)⟩
        have h : m 26 i = 0 := hown.symm.trans h
        rcases hf' with ⟨rfl, hq⟩ | ⟨rfl, hq⟩
        · refine And.intro (fun h => absurd h (by decide)) (fun _ => ⟨hib, by constructor <;> omega, hput 1 _ (Or.inl ⟨Or.inr ?_, rfl⟩)⟩)
          rw [hL]; exact hq
        · refine And.intro (fun _ => ⟨hib, by constructor <;> omega, hput 0 _ (Or.inr ⟨?_, rfl⟩)⟩) (fun h => absurd rfl h)
          rintro (q | q)
          · exact q h
          · rw [hL] at q; exact hq q
      refine kW_go ok_X6_mark [1, 3] 20 ?_
      refine ⟨fun h => ?_, fun _ => ?_⟩
      · have h : m' 1 4 ≤ i := h
        rw [h1, hG.2.2.2.2.1] at h
        omega
      · show (0 ≤ i ∧ i < (nC X : Int)) ∧ (kand (kshr (m 10 (m 11 n * 5 + 4)) (m' 5 i)) 1 = 0 → _) ∧ (¬ kand (kshr (m 10 (m 11 n * 5 + 4)) (m' 5 i)) 1 = 0 → _)
        rw [h5]
        refine ⟨hib, fun h => hmid 0 (Or.inr ⟨rfl, fun q => q.1 h⟩), fun h => ?_⟩
        refine kCall_mono (c_X6_isClear X m' i g hib) (Nat.le_of_ble_eq_true rfl) ?_
        rw [h15, h24, h25]
        rintro _ m' ⟨⟨hp, rfl⟩ | ⟨hp, rfl⟩, rfl⟩
        · exact And.intro (fun h => absurd h (by decide)) (fun _ => hmid 1 (Or.inl ⟨rfl, h, hp⟩))
        · exact And.intro (fun _ => hmid 0 (Or.inr ⟨rfl, fun q => hp q.2⟩)) (fun h => absurd rfl h)
  exact loop (nC X) 0 m none (by omega) (by omega) (fun _ _ => rfl) (fun c h => by omega)
