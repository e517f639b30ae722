/-! the reference joins cells by a net's own moves -/
theorem c_X12_joins (X : Xv) (m : Mem) (a b : Int) (ha : 0 ≤ a ∧ a < 324) (hb : 0 ≤ b ∧ b < 324) (h01 : ∀ j : Int, (0 ≤ j ∧ j < 324) → m 78 j = 0 ∨ m 78 j = 1) : kCall (eX X) 1 M_X12_joins.1 [vR 54, vI a, vI b] m (fun r m' => (m 78 a = m 78 b ∧ r = some (vI 0) ∧ m' = m) ∨ (m 78 a ≠ m 78 b ∧ r = some (vI 1) ∧ m' = mset (mset m 78 a 1) 78 b 1)) := by
  refine kCall_ofT ok_X12_joins rfl (Nat.le_of_ble_eq_true rfl) (fun T hT => ?_)
  have hab : 0 ≤ a ∧ a < ((324 : Nat) : Int) := ha
  have hbb : 0 ≤ b ∧ b < ((324 : Nat) : Int) := hb
  have h1 := h01 a ha
  have h2 := h01 b hb
  have e1 : ∀ (j v : Int), m 78 j = v → mset m 78 j v = m := by
    intro j v h
    have h2 := mset_self m 78 j
    rw [h] at h2
    exact h2
  refine kW_go ok_X12_joins [] 20 ?_
  refine ⟨hab, hbb, And.intro (fun he => ?_) (fun hne => ?_)⟩
  · have hd : T (some (vI 0)) m := hT _ _ ⟨Or.inl rfl, Or.inl ⟨he, rfl, rfl⟩⟩
    refine ⟨hab, And.intro (fun h3 => ⟨hab, Or.inr rfl, ?_⟩) (fun h3 => And.intro (fun _ => ⟨hab, Or.inl rfl, ?_⟩) (fun h => absurd rfl h))⟩
    · rw [e1 a 1 (by omega)]
      refine ⟨hbb, And.intro (fun h4 => ⟨hbb, Or.inr rfl, ?_⟩) (fun h4 => absurd (show m 78 b = 0 from h4) (by omega))⟩
      rw [e1 b 1 (by omega)]
      exact hd
    · rw [e1 a 0 h3]
      refine ⟨hbb, And.intro (fun h4 => absurd (show ¬ m 78 b = 0 from h4) (by omega)) (fun h4 => And.intro (fun _ => ⟨hbb, Or.inl rfl, ?_⟩) (fun h => absurd rfl h))⟩
      rw [e1 b 0 h4]
      exact hd
  · have hd : T (some (vI 1)) (mset (mset m 78 a 1) 78 b 1) := hT _ _ ⟨Or.inr rfl, Or.inr ⟨hne, rfl, rfl⟩⟩
    refine ⟨hab, And.intro (fun h3 => ⟨hab, Or.inr rfl, ?_⟩) (fun h3 => And.intro (fun h => absurd h (by decide)) (fun _ => ⟨hab, Or.inr rfl, ?_⟩))⟩
    · exact ⟨hbb, And.intro (fun h4 => ⟨hbb, Or.inr rfl, hd⟩) (fun h4 => And.intro (fun h => absurd h (by decide)) (fun _ => ⟨hbb, Or.inr rfl, hd⟩))⟩
    · exact ⟨hbb, And.intro (fun h4 => ⟨hbb, Or.inr rfl, hd⟩) (fun h4 => And.intro (fun h => absurd h (by decide)) (fun _ => ⟨hbb, Or.inr rfl, hd⟩))⟩
/-- one move of a net's lists -/
def erR (m : Mem) (n a b : Int) : Prop := (∃ i : Int, (0 ≤ i ∧ i < m 65 n) ∧ ((m 66 (1200 * n + i) = a ∧ m 67 (1200 * n + i) = b) ∨ (m 66 (1200 * n + i) = b ∧ m 67 (1200 * n + i) = a))) ∨ ∃ i : Int, (0 ≤ i ∧ i < m 68 n) ∧ ((m 69 (2400 * n + i) = a ∧ m 70 (2400 * n + i) = b) ∨ (m 69 (2400 * n + i) = b ∧ m 70 (2400 * n + i) = a))
set_option maxRecDepth 100000 in
set_option maxHeartbeats 1000000 in
theorem c_X12_join (X : Xv) (m : Mem) (n c : Int) (hn : 0 ≤ n ∧ n < 8) (hc : 0 ≤ c ∧ c < 324) (hw : 0 ≤ m 65 n ∧ m 65 n ≤ 1200) (ht : 0 ≤ m 68 n ∧ m 68 n ≤ 2400) (hwv : ∀ i : Int, (0 ≤ i ∧ i < m 65 n) → (0 ≤ m 66 (1200 * n + i) ∧ m 66 (1200 * n + i) < 324) ∧ (0 ≤ m 67 (1200 * n + i) ∧ m 67 (1200 * n + i) < 324)) (htv : ∀ i : Int, (0 ≤ i ∧ i < m 68 n) → (0 ≤ m 69 (2400 * n + i) ∧ m 69 (2400 * n + i) < 324) ∧ (0 ≤ m 70 (2400 * n + i) ∧ m 70 (2400 * n + i) < 324)) : kCall (eX X) 2 M_X12_join.1 [vR 54, vI n, vI c] m (fun r m' => r = none ∧ (∀ o, o ≠ 78 → m' o = m o) ∧ (∀ x : Int, (0 ≤ x ∧ x < 324) → (m' 78 x = 0 ∨ m' 78 x = 1) ∧ (m' 78 x ≠ 0 ↔ Rch (erR m n) c x))) := by
  refine kCall_ofT ok_X12_join rfl (Nat.le_of_ble_eq_true rfl) (fun T hT => ?_)
  have hnb : 0 ≤ n ∧ n < ((8 : Nat) : Int) := hn
  obtain ⟨er, her⟩ : ∃ er, er = erR m n := ⟨_, rfl⟩
  rw [← her] at hT
  -- what always holds
  obtain ⟨J, hJd⟩ : ∃ J : Mem → Prop, ∀ m', J m' ↔ ((∀ o, o ≠ 78 → m' o = m o) ∧ (∀ x : Int, (0 ≤ x ∧ x < 324) → (m' 78 x = 0 ∨ m' 78 x = 1) ∧ (m' 78 x ≠ 0 → Rch er c x)) ∧ m' 78 c ≠ 0) := ⟨_, fun _ => Iff.rfl⟩
  have hz : ∀ m' : Mem, 0 ≤ sumN (flg (m' 78)) 324 ∧ sumN (flg (m' 78)) 324 ≤ 324 := fun m' => by have := sumN_le (flg_in (m' 78)) 324; omega
  -- one joining
  have one : ∀ (m' m2 : Mem) (a b : Int) (r : Option AV), J m' → (0 ≤ a ∧ a < 324) → (0 ≤ b ∧ b < 324) → er a b → er b a → ((m' 78 a = m' 78 b ∧ r = some (vI 0) ∧ m2 = m') ∨ (m' 78 a ≠ m' 78 b ∧ r = some (vI 1) ∧ m2 = mset (mset m' 78 a 1) 78 b 1)) → J m2 ∧ ((r = some (vI 0) ∧ m2 = m' ∧ (m' 78 a ≠ 0 ↔ m' 78 b ≠ 0)) ∨ (r = some (vI 1) ∧ sumN (flg (m' 78)) 324 < sumN (flg (m2 78)) 324)) := by
    rintro m' m2 a b r hJ ha hb h1 h2 (⟨he, hr, rfl⟩ | ⟨hne, hr, rfl⟩)
    · exact ⟨hJ, Or.inl ⟨hr, rfl, by rw [he]⟩⟩
    · obtain ⟨j1, j2, j3⟩ := (hJd _).mp hJ
      have hab : a ≠ b := fun z => hne (by rw [z])
      have e78 : ∀ x, mset (mset m' 78 a 1) 78 b 1 78 x = if x = b then 1 else if x = a then 1 else m' 78 x := fun x => by rw [k_mset_at, k_mset_at]
      have va := (j2 a ha).1
      have vb := (j2 b hb).1
      -- both are reached
      have hra : Rch er c a := by
        by_cases h0 : m' 78 a = 0
        · exact Rch_to ((j2 b hb).2 (by omega)) h2
        · exact (j2 a ha).2 h0
      have hrb : Rch er c b := by
        by_cases h0 : m' 78 b = 0
        · exact Rch_to ((j2 a ha).2 (by omega)) h1
        · exact (j2 b hb).2 h0
      refine ⟨(hJd _).mpr ⟨fun o ho => by rw [k_mset_ne ho, k_mset_ne ho]; exact j1 o ho, fun x hx => ?_, ?_⟩, Or.inr ⟨hr, ?_⟩⟩
      · rw [e78]
        by_cases hxb : x = b
        · rw [if_pos hxb]; exact ⟨Or.inr rfl, fun _ => by rw [hxb]; exact hrb⟩
        · rw [if_neg hxb]
          by_cases hxa : x = a
          · rw [if_pos hxa]; exact ⟨Or.inr rfl, fun _ => by rw [hxa]; exact hra⟩
          · rw [if_neg hxa]; exact j2 x hx
      · rw [e78]
        split
        · decide
        · split
          · decide
          · exact j3
      · have s1 := sumN_set (f := flg (m' 78)) (g := flg (mset m' 78 a 1 78)) (k := 324) (i := a) ha (fun x hx => by unfold flg; rw [k_mset_at, if_neg hx])
        have s2 := sumN_set (f := flg (mset m' 78 a 1 78)) (g := flg (mset (mset m' 78 a 1) 78 b 1 78)) (k := 324) (i := b) hb (fun x hx => by unfold flg; rw [k_mset_at, if_neg hx])
        have f1 : flg (mset m' 78 a 1 78) a = 1 := by unfold flg; rw [k_mset_at, if_pos rfl]; rfl
        have f2 : flg (mset (mset m' 78 a 1) 78 b 1 78) b = 1 := by unfold flg; rw [k_mset_at, if_pos rfl]; rfl
        have f3 : flg (mset m' 78 a 1 78) b = flg (m' 78) b := by unfold flg; rw [k_mset_at, if_neg (show ¬ b = a from fun z => hab z.symm)]
        have f4 : flg (m' 78) a + flg (m' 78) b = 1 := by
          unfold flg
          rcases va with va | va <;> rcases vb with vb | vb
          · omega
          · rw [if_pos va, if_neg (by omega)]; rfl
          · rw [if_neg (by omega), if_pos vb]; rfl
          · omega
        omega
  -- a round
  have round : ∀ (z : Nat) (m0 : Mem) (x4 : Option AV), J m0 → (324 - sumN (flg (m0 78)) 324).toNat = z → kW (eX X) 1 M_X12_join T 5 [some (vR 54), some (vI n), some (vI c), some (vI 1), x4] [] m0 := by
    intro z
    induction z using Nat.strongRecOn with
    | ind z ihz =>
      intro m0 x4 hJ0 hz0
      -- the end of a round
      have hend : ∀ (m' : Mem) (more : Int) (y4 : Option AV), J m' → ((more = 0 ∧ m' = m0 ∧ ∀ a b, er a b → (0 ≤ a ∧ a < 324) → (m' 78 a ≠ 0 ↔ m' 78 b ≠ 0)) ∨ (more = 1 ∧ sumN (flg (m0 78)) 324 < sumN (flg (m' 78)) 324)) → kW (eX X) 1 M_X12_join T 15 [some (vR 54), some (vI n), some (vI c), some (vI more), y4] [] m' := by
        rintro m' more y4 hJ' (⟨rfl, rfl, hall⟩ | ⟨rfl, hlt⟩)
        · refine kW_go ok_X12_join [6] 20 ?_
          refine And.intro (fun _ => ?_) (fun h => absurd rfl h)
          obtain ⟨j1, j2, j3⟩ := (hJd _).mp hJ'
          refine hT _ _ ⟨rfl, j1, fun x hx => ⟨(j2 x hx).1, (j2 x hx).2, fun hr => ?_⟩⟩
          have her4 : ∀ a b, er a b → 0 ≤ b ∧ b < 324 := by
            intro a b hab
            rw [her] at hab
            rcases hab with ⟨i, hi, ⟨h1, h2⟩ | ⟨h1, h2⟩⟩ | ⟨i, hi, ⟨h1, h2⟩ | ⟨h1, h2⟩⟩
            · have := (hwv i hi).2; omega
            · have := (hwv i hi).1; omega
            · have := (htv i hi).2; omega
            · have := (htv i hi).1; omega
          have : (0 ≤ x ∧ x < 324) ∧ m' 78 x ≠ 0 := by
            refine Rch_ind (P := fun x => (0 ≤ x ∧ x < 324) ∧ m' 78 x ≠ 0) ?_ ⟨hc, j3⟩ hr
            rintro a b ⟨ha1, ha2⟩ hab
            exact ⟨her4 a b hab, (hall a b hab ha1).mp ha2⟩
          exact this.2
        · refine kW_go ok_X12_join [5] 20 ?_
          have h1 := hz m'
          have h2 := hz m0
          exact ihz _ (by omega) m' y4 hJ' rfl
      -- the state within a round
      obtain ⟨K, hKd⟩ : ∃ K : Int → Mem → (Int → Int → Prop) → Prop, ∀ more m' D, K more m' D ↔ (J m' ∧ ((more = 0 ∧ m' = m0 ∧ ∀ a b, D a b → (m' 78 a ≠ 0 ↔ m' 78 b ≠ 0)) ∨ (more = 1 ∧ sumN (flg (m0 78)) 324 < sumN (flg (m' 78)) 324))) := ⟨_, fun _ _ _ => Iff.rfl⟩
      have step : ∀ (more : Int) (m' m2 : Mem) (D : Int → Int → Prop) (a b : Int) (r : Option AV), K more m' D → (0 ≤ a ∧ a < 324) → (0 ≤ b ∧ b < 324) → er a b → er b a → ((m' 78 a = m' 78 b ∧ r = some (vI 0) ∧ m2 = m') ∨ (m' 78 a ≠ m' 78 b ∧ r = some (vI 1) ∧ m2 = mset (mset m' 78 a 1) 78 b 1)) → (r = some (vI 0) ∧ K more m2 (fun u v => D u v ∨ (u = a ∧ v = b) ∨ (u = b ∧ v = a))) ∨ (r = some (vI 1) ∧ K 1 m2 (fun u v => D u v ∨ (u = a ∧ v = b) ∨ (u = b ∧ v = a))) := by
        intro more m' m2 D a b r hK ha hb h1 h2 hp
        obtain ⟨hJ', hm⟩ := (hKd _ _ _).mp hK
        obtain ⟨hJ2, ⟨hr, rfl, hiff⟩ | ⟨hr, hlt⟩⟩ := one m' m2 a b r hJ' ha hb h1 h2 hp
        · left
          refine ⟨hr, (hKd _ _ _).mpr ⟨hJ2, ?_⟩⟩
          rcases hm with ⟨e1, e2, e3⟩ | ⟨e1, e2⟩
          · refine Or.inl ⟨e1, e2, fun u v huv => ?_⟩
            rcases huv with huv | ⟨rfl, rfl⟩ | ⟨rfl, rfl⟩
            · exact e3 u v huv
            · exact hiff
            · exact hiff.symm
          · exact Or.inr ⟨e1, e2⟩
        · right
          refine ⟨hr, (hKd _ _ _).mpr ⟨hJ2, Or.inr ⟨rfl, ?_⟩⟩⟩
          rcases hm with ⟨e1, e2, e3⟩ | ⟨e1, e2⟩
          · rw [← e2]; exact hlt
          · omega
      have hKc : ∀ {more m' D D'}, (∀ u v, D' u v → D u v) → K more m' D → K more m' D' := by
        intro more m' D D' hDD hK
        obtain ⟨hJ', hm⟩ := (hKd _ _ _).mp hK
        refine (hKd _ _ _).mpr ⟨hJ', ?_⟩
        rcases hm with ⟨e1, e2, e3⟩ | hm
        · exact Or.inl ⟨e1, e2, fun u v huv => e3 u v (hDD u v huv)⟩
        · exact Or.inr hm
      have hK01 : ∀ {more m' D}, K more m' D → more = 0 ∨ more = 1 := by
        intro more m' D hK
        rcases ((hKd _ _ _).mp hK).2 with ⟨h, -⟩ | ⟨h, -⟩
        · exact Or.inl h
        · exact Or.inr h
      have hKf : ∀ {more m' D}, K more m' D → ∀ o, o ≠ 78 → m' o = m o := fun hK => ((hJd _).mp ((hKd _ _ _).mp hK).1).1
      have hKb : ∀ {more m' D}, K more m' D → ∀ j : Int, (0 ≤ j ∧ j < 324) → m' 78 j = 0 ∨ m' 78 j = 1 := fun hK j hj => (((hJd _).mp ((hKd _ _ _).mp hK).1).2.1 j hj).1
      -- the traces
      have tr : ∀ (k : Nat) (i more : Int) (m' : Mem), i + k = m 68 n → 0 ≤ i → K more m' (fun u v => (∃ j : Int, (0 ≤ j ∧ j < m 65 n) ∧ ((m 66 (1200 * n + j) = u ∧ m 67 (1200 * n + j) = v) ∨ (m 66 (1200 * n + j) = v ∧ m 67 (1200 * n + j) = u))) ∨ ∃ j : Int, (0 ≤ j ∧ j < i) ∧ ((m 69 (2400 * n + j) = u ∧ m 70 (2400 * n + j) = v) ∨ (m 69 (2400 * n + j) = v ∧ m 70 (2400 * n + j) = u))) → kW (eX X) 1 M_X12_join T 11 [some (vR 54), some (vI n), some (vI c), some (vI more), some (vI i)] [] m' := by
        intro k
        induction k with
        | zero =>
          intro i more m' hik h0 hK
          have e68 : m' 68 = m 68 := hKf hK 68 (by decide)
          have hi : i = m 68 n := by omega
          refine kW_go ok_X12_join [15] 20 ?_
          refine ⟨hnb, And.intro (fun _ => hend m' more _ ((hKd _ _ _).mp hK).1 ?_) (fun h => ?_)⟩
          · rcases ((hKd _ _ _).mp hK).2 with ⟨e1, e2, e3⟩ | hm
            · refine Or.inl ⟨e1, e2, fun a b hab _ => e3 a b ?_⟩
              rw [her] at hab
              rw [hi]
              exact hab
            · exact Or.inr hm
          · have h : i < m' 68 n := h
            rw [e68] at h
            omega
        | succ k ih =>
          intro i more m' hik h0 hK
          have e68 : m' 68 = m 68 := hKf hK 68 (by decide)
          have e69 : m' 69 = m 69 := hKf hK 69 (by decide)
          have e70 : m' 70 = m 70 := hKf hK 70 (by decide)
          have hb := htv i (by omega)
          have hi1 : 0 ≤ 2400 * n + i ∧ 2400 * n + i < ((19200 : Nat) : Int) := by omega
          have hnext : ∀ (m2 : Mem) (more2 : Int), K more2 m2 (fun u v => (∃ j : Int, (0 ≤ j ∧ j < m 65 n) ∧ ((m 66 (1200 * n + j) = u ∧ m 67 (1200 * n + j) = v) ∨ (m 66 (1200 * n + j) = v ∧ m 67 (1200 * n + j) = u))) ∨ ∃ j : Int, (0 ≤ j ∧ j < i + 1) ∧ ((m 69 (2400 * n + j) = u ∧ m 70 (2400 * n + j) = v) ∨ (m 69 (2400 * n + j) = v ∧ m 70 (2400 * n + j) = u))) → kW (eX X) 1 M_X12_join T 14 [some (vR 54), some (vI n), some (vI c), some (vI more), some (vI i)] [vI more2] m2 := by
            intro m2 more2 hK2
            refine kW_go ok_X12_join [11] 20 ?_
            exact ⟨by constructor <;> omega, ih (i + 1) more2 m2 (by omega) (by omega) hK2⟩
          refine kW_go ok_X12_join [14] 20 ?_
          show (0 ≤ n ∧ n < ((8 : Nat) : Int)) ∧ (m' 68 n ≤ i → _) ∧ (i < m' 68 n → inR (2400 * n) ∧ inR (2400 * n + i) ∧ (0 ≤ 2400 * n + i ∧ 2400 * n + i < ((19200 : Nat) : Int)) ∧ inR (2400 * n) ∧ inR (2400 * n + i) ∧ (0 ≤ 2400 * n + i ∧ 2400 * n + i < ((19200 : Nat) : Int)) ∧ kCall (eX X) 1 M_X12_joins.1 [vR 54, vI (m' 69 (2400 * n + i)), vI (m' 70 (2400 * n + i))] m' _)
          rw [e68, e69, e70]
          refine ⟨hnb, fun h => absurd h (by omega), fun _ => ⟨by constructor <;> omega, by constructor <;> omega, hi1, by constructor <;> omega, by constructor <;> omega, hi1, ?_⟩⟩
          refine kCall_mono (c_X12_joins X m' _ _ hb.1 hb.2 (hKb hK)) (Nat.le_of_ble_eq_true rfl) ?_
          intro r m2 hp
          have hs := step more m' m2 _ _ _ r hK hb.1 hb.2 (by rw [her]; exact Or.inr ⟨i, by omega, Or.inl ⟨rfl, rfl⟩⟩) (by rw [her]; exact Or.inr ⟨i, by omega, Or.inr ⟨rfl, rfl⟩⟩) hp
          have hcv : ∀ {more2}, K more2 m2 (fun u v => ((∃ j : Int, (0 ≤ j ∧ j < m 65 n) ∧ ((m 66 (1200 * n + j) = u ∧ m 67 (1200 * n + j) = v) ∨ (m 66 (1200 * n + j) = v ∧ m 67 (1200 * n + j) = u))) ∨ ∃ j : Int, (0 ≤ j ∧ j < i) ∧ ((m 69 (2400 * n + j) = u ∧ m 70 (2400 * n + j) = v) ∨ (m 69 (2400 * n + j) = v ∧ m 70 (2400 * n + j) = u))) ∨ (u = m 69 (2400 * n + i) ∧ v = m 70 (2400 * n + i)) ∨ (u = m 70 (2400 * n + i) ∧ v = m 69 (2400 * n + i))) → kW (eX X) 1 M_X12_join T 14 [some (vR 54), some (vI n), some (vI c), some (vI more), some (vI i)] [vI more2] m2 := by
            intro more2 hK2
            refine hnext m2 more2 (hKc ?_ hK2)
            rintro u v (h | ⟨j, hj, h⟩)
            · exact Or.inl (Or.inl h)
            · by_cases hji : j = i
              · rw [hji] at h
                rcases h with ⟨h1, h2⟩ | ⟨h1, h2⟩
                · exact Or.inr (Or.inl ⟨h1.symm, h2.symm⟩)
                · exact Or.inr (Or.inr ⟨h2.symm, h1.symm⟩)
              · exact Or.inl (Or.inr ⟨j, by omega, h⟩)
          rcases hs with ⟨rfl, hK2⟩ | ⟨rfl, hK2⟩
          · refine And.intro (fun h => absurd rfl h) (fun _ => And.intro (fun hm0 => ?_) (fun hm1 => ?_))
            · have hm0 : more = 0 := hm0
              rw [hm0] at hK2
              exact hcv hK2
            · have : more = 1 := (hK01 hK2).resolve_left hm1
              rw [this] at hK2
              exact hcv hK2
          · exact And.intro (fun _ => hcv hK2) (fun h => absurd h (by decide))
      -- the wires
      have wi : ∀ (k : Nat) (i more : Int) (m' : Mem), i + k = m 65 n → 0 ≤ i → K more m' (fun u v => ∃ j : Int, (0 ≤ j ∧ j < i) ∧ ((m 66 (1200 * n + j) = u ∧ m 67 (1200 * n + j) = v) ∨ (m 66 (1200 * n + j) = v ∧ m 67 (1200 * n + j) = u))) → kW (eX X) 1 M_X12_join T 6 [some (vR 54), some (vI n), some (vI c), some (vI more), some (vI i)] [] m' := by
        intro k
        induction k with
        | zero =>
          intro i more m' hik h0 hK
          have e65 : m' 65 = m 65 := hKf hK 65 (by decide)
          have hi : i = m 65 n := by omega
          refine kW_go ok_X12_join [11] 20 ?_
          refine ⟨hnb, And.intro (fun _ => tr (m 68 n).toNat 0 more m' (by omega) (by omega) (hKc ?_ hK)) (fun h => ?_)⟩
          · rintro u v (h | ⟨j, hj, -⟩)
            · rw [hi]; exact h
            · omega
          · have h : i < m' 65 n := h
            rw [e65] at h
            omega
        | succ k ih =>
          intro i more m' hik h0 hK
          have e65 : m' 65 = m 65 := hKf hK 65 (by decide)
          have e66 : m' 66 = m 66 := hKf hK 66 (by decide)
          have e67 : m' 67 = m 67 := hKf hK 67 (by decide)
          have hb := hwv i (by omega)
          have hi1 : 0 ≤ 1200 * n + i ∧ 1200 * n + i < ((9600 : Nat) : Int) := by omega
          refine kW_go ok_X12_join [9] 20 ?_
          show (0 ≤ n ∧ n < ((8 : Nat) : Int)) ∧ (m' 65 n ≤ i → _) ∧ (i < m' 65 n → inR (1200 * n) ∧ inR (1200 * n + i) ∧ (0 ≤ 1200 * n + i ∧ 1200 * n + i < ((9600 : Nat) : Int)) ∧ inR (1200 * n) ∧ inR (1200 * n + i) ∧ (0 ≤ 1200 * n + i ∧ 1200 * n + i < ((9600 : Nat) : Int)) ∧ kCall (eX X) 1 M_X12_joins.1 [vR 54, vI (m' 66 (1200 * n + i)), vI (m' 67 (1200 * n + i))] m' _)
          rw [e65, e66, e67]
          refine ⟨hnb, fun h => absurd h (by omega), fun _ => ⟨by constructor <;> omega, by constructor <;> omega, hi1, by constructor <;> omega, by constructor <;> omega, hi1, ?_⟩⟩
          refine kCall_mono (c_X12_joins X m' _ _ hb.1 hb.2 (hKb hK)) (Nat.le_of_ble_eq_true rfl) ?_
          intro r m2 hp
          have hs := step more m' m2 _ _ _ r hK hb.1 hb.2 (by rw [her]; exact Or.inl ⟨i, by omega, Or.inl ⟨rfl, rfl⟩⟩) (by rw [her]; exact Or.inl ⟨i, by omega, Or.inr ⟨rfl, rfl⟩⟩) hp
          have hcv : ∀ {more2}, K more2 m2 (fun u v => (∃ j : Int, (0 ≤ j ∧ j < i) ∧ ((m 66 (1200 * n + j) = u ∧ m 67 (1200 * n + j) = v) ∨ (m 66 (1200 * n + j) = v ∧ m 67 (1200 * n + j) = u))) ∨ (u = m 66 (1200 * n + i) ∧ v = m 67 (1200 * n + i)) ∨ (u = m 67 (1200 * n + i) ∧ v = m 66 (1200 * n + i))) → kW (eX X) 1 M_X12_join T 9 [some (vR 54), some (vI n), some (vI c), some (vI more), some (vI i)] [vI more2] m2 := by
            intro more2 hK2
            refine kW_go ok_X12_join [6] 20 ?_
            refine ⟨by constructor <;> omega, ih (i + 1) more2 m2 (by omega) (by omega) (hKc ?_ hK2)⟩
            rintro u v ⟨j, hj, h⟩
            by_cases hji : j = i
            · rw [hji] at h
              rcases h with ⟨h1, h2⟩ | ⟨h1, h2⟩
              · exact Or.inr (Or.inl ⟨h1.symm, h2.symm⟩)
              · exact Or.inr (Or.inr ⟨h2.symm, h1.symm⟩)
            · exact Or.inl ⟨j, by omega, h⟩
          rcases hs with ⟨rfl, hK2⟩ | ⟨rfl, hK2⟩
          · refine And.intro (fun h => absurd rfl h) (fun _ => And.intro (fun hm0 => ?_) (fun hm1 => ?_))
            · have hm0 : more = 0 := hm0
              rw [hm0] at hK2
              exact hcv hK2
            · have : more = 1 := (hK01 hK2).resolve_left hm1
              rw [this] at hK2
              exact hcv hK2
          · exact And.intro (fun _ => hcv hK2) (fun h => absurd h (by decide))
      refine kW_go ok_X12_join [6] 20 ?_
      refine And.intro (fun h => absurd h (by decide)) (fun _ => wi (m 65 n).toNat 0 0 m0 (by omega) (by omega) ((hKd _ _ _).mpr ⟨hJ0, Or.inl ⟨rfl, rfl, fun a b hab => ?_⟩⟩))
      obtain ⟨j, hj, -⟩ := hab
      omega
  -- all but the first cell are cleared
  have clear : ∀ (k : Nat) (i : Int) (m' : Mem) (x4 : Option AV), i + k = 324 → 0 ≤ i → (∀ o, o ≠ 78 → m' o = m o) → (∀ x : Int, (0 ≤ x ∧ x < i) → m' 78 x = if x = c then 1 else 0) → kW (eX X) 1 M_X12_join T 1 [some (vR 54), some (vI n), some (vI c), some (vI i), x4] [] m' := by
    intro k
    induction k with
    | zero =>
      intro i m' x4 hik h0 hf hv
      refine kW_go ok_X12_join [5] 20 ?_
      refine And.intro (fun _ => ?_) (fun h => absurd h (by omega))
      refine round _ m' _ ((hJd _).mpr ⟨hf, fun x hx => ?_, ?_⟩) rfl
      · rw [hv x (by omega)]
        by_cases hxc : x = c
        · rw [if_pos hxc]; exact ⟨Or.inr rfl, fun _ => by rw [hxc]; exact Rch_rf⟩
        · rw [if_neg hxc]; exact ⟨Or.inl rfl, fun h => absurd rfl h⟩
      · rw [hv c (by omega), if_pos rfl]; decide
    | succ k ih =>
      intro i m' x4 hik h0 hf hv
      have hib : 0 ≤ i ∧ i < ((324 : Nat) : Int) := by omega
      have hst : ∀ v : Int, (v = if i = c then 1 else 0) → kW (eX X) 1 M_X12_join T 1 [some (vR 54), some (vI n), some (vI c), some (vI (i + 1)), x4] [] (mset m' 78 i v) := by
        intro v hvv
        refine ih (i + 1) _ x4 (by omega) (by omega) (fun o ho => by rw [k_mset_ne ho]; exact hf o ho) (fun x hx => ?_)
        rw [k_mset_at]
        by_cases hxi : x = i
        · rw [if_pos hxi, hxi]; exact hvv
        · rw [if_neg hxi]; exact hv x (by omega)
      refine kW_go ok_X12_join [1] 20 ?_
      refine And.intro (fun h => absurd h (by omega)) (fun _ => And.intro (fun hne => ⟨hib, Or.inl rfl, by constructor <;> omega, hst 0 (by rw [if_neg hne])⟩) (fun he => ⟨hib, Or.inr rfl, by constructor <;> omega, hst 1 (by rw [if_pos he])⟩))
  refine kW_go ok_X12_join [1] 20 ?_
  exact clear 324 0 m none (by omega) (by omega) (fun _ _ => rfl) (fun x hx => absurd hx (by omega))
