/-! STRETCH: what holds behind so many bends -/
/-- cells with copper U, a length, moves ks: behind the first i moves of the trail -/
def BI (w d l : Int) (cu : Int → Prop) (P : Int → Int) (L0 : Int) (i : Int) (U : Int → Prop) (len : Int) (ks : List Int) : Prop := okm w d l ks (P 0) ∧ endP w d l ks (P 0) = P i ∧ (P 0 :: vis w d l ks (P 0)).Nodup ∧ (∀ x, x ∈ P 0 :: vis w d l ks (P 0) → (U x ∧ inC w d l x) ∧ ((∃ j : Int, (0 ≤ j ∧ j ≤ i) ∧ x = P j) ∨ ¬ cu x)) ∧ (∀ x, cu x → U x) ∧ (∀ x, U x → cu x ∨ x ∈ P 0 :: vis w d l ks (P 0)) ∧ (len = L0 + ((ks.length : Int) - i) ∧ i ≤ (ks.length : Int))
theorem nodup_app {l₁ l₂ : List Int} (h1 : l₁.Nodup) (h2 : l₂.Nodup) (h : ∀ a ∈ l₁, ∀ b ∈ l₂, a ≠ b) : (l₁ ++ l₂).Nodup := List.nodup_append.mpr ⟨h1, h2, h⟩
theorem BI_0 {w d l : Int} {cu : Int → Prop} {P : Int → Int} {L0 : Int} (hp : inC w d l (P 0)) (hc : cu (P 0)) : BI w d l cu P L0 0 cu L0 [] := by
  refine ⟨trivial, rfl, by simp [vis], fun x hx => ?_, fun x h => h, fun x h => Or.inl h, by simp, by simp⟩
  have : x = P 0 := by simpa [vis] using hx
  rw [this]
  exact ⟨⟨hc, hp⟩, Or.inl ⟨0, ⟨Int.le_refl _, Int.le_refl _⟩, rfl⟩⟩
theorem BI_no {w d l : Int} (hD : okD w d l) {cu : Int → Prop} {P K row : Int → Int} {L0 q i : Int} (hT : TrL w d l row q P K) (hcu : ∀ j : Int, (0 ≤ j ∧ j ≤ q) → cu (P j)) (hi : 0 ≤ i ∧ i < q) {U : Int → Prop} {len : Int} {ks : List Int} (h : BI w d l cu P L0 i U len ks) : BI w d l cu P L0 (i + 1) U len (ks ++ [K i]) := by
  obtain ⟨h1, h2, h3, h4, h5, h6, h7, h8⟩ := h
  obtain ⟨t1, t2, t3, t4⟩ := hT
  obtain ⟨k1, k2, k3⟩ := t2 i hi
  have hv : vis w d l (ks ++ [K i]) (P 0) = vis w d l ks (P 0) ++ [P (i + 1)] := by
    rw [vis_app, h2]
    show _ ++ [nx w d l (P i) (K i)] = _
    rw [k3]
  have hnew : P (i + 1) ∉ P 0 :: vis w d l ks (P 0) := by
    intro hm
    rcases (h4 _ hm).2 with ⟨j, hj, e⟩ | hn
    · exact t3 j (i + 1) (by omega) e.symm
    · exact hn (hcu (i + 1) (by omega))
  refine ⟨?_, ?_, ?_, ?_, h5, ?_, ?_, ?_⟩
  · rw [okm_app, h2]
    exact ⟨h1, k1, k2, trivial⟩
  · rw [endP_app, h2]
    exact k3
  · rw [hv, ← List.cons_append]
    refine nodup_app h3 (by simp) (fun a ha b hb => ?_)
    have : b = P (i + 1) := by simpa using hb
    rw [this]
    exact fun e => hnew (e ▸ ha)
  · intro x hx
    rw [hv, ← List.cons_append, List.mem_append] at hx
    rcases hx with hx | hx
    · obtain ⟨a, b⟩ := h4 x hx
      refine ⟨a, b.imp (fun ⟨j, hj, e⟩ => ⟨j, by omega, e⟩) id⟩
    · have e : x = P (i + 1) := by simpa using hx
      rw [e]
      exact ⟨⟨h5 _ (hcu (i + 1) (by omega)), t1 (i + 1) (by omega)⟩, Or.inl ⟨i + 1, by omega, rfl⟩⟩
  · intro x hx
    rw [hv, ← List.cons_append, List.mem_append]
    exact (h6 x hx).imp id Or.inl
  · rw [List.length_append]
    show len = L0 + (((ks.length + 1 : Nat) : Int) - (i + 1))
    omega
  · rw [List.length_append]
    show i + 1 ≤ ((ks.length + 1 : Nat) : Int)
    omega
theorem BI_bd {w d l : Int} (hD : okD w d l) {fr cu : Int → Prop} {P K row : Int → Int} {L0 q i : Int} (hT : TrL w d l row q P K) (hcu : ∀ j : Int, (0 ≤ j ∧ j ≤ q) → cu (P j)) (hi : 0 ≤ i ∧ i < q) {U : Int → Prop} {len σ : Int} {ks : List Int} (h : BI w d l cu P L0 i U len ks) (hσ : 0 ≤ σ ∧ σ < 6) (hC : bdC w d l fr P U i σ) : (nx w d l (nx w d l (P i) σ) (K i) = nx w d l (P (i + 1)) σ ∧ nx w d l (nx w d l (P (i + 1)) σ) (oppF σ) = P (i + 1)) ∧ BI w d l cu P L0 (i + 1) (fun x => U x ∨ x = nx w d l (P i) σ ∨ x = nx w d l (P (i + 1)) σ) (len + 2) (ks ++ [σ, K i, oppF σ]) := by
  obtain ⟨h1, h2, h3, h4, h5, h6, h7, h8⟩ := h
  obtain ⟨t1, t2, t3, t4⟩ := hT
  obtain ⟨k1, k2, k3⟩ := t2 i hi
  obtain ⟨⟨s1, s2, s3⟩, r1, r2, r3⟩ := hC
  obtain ⟨s, hs⟩ : ∃ s, s = nx w d l (P i) σ := ⟨_, rfl⟩
  obtain ⟨t, ht⟩ : ∃ t, t = nx w d l (P (i + 1)) σ := ⟨_, rfl⟩
  rw [← hs] at s1 s2 s3
  rw [← ht] at r1 r2 r3
  have hst : nx w d l s (K i) = t := by
    rw [hs, ht, ← k3]
    exact nx_sq hD k2 (by rw [← hs]; exact s1) (by rw [k3, ← ht]; exact r1)
  have hback : nx w d l t (oppF σ) = P (i + 1) := by
    rw [ht]
    exact nx_opp hD (t1 (i + 1) (by omega)) hσ (by rw [← ht]; exact r1)
  rw [← hs, ← ht]
  refine ⟨⟨hst, hback⟩, ?_⟩
  have hsi : inC w d l s := by rw [hs]; exact (nx_in (by rw [← hs]; exact s1)).1
  have hti : inC w d l t := by rw [ht]; exact (nx_in (by rw [← ht]; exact r1)).1
  have hsne : s ≠ t := by
    intro e
    have := nx_self (x := s) k1 (by rw [hst]; exact r1)
    rw [hst] at this
    exact this e.symm
  have hv : vis w d l (ks ++ [σ, K i, oppF σ]) (P 0) = vis w d l ks (P 0) ++ [s, t, P (i + 1)] := by
    rw [vis_app, h2]
    show _ ++ [nx w d l (P i) σ, nx w d l (nx w d l (P i) σ) (K i), nx w d l (nx w d l (nx w d l (P i) σ) (K i)) (oppF σ)] = _
    rw [← hs, hst, hback]
  have hPU : U (P (i + 1)) := h5 _ (hcu (i + 1) (by omega))
  have hnew : ∀ x, x ∈ P 0 :: vis w d l ks (P 0) → x ≠ s ∧ x ≠ t ∧ x ≠ P (i + 1) := by
    intro x hx
    obtain ⟨⟨a, -⟩, b⟩ := h4 x hx
    refine ⟨fun e => s3 (e ▸ a), fun e => r3 (e ▸ a), fun e => ?_⟩
    rcases b with ⟨j, hj, e2⟩ | hn
    · exact t3 j (i + 1) (by omega) (by rw [← e2, e])
    · exact hn (by rw [e]; exact hcu (i + 1) (by omega))
  have hmem : ∀ x, x ∈ P 0 :: vis w d l (ks ++ [σ, K i, oppF σ]) (P 0) ↔ x ∈ P 0 :: vis w d l ks (P 0) ∨ x = s ∨ x = t ∨ x = P (i + 1) := by
    intro x
    rw [hv, ← List.cons_append, List.mem_append]
    simp
  refine ⟨?_, ?_, ?_, ?_, fun x hx => Or.inl (h5 x hx), ?_, ?_, ?_⟩
  · rw [okm_app, h2]
    refine ⟨h1, hσ, by rw [← hs]; exact s1, ?_⟩
    rw [← hs]
    refine ⟨k1, by rw [hst]; exact r1, ?_⟩
    rw [hst]
    exact ⟨opp_in hσ, by rw [hback]; have := (t1 (i + 1) (by omega)).1; omega, trivial⟩
  · rw [endP_app, h2]
    show nx w d l (nx w d l (nx w d l (P i) σ) (K i)) (oppF σ) = _
    rw [← hs, hst, hback]
  · rw [hv, ← List.cons_append]
    refine nodup_app h3 ?_ (fun a ha b hb => ?_)
    · have e1 : s ≠ P (i + 1) := fun e => s3 (e ▸ hPU)
      have e2 : t ≠ P (i + 1) := fun e => r3 (e ▸ hPU)
      simp [hsne, e1, e2]
    · have hn := hnew a ha
      have hb : b = s ∨ b = t ∨ b = P (i + 1) := by simpa using hb
      rcases hb with rfl | rfl | rfl
      · exact hn.1
      · exact hn.2.1
      · exact hn.2.2
  · intro x hx
    rcases (hmem x).mp hx with hx | rfl | rfl | rfl
    · obtain ⟨a, b⟩ := h4 x hx
      exact ⟨⟨Or.inl a.1, a.2⟩, b.imp (fun ⟨j, hj, e⟩ => ⟨j, by omega, e⟩) id⟩
    · exact ⟨⟨Or.inr (Or.inl rfl), hsi⟩, Or.inr (fun q => s3 (h5 _ q))⟩
    · exact ⟨⟨Or.inr (Or.inr rfl), hti⟩, Or.inr (fun q => r3 (h5 _ q))⟩
    · exact ⟨⟨Or.inl hPU, t1 (i + 1) (by omega)⟩, Or.inl ⟨i + 1, by omega, rfl⟩⟩
  · intro x hx
    rw [hmem]
    rcases hx with hx | hx | hx
    · exact (h6 x hx).imp id Or.inl
    · exact Or.inr (Or.inr (Or.inl hx))
    · exact Or.inr (Or.inr (Or.inr (Or.inl hx)))
  · rw [List.length_append]
    show len + 2 = L0 + (((ks.length + 3 : Nat) : Int) - (i + 1))
    omega
  · rw [List.length_append]
    show i + 1 ≤ ((ks.length + 3 : Nat) : Int)
    omega
theorem bd_side {k : Int} (h0 : 0 ≤ k) : (0 ≤ (k + 3) % 4 ∧ (k + 3) % 4 < 6) ∧ (0 ≤ (k + 1) % 4 ∧ (k + 1) % 4 < 6) := by omega
theorem bdS_ok {w d l lim : Int} (hD : okD w d l) {fr cu : Int → Prop} {P K row : Int → Int} {L0 q : Int} (hT : TrL w d l row q P K) (hcu : ∀ j : Int, (0 ≤ j ∧ j ≤ q) → cu (P j)) (hq : 0 ≤ q) : ∀ i : Nat, (i : Int) ≤ q → BI w d l cu P L0 i (bdS w d l lim fr cu P K L0 i).1 (bdS w d l lim fr cu P K L0 i).2.1 (bdS w d l lim fr cu P K L0 i).2.2 := by
  intro i
  induction i with
  | zero => intro _; exact BI_0 (hT.1 0 (by omega)) (hcu 0 (by omega))
  | succ i ih =>
    intro hi
    have h := ih (by omega)
    have hK := (hT.2.1 (i : Int) (by omega)).1
    unfold bdS
    rcases bdN_cs (lim := lim) (w := w) (d := d) (l := l) fr P K (bdS w d l lim fr cu P K L0 i).1 (bdS w d l lim fr cu P K L0 i).2.1 (i : Int) with e | ⟨-, hC, hs⟩
    · rw [if_pos e]
      exact BI_no hD hT hcu (by omega) h
    · have hs6 : 0 ≤ bdN w d l lim fr P K (bdS w d l lim fr cu P K L0 i).1 (bdS w d l lim fr cu P K L0 i).2.1 i ∧ bdN w d l lim fr P K (bdS w d l lim fr cu P K L0 i).1 (bdS w d l lim fr cu P K L0 i).2.1 i < 6 := by
        have := bd_side hK.1
        rcases hs with e | e <;> rw [e] <;> omega
      rw [if_neg (by omega)]
      exact (BI_bd hD hT hcu (by omega) h hs6 hC).2
