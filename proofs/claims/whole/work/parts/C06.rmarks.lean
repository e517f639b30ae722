/-! TOGETHER, the reference: marks -/
noncomputable def wM (c : Mem) : List (Int × Int) → Mem
  | [] => c
  | u :: M => with16 u.1 (fun z => z = u.2) (wM c M)
theorem wM_ne {c : Mem} {o : Nat} (h : o ≠ 16) : ∀ M : List (Int × Int), wM c M o = c o
  | [] => rfl
  | u :: M => by
    show with16 u.1 (fun z => z = u.2) (wM c M) o = c o
    rw [w16_ne h]
    exact wM_ne h M
theorem wM_b {c : Mem} {x o : Int} (ho : 0 ≤ o ∧ o < 8) : ∀ M : List (Int × Int), (∀ u ∈ M, 0 ≤ u.1 ∧ u.1 < 8) → (bt (wM c M 16 x) o.toNat = true ↔ bt (c 16 x) o.toNat = true ∨ (o, x) ∈ M)
  | [], _ => ⟨Or.inl, fun h => h.elim id (fun q => by cases q)⟩
  | u :: M, h => by
    show bt (with16 u.1 (fun z => z = u.2) (wM c M) 16 x) o.toNat = true ↔ _
    rw [w16_b (h u List.mem_cons_self) x o ho, wM_b ho M (fun v hv => h v (List.mem_cons_of_mem _ hv)), List.mem_cons]
    constructor
    · rintro ((a | a) | ⟨a, b⟩)
      · exact Or.inl a
      · exact Or.inr (Or.inr a)
      · exact Or.inr (Or.inl (by rw [a, b]))
    · rintro (a | a | a)
      · exact Or.inl (Or.inl a)
      · exact Or.inr (by rw [← a]; exact ⟨rfl, rfl⟩)
      · exact Or.inl (Or.inr a)
theorem RelG_same {w d l : Int} {c r r' : Mem} (h : RelG w d l c r) (e : ∀ o, o ≠ 84 → r' o = r o) : RelG w d l c r' := by
  unfold RelG dimM fld at h ⊢
  rw [e 54 (by decide), e 59 (by decide), e 60 (by decide), e 61 (by decide), e 71 (by decide), e 72 (by decide)]
  exact h
theorem v48 {v : Int} (h : 0 ≤ v ∧ v < 8) : (0 ≤ kor v 4 ∧ kor v 4 < 8) ∧ bt (kor v 4) 2 = true ∧ bt (kor v 4) 0 = bt v 0 ∧ bt (kor v 4) 1 = bt v 1 := by
  have : ∀ i : Fin 8, (0 ≤ kor (i.val : Int) 4 ∧ kor (i.val : Int) 4 < 8) ∧ bt (kor (i.val : Int) 4) 2 = true ∧ bt (kor (i.val : Int) 4) 0 = bt (i.val : Int) 0 ∧ bt (kor (i.val : Int) 4) 1 = bt (i.val : Int) 1 := by decide +kernel
  exact k_fin (P := fun v => (0 ≤ kor v 4 ∧ kor v 4 < 8) ∧ bt (kor v 4) 2 = true ∧ bt (kor v 4) 0 = bt v 0 ∧ bt (kor v 4) 1 = bt v 1) this h.1 (by omega)
theorem RelG_16 {w d l : Int} {c c' r r' : Mem} (h : RelG w d l c r) (ec : ∀ o, o ≠ 16 → c' o = c o) (er : ∀ o, o ≠ 72 → r' o = r o) (h72 : ∀ n x : Int, (0 ≤ n ∧ n < 8) → inC w d l x → (0 ≤ r' 72 (324 * n + cR w d x) ∧ r' 72 (324 * n + cR w d x) < 8) ∧ ((bt (r' 72 (324 * n + cR w d x)) 0 = true ∨ bt (r' 72 (324 * n + cR w d x)) 2 = true) ↔ bt (c' 16 x) n.toNat = true) ∧ (bt (r' 72 (324 * n + cR w d x)) 1 = true ↔ bt (c 17 x) n.toNat = true)) : RelG w d l c' r' := by
  obtain ⟨h1, h2, h3, h4, -⟩ := h
  refine ⟨?_, ?_, ?_, ?_, ?_⟩
  · unfold dimM fld at h1 ⊢
    rw [er 54 (by decide)]
    exact h1
  · rw [er 54 (by decide), ec 9 (by decide)]; exact h2
  · rw [er 61 (by decide), er 59 (by decide), er 60 (by decide), ec 9 (by decide), ec 10 (by decide), ec 11 (by decide)]; exact h3
  · rw [er 71 (by decide), ec 15 (by decide)]; exact h4
  · rw [ec 17 (by decide)]; exact h72
theorem RelG_mark {w d l n y : Int} {c r : Mem} {M : List (Int × Int)} (hD : okD w d l) (hM : ∀ u ∈ M, 0 ≤ u.1 ∧ u.1 < 8) (h : RelG w d l (wM c M) r) (hn : 0 ≤ n ∧ n < 8) (hy : inC w d l y) : RelG w d l (wM c ((n, y) :: M)) (mset r 72 (324 * n + cR w d y) (kor (r 72 (324 * n + cR w d y)) 4)) := by
  have h5 := h.2.2.2.2
  refine RelG_16 h (fun o ho => by rw [wM_ne ho, wM_ne ho]) (fun o ho => k_mset_ne ho) (fun n' x hn' hx => ?_)
  have hM2 : ∀ u ∈ (n, y) :: M, 0 ≤ u.1 ∧ u.1 < 8 := fun u hu => by
    rcases List.mem_cons.mp hu with e | e
    · rw [e]; exact hn
    · exact hM u e
  obtain ⟨a, b, e⟩ := h5 n' x hn' hx
  rw [wM_b hn' M hM] at b
  rw [wM_b hn' _ hM2, k_mset_at, List.mem_cons]
  by_cases hj : 324 * n' + cR w d x = 324 * n + cR w d y
  · have g1 := (cR_geo hD hx).1
    have g2 := (cR_geo hD hy).1
    have e1 : n' = n := by omega
    have e2 : x = y := cR_inj hD hx hy (by omega)
    subst e1 e2
    rw [if_pos rfl]
    have v := v48 a
    refine ⟨v.1, ⟨fun _ => Or.inr (Or.inl rfl), fun _ => Or.inr v.2.1⟩, ?_⟩
    rw [v.2.2.2]
    exact e
  · rw [if_neg hj]
    refine ⟨a, ?_, e⟩
    rw [b]
    constructor
    · rintro (q | q)
      · exact Or.inl q
      · exact Or.inr (Or.inr q)
    · rintro (q | q | q)
      · exact Or.inl q
      · exact absurd (by cases q; rfl) hj
      · exact Or.inr q
theorem RelG_pin {w d l n y : Int} {c r : Mem} {M : List (Int × Int)} (hM : ∀ u ∈ M, 0 ≤ u.1 ∧ u.1 < 8) (h : RelG w d l (wM c M) r) (hn : 0 ≤ n ∧ n < 8) (hb : bt (c 16 y) n.toNat = true) : RelG w d l (wM c ((n, y) :: M)) r := by
  have h5 := h.2.2.2.2
  refine RelG_16 h (fun o ho => by rw [wM_ne ho, wM_ne ho]) (fun o ho => rfl) (fun n' x hn' hx => ?_)
  have hM2 : ∀ u ∈ (n, y) :: M, 0 ≤ u.1 ∧ u.1 < 8 := fun u hu => by
    rcases List.mem_cons.mp hu with e | e
    · rw [e]; exact hn
    · exact hM u e
  obtain ⟨a, b, e⟩ := h5 n' x hn' hx
  rw [wM_b hn' M hM] at b
  rw [wM_b hn' _ hM2, List.mem_cons]
  refine ⟨a, ?_, e⟩
  rw [b]
  constructor
  · rintro (q | q)
    · exact Or.inl q
    · exact Or.inr (Or.inr q)
  · rintro (q | q | q)
    · exact Or.inl q
    · cases q; exact Or.inl hb
    · exact Or.inr q
/-- cells free in the reference with ways laid: those open -/
theorem ref_fr {w d l A s i y : Int} {c : Mem} {f : Int → Int} {U : List (Int × Int)} {L : List Int} (h8 : c 9 14 ≤ 8) (hF : FL c s f A) (hi : 0 ≤ i ∧ i < A) (hU : ∀ u ∈ U, (0 ≤ u.1 ∧ u.1 < i) ∧ inC w d l u.2) (hsol : bt (c 16 y) (f i).toNat = true ↔ y = c 14 (f i * 4 + 0) ∨ y = c 14 (f i * 4 + 1)) (hy : inC w d l y) (hL : y ∉ L) : frT w d l (fun o => bt s o.toNat = false) (wM c ((UL U i L).map (fun u => (f u.1, u.2)))) (f i) 0 y ↔ (layY w d l c s f).fr i U y := by
  obtain ⟨M, hMd⟩ : ∃ M, M = (UL U i L).map (fun u => (f u.1, u.2)) := ⟨_, rfl⟩
  rw [← hMd]
  have hfi := hF.2.1 i hi.1 hi.2
  have hq : ¬ bt s (f i).toNat = false := by rw [hfi.2]; decide
  have hmem : ∀ o x, (o, x) ∈ M ↔ (o = f i ∧ x ∈ L) ∨ ∃ u ∈ U, f u.1 = o ∧ u.2 = x := by
    intro o x
    rw [hMd, List.mem_map]
    unfold UL
    constructor
    · rintro ⟨u, hu, e⟩
      rcases List.mem_append.mp hu with hu | hu
      · obtain ⟨z, hz, rfl⟩ := List.mem_map.mp hu
        cases e
        exact Or.inl ⟨rfl, hz⟩
      · cases e
        exact Or.inr ⟨u, hu, rfl, rfl⟩
    · rintro (⟨rfl, hx⟩ | ⟨u, hu, rfl, rfl⟩)
      · exact ⟨(i, x), List.mem_append_left _ (List.mem_map.mpr ⟨x, hx, rfl⟩), rfl⟩
      · exact ⟨u, List.mem_append_right _ hu, rfl⟩
  have hM8 : ∀ u ∈ M, 0 ≤ u.1 ∧ u.1 < 8 := by
    rintro ⟨o, x⟩ hu
    rcases (hmem o x).mp hu with ⟨e, -⟩ | ⟨u, hu, e, -⟩
    · show 0 ≤ o ∧ o < 8
      rw [e]; omega
    · have := hU u hu
      have := (hF.2.1 u.1 this.1.1 (by omega)).1
      show 0 ≤ o ∧ o < 8
      omega
  have hne : ∀ u ∈ U, f u.1 ≠ f i := fun u hu => by
    have := hU u hu
    have := hF.2.2.1 u.1 i this.1.1 this.1.2 hi.2
    omega
  have hfi8 : 0 ≤ f i ∧ f i < 8 := by omega
  have hcu : cuT (fun o => bt s o.toNat = false) (wM c M) (f i) y ↔ y = c 14 (f i * 4 + 0) ∨ y = c 14 (f i * 4 + 1) := by
    unfold cuT
    rw [wM_b hfi8 M hM8, hmem, hsol]
    constructor
    · rintro ((a | ⟨-, a⟩ | ⟨u, hu, e, -⟩) | ⟨a, -⟩)
      · exact a
      · exact absurd a hL
      · exact absurd e (hne u hu)
      · exact absurd a hq
    · exact fun a => Or.inl (Or.inl a)
  have hcu0 : cuT (fun o => bt s o.toNat = false) c (f i) y ↔ y = c 14 (f i * 4 + 0) ∨ y = c 14 (f i * 4 + 1) := by
    unfold cuT
    rw [hsol]
    exact ⟨fun q => q.elim id (fun z => absurd z.1 hq), Or.inl⟩
  have hcl : clT w d l (fun o => bt s o.toNat = false) (wM c M) (f i) y ↔ clT w d l (fun o => bt s o.toNat = false) c (f i) y ∧ ∀ u ∈ U, ¬ box w d l u.2 (aptC c (f i) (f u.1)) y := by
    have e9 : wM c M 9 = c 9 := wM_ne (by decide) M
    have eap : ∀ o, aptC (wM c M) (f i) o = aptC c (f i) o := fun o => by unfold aptC; rw [wM_ne (by decide), wM_ne (by decide)]
    have e17 : wM c M 17 = c 17 := wM_ne (by decide) M
    unfold clT
    rw [e9]
    constructor
    · intro h
      refine ⟨fun o ho hon => ?_, fun u hu hb => ?_⟩
      · rintro ⟨z, hz, hc, hb⟩
        refine h o ho hon ⟨z, hz, ?_, by rw [eap]; exact hb⟩
        unfold cuT at hc ⊢
        rw [wM_b (by omega) M hM8, e17]
        exact hc.imp Or.inl id
      · have hu' := hU u hu
        have hfu := (hF.2.1 u.1 hu'.1.1 (by omega)).1
        refine h (f u.1) hfu (hne u hu) ⟨u.2, hu'.2, ?_, by rw [eap]; exact hb⟩
        unfold cuT
        rw [wM_b (by omega) M hM8]
        exact Or.inl (Or.inr ((hmem _ _).mpr (Or.inr ⟨u, hu, rfl, rfl⟩)))
    · rintro ⟨h1, h2⟩ o ho hon ⟨z, hz, hc, hb⟩
      rw [eap] at hb
      unfold cuT at hc
      rw [wM_b (by omega) M hM8, e17, hmem] at hc
      rcases hc with (a | ⟨e, -⟩ | ⟨u, hu, e, e'⟩) | a
      · exact h1 o ho hon ⟨z, hz, Or.inl a, hb⟩
      · exact hon e
      · refine h2 u hu ?_
        rw [e, e']
        exact hb
      · exact h1 o ho hon ⟨z, hz, Or.inr a, hb⟩
  unfold frT Lay.fr
  rw [hcu, hcl, wM_ne (show (15 : Nat) ≠ 16 by decide), wM_ne (show (10 : Nat) ≠ 16 by decide), wM_ne (show (11 : Nat) ≠ 16 by decide)]
  show _ ↔ y = c 14 (f i * 4 + 0) ∨ y = c 14 (f i * 4 + 1) ∨ ((inC w d l y ∧ (cuT (fun o => bt s o.toNat = false) c (f i) y ∨ _)) ∧ ∀ u ∈ U, ¬ box w d l u.2 (aptC c (f i) (f u.1)) y)
  rw [hcu0]
  constructor
  · rintro ((a | a) | ⟨a, b, e, g⟩)
    · exact Or.inl a
    · exact Or.inr (Or.inl a)
    · exact Or.inr (Or.inr ⟨⟨hy, Or.inr ⟨a, b, e⟩⟩, g⟩)
  · rintro (a | a | ⟨⟨-, (a | ⟨a, b, e⟩)⟩, g⟩)
    · exact Or.inl (Or.inl a)
    · exact Or.inl (Or.inr a)
    · exact Or.inl a
    · exact Or.inr ⟨a, b, e, g⟩
