/-! ways that touch themselves nowhere -/
def GO (st : Int → Int → Prop) (fr : Int → Prop) (t : Int) (F : List Int → Prop) (L : List Int) : Prop := ∀ P : List Int → Prop, (∀ R, F (t :: R) → P (t :: R)) → (∀ h y R, h ≠ t → st h y → fr y → y ∉ h :: R → (∀ z ∈ R, ¬ st z y) → P (y :: h :: R) → P (h :: R)) → P L
theorem GO.done {st : Int → Int → Prop} {fr : Int → Prop} {t : Int} {F : List Int → Prop} {R : List Int} (h : F (t :: R)) : GO st fr t F (t :: R) := fun _ h1 _ => h1 R h
theorem GO.step {st : Int → Int → Prop} {fr : Int → Prop} {t : Int} {F : List Int → Prop} {h y : Int} {R : List Int} (h1 : h ≠ t) (h2 : st h y) (h3 : fr y) (h4 : y ∉ h :: R) (h5 : ∀ z ∈ R, ¬ st z y) (h6 : GO st fr t F (y :: h :: R)) : GO st fr t F (h :: R) := fun P p1 p2 => p2 h y R h1 h2 h3 h4 h5 (h6 P p1 p2)
/-- to show something of all rows that lead on -/
theorem GO.ind {st : Int → Int → Prop} {fr : Int → Prop} {t : Int} {F : List Int → Prop} {L : List Int} {P : List Int → Prop} (hg : GO st fr t F L) (p1 : ∀ R, F (t :: R) → P (t :: R)) (p2 : ∀ h y R, h ≠ t → st h y → fr y → y ∉ h :: R → (∀ z ∈ R, ¬ st z y) → GO st fr t F (y :: h :: R) → P (y :: h :: R) → P (h :: R)) : P L := by
  have : GO st fr t F L ∧ P L := hg (fun L => GO st fr t F L ∧ P L) (fun R h => ⟨GO.done h, p1 R h⟩) (fun h y R a b c e f q => ⟨GO.step a b c e f q.1, p2 h y R a b c e f q.1 q.2⟩)
  exact this.2
theorem GO.cas {st : Int → Int → Prop} {fr : Int → Prop} {t : Int} {F : List Int → Prop} {h : Int} {R : List Int} (hg : GO st fr t F (h :: R)) : (h = t ∧ F (t :: R)) ∨ ∃ y, h ≠ t ∧ st h y ∧ fr y ∧ y ∉ h :: R ∧ (∀ z ∈ R, ¬ st z y) ∧ GO st fr t F (y :: h :: R) := by
  have := GO.ind (P := fun L => ∀ h R, L = h :: R → (h = t ∧ F (t :: R)) ∨ ∃ y, h ≠ t ∧ st h y ∧ fr y ∧ y ∉ h :: R ∧ (∀ z ∈ R, ¬ st z y) ∧ GO st fr t F (y :: h :: R)) hg (fun R hf h R' e => by cases e; exact Or.inl ⟨rfl, hf⟩) (fun h y R a b c e f q _ h' R' e' => by cases e'; exact Or.inr ⟨y, a, b, c, e, f, q⟩)
  exact this h R rfl
def Rt (st : Int → Int → Prop) (O : Int → Prop) (t a : Int) : Prop := Rch (fun x y => st x y ∧ O y) a t
theorem Rt.rf {st : Int → Int → Prop} {O : Int → Prop} {t : Int} : Rt st O t t := Rch_rf
theorem Rt.go {st : Int → Int → Prop} {O : Int → Prop} {t x y : Int} (h1 : st x y) (h2 : O y) (h3 : Rt st O t y) : Rt st O t x := Rch_tr (Rch_to Rch_rf ⟨h1, h2⟩) h3
def Op (st : Int → Int → Prop) (fr : Int → Prop) (R : List Int) (y : Int) : Prop := fr y ∧ y ∉ R ∧ ∀ z ∈ R, ¬ st z y
theorem Op_cons {st : Int → Int → Prop} {fr : Int → Prop} {R : List Int} {h y : Int} : Op st fr (h :: R) y ↔ Op st fr R y ∧ ¬ st h y ∧ y ≠ h := by
  unfold Op
  simp only [List.mem_cons, not_or, forall_eq_or_imp]
  constructor
  · rintro ⟨a, ⟨b, c⟩, e, f⟩
    exact ⟨⟨a, c, f⟩, e, b⟩
  · rintro ⟨⟨a, c, f⟩, e, b⟩
    exact ⟨a, ⟨b, c⟩, e, f⟩
theorem GO_at {st : Int → Int → Prop} {fr : Int → Prop} {t : Int} {F : List Int → Prop} {R : List Int} : GO st fr t F (t :: R) ↔ F (t :: R) := by
  constructor
  · intro h
    rcases GO.cas h with ⟨-, h⟩ | ⟨y, h, -⟩
    · exact h
    · exact absurd rfl h
  · exact GO.done
theorem GO_iff {st : Int → Int → Prop} {fr : Int → Prop} {t : Int} {F : List Int → Prop} {h : Int} {R : List Int} (hst : ∀ x, ¬ st x x) (hh : h ≠ t) : GO st fr t F (h :: R) ↔ ∃ y, st h y ∧ Op st fr R y ∧ GO st fr t F (y :: h :: R) := by
  constructor
  · intro hg
    rcases GO.cas hg with ⟨q, -⟩ | ⟨y, -, a, b, c, e, f⟩
    · exact absurd q hh
    · exact ⟨y, a, ⟨b, fun q => c (List.mem_cons_of_mem _ q), e⟩, f⟩
  · rintro ⟨y, a, ⟨b, c, e⟩, f⟩
    refine GO.step hh a b (fun q => ?_) e f
    rcases List.mem_cons.mp q with q | q
    · exact hst h (q ▸ a)
    · exact c q
/-- the end has been touched: no way on -/
theorem GO_dead {st : Int → Int → Prop} {fr : Int → Prop} {t : Int} {F : List Int → Prop} {L : List Int} (hg : GO st fr t F L) : ∀ y R, L = y :: R → y ≠ t → (∃ z ∈ R, st z t) → False := by
  refine GO.ind (P := fun L => ∀ y R, L = y :: R → y ≠ t → (∃ z ∈ R, st z t) → False) hg ?_ ?_
  · intro R _ y R' e hy
    cases e
    exact absurd rfl hy
  · intro h y' R' hh hs hf hn hz hg ih y R e hy hR
    cases e
    by_cases e' : y' = t
    · obtain ⟨z, z1, z2⟩ := hR
      exact hz z z1 (e' ▸ z2)
    · obtain ⟨z, z1, z2⟩ := hR
      exact ih y' (h :: R') rfl e' ⟨z, List.mem_cons_of_mem _ z1, z2⟩
theorem GO_near {st : Int → Int → Prop} {fr : Int → Prop} {t : Int} {F : List Int → Prop} {h : Int} {R : List Int} (hh : h ≠ t) (hs : st h t) (ho : Op st fr R t) : GO st fr t F (h :: R) ↔ F (t :: h :: R) := by
  constructor
  · intro hg
    rcases GO.cas hg with ⟨q, -⟩ | ⟨y, -, a, b, c, e, f⟩
    · exact absurd q hh
    · by_cases e' : y = t
      · subst e'
        exact GO_at.mp f
      · exact (GO_dead f y (h :: R) rfl e' ⟨h, List.mem_cons_self, hs⟩).elim
  · intro hf
    refine GO.step hh hs ho.1 (fun q => ?_) ho.2.2 (GO.done hf)
    rcases List.mem_cons.mp q with q | q
    · exact hh q.symm
    · exact ho.2.1 q
theorem GO_reach {st : Int → Int → Prop} {fr : Int → Prop} {t : Int} {F : List Int → Prop} {L : List Int} (hg : GO st fr t F L) : ∀ y R, L = y :: R → ∀ O : Int → Prop, (∀ x, Op st fr R x → x ≠ y → O x) → Rt st O t y := by
  refine GO.ind (P := fun L => ∀ y R, L = y :: R → ∀ O : Int → Prop, (∀ x, Op st fr R x → x ≠ y → O x) → Rt st O t y) hg ?_ ?_
  · intro R _ y R' e O hO
    cases e
    exact Rt.rf
  · intro h y' R' hh hs hf hn hz hg ih y R e O hO
    cases e
    refine Rt.go hs (hO y' ⟨hf, fun q => hn (List.mem_cons_of_mem _ q), hz⟩ (fun q => hn (by rw [q]; exact List.mem_cons_self))) (ih y' (h :: R') rfl O (fun x hx hne => ?_))
    have := Op_cons.mp hx
    exact hO x this.1 this.2.2
theorem Rt_mono {st : Int → Int → Prop} {O O' : Int → Prop} {t x : Int} (h : Rt st O t x) (hO : ∀ y, O y → O' y) : Rt st O' t x := Rch_mono (fun _ y h => ⟨h.1, hO y h.2⟩) h
/-- where a way ends -/
theorem GO_end {st : Int → Int → Prop} {fr : Int → Prop} {t : Int} {F : List Int → Prop} {L : List Int} (hg : GO st fr t F L) : ∃ Q, F Q ∧ ∀ x ∈ L, x ∈ Q := by
  refine GO.ind (P := fun L => ∃ Q, F Q ∧ ∀ x ∈ L, x ∈ Q) hg (fun R h => ⟨_, h, fun x hx => hx⟩) ?_
  intro h y R _ _ _ _ _ _ ih
  obtain ⟨Q, h1, h2⟩ := ih
  exact ⟨Q, h1, fun x hx => h2 x (List.mem_cons_of_mem _ hx)⟩
theorem GO_cong {st : Int → Int → Prop} {fr fr' : Int → Prop} {t : Int} {F F' : List Int → Prop} {L : List Int} (hf : ∀ y, fr y → fr' y) (hF : ∀ R, F R → F' R) (hg : GO st fr t F L) : GO st fr' t F' L := by
  exact GO.ind (P := fun L => GO st fr' t F' L) hg (fun R h => GO.done (hF _ h)) (fun h y R a b c e f _ ih => GO.step a b (hf _ c) e f ih)
def RtN (st : Int → Int → Prop) (O : Int → Prop) (t : Int) : Nat → Int → Prop
  | 0, x => x = t
  | k + 1, x => ∃ y, st x y ∧ O y ∧ RtN st O t k y
theorem Rt_N {st : Int → Int → Prop} {O : Int → Prop} {t x : Int} (h : Rt st O t x) : ∃ k, RtN st O t k x := by
  refine Rch_ind (P := fun c => ∀ k, RtN st O t k c → ∃ k', RtN st O t k' x) (fun c e ih hs k hk => ih (k + 1) ⟨e, hs.1, hs.2, hk⟩) (fun k hk => ⟨k, hk⟩) h 0 rfl
theorem least_of {p : Nat → Prop} : ∀ n, p n → ∃ k, p k ∧ ∀ j, j < k → ¬ p j := by
  intro n
  induction n using Nat.strongRecOn with
  | ind n ih =>
    intro hn
    by_cases h : ∃ j, j < n ∧ p j
    · obtain ⟨j, h1, h2⟩ := h
      exact ih j h1 h2
    · exact ⟨n, hn, fun j hj hp => h ⟨j, hj, hp⟩⟩
theorem GO_short {st : Int → Int → Prop} {fr : Int → Prop} {t : Int} : ∀ (k : Nat) (h : Int) (R : List Int), RtN st fr t k h → (∀ j, j < k → ¬ RtN st fr t j h) → (∀ z ∈ R, ∀ j, j ≤ k → ¬ RtN st fr t j z) → GO st fr t (fun _ => True) (h :: R) := by
  intro k
  induction k with
  | zero =>
    intro h R h1 _ _
    have h1 : h = t := h1
    subst h1
    exact GO.done trivial
  | succ k ih =>
    intro h R h1 h2 h3
    obtain ⟨y, y1, y2, y3⟩ := h1
    refine GO.step (fun e => h2 0 (by omega) e) y1 y2 (fun q => ?_) (fun z hz hs => ?_) (ih y (h :: R) y3 (fun j hj hp => ?_) (fun z hz j hj => ?_))
    · rcases List.mem_cons.mp q with q | q
      · exact h2 k (by omega) (q ▸ y3)
      · exact h3 y q k (by omega) y3
    · exact h3 z hz (k + 1) (by omega) ⟨y, hs, y2, y3⟩
    · exact h2 (j + 1) (by omega) ⟨y, y1, y2, hp⟩
    · rcases List.mem_cons.mp hz with e | e
      · rw [e]; exact h2 j (by omega)
      · exact h3 z e j (by omega)
theorem GO_alone {st : Int → Int → Prop} {fr : Int → Prop} {t a : Int} : GO st fr t (fun _ => True) [a] ↔ Rt st fr t a := by
  constructor
  · intro h
    exact GO_reach h a [] rfl fr (fun x hx _ => hx.1)
  · intro h
    obtain ⟨k, hk⟩ := Rt_N h
    obtain ⟨k, h1, h2⟩ := least_of (p := fun k => RtN st fr t k a) k hk
    exact GO_short k a [] h1 h2 (fun z hz => by cases hz)
/-! several ways, one behind another -/
abbrev Lay : Type := (Int → Int → Prop) × (Int → Int) × (Int → Int) × (Int → Int → Prop) × (Int → Int → Int → Int → Prop)
abbrev Lay.st (Y : Lay) : Int → Int → Prop := Y.1
abbrev Lay.a (Y : Lay) : Int → Int := Y.2.1
abbrev Lay.t (Y : Lay) : Int → Int := Y.2.2.1
abbrev Lay.B (Y : Lay) : Int → Int → Prop := Y.2.2.2.1
abbrev Lay.nr (Y : Lay) : Int → Int → Int → Int → Prop := Y.2.2.2.2
def Lay.fr (Y : Lay) (i : Int) (U : List (Int × Int)) (y : Int) : Prop := y = Y.a i ∨ y = Y.t i ∨ (Y.B i y ∧ ∀ u ∈ U, ¬ Y.nr i u.1 u.2 y)
def FA (Y : Lay) : Nat → Int → List (Int × Int) → Prop
  | 0, _, _ => True
  | k + 1, i, U => GO Y.st (Y.fr i U) (Y.t i) (fun R => FA Y k (i + 1) (R.map (fun x => (i, x)) ++ U)) [Y.a i]
theorem Lay.fr_mono {Y : Lay} {i : Int} {U U' : List (Int × Int)} (h : ∀ u ∈ U, u ∈ U') {y : Int} (hy : Y.fr i U' y) : Y.fr i U y := by
  rcases hy with e | e | ⟨e1, e2⟩
  · exact Or.inl e
  · exact Or.inr (Or.inl e)
  · exact Or.inr (Or.inr ⟨e1, fun u hu => e2 u (h u hu)⟩)
theorem FA_reach {Y : Lay} : ∀ (k : Nat) (i : Int) (U : List (Int × Int)), FA Y k i U → ∀ j, i ≤ j → j < i + (k : Int) → Rt Y.st (Y.fr j U) (Y.t j) (Y.a j) := by
  intro k
  induction k with
  | zero => intro i U _ j h1 h2; omega
  | succ k ih =>
    intro i U h j h1 h2
    by_cases e : j = i
    · subst e
      exact GO_reach h (Y.a j) [] rfl _ (fun x hx _ => hx.1)
    · obtain ⟨Q, q1, -⟩ := GO_end h
      exact Rt_mono (ih (i + 1) _ q1 j (by omega) (by omega)) (fun y hy => Lay.fr_mono (fun u hu => List.mem_append_right _ hu) hy)
theorem GO_later {Y : Lay} {k : Nat} {i : Int} {U : List (Int × Int)} {L : List Int} {fr : Int → Prop} {t : Int} (hg : GO Y.st fr t (fun R => FA Y k (i + 1) (R.map (fun x => (i, x)) ++ U)) L) : ∀ j, i + 1 ≤ j → j < i + 1 + (k : Int) → Rt Y.st (Y.fr j (L.map (fun x => (i, x)) ++ U)) (Y.t j) (Y.a j) := by
  intro j h1 h2
  obtain ⟨Q, q1, q2⟩ := GO_end hg
  refine Rt_mono (FA_reach k (i + 1) _ q1 j h1 h2) (fun y hy => Lay.fr_mono (fun u hu => ?_) hy)
  rcases List.mem_append.mp hu with hu | hu
  · obtain ⟨x, hx, rfl⟩ := List.mem_map.mp hu
    exact List.mem_append_left _ (List.mem_map_of_mem (q2 x hx))
  · exact List.mem_append_right _ hu
theorem FA_last {Y : Lay} {i : Int} {U : List (Int × Int)} : FA Y 1 i U ↔ Rt Y.st (Y.fr i U) (Y.t i) (Y.a i) := GO_alone
