/-! the router: the search finds the least keys -/
section SEARCH
variable (w d l L mv st vi be : Int) (ex : Int → Int) (F J : Int → Prop)
/-- a row from a state, and its key -/
def rwK (t K : Int) : Prop := ∃ (x a : Int) (ks : List Int) (C : Int), t = x * L + a ∧ inC w d l x ∧ (0 ≤ a ∧ a < L) ∧ row w d l mv F J (csF st vi ex) be ks x (dO L a) C ∧ K = 2048 * C + (ks.length : Int)
/-- a state that was taken -/
def tkn (m : Mem) (t : Int) : Prop := m 34 t ≠ 2147483647 ∧ m 36 t = -1
def tknF (m : Mem) (t : Int) : Int := if m 34 t ≠ 2147483647 ∧ m 36 t = -1 then 1 else 0
/-- the search under way -/
def DI (S wd : Int) (m : Mem) : Prop := HI S m ∧ (∀ t, (0 ≤ t ∧ t < S) → m 34 t = 2147483647 ∨ (rwK w d l L mv st vi be ex F J t (m 34 t) ∧ m 34 t ≤ 260000000)) ∧
  (∀ t, (0 ≤ t ∧ t < S) → m 36 t ≠ -1 → m 34 t ≠ 2147483647) ∧
  (∀ t, (0 ≤ t ∧ t < S) → tkn m t → (∀ K, rwK w d l L mv st vi be ex F J t K → m 34 t ≤ K) ∧ (∀ u, (0 ≤ u ∧ u < S) → m 36 u ≠ -1 → m 34 t ≤ m 34 u)) ∧
  (∀ x a k y b, inC w d l y → (0 ≤ b ∧ b < L) → tkn m (y * L + b) → Eg w d l L mv F x a k y b → m 34 (x * L + a) ≤ m 34 (y * L + b) + we L st vi be ex a k y) ∧
  (∀ x a, inC w d l x → (0 ≤ a ∧ a < L) → J x → m 34 (x * L + a) = 0) ∧ ¬ tkn m wd
end SEARCH
section SEARCH2
variable {w d l L mv st vi be : Int} {ex : Int → Int} {F J : Int → Prop}
theorem csF_in {m : Mem} (h : RCf w d l L mv st vi be ex m) : (∀ k y, 0 ≤ csF st vi ex k y) ∧ 0 ≤ be := by
  obtain ⟨h2, h3, h4⟩ := h.2.2.2.1
  refine ⟨fun k y => ?_, h4.1⟩
  unfold csF
  split <;> omega
theorem row_any (hbe : be = 0) {cs : Int → Int → Int} : ∀ {ks : List Int} {x dir C : Int} (dir' : Int), row w d l mv F J cs be ks x dir C → row w d l mv F J cs be ks x dir' C
  | [], _, _, _, _, h => h
  | k :: ks, x, dir, C, dir', h => by
    obtain ⟨h1, h2, h3, h4, h5⟩ := h
    have e : ∀ q, wt cs be q k (nx w d l x k) = cs k (nx w d l x k) := fun q => by unfold wt; rw [hbe]; split <;> omega
    rw [e] at h5
    exact ⟨h1, h2, h3, h4, by rw [e]; exact row_any hbe _ h5⟩
/-- the lane behind a move stands for the direction behind it -/
theorem row_lane {m : Mem} (h : RCf w d l L mv st vi be ex m) {cs : Int → Int → Int} {ks : List Int} {y a k C : Int} : row w d l mv F J cs be ks y (dr (dO L a) k) C ↔ row w d l mv F J cs be ks y (dO L (lb L a k)) C := by
  rcases h.2.1 with ⟨rfl, hb⟩ | rfl
  · exact ⟨row_any hb _, row_any hb _⟩
  · have e : dr (dO 5 a) k = dO 5 (lb 5 a k) := by
      have e0 : ∀ z, dO 5 z = z := fun z => if_neg (by decide)
      rw [e0, e0]
      unfold dr lb
      by_cases hk : k < 4
      · rw [if_pos hk, if_neg (by omega)]
      · rw [if_neg hk, if_pos (by omega)]
    rw [e]
theorem lb_in {m : Mem} (h : RCf w d l L mv st vi be ex m) {a k : Int} (ha : 0 ≤ a ∧ a < L) (hk : 0 ≤ k) : 0 ≤ lb L a k ∧ lb L a k < L := by
  unfold lb
  rcases h.2.1 with ⟨rfl, hb⟩ | rfl
  · rw [if_pos (Or.inl rfl)]; exact ha
  · split <;> omega
/-- keys are never too large -/
theorem rwK_bound {m : Mem} (hD : okD w d l) (h : RCf w d l L mv st vi be ex m) {t K : Int} (hr : rwK w d l L mv st vi be ex F J t K) : 0 ≤ K ∧ ∃ K', rwK w d l L mv st vi be ex F J t K' ∧ K' ≤ 250000000 := by
  obtain ⟨x, a, ks, C, h1, h2, h3, h4, h5⟩ := hr
  have hc := csF_in h
  have hp := row_ge hc.1 hc.2 h4
  refine ⟨by omega, ?_⟩
  obtain ⟨C0, n0, hL⟩ := Ls_ex hc.1 hc.2 h4
  obtain ⟨ks0, e0, r0⟩ := hL.1
  refine ⟨2048 * C0 + (ks0.length : Int), ⟨x, a, ks0, C0, h1, h2, h3, r0, rfl⟩, ?_⟩
  -- the row's cells lie on the board, so the extra is small there
  obtain ⟨q2, q3, q4⟩ := h.2.2.2.1
  have hn := Ls_short hc.1 hc.2 hD h2 hL
  have hle : ∀ {ks : List Int} {x dir C : Int}, row w d l mv F J (csF st vi ex) be ks x dir C → C ≤ 358 * (ks.length : Int) := by
    intro ks
    induction ks with
    | nil => intro x dir C hh; rw [hh.2]; simp
    | cons k ks ih =>
      intro x dir C hh
      have g1 := ih hh.2.2.2.2
      have g2 := (wt_in hc.1 hc.2 dir k (nx w d l x k)).2.2
      have g3 := h.2.2.2.2.2 _ (nx_in hh.2.2.2.1).1
      have g4 : csF st vi ex k (nx w d l x k) ≤ 259 := by unfold csF; split <;> omega
      simp only [List.length_cons]
      omega
  have := hle r0
  omega
/-- of each row: its state's key is no more, or a state waits whose key is no more -/
theorem DI_row {S wd : Int} {m c : Mem} {N : Nat} (hn : w * d * l = (N : Int)) (hS : S = (N : Int) * L) (hR : RCf w d l L mv st vi be ex c) (hz : ∀ o i, inR (m o i)) (H : DI w d l L mv st vi be ex F J S wd m) : ∀ {ks : List Int} {x a C : Int}, inC w d l x → (0 ≤ a ∧ a < L) → row w d l mv F J (csF st vi ex) be ks x (dO L a) C → m 34 (x * L + a) ≤ 2048 * C + (ks.length : Int) ∨ ∃ u, (0 ≤ u ∧ u < S) ∧ m 36 u ≠ -1 ∧ m 34 u ≤ 2048 * C + (ks.length : Int) := by
  have hc := csF_in hR
  have hL15 : L = 1 ∨ L = 5 := hR.2.1.elim (fun z => Or.inl z.1) Or.inr
  intro ks
  induction ks with
  | nil =>
    intro x a C hx ha hr
    left
    rw [H.2.2.2.2.2.1 x a hx ha hr.1, hr.2]
    simp
  | cons k ks ih =>
    intro x a C hx ha hr
    obtain ⟨h1, h2, h3, h4, h5⟩ := hr
    obtain ⟨y, hy⟩ : ∃ y, nx w d l x k = y := ⟨_, rfl⟩
    have hyi := (nx_in h4).1
    rw [hy] at h5 hyi
    rw [row_lane hR] at h5
    have hb := lb_in hR ha h3.1
    have hw : we L st vi be ex a k y = 2048 * wt (csF st vi ex) be (dO L a) k y + 1 := rfl
    have hwi := we_in hR hyi (a := a) (k := k)
    have hst := st_in hn hL15 hyi hb
    rw [← hS] at hst
    simp only [List.length_cons]
    rcases ih hyi hb h5 with g | ⟨u, g1, g2, g3⟩
    · by_cases hp : m 36 (y * L + lb L a k) = -1
      · by_cases hf : m 34 (y * L + lb L a k) = 2147483647
        · left
          have := (hz 34 (x * L + a)).2
          omega
        · left
          have := H.2.2.2.2.1 x a k y (lb L a k) hyi hb ⟨hf, hp⟩ ⟨hx, h3, hy, h2, ha, rfl⟩
          omega
      · exact Or.inr ⟨_, hst, hp, by omega⟩
    · exact Or.inr ⟨u, g1, g2, by omega⟩
/-- one more state taken, and what leads to it offered -/
theorem DI_step {S wd s : Int} {m m1 m2 c : Mem} {N : Nat} (hD : okD w d l) (hn : w * d * l = (N : Int)) (hS : S = (N : Int) * L) (hR : RCf w d l L mv st vi be ex c) (hz : ∀ o i, inR (m o i)) (H : DI w d l L mv st vi be ex F J S wd m) (hq : 0 < m 30 9) (hs : m 35 0 = s) (ht : tkP S m m1) (hsw : s ≠ wd) (hwr : 0 ≤ wd ∧ wd < S)
    {y b : Int} (hy : inC w d l y) (hb : 0 ≤ b ∧ b < L) (hyb : s = y * L + b) (hJ : ofJ S (fun t v => ∃ x a k, t = x * L + a ∧ Eg w d l L mv F x a k y b ∧ v = m1 34 s + we L st vi be ex a k y) m1 m2) (hall : ∀ x a k, Eg w d l L mv F x a k y b → m2 34 (x * L + a) ≤ m1 34 s + we L st vi be ex a k y) :
    DI w d l L mv st vi be ex F J S wd m2 ∧ ∀ t, (0 ≤ t ∧ t < S) → tknF m2 t = if t = s then 1 else tknF m t := by
  have hL15 : L = 1 ∨ L = 5 := hR.2.1.elim (fun z => Or.inl z.1) Or.inr
  obtain ⟨d1, d2, d3, d4, d5, d6, d7⟩ := id H
  obtain ⟨t1, t2, t3, t4, t5⟩ := ht
  obtain ⟨j1, j2, j3, j4, j5⟩ := hJ
  have e34 : m1 34 = m 34 := t2 34 (by decide) (by decide) (by decide)
  rw [e34] at j4 j5 hall
  rw [hs] at t5
  have hsi := d1.2.1 0 (by omega)
  rw [hs] at hsi
  have hsW : m 36 s ≠ -1 := by rw [hsi.2]; decide
  have hsF := d3 s hsi.1 hsW
  have hsmin : ∀ u, (0 ≤ u ∧ u < S) → m 36 u ≠ -1 → m 34 s ≤ m 34 u := fun u hu hw => by
    have := HI_least d1 hu hw
    rw [hs] at this
    exact this
  have hsR : rwK w d l L mv st vi be ex F J s (m 34 s) := ((d2 s hsi.1).resolve_left hsF).1
  have hs0 := (rwK_bound hD hR hsR).1
  have hexact : ∀ K, rwK w d l L mv st vi be ex F J s K → m 34 s ≤ K := by
    rintro K ⟨x, a, ks, C, g1, g2, g3, g4, rfl⟩
    rcases DI_row hn hS hR hz H g2 g3 g4 with g | ⟨u, u1, u2, u3⟩
    · rw [g1]; exact g
    · exact Int.le_trans (hsmin u u1 u2) u3
  have hle : ∀ t, m2 34 t ≤ m 34 t := fun t => by rcases j4 t with z | z <;> omega
  -- what was offered is more than the key of s
  have himp : ∀ t, m2 34 t < m 34 t → m 34 s < m2 34 t := by
    intro t hlt
    rcases j4 t with z | ⟨-, x, a, k, -, hE, hv⟩
    · omega
    · have := (we_in hR hy (a := a) (k := k)).1
      omega
  have hss : m2 34 s = m 34 s := by
    have := hle s
    by_cases h : m2 34 s < m 34 s
    · have := himp s h; omega
    · omega
  have hw2 : ∀ t, (0 ≤ t ∧ t < S) → (m2 36 t ≠ -1 ↔ (m 36 t ≠ -1 ∧ t ≠ s) ∨ m2 34 t < m 34 t) := fun t ht => by rw [j5 t ht, t5 t ht]
  have hmax : ∀ t, m 34 t ≤ 2147483647 := fun t => (hz 34 t).2
  -- who is taken behind the step
  have htk : ∀ t, (0 ≤ t ∧ t < S) → (tkn m2 t ↔ tkn m t ∨ t = s) := by
    intro t ht
    constructor
    · rintro ⟨a, b⟩
      have hnw : ¬ m2 36 t ≠ -1 := fun z => z b
      rw [hw2 t ht] at hnw
      have hni : m2 34 t = m 34 t := by
        have := hle t
        by_cases h : m2 34 t < m 34 t
        · exact absurd (Or.inr h) hnw
        · omega
      by_cases hts : t = s
      · exact Or.inr hts
      · left
        refine ⟨by rw [← hni]; exact a, ?_⟩
        exact Decidable.byContradiction (fun z => hnw (Or.inl ⟨z, hts⟩))
    · rintro (⟨a, b⟩ | rfl)
      · have hmt := (d4 t ht ⟨a, b⟩).2 s hsi.1 hsW
        have hni : ¬ m2 34 t < m 34 t := fun z => by have := himp t z; omega
        have := hle t
        refine ⟨by omega, Decidable.byContradiction (fun z => ?_)⟩
        rcases (hw2 t ht).mp z with q | q
        · exact q.1 b
        · exact hni q
      · refine ⟨by omega, Decidable.byContradiction (fun z => ?_)⟩
        rcases (hw2 t ht).mp z with q | q
        · exact q.2 rfl
        · omega
  have hval : ∀ t, (0 ≤ t ∧ t < S) → tkn m2 t → m2 34 t = m 34 t ∧ m 34 t ≤ m 34 s := by
    intro t ht hk
    rcases (htk t ht).mp hk with z | rfl
    · have hmt := (d4 t ht z).2 s hsi.1 hsW
      have hni : ¬ m2 34 t < m 34 t := fun z => by have := himp t z; omega
      have := hle t
      exact ⟨by omega, hmt⟩
    · exact ⟨hss, Int.le_refl _⟩
  refine ⟨⟨j1, fun t ht => ?_, fun t ht hw => ?_, fun t ht hk => ?_, fun x a k y' b' hy' hb' hk hE => ?_, fun x a hx ha hJx => ?_, fun z => ?_⟩, fun t ht => ?_⟩
  · rcases j4 t with z | ⟨hlt, x, a, k, htx, hE, hv⟩
    · rw [z]; exact d2 t ht
    · right
      obtain ⟨E1, E2, E3, E4, E5, E6⟩ := hE
      obtain ⟨y', b', ks, C, g1, g2, g3, g4, g5⟩ := hsR
      obtain ⟨rfl, rfl⟩ := st_inj hL15 hb g3 (by rw [← hyb, ← g1])
      have hne : nx w d l x k ≠ -1 := by rw [E3]; have := hy.1; omega
      have hnJ : ¬ J x := by
        intro hJx
        have := d6 x a E1 E5 hJx
        rw [htx] at hlt hv
        have := (we_in hR hy (a := a) (k := k)).1
        omega
      have hb1 : m 34 s ≤ 250000000 := by
        obtain ⟨-, K', a2, a3⟩ := rwK_bound hD hR (⟨y, b, ks, C, g1, g2, g3, g4, g5⟩ : rwK w d l L mv st vi be ex F J s (m 34 s))
        have := hexact K' a2
        omega
      have hb2 := (we_in hR hy (a := a) (k := k)).2
      refine ⟨⟨x, a, k :: ks, C + wt (csF st vi ex) be (dO L a) k y, htx, E1, E5, ⟨hnJ, E4, E2, hne, ?_⟩, ?_⟩, by omega⟩
      · rw [E3, show C + wt (csF st vi ex) be (dO L a) k y - wt (csF st vi ex) be (dO L a) k y = C by omega, row_lane hR, E6]
        exact g4
      · rw [hv, g5]
        unfold we
        simp only [List.length_cons]
        omega
  · rcases (hw2 t ht).mp hw with z | z
    · have := d3 t ht z.1
      have := hle t
      have := hmax t
      omega
    · have := hmax t
      omega
  · obtain ⟨hv1, hv2⟩ := hval t ht hk
    refine ⟨fun K hK => ?_, fun u hu hw => ?_⟩
    · rw [hv1]
      rcases (htk t ht).mp hk with z | rfl
      · exact (d4 t ht z).1 K hK
      · exact hexact K hK
    · rw [hv1]
      by_cases hui : m2 34 u < m 34 u
      · have := himp u hui; omega
      · have := hle u
        rcases (hw2 u hu).mp hw with z | z
        · have := hsmin u hu z.1
          omega
        · exact absurd z hui
  · have hst := st_in hn hL15 hy' hb'
    rw [← hS] at hst
    obtain ⟨hv1, hv2⟩ := hval _ hst hk
    rw [hv1]
    rcases (htk _ hst).mp hk with z | z
    · exact Int.le_trans (hle _) (d5 x a k y' b' hy' hb' z hE)
    · obtain ⟨rfl, rfl⟩ := st_inj hL15 hb hb' (by rw [← hyb, z])
      rw [← hyb]
      exact hall x a k hE
  · rcases j4 (x * L + a) with z | ⟨hlt, x', a', k, htx, hE, hv⟩
    · rw [z]; exact d6 x a hx ha hJx
    · have h0 := d6 x a hx ha hJx
      have := (we_in hR hy (a := a') (k := k)).1
      omega
  · rcases (htk wd hwr).mp z with q | q
    · exact d7 q
    · exact hsw q.symm
  · unfold tknF
    have := htk t ht
    unfold tkn at this
    by_cases hts : t = s
    · rw [if_pos hts, if_pos (this.mpr (Or.inr hts))]
    · rw [if_neg hts]
      by_cases hk : m 34 t ≠ 2147483647 ∧ m 36 t = -1
      · rw [if_pos hk, if_pos (this.mpr (Or.inl hk))]
      · rw [if_neg hk, if_neg (fun z => (this.mp z).elim hk hts)]
end SEARCH2
