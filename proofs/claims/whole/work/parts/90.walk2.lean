/-! the router's firstMove and walk, as methods -/
set_option maxRecDepth 100000 in
theorem c_X7_firstMove (X : Xv) (m : Mem) {w d l L mv st vi be : Int} {ex : Int → Int} {F J : Int → Prop} (hB : Bd X w d l m) (hR : RCf w d l L mv st vi be ex m) (hF : ∀ x, inC w d l x → (m 27 x ≠ 0 ↔ F x)) (hJF : ∀ x, J x → F x) {wd : Int} (hP : SP w d l L mv st vi be ex F J ((nC X : Int) * L) wd m) {x a C : Int} {n : Nat} (hO : okS w d l L mv st vi be ex F J ((nC X : Int) * L) wd m x a C n) (hnJ : ¬ J x) : kCall (eX X) 2 M_X7_firstMove.1 [vR 30, vI x, vI a] m (fun r m' => m' = m ∧ ∃ k, r = some (vI k) ∧ lds w d l mv F J (csF st vi ex) be x (dO L a) k ∧ ∀ j, 0 ≤ j → j < k → ¬ lds w d l mv F J (csF st vi ex) be x (dO L a) j) := by
  obtain ⟨hD, hn, hG⟩ := id hB
  have hc4 := okD_cells hD
  have hL15 : L = 1 ∨ L = 5 := hR.2.1.elim (fun z => Or.inl z.1) Or.inr
  obtain ⟨⟨g10, g11, g12, g13, g14⟩, -, hmv, ⟨hst9, hvi9, hbe9⟩, hex, hexb⟩ := id hR
  obtain ⟨o1, o2, o3, o4, o5⟩ := id hO
  obtain ⟨key, hkey⟩ : ∃ key, m 34 (x * L + a) = key := ⟨_, rfl⟩
  have hst := st_in hn hL15 o1 o2
  have hxb : 0 ≤ x ∧ x < (nC X : Int) := by obtain ⟨p, q⟩ := o1; omega
  have hxL : inR (x * L) := by rcases hL15 with rfl | rfl <;> (constructor <;> omega)
  have hS5 : (nC X : Int) * L ≤ ((nC X * 5 : Nat) : Int) := by rcases hL15 with rfl | rfl <;> omega
  refine kCall_ofT ok_X7_firstMove rfl (Nat.le_of_ble_eq_true rfl) (fun T hT => ?_)
  have loop : ∀ (q : Nat) (k : Int) (x5 x6 x7 : Option AV), k + q = mv → 0 ≤ k → (∀ j, 0 ≤ j → j < k → ¬ lds w d l mv F J (csF st vi ex) be x (dO L a) j) → kW (eX X) 1 M_X7_firstMove T 1 [some (vR 30), some (vI x), some (vI a), some (vI key), some (vI k), x5, x6, x7] [] m := by
    intro q
    induction q with
    | zero =>
      intro k x5 x6 x7 hkq h0 hall
      exfalso
      obtain ⟨j, hj⟩ := lds_ex o3 hnJ
      exact hall j hj.1.1 (by have := hj.1.2; omega) hj
    | succ q ih =>
      intro k x5 x6 x7 hkq h0 hall
      have hk6 : 0 ≤ k ∧ k < 6 := by omega
      have hkm : 0 ≤ k ∧ k < mv := by omega
      have hnx : m 2 (x * 6 + k) = nx w d l x k := (hG.2.2.2.2.2 x o1).2.2.2 _ hk6.1 hk6.2
      have hnext : ¬ lds w d l mv F J (csF st vi ex) be x (dO L a) k → ∀ z5 z6 z7, kW (eX X) 1 M_X7_firstMove T 7 [some (vR 30), some (vI x), some (vI a), some (vI key), some (vI k), z5, z6, z7] [] m := by
        intro hno z5 z6 z7
        refine kW_go ok_X7_firstMove [1] 20 ?_
        refine ⟨by constructor <;> omega, ih (k + 1) z5 z6 z7 (by omega) (by omega) (fun j h1 h2 => ?_)⟩
        by_cases hjk : j = k
        · rw [hjk]; exact hno
        · exact hall j h1 (by omega)
      have hiff := SP_lds hn rfl hD hR hP hJF hO hnJ hkm
      refine kW_go ok_X7_firstMove [2, 7, 8] 20 ?_
      show (m 30 11 ≤ k → _) ∧ (k < m 30 11 → inR (x * 6) ∧ inR (x * 6 + k) ∧ (0 ≤ x * 6 + k ∧ x * 6 + k < ((nC X * 6 : Nat) : Int)) ∧ (m 2 (x * 6 + k) = -1 → kW (eX X) 1 M_X7_firstMove T 7 [some (vR 30), some (vI x), some (vI a), some (vI key), some (vI k), some (vI (m 2 (x * 6 + k))), x6, x7] [] m) ∧ (¬ m 2 (x * 6 + k) = -1 → (0 ≤ m 2 (x * 6 + k) ∧ m 2 (x * 6 + k) < (nC X : Int)) ∧ (¬ m 27 (m 2 (x * 6 + k)) = 0 → kW (eX X) 1 M_X7_firstMove T 2 [some (vR 30), some (vI x), some (vI a), some (vI key), some (vI k), some (vI (m 2 (x * 6 + k))), x6, x7] [] m) ∧ (m 27 (m 2 (x * 6 + k)) = 0 → kW (eX X) 1 M_X7_firstMove T 7 [some (vR 30), some (vI x), some (vI a), some (vI key), some (vI k), some (vI (m 2 (x * 6 + k))), x6, x7] [] m)))
      rw [hnx, g11]
      refine And.intro (fun h => absurd h (by omega)) (fun _ => ⟨by constructor <;> omega, by constructor <;> omega, by constructor <;> omega, fun h => hnext (fun z => z.2.1 h) _ _ _, fun hne => ?_⟩)
      obtain ⟨y, hy⟩ : ∃ y, nx w d l x k = y := ⟨_, rfl⟩
      rw [hy] at hiff hne ⊢
      have hyi : inC w d l y := by rw [← hy]; exact (nx_in (by rw [hy]; exact hne)).1
      have hyb : 0 ≤ y ∧ y < (nC X : Int) := by obtain ⟨p, q⟩ := hyi; omega
      refine ⟨hyb, fun hf => ?_, fun hf => hnext (fun z => (hF y hyi).mpr (hiff.mp z).2.1 hf) _ _ _⟩
      have hFy := (hF y hyi).mp hf
      have hb := lb_in hR o2 hkm.1
      have hsty := st_in hn hL15 hyi hb
      have hyL : inR (y * L) := by rcases hL15 with rfl | rfl <;> (constructor <;> omega)
      have hb5 : L ≤ 5 := by rcases hL15 with rfl | rfl <;> decide
      obtain ⟨rest, hrest⟩ : ∃ rest, m 34 (y * L + lb L a k) = rest := ⟨_, rfl⟩
      rw [hrest, hkey] at hiff
      have hexy := hexb y hyi
      have hrb : rest = 2147483647 ∨ (0 ≤ rest ∧ rest ≤ 260000000) := by
        rcases hP.1 _ hsty with z | ⟨z1, z2⟩
        · left; rw [← hrest]; exact z
        · right
          have := (rwK_bound hD hR z1).1
          rw [hrest] at this z2
          exact ⟨this, z2⟩
      have esh : kshl (ex y) 11 = 2048 * ex y := by
        have := k_shl_mul (a := ex y) hexy.1 11 (by decide) (by omega)
        rw [show ((11 : Nat) : Int) = 11 from rfl] at this
        rw [this]; omega
      -- behind the cost
      have fin : ∀ sp : Int, (0 ≤ sp ∧ sp ≤ 1000000) → sp + 2048 * ex y = we L st vi be ex a k y → kW (eX X) 1 M_X7_firstMove T 6 [some (vR 30), some (vI x), some (vI a), some (vI key), some (vI k), some (vI y), some (vI rest), x7] [vI sp] m := by
        intro sp hsp hspe
        refine kW_go ok_X7_firstMove [7] 20 ?_
        show (rest = 2147483647 → kW (eX X) 1 M_X7_firstMove T 7 [some (vR 30), some (vI x), some (vI a), some (vI key), some (vI k), some (vI y), some (vI rest), some (vI sp)] [] m) ∧ (¬ rest = 2147483647 → inR (rest + sp) ∧ (0 ≤ y ∧ y < (nC X : Int)) ∧ inR (rest + sp + kshl (m 31 y) 11) ∧ (¬ rest + sp + kshl (m 31 y) 11 = key → kW (eX X) 1 M_X7_firstMove T 7 [some (vR 30), some (vI x), some (vI a), some (vI key), some (vI k), some (vI y), some (vI rest), some (vI sp)] [] m) ∧ (rest + sp + kshl (m 31 y) 11 = key → T (some (vI k)) m))
        rw [hex y, esh]
        refine And.intro (fun h => hnext (fun z => (hiff.mp z).2.2.1 h) _ _ _) (fun h => ⟨by constructor <;> omega, hyb, by constructor <;> omega, And.intro (fun h2 => hnext (fun z => h2 (by have := (hiff.mp z).2.2.2; omega)) _ _ _) (fun h2 => hT _ _ ⟨rfl, k, rfl, hiff.mpr ⟨hne, hFy, h, by omega⟩, hall⟩)⟩)
      refine kW_go ok_X7_firstMove [6] 20 ?_
      show inR (y * m 30 10) ∧ kCall (eX X) 1 M_X7_laneBehind.1 [vR 30, vI a, vI k] m _
      rw [g10]
      refine ⟨hyL, ?_⟩
      refine kCall_mono (c_X7_laneBehind X m L a k g10) (Nat.le_of_ble_eq_true rfl) ?_
      rintro _ m' ⟨rfl, rfl⟩
      have h10' : fld m' 30 10 = L := g10
      show inR (y * fld m' 30 10 + lb L a k) ∧ (0 ≤ y * fld m' 30 10 + lb L a k ∧ y * fld m' 30 10 + lb L a k < ((nC X * 5 : Nat) : Int)) ∧ _
      rw [h10', hrest]
      refine ⟨by constructor <;> omega, by omega, And.intro (fun hk4 => ?_) (fun hk4 => ?_)⟩
      · have hwe := we_step hR hyi hk4 o2
        refine And.intro (fun hL1 => ?_) (fun hL1 => ?_)
        · have hL1 : ¬ L = 1 := by rw [← g10]; exact hL1
          rw [if_neg hL1] at hwe
          refine kCall_mono (c_X7_bendFrom X m' be a k g14) (Nat.le_of_ble_eq_true rfl) ?_
          rintro _ m' ⟨rfl, rfl⟩
          have hbw : 0 ≤ bw be a k ∧ bw be a k ≤ 2048 * 99 := by unfold bw; split <;> omega
          show inR (m' 30 12 + bw be a k) ∧ kW (eX X) 1 M_X7_firstMove T 6 [some (vR 30), some (vI x), some (vI a), some (vI key), some (vI k), some (vI y), some (vI rest), x7] [vI (m' 30 12 + bw be a k)] m'
          rw [g12]
          exact ⟨by constructor <;> omega, fin _ (by omega) (by omega)⟩
        · have hL1 : L = 1 := by rw [← g10]; exact hL1
          rw [if_pos hL1] at hwe
          show inR (m' 30 12 + 0) ∧ kW (eX X) 1 M_X7_firstMove T 6 [some (vR 30), some (vI x), some (vI a), some (vI key), some (vI k), some (vI y), some (vI rest), x7] [vI (m' 30 12 + 0)] m'
          rw [g12]
          exact ⟨by constructor <;> omega, fin _ (by omega) (by omega)⟩
      · have hwe := we_via hR hyi hk4 (a := a)
        show kW (eX X) 1 M_X7_firstMove T 6 [some (vR 30), some (vI x), some (vI a), some (vI key), some (vI k), some (vI y), some (vI rest), x7] [vI (m' 30 13)] m'
        rw [g13]
        exact fin _ (by omega) (by omega)
  refine kW_go ok_X7_firstMove [1] 20 ?_
  show inR (x * m 30 10) ∧ inR (x * m 30 10 + a) ∧ (0 ≤ x * m 30 10 + a ∧ x * m 30 10 + a < ((nC X * 5 : Nat) : Int)) ∧ kW (eX X) 1 M_X7_firstMove T 1 [some (vR 30), some (vI x), some (vI a), some (vI (m 34 (x * m 30 10 + a))), some (vI 0), none, none, none] [] m
  rw [g10, hkey]
  have hb5 : L ≤ 5 := by rcases hL15 with rfl | rfl <;> decide
  exact ⟨hxL, by constructor <;> omega, by omega, loop mv.toNat 0 none none none (by omega) (by omega) (fun j h1 h2 => absurd h2 (by omega))⟩
/-- traces added along a row of moves -/
def adP (w d l N n : Int) : List Int → Int → Mem → Mem
  | [], _, m => m
  | k :: ks, x, m => adP w d l N n ks (nx w d l x k) (jn 19 17 (n * N) n x k (nx w d l x k) m)
theorem adP_ne {w d l N n : Int} {o : Nat} (h1 : o ≠ 19) (h2 : o ≠ 17) : ∀ (ks : List Int) (x : Int) (m : Mem), adP w d l N n ks x m o = m o
  | [], _, _ => rfl
  | k :: ks, x, m => by
    show adP w d l N n ks (nx w d l x k) _ o = m o
    rw [adP_ne h1 h2 ks, jn_ne h1 h2]
set_option maxRecDepth 100000 in
theorem c_X7_walk (X : Xv) (m : Mem) {w d l L mv st vi be : Int} {ex : Int → Int} {F J : Int → Prop} (hB : Bd X w d l m) (hR : RCf w d l L mv st vi be ex m) (hF : ∀ x, inC w d l x → (m 27 x ≠ 0 ↔ F x)) (hJ : ∀ x, inC w d l x → (m 32 x ≠ 0 ↔ J x)) (hJF : ∀ x, J x → F x) (n : Int) (hnn : 0 ≤ n ∧ n < 8) {p : Int} (hP : SP w d l L mv st vi be ex F J ((nC X : Int) * L) (p * L + (L - 1)) m) {C : Int} {q : Nat} (hO : okS w d l L mv st vi be ex F J ((nC X : Int) * L) (p * L + (L - 1)) m p (L - 1) C q) {ks : List Int} (hk : pth w d l mv F J (csF st vi ex) be ks p 4) (hd4 : dO L (L - 1) = 4) : kCall (eX X) 3 M_X7_walk.1 [vR 30, vI n, vI p] m (fun r m' => r = none ∧ m' = adP w d l (nC X) n ks p m) := by
  obtain ⟨hD, hn, hG⟩ := id hB
  have hc4 := okD_cells hD
  have hL15 : L = 1 ∨ L = 5 := hR.2.1.elim (fun z => Or.inl z.1) Or.inr
  have hc := csF_in hR
  have g4 : m 1 4 = (nC X : Int) := by rw [hG.2.2.2.2.1, hn]
  refine kCall_ofT ok_X7_walk rfl (Nat.le_of_ble_eq_true rfl) (fun T hT => ?_)
  obtain ⟨M, hM⟩ : ∃ M, adP w d l (nC X) n ks p m = M := ⟨_, rfl⟩
  rw [hM] at hT
  have loop : ∀ (ks : List Int) (x a C : Int) (r : Nat) (i : Int) (m' : Mem) (x6 : Option AV), 0 ≤ i → i + (ks.length : Int) < (nC X : Int) → (∀ o, o ≠ 17 → o ≠ 19 → m' o = m o) → okS w d l L mv st vi be ex F J ((nC X : Int) * L) (p * L + (L - 1)) m x a C r → pth w d l mv F J (csF st vi ex) be ks x (dO L a) → adP w d l (nC X) n ks x m' = M → kW (eX X) 2 M_X7_walk T 1 [some (vR 30), some (vI n), some (vI p), some (vI x), some (vI a), some (vI i), x6] [] m' := by
    intro ks
    induction ks with
    | nil =>
      intro x a C r i m' x6 h0 hi hf hO hp hM'
      have hxb : 0 ≤ x ∧ x < (nC X : Int) := by obtain ⟨u, v⟩ := hO.1; omega
      have f32 : m' 32 = m 32 := hf 32 (by decide) (by decide)
      refine kW_go ok_X7_walk [] 20 ?_
      refine And.intro (fun _ => hT _ _ ⟨rfl, hM'⟩) (fun _ => ⟨hxb, And.intro (fun _ => hT _ _ ⟨rfl, hM'⟩) (fun hz => ?_)⟩)
      have hz : m' 32 x = 0 := hz
      rw [f32] at hz
      exact absurd hz ((hJ x hO.1).mpr hp)
    | cons k ks ih =>
      intro x a C r i m' x6 h0 hi hf hO hp hM'
      obtain ⟨p1, p2, p3, p4⟩ := hp
      simp only [List.length_cons] at hi
      have hxb : 0 ≤ x ∧ x < (nC X : Int) := by obtain ⟨u, v⟩ := hO.1; omega
      have f1 : m' 1 = m 1 := hf 1 (by decide) (by decide)
      have f2 : m' 2 = m 2 := hf 2 (by decide) (by decide)
      have f32 : m' 32 = m 32 := hf 32 (by decide) (by decide)
      have f34 : m' 34 = m 34 := hf 34 (by decide) (by decide)
      have hB' : Bd X w d l m' := Bd_same hB (fun o u v => hf o (by omega) (by omega))
      have hR' : RCf w d l L mv st vi be ex m' := RCf_same hR (fun _ _ => by rw [hf 30 (by decide) (by decide)]) (hf 31 (by decide) (by decide))
      refine kW_go ok_X7_walk [1] 20 ?_
      refine And.intro (fun h => ?_) (fun _ => ⟨hxb, And.intro (fun h => ?_) (fun _ => ?_)⟩)
      · have h : m' 1 4 ≤ i := h
        rw [f1, g4] at h
        omega
      · have h : ¬ m' 32 x = 0 := h
        rw [f32] at h
        exact absurd ((hJ x hO.1).mp h) p1
      refine kCall_mono (c_X7_firstMove X m' hB' hR' (F := F) (J := J) (fun y hy => by rw [hf 27 (by decide) (by decide)]; exact hF y hy) hJF (wd := p * L + (L - 1)) (by unfold SP at hP ⊢; rw [f34]; exact hP) (x := x) (a := a) (C := C) (n := r) (by unfold okS at hO ⊢; rw [f34]; exact hO) p1) (Nat.le_of_ble_eq_true rfl) ?_
      rintro _ m1 ⟨rfl, k', rfl, hk1, hk2⟩
      have ek : k' = k := by
        rcases Int.lt_trichotomy k' k with z | z | z
        · exact absurd hk1 (p3 k' hk1.1.1 z)
        · exact z
        · exact absurd p2 (hk2 k p2.1.1 z)
      subst ek
      obtain ⟨b1, b2, C1, n1, C2, n2, b3, b4, b5, b6⟩ := id p2
      obtain ⟨o1, o2, o3, o4, o5⟩ := id hO
      obtain ⟨rfl, rfl⟩ := Ls_one o3 b3
      have hk6 : 0 ≤ k' ∧ k' < 6 := by have := hR.2.2.1; omega
      have hyi := (nx_in b2).1
      have hyb : 0 ≤ nx w d l x k' ∧ nx w d l x k' < (nC X : Int) := by obtain ⟨u, v⟩ := hyi; omega
      have hb := lb_in hR o2 hk6.1
      rw [Ls_lane hR] at b4
      have hwi := we_in hR hyi (a := a) (k := k')
      have hwe : we L st vi be ex a k' (nx w d l x k') = 2048 * wt (csF st vi ex) be (dO L a) k' (nx w d l x k') + 1 := rfl
      have hkey := SP_key hn rfl hD hR hP hyi hb b4 (Or.inl (by omega))
      have hO2 : okS w d l L mv st vi be ex F J ((nC X : Int) * L) (p * L + (L - 1)) m (nx w d l x k') (lb L a k') C2 n2 := ⟨hyi, hb, b4, hkey, by omega⟩
      have hp4 : pth w d l mv F J (csF st vi ex) be ks (nx w d l x k') (dO L (lb L a k')) := by
        rcases hR.2.1 with ⟨rfl, hbe⟩ | rfl
        · -- one lane: the direction doesn't matter
          have hLs : ∀ {y dd C n} (dd' : Int), Ls w d l mv F J (csF st vi ex) be y dd C n → Ls w d l mv F J (csF st vi ex) be y dd' C n := by
            intro y dd C n dd' h
            obtain ⟨⟨ks1, e1, r1⟩, h2⟩ := h
            exact ⟨⟨ks1, e1, row_any hbe _ r1⟩, fun ks2 C2 h3 => h2 ks2 C2 (row_any hbe _ h3)⟩
          have hlds : ∀ {y dd k} (dd' : Int), lds w d l mv F J (csF st vi ex) be y dd k → lds w d l mv F J (csF st vi ex) be y dd' k := by
            rintro y dd k dd' ⟨c1, c2, C1, n1, C2, n2, c3, c4, c5, c6⟩
            have e : ∀ q, wt (csF st vi ex) be q k (nx w d l y k) = csF st vi ex k (nx w d l y k) := fun q => by unfold wt; rw [hbe]; split <;> omega
            exact ⟨c1, c2, C1, n1, C2, n2, hLs _ c3, hLs _ c4, by rw [e] at c5 ⊢; exact c5, c6⟩
          have hpth : ∀ {ks : List Int} {y dd : Int} (dd' : Int), pth w d l mv F J (csF st vi ex) be ks y dd → pth w d l mv F J (csF st vi ex) be ks y dd' := by
            intro ks
            induction ks with
            | nil => intro y dd dd' h; exact h
            | cons k ks ihk =>
              intro y dd dd' h
              exact ⟨h.1, hlds _ h.2.1, fun j j1 j2 z => h.2.2.1 j j1 j2 (hlds _ z), ihk _ h.2.2.2⟩
          exact hpth _ p4
        · have e : dr (dO 5 a) k' = dO 5 (lb 5 a k') := by
            have e0 : ∀ z, dO 5 z = z := fun z => if_neg (by decide)
            rw [e0, e0]
            unfold dr lb
            by_cases hk : k' < 4
            · rw [if_pos hk, if_neg (by omega)]
            · rw [if_neg hk, if_pos (by omega)]
          rw [← e]
          exact p4
      refine And.intro (fun _ => ?_) (fun h => absurd h (by omega))
      refine kCall_mono (c_X7_laneBehind X _ L a k' hR'.1.1) (Nat.le_of_ble_eq_true rfl) ?_
      rintro _ m1 ⟨rfl, rfl⟩
      refine kCall_mono (c_X3_addTrace X _ n x k' (nx w d l x k') (by omega) (by rw [f1]; exact g4) hnn hxb hk6 (by rw [f2]; exact (hG.2.2.2.2.2 x o1).2.2.2 _ hk6.1 hk6.2) (fun _ => hyb)) (Nat.le_of_ble_eq_true rfl) ?_
      rintro _ m2 ⟨rfl, hm2⟩
      rw [if_neg b2] at hm2
      refine And.intro (fun _ => ⟨by constructor <;> omega, ?_⟩) (fun h => absurd h b2)
      refine ih (nx w d l x k') (lb L a k') C2 n2 (i + 1) m2 _ (by omega) (by omega) (fun o u v => by rw [hm2, jn_ne v u]; exact hf o u v) hO2 hp4 ?_
      rw [hm2]
      exact hM'
  refine kW_go ok_X7_walk [1] 20 ?_
  show inR (m 30 10 - 1) ∧ kW (eX X) 2 M_X7_walk T 1 [some (vR 30), some (vI n), some (vI p), some (vI p), some (vI (m 30 10 - 1)), some (vI 0), none] [] m
  rw [hR.1.1]
  have hlen : ks.length < nC X := by
    have h3 := hO.2.2.1
    rw [hd4] at h3
    have := (pth_row hk h3).2
    rw [this]
    exact Ls_shortN hc.1 hc.2 hn hO.1 h3
  exact ⟨by rcases hL15 with rfl | rfl <;> (constructor <;> omega), loop ks p (L - 1) C q 0 m none (by omega) (by omega) (fun _ _ _ => rfl) hO (by rw [hd4]; exact hk) hM⟩
