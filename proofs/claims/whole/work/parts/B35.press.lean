/-! PRESS alike: rows where what a cell costs is the same -/
section CC
variable {w d l mv : Int} {F J : Int → Prop} {cs cs' : Int → Int → Int} {be : Int}
theorem row_cc (h : ∀ k y, inC w d l y → cs k y = cs' k y) : ∀ {ks : List Int} {x dir C : Int}, inC w d l x → (row w d l mv F J cs be ks x dir C ↔ row w d l mv F J cs' be ks x dir C)
  | [], _, _, _, _ => Iff.rfl
  | k :: ks, x, dir, C, hx => by
    have hw : nx w d l x k ≠ -1 → wt cs be dir k (nx w d l x k) = wt cs' be dir k (nx w d l x k) := fun f => by unfold wt; rw [h k _ (nx_in f).1]
    constructor
    · rintro ⟨a, b, e, f, g⟩
      refine ⟨a, b, e, f, ?_⟩
      rw [← hw f]
      exact (row_cc h (nx_in f).1).mp g
    · rintro ⟨a, b, e, f, g⟩
      refine ⟨a, b, e, f, ?_⟩
      rw [hw f]
      exact (row_cc h (nx_in f).1).mpr g
theorem Ls_cc (h : ∀ k y, inC w d l y → cs k y = cs' k y) {x dir C : Int} {q : Nat} (hx : inC w d l x) : Ls w d l mv F J cs be x dir C q ↔ Ls w d l mv F J cs' be x dir C q := by
  unfold Ls
  constructor
  · rintro ⟨⟨ks, e, r⟩, hm⟩
    exact ⟨⟨ks, e, (row_cc h hx).mp r⟩, fun ks' C' r' => hm ks' C' ((row_cc h hx).mpr r')⟩
  · rintro ⟨⟨ks, e, r⟩, hm⟩
    exact ⟨⟨ks, e, (row_cc h hx).mpr r⟩, fun ks' C' r' => hm ks' C' ((row_cc h hx).mp r')⟩
theorem lds_cc (h : ∀ k y, inC w d l y → cs k y = cs' k y) {x dir k : Int} (hx : inC w d l x) : lds w d l mv F J cs be x dir k ↔ lds w d l mv F J cs' be x dir k := by
  have hw : nx w d l x k ≠ -1 → wt cs be dir k (nx w d l x k) = wt cs' be dir k (nx w d l x k) := fun f => by unfold wt; rw [h k _ (nx_in f).1]
  unfold lds
  constructor
  · rintro ⟨a, b, C, n, C', n', e, f, g1, g2⟩
    exact ⟨a, b, C, n, C', n', (Ls_cc h hx).mp e, (Ls_cc h (nx_in b).1).mp f, by rw [← hw b]; exact g1, g2⟩
  · rintro ⟨a, b, C, n, C', n', e, f, g1, g2⟩
    exact ⟨a, b, C, n, C', n', (Ls_cc h hx).mpr e, (Ls_cc h (nx_in b).1).mpr f, by rw [hw b]; exact g1, g2⟩
theorem pth_cc (h : ∀ k y, inC w d l y → cs k y = cs' k y) : ∀ {ks : List Int} {x dir : Int}, inC w d l x → (pth w d l mv F J cs be ks x dir ↔ pth w d l mv F J cs' be ks x dir)
  | [], _, _, _ => Iff.rfl
  | k :: ks, x, dir, hx => by
    constructor
    · rintro ⟨a, b, e, f⟩
      exact ⟨a, (lds_cc h hx).mp b, fun j j0 j1 z => e j j0 j1 ((lds_cc h hx).mpr z), (pth_cc h (nx_in b.2.1).1).mp f⟩
    · rintro ⟨a, b, e, f⟩
      exact ⟨a, (lds_cc h hx).mpr b, fun j j0 j1 z => e j j0 j1 ((lds_cc h hx).mp z), (pth_cc h (nx_in b.2.1).1).mpr f⟩
theorem LRw_cc {N n : Int} (h : ∀ k y, inC w d l y → cs k y = cs' k y) : ∀ {j : Nat} {p : Int} {c : Mem} {s : Int} {r : Option Int} {c1 : Mem}, (∀ q, (p ≤ q ∧ q < p + j) → inC w d l (c 14 (n * 4 + q))) → LRw w d l N n mv F cs be j p c s r c1 → LRw w d l N n mv F cs' be j p c s r c1
  | 0, _, _, _, _, _, _, hL => hL
  | j + 1, p, c, s, r, c1, hq, hL => by
    have hp := hq p (by omega)
    rcases hL with ⟨a, b⟩ | ⟨a, b, e, f⟩ | ⟨a, C, q, ks, b, e, f⟩
    · exact Or.inl ⟨a, LRw_cc h (fun q hq2 => hq q (by omega)) b⟩
    · exact Or.inr (Or.inl ⟨a, fun ks C z => b ks C ((row_cc h hp).mpr z), e, f⟩)
    · refine Or.inr (Or.inr ⟨a, C, q, ks, (Ls_cc h hp).mp b, (pth_cc h hp).mp e, LRw_cc h (fun q hq2 => ?_) f⟩)
      rw [adP_ne (by decide) (by decide)]
      exact hq q (by omega)
end CC
/-! traces near -/
def hasT (m : Mem) (n c : Int) : Prop := kand (m 72 (324 * n + c)) 2 ≠ 0
theorem c_X12_hasTrace (X : Xv) (m : Mem) (n c : Int) (hn : 0 ≤ n ∧ n < 8) (hc : 0 ≤ c ∧ c < 324) : kCall (eX X) 1 M_X12_hasTrace.1 [vR 54, vI n, vI c] m (bP (hasT m n c) m) := by
  refine kCall_ofT ok_X12_hasTrace rfl (Nat.le_of_ble_eq_true rfl) (fun T hT => ?_)
  have hb : 0 ≤ 324 * n + c ∧ 324 * n + c < ((2592 : Nat) : Int) := by omega
  refine kW_go ok_X12_hasTrace [] 20 ?_
  exact ⟨by constructor <;> omega, by constructor <;> omega, hb, And.intro (fun h => hT _ _ ⟨Or.inl rfl, Or.inr ⟨fun z => z h, rfl⟩, rfl⟩) (fun h => hT _ _ ⟨Or.inr rfl, Or.inl ⟨h, rfl⟩, rfl⟩)⟩
def nearT (w d : Int) (m : Mem) (o c by' : Int) : Prop := ∃ x y : Int, ((0 ≤ x ∧ x < w) ∧ (c % 9 - by' ≤ x ∧ x ≤ c % 9 + by')) ∧ ((0 ≤ y ∧ y < d) ∧ (c / 9 % 9 - by' ≤ y ∧ y ≤ c / 9 % 9 + by')) ∧ hasT m o (81 * (c / 81) + 9 * y + x)
theorem c_X12_isTraceNear (X : Xv) (m : Mem) {w d l : Int} (hd : dimM m w d l) (o c f : Int) (ho : 0 ≤ o ∧ o < 8) (hc : inRf w d l c) (hf : 0 ≤ f ∧ f ≤ 2) : kCall (eX X) 2 M_X12_isTraceNear.1 [vR 54, vI o, vI c, vI f] m (bP (nearT w d m o c f) m) := by
  have g0 : m 54 1 = w := hd.1
  have g1 : m 54 2 = d := hd.2.1
  have g0f : fld m 54 1 = w := hd.1
  have g1f : fld m 54 2 = d := hd.2.1
  obtain ⟨⟨w1, w2⟩, ⟨d1, d2⟩, l1, l2⟩ := id hd.2.2.2
  obtain ⟨⟨c1, c2⟩, c3, c4, c5⟩ := id hc
  refine kCall_ofT ok_X12_isTraceNear rfl (Nat.le_of_ble_eq_true rfl) (fun T hT => ?_)
  have hy : nearT w d m o c f → T (some (vI 1)) m := fun h => hT _ _ ⟨Or.inr rfl, Or.inl ⟨h, rfl⟩, rfl⟩
  have inner : ∀ (y : Int), (0 ≤ y ∧ y < d) → (c / 9 % 9 - f ≤ y ∧ y ≤ c / 9 % 9 + f) → ((∀ x : Int, (0 ≤ x ∧ x < w) → (c % 9 - f ≤ x ∧ x ≤ c % 9 + f) → ¬ hasT m o (81 * (c / 81) + 9 * y + x)) → ∀ x5, kW (eX X) 1 M_X12_isTraceNear T 4 [some (vR 54), some (vI o), some (vI c), some (vI f), some (vI y), x5] [] m) →
      ∀ (k : Nat) (x : Int), x + k = 12 → max 0 (c % 9 - f) ≤ x → (∀ x' : Int, (0 ≤ x' ∧ x' < w) → (c % 9 - f ≤ x' ∧ x' < x) → ¬ hasT m o (81 * (c / 81) + 9 * y + x')) → kW (eX X) 1 M_X12_isTraceNear T 2 [some (vR 54), some (vI o), some (vI c), some (vI f), some (vI y), some (vI x)] [] m := by
    intro y hy1 hy2 hout k
    induction k with
    | zero =>
      intro x hk hx hall
      refine kW_go ok_X12_isTraceNear [2, 4] 20 ?_
      show inR (m 54 1 - 1) ∧ kCall (eX X) 1 M_X12_xOf.1 [vI c] m _
      rw [g0]
      refine ⟨by constructor <;> omega, ?_⟩
      refine kCall_mono (c_X12_xOf _ m c c1) (Nat.le_of_ble_eq_true rfl) ?_
      rintro _ m ⟨rfl, rfl⟩
      exact ⟨by constructor <;> omega, fun _ => hout (fun x' h1 h2 => hall x' h1 (by omega)) _, fun h => absurd h (by omega)⟩
    | succ k ih =>
      intro x hk hx hall
      refine kW_go ok_X12_isTraceNear [2, 4] 20 ?_
      show inR (m 54 1 - 1) ∧ kCall (eX X) 1 M_X12_xOf.1 [vI c] m _
      rw [g0]
      refine ⟨by constructor <;> omega, ?_⟩
      refine kCall_mono (c_X12_xOf _ m c c1) (Nat.le_of_ble_eq_true rfl) ?_
      rintro _ m ⟨rfl, rfl⟩
      refine ⟨by constructor <;> omega, fun h => hout (fun x' h1 h2 => hall x' h1 (by omega)) _, fun h => ?_⟩
      refine kCall_mono (c_X12_layerOf _ m c c1 (by omega)) (Nat.le_of_ble_eq_true rfl) ?_
      rintro _ m ⟨rfl, rfl⟩
      refine kCall_mono (c_X12_cell _ m x y (c / 81) (by omega) (by omega) (by omega)) (Nat.le_of_ble_eq_true rfl) ?_
      rintro _ m ⟨rfl, rfl⟩
      refine kCall_mono (c_X12_hasTrace X m o _ ho (by omega)) (Nat.le_of_ble_eq_true rfl) ?_
      rintro _ m ⟨⟨hp, rfl⟩ | ⟨hp, rfl⟩, rfl⟩
      · exact And.intro (fun h => absurd h (by decide)) (fun _ => hy ⟨x, y, by omega, by omega, hp⟩)
      · refine And.intro (fun _ => ⟨by constructor <;> omega, ih (x + 1) (by omega) (by omega) (fun x' h1 h2 => ?_)⟩) (fun h => absurd rfl h)
        by_cases he : x' = x
        · rw [he]; exact hp
        · exact hall x' h1 (by omega)
  have outer : ∀ (k : Nat) (y : Int) (x5 : Option AV), y + k = 12 → max 0 (c / 9 % 9 - f) ≤ y → (∀ x y' : Int, ((0 ≤ x ∧ x < w) ∧ (c % 9 - f ≤ x ∧ x ≤ c % 9 + f)) → ((0 ≤ y' ∧ y' < d) ∧ (c / 9 % 9 - f ≤ y' ∧ y' < y)) → ¬ hasT m o (81 * (c / 81) + 9 * y' + x)) → kW (eX X) 1 M_X12_isTraceNear T 1 [some (vR 54), some (vI o), some (vI c), some (vI f), some (vI y), x5] [] m := by
    intro k
    induction k with
    | zero =>
      intro y x5 hk hyy hall
      refine kW_go ok_X12_isTraceNear [1, 2, 4] 20 ?_
      show inR (m 54 2 - 1) ∧ kCall (eX X) 1 M_X12_yOf.1 [vI c] m _
      rw [g1]
      refine ⟨by constructor <;> omega, ?_⟩
      refine kCall_mono (c_X12_yOf _ m c c1 (by omega)) (Nat.le_of_ble_eq_true rfl) ?_
      rintro _ m ⟨rfl, rfl⟩
      refine ⟨by constructor <;> omega, fun _ => hT _ _ ⟨Or.inl rfl, Or.inr ⟨?_, rfl⟩, rfl⟩, fun h => absurd h (by omega)⟩
      rintro ⟨x, y', h1, h2, h3⟩
      exact hall x y' h1 (by omega) h3
    | succ k ih =>
      intro y x5 hk hyy hall
      refine kW_go ok_X12_isTraceNear [1, 2, 4] 20 ?_
      show inR (m 54 2 - 1) ∧ kCall (eX X) 1 M_X12_yOf.1 [vI c] m _
      rw [g1]
      refine ⟨by constructor <;> omega, ?_⟩
      refine kCall_mono (c_X12_yOf _ m c c1 (by omega)) (Nat.le_of_ble_eq_true rfl) ?_
      rintro _ m ⟨rfl, rfl⟩
      refine ⟨by constructor <;> omega, fun h => hT _ _ ⟨Or.inl rfl, Or.inr ⟨?_, rfl⟩, rfl⟩, fun h => ?_⟩
      · rintro ⟨x, y', h1, h2, h3⟩
        exact hall x y' h1 (by omega) h3
      · refine kCall_mono (c_X12_xOf _ m c c1) (Nat.le_of_ble_eq_true rfl) ?_
        rintro _ m ⟨rfl, rfl⟩
        refine ⟨by constructor <;> omega, ?_⟩
        refine inner y (by omega) (by omega) (fun hno y5 => ?_) (12 - max 0 (c % 9 - f)).toNat (max 0 (c % 9 - f)) (by omega) (by omega) (fun x' h1 h2 => by omega)
        refine kW_go ok_X12_isTraceNear [1, 2] 20 ?_
        refine ⟨by constructor <;> omega, ih (y + 1) _ (by omega) (by omega) (fun x y' h1 h2 => ?_)⟩
        by_cases he : y' = y
        · rw [he]; exact hno x h1.1 h1.2
        · exact hall x y' h1 (by omega)
  refine kW_go ok_X12_isTraceNear [1, 2, 4] 20 ?_
  refine kCall_mono (c_X12_yOf _ m c c1 (by omega)) (Nat.le_of_ble_eq_true rfl) ?_
  rintro _ m ⟨rfl, rfl⟩
  exact ⟨by constructor <;> omega, outer (12 - max 0 (c / 9 % 9 - f)).toNat (max 0 (c / 9 % 9 - f)) none (by omega) (by omega) (fun x y' h1 h2 => by omega)⟩
theorem hasT_17 {w d l : Int} {c r : Mem} {n x : Int} (hR : RRn w d l c r n) (hx : inC w d l x) : hasT r n (cR w d x) ↔ bt (c 17 x) n.toNat = true := by
  obtain ⟨-, -, -, -, h5, -⟩ := hR
  obtain ⟨v1, -, v3⟩ := h5 x hx
  rw [← v3]
  unfold hasT
  have h2 := and2_v4 v1
  rw [v4_ne h2.1, h2.2.1, h2.2.2]
  simp
/-- another net's traces too near, as its class has it -/
def trN (w d l : Int) (c : Mem) (n x o : Int) : Prop := o ≠ n ∧ ∃ y : Int, inC w d l y ∧ bt (c 17 y) o.toNat = true ∧ box w d l y (aptC c n o) x
noncomputable def nrs (w d l : Int) (c : Mem) (n x : Int) : Int := sumN (fun o => iv (trN w d l c n x o) 1) (c 9 14).toNat
theorem nearT_box {w d l : Int} {c r : Mem} (hD : okD w d l) {o x f : Int} (hR : RRn w d l c r o) (hx : inC w d l x) : nearT w d r o (cR w d x) f ↔ ∃ y : Int, inC w d l y ∧ bt (c 17 y) o.toNat = true ∧ box w d l y f x := by
  have hg := cR_geo hD hx
  have hz := gZ_in hD hx
  unfold nearT
  rw [hg.2.1, hg.2.2.1, hg.2.2.2]
  constructor
  · rintro ⟨a, b, h1, h2, h3⟩
    have hi := ix_in (w := w) (d := d) (l := l) h1.1 h2.1 hz
    rw [← cR_ix (l := l) h1.1 h2.1, hasT_17 hR hi] at h3
    refine ⟨_, hi, h3, hx, (ix_Z h1.1 h2.1).symm, ?_, ?_⟩
    · rw [ix_X h1.1]; omega
    · rw [ix_Y h1.1 h2.1]; omega
  · rintro ⟨y, h1, h2, -, h3, h4, h5⟩
    have q1 := gX_in (c := y) hD
    have q2 := gY_in (c := y) hD
    refine ⟨gX w y, gY w d y, ⟨q1, by omega⟩, ⟨q2, by omega⟩, ?_⟩
    have e : 81 * gZ w d x + 9 * gY w d y + gX w y = cR w d y := by unfold cR; rw [h3]
    rw [e, hasT_17 hR h1]
    exact h2
theorem apt_RC {w d l : Int} {c r : Mem} (hW : WFs c) (hR : RRs w d l c r) {n o : Int} (hn : 0 ≤ n ∧ n < c 9 14) (ho : 0 ≤ o ∧ o < c 9 14) : aptR r n o = aptC c n o ∧ (0 ≤ aptC c n o ∧ aptC c n o ≤ 2) ∧ (0 ≤ r 61 n ∧ r 61 n < 7) ∧ 0 ≤ r 61 o ∧ r 61 o < 7 := by
  have a1 := hW.2.2.2.1 n hn
  have a2 := hW.2.2.2.1 o ho
  have b1 := (hW.2.2.1 _ a1).2.2.2.1
  have b2 := (hW.2.2.1 _ a2).2.2.2.1
  have e1 := hR.2.2.2.1.2 n hn
  have e2 := hR.2.2.2.1.2 o ho
  have s1 := (hR.2.2.1.2 _ a1).2.2.2.1
  have s2 := (hR.2.2.1.2 _ a2).2.2.2.1
  have h13 := hW.1
  unfold aptR aptC
  rw [e1, e2, s1, s2]
  exact ⟨rfl, by omega, by omega, by omega⟩
set_option maxRecDepth 100000 in
theorem c_X12_tracesNear (X : Xv) (c m : Mem) {w d l : Int} (hD : okD w d l) (hM : WM w d l c) (hR : RR0 w d l c m) (n x : Int) (hn : 0 ≤ n ∧ n < c 9 14) (hx : inC w d l x) : kCall (eX X) 3 M_X12_tracesNear.1 [vR 54, vI n, vI (cR w d x)] m (cP (nrs w d l c n x) m) := by
  have h8 := hM.1.2.1
  have h26 : m 54 26 = c 9 14 := hR.1.2.2.2.1.1
  have hxr := (cR_in hD hx).1
  refine kCall_ofT ok_X12_tracesNear rfl (Nat.le_of_ble_eq_true rfl) (fun T hT => ?_)
  obtain ⟨A, hA⟩ : ∃ A : Int → Int, ∀ o, A o = iv (trN w d l c n x o) 1 := ⟨_, fun _ => rfl⟩
  have hsum : sumN A (c 9 14).toNat = nrs w d l c n x := sumN_cong (fun o _ _ => hA o)
  have bA : ∀ k : Nat, 0 ≤ sumN A k ∧ sumN A k ≤ 1 * k := fun k => sumN_01 (fun i => by rw [hA]; exact iv_in ⟨by decide, by decide⟩) k
  have loop : ∀ (k : Nat) (o : Int), o + k = c 9 14 → 0 ≤ o → kW (eX X) 2 M_X12_tracesNear T 1 [some (vR 54), some (vI n), some (vI (cR w d x)), some (vI (sumN A o.toNat)), some (vI o)] [] m := by
    intro k
    induction k with
    | zero =>
      intro o hk h0
      refine kW_go ok_X12_tracesNear [1] 20 ?_
      refine And.intro (fun _ => hT _ _ ⟨?_, rfl⟩) (fun h => ?_)
      · rw [show o = c 9 14 by omega, hsum]
      · have h : o < m 54 26 := h
        omega
    | succ k ih =>
      intro o hk h0
      have hb := bA o.toNat
      have hap := apt_RC hM.1 hR.1 hn (o := o) (by omega)
      have hnext : ∀ v : Int, v = A o → inR (sumN A o.toNat + v) ∧ inR (o + 1) ∧ kW (eX X) 2 M_X12_tracesNear T 1 [some (vR 54), some (vI n), some (vI (cR w d x)), some (vI (sumN A o.toNat + v)), some (vI (o + 1))] [] m := by
        intro v hv
        have hvb : 0 ≤ v ∧ v ≤ 1 := by rw [hv, hA]; exact iv_in ⟨by decide, by decide⟩
        have := ih (o + 1) (by omega) (by omega)
        rw [sumN_s A h0, ← hv] at this
        exact ⟨by constructor <;> omega, by constructor <;> omega, this⟩
      refine kW_go ok_X12_tracesNear [1] 20 ?_
      refine And.intro (fun h => ?_) (fun _ => And.intro (fun h1 => hnext 0 ?_) (fun h1 => ?_))
      · have h : m 54 26 ≤ o := h
        omega
      · have h1 : o = n := h1
        rw [hA, iv_f (fun z => z.1 h1)]
      · have h1 : ¬ o = n := h1
        refine kCall_mono (c_X12_apart X m n o (by omega) (by omega) hap.2.2.1 hap.2.2.2) (Nat.le_of_ble_eq_true rfl) ?_
        rintro _ m2 ⟨rfl, rfl⟩
        rw [hap.1]
        refine kCall_mono (c_X12_isTraceNear X m2 hR.1.1 o _ _ (by omega) hxr hap.2.1) (Nat.le_of_ble_eq_true rfl) ?_
        rintro _ m3 ⟨hh, rfl⟩
        rw [nearT_box hD (hR.2 o (by omega)) hx] at hh
        rcases hh with ⟨hh, rfl⟩ | ⟨hh, rfl⟩
        · exact And.intro (fun h => absurd h (by decide)) (fun _ => hnext 1 (by rw [hA, iv_t ⟨h1, hh⟩]))
        · exact And.intro (fun _ => hnext 0 (by rw [hA, iv_f (fun z => hh z.2)])) (fun h => absurd rfl h)
  refine kW_go ok_X12_tracesNear [1] 20 ?_
  exact loop (c 9 14).toNat 0 (by omega) (by omega)
/-- what a cell costs beside what its class asks -/
noncomputable def exA (w d l : Int) (c : Mem) (pr : Int) (ht : Int → Int) (n x : Int) : Int := pr * nrs w d l c n x + ht x
theorem nrs_in {w d l : Int} {c : Mem} (h8 : 0 ≤ c 9 14 ∧ c 9 14 ≤ 8) {n : Int} (hn : 0 ≤ n ∧ n < c 9 14) (x : Int) : 0 ≤ nrs w d l c n x ∧ nrs w d l c n x ≤ 7 := by
  have key : ∀ k : Nat, 0 ≤ sumN (fun o => iv (trN w d l c n x o) 1) k ∧ sumN (fun o => iv (trN w d l c n x o) 1) k ≤ (k : Int) - (if n < k then 1 else 0) := by
    intro k
    induction k with
    | zero => exact ⟨Int.le_refl _, by show (0 : Int) ≤ _; rw [if_neg (by omega)]; decide⟩
    | succ k ih =>
      have hi : 0 ≤ iv (trN w d l c n x (k : Int)) 1 ∧ iv (trN w d l c n x (k : Int)) 1 ≤ 1 := iv_in ⟨by decide, by decide⟩
      show 0 ≤ sumN _ k + iv (trN w d l c n x (k : Int)) 1 ∧ sumN _ k + iv (trN w d l c n x (k : Int)) 1 ≤ _
      by_cases e : (k : Int) = n
      · rw [iv_f (fun z => z.1 e)]
        rw [if_neg (by omega)] at ih
        rw [if_pos (by omega)]
        omega
      · by_cases h2 : n < (k : Int)
        · rw [if_pos h2] at ih
          rw [if_pos (by omega)]
          omega
        · rw [if_neg h2] at ih
          rw [if_neg (by omega)]
          omega
  have := key (c 9 14).toNat
  rw [if_pos (by omega)] at this
  unfold nrs
  omega
theorem exA_in {w d l : Int} {c : Mem} (h8 : 0 ≤ c 9 14 ∧ c 9 14 ≤ 8) {n pr : Int} {ht : Int → Int} (hpr : 0 ≤ pr ∧ pr ≤ 20) (hn : 0 ≤ n ∧ n < c 9 14) {x : Int} (hh : 0 ≤ ht x ∧ ht x ≤ 20) : 0 ≤ exA w d l c pr ht n x ∧ exA w d l c pr ht n x ≤ 160 ∧ 0 ≤ pr * nrs w d l c n x ∧ pr * nrs w d l c n x ≤ 140 := by
  have h1 := nrs_in (w := w) (d := d) (l := l) h8 hn x
  have h2 := Int.mul_nonneg hpr.1 h1.1
  have h3 : pr * nrs w d l c n x ≤ 20 * 7 := Int.mul_le_mul hpr.2 h1.2 h1.1 (by decide)
  unfold exA
  omega
/-- laying a net under pressing -/
def tuS (w d l pr : Int) (ht : Int → Int) (c : Mem) (n : Int) (res : Option Int) (c2 : Mem) : Prop := LRw w d l (w * d * l) n 6 (frT w d l (fun o => o = n) (rmT (w * d * l) n c) n 0) (cs0 c (exA w d l c pr ht n) n) (be0 c n) (c 13 n - 1).toNat 1 (rmT (w * d * l) n c) 0 res c2
def tuA (w d l pr : Int) (ht : Int → Int) : Nat → Int → Mem → Bool → Mem → Prop
  | 0, _, c, b, c' => b = true ∧ c' = c
  | j + 1, n, c, b, c' => (c 13 n = 0 ∧ tuA w d l pr ht j (n + 1) c b c') ∨ (1 ≤ c 13 n ∧ ∃ res c2, tuS w d l pr ht c n res c2 ∧ ((res = none ∧ b = false) ∨ (res ≠ none ∧ tuA w d l pr ht j (n + 1) c2 b c')))
theorem tuA_one {w d l pr : Int} {ht : Int → Int} : ∀ {j : Nat} {n : Int} {c : Mem} {b1 b2 : Bool} {c1 c2 : Mem}, tuA w d l pr ht j n c b1 c1 → tuA w d l pr ht j n c b2 c2 → b1 = b2 ∧ (b1 = true → c1 = c2)
  | 0, _, _, _, _, _, _, h, h' => ⟨h.1.trans h'.1.symm, fun _ => h.2.trans h'.2.symm⟩
  | j + 1, n, c, b1, b2, c1, c2, h, h' => by
    rcases h with ⟨a1, a2⟩ | ⟨a1, r1, x1, a2, a3⟩ <;> rcases h' with ⟨b1, b2⟩ | ⟨b1, r2, x2, b2, b3⟩
    · exact tuA_one a2 b2
    · omega
    · omega
    · obtain ⟨rfl, rfl⟩ := LRw_one a2 b2
      rcases a3 with ⟨p, q⟩ | ⟨p, q⟩ <;> rcases b3 with ⟨p', q'⟩ | ⟨p', q'⟩
      · exact ⟨q.trans q'.symm, fun z => by rw [q] at z; cases z⟩
      · exact absurd p p'
      · exact absurd p' p
      · exact tuA_one q q'
theorem F_press {w d l n t : Int} {c r : Mem} (h9 : c 9 14 ≤ 8) (hn : 0 ≤ n ∧ n < 8) (h28 : r 54 28 = 0) (h30 : r 54 30 ≠ 0) (h29 : r 54 29 = n) : frT w d l (cntT r) c n t = frT w d l (fun o => o = n) c n t ∧ cntT r n := by
  have h28' : ∀ o : Int, (0 ≤ o ∧ o < 8) → kand (kshr (r 54 28) o) 1 = 0 := fun o ho => by rw [h28, k_ask0 (by omega) (by omega), bt_zero]
  have hc : ∀ o : Int, (0 ≤ o ∧ o < 8) → (cntT r o ↔ o = n) := by
    intro o ho
    unfold cntT
    rw [h29]
    exact ⟨fun z => z.2.resolve_left h30, fun z => ⟨h28' o ho, Or.inr z⟩⟩
  refine ⟨?_, (hc n hn).mpr rfl⟩
  funext x
  exact propext (frT_cong (hc n hn) (fun o ho _ => hc o (by omega)))
