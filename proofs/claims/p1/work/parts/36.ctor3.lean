/-! the constructor of Grid -/
def gridC (m : Mem) (w d l : Int) : Prop := m 1 0 = w ∧ m 1 1 = d ∧ m 1 2 = l ∧ m 1 3 = w * d ∧ m 1 4 = w * d * l ∧ ∀ c, inC w d l c → m 3 c = gX w c ∧ m 4 c = gY w d c ∧ m 5 c = gZ w d c ∧ ∀ k, 0 ≤ k → k < 6 → m 2 (c * 6 + k) = nx w d l c k
theorem nx_ix {w d l x y z : Int} (hx : 0 ≤ x ∧ x < w) (hy : 0 ≤ y ∧ y < d) (k : Int) : nx w d l (ix w d x y z) k = if (0 ≤ x + dX k ∧ x + dX k < w) ∧ (0 ≤ y + dY k ∧ y + dY k < d) ∧ (0 ≤ z + dZ k ∧ z + dZ k < l) then ix w d (x + dX k) (y + dY k) (z + dZ k) else -1 := by
  unfold nx
  rw [ix_X hx, ix_Y hx hy, ix_Z hx hy]
theorem nx_no {w d l x y z k : Int} (hx : 0 ≤ x ∧ x < w) (hy : 0 ≤ y ∧ y < d) (h : ¬ ((0 ≤ x + dX k ∧ x + dX k < w) ∧ (0 ≤ y + dY k ∧ y + dY k < d) ∧ (0 ≤ z + dZ k ∧ z + dZ k < l))) : -1 = nx w d l (ix w d x y z) k := by rw [nx_ix hx hy, if_neg h]
theorem nx_yes {w d l x y z k : Int} (hx : 0 ≤ x ∧ x < w) (hy : 0 ≤ y ∧ y < d) (h : (0 ≤ x + dX k ∧ x + dX k < w) ∧ (0 ≤ y + dY k ∧ y + dY k < d) ∧ (0 ≤ z + dZ k ∧ z + dZ k < l)) : ix w d x y z + dX k + dY k * w + dZ k * (w * d) = nx w d l (ix w d x y z) k := by
  rw [nx_ix hx hy, if_pos h]
  unfold ix
  rw [Int.add_mul, Int.add_mul]
  omega
theorem dXs : dX 0 = 0 ∧ dX 1 = 1 ∧ dX 2 = 0 ∧ dX 3 = -1 ∧ dX 4 = 0 ∧ dX 5 = 0 := by decide
theorem dYs : dY 0 = -1 ∧ dY 1 = 0 ∧ dY 2 = 1 ∧ dY 3 = 0 ∧ dY 4 = 0 ∧ dY 5 = 0 := by decide
theorem dZs : dZ 0 = 0 ∧ dZ 1 = 0 ∧ dZ 2 = 0 ∧ dZ 3 = 0 ∧ dZ 4 = 1 ∧ dZ 5 = -1 := by decide
theorem ix_xw {w d y z : Int} : ix w d w y z = ix w d 0 (y + 1) z := by unfold ix; rw [Int.add_mul]; omega
theorem ix_yd {w d z : Int} : ix w d 0 d z = ix w d 0 0 (z + 1) := by
  unfold ix
  have h := Int.mul_comm d w
  rw [Int.add_mul z 1]; omega
theorem ix_x1 {w d x y z : Int} : ix w d x y z + 1 = ix w d (x + 1) y z := by unfold ix; omega
def gP (m0 : Mem) (w d l cell : Int) (m : Mem) : Prop := (∀ o, o ≠ 2 → o ≠ 3 → o ≠ 4 → o ≠ 5 → m o = m0 o) ∧ ∀ c, 0 ≤ c → c < cell → m 3 c = gX w c ∧ m 4 c = gY w d c ∧ m 5 c = gZ w d c ∧ ∀ k, 0 ≤ k → k < 6 → m 2 (c * 6 + k) = nx w d l c k
def gQ (m0 : Mem) (w d l cell j : Int) (m : Mem) : Prop := gP m0 w d l cell m ∧ m 3 cell = gX w cell ∧ m 4 cell = gY w d cell ∧ m 5 cell = gZ w d cell ∧ ∀ k, 0 ≤ k → k < j → m 2 (cell * 6 + k) = nx w d l cell k
theorem gQ_step {m0 m : Mem} {w d l cell j v : Int} (hj : 0 ≤ j ∧ j < 6) (h : gQ m0 w d l cell j m) (hv : v = nx w d l cell j) : gQ m0 w d l cell (j + 1) (mset m 2 (cell * 6 + j) v) := by
  obtain ⟨⟨h1, h2⟩, h3, h4, h5, h6⟩ := h
  refine ⟨⟨fun o o2 o3 o4 o5 => by rw [k_mset_ne o2]; exact h1 o o2 o3 o4 o5, fun c c0 c1 => ?_⟩, ?_, ?_, ?_, fun k k0 k1 => ?_⟩
  · obtain ⟨a1, a2, a3, a4⟩ := h2 c c0 c1
    refine ⟨by rw [k_mset_ne (by decide)]; exact a1, by rw [k_mset_ne (by decide)]; exact a2, by rw [k_mset_ne (by decide)]; exact a3, fun k k0 k1 => ?_⟩
    rw [k_mset_at, if_neg (by omega)]
    exact a4 k k0 k1
  · rw [k_mset_ne (by decide)]; exact h3
  · rw [k_mset_ne (by decide)]; exact h4
  · rw [k_mset_ne (by decide)]; exact h5
  · rw [k_mset_at]
    by_cases hk : k = j
    · rw [if_pos (by omega), hv, hk]
    · rw [if_neg (by omega)]
      exact h6 k k0 (by omega)
theorem gQ_6 {m0 m : Mem} {w d l cell : Int} (h : gQ m0 w d l cell 6 m) : gP m0 w d l (cell + 1) m := by
  obtain ⟨⟨h1, h2⟩, h3, h4, h5, h6⟩ := h
  refine ⟨h1, fun c c0 c1 => ?_⟩
  by_cases hc : c = cell
  · subst hc
    exact ⟨h3, h4, h5, h6⟩
  · exact h2 c c0 (by omega)
theorem gP_0 {m0 m : Mem} {w d l x y z : Int} (hx : 0 ≤ x ∧ x < w) (hy : 0 ≤ y ∧ y < d) (h : gP m0 w d l (ix w d x y z) m) : gQ m0 w d l (ix w d x y z) 0 (mset (mset (mset m 3 (ix w d x y z) x) 4 (ix w d x y z) y) 5 (ix w d x y z) z) := by
  obtain ⟨h1, h2⟩ := h
  refine ⟨⟨fun o o2 o3 o4 o5 => by rw [k_mset_ne o5, k_mset_ne o4, k_mset_ne o3]; exact h1 o o2 o3 o4 o5, fun c c0 c1 => ?_⟩, ?_, ?_, ?_, fun k k0 k1 => absurd k1 (by omega)⟩
  · obtain ⟨a1, a2, a3, a4⟩ := h2 c c0 c1
    have hc : c ≠ ix w d x y z := by omega
    refine ⟨?_, ?_, ?_, fun k k0 k1 => ?_⟩
    · rw [k_mset_ne (by decide), k_mset_ne (by decide), k_mset_at, if_neg hc]; exact a1
    · rw [k_mset_ne (by decide), k_mset_at, if_neg hc, k_mset_ne (by decide)]; exact a2
    · rw [k_mset_at, if_neg hc, k_mset_ne (by decide), k_mset_ne (by decide)]; exact a3
    · rw [k_mset_ne (by decide), k_mset_ne (by decide), k_mset_ne (by decide)]; exact a4 k k0 k1
  · rw [k_mset_ne (by decide), k_mset_ne (by decide), k_mset_at, if_pos rfl, ix_X hx]
  · rw [k_mset_ne (by decide), k_mset_at, if_pos rfl, ix_Y hx hy]
  · rw [k_mset_at, if_pos rfl, ix_Z hx hy]
set_option maxRecDepth 100000 in
theorem n_X2_init (B : Bs) (n ly : Nat) (r0 : List (Option Nat)) (m : Mem) (w d l : Int) (hD : okD w d l) (hc : w * d * l = (n : Int)) : kNew B 1 M_X2_init.1 [vR 1, vI w, vI d, vI l] (gS n ly 2 r0 1 2 (k_nulls 2)) (gS n ly 6 r0 1 2 [none, none, none, none, none, some 2, some 3, some 4, some 5]) m 4 2916 (fun m' => gridC m' w d l ∧ ∀ o, o ≠ 1 → o ≠ 2 → o ≠ 3 → o ≠ 4 → o ≠ 5 → m' o = m o) := by
  have hcc := okD_cells hD
  have hff := okD_floor hD
  obtain ⟨⟨hw1, hw2⟩, ⟨hd1, hd2⟩, hl1, hl2⟩ := id hD
  have hn : n ≤ 324 := by omega
  have hc6 : w * d * l * 6 = ((n * 6 : Nat) : Int) := by rw [hc]; omega
  have hi6 : inR (w * d * l * 6) := by rw [hc6]; constructor <;> omega
  have hiwd : inR (w * d) := by constructor <;> omega
  have hic : inR (w * d * l) := by constructor <;> omega
  refine c_start ok_X2_init rfl rfl rfl (Nat.le_of_ble_eq_true rfl) (fun p e s mm args below meth c Qf ad0 A hX hin hend => ?_)
  refine c_seg hX ok_X2_init (Nat.le_of_ble_eq_true rfl) (Nat.le_of_ble_eq_true rfl) 0 ⟨_, rfl, rfl, rfl, rfl, rfl⟩ ?_
  refine c_obj hX (idx := 3) (pos := 184) (by decide +kernel) (by decide +kernel) rfl rfl rfl ?_
  refine c_seg hX ok_X2_init (Nat.le_of_ble_eq_true rfl) (Nat.le_of_ble_eq_true rfl) 2 ⟨_, rfl, rfl, rfl, rfl, rfl⟩ ?_
  refine c_putI hX hin (idx := 9) (ci := 2) (k := 0) (o := 1) (rs := [none, none, none, none, none, none, none, none, none]) (by decide +kernel) (by decide +kernel) rfl rfl rfl ?_
  refine c_seg hX ok_X2_init (Nat.le_of_ble_eq_true rfl) (Nat.le_of_ble_eq_true rfl) 4 ⟨_, rfl, rfl, rfl, rfl, rfl⟩ ?_
  refine c_putI hX hin (idx := 15) (ci := 2) (k := 1) (o := 1) (rs := [none, none, none, none, none, none, none, none, none]) (by decide +kernel) (by decide +kernel) rfl rfl rfl ?_
  refine c_seg hX ok_X2_init (Nat.le_of_ble_eq_true rfl) (Nat.le_of_ble_eq_true rfl) 6 ⟨_, rfl, rfl, rfl, rfl, rfl⟩ ?_
  refine c_putI hX hin (idx := 18) (ci := 2) (k := 2) (o := 1) (rs := [none, none, none, none, none, none, none, none, none]) (by decide +kernel) (by decide +kernel) rfl rfl rfl ?_
  refine c_seg hX ok_X2_init (Nat.le_of_ble_eq_true rfl) (Nat.le_of_ble_eq_true rfl) 8 ⟨_, rfl, hiwd, rfl, rfl, rfl, rfl⟩ ?_
  refine c_putI hX hin (idx := 21) (ci := 2) (k := 3) (o := 1) (rs := [none, none, none, none, none, none, none, none, none]) (by decide +kernel) (by decide +kernel) rfl rfl rfl ?_
  refine c_seg hX ok_X2_init (Nat.le_of_ble_eq_true rfl) (Nat.le_of_ble_eq_true rfl) 10 ⟨_, rfl, hic, rfl, rfl, rfl, rfl⟩ ?_
  refine c_putI hX hin (idx := 24) (ci := 2) (k := 4) (o := 1) (rs := [none, none, none, none, none, none, none, none, none]) (by decide +kernel) (by decide +kernel) rfl rfl rfl ?_
  refine c_seg hX ok_X2_init (Nat.le_of_ble_eq_true rfl) (Nat.le_of_ble_eq_true rfl) 12 ⟨_, rfl, hi6, rfl, rfl, rfl, rfl⟩ ?_
  refine c_newa hX (atype := .int) (ft := .int) (ty := 0) (n := (n * 6)) (o := 2) (cells' := 1) (slots' := 1944) (G' := gS n ly 3 r0 1 2 [none, none, none, none, none, none, none, none, none]) 253 (by decide +kernel) rfl rfl (Or.inl ⟨rfl, rfl⟩) (by decide +kernel) rfl rfl rfl hc6 (by omega) rfl rfl (Nat.le_of_ble_eq_true rfl) (by show 0 + (n * 6) ≤ 2916; omega) (Nat.le_refl _) (by omega) ?_
  refine c_putR hX hin (idx := 27) (ci := 2) (k := 5) (o := 1) (q := 2) (rs := [none, none, none, none, none, none, none, none, none]) (rs' := [none, none, none, none, none, some 2, none, none, none]) (G' := gS n ly 3 r0 1 2 [none, none, none, none, none, some 2, none, none, none]) (by decide +kernel) (by decide +kernel) rfl rfl rfl (fun _ => ⟨rfl, rfl⟩) rfl rfl rfl rfl ?_
  refine c_seg hX ok_X2_init (Nat.le_of_ble_eq_true rfl) (Nat.le_of_ble_eq_true rfl) 15 ⟨_, rfl, rfl, rfl, rfl, rfl⟩ ?_
  refine c_newa hX (atype := .int) (ft := .int) (ty := 0) (n := n) (o := 3) (cells' := 2) (slots' := 2268) (G' := gS n ly 4 r0 1 2 [none, none, none, none, none, some 2, none, none, none]) 253 (by decide +kernel) rfl rfl (Or.inl ⟨rfl, rfl⟩) (by decide +kernel) rfl rfl rfl hc (by omega) rfl rfl (Nat.le_of_ble_eq_true rfl) (by show 1944 + n ≤ 2916; omega) (Nat.le_refl _) (by omega) ?_
  refine c_putR hX hin (idx := 31) (ci := 2) (k := 6) (o := 1) (q := 3) (rs := [none, none, none, none, none, some 2, none, none, none]) (rs' := [none, none, none, none, none, some 2, some 3, none, none]) (G' := gS n ly 4 r0 1 2 [none, none, none, none, none, some 2, some 3, none, none]) (by decide +kernel) (by decide +kernel) rfl rfl rfl (fun _ => ⟨rfl, rfl⟩) rfl rfl rfl rfl ?_
  refine c_seg hX ok_X2_init (Nat.le_of_ble_eq_true rfl) (Nat.le_of_ble_eq_true rfl) 18 ⟨_, rfl, rfl, rfl, rfl, rfl⟩ ?_
  refine c_newa hX (atype := .int) (ft := .int) (ty := 0) (n := n) (o := 4) (cells' := 3) (slots' := 2592) (G' := gS n ly 5 r0 1 2 [none, none, none, none, none, some 2, some 3, none, none]) 253 (by decide +kernel) rfl rfl (Or.inl ⟨rfl, rfl⟩) (by decide +kernel) rfl rfl rfl hc (by omega) rfl rfl (Nat.le_of_ble_eq_true rfl) (by show 2268 + n ≤ 2916; omega) (Nat.le_refl _) (by omega) ?_
  refine c_putR hX hin (idx := 34) (ci := 2) (k := 7) (o := 1) (q := 4) (rs := [none, none, none, none, none, some 2, some 3, none, none]) (rs' := [none, none, none, none, none, some 2, some 3, some 4, none]) (G' := gS n ly 5 r0 1 2 [none, none, none, none, none, some 2, some 3, some 4, none]) (by decide +kernel) (by decide +kernel) rfl rfl rfl (fun _ => ⟨rfl, rfl⟩) rfl rfl rfl rfl ?_
  refine c_seg hX ok_X2_init (Nat.le_of_ble_eq_true rfl) (Nat.le_of_ble_eq_true rfl) 21 ⟨_, rfl, rfl, rfl, rfl, rfl⟩ ?_
  refine c_newa hX (atype := .int) (ft := .int) (ty := 0) (n := n) (o := 5) (cells' := 4) (slots' := 2916) (G' := gS n ly 6 r0 1 2 [none, none, none, none, none, some 2, some 3, some 4, none]) 253 (by decide +kernel) rfl rfl (Or.inl ⟨rfl, rfl⟩) (by decide +kernel) rfl rfl rfl hc (by omega) rfl rfl (Nat.le_of_ble_eq_true rfl) (by show 2592 + n ≤ 2916; omega) (Nat.le_refl _) (by omega) ?_
  refine c_putR hX hin (idx := 37) (ci := 2) (k := 8) (o := 1) (q := 5) (rs := [none, none, none, none, none, some 2, some 3, some 4, none]) (rs' := [none, none, none, none, none, some 2, some 3, some 4, some 5]) (G' := gS n ly 6 r0 1 2 [none, none, none, none, none, some 2, some 3, some 4, some 5]) (by decide +kernel) (by decide +kernel) rfl rfl rfl (fun _ => ⟨rfl, rfl⟩) rfl rfl rfl rfl ?_
  refine c_seg hX ok_X2_init (Nat.le_of_ble_eq_true rfl) (Nat.le_of_ble_eq_true rfl) 24 ⟨_, rfl, rfl, rfl, rfl, rfl⟩ ?_
  generalize hm0 : mzs (fset (fset (fset (fset (fset m 1 0 w) 1 1 d) 1 2 l) 1 3 (w * d)) 1 4 (w * d * l)) [2, 3, 4, 5] = m0
  have hm0' : mz (mz (mz (mz (fset (fset (fset (fset (fset m 1 0 w) 1 1 d) 1 2 l) 1 3 (w * d)) 1 4 (w * d * l)) 2) 3) 4) 5 = m0 := hm0
  have f0 : m0 1 0 = w := by rw [← hm0]; rfl
  have f1 : m0 1 1 = d := by rw [← hm0]; rfl
  have f2 : m0 1 2 = l := by rw [← hm0]; rfl
  have f3 : m0 1 3 = w * d := by rw [← hm0]; rfl
  have f4 : m0 1 4 = w * d * l := by rw [← hm0]; rfl
  have ff : ∀ o, o ≠ 1 → o ≠ 2 → o ≠ 3 → o ≠ 4 → o ≠ 5 → m0 o = m o := by
    intro o h1 h2 h3 h4 h5
    rw [← hm0, mzs_ne (by simp [h2, h3, h4, h5])]
    unfold fset
    rw [k_mset_ne h1, k_mset_ne h1, k_mset_ne h1, k_mset_ne h1, k_mset_ne h1]
  have hfin : ∀ (L : KL) (m' : Mem), gP m0 w d l (w * d * l) m' → cW B M_X2_init p e { frames := 0 + 1, cells := 4, slots := 2916, locals := 40 * (0 + 1) } s mm args below meth c 4 2916 Qf ad0 (gS n ly 2 r0 1 2 (k_nulls 2)).length A (gS n ly 6 r0 1 2 [none, none, none, none, none, some 2, some 3, some 4, some 5]) (k_pc M_X2_init 42) L [] m' := by
    intro L m' hP
    refine hend _ _ _ (by decide +kernel) ⟨⟨?_, ?_, ?_, ?_, ?_, fun c hc => hP.2 c hc.1 hc.2⟩, fun o h1 h2 h3 h4 h5 => by rw [hP.1 o h2 h3 h4 h5]; exact ff o h1 h2 h3 h4 h5⟩
    · rw [hP.1 1 (by decide) (by decide) (by decide) (by decide)]; exact f0
    · rw [hP.1 1 (by decide) (by decide) (by decide) (by decide)]; exact f1
    · rw [hP.1 1 (by decide) (by decide) (by decide) (by decide)]; exact f2
    · rw [hP.1 1 (by decide) (by decide) (by decide) (by decide)]; exact f3
    · rw [hP.1 1 (by decide) (by decide) (by decide) (by decide)]; exact f4
  have loopx : ∀ (y z : Int), (0 ≤ y ∧ y < d) → (0 ≤ z ∧ z < l) → (∀ m', gP m0 w d l (ix w d 0 (y + 1) z) m' → cW B M_X2_init p e { frames := 0 + 1, cells := 4, slots := 2916, locals := 40 * (0 + 1) } s mm args below meth c 4 2916 Qf ad0 (gS n ly 2 r0 1 2 (k_nulls 2)).length A (gS n ly 6 r0 1 2 [none, none, none, none, none, some 2, some 3, some 4, some 5]) (k_pc M_X2_init 40) [some (vR 1), some (vI w), some (vI d), some (vI l), some (vI (ix w d 0 (y + 1) z)), some (vI z), some (vI y), some (vI w)] [] m') → ∀ (k : Nat) (x : Int) (m' : Mem), 0 ≤ x → x + k = w → gP m0 w d l (ix w d x y z) m' → cW B M_X2_init p e { frames := 0 + 1, cells := 4, slots := 2916, locals := 40 * (0 + 1) } s mm args below meth c 4 2916 Qf ad0 (gS n ly 2 r0 1 2 (k_nulls 2)).length A (gS n ly 6 r0 1 2 [none, none, none, none, none, some 2, some 3, some 4, some 5]) (k_pc M_X2_init 27) [some (vR 1), some (vI w), some (vI d), some (vI l), some (vI (ix w d x y z)), some (vI z), some (vI y), some (vI x)] [] m' := by
    intro y z hy hz hout k
    induction k with
    | zero =>
      intro x m' h0 h1 hP
      have : x = w := by omega
      subst this
      refine c_go hX ok_X2_init (Nat.le_of_ble_eq_true rfl) (Nat.le_of_ble_eq_true rfl) [25, 26, 27, 29, 31, 33, 35, 37, 39, 40, 41, 42] 5 27 ?_
      rw [ix_xw] at hP ⊢
      exact And.intro (fun _ => hout m' hP) (fun h2 => absurd h2 (by omega))
    | succ k ih =>
      intro x m' h0 h1 hP
      have hx : 0 ≤ x ∧ x < w := by omega
      have hin : inC w d l (ix w d x y z) := ix_in hx hy hz
      obtain ⟨hin1, hin2⟩ := hin
      have hcn : ix w d x y z < (n : Int) := by omega
      have hi1 : inR (ix w d x y z * 6) := by constructor <;> omega
      have hia : ∀ j : Int, 0 ≤ j → j < 6 → inR (ix w d x y z * 6 + j) := fun j j0 j1 => by constructor <;> omega
      have hib : ∀ j : Int, 0 ≤ j → j < 6 → 0 ≤ ix w d x y z * 6 + j ∧ ix w d x y z * 6 + j < ((n * 6 : Nat) : Int) := fun j j0 j1 => by constructor <;> omega
      obtain ⟨x0, x1, x2, x3, x4, x5⟩ := dXs
      obtain ⟨y0, y1, y2, y3, y4, y5⟩ := dYs
      obtain ⟨z0, z1, z2, z3, z4, z5⟩ := dZs
      have t39 : ∀ (v : Int) (m' : Mem), gQ m0 w d l (ix w d x y z) 5 m' → v = nx w d l (ix w d x y z) 5 → cW B M_X2_init p e { frames := 0 + 1, cells := 4, slots := 2916, locals := 40 * (0 + 1) } s mm args below meth c 4 2916 Qf ad0 (gS n ly 2 r0 1 2 (k_nulls 2)).length A (gS n ly 6 r0 1 2 [none, none, none, none, none, some 2, some 3, some 4, some 5]) (k_pc M_X2_init 39) [some (vR 1), some (vI w), some (vI d), some (vI l), some (vI (ix w d x y z)), some (vI z), some (vI y), some (vI x)] [vI v, vI (ix w d x y z * 6 + 5), vR 2] m' := by
        intro v m' hq hv
        have hq2 := gQ_6 (gQ_step (by omega) hq hv)
        refine c_go hX ok_X2_init (Nat.le_of_ble_eq_true rfl) (Nat.le_of_ble_eq_true rfl) [25, 26, 27, 29, 31, 33, 35, 37, 39, 40, 41, 42] 5 39 ?_
        refine ⟨hib 5 (by omega) (by omega), by constructor <;> omega, by constructor <;> omega, ?_⟩
        rw [ix_x1] at hq2
        have := ih (x + 1) _ (by omega) (by omega) hq2
        rw [← ix_x1] at this
        exact this
      have t37 : ∀ (v : Int) (m' : Mem), gQ m0 w d l (ix w d x y z) 4 m' → v = nx w d l (ix w d x y z) 4 → cW B M_X2_init p e { frames := 0 + 1, cells := 4, slots := 2916, locals := 40 * (0 + 1) } s mm args below meth c 4 2916 Qf ad0 (gS n ly 2 r0 1 2 (k_nulls 2)).length A (gS n ly 6 r0 1 2 [none, none, none, none, none, some 2, some 3, some 4, some 5]) (k_pc M_X2_init 37) [some (vR 1), some (vI w), some (vI d), some (vI l), some (vI (ix w d x y z)), some (vI z), some (vI y), some (vI x)] [vI v, vI (ix w d x y z * 6 + 4), vR 2] m' := by
        intro v m' hq hv
        have hq2 := gQ_step (by omega) hq hv
        generalize hm2 : mset m' 2 (ix w d x y z * 6 + 4) v = m2 at hq2
        have hfl : m2 1 3 = w * d := by rw [hq2.1.1 1 (by decide) (by decide) (by decide) (by decide)]; exact f3
        refine c_go hX ok_X2_init (Nat.le_of_ble_eq_true rfl) (Nat.le_of_ble_eq_true rfl) [25, 26, 27, 29, 31, 33, 35, 37, 39, 40, 41, 42] 5 37 ?_
        refine ⟨hib 4 (by omega) (by omega), hi1, hia 5 (by omega) (by omega), ?_⟩
        show (z ≤ 0 → cW B M_X2_init p e { frames := 0 + 1, cells := 4, slots := 2916, locals := 40 * (0 + 1) } s mm args below meth c 4 2916 Qf ad0 (gS n ly 2 r0 1 2 (k_nulls 2)).length A (gS n ly 6 r0 1 2 [none, none, none, none, none, some 2, some 3, some 4, some 5]) (k_pc M_X2_init 39) [some (vR 1), some (vI w), some (vI d), some (vI l), some (vI (ix w d x y z)), some (vI z), some (vI y), some (vI x)] [vI (-1), vI (ix w d x y z * 6 + 5), vR 2] (mset m' 2 (ix w d x y z * 6 + 4) v)) ∧ (0 < z → inR (ix w d x y z - mset m' 2 (ix w d x y z * 6 + 4) v 1 3) ∧ cW B M_X2_init p e { frames := 0 + 1, cells := 4, slots := 2916, locals := 40 * (0 + 1) } s mm args below meth c 4 2916 Qf ad0 (gS n ly 2 r0 1 2 (k_nulls 2)).length A (gS n ly 6 r0 1 2 [none, none, none, none, none, some 2, some 3, some 4, some 5]) (k_pc M_X2_init 39) [some (vR 1), some (vI w), some (vI d), some (vI l), some (vI (ix w d x y z)), some (vI z), some (vI y), some (vI x)] [vI (ix w d x y z - mset m' 2 (ix w d x y z * 6 + 4) v 1 3), vI (ix w d x y z * 6 + 5), vR 2] (mset m' 2 (ix w d x y z * 6 + 4) v))
        rw [hm2, hfl]
        refine ⟨fun h5 => t39 _ m2 hq2 (nx_no hx hy (by omega)), fun h5 => ⟨by constructor <;> omega, t39 _ m2 hq2 ?_⟩⟩
        have := nx_yes (k := 5) (z := z) (l := l) hx hy (by omega)
        rw [← this, x5, y5, z5]
        omega
      have t35 : ∀ (v : Int) (m' : Mem), gQ m0 w d l (ix w d x y z) 3 m' → v = nx w d l (ix w d x y z) 3 → cW B M_X2_init p e { frames := 0 + 1, cells := 4, slots := 2916, locals := 40 * (0 + 1) } s mm args below meth c 4 2916 Qf ad0 (gS n ly 2 r0 1 2 (k_nulls 2)).length A (gS n ly 6 r0 1 2 [none, none, none, none, none, some 2, some 3, some 4, some 5]) (k_pc M_X2_init 35) [some (vR 1), some (vI w), some (vI d), some (vI l), some (vI (ix w d x y z)), some (vI z), some (vI y), some (vI x)] [vI v, vI (ix w d x y z * 6 + 3), vR 2] m' := by
        intro v m' hq hv
        have hq2 := gQ_step (by omega) hq hv
        generalize hm2 : mset m' 2 (ix w d x y z * 6 + 3) v = m2 at hq2
        have hfl : m2 1 3 = w * d := by rw [hq2.1.1 1 (by decide) (by decide) (by decide) (by decide)]; exact f3
        refine c_go hX ok_X2_init (Nat.le_of_ble_eq_true rfl) (Nat.le_of_ble_eq_true rfl) [25, 26, 27, 29, 31, 33, 35, 37, 39, 40, 41, 42] 5 35 ?_
        refine ⟨hib 3 (by omega) (by omega), hi1, hia 4 (by omega) (by omega), by constructor <;> omega, ?_⟩
        show (l ≤ z + 1 → cW B M_X2_init p e { frames := 0 + 1, cells := 4, slots := 2916, locals := 40 * (0 + 1) } s mm args below meth c 4 2916 Qf ad0 (gS n ly 2 r0 1 2 (k_nulls 2)).length A (gS n ly 6 r0 1 2 [none, none, none, none, none, some 2, some 3, some 4, some 5]) (k_pc M_X2_init 37) [some (vR 1), some (vI w), some (vI d), some (vI l), some (vI (ix w d x y z)), some (vI z), some (vI y), some (vI x)] [vI (-1), vI (ix w d x y z * 6 + 4), vR 2] (mset m' 2 (ix w d x y z * 6 + 3) v)) ∧ (z + 1 < l → inR (ix w d x y z + mset m' 2 (ix w d x y z * 6 + 3) v 1 3) ∧ cW B M_X2_init p e { frames := 0 + 1, cells := 4, slots := 2916, locals := 40 * (0 + 1) } s mm args below meth c 4 2916 Qf ad0 (gS n ly 2 r0 1 2 (k_nulls 2)).length A (gS n ly 6 r0 1 2 [none, none, none, none, none, some 2, some 3, some 4, some 5]) (k_pc M_X2_init 37) [some (vR 1), some (vI w), some (vI d), some (vI l), some (vI (ix w d x y z)), some (vI z), some (vI y), some (vI x)] [vI (ix w d x y z + mset m' 2 (ix w d x y z * 6 + 3) v 1 3), vI (ix w d x y z * 6 + 4), vR 2] (mset m' 2 (ix w d x y z * 6 + 3) v))
        rw [hm2, hfl]
        refine ⟨fun h5 => t37 _ m2 hq2 (nx_no hx hy (by omega)), fun h5 => ⟨by constructor <;> omega, t37 _ m2 hq2 ?_⟩⟩
        have := nx_yes (k := 4) (z := z) (l := l) hx hy (by omega)
        rw [← this, x4, y4, z4]
        omega
      have t33 : ∀ (v : Int) (m' : Mem), gQ m0 w d l (ix w d x y z) 2 m' → v = nx w d l (ix w d x y z) 2 → cW B M_X2_init p e { frames := 0 + 1, cells := 4, slots := 2916, locals := 40 * (0 + 1) } s mm args below meth c 4 2916 Qf ad0 (gS n ly 2 r0 1 2 (k_nulls 2)).length A (gS n ly 6 r0 1 2 [none, none, none, none, none, some 2, some 3, some 4, some 5]) (k_pc M_X2_init 33) [some (vR 1), some (vI w), some (vI d), some (vI l), some (vI (ix w d x y z)), some (vI z), some (vI y), some (vI x)] [vI v, vI (ix w d x y z * 6 + 2), vR 2] m' := by
        intro v m' hq hv
        have hq2 := gQ_step (by omega) hq hv
        generalize hm2 : mset m' 2 (ix w d x y z * 6 + 2) v = m2 at hq2
        have hfl : m2 1 3 = w * d := by rw [hq2.1.1 1 (by decide) (by decide) (by decide) (by decide)]; exact f3
        refine c_go hX ok_X2_init (Nat.le_of_ble_eq_true rfl) (Nat.le_of_ble_eq_true rfl) [25, 26, 27, 29, 31, 33, 35, 37, 39, 40, 41, 42] 5 33 ?_
        refine ⟨hib 2 (by omega) (by omega), hi1, hia 3 (by omega) (by omega), ?_⟩
        show (x ≤ 0 → cW B M_X2_init p e { frames := 0 + 1, cells := 4, slots := 2916, locals := 40 * (0 + 1) } s mm args below meth c 4 2916 Qf ad0 (gS n ly 2 r0 1 2 (k_nulls 2)).length A (gS n ly 6 r0 1 2 [none, none, none, none, none, some 2, some 3, some 4, some 5]) (k_pc M_X2_init 35) [some (vR 1), some (vI w), some (vI d), some (vI l), some (vI (ix w d x y z)), some (vI z), some (vI y), some (vI x)] [vI (-1), vI (ix w d x y z * 6 + 3), vR 2] (mset m' 2 (ix w d x y z * 6 + 2) v)) ∧ (0 < x → inR (ix w d x y z - 1) ∧ cW B M_X2_init p e { frames := 0 + 1, cells := 4, slots := 2916, locals := 40 * (0 + 1) } s mm args below meth c 4 2916 Qf ad0 (gS n ly 2 r0 1 2 (k_nulls 2)).length A (gS n ly 6 r0 1 2 [none, none, none, none, none, some 2, some 3, some 4, some 5]) (k_pc M_X2_init 35) [some (vR 1), some (vI w), some (vI d), some (vI l), some (vI (ix w d x y z)), some (vI z), some (vI y), some (vI x)] [vI (ix w d x y z - 1), vI (ix w d x y z * 6 + 3), vR 2] (mset m' 2 (ix w d x y z * 6 + 2) v))
        rw [hm2]
        refine ⟨fun h5 => t35 _ m2 hq2 (nx_no hx hy (by omega)), fun h5 => ⟨by constructor <;> omega, t35 _ m2 hq2 ?_⟩⟩
        have := nx_yes (k := 3) (z := z) (l := l) hx hy (by omega)
        rw [← this, x3, y3, z3]
        omega
      have t31 : ∀ (v : Int) (m' : Mem), gQ m0 w d l (ix w d x y z) 1 m' → v = nx w d l (ix w d x y z) 1 → cW B M_X2_init p e { frames := 0 + 1, cells := 4, slots := 2916, locals := 40 * (0 + 1) } s mm args below meth c 4 2916 Qf ad0 (gS n ly 2 r0 1 2 (k_nulls 2)).length A (gS n ly 6 r0 1 2 [none, none, none, none, none, some 2, some 3, some 4, some 5]) (k_pc M_X2_init 31) [some (vR 1), some (vI w), some (vI d), some (vI l), some (vI (ix w d x y z)), some (vI z), some (vI y), some (vI x)] [vI v, vI (ix w d x y z * 6 + 1), vR 2] m' := by
        intro v m' hq hv
        have hq2 := gQ_step (by omega) hq hv
        generalize hm2 : mset m' 2 (ix w d x y z * 6 + 1) v = m2 at hq2
        have hfl : m2 1 3 = w * d := by rw [hq2.1.1 1 (by decide) (by decide) (by decide) (by decide)]; exact f3
        refine c_go hX ok_X2_init (Nat.le_of_ble_eq_true rfl) (Nat.le_of_ble_eq_true rfl) [25, 26, 27, 29, 31, 33, 35, 37, 39, 40, 41, 42] 5 31 ?_
        refine ⟨hib 1 (by omega) (by omega), hi1, hia 2 (by omega) (by omega), by constructor <;> omega, ?_⟩
        show (d ≤ y + 1 → cW B M_X2_init p e { frames := 0 + 1, cells := 4, slots := 2916, locals := 40 * (0 + 1) } s mm args below meth c 4 2916 Qf ad0 (gS n ly 2 r0 1 2 (k_nulls 2)).length A (gS n ly 6 r0 1 2 [none, none, none, none, none, some 2, some 3, some 4, some 5]) (k_pc M_X2_init 33) [some (vR 1), some (vI w), some (vI d), some (vI l), some (vI (ix w d x y z)), some (vI z), some (vI y), some (vI x)] [vI (-1), vI (ix w d x y z * 6 + 2), vR 2] (mset m' 2 (ix w d x y z * 6 + 1) v)) ∧ (y + 1 < d → inR (ix w d x y z + w) ∧ cW B M_X2_init p e { frames := 0 + 1, cells := 4, slots := 2916, locals := 40 * (0 + 1) } s mm args below meth c 4 2916 Qf ad0 (gS n ly 2 r0 1 2 (k_nulls 2)).length A (gS n ly 6 r0 1 2 [none, none, none, none, none, some 2, some 3, some 4, some 5]) (k_pc M_X2_init 33) [some (vR 1), some (vI w), some (vI d), some (vI l), some (vI (ix w d x y z)), some (vI z), some (vI y), some (vI x)] [vI (ix w d x y z + w), vI (ix w d x y z * 6 + 2), vR 2] (mset m' 2 (ix w d x y z * 6 + 1) v))
        rw [hm2]
        refine ⟨fun h5 => t33 _ m2 hq2 (nx_no hx hy (by omega)), fun h5 => ⟨by constructor <;> omega, t33 _ m2 hq2 ?_⟩⟩
        have := nx_yes (k := 2) (z := z) (l := l) hx hy (by omega)
        rw [← this, x2, y2, z2]
        omega
      have t29 : ∀ (v : Int) (m' : Mem), gQ m0 w d l (ix w d x y z) 0 m' → v = nx w d l (ix w d x y z) 0 → cW B M_X2_init p e { frames := 0 + 1, cells := 4, slots := 2916, locals := 40 * (0 + 1) } s mm args below meth c 4 2916 Qf ad0 (gS n ly 2 r0 1 2 (k_nulls 2)).length A (gS n ly 6 r0 1 2 [none, none, none, none, none, some 2, some 3, some 4, some 5]) (k_pc M_X2_init 29) [some (vR 1), some (vI w), some (vI d), some (vI l), some (vI (ix w d x y z)), some (vI z), some (vI y), some (vI x)] [vI v, vI (ix w d x y z * 6), vR 2] m' := by
        intro v m' hq hv
        have hq2 := gQ_step (by omega) hq hv
        rw [Int.add_zero] at hq2
        generalize hm2 : mset m' 2 (ix w d x y z * 6) v = m2 at hq2
        have hfl : m2 1 3 = w * d := by rw [hq2.1.1 1 (by decide) (by decide) (by decide) (by decide)]; exact f3
        refine c_go hX ok_X2_init (Nat.le_of_ble_eq_true rfl) (Nat.le_of_ble_eq_true rfl) [25, 26, 27, 29, 31, 33, 35, 37, 39, 40, 41, 42] 5 29 ?_
        refine ⟨by have := hib 0 (by omega) (by omega); omega, hi1, hia 1 (by omega) (by omega), by constructor <;> omega, ?_⟩
        show (w ≤ x + 1 → cW B M_X2_init p e { frames := 0 + 1, cells := 4, slots := 2916, locals := 40 * (0 + 1) } s mm args below meth c 4 2916 Qf ad0 (gS n ly 2 r0 1 2 (k_nulls 2)).length A (gS n ly 6 r0 1 2 [none, none, none, none, none, some 2, some 3, some 4, some 5]) (k_pc M_X2_init 31) [some (vR 1), some (vI w), some (vI d), some (vI l), some (vI (ix w d x y z)), some (vI z), some (vI y), some (vI x)] [vI (-1), vI (ix w d x y z * 6 + 1), vR 2] (mset m' 2 (ix w d x y z * 6) v)) ∧ (x + 1 < w → inR (ix w d x y z + 1) ∧ cW B M_X2_init p e { frames := 0 + 1, cells := 4, slots := 2916, locals := 40 * (0 + 1) } s mm args below meth c 4 2916 Qf ad0 (gS n ly 2 r0 1 2 (k_nulls 2)).length A (gS n ly 6 r0 1 2 [none, none, none, none, none, some 2, some 3, some 4, some 5]) (k_pc M_X2_init 31) [some (vR 1), some (vI w), some (vI d), some (vI l), some (vI (ix w d x y z)), some (vI z), some (vI y), some (vI x)] [vI (ix w d x y z + 1), vI (ix w d x y z * 6 + 1), vR 2] (mset m' 2 (ix w d x y z * 6) v))
        rw [hm2]
        refine ⟨fun h5 => t31 _ m2 hq2 (nx_no hx hy (by omega)), fun h5 => ⟨by constructor <;> omega, t31 _ m2 hq2 ?_⟩⟩
        have := nx_yes (k := 1) (z := z) (l := l) hx hy (by omega)
        rw [← this, x1, y1, z1]
        omega
      have hq := gP_0 hx hy hP
      generalize hm2 : mset (mset (mset m' 3 (ix w d x y z) x) 4 (ix w d x y z) y) 5 (ix w d x y z) z = m2 at hq
      refine c_go hX ok_X2_init (Nat.le_of_ble_eq_true rfl) (Nat.le_of_ble_eq_true rfl) [25, 26, 27, 29, 31, 33, 35, 37, 39, 40, 41, 42] 5 27 ?_
      refine And.intro (fun h5 => absurd h5 (by omega)) (fun _ => ⟨⟨hin1, hcn⟩, ⟨hin1, hcn⟩, ⟨hin1, hcn⟩, hi1, ?_⟩)
      show (y ≤ 0 → cW B M_X2_init p e { frames := 0 + 1, cells := 4, slots := 2916, locals := 40 * (0 + 1) } s mm args below meth c 4 2916 Qf ad0 (gS n ly 2 r0 1 2 (k_nulls 2)).length A (gS n ly 6 r0 1 2 [none, none, none, none, none, some 2, some 3, some 4, some 5]) (k_pc M_X2_init 29) [some (vR 1), some (vI w), some (vI d), some (vI l), some (vI (ix w d x y z)), some (vI z), some (vI y), some (vI x)] [vI (-1), vI (ix w d x y z * 6), vR 2] (mset (mset (mset m' 3 (ix w d x y z) x) 4 (ix w d x y z) y) 5 (ix w d x y z) z)) ∧ (0 < y → inR (ix w d x y z - w) ∧ cW B M_X2_init p e { frames := 0 + 1, cells := 4, slots := 2916, locals := 40 * (0 + 1) } s mm args below meth c 4 2916 Qf ad0 (gS n ly 2 r0 1 2 (k_nulls 2)).length A (gS n ly 6 r0 1 2 [none, none, none, none, none, some 2, some 3, some 4, some 5]) (k_pc M_X2_init 29) [some (vR 1), some (vI w), some (vI d), some (vI l), some (vI (ix w d x y z)), some (vI z), some (vI y), some (vI x)] [vI (ix w d x y z - w), vI (ix w d x y z * 6), vR 2] (mset (mset (mset m' 3 (ix w d x y z) x) 4 (ix w d x y z) y) 5 (ix w d x y z) z))
      rw [hm2]
      refine ⟨fun h5 => t29 _ m2 hq (nx_no hx hy (by omega)), fun h5 => ⟨by constructor <;> omega, t29 _ m2 hq ?_⟩⟩
      have := nx_yes (k := 0) (z := z) (l := l) hx hy (by omega)
      rw [← this, x0, y0, z0]
      omega
  have loopy : ∀ (z : Int), (0 ≤ z ∧ z < l) → (∀ (m' : Mem) (x7 : Option AV), gP m0 w d l (ix w d 0 0 (z + 1)) m' → cW B M_X2_init p e { frames := 0 + 1, cells := 4, slots := 2916, locals := 40 * (0 + 1) } s mm args below meth c 4 2916 Qf ad0 (gS n ly 2 r0 1 2 (k_nulls 2)).length A (gS n ly 6 r0 1 2 [none, none, none, none, none, some 2, some 3, some 4, some 5]) (k_pc M_X2_init 41) [some (vR 1), some (vI w), some (vI d), some (vI l), some (vI (ix w d 0 0 (z + 1))), some (vI z), some (vI d), x7] [] m') → ∀ (k : Nat) (y : Int) (m' : Mem) (x7 : Option AV), 0 ≤ y → y + k = d → gP m0 w d l (ix w d 0 y z) m' → cW B M_X2_init p e { frames := 0 + 1, cells := 4, slots := 2916, locals := 40 * (0 + 1) } s mm args below meth c 4 2916 Qf ad0 (gS n ly 2 r0 1 2 (k_nulls 2)).length A (gS n ly 6 r0 1 2 [none, none, none, none, none, some 2, some 3, some 4, some 5]) (k_pc M_X2_init 26) [some (vR 1), some (vI w), some (vI d), some (vI l), some (vI (ix w d 0 y z)), some (vI z), some (vI y), x7] [] m' := by
    intro z hz hout k
    induction k with
    | zero =>
      intro y m' x7 h0 h1 hP
      have : y = d := by omega
      subst this
      refine c_go hX ok_X2_init (Nat.le_of_ble_eq_true rfl) (Nat.le_of_ble_eq_true rfl) [25, 26, 27, 29, 31, 33, 35, 37, 39, 40, 41, 42] 5 26 ?_
      rw [ix_yd] at hP ⊢
      exact And.intro (fun _ => hout m' x7 hP) (fun h2 => absurd h2 (by omega))
    | succ k ih =>
      intro y m' x7 h0 h1 hP
      refine c_go hX ok_X2_init (Nat.le_of_ble_eq_true rfl) (Nat.le_of_ble_eq_true rfl) [25, 26, 27, 29, 31, 33, 35, 37, 39, 40, 41, 42] 5 26 ?_
      refine And.intro (fun h2 => absurd h2 (by omega)) (fun _ => ?_)
      refine loopx y z ⟨h0, by omega⟩ hz (fun m2 hP2 => ?_) w.toNat 0 m' (by omega) (by omega) hP
      refine c_go hX ok_X2_init (Nat.le_of_ble_eq_true rfl) (Nat.le_of_ble_eq_true rfl) [25, 26, 27, 29, 31, 33, 35, 37, 39, 40, 41, 42] 5 40 ?_
      exact ⟨by constructor <;> omega, ih (y + 1) m2 _ (by omega) (by omega) hP2⟩
  have loopz : ∀ (k : Nat) (z : Int) (m' : Mem) (x6 x7 : Option AV), 0 ≤ z → z + k = l → gP m0 w d l (ix w d 0 0 z) m' → cW B M_X2_init p e { frames := 0 + 1, cells := 4, slots := 2916, locals := 40 * (0 + 1) } s mm args below meth c 4 2916 Qf ad0 (gS n ly 2 r0 1 2 (k_nulls 2)).length A (gS n ly 6 r0 1 2 [none, none, none, none, none, some 2, some 3, some 4, some 5]) (k_pc M_X2_init 25) [some (vR 1), some (vI w), some (vI d), some (vI l), some (vI (ix w d 0 0 z)), some (vI z), x6, x7] [] m' := by
    intro k
    induction k with
    | zero =>
      intro z m' x6 x7 h0 h1 hP
      have : z = l := by omega
      subst this
      refine c_go hX ok_X2_init (Nat.le_of_ble_eq_true rfl) (Nat.le_of_ble_eq_true rfl) [25, 26, 27, 29, 31, 33, 35, 37, 39, 40, 41, 42] 5 25 ?_
      refine And.intro (fun _ => hfin _ m' ?_) (fun h2 => absurd h2 (by omega))
      have : ix w d 0 0 z = w * d * z := by unfold ix; rw [Int.mul_comm z (w * d)]; omega
      rw [← this]
      exact hP
    | succ k ih =>
      intro z m' x6 x7 h0 h1 hP
      refine c_go hX ok_X2_init (Nat.le_of_ble_eq_true rfl) (Nat.le_of_ble_eq_true rfl) [25, 26, 27, 29, 31, 33, 35, 37, 39, 40, 41, 42] 5 25 ?_
      refine And.intro (fun h2 => absurd h2 (by omega)) (fun _ => ?_)
      refine loopy z ⟨h0, by omega⟩ (fun m2 x7 hP2 => ?_) d.toNat 0 m' _ (by omega) (by omega) hP
      refine c_go hX ok_X2_init (Nat.le_of_ble_eq_true rfl) (Nat.le_of_ble_eq_true rfl) [25, 26, 27, 29, 31, 33, 35, 37, 39, 40, 41, 42] 5 41 ?_
      exact ⟨by constructor <;> omega, ih (z + 1) m2 _ _ (by omega) (by omega) hP2⟩
  have hfirst := loopz l.toNat 0 m0 none none (by omega) (by omega) ⟨fun _ _ _ _ _ => rfl, fun c c0 c1 => absurd c1 (by unfold ix; omega)⟩
  have hz0 : ix w d 0 0 0 = 0 := by unfold ix; omega
  rw [hz0, ← hm0'] at hfirst
  exact hfirst
