/-! the constructors of Tape, Checks and Trial -/
set_option maxRecDepth 100000 in
theorem n_X8_init (B : Bs) (n ly : Nat) (r0 : List (Option Nat)) (m : Mem) (v : Int) : kNew B 1 M_X8_init.1 [vR 6, vI v] (gS n ly 7 r0 6 8 (k_nulls 8)) (gS n ly 9 r0 6 8 [none, some 7, some 8, none, none, none]) m 2 85 (fun m' => m' = fset (mzs m [7, 8]) 6 0 v) := by
  refine c_start ok_X8_init rfl rfl rfl (Nat.le_of_ble_eq_true rfl) (fun p e s mm args below meth c Qf ad0 A hX hin hend => ?_)
  refine c_seg hX ok_X8_init (Nat.le_of_ble_eq_true rfl) (Nat.le_of_ble_eq_true rfl) 0 ⟨_, rfl, rfl, rfl, rfl, rfl⟩ ?_
  refine c_obj hX (idx := 3) (pos := 259) (by decide +kernel) (by decide +kernel) rfl rfl rfl ?_
  refine c_seg hX ok_X8_init (Nat.le_of_ble_eq_true rfl) (Nat.le_of_ble_eq_true rfl) 2 ⟨_, rfl, rfl, rfl, rfl, rfl⟩ ?_
  refine c_newa hX (atype := .int) (ft := .int) (ty := 0) (n := 80) (o := 7) (cells' := 1) (slots' := 80) (G' := gS n ly 8 r0 6 8 [none, none, none, none, none, none]) 253 (by decide +kernel) rfl rfl (Or.inl ⟨rfl, rfl⟩) (by decide +kernel) rfl rfl rfl rfl (by omega) rfl rfl (Nat.le_of_ble_eq_true rfl) (by show 0 + 80 ≤ 85; omega) (Nat.le_refl _) (by omega) ?_
  refine c_putR hX hin (idx := 9) (ci := 8) (k := 1) (o := 6) (q := 7) (rs := [none, none, none, none, none, none]) (rs' := [none, some 7, none, none, none, none]) (G' := gS n ly 8 r0 6 8 [none, some 7, none, none, none, none]) (by decide +kernel) (by decide +kernel) rfl rfl rfl (fun _ => ⟨rfl, rfl⟩) rfl rfl rfl rfl ?_
  refine c_seg hX ok_X8_init (Nat.le_of_ble_eq_true rfl) (Nat.le_of_ble_eq_true rfl) 5 ⟨_, rfl, rfl, rfl, rfl, rfl⟩ ?_
  refine c_newa hX (atype := .int) (ft := .int) (ty := 0) (n := 5) (o := 8) (cells' := 2) (slots' := 85) (G' := gS n ly 9 r0 6 8 [none, some 7, none, none, none, none]) 253 (by decide +kernel) rfl rfl (Or.inl ⟨rfl, rfl⟩) (by decide +kernel) rfl rfl rfl rfl (by omega) rfl rfl (Nat.le_of_ble_eq_true rfl) (by show 80 + 5 ≤ 85; omega) (Nat.le_refl _) (by omega) ?_
  refine c_putR hX hin (idx := 15) (ci := 8) (k := 2) (o := 6) (q := 8) (rs := [none, some 7, none, none, none, none]) (rs' := [none, some 7, some 8, none, none, none]) (G' := gS n ly 9 r0 6 8 [none, some 7, some 8, none, none, none]) (by decide +kernel) (by decide +kernel) rfl rfl rfl (fun _ => ⟨rfl, rfl⟩) rfl rfl rfl rfl ?_
  refine c_seg hX ok_X8_init (Nat.le_of_ble_eq_true rfl) (Nat.le_of_ble_eq_true rfl) 8 ⟨_, rfl, rfl, rfl, rfl, rfl⟩ ?_
  refine c_putI hX hin (idx := 18) (ci := 8) (k := 0) (o := 6) (rs := [none, some 7, some 8, none, none, none]) (by decide +kernel) (by decide +kernel) rfl rfl rfl ?_
  exact hend _ _ _ (by decide +kernel) rfl
set_option maxRecDepth 100000 in
theorem n_X0_init (B : Bs) (n ly : Nat) (hn : n ≤ 324) (hly : ly ≤ 4) (r0 : List (Option Nat)) (m : Mem) (hc : m 1 4 = (n : Int)) (hl : m 1 2 = (ly : Int)) : kNew B 2 M_X0_init.1 [vR 46, vR 1, vR 9] (gS n ly 47 r0 46 0 (k_nulls 0)) (gS n ly 51 r0 46 0 [some 1, some 9, some 47, none, none, some 48, some 49, some 50, none]) m 4 977 (fun m' => m' = mzs (mset (mfill (mz m 47) 47 0 ((ly + 1 : Nat) : Int) 1) 47 0 0) [48, 49, 50]) := by
  have hl1 : m 1 2 + 1 = ((ly + 1 : Nat) : Int) := by rw [hl]; omega
  have hl1i : inR (m 1 2 + 1) := by rw [hl1]; constructor <;> omega
  refine c_start ok_X0_init rfl rfl rfl (Nat.le_of_ble_eq_true rfl) (fun p e s mm args below meth c Qf ad0 A hX hin hend => ?_)
  refine c_seg hX ok_X0_init (Nat.le_of_ble_eq_true rfl) (Nat.le_of_ble_eq_true rfl) 0 ⟨_, rfl, rfl, rfl, rfl, rfl⟩ ?_
  refine c_obj hX (idx := 3) (pos := 572) (by decide +kernel) (by decide +kernel) rfl rfl rfl ?_
  refine c_seg hX ok_X0_init (Nat.le_of_ble_eq_true rfl) (Nat.le_of_ble_eq_true rfl) 2 ⟨_, rfl, rfl, rfl, rfl, rfl⟩ ?_
  refine c_putR hX hin (idx := 9) (ci := 0) (k := 0) (o := 46) (q := 1) (rs := [none, none, none, none, none, none, none, none, none]) (rs' := [some 1, none, none, none, none, none, none, none, none]) (G' := gS n ly 47 r0 46 0 [some 1, none, none, none, none, none, none, none, none]) (by decide +kernel) (by decide +kernel) rfl rfl rfl (fun _ => ⟨rfl, rfl⟩) rfl rfl rfl rfl ?_
  refine c_seg hX ok_X0_init (Nat.le_of_ble_eq_true rfl) (Nat.le_of_ble_eq_true rfl) 4 ⟨_, rfl, rfl, rfl, rfl, rfl⟩ ?_
  refine c_putR hX hin (idx := 15) (ci := 0) (k := 1) (o := 46) (q := 9) (rs := [some 1, none, none, none, none, none, none, none, none]) (rs' := [some 1, some 9, none, none, none, none, none, none, none]) (G' := gS n ly 47 r0 46 0 [some 1, some 9, none, none, none, none, none, none, none]) (by decide +kernel) (by decide +kernel) rfl rfl rfl (fun _ => ⟨rfl, rfl⟩) rfl rfl rfl rfl ?_
  refine c_seg hX ok_X0_init (Nat.le_of_ble_eq_true rfl) (Nat.le_of_ble_eq_true rfl) 6 ⟨_, rfl, hl1i, rfl, rfl, rfl, rfl⟩ ?_
  refine c_newa hX (atype := .int) (ft := .int) (ty := 0) (n := (ly + 1)) (o := 47) (cells' := 1) (slots' := 5) (G' := gS n ly 48 r0 46 0 [some 1, some 9, none, none, none, none, none, none, none]) 253 (by decide +kernel) rfl rfl (Or.inl ⟨rfl, rfl⟩) (by decide +kernel) rfl rfl rfl hl1 (by omega) rfl rfl (Nat.le_of_ble_eq_true rfl) (by show 0 + (ly + 1) ≤ 977; omega) (Nat.le_refl _) (by omega) ?_
  refine c_putR hX hin (idx := 25) (ci := 0) (k := 2) (o := 46) (q := 47) (rs := [some 1, some 9, none, none, none, none, none, none, none]) (rs' := [some 1, some 9, some 47, none, none, none, none, none, none]) (G' := gS n ly 48 r0 46 0 [some 1, some 9, some 47, none, none, none, none, none, none]) (by decide +kernel) (by decide +kernel) rfl rfl rfl (fun _ => ⟨rfl, rfl⟩) rfl rfl rfl rfl ?_
  refine c_seg hX ok_X0_init (Nat.le_of_ble_eq_true rfl) (Nat.le_of_ble_eq_true rfl) 9 (b1 := 10) (L1 := [some (vR 46), some (vR 1), some (vR 9)]) (S1 := [vI (m 1 4), vR 46]) (m1 := mset (mfill (mz m 47) 47 0 ((ly + 1 : Nat) : Int) 1) 47 0 0) ⟨_, rfl, ?_⟩ ?_
  · refine kCall_mono (c_fill _ _ 47 (ly + 1) 1 (by decide) rfl (by omega)) (Nat.le_refl _) ?_
    rintro _ _ ⟨rfl, rfl⟩
    exact ⟨⟨by decide, by show (0 : Int) < ((ly + 1 : Nat) : Int); omega⟩, rfl, rfl, rfl, rfl⟩
  refine c_newa hX (atype := .int) (ft := .int) (ty := 0) (n := n) (o := 48) (cells' := 2) (slots' := 329) (G' := gS n ly 49 r0 46 0 [some 1, some 9, some 47, none, none, none, none, none, none]) 253 (by decide +kernel) rfl rfl (Or.inl ⟨rfl, rfl⟩) (by decide +kernel) rfl rfl rfl hc (by omega) rfl rfl (Nat.le_of_ble_eq_true rfl) (by show 5 + n ≤ 977; omega) (Nat.le_refl _) (by omega) ?_
  refine c_putR hX hin (idx := 38) (ci := 0) (k := 5) (o := 46) (q := 48) (rs := [some 1, some 9, some 47, none, none, none, none, none, none]) (rs' := [some 1, some 9, some 47, none, none, some 48, none, none, none]) (G' := gS n ly 49 r0 46 0 [some 1, some 9, some 47, none, none, some 48, none, none, none]) (by decide +kernel) (by decide +kernel) rfl rfl rfl (fun _ => ⟨rfl, rfl⟩) rfl rfl rfl rfl ?_
  refine c_seg hX ok_X0_init (Nat.le_of_ble_eq_true rfl) (Nat.le_of_ble_eq_true rfl) 12 ⟨_, rfl, rfl, rfl, rfl, rfl⟩ ?_
  refine c_newa hX (atype := .int) (ft := .int) (ty := 0) (n := n) (o := 49) (cells' := 3) (slots' := 653) (G' := gS n ly 50 r0 46 0 [some 1, some 9, some 47, none, none, some 48, none, none, none]) 253 (by decide +kernel) rfl rfl (Or.inl ⟨rfl, rfl⟩) (by decide +kernel) rfl rfl rfl hc (by omega) rfl rfl (Nat.le_of_ble_eq_true rfl) (by show 329 + n ≤ 977; omega) (Nat.le_refl _) (by omega) ?_
  refine c_putR hX hin (idx := 41) (ci := 0) (k := 6) (o := 46) (q := 49) (rs := [some 1, some 9, some 47, none, none, some 48, none, none, none]) (rs' := [some 1, some 9, some 47, none, none, some 48, some 49, none, none]) (G' := gS n ly 50 r0 46 0 [some 1, some 9, some 47, none, none, some 48, some 49, none, none]) (by decide +kernel) (by decide +kernel) rfl rfl rfl (fun _ => ⟨rfl, rfl⟩) rfl rfl rfl rfl ?_
  refine c_seg hX ok_X0_init (Nat.le_of_ble_eq_true rfl) (Nat.le_of_ble_eq_true rfl) 15 ⟨_, rfl, rfl, rfl, rfl, rfl⟩ ?_
  refine c_newa hX (atype := .int) (ft := .int) (ty := 0) (n := n) (o := 50) (cells' := 4) (slots' := 977) (G' := gS n ly 51 r0 46 0 [some 1, some 9, some 47, none, none, some 48, some 49, none, none]) 253 (by decide +kernel) rfl rfl (Or.inl ⟨rfl, rfl⟩) (by decide +kernel) rfl rfl rfl hc (by omega) rfl rfl (Nat.le_of_ble_eq_true rfl) (by show 653 + n ≤ 977; omega) (Nat.le_refl _) (by omega) ?_
  refine c_putR hX hin (idx := 44) (ci := 0) (k := 7) (o := 46) (q := 50) (rs := [some 1, some 9, some 47, none, none, some 48, some 49, none, none]) (rs' := [some 1, some 9, some 47, none, none, some 48, some 49, some 50, none]) (G' := gS n ly 51 r0 46 0 [some 1, some 9, some 47, none, none, some 48, some 49, some 50, none]) (by decide +kernel) (by decide +kernel) rfl rfl rfl (fun _ => ⟨rfl, rfl⟩) rfl rfl rfl rfl ?_
  exact hend _ _ _ (by decide +kernel) rfl
/-- one of the trial's masks, as far as it is filled -/
theorem tri_bit {P : Int → Prop} [DecidablePred P] {old x i : Int} (hi : 0 ≤ i ∧ i < 24) (h : ∀ k : Nat, k < 32 → bt old k = decide ((k : Int) < i ∧ P k)) (hx : (P i ∧ x = kshl 1 i) ∨ (¬ P i ∧ x = 0)) : ∀ k : Nat, k < 32 → bt (kor old x) k = decide ((k : Int) < i + 1 ∧ P k) := by
  intro k hk
  rw [bt_or, h k hk]
  rcases hx with ⟨hp, rfl⟩ | ⟨hp, rfl⟩
  · rw [bt_bit hi.1 (by omega)]
    by_cases e : (k : Int) = i
    · rw [← e] at hp
      simp [e, hp]
      rw [← e]; simp [hp]; omega
    · by_cases hk2 : P k
      · simp [e, hk2]; omega
      · simp [e, hk2]
  · rw [bt_zero]
    by_cases e : (k : Int) = i
    · rw [← e] at hp
      simp [hp]
    · by_cases hk2 : P k
      · simp [hk2]; omega
      · simp [hk2]
def triP (m0 : Mem) (w d : Int) (j : Nat) (k : Int) : Prop := match j with
  | 0 => 0 < m0 3 k
  | 1 => m0 3 k < w - 1
  | 2 => 0 < m0 4 k
  | _ => m0 4 k < d - 1

def triI (m0 : Mem) (w d : Int) (a b c e : Int) (m : Mem) : Prop :=
  (∀ o, o ≠ 41 → m o = m0 o) ∧ (∀ j : Int, j ≠ 7 → j ≠ 8 → j ≠ 9 → j ≠ 10 → m 41 j = m0 41 j) ∧
  (∀ k : Nat, k < 32 → bt (m 41 7) k = decide ((k : Int) < a ∧ 0 < m0 3 k)) ∧ (∀ k : Nat, k < 32 → bt (m 41 8) k = decide ((k : Int) < b ∧ m0 3 k < w - 1)) ∧
  (∀ k : Nat, k < 32 → bt (m 41 9) k = decide ((k : Int) < c ∧ 0 < m0 4 k)) ∧ (∀ k : Nat, k < 32 → bt (m 41 10) k = decide ((k : Int) < e ∧ m0 4 k < d - 1))
theorem triI_7 {m0 m : Mem} {w d a b c e x : Int} (h : triI m0 w d a b c e m) (hi : 0 ≤ a ∧ a < 24) (hx : (0 < m0 3 a ∧ x = kshl 1 a) ∨ (¬ 0 < m0 3 a ∧ x = 0)) : triI m0 w d (a + 1) b c e (fset m 41 7 (kor (m 41 7) x)) := by
  obtain ⟨h1, h2, h3, h4, h5, h6⟩ := h
  refine ⟨fun o ho => by rw [← h1 o ho]; exact k_mset_ne ho, fun j j1 j2 j3 j4 => by rw [← h2 j j1 j2 j3 j4]; unfold fset; rw [k_mset_at]; exact if_neg j1, ?_, h4, h5, h6⟩
  exact tri_bit (P := fun k => 0 < m0 3 k) hi h3 hx
theorem triI_8 {m0 m : Mem} {w d a b c e x : Int} (h : triI m0 w d a b c e m) (hi : 0 ≤ b ∧ b < 24) (hx : (m0 3 b < w - 1 ∧ x = kshl 1 b) ∨ (¬ m0 3 b < w - 1 ∧ x = 0)) : triI m0 w d a (b + 1) c e (fset m 41 8 (kor (m 41 8) x)) := by
  obtain ⟨h1, h2, h3, h4, h5, h6⟩ := h
  refine ⟨fun o ho => by rw [← h1 o ho]; exact k_mset_ne ho, fun j j1 j2 j3 j4 => by rw [← h2 j j1 j2 j3 j4]; unfold fset; rw [k_mset_at]; exact if_neg j2, h3, ?_, h5, h6⟩
  exact tri_bit (P := fun k => m0 3 k < w - 1) hi h4 hx
theorem triI_9 {m0 m : Mem} {w d a b c e x : Int} (h : triI m0 w d a b c e m) (hi : 0 ≤ c ∧ c < 24) (hx : (0 < m0 4 c ∧ x = kshl 1 c) ∨ (¬ 0 < m0 4 c ∧ x = 0)) : triI m0 w d a b (c + 1) e (fset m 41 9 (kor (m 41 9) x)) := by
  obtain ⟨h1, h2, h3, h4, h5, h6⟩ := h
  refine ⟨fun o ho => by rw [← h1 o ho]; exact k_mset_ne ho, fun j j1 j2 j3 j4 => by rw [← h2 j j1 j2 j3 j4]; unfold fset; rw [k_mset_at]; exact if_neg j3, h3, h4, ?_, h6⟩
  exact tri_bit (P := fun k => 0 < m0 4 k) hi h5 hx
theorem triI_10 {m0 m : Mem} {w d a b c e x : Int} (h : triI m0 w d a b c e m) (hi : 0 ≤ e ∧ e < 24) (hx : (m0 4 e < d - 1 ∧ x = kshl 1 e) ∨ (¬ m0 4 e < d - 1 ∧ x = 0)) : triI m0 w d a b c (e + 1) (fset m 41 10 (kor (m 41 10) x)) := by
  obtain ⟨h1, h2, h3, h4, h5, h6⟩ := h
  refine ⟨fun o ho => by rw [← h1 o ho]; exact k_mset_ne ho, fun j j1 j2 j3 j4 => by rw [← h2 j j1 j2 j3 j4]; unfold fset; rw [k_mset_at]; exact if_neg j4, h3, h4, h5, ?_⟩
  exact tri_bit (P := fun k => m0 4 k < d - 1) hi h6 hx
set_option maxRecDepth 100000 in
theorem n_X10_init (B : Bs) (n ly : Nat) (hn : n ≤ 324) (r0 : List (Option Nat)) (m : Mem) (w d : Int) (hc : m 1 4 = (n : Int)) (hw : m 1 0 = w) (hd : m 1 1 = d) (hwr : 0 ≤ w ∧ w ≤ 9) (hdr : 0 ≤ d ∧ d ≤ 9) (hz : ∀ i, m 41 i = 0) : kNew B 1 M_X10_init.1 [vR 41, vR 1, vR 9, vR 22] (gS n ly 42 r0 41 10 (k_nulls 10)) (gS n ly 45 r0 41 10 [some 1, some 9, some 22, some 42, some 43, some 44, none, none, none, none, none]) m 3 9 (fun m' => triI (mzs m [42, 43, 44]) w d (min n 24) (min n 24) (min n 24) (min n 24) m') := by
  refine c_start ok_X10_init rfl rfl rfl (Nat.le_of_ble_eq_true rfl) (fun p e s mm args below meth c Qf ad0 A hX hin hend => ?_)
  refine c_seg hX ok_X10_init (Nat.le_of_ble_eq_true rfl) (Nat.le_of_ble_eq_true rfl) 0 ⟨_, rfl, rfl, rfl, rfl, rfl⟩ ?_
  refine c_obj hX (idx := 3) (pos := 510) (by decide +kernel) (by decide +kernel) rfl rfl rfl ?_
  refine c_seg hX ok_X10_init (Nat.le_of_ble_eq_true rfl) (Nat.le_of_ble_eq_true rfl) 2 ⟨_, rfl, rfl, rfl, rfl, rfl⟩ ?_
  refine c_newa hX (atype := .int) (ft := .int) (ty := 0) (n := 3) (o := 42) (cells' := 1) (slots' := 3) (G' := gS n ly 43 r0 41 10 [none, none, none, none, none, none, none, none, none, none, none]) 253 (by decide +kernel) rfl rfl (Or.inl ⟨rfl, rfl⟩) (by decide +kernel) rfl rfl rfl rfl (by omega) rfl rfl (Nat.le_of_ble_eq_true rfl) (by show 0 + 3 ≤ 9; omega) (Nat.le_refl _) (by omega) ?_
  refine c_putR hX hin (idx := 11) (ci := 10) (k := 3) (o := 41) (q := 42) (rs := [none, none, none, none, none, none, none, none, none, none, none]) (rs' := [none, none, none, some 42, none, none, none, none, none, none, none]) (G' := gS n ly 43 r0 41 10 [none, none, none, some 42, none, none, none, none, none, none, none]) (by decide +kernel) (by decide +kernel) rfl rfl rfl (fun _ => ⟨rfl, rfl⟩) rfl rfl rfl rfl ?_
  refine c_seg hX ok_X10_init (Nat.le_of_ble_eq_true rfl) (Nat.le_of_ble_eq_true rfl) 5 ⟨_, rfl, rfl, rfl, rfl, rfl⟩ ?_
  refine c_newa hX (atype := .int) (ft := .int) (ty := 0) (n := 3) (o := 43) (cells' := 2) (slots' := 6) (G' := gS n ly 44 r0 41 10 [none, none, none, some 42, none, none, none, none, none, none, none]) 253 (by decide +kernel) rfl rfl (Or.inl ⟨rfl, rfl⟩) (by decide +kernel) rfl rfl rfl rfl (by omega) rfl rfl (Nat.le_of_ble_eq_true rfl) (by show 3 + 3 ≤ 9; omega) (Nat.le_refl _) (by omega) ?_
  refine c_putR hX hin (idx := 15) (ci := 10) (k := 4) (o := 41) (q := 43) (rs := [none, none, none, some 42, none, none, none, none, none, none, none]) (rs' := [none, none, none, some 42, some 43, none, none, none, none, none, none]) (G' := gS n ly 44 r0 41 10 [none, none, none, some 42, some 43, none, none, none, none, none, none]) (by decide +kernel) (by decide +kernel) rfl rfl rfl (fun _ => ⟨rfl, rfl⟩) rfl rfl rfl rfl ?_
  refine c_seg hX ok_X10_init (Nat.le_of_ble_eq_true rfl) (Nat.le_of_ble_eq_true rfl) 8 ⟨_, rfl, rfl, rfl, rfl, rfl⟩ ?_
  refine c_newa hX (atype := .int) (ft := .int) (ty := 0) (n := 3) (o := 44) (cells' := 3) (slots' := 9) (G' := gS n ly 45 r0 41 10 [none, none, none, some 42, some 43, none, none, none, none, none, none]) 253 (by decide +kernel) rfl rfl (Or.inl ⟨rfl, rfl⟩) (by decide +kernel) rfl rfl rfl rfl (by omega) rfl rfl (Nat.le_of_ble_eq_true rfl) (by show 6 + 3 ≤ 9; omega) (Nat.le_refl _) (by omega) ?_
  refine c_putR hX hin (idx := 18) (ci := 10) (k := 5) (o := 41) (q := 44) (rs := [none, none, none, some 42, some 43, none, none, none, none, none, none]) (rs' := [none, none, none, some 42, some 43, some 44, none, none, none, none, none]) (G' := gS n ly 45 r0 41 10 [none, none, none, some 42, some 43, some 44, none, none, none, none, none]) (by decide +kernel) (by decide +kernel) rfl rfl rfl (fun _ => ⟨rfl, rfl⟩) rfl rfl rfl rfl ?_
  refine c_seg hX ok_X10_init (Nat.le_of_ble_eq_true rfl) (Nat.le_of_ble_eq_true rfl) 11 ⟨_, rfl, rfl, rfl, rfl, rfl⟩ ?_
  refine c_putR hX hin (idx := 21) (ci := 10) (k := 0) (o := 41) (q := 1) (rs := [none, none, none, some 42, some 43, some 44, none, none, none, none, none]) (rs' := [some 1, none, none, some 42, some 43, some 44, none, none, none, none, none]) (G' := gS n ly 45 r0 41 10 [some 1, none, none, some 42, some 43, some 44, none, none, none, none, none]) (by decide +kernel) (by decide +kernel) rfl rfl rfl (fun _ => ⟨rfl, rfl⟩) rfl rfl rfl rfl ?_
  refine c_seg hX ok_X10_init (Nat.le_of_ble_eq_true rfl) (Nat.le_of_ble_eq_true rfl) 13 ⟨_, rfl, rfl, rfl, rfl, rfl⟩ ?_
  refine c_putR hX hin (idx := 25) (ci := 10) (k := 1) (o := 41) (q := 9) (rs := [some 1, none, none, some 42, some 43, some 44, none, none, none, none, none]) (rs' := [some 1, some 9, none, some 42, some 43, some 44, none, none, none, none, none]) (G' := gS n ly 45 r0 41 10 [some 1, some 9, none, some 42, some 43, some 44, none, none, none, none, none]) (by decide +kernel) (by decide +kernel) rfl rfl rfl (fun _ => ⟨rfl, rfl⟩) rfl rfl rfl rfl ?_
  refine c_seg hX ok_X10_init (Nat.le_of_ble_eq_true rfl) (Nat.le_of_ble_eq_true rfl) 15 ⟨_, rfl, rfl, rfl, rfl, rfl⟩ ?_
  refine c_putR hX hin (idx := 29) (ci := 10) (k := 2) (o := 41) (q := 22) (rs := [some 1, some 9, none, some 42, some 43, some 44, none, none, none, none, none]) (rs' := [some 1, some 9, some 22, some 42, some 43, some 44, none, none, none, none, none]) (G' := gS n ly 45 r0 41 10 [some 1, some 9, some 22, some 42, some 43, some 44, none, none, none, none, none]) (by decide +kernel) (by decide +kernel) rfl rfl rfl (fun _ => ⟨rfl, rfl⟩) rfl rfl rfl rfl ?_
  refine c_seg hX ok_X10_init (Nat.le_of_ble_eq_true rfl) (Nat.le_of_ble_eq_true rfl) 17 ⟨_, rfl, rfl, rfl, rfl, rfl⟩ ?_
  generalize hm0 : mzs m [42, 43, 44] = m0 at hend ⊢
  have hm0' : mz (mz (mz m 42) 43) 44 = m0 := hm0
  rw [hm0']
  have h0c : m0 1 4 = (n : Int) := by rw [← hm0]; exact hc
  have h0w : m0 1 0 = w := by rw [← hm0]; exact hw
  have h0d : m0 1 1 = d := by rw [← hm0]; exact hd
  have h0z : ∀ i, m0 41 i = 0 := by intro i; rw [← hm0]; exact hz i
  have loop : ∀ (k : Nat) (i : Int) (x5 : Option AV) (m : Mem), 0 ≤ i → i + (k : Int) = min (n : Int) 24 → triI m0 w d i i i i m → cW B M_X10_init p e { frames := 0 + 1, cells := 3, slots := 9, locals := 40 * (0 + 1) } s mm args below meth c 3 9 Qf ad0 (gS n ly 42 r0 41 10 (k_nulls 10)).length A (gS n ly 45 r0 41 10 [some 1, some 9, some 22, some 42, some 43, some 44, none, none, none, none, none]) (k_pc M_X10_init 18) [some (vR 41), some (vR 1), some (vR 9), some (vR 22), some (vI i), x5] [] m := by
    intro k
    induction k with
    | zero =>
      intro i x5 m h0 h1 hI
      have hcm : m 1 4 = (n : Int) := by rw [hI.1 1 (by decide)]; exact h0c
      refine c_go hX ok_X10_init (Nat.le_of_ble_eq_true rfl) (Nat.le_of_ble_eq_true rfl) [18, 20, 22, 24, 26, 27] 5 18 ?_
      have hfin : cW B M_X10_init p e { frames := 0 + 1, cells := 3, slots := 9, locals := 40 * (0 + 1) } s mm args below meth c 3 9 Qf ad0 (gS n ly 42 r0 41 10 (k_nulls 10)).length A (gS n ly 45 r0 41 10 [some 1, some 9, some 22, some 42, some 43, some 44, none, none, none, none, none]) (k_pc M_X10_init 27) [some (vR 41), some (vR 1), some (vR 9), some (vR 22), some (vI i), x5] [] m := hend _ _ _ (by decide +kernel) (by rw [← show i = min (n : Int) 24 by omega]; exact hI)
      refine And.intro (fun _ => hfin) (fun h2 => And.intro (fun _ => hfin) (fun h3 => ?_))
      have h2 : i < m 1 4 := h2
      omega
    | succ k ih =>
      intro i x5 m h0 h1 hI
      have hcm : m 1 4 = (n : Int) := by rw [hI.1 1 (by decide)]; exact h0c
      have hin24 : i < 24 := by omega
      have hinn : i < n := by omega
      have t26 : ∀ (x : Int) (m : Mem), triI m0 w d (i + 1) (i + 1) (i + 1) i m → ((m0 4 i < d - 1 ∧ x = kshl 1 i) ∨ (¬ m0 4 i < d - 1 ∧ x = 0)) → cW B M_X10_init p e { frames := 0 + 1, cells := 3, slots := 9, locals := 40 * (0 + 1) } s mm args below meth c 3 9 Qf ad0 (gS n ly 42 r0 41 10 (k_nulls 10)).length A (gS n ly 45 r0 41 10 [some 1, some 9, some 22, some 42, some 43, some 44, none, none, none, none, none]) (k_pc M_X10_init 26) [some (vR 41), some (vR 1), some (vR 9), some (vR 22), some (vI i), some (vI (kshl 1 i))] [vI x, vI (m 41 10), vR 41] m := by
        intro x m hI hx
        refine c_go hX ok_X10_init (Nat.le_of_ble_eq_true rfl) (Nat.le_of_ble_eq_true rfl) [18, 20, 22, 24, 26, 27] 5 26 ?_
        exact ⟨by constructor <;> omega, ih (i + 1) _ _ (by omega) (by omega) (triI_10 hI ⟨h0, hin24⟩ hx)⟩
      have t24 : ∀ (x : Int) (m : Mem), triI m0 w d (i + 1) (i + 1) i i m → ((0 < m0 4 i ∧ x = kshl 1 i) ∨ (¬ 0 < m0 4 i ∧ x = 0)) → cW B M_X10_init p e { frames := 0 + 1, cells := 3, slots := 9, locals := 40 * (0 + 1) } s mm args below meth c 3 9 Qf ad0 (gS n ly 42 r0 41 10 (k_nulls 10)).length A (gS n ly 45 r0 41 10 [some 1, some 9, some 22, some 42, some 43, some 44, none, none, none, none, none]) (k_pc M_X10_init 24) [some (vR 41), some (vR 1), some (vR 9), some (vR 22), some (vI i), some (vI (kshl 1 i))] [vI x, vI (m 41 9), vR 41] m := by
        intro x m hI hx
        have hJ := triI_9 hI ⟨h0, hin24⟩ hx
        generalize hm1 : fset m 41 9 (kor (m 41 9) x) = m1 at hJ
        have hdm : m1 1 1 = d := by rw [hJ.1 1 (by decide)]; exact h0d
        have hym : m1 4 i = m0 4 i := by rw [hJ.1 4 (by decide)]
        refine c_go hX ok_X10_init (Nat.le_of_ble_eq_true rfl) (Nat.le_of_ble_eq_true rfl) [18, 20, 22, 24, 26, 27] 5 24 ?_
        show (0 ≤ i ∧ i < (n : Int)) ∧ (inR (fset m 41 9 (kor (m 41 9) x) 1 1 - 1)) ∧ _
        rw [hm1]
        refine ⟨⟨h0, hinn⟩, by rw [hdm]; constructor <;> omega, And.intro (fun h5 => ?_) (fun h5 => ?_)⟩
        · have h5 : m1 1 1 - 1 ≤ m1 4 i := h5
          exact t26 0 m1 hJ (Or.inr ⟨by omega, rfl⟩)
        · have h5 : m1 4 i < m1 1 1 - 1 := h5
          exact t26 _ m1 hJ (Or.inl ⟨by omega, rfl⟩)
      have t22 : ∀ (x : Int) (m : Mem), triI m0 w d (i + 1) i i i m → ((m0 3 i < w - 1 ∧ x = kshl 1 i) ∨ (¬ m0 3 i < w - 1 ∧ x = 0)) → cW B M_X10_init p e { frames := 0 + 1, cells := 3, slots := 9, locals := 40 * (0 + 1) } s mm args below meth c 3 9 Qf ad0 (gS n ly 42 r0 41 10 (k_nulls 10)).length A (gS n ly 45 r0 41 10 [some 1, some 9, some 22, some 42, some 43, some 44, none, none, none, none, none]) (k_pc M_X10_init 22) [some (vR 41), some (vR 1), some (vR 9), some (vR 22), some (vI i), some (vI (kshl 1 i))] [vI x, vI (m 41 8), vR 41] m := by
        intro x m hI hx
        have hJ := triI_8 hI ⟨h0, hin24⟩ hx
        generalize hm1 : fset m 41 8 (kor (m 41 8) x) = m1 at hJ
        have hym : m1 4 i = m0 4 i := by rw [hJ.1 4 (by decide)]
        refine c_go hX ok_X10_init (Nat.le_of_ble_eq_true rfl) (Nat.le_of_ble_eq_true rfl) [18, 20, 22, 24, 26, 27] 5 22 ?_
        show (0 ≤ i ∧ i < (n : Int)) ∧ (_ ∧ _)
        refine ⟨⟨h0, hinn⟩, And.intro (fun h5 => ?_) (fun h5 => ?_)⟩
        · have h5 : fset m 41 8 (kor (m 41 8) x) 4 i ≤ 0 := h5
          rw [hm1] at h5
          show cW B M_X10_init p e { frames := 0 + 1, cells := 3, slots := 9, locals := 40 * (0 + 1) } s mm args below meth c 3 9 Qf ad0 (gS n ly 42 r0 41 10 (k_nulls 10)).length A (gS n ly 45 r0 41 10 [some 1, some 9, some 22, some 42, some 43, some 44, none, none, none, none, none]) (k_pc M_X10_init 24) [some (vR 41), some (vR 1), some (vR 9), some (vR 22), some (vI i), some (vI (kshl 1 i))] [vI 0, vI (fset m 41 8 (kor (m 41 8) x) 41 9), vR 41] (fset m 41 8 (kor (m 41 8) x))
          rw [hm1]
          exact t24 0 m1 hJ (Or.inr ⟨by omega, rfl⟩)
        · have h5 : 0 < fset m 41 8 (kor (m 41 8) x) 4 i := h5
          rw [hm1] at h5
          show cW B M_X10_init p e { frames := 0 + 1, cells := 3, slots := 9, locals := 40 * (0 + 1) } s mm args below meth c 3 9 Qf ad0 (gS n ly 42 r0 41 10 (k_nulls 10)).length A (gS n ly 45 r0 41 10 [some 1, some 9, some 22, some 42, some 43, some 44, none, none, none, none, none]) (k_pc M_X10_init 24) [some (vR 41), some (vR 1), some (vR 9), some (vR 22), some (vI i), some (vI (kshl 1 i))] [vI (kshl 1 i), vI (fset m 41 8 (kor (m 41 8) x) 41 9), vR 41] (fset m 41 8 (kor (m 41 8) x))
          rw [hm1]
          exact t24 _ m1 hJ (Or.inl ⟨by omega, rfl⟩)
      have t20 : ∀ (x : Int) (m : Mem), triI m0 w d i i i i m → ((0 < m0 3 i ∧ x = kshl 1 i) ∨ (¬ 0 < m0 3 i ∧ x = 0)) → cW B M_X10_init p e { frames := 0 + 1, cells := 3, slots := 9, locals := 40 * (0 + 1) } s mm args below meth c 3 9 Qf ad0 (gS n ly 42 r0 41 10 (k_nulls 10)).length A (gS n ly 45 r0 41 10 [some 1, some 9, some 22, some 42, some 43, some 44, none, none, none, none, none]) (k_pc M_X10_init 20) [some (vR 41), some (vR 1), some (vR 9), some (vR 22), some (vI i), some (vI (kshl 1 i))] [vI x, vI (m 41 7), vR 41] m := by
        intro x m hI hx
        have hJ := triI_7 hI ⟨h0, hin24⟩ hx
        generalize hm1 : fset m 41 7 (kor (m 41 7) x) = m1 at hJ
        have hwm : m1 1 0 = w := by rw [hJ.1 1 (by decide)]; exact h0w
        have hym : m1 3 i = m0 3 i := by rw [hJ.1 3 (by decide)]
        refine c_go hX ok_X10_init (Nat.le_of_ble_eq_true rfl) (Nat.le_of_ble_eq_true rfl) [18, 20, 22, 24, 26, 27] 5 20 ?_
        show (0 ≤ i ∧ i < (n : Int)) ∧ (inR (fset m 41 7 (kor (m 41 7) x) 1 0 - 1)) ∧ (_ ∧ _)
        refine ⟨⟨h0, hinn⟩, by rw [hm1, hwm]; constructor <;> omega, And.intro (fun h5 => ?_) (fun h5 => ?_)⟩
        · have h5 : fset m 41 7 (kor (m 41 7) x) 1 0 - 1 ≤ fset m 41 7 (kor (m 41 7) x) 3 i := h5
          rw [hm1] at h5
          show cW B M_X10_init p e { frames := 0 + 1, cells := 3, slots := 9, locals := 40 * (0 + 1) } s mm args below meth c 3 9 Qf ad0 (gS n ly 42 r0 41 10 (k_nulls 10)).length A (gS n ly 45 r0 41 10 [some 1, some 9, some 22, some 42, some 43, some 44, none, none, none, none, none]) (k_pc M_X10_init 22) [some (vR 41), some (vR 1), some (vR 9), some (vR 22), some (vI i), some (vI (kshl 1 i))] [vI 0, vI (fset m 41 7 (kor (m 41 7) x) 41 8), vR 41] (fset m 41 7 (kor (m 41 7) x))
          rw [hm1]
          exact t22 0 m1 hJ (Or.inr ⟨by omega, rfl⟩)
        · have h5 : fset m 41 7 (kor (m 41 7) x) 3 i < fset m 41 7 (kor (m 41 7) x) 1 0 - 1 := h5
          rw [hm1] at h5
          show cW B M_X10_init p e { frames := 0 + 1, cells := 3, slots := 9, locals := 40 * (0 + 1) } s mm args below meth c 3 9 Qf ad0 (gS n ly 42 r0 41 10 (k_nulls 10)).length A (gS n ly 45 r0 41 10 [some 1, some 9, some 22, some 42, some 43, some 44, none, none, none, none, none]) (k_pc M_X10_init 22) [some (vR 41), some (vR 1), some (vR 9), some (vR 22), some (vI i), some (vI (kshl 1 i))] [vI (kshl 1 i), vI (fset m 41 7 (kor (m 41 7) x) 41 8), vR 41] (fset m 41 7 (kor (m 41 7) x))
          rw [hm1]
          exact t22 _ m1 hJ (Or.inl ⟨by omega, rfl⟩)
      have hxm : m 3 i = m0 3 i := by rw [hI.1 3 (by decide)]
      refine c_go hX ok_X10_init (Nat.le_of_ble_eq_true rfl) (Nat.le_of_ble_eq_true rfl) [18, 20, 22, 24, 26, 27] 5 18 ?_
      refine And.intro (fun h2 => ?_) (fun _ => And.intro (fun h3 => ?_) (fun _ => ⟨⟨h0, hinn⟩, And.intro (fun h5 => ?_) (fun h5 => ?_)⟩))
      · have h2 : m 1 4 ≤ i := h2
        omega
      · have h3 : 24 ≤ i := h3
        omega
      · have h5 : m 3 i ≤ 0 := h5
        exact t20 0 m hI (Or.inr ⟨by omega, rfl⟩)
      · have h5 : 0 < m 3 i := h5
        exact t20 _ m hI (Or.inl ⟨by omega, rfl⟩)
  exact loop (min n 24) 0 none m0 (by omega) (by omega) ⟨fun _ _ => rfl, fun _ _ _ _ _ => rfl, fun k _ => by rw [h0z, bt_zero]; simp; omega, fun k _ => by rw [h0z, bt_zero]; simp; omega, fun k _ => by rw [h0z, bt_zero]; simp; omega, fun k _ => by rw [h0z, bt_zero]; simp; omega⟩
