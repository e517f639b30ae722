/-! the root's constructor -/
theorem k_def_ok : ∀ ci, ci ≤ 12 → ∀ k, k < k_nf ci → defaultValue (k_ty ci k) = (if k_tc (k_ty ci k) = 1 then .null else .int 0) := by
  intro ci hci
  match ci, hci with
  | 0, _ => exact (by decide +kernel)
  | 1, _ => exact (by decide +kernel)
  | 2, _ => exact (by decide +kernel)
  | 3, _ => exact (by decide +kernel)
  | 4, _ => exact (by decide +kernel)
  | 5, _ => exact (by decide +kernel)
  | 6, _ => exact (by decide +kernel)
  | 7, _ => exact (by decide +kernel)
  | 8, _ => exact (by decide +kernel)
  | 9, _ => exact (by decide +kernel)
  | 10, _ => exact (by decide +kernel)
  | 11, _ => exact (by decide +kernel)
  | 12, _ => exact (by decide +kernel)
theorem c_X11_within (E : Ev) (m : Mem) (v lo hi : Int) : kCall E 1 M_X11_within.1 [vI v, vI lo, vI hi] m (cP (max lo (min hi v)) m) := by
  refine kCall_of ok_X11_within rfl (Nat.le_of_ble_eq_true rfl) ?_
  refine kW_go ok_X11_within [] 10 ?_
  exact ⟨rfl, rfl⟩
/-- the class's objects as they are made, up to the object k -/
def bS (w d l : Int) (ms : Mem) (k : Nat) (m : Mem) : Prop := gridC m w d l ∧ m 6 0 = l ∧ (∀ j, j ≠ 0 → m 6 j = 0) ∧ (∀ o, 7 ≤ o → o < k → o ≠ 41 → o ≠ 47 → ∀ i, m o i = 0) ∧
  (41 < k → (∀ j : Nat, j < 32 → bt (m 41 7) j = decide ((j : Int) < min (w * d * l) 24 ∧ 0 < m 3 j)) ∧ (∀ j : Nat, j < 32 → bt (m 41 8) j = decide ((j : Int) < min (w * d * l) 24 ∧ m 3 j < w - 1)) ∧ (∀ j : Nat, j < 32 → bt (m 41 9) j = decide ((j : Int) < min (w * d * l) 24 ∧ 0 < m 4 j)) ∧ (∀ j : Nat, j < 32 → bt (m 41 10) j = decide ((j : Int) < min (w * d * l) 24 ∧ m 4 j < d - 1))) ∧
  (47 < k → m 47 0 = 0 ∧ ∀ j, 1 ≤ j → j ≤ l → m 47 j = 1) ∧ ∀ o, 54 ≤ o → m o = ms o
theorem gridC_same {w d l : Int} {m m' : Mem} (h : gridC m w d l) (hs : ∀ o, 1 ≤ o → o ≤ 5 → m' o = m o) : gridC m' w d l := by
  unfold gridC
  rw [hs 1 (by decide) (by decide), hs 2 (by decide) (by decide), hs 3 (by decide) (by decide), hs 4 (by decide) (by decide), hs 5 (by decide) (by decide)]
  exact h
theorem bS_same {w d l : Int} {ms m m' : Mem} {k k' : Nat} (h : bS w d l ms k m) (hk : 7 ≤ k) (hkk : k ≤ k') (hs : ∀ o, o < k → m' o = m o) (hg : ∀ o, 54 ≤ o → m' o = m o) (hz : ∀ o, k ≤ o → o < k' → o ≠ 41 → o ≠ 47 → ∀ i, m' o i = 0) (h41 : 41 < k' → 41 < k) (h47 : 47 < k' → 47 < k) : bS w d l ms k' m' := by
  obtain ⟨h1, h2, h3, h4, h5, h6, h7⟩ := h
  refine ⟨gridC_same h1 (fun o _ o2 => hs o (by omega)), by rw [hs 6 (by omega)]; exact h2, by rw [hs 6 (by omega)]; exact h3, fun o o1 o2 o3 o4 i => ?_, fun hh => ?_, fun hh => ?_, fun o ho => by rw [hg o ho]; exact h7 o ho⟩
  · by_cases ho : o < k
    · rw [hs o ho]; exact h4 o o1 ho o3 o4 i
    · exact hz o (by omega) o2 o3 o4 i
  · rw [hs 41 (h41 hh), hs 3 (by omega), hs 4 (by omega)]
    exact h5 (h41 hh)
  · rw [hs 47 (h47 hh)]
    exact h6 (h47 hh)
theorem bS_mzs {w d l : Int} {ms m : Mem} {k k' : Nat} {os : List Nat} (h : bS w d l ms k m) (hk : 7 ≤ k) (hkk : k ≤ k') (h1 : ∀ o ∈ os, k ≤ o ∧ o < 54) (h2 : ∀ o, k ≤ o → o < k' → o ∈ os) (h41 : 41 < k' → 41 < k) (h47 : 47 < k' → 47 < k) : bS w d l ms k' (mzs m os) :=
  bS_same h hk hkk (fun o ho => mzs_ne (fun hm => by have := (h1 o hm).1; omega)) (fun o ho => mzs_ne (fun hm => by have := (h1 o hm).2; omega)) (fun o o1 o2 _ _ i => mzs_at i (h2 o o1 o2)) h41 h47
set_option maxHeartbeats 4000000 in
set_option maxRecDepth 100000 in
theorem n_X11_init (B : Bs) (n ly : Nat) (m : Mem) (a b c w d l : Int) (hw : max 2 (min 9 a) = w) (hd : max 2 (min 9 b) = d) (hl : max 1 (min 4 c) = l) (hc : w * d * l = (n : Int)) (hly : l = (ly : Int)) : kNew B 3 M_X11_init.1 [vR 0, vI a, vI b, vI c] [.inl (11, k_nulls 11)] ((G0 n ly).take 54) m 53 22318 (fun m' => bS w d l m 54 m') := by
  have hD : okD w d l := by refine ⟨by omega, by omega, by omega⟩
  have hcc := okD_cells hD
  have hn : n ≤ 324 := by omega
  have hwr : 2 ≤ w ∧ w ≤ 9 := hD.1
  have hdr : 2 ≤ d ∧ d ≤ 9 := hD.2.1
  have hlr : 1 ≤ l ∧ l ≤ 4 := hD.2.2
  refine c_start ok_X11_init rfl rfl rfl (Nat.le_of_ble_eq_true rfl) (fun p e s mm args below meth c0 Qf ad0 A hX hin hend => ?_)
  refine c_seg hX ok_X11_init (Nat.le_of_ble_eq_true rfl) (Nat.le_of_ble_eq_true rfl) 0 ⟨_, rfl, rfl, rfl, rfl, rfl⟩ ?_
  refine c_obj hX (idx := 1) (pos := 167) (by decide +kernel) (by decide +kernel) rfl rfl rfl ?_
  refine c_seg hX ok_X11_init (Nat.le_of_ble_eq_true rfl) (Nat.le_of_ble_eq_true rfl) 2 ⟨_, rfl, rfl, rfl, rfl, rfl⟩ ?_
  refine c_new hX (idx := 7) (ci := 2) (o := 1) (cells' := 1) (slots' := 9) (G' := gS n ly 2 [none, none, none, none, none, none, none, none, none, none, none] 1 2 (k_nulls 2)) 170 171 142 (by decide +kernel) (by decide +kernel) (by decide +kernel) (by decide +kernel) rfl (k_def_ok 2 (by decide)) rfl rfl rfl rfl rfl (Nat.le_of_ble_eq_true rfl) (Nat.le_of_ble_eq_true rfl) (Nat.le_refl _) (Nat.le_refl _) ?_
  refine c_seg hX ok_X11_init (Nat.le_of_ble_eq_true rfl) (Nat.le_of_ble_eq_true rfl) 4 (b1 := 5) (L1 := [some (vR 0), some (vI a), some (vI b), some (vI c)]) (S1 := [vI l, vI d, vI w, vR 1, vR 1, vR 0]) (m1 := mz m 1) ⟨_, rfl, ?_⟩ ?_
  · refine kCall_mono (c_X11_within _ _ a 2 9) (Nat.le_of_ble_eq_true rfl) ?_
    rintro _ _ ⟨rfl, rfl⟩
    refine kCall_mono (c_X11_within _ _ b 2 9) (Nat.le_of_ble_eq_true rfl) ?_
    rintro _ _ ⟨rfl, rfl⟩
    refine kCall_mono (c_X11_within _ _ c 1 4) (Nat.le_of_ble_eq_true rfl) ?_
    rintro _ _ ⟨rfl, rfl⟩
    rw [hw, hd, hl]
    exact ⟨rfl, rfl, rfl, rfl⟩
  refine c_init hX (j := 15) (n := 28) (na := 3) (o := 1) (h2 := 1) (cells' := 5) (slots' := 2925) (G' := gS n ly 6 [none, none, none, none, none, none, none, none, none, none, none] 1 2 [none, none, none, none, none, some 2, some 3, some 4, some 5]) (xs := [vI w, vI d, vI l]) (S' := [vR 1, vR 0]) _ rfl (by decide +kernel) rfl rfl (by decide +kernel) (by decide +kernel) rfl rfl rfl rfl (Nat.le_of_ble_eq_true rfl) (Nat.le_of_ble_eq_true rfl) (Nat.le_of_ble_eq_true rfl) (Nat.le_refl _) (Nat.le_refl _) (n_X2_init B n ly _ _ w d l hD hc) (fun m1 hm1 => ?_)
  obtain ⟨hg1, hf1⟩ := hm1
  refine c_putR hX hin (idx := 18) (ci := 11) (k := 0) (o := 0) (q := 1) (rs := [none, none, none, none, none, none, none, none, none, none, none]) (rs' := [some 1, none, none, none, none, none, none, none, none, none, none]) (G' := gS n ly 6 [some 1, none, none, none, none, none, none, none, none, none, none] 1 2 [none, none, none, none, none, some 2, some 3, some 4, some 5]) (by decide +kernel) (by decide +kernel) rfl rfl rfl (fun _ => ⟨rfl, rfl⟩) rfl rfl rfl rfl ?_
  refine c_seg hX ok_X11_init (Nat.le_of_ble_eq_true rfl) (Nat.le_of_ble_eq_true rfl) 7 ⟨_, rfl, rfl, rfl, rfl, rfl⟩ ?_
  refine c_new hX (idx := 22) (ci := 8) (o := 6) (cells' := 6) (slots' := 2931) (G' := gS n ly 7 [some 1, none, none, none, none, none, none, none, none, none, none] 6 8 (k_nulls 8)) 254 255 144 (by decide +kernel) (by decide +kernel) (by decide +kernel) (by decide +kernel) rfl (k_def_ok 8 (by decide)) rfl rfl rfl rfl rfl (Nat.le_of_ble_eq_true rfl) (Nat.le_of_ble_eq_true rfl) (Nat.le_refl _) (Nat.le_refl _) ?_
  refine c_seg hX ok_X11_init (Nat.le_of_ble_eq_true rfl) (Nat.le_of_ble_eq_true rfl) 9 (S1 := [vI l, vR 6, vR 6, vR 0]) ⟨_, rfl, rfl, rfl, by show [vI (mz m1 6 1 2), _, _, _] = _; rw [show mz m1 6 1 2 = l from hg1.2.2.1], rfl⟩ ?_
  refine c_init hX (j := 28) (n := 101) (na := 1) (o := 6) (h2 := 1) (cells' := 8) (slots' := 3016) (G' := gS n ly 9 [some 1, none, none, none, none, none, none, none, none, none, none] 6 8 [none, some 7, some 8, none, none, none]) (xs := [vI l]) (S' := [vR 6, vR 0]) _ rfl (by decide +kernel) rfl rfl (by decide +kernel) (by decide +kernel) rfl rfl rfl rfl (Nat.le_of_ble_eq_true rfl) (Nat.le_of_ble_eq_true rfl) (Nat.le_of_ble_eq_true rfl) (Nat.le_refl _) (Nat.le_refl _) (n_X8_init B n ly _ _ l) (fun m2 hm2 => ?_)
  have hb : bS w d l m 9 m2 := by
    have hs : ∀ o, o ≠ 6 → o ≠ 7 → o ≠ 8 → m2 o = m1 o := by
      intro o h6 h7 h8
      rw [hm2]
      unfold fset
      rw [k_mset_ne h6, mzs_ne (by simp [h7, h8]), mz_ne h6]
    refine ⟨gridC_same hg1 (fun o o1 o2 => hs o (by omega) (by omega) (by omega)), by rw [hm2]; rfl, fun j hj => ?_, fun o o1 o2 _ _ i => ?_, fun h => absurd h (by omega), fun h => absurd h (by omega), fun o ho => by rw [hs o (by omega) (by omega) (by omega), hf1 o (by omega) (by omega) (by omega) (by omega) (by omega), mz_ne (by omega)]⟩
    · rw [hm2]
      unfold fset
      rw [k_mset_at]
      refine (if_neg hj).trans ?_
      rw [mzs_ne (by decide), mz_at]
    · rw [hm2]
      unfold fset
      rw [k_mset_ne (by omega)]
      exact mzs_at i (by simp; omega)
  clear hm2 hg1 hf1
  refine c_putR hX hin (idx := 31) (ci := 11) (k := 1) (o := 0) (q := 6) (rs := [some 1, none, none, none, none, none, none, none, none, none, none]) (rs' := [some 1, some 6, none, none, none, none, none, none, none, none, none]) (G' := gS n ly 9 [some 1, some 6, none, none, none, none, none, none, none, none, none] 6 8 [none, some 7, some 8, none, none, none]) (by decide +kernel) (by decide +kernel) rfl rfl rfl (fun _ => ⟨rfl, rfl⟩) rfl rfl rfl rfl ?_
  refine c_seg hX ok_X11_init (Nat.le_of_ble_eq_true rfl) (Nat.le_of_ble_eq_true rfl) 12 ⟨_, rfl, rfl, rfl, rfl, rfl⟩ ?_
  refine c_new hX (idx := 35) (ci := 3) (o := 9) (cells' := 9) (slots' := 3031) (G' := gS n ly 10 [some 1, some 6, none, none, none, none, none, none, none, none, none] 9 3 (k_nulls 3)) 281 282 145 (by decide +kernel) (by decide +kernel) (by decide +kernel) (by decide +kernel) rfl (k_def_ok 3 (by decide)) rfl rfl rfl rfl rfl (Nat.le_of_ble_eq_true rfl) (Nat.le_of_ble_eq_true rfl) (Nat.le_refl _) (Nat.le_refl _) ?_
  refine c_seg hX ok_X11_init (Nat.le_of_ble_eq_true rfl) (Nat.le_of_ble_eq_true rfl) 14 ⟨_, rfl, rfl, rfl, rfl, rfl⟩ ?_
  refine c_init hX (j := 37) (n := 31) (na := 1) (o := 9) (h2 := 1) (cells' := 21) (slots' := 12189) (G' := gS n ly 22 [some 1, some 6, none, none, none, none, none, none, none, none, none] 9 3 [some 1, some 10, some 11, some 12, some 13, some 14, some 15, some 16, some 17, some 18, some 19, some 20, some 21, none, none]) (xs := [vR 1]) (S' := [vR 9, vR 0]) _ rfl (by decide +kernel) rfl rfl (by decide +kernel) (by decide +kernel) rfl rfl rfl rfl (Nat.le_of_ble_eq_true rfl) (Nat.le_of_ble_eq_true rfl) (Nat.le_of_ble_eq_true rfl) (Nat.le_refl _) (Nat.le_refl _) (n_X3_init B n ly hn _ _ (show _ = (n : Int) from hb.1.2.2.2.2.1.trans hc)) (fun m3 hm3 => ?_)
  have hb2 : bS w d l m 22 m3 := by
    rw [hm3]
    exact bS_mzs (os := [9, 10, 11, 12, 13, 14, 15, 16, 17, 18, 19, 20, 21]) hb (by decide) (by decide) (by decide) (fun o o1 o2 => by simp; omega) (by decide) (by decide)
  clear hm3 hb
  have hb := hb2
  clear hb2
  refine c_putR hX hin (idx := 40) (ci := 11) (k := 2) (o := 0) (q := 9) (rs := [some 1, some 6, none, none, none, none, none, none, none, none, none]) (rs' := [some 1, some 6, some 9, none, none, none, none, none, none, none, none]) (G' := gS n ly 22 [some 1, some 6, some 9, none, none, none, none, none, none, none, none] 9 3 [some 1, some 10, some 11, some 12, some 13, some 14, some 15, some 16, some 17, some 18, some 19, some 20, some 21, none, none]) (by decide +kernel) (by decide +kernel) rfl rfl rfl (fun _ => ⟨rfl, rfl⟩) rfl rfl rfl rfl ?_
  refine c_seg hX ok_X11_init (Nat.le_of_ble_eq_true rfl) (Nat.le_of_ble_eq_true rfl) 17 ⟨_, rfl, rfl, rfl, rfl, rfl⟩ ?_
  refine c_new hX (idx := 44) (ci := 6) (o := 22) (cells' := 22) (slots' := 12199) (G' := gS n ly 23 [some 1, some 6, some 9, none, none, none, none, none, none, none, none] 22 6 (k_nulls 6)) 359 360 146 (by decide +kernel) (by decide +kernel) (by decide +kernel) (by decide +kernel) rfl (k_def_ok 6 (by decide)) rfl rfl rfl rfl rfl (Nat.le_of_ble_eq_true rfl) (Nat.le_of_ble_eq_true rfl) (Nat.le_refl _) (Nat.le_refl _) ?_
  refine c_seg hX ok_X11_init (Nat.le_of_ble_eq_true rfl) (Nat.le_of_ble_eq_true rfl) 19 ⟨_, rfl, rfl, rfl, rfl, rfl⟩ ?_
  refine c_init hX (j := 46) (n := 76) (na := 2) (o := 22) (h2 := 1) (cells' := 29) (slots' := 14146) (G' := gS n ly 30 [some 1, some 6, some 9, none, none, none, none, none, none, none, none] 22 6 [some 1, some 9, some 24, some 25, some 26, some 27, some 28, some 29, some 23, none]) (xs := [vR 1, vR 9]) (S' := [vR 22, vR 0]) _ rfl (by decide +kernel) rfl rfl (by decide +kernel) (by decide +kernel) rfl rfl rfl rfl (Nat.le_of_ble_eq_true rfl) (Nat.le_of_ble_eq_true rfl) (Nat.le_of_ble_eq_true rfl) (Nat.le_refl _) (Nat.le_refl _) (n_X6_init B n ly hn _ _ (show _ = (n : Int) from hb.1.2.2.2.2.1.trans hc)) (fun m4 hm4 => ?_)
  have hb2 : bS w d l m 30 m4 := by
    rw [hm4]
    exact bS_mzs (os := [22, 23, 24, 25, 26, 27, 28, 29]) hb (by decide) (by decide) (by decide) (fun o o1 o2 => by simp; omega) (by decide) (by decide)
  clear hm4 hb
  have hb := hb2
  clear hb2
  refine c_putR hX hin (idx := 49) (ci := 11) (k := 3) (o := 0) (q := 22) (rs := [some 1, some 6, some 9, none, none, none, none, none, none, none, none]) (rs' := [some 1, some 6, some 9, some 22, none, none, none, none, none, none, none]) (G' := gS n ly 30 [some 1, some 6, some 9, some 22, none, none, none, none, none, none, none] 22 6 [some 1, some 9, some 24, some 25, some 26, some 27, some 28, some 29, some 23, none]) (by decide +kernel) (by decide +kernel) rfl rfl rfl (fun _ => ⟨rfl, rfl⟩) rfl rfl rfl rfl ?_
  refine c_seg hX ok_X11_init (Nat.le_of_ble_eq_true rfl) (Nat.le_of_ble_eq_true rfl) 22 ⟨_, rfl, rfl, rfl, rfl, rfl⟩ ?_
  refine c_new hX (idx := 53) (ci := 7) (o := 30) (cells' := 30) (slots' := 14161) (G' := gS n ly 31 [some 1, some 6, some 9, some 22, none, none, none, none, none, none, none] 30 7 (k_nulls 7)) 408 409 147 (by decide +kernel) (by decide +kernel) (by decide +kernel) (by decide +kernel) rfl (k_def_ok 7 (by decide)) rfl rfl rfl rfl rfl (Nat.le_of_ble_eq_true rfl) (Nat.le_of_ble_eq_true rfl) (Nat.le_refl _) (Nat.le_refl _) ?_
  refine c_seg hX ok_X11_init (Nat.le_of_ble_eq_true rfl) (Nat.le_of_ble_eq_true rfl) 24 ⟨_, rfl, rfl, rfl, rfl, rfl⟩ ?_
  refine c_init hX (j := 55) (n := 88) (na := 3) (o := 30) (h2 := 1) (cells' := 36) (slots' := 19993) (G' := gS n ly 37 [some 1, some 6, some 9, some 22, none, none, none, none, none, none, none] 30 7 [some 1, some 9, some 22, some 31, some 32, some 33, some 34, some 35, some 36, none, none, none, none, none, none]) (xs := [vR 1, vR 9, vR 22]) (S' := [vR 30, vR 0]) _ rfl (by decide +kernel) rfl rfl (by decide +kernel) (by decide +kernel) rfl rfl rfl rfl (Nat.le_of_ble_eq_true rfl) (Nat.le_of_ble_eq_true rfl) (Nat.le_of_ble_eq_true rfl) (Nat.le_refl _) (Nat.le_refl _) (n_X7_init B n ly hn _ _ (show _ = (n : Int) from hb.1.2.2.2.2.1.trans hc)) (fun m5 hm5 => ?_)
  have hb2 : bS w d l m 37 m5 := by
    rw [hm5]
    exact bS_mzs (os := [30, 31, 32, 33, 34, 35, 36]) hb (by decide) (by decide) (by decide) (fun o o1 o2 => by simp; omega) (by decide) (by decide)
  clear hm5 hb
  have hb := hb2
  clear hb2
  refine c_putR hX hin (idx := 58) (ci := 11) (k := 4) (o := 0) (q := 30) (rs := [some 1, some 6, some 9, some 22, none, none, none, none, none, none, none]) (rs' := [some 1, some 6, some 9, some 22, some 30, none, none, none, none, none, none]) (G' := gS n ly 37 [some 1, some 6, some 9, some 22, some 30, none, none, none, none, none, none] 30 7 [some 1, some 9, some 22, some 31, some 32, some 33, some 34, some 35, some 36, none, none, none, none, none, none]) (by decide +kernel) (by decide +kernel) rfl rfl rfl (fun _ => ⟨rfl, rfl⟩) rfl rfl rfl rfl ?_
  refine c_seg hX ok_X11_init (Nat.le_of_ble_eq_true rfl) (Nat.le_of_ble_eq_true rfl) 27 ⟨_, rfl, rfl, rfl, rfl, rfl⟩ ?_
  refine c_new hX (idx := 62) (ci := 5) (o := 37) (cells' := 37) (slots' := 19999) (G' := gS n ly 38 [some 1, some 6, some 9, some 22, some 30, none, none, none, none, none, none] 37 5 (k_nulls 5)) 461 462 148 (by decide +kernel) (by decide +kernel) (by decide +kernel) (by decide +kernel) rfl (k_def_ok 5 (by decide)) rfl rfl rfl rfl rfl (Nat.le_of_ble_eq_true rfl) (Nat.le_of_ble_eq_true rfl) (Nat.le_refl _) (Nat.le_refl _) ?_
  refine c_seg hX ok_X11_init (Nat.le_of_ble_eq_true rfl) (Nat.le_of_ble_eq_true rfl) 29 ⟨_, rfl, rfl, rfl, rfl, rfl⟩ ?_
  refine c_init hX (j := 64) (n := 67) (na := 4) (o := 37) (h2 := 1) (cells' := 39) (slots' := 20647) (G' := gS n ly 40 [some 1, some 6, some 9, some 22, some 30, none, none, none, none, none, none] 37 5 [some 1, some 9, some 22, some 30, some 38, some 39]) (xs := [vR 1, vR 9, vR 22, vR 30]) (S' := [vR 37, vR 0]) _ rfl (by decide +kernel) rfl rfl (by decide +kernel) (by decide +kernel) rfl rfl rfl rfl (Nat.le_of_ble_eq_true rfl) (Nat.le_of_ble_eq_true rfl) (Nat.le_of_ble_eq_true rfl) (Nat.le_refl _) (Nat.le_refl _) (n_X5_init B n ly hn _ _ (show _ = (n : Int) from hb.1.2.2.2.2.1.trans hc)) (fun m6 hm6 => ?_)
  have hb2 : bS w d l m 40 m6 := by
    rw [hm6]
    exact bS_mzs (os := [37, 38, 39]) hb (by decide) (by decide) (by decide) (fun o o1 o2 => by simp; omega) (by decide) (by decide)
  clear hm6 hb
  have hb := hb2
  clear hb2
  refine c_putR hX hin (idx := 67) (ci := 11) (k := 5) (o := 0) (q := 37) (rs := [some 1, some 6, some 9, some 22, some 30, none, none, none, none, none, none]) (rs' := [some 1, some 6, some 9, some 22, some 30, some 37, none, none, none, none, none]) (G' := gS n ly 40 [some 1, some 6, some 9, some 22, some 30, some 37, none, none, none, none, none] 37 5 [some 1, some 9, some 22, some 30, some 38, some 39]) (by decide +kernel) (by decide +kernel) rfl rfl rfl (fun _ => ⟨rfl, rfl⟩) rfl rfl rfl rfl ?_
  refine c_seg hX ok_X11_init (Nat.le_of_ble_eq_true rfl) (Nat.le_of_ble_eq_true rfl) 32 ⟨_, rfl, rfl, rfl, rfl, rfl⟩ ?_
  refine c_new hX (idx := 71) (ci := 1) (o := 40) (cells' := 40) (slots' := 20651) (G' := gS n ly 41 [some 1, some 6, some 9, some 22, some 30, some 37, none, none, none, none, none] 40 1 (k_nulls 1)) 486 487 149 (by decide +kernel) (by decide +kernel) (by decide +kernel) (by decide +kernel) rfl (k_def_ok 1 (by decide)) rfl rfl rfl rfl rfl (Nat.le_of_ble_eq_true rfl) (Nat.le_of_ble_eq_true rfl) (Nat.le_refl _) (Nat.le_refl _) ?_
  refine c_seg hX ok_X11_init (Nat.le_of_ble_eq_true rfl) (Nat.le_of_ble_eq_true rfl) 34 ⟨_, rfl, rfl, rfl, rfl, rfl⟩ ?_
  refine c_init hX (j := 73) (n := 17) (na := 4) (o := 40) (h2 := 1) (cells' := 40) (slots' := 20651) (G' := gS n ly 41 [some 1, some 6, some 9, some 22, some 30, some 37, none, none, none, none, none] 40 1 [some 1, some 9, some 22, some 30]) (xs := [vR 1, vR 9, vR 22, vR 30]) (S' := [vR 40, vR 0]) _ rfl (by decide +kernel) rfl rfl (by decide +kernel) (by decide +kernel) rfl rfl rfl rfl (Nat.le_of_ble_eq_true rfl) (Nat.le_of_ble_eq_true rfl) (Nat.le_of_ble_eq_true rfl) (Nat.le_refl _) (Nat.le_refl _) (n_X1_init B n ly hn _ _ (show _ = (n : Int) from hb.1.2.2.2.2.1.trans hc)) (fun m7 hm7 => ?_)
  have hb2 : bS w d l m 41 m7 := by
    rw [hm7]
    exact bS_mzs (os := [40]) hb (by decide) (by decide) (by decide) (fun o o1 o2 => by simp; omega) (by decide) (by decide)
  clear hm7 hb
  have hb := hb2
  clear hb2
  refine c_putR hX hin (idx := 74) (ci := 11) (k := 6) (o := 0) (q := 40) (rs := [some 1, some 6, some 9, some 22, some 30, some 37, none, none, none, none, none]) (rs' := [some 1, some 6, some 9, some 22, some 30, some 37, some 40, none, none, none, none]) (G' := gS n ly 41 [some 1, some 6, some 9, some 22, some 30, some 37, some 40, none, none, none, none] 40 1 [some 1, some 9, some 22, some 30]) (by decide +kernel) (by decide +kernel) rfl rfl rfl (fun _ => ⟨rfl, rfl⟩) rfl rfl rfl rfl ?_
  refine c_seg hX ok_X11_init (Nat.le_of_ble_eq_true rfl) (Nat.le_of_ble_eq_true rfl) 37 ⟨_, rfl, rfl, rfl, rfl, rfl⟩ ?_
  refine c_new hX (idx := 78) (ci := 10) (o := 41) (cells' := 41) (slots' := 20662) (G' := gS n ly 42 [some 1, some 6, some 9, some 22, some 30, some 37, some 40, none, none, none, none] 41 10 (k_nulls 10)) 505 506 150 (by decide +kernel) (by decide +kernel) (by decide +kernel) (by decide +kernel) rfl (k_def_ok 10 (by decide)) rfl rfl rfl rfl rfl (Nat.le_of_ble_eq_true rfl) (Nat.le_of_ble_eq_true rfl) (Nat.le_refl _) (Nat.le_refl _) ?_
  refine c_seg hX ok_X11_init (Nat.le_of_ble_eq_true rfl) (Nat.le_of_ble_eq_true rfl) 39 ⟨_, rfl, rfl, rfl, rfl, rfl⟩ ?_
  refine c_init hX (j := 80) (n := 119) (na := 3) (o := 41) (h2 := 1) (cells' := 44) (slots' := 20671) (G' := gS n ly 45 [some 1, some 6, some 9, some 22, some 30, some 37, some 40, none, none, none, none] 41 10 [some 1, some 9, some 22, some 42, some 43, some 44, none, none, none, none, none]) (xs := [vR 1, vR 9, vR 22]) (S' := [vR 41, vR 0]) _ rfl (by decide +kernel) rfl rfl (by decide +kernel) (by decide +kernel) rfl rfl rfl rfl (Nat.le_of_ble_eq_true rfl) (Nat.le_of_ble_eq_true rfl) (Nat.le_of_ble_eq_true rfl) (Nat.le_refl _) (Nat.le_refl _) (n_X10_init B n ly hn _ _ w d (show _ = (n : Int) from hb.1.2.2.2.2.1.trans hc) hb.1.1 hb.1.2.1 (by omega) (by omega) (fun i => mz_at i)) (fun m8 hm8 => ?_)
  have hb2 : bS w d l m 45 m8 := by
    obtain ⟨t1, t2, t3, t4, t5, t6⟩ := hm8
    have hs : ∀ o, o < 41 → m8 o = m7 o := fun o ho => by rw [t1 o (by omega), mzs_ne (by simp; omega), mz_ne (by omega)]
    obtain ⟨h1, h2, h3, h4, h5, h6, h7⟩ := hb
    refine ⟨gridC_same h1 (fun o o1 o2 => hs o (by omega)), by rw [hs 6 (by omega)]; exact h2, by rw [hs 6 (by omega)]; exact h3, fun o o1 o2 o3 o4 i => ?_, fun _ => ?_, fun h => absurd h (by omega), fun o ho => by rw [t1 o (by omega), mzs_ne (by simp; omega), mz_ne (by omega)]; exact h7 o ho⟩
    · by_cases hk : o < 41
      · rw [hs o hk]; exact h4 o o1 hk o3 o4 i
      · rw [t1 o o3]; exact mzs_at i (by simp; omega)
    · rw [hs 3 (by omega), hs 4 (by omega), hc]
      exact ⟨t3, t4, t5, t6⟩
  clear hm8 hb
  have hb := hb2
  clear hb2
  refine c_putR hX hin (idx := 81) (ci := 11) (k := 7) (o := 0) (q := 41) (rs := [some 1, some 6, some 9, some 22, some 30, some 37, some 40, none, none, none, none]) (rs' := [some 1, some 6, some 9, some 22, some 30, some 37, some 40, some 41, none, none, none]) (G' := gS n ly 45 [some 1, some 6, some 9, some 22, some 30, some 37, some 40, some 41, none, none, none] 41 10 [some 1, some 9, some 22, some 42, some 43, some 44, none, none, none, none, none]) (by decide +kernel) (by decide +kernel) rfl rfl rfl (fun _ => ⟨rfl, rfl⟩) rfl rfl rfl rfl ?_
  refine c_seg hX ok_X11_init (Nat.le_of_ble_eq_true rfl) (Nat.le_of_ble_eq_true rfl) 42 ⟨_, rfl, rfl, rfl, rfl, rfl⟩ ?_
  refine c_new hX (idx := 85) (ci := 4) (o := 45) (cells' := 45) (slots' := 20676) (G' := gS n ly 46 [some 1, some 6, some 9, some 22, some 30, some 37, some 40, some 41, none, none, none] 45 4 (k_nulls 4)) 545 546 151 (by decide +kernel) (by decide +kernel) (by decide +kernel) (by decide +kernel) rfl (k_def_ok 4 (by decide)) rfl rfl rfl rfl rfl (Nat.le_of_ble_eq_true rfl) (Nat.le_of_ble_eq_true rfl) (Nat.le_refl _) (Nat.le_refl _) ?_
  refine c_seg hX ok_X11_init (Nat.le_of_ble_eq_true rfl) (Nat.le_of_ble_eq_true rfl) 44 ⟨_, rfl, rfl, rfl, rfl, rfl⟩ ?_
  refine c_init hX (j := 87) (n := 60) (na := 3) (o := 45) (h2 := 1) (cells' := 45) (slots' := 20676) (G' := gS n ly 46 [some 1, some 6, some 9, some 22, some 30, some 37, some 40, some 41, none, none, none] 45 4 [some 1, some 9, some 22, none, none]) (xs := [vR 1, vR 9, vR 22]) (S' := [vR 45, vR 0]) _ rfl (by decide +kernel) rfl rfl (by decide +kernel) (by decide +kernel) rfl rfl rfl rfl (Nat.le_of_ble_eq_true rfl) (Nat.le_of_ble_eq_true rfl) (Nat.le_of_ble_eq_true rfl) (Nat.le_refl _) (Nat.le_refl _) (n_X4_init B n ly hn _ _ (show _ = (n : Int) from hb.1.2.2.2.2.1.trans hc)) (fun m9 hm9 => ?_)
  have hb2 : bS w d l m 46 m9 := by
    rw [hm9]
    exact bS_mzs (os := [45]) hb (by decide) (by decide) (by decide) (fun o o1 o2 => by simp; omega) (by decide) (by decide)
  clear hm9 hb
  have hb := hb2
  clear hb2
  refine c_putR hX hin (idx := 88) (ci := 11) (k := 8) (o := 0) (q := 45) (rs := [some 1, some 6, some 9, some 22, some 30, some 37, some 40, some 41, none, none, none]) (rs' := [some 1, some 6, some 9, some 22, some 30, some 37, some 40, some 41, some 45, none, none]) (G' := gS n ly 46 [some 1, some 6, some 9, some 22, some 30, some 37, some 40, some 41, some 45, none, none] 45 4 [some 1, some 9, some 22, none, none]) (by decide +kernel) (by decide +kernel) rfl rfl rfl (fun _ => ⟨rfl, rfl⟩) rfl rfl rfl rfl ?_
  refine c_seg hX ok_X11_init (Nat.le_of_ble_eq_true rfl) (Nat.le_of_ble_eq_true rfl) 47 ⟨_, rfl, rfl, rfl, rfl, rfl⟩ ?_
  refine c_new hX (idx := 92) (ci := 0) (o := 46) (cells' := 46) (slots' := 20685) (G' := gS n ly 47 [some 1, some 6, some 9, some 22, some 30, some 37, some 40, some 41, some 45, none, none] 46 0 (k_nulls 0)) 567 568 152 (by decide +kernel) (by decide +kernel) (by decide +kernel) (by decide +kernel) rfl (k_def_ok 0 (by decide)) rfl rfl rfl rfl rfl (Nat.le_of_ble_eq_true rfl) (Nat.le_of_ble_eq_true rfl) (Nat.le_refl _) (Nat.le_refl _) ?_
  refine c_seg hX ok_X11_init (Nat.le_of_ble_eq_true rfl) (Nat.le_of_ble_eq_true rfl) 49 ⟨_, rfl, rfl, rfl, rfl, rfl⟩ ?_
  refine c_init hX (j := 94) (n := 0) (na := 2) (o := 46) (h2 := 2) (cells' := 50) (slots' := 21662) (G' := gS n ly 51 [some 1, some 6, some 9, some 22, some 30, some 37, some 40, some 41, some 45, none, none] 46 0 [some 1, some 9, some 47, none, none, some 48, some 49, some 50, none]) (xs := [vR 1, vR 9]) (S' := [vR 46, vR 0]) _ rfl (by decide +kernel) rfl rfl (by decide +kernel) (by decide +kernel) rfl rfl rfl rfl (Nat.le_of_ble_eq_true rfl) (Nat.le_of_ble_eq_true rfl) (Nat.le_of_ble_eq_true rfl) (Nat.le_refl _) (Nat.le_refl _) (n_X0_init B n ly hn (by omega) _ _ (show _ = (n : Int) from hb.1.2.2.2.2.1.trans hc) (show _ = (ly : Int) from hb.1.2.2.1.trans hly)) (fun m10 hm10 => ?_)
  have hb2 : bS w d l m 51 m10 := by
    have hs : ∀ o, o < 46 ∨ 54 ≤ o → m10 o = m9 o := fun o ho => by rw [hm10, mzs_ne (by simp; omega), k_mset_ne (by omega), mfill_ne (by omega), mz_ne (by omega), mz_ne (by omega)]
    obtain ⟨h1, h2, h3, h4, h5, h6, h7⟩ := hb
    refine ⟨gridC_same h1 (fun o o1 o2 => hs o (by omega)), by rw [hs 6 (by omega)]; exact h2, by rw [hs 6 (by omega)]; exact h3, fun o o1 o2 o3 o4 i => ?_, fun _ => by rw [hs 41 (by omega), hs 3 (by omega), hs 4 (by omega)]; exact h5 (by omega), fun _ => ?_, fun o ho => by rw [hs o (Or.inr ho)]; exact h7 o ho⟩
    · by_cases hk : o < 46
      · rw [hs o (Or.inl hk)]; exact h4 o o1 hk o3 o4 i
      · by_cases h46 : o = 46
        · subst h46
          rw [hm10, mzs_ne (by decide), k_mset_ne (by decide), mfill_ne (by decide), mz_ne (by decide), mz_at]
        · rw [hm10]; exact mzs_at i (by simp; omega)
    · rw [hm10, mzs_ne (by decide)]
      refine ⟨by rw [k_mset_at]; rfl, fun j j1 j2 => ?_⟩
      rw [k_mset_at, if_neg (by omega), mfill_at, if_pos (by omega)]
  clear hm10 hb
  have hb := hb2
  clear hb2
  refine c_putR hX hin (idx := 95) (ci := 11) (k := 9) (o := 0) (q := 46) (rs := [some 1, some 6, some 9, some 22, some 30, some 37, some 40, some 41, some 45, none, none]) (rs' := [some 1, some 6, some 9, some 22, some 30, some 37, some 40, some 41, some 45, some 46, none]) (G' := gS n ly 51 [some 1, some 6, some 9, some 22, some 30, some 37, some 40, some 41, some 45, some 46, none] 46 0 [some 1, some 9, some 47, none, none, some 48, some 49, some 50, none]) (by decide +kernel) (by decide +kernel) rfl rfl rfl (fun _ => ⟨rfl, rfl⟩) rfl rfl rfl rfl ?_
  refine c_seg hX ok_X11_init (Nat.le_of_ble_eq_true rfl) (Nat.le_of_ble_eq_true rfl) 52 ⟨_, rfl, rfl, rfl, rfl, rfl⟩ ?_
  refine c_new hX (idx := 99) (ci := 9) (o := 51) (cells' := 51) (slots' := 21668) (G' := gS n ly 52 [some 1, some 6, some 9, some 22, some 30, some 37, some 40, some 41, some 45, some 46, none] 51 9 (k_nulls 9)) 607 608 154 (by decide +kernel) (by decide +kernel) (by decide +kernel) (by decide +kernel) rfl (k_def_ok 9 (by decide)) rfl rfl rfl rfl rfl (Nat.le_of_ble_eq_true rfl) (Nat.le_of_ble_eq_true rfl) (Nat.le_refl _) (Nat.le_refl _) ?_
  refine c_seg hX ok_X11_init (Nat.le_of_ble_eq_true rfl) (Nat.le_of_ble_eq_true rfl) 54 ⟨_, rfl, rfl, rfl, rfl, rfl⟩ ?_
  refine c_init hX (j := 101) (n := 111) (na := 3) (o := 51) (h2 := 1) (cells' := 53) (slots' := 22318) (G' := gS n ly 54 [some 1, some 6, some 9, some 22, some 30, some 37, some 40, some 41, some 45, some 46, none] 51 9 [some 1, some 9, some 22, some 52, some 53, none]) (xs := [vR 1, vR 9, vR 22]) (S' := [vR 51, vR 0]) _ rfl (by decide +kernel) rfl rfl (by decide +kernel) (by decide +kernel) rfl rfl rfl rfl (Nat.le_of_ble_eq_true rfl) (Nat.le_of_ble_eq_true rfl) (Nat.le_of_ble_eq_true rfl) (Nat.le_refl _) (Nat.le_refl _) (n_X9_init B n ly hn _ _ (show _ = (n : Int) from hb.1.2.2.2.2.1.trans hc)) (fun m11 hm11 => ?_)
  have hb2 : bS w d l m 54 m11 := by
    rw [hm11]
    exact bS_mzs (os := [51, 52, 53]) hb (by decide) (by decide) (by decide) (fun o o1 o2 => by simp; omega) (by decide) (by decide)
  clear hm11 hb
  have hb := hb2
  clear hb2
  refine c_putR hX hin (idx := 102) (ci := 11) (k := 10) (o := 0) (q := 51) (rs := [some 1, some 6, some 9, some 22, some 30, some 37, some 40, some 41, some 45, some 46, none]) (rs' := [some 1, some 6, some 9, some 22, some 30, some 37, some 40, some 41, some 45, some 46, some 51]) (G' := (G0 n ly).take 54) (by decide +kernel) (by decide +kernel) rfl rfl rfl (fun _ => ⟨rfl, rfl⟩) rfl rfl rfl rfl ?_
  exact hend _ _ _ (by decide +kernel) hb
