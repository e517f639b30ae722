/-! the reference's go -/
theorem aT_ne {n a b : Int} {m : Mem} {o : Nat} (h8 : o ≠ 68) (h9 : o ≠ 69) (h0 : o ≠ 70) (h2 : o ≠ 72) : aT n a b m o = m o := by
  unfold aT
  show mset (mset (mset (mset (mset m 69 _ _) 70 _ _) 68 _ _) 72 _ _) 72 _ _ o = m o
  rw [k_mset_ne h2, k_mset_ne h2, k_mset_ne h8, k_mset_ne h0, k_mset_ne h9]
theorem aT_68 {n a b : Int} {m : Mem} : aT n a b m 68 = fun j => if j = n then m 68 n + 1 else m 68 j := by
  funext j
  unfold aT
  show mset (mset (mset (mset (mset m 69 _ _) 70 _ _) 68 _ _) 72 _ _) 72 _ _ 68 j = _
  rw [k_mset_ne (by decide), k_mset_ne (by decide), k_mset_at, k_mset_ne (by decide), k_mset_ne (by decide)]
theorem aT_69 {n a b : Int} {m : Mem} : aT n a b m 69 = fun j => if j = 2400 * n + m 68 n then a else m 69 j := by
  funext j
  unfold aT
  show mset (mset (mset (mset (mset m 69 _ _) 70 _ _) 68 _ _) 72 _ _) 72 _ _ 69 j = _
  rw [k_mset_ne (by decide), k_mset_ne (by decide), k_mset_ne (by decide), k_mset_ne (by decide), k_mset_at]
theorem aT_70 {n a b : Int} {m : Mem} : aT n a b m 70 = fun j => if j = 2400 * n + m 68 n then b else m 70 j := by
  funext j
  unfold aT
  show mset (mset (mset (mset (mset m 69 _ _) 70 _ _) 68 _ _) 72 _ _) 72 _ _ 70 j = _
  rw [k_mset_ne (by decide), k_mset_ne (by decide), k_mset_ne (by decide), k_mset_at, k_mset_ne (by decide)]
theorem aT_72 {n a b : Int} {m : Mem} : aT n a b m 72 = fun j => if j = 324 * n + b then kor (if 324 * n + b = 324 * n + a then kor (m 72 (324 * n + a)) 2 else m 72 (324 * n + b)) 2 else if j = 324 * n + a then kor (m 72 (324 * n + a)) 2 else m 72 j := by
  funext j
  unfold aT
  show mset (mset (mset (mset (mset m 69 _ _) 70 _ _) 68 _ _) 72 _ _) 72 _ (kor (mset (mset (mset (mset m 69 _ _) 70 _ _) 68 _ _) 72 _ _ 72 _) 2) 72 j = _
  have e : ∀ (i1 v1 i2 v2 i3 v3 z : Int), mset (mset (mset m 69 i1 v1) 70 i2 v2) 68 i3 v3 72 z = m 72 z := fun i1 v1 i2 v2 i3 v3 z => by rw [k_mset_ne (by decide), k_mset_ne (by decide), k_mset_ne (by decide)]
  simp only [k_mset_at, e]
/-- traces added along a row of moves, in the reference -/
def adR (w d l n : Int) : List Int → Int → Mem → Mem
  | [], _, m => m
  | k :: ks, x, m => adR w d l n ks (nx w d l x k) (aT n (cR w d x) (cR w d (nx w d l x k)) m)
theorem aT_cong {n a b : Int} {m m' : Mem} (h8 : m' 68 = m 68) (h9 : m' 69 = m 69) (h0 : m' 70 = m 70) (h2 : m' 72 = m 72) : aT n a b m' 68 = aT n a b m 68 ∧ aT n a b m' 69 = aT n a b m 69 ∧ aT n a b m' 70 = aT n a b m 70 ∧ aT n a b m' 72 = aT n a b m 72 := by
  rw [aT_68, aT_68, aT_69, aT_69, aT_70, aT_70, aT_72, aT_72, h8, h9, h0, h2]
  exact ⟨rfl, rfl, rfl, rfl⟩
theorem adR_ne {w d l n : Int} {o : Nat} (h8 : o ≠ 68) (h9 : o ≠ 69) (h0 : o ≠ 70) (h2 : o ≠ 72) : ∀ (ks : List Int) (x : Int) (m : Mem), adR w d l n ks x m o = m o
  | [], _, _ => rfl
  | k :: ks, x, m => by
    show adR w d l n ks (nx w d l x k) _ o = m o
    rw [adR_ne h8 h9 h0 h2 ks, aT_ne h8 h9 h0 h2]
theorem adR_cong {w d l n : Int} : ∀ (ks : List Int) (x : Int) {m m' : Mem}, m' 68 = m 68 → m' 69 = m 69 → m' 70 = m 70 → m' 72 = m 72 → adR w d l n ks x m' 68 = adR w d l n ks x m 68 ∧ adR w d l n ks x m' 69 = adR w d l n ks x m 69 ∧ adR w d l n ks x m' 70 = adR w d l n ks x m 70 ∧ adR w d l n ks x m' 72 = adR w d l n ks x m 72
  | [], _, _, _, h8, h9, h0, h2 => ⟨h8, h9, h0, h2⟩
  | k :: ks, x, m, m', h8, h9, h0, h2 => by
    obtain ⟨a, b, c, e⟩ := aT_cong (n := n) (a := cR w d x) (b := cR w d (nx w d l x k)) h8 h9 h0 h2
    exact adR_cong ks (nx w d l x k) a b c e
theorem wsOk_same {w d l mv : Int} {F J : Int → Prop} {cs : Int → Int → Int} {be : Int} {m m' : Mem} (h : m' 79 = m 79) (hW : wsOk w d l mv F J cs be m) : wsOk w d l mv F J cs be m' := by
  unfold wsOk stl at hW ⊢
  rw [h]
  exact hW
theorem wsAt_same {w d l mv : Int} {F J : Int → Prop} {cs : Int → Int → Int} {be : Int} {m m' : Mem} {x dir : Int} (h : m' 79 = m 79) (h2 : m' 80 = m 80) (hW : wsAt w d l mv F J cs be m x dir) : wsAt w d l mv F J cs be m' x dir := by
  unfold wsAt mvOk stl at hW ⊢
  rw [h, h2]
  exact hW
set_option maxRecDepth 100000 in
theorem c_X12_go (X : Xv) (c m : Mem) {w d l mv st vi be : Int} {ex : Int → Int} {n : Int} {J : Int → Prop} (hD : okD w d l) (hs : srt c) (hG : RelG w d l c m) (hn : 0 ≤ n ∧ n < c 9 14) (hR : RWf w d l mv st vi be ex n m) (hJ : ∀ x, inC w d l x → (m 78 (cR w d x) ≠ 0 ↔ J x)) (hJF : ∀ x, J x → frT w d l (cntT m) c n 0 x) (p : Int) (hp : inC w d l p) (h68 : 0 ≤ m 68 n ∧ m 68 n ≤ 2000) : kCall (eX X) 7 M_X12_go.1 [vR 54, vI n, vI (cR w d p)] m (fun r m' => ((∀ ks C, ¬ row w d l mv (frT w d l (cntT m) c n 0) J (csF st vi ex) be ks p 4 C) ∧ r = some (vI (-1)) ∧ ∀ o, o ≠ 79 → o ≠ 80 → m' o = m o) ∨ ∃ (C : Int) (q : Nat) (ks : List Int), Ls w d l mv (frT w d l (cntT m) c n 0) J (csF st vi ex) be p 4 C q ∧ pth w d l mv (frT w d l (cntT m) c n 0) J (csF st vi ex) be ks p 4 ∧ r = some (vI C) ∧ (0 ≤ C ∧ C ≤ 115992) ∧ ∀ o, o ≠ 79 → o ≠ 80 → m' o = adR w d l n ks p m o) := by
  have ha := hs.1
  have hd := hG.1
  have hn8 : 0 ≤ n ∧ n < 8 := by omega
  have hcs := RWf_cs hR
  refine kCall_ofT ok_X12_go rfl (Nat.le_of_ble_eq_true rfl) (fun T hT => ?_)
  obtain ⟨F, hFe⟩ : ∃ F, F = frT w d l (cntT m) c n 0 := ⟨_, rfl⟩
  rw [← hFe] at hT hJF
  have hpi := stl_idx hD hp (dir := 4) (by omega)
  have hpb : 0 ≤ 5 * cR w d p + 4 ∧ 5 * cR w d p + 4 < ((1620 : Nat) : Int) := hpi
  refine kW_go ok_X12_go [1] 20 ?_
  refine kCall_mono (c_X12_weigh X c m hD hs hG hn hR hJ) (Nat.le_of_ble_eq_true rfl) ?_
  rintro _ m1 ⟨rfl, f1, hF1, hW1, hA1⟩
  rw [← hFe] at hF1 hW1 hA1
  have hR1 : RWf w d l mv st vi be ex n m1 := RWf_same hR (fun o ho => f1 o (by omega) (by omega))
  have hd1 : dimM m1 w d l := by unfold dimM fld at hd ⊢; rw [f1 54 (by decide) (by decide)]; exact hd
  refine ⟨by constructor <;> omega, by constructor <;> omega, hpb, And.intro (fun hne => ?_) (fun heq => ?_)⟩
  · have hne : ¬ m1 79 (5 * cR w d p + 4) = 1000000000 := hne
    rcases hW1.2.1 p 4 hp (by omega) with z | ⟨ks0, C0, r0, -⟩
    · exact absurd z hne
    obtain ⟨C, q, hL⟩ := Ls_ex hcs.1 hcs.2 r0
    obtain ⟨hkey, hCb, hq⟩ := ws_key hD hR1 hF1 hJF hW1 hA1 hp (by omega) hL
    obtain ⟨ks, hpth⟩ := pth_ex q hL
    have hrow := pth_row hpth hL
    have hdv : (m1 79 (5 * cR w d p + 4)).tdiv 1000 = C := by
      have : m1 79 (5 * cR w d p + 4) = 1000 * C + (q : Int) := hkey
      rw [this, Int.tdiv_eq_ediv_of_nonneg (by omega)]
      omega
    -- the walk
    have walk : ∀ (ks : List Int) (x dir C' : Int) (q' : Nat) (m' : Mem) (x6 x7 : Option AV), inC w d l x → (0 ≤ dir ∧ dir < 5) → Ls w d l mv F J (csF st vi ex) be x dir C' q' → pth w d l mv F J (csF st vi ex) be ks x dir → (∀ o, o ≠ 68 → o ≠ 69 → o ≠ 70 → o ≠ 72 → m' o = m1 o) → (0 ≤ m' 68 n ∧ m' 68 n + (ks.length : Int) ≤ 2400) → (∀ M : Mem, (∀ o, o ≠ 79 → o ≠ 80 → M o = adR w d l n ks x m' o) → T (some (vI C)) M) → kW (eX X) 6 M_X12_go T 2 [some (vR 54), some (vI n), some (vI (cR w d p)), some (vI C), some (vI (cR w d x)), some (vI dir), x6, x7] [] m' := by
      intro ks
      induction ks with
      | nil =>
        intro x dir C' q' m' x6 x7 hx hdir hL' hp' hf' h68' hfin
        have hg := cR_geo hD hx
        have f78 : m' 78 = m 78 := by rw [hf' 78 (by decide) (by decide) (by decide) (by decide), f1 78 (by decide) (by decide)]
        refine kW_go ok_X12_go [3] 20 ?_
        refine ⟨hg.1, And.intro (fun _ => hfin m' (fun _ _ _ => rfl)) (fun h => ?_)⟩
        have h : m' 78 (cR w d x) = 0 := h
        rw [f78] at h
        exact absurd h ((hJ x hx).mpr hp')
      | cons k ks ih =>
        intro x dir C' q' m' x6 x7 hx hdir hL' hp' hf' h68' hfin
        obtain ⟨p1, p2, p3, p4⟩ := hp'
        simp only [List.length_cons] at h68'
        have hg := cR_geo hD hx
        have f78 : m' 78 = m 78 := by rw [hf' 78 (by decide) (by decide) (by decide) (by decide), f1 78 (by decide) (by decide)]
        have f79 : m' 79 = m1 79 := hf' 79 (by decide) (by decide) (by decide) (by decide)
        have f80 : m' 80 = m1 80 := hf' 80 (by decide) (by decide) (by decide) (by decide)
        have hR' : RWf w d l mv st vi be ex n m' := RWf_same hR1 (fun o ho => hf' o (by omega) (by omega) (by omega) (by omega))
        have hd' : dimM m' w d l := by unfold dimM fld at hd1 ⊢; rw [hf' 54 (by decide) (by decide) (by decide) (by decide)]; exact hd1
        have hmv := RWf_mv hR
        -- the first way that leads
        have ways : ∀ (r : Nat) (j : Int), j + r = k → 0 ≤ j → kW (eX X) 6 M_X12_go T 3 [some (vR 54), some (vI n), some (vI (cR w d p)), some (vI C), some (vI (cR w d x)), some (vI dir), some (vI j), x7] [] m' := by
          intro r
          induction r with
          | zero =>
            intro j hjr hj0
            have hjk : j = k := by omega
            subst hjk
            obtain ⟨b1, b2, C1, n1, C2, n2, b3, b4, b5, b6⟩ := id p2
            have hyi := (nx_in b2).1
            have hdr := dr_in hdir b1.1 (k := j)
            refine kW_go ok_X12_go [3, 6] 20 ?_
            refine kCall_mono (c_X12_leads X c m' hd' hn8 hR' (F := F) (J := J) (fun y hy => by rw [f80]; exact hF1 y hy) hJF (wsOk_same f79 hW1) (fun y e hy he => wsAt_same f79 f80 (hA1 y e hy he)) hx hdir hL' p1 j b1) (Nat.le_of_ble_eq_true rfl) ?_
            rintro _ m2 ⟨⟨-, rfl⟩ | ⟨hn', -⟩, rfl⟩
            · refine And.intro (fun _ => ?_) (fun h => absurd h (by decide))
              refine kCall_mono (c_X12_moved X m2 hd' x j hx) (Nat.le_of_ble_eq_true rfl) ?_
              rintro _ m2 ⟨rfl, rfl⟩
              have e : mR w d l x j = cR w d (nx w d l x j) := if_neg b2
              rw [e]
              have hgy := cR_geo hD hyi
              refine kCall_mono (c_X12_addTrace X m2 n (cR w d x) (cR w d (nx w d l x j)) hn8 hg.1 hgy.1 (by omega)) (Nat.le_of_ble_eq_true rfl) ?_
              rintro _ m3 ⟨rfl, hm3⟩
              have hlen : m3 68 n = m2 68 n + 1 := by rw [hm3, aT_68]; simp
              have hnext : ∀ z6 z7, kW (eX X) 6 M_X12_go T 2 [some (vR 54), some (vI n), some (vI (cR w d p)), some (vI C), some (vI (cR w d (nx w d l x j))), some (vI (dr dir j)), z6, z7] [] m3 := by
                intro z6 z7
                refine ih (nx w d l x j) (dr dir j) C2 n2 m3 z6 z7 hyi hdr b4 p4 (fun o a1 a2 a3 a4 => by rw [hm3, aT_ne a1 a2 a3 a4]; exact hf' o a1 a2 a3 a4) (by omega) (fun M hM => hfin M (fun o a1 a2 => ?_))
                rw [hM o a1 a2, hm3]
                rfl
              refine And.intro (fun hk4 => ?_) (fun hk4 => ?_)
              · have hdd : dr dir j = dir := by unfold dr; rw [if_neg (show ¬ j < 4 from by have hk4 : 4 ≤ j := hk4; omega)]
                rw [hdd] at hnext
                refine kW_go ok_X12_go [2] 20 ?_
                exact hnext _ _
              · have hdd : dr dir j = j := by unfold dr; rw [if_pos hk4]
                rw [hdd] at hnext
                refine kW_go ok_X12_go [2] 20 ?_
                exact hnext _ _
            · exact absurd p2 hn'
          | succ r ihr =>
            intro j hjr hj0
            refine kW_go ok_X12_go [3, 6] 20 ?_
            refine kCall_mono (c_X12_leads X c m' hd' hn8 hR' (F := F) (J := J) (fun y hy => by rw [f80]; exact hF1 y hy) hJF (wsOk_same f79 hW1) (fun y e hy he => wsAt_same f79 f80 (hA1 y e hy he)) hx hdir hL' p1 j (by have := p2.1.2; omega)) (Nat.le_of_ble_eq_true rfl) ?_
            rintro _ m2 ⟨⟨hy', -⟩ | ⟨-, rfl⟩, rfl⟩
            · exact absurd hy' (p3 j hj0 (by omega))
            · refine And.intro (fun h => absurd rfl h) (fun _ => ⟨by constructor <;> (have := p2.1.2; omega), ihr (j + 1) (by omega) (by omega)⟩)
        refine kW_go ok_X12_go [3] 20 ?_
        refine ⟨hg.1, And.intro (fun h => ?_) (fun _ => ways k.toNat 0 (by have := p2.1.1; omega) (by omega))⟩
        have h : ¬ m' 78 (cR w d x) = 0 := h
        rw [f78] at h
        exact absurd ((hJ x hx).mp h) p1
    have f68 : m1 68 = m 68 := f1 68 (by decide) (by decide)
    refine kW_go ok_X12_go [2] 20 ?_
    show inR (5 * cR w d p) ∧ inR (5 * cR w d p + 4) ∧ (0 ≤ 5 * cR w d p + 4 ∧ 5 * cR w d p + 4 < ((1620 : Nat) : Int)) ∧ ¬ (1000 : Int) = 0 ∧ inR ((m1 79 (5 * cR w d p + 4)).tdiv 1000) ∧ kW (eX X) 6 M_X12_go T 2 [some (vR 54), some (vI n), some (vI (cR w d p)), some (vI ((m1 79 (5 * cR w d p + 4)).tdiv 1000)), some (vI (cR w d p)), some (vI 4), none, none] [] m1
    rw [hdv]
    refine ⟨by constructor <;> omega, by constructor <;> omega, hpb, by decide, by constructor <;> omega, walk ks p 4 C q m1 none none hp (by omega) hL hpth (fun _ _ _ _ _ => rfl) (by rw [f68, hrow.2]; omega) (fun M hM => hT _ _ (Or.inr ⟨C, q, ks, hL, hpth, rfl, hCb, fun o a1 a2 => ?_⟩))⟩
    rw [hM o a1 a2]
    have hc := adR_cong (w := w) (d := d) (l := l) (n := n) ks p f68 (f1 69 (by decide) (by decide)) (f1 70 (by decide) (by decide)) (f1 72 (by decide) (by decide))
    by_cases h8 : o = 68
    · rw [h8]; exact hc.1
    · by_cases h9 : o = 69
      · rw [h9]; exact hc.2.1
      · by_cases h0 : o = 70
        · rw [h0]; exact hc.2.2.1
        · by_cases h2 : o = 72
          · rw [h2]; exact hc.2.2.2
          · rw [adR_ne h8 h9 h0 h2, adR_ne h8 h9 h0 h2]; exact f1 o a1 a2
  · have heq : m1 79 (5 * cR w d p + 4) = 1000000000 := heq
    refine hT _ _ (Or.inl ⟨fun ks C hr => ?_, rfl, f1⟩)
    obtain ⟨C', q, hL⟩ := Ls_ex hcs.1 hcs.2 hr
    obtain ⟨hkey, hCb, hq⟩ := ws_key hD hR1 hF1 hJF hW1 hA1 hp (by omega) hL
    have : m1 79 (5 * cR w d p + 4) = 1000 * C' + (q : Int) := hkey
    omega
