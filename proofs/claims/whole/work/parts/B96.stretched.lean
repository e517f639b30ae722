/-! STRETCH: the reference, wholly -/
set_option maxRecDepth 100000 in
theorem c_X12_stretched (X : Xv) (c m : Mem) {w d l : Int} (hD : okD w d l) (hN : w * d * l = (nC X : Int)) (hM : WM w d l c) (hR : RR w d l c m) (n lim q : Int) (P K : Int → Int) (hnn : 0 ≤ n ∧ n < c 9 14) (hT : TrL w d l (fun x => c 19 (n * (w * d * l) + x)) q P K) (hqm : m 68 n = q) (hq : 1 ≤ q) (h13 : c 13 n = 2) (hP0 : P 0 = c 14 (n * 4 + 1)) (hls : ∀ i : Int, (0 ≤ i ∧ i < q) → m 69 (2400 * n + i) = cR w d (P i) ∧ m 70 (2400 * n + i) = cR w d (P (i + 1))) (hcu : ∀ j : Int, (0 ≤ j ∧ j ≤ q) → cuN c n (P j)) : kCall (eX X) 6 M_X12_stretched.1 [vR 54, vI n, vI lim] m (fun r m' => r = some (vI (bdS w d l lim (frT w d l (fun _ => True) c n 0) (cuN c n) P K (lenA (nC X) c n) q.toNat).2.1) ∧ RR w d l (adP w d l (w * d * l) n (bdS w d l lim (frT w d l (fun _ => True) c n 0) (cuN c n) P K (lenA (nC X) c n) q.toNat).2.2 (P 0) (rmT (w * d * l) n c)) m' ∧ SVn w d l c m' n ∧ ∀ o, o < 54 → m' o = m o) := by
  have h8 := hM.1.2.1
  have hc4 := okD_cells hD
  have hn8 : 0 ≤ n ∧ n < 8 := by omega
  have hW := hM.2.2.1 n hn8
  have hk0 := (RRn_k.mp (hR.2.1 n hn8)).1
  have hll := len_list hD hN hn8 hW hk0
  have hq9 : q ≤ 972 := by rw [← hqm]; exact okL_le hD hk0.2.2.1.1
  obtain ⟨L0, hL⟩ : ∃ L0, L0 = lenA (nC X) c n := ⟨_, rfl⟩
  obtain ⟨F, hF⟩ : ∃ F, F = frT w d l (fun _ => True) c n 0 := ⟨_, rfl⟩
  obtain ⟨e0, he0⟩ : ∃ e0, e0 = rmT (w * d * l) n c := ⟨_, rfl⟩
  rw [← hL, ← hF, ← he0]
  rw [← hL] at hll
  have gP : ∀ j, (0 ≤ j ∧ j ≤ q) → 0 ≤ cR w d (P j) ∧ cR w d (P j) < 324 := fun j hj => (cR_geo hD (hT.1 j hj)).1
  refine kCall_ofT ok_X12_stretched rfl (Nat.le_of_ble_eq_true rfl) (fun T hT' => ?_)
  refine kW_go ok_X12_stretched [1] 20 ?_
  refine kCall_mono (c_X12_plainly X m 1 (Or.inr rfl)) (Nat.le_of_ble_eq_true rfl) ?_
  rintro _ m1 ⟨rfl, hp⟩
  have hR1 := plain_R hR hp
  refine kCall_mono (c_X12_takeOffL X c m1 hD hn8 (RR_0 hR1) hW (fun x hx => (hM.2.2.2 x hx).2)) (Nat.le_of_ble_eq_true rfl) ?_
  rw [← he0]
  rintro _ r0 ⟨rfl, hR0, hSV, hrs, h680, h33, h73⟩
  have e68 : m1 68 = m 68 := hp.1 68 (by decide) (by decide)
  rw [e68, hqm] at h33 h73
  have f73 : ∀ i : Int, (0 ≤ i ∧ i < q) → r0 73 i = cR w d (P i) ∧ r0 74 i = cR w d (P (i + 1)) := by
    intro i hi
    rw [(h73 i hi).1, (h73 i hi).2, hp.1 69 (by decide) (by decide), hp.1 70 (by decide) (by decide)]
    exact hls i hi
  have h28 : r0 54 28 = 0 := by rw [hrs.2.2.1 28 (by decide)]; exact hp.2.2.2.1
  have h30 : r0 54 30 = 0 := by rw [hrs.2.2.1 30 (by decide)]; exact hp.2.2.2.2.1
  have hM0 : WM w d l e0 := by rw [he0]; exact WM_rmT hM hn8
  have tc : tsame w d l n c e0 := by rw [he0]; exact rmT_tsame hn8 (fun x hx => (hM.2.2.2 x hx).2)
  have hk1 := (RRn_k.mp (hR0.2 n hn8)).1
  obtain ⟨old, hold⟩ : ∃ old : Int → Prop, old = fun j => ∃ k : Int, (0 ≤ k ∧ k ≤ q) ∧ j = 324 * n + cR w d (P k) := ⟨_, rfl⟩
  -- the path so far
  have path : ∀ i : Nat, (i : Int) ≤ q → BI w d l (cuN c n) P L0 i (bdS w d l lim F (cuN c n) P K L0 i).1 (bdS w d l lim F (cuN c n) P K L0 i).2.1 (bdS w d l lim F (cuN c n) P K L0 i).2.2 := fun i hi => bdS_ok hD hT hcu (by omega) i hi
  have pst : ∀ i : Nat, (i : Int) ≤ q → _ := fun i hi => path_step hD hn8 (bdS w d l lim F (cuN c n) P K L0 i).2.2 (P 0) e0 r0 (hT.1 0 (by omega)) (path i hi).1 (path i hi).2.2.1 (fun z k _ hz hk _ _ => by rw [he0, rmT_row hz, if_pos rfl, bt_zero]) hk1 (hM0.2.2.1 n hn8) (fun z hz => (hM0.2.2.2 z hz).2) (by rw [tc.1 9 (by decide) (by decide)]; exact hnn.2) (by have := BI_len hN (path i hi); omega)
  -- the marks taken off, at the end
  have unm : ∀ (S : (Int → Prop) × Int × List Int) (mm : Mem) (x5 x6 : Option AV), S = bdS w d l lim F (cuN c n) P K L0 q.toNat → mkd old (adR w d l n S.2.2 (P 0) r0) mm → kW (eX X) 5 M_X12_stretched T 13 [some (vR 54), some (vI n), some (vI lim), some (vI S.2.1), some (vI q), x5, x6] [] mm := by
    intro S mm x5 x6 hS hmk
    obtain ⟨s1, s2, s3, s4, s5, s6, s7, s8⟩ := pst q.toNat (by omega)
    have hBI := path q.toNat (by omega)
    rw [← hS] at s1 s2 s3 s4 s5 s6 s7 s8 hBI
    obtain ⟨rr, hrr⟩ : ∃ rr, rr = adR w d l n S.2.2 (P 0) r0 := ⟨_, rfl⟩
    obtain ⟨e, he⟩ : ∃ e, e = adP w d l (w * d * l) n S.2.2 (P 0) e0 := ⟨_, rfl⟩
    rw [← hrr] at s1 s5 s6 s7 hmk
    rw [← he] at s1 s2 s3 s4
    have tce := tsame_tr tc s4
    have hCH : CHn w d e rr n := by
      unfold CHn
      rw [tce.1 13 (by decide) (by decide), tce.1 14 (by decide) (by decide), h13, s6, h680, Int.zero_add, ← hP0]
      refine ⟨fun h => absurd h (by decide), fun _ => CH_path hD (hT.1 0 (by omega)) hBI.1 hBI.2.2.1 (fun i hi => ?_)⟩
      have := s7 i.toNat (by omega)
      rw [h680, Int.toNat_of_nonneg hi.1, Int.add_zero] at this
      exact this
    have hRe : RR0 w d l e rr := RR0_rsm hD hn8 s4 (rsm_of s5) hR0 (RRn_k.mpr ⟨s1, hCH⟩)
    have hrange : ∀ j : Int, (0 ≤ j ∧ j < 324) → 0 ≤ rr 72 (324 * n + j) ∧ rr 72 (324 * n + j) < 4 := by
      intro j hj
      by_cases hin : inRf w d l j
      · obtain ⟨hci, hcr⟩ := cC_in hin
        have := (s1.2.2.2.1 _ hci).1
        rw [hcr] at this
        exact this
      · rw [s1.2.2.2.2 j hj hin]; decide
    have loop : ∀ (k : Nat) (i : Int) (mx : Mem), i + k = 324 → 0 ≤ i → (∀ o, o ≠ 72 → mx o = mm o) → (∀ j : Int, (324 * n ≤ j ∧ j < 324 * n + i) → mx 72 j = rr 72 j) → (∀ j : Int, ¬ (324 * n ≤ j ∧ j < 324 * n + i) → mx 72 j = mm 72 j) → kW (eX X) 5 M_X12_stretched T 14 [some (vR 54), some (vI n), some (vI lim), some (vI S.2.1), some (vI i), x5, x6] [] mx := by
      intro k
      induction k with
      | zero =>
        intro i mx hk h0 g1 g2 g3
        have hi : i = 324 := by omega
        subst hi
        refine kW_go ok_X12_stretched [14] 20 ?_
        have hall : ∀ o, mx o = rr o := by
          intro o
          by_cases ho : o = 72
          · subst ho
            funext j
            by_cases hj : 324 * n ≤ j ∧ j < 324 * n + 324
            · exact g2 j hj
            · rw [g3 j hj]
              refine (hmk.2 j).2 (fun q => hj ?_)
              rw [hold] at q
              obtain ⟨k, hk, e⟩ := q
              have := gP k hk
              omega
          · rw [g1 o ho]; exact hmk.1 o ho
        have h54 : rr 54 = r0 54 := s5.1 54 (by decide) (by decide) (by decide) (by decide)
        have hRx : RR w d l e mx := RR_ref (fun o _ _ => hall o) ⟨hRe.1, hRe.2, by rw [h54]; exact h28, by rw [h54]; exact h30⟩
        refine And.intro (fun _ => hT' _ _ ⟨by rw [← hS], by rw [← hS, ← he]; exact hRx, ?_, fun o ho => ?_⟩) (fun h => absurd h (by decide))
        · unfold SVn at hSV ⊢
          rw [hall 54, hall 73, hall 74, h54, s5.1 73 (by decide) (by decide) (by decide) (by decide), s5.1 74 (by decide) (by decide) (by decide) (by decide)]
          exact hSV
        · rw [hall o, s5.1 o (by omega) (by omega) (by omega) (by omega), hrs.2.1 o ho, hp.1 o (by omega) (by omega)]
      | succ k ih =>
        intro i mx hk h0 g1 g2 g3
        have hib : 0 ≤ 324 * n + i ∧ 324 * n + i < ((2592 : Nat) : Int) := by omega
        refine kW_go ok_X12_stretched [14] 20 ?_
        refine And.intro (fun h => absurd h (by omega)) (fun _ => ⟨by constructor <;> omega, by constructor <;> omega, hib, hib, by constructor <;> omega, ih (i + 1) _ (by omega) (by omega) (fun o ho => by rw [k_mset_ne ho]; exact g1 o ho) (fun j hj => ?_) (fun j hj => ?_)⟩)
        · rw [k_mset_at]
          by_cases e : j = 324 * n + i
          · rw [if_pos e, e, g3 _ (by omega)]
            have h4 := kand_43 (hrange i (by omega))
            by_cases ho : old (324 * n + i)
            · rw [(hmk.2 _).1 ho]; exact h4.1
            · rw [(hmk.2 _).2 ho]; exact h4.2.1
          · rw [if_neg e]; exact g2 j (by omega)
        · rw [k_mset_at, if_neg (by omega)]
          exact g3 j (by omega)
    refine kW_go ok_X12_stretched [14] 20 ?_
    exact loop 324 0 mm (by omega) (by omega) (fun _ _ => rfl) (fun j hj => by omega) (fun _ _ => rfl)
  -- the bends
  have bends : ∀ (r i : Nat) (mm : Mem) (x5 x6 : Option AV), (i : Int) + r = q → mkd old (adR w d l n (bdS w d l lim F (cuN c n) P K L0 i).2.2 (P 0) r0) mm → kW (eX X) 5 M_X12_stretched T 7 [some (vR 54), some (vI n), some (vI lim), some (vI (bdS w d l lim F (cuN c n) P K L0 i).2.1), some (vI (i : Int)), x5, x6] [] mm := by
    intro r
    induction r with
    | zero =>
      intro i mm x5 x6 hr hmk
      have hiq : (i : Int) = q := by omega
      have hin : q.toNat = i := by omega
      have e33 : mm 54 33 = q := by rw [hmk.1 54 (by decide), (pst i (by omega)).2.2.2.2.1.1 54 (by decide) (by decide) (by decide) (by decide)]; exact h33
      have hgo := unm (bdS w d l lim F (cuN c n) P K L0 i) mm x5 x6 (by rw [hin]) hmk
      rw [hiq]
      refine kW_go ok_X12_stretched [13] 20 ?_
      refine And.intro (fun _ => hgo) (fun h => ?_)
      have h : q < mm 54 33 := h
      omega
    | succ r ih =>
      intro i mm x5 x6 hr hmk
      have hiq : 0 ≤ (i : Int) ∧ (i : Int) < q := by omega
      have hBI := path i (by omega)
      obtain ⟨s1, s2, s3, s4, s5, s6, s7, s8⟩ := pst i (by omega)
      obtain ⟨S, hS⟩ : ∃ S, S = bdS w d l lim F (cuN c n) P K L0 i := ⟨_, rfl⟩
      rw [← hS] at hBI s1 s2 s3 s4 s5 s6 s7 s8 hmk ⊢
      obtain ⟨U, len, ks⟩ := S
      have hBI : BI w d l (cuN c n) P L0 i U len ks := hBI
      have hBl := BI_len hN hBI
      have hL9 := hll.2.2
      have hlen : len = L0 + ((ks.length : Int) - i) ∧ (i : Int) ≤ ks.length := hBI.2.2.2.2.2.2
      have hSs : bdS w d l lim F (cuN c n) P K L0 (i + 1) = if bdN w d l lim F P K U len i = -1 then (U, len, ks ++ [K i]) else (fun x => U x ∨ x = nx w d l (P i) (bdN w d l lim F P K U len i) ∨ x = nx w d l (P (i + 1)) (bdN w d l lim F P K U len i), len + 2, ks ++ [bdN w d l lim F P K U len i, K i, oppF (bdN w d l lim F P K U len i)]) := by
        show (if bdN w d l lim F P K (bdS w d l lim F (cuN c n) P K L0 i).1 (bdS w d l lim F (cuN c n) P K L0 i).2.1 i = -1 then _ else _) = _
        rw [← hS]
      have hmk : mkd old (adR w d l n ks (P 0) r0) mm := hmk
      obtain ⟨k1, k2, k3⟩ := hT.2.1 i hiq
      have hpi := hT.1 i (by omega)
      have hp1 := hT.1 (i + 1) (by omega)
      have gp := gP i (by omega)
      have gp1 := gP (i + 1) (by omega)
      have e33 : mm 54 33 = q := by rw [hmk.1 54 (by decide), s5.1 54 (by decide) (by decide) (by decide) (by decide)]; exact h33
      have e73 : mm 73 i = cR w d (P i) := by rw [hmk.1 73 (by decide), s5.1 73 (by decide) (by decide) (by decide) (by decide)]; exact (f73 i hiq).1
      have e74 : mm 74 i = cR w d (P (i + 1)) := by rw [hmk.1 74 (by decide), s5.1 74 (by decide) (by decide) (by decide) (by decide)]; exact (f73 i hiq).2
      have e68 : mm 68 n = (ks.length : Int) := by rw [hmk.1 68 (by decide)]; have h6 : adR w d l n ks (P 0) r0 68 n = r0 68 n + (ks.length : Int) := s6; rw [h6, h680, Int.zero_add]
      have hrel := st_rel (c := c) (mm := mm) hD hM hnn hT hcu (by omega) hBI (by rw [← he0]; exact hR0) h28 h30 (by rw [← he0]; exact s1) (by rw [← he0]; exact s2) (by rw [← he0]; exact s4) s5 (by rw [← hold]; exact hmk)
      obtain ⟨hG, hsr, h914, hroom⟩ := hrel
      obtain ⟨E, hE⟩ : ∃ E, E = with16 n (fun x => ∃ k : Int, (0 ≤ k ∧ k ≤ q) ∧ x = P k) (adP w d l (w * d * l) n ks (P 0) (rmT (w * d * l) n c)) := ⟨_, rfl⟩
      rw [← hE] at hG hsr h914 hroom
      rw [← hF] at hroom
      have hCC : ∀ σ, ((nx w d l (P i) σ ≠ -1 ∧ frT w d l (cntT mm) E n 0 (nx w d l (P i) σ) ∧ mm 72 (324 * n + cR w d (nx w d l (P i) σ)) = 0) ∧ (nx w d l (P (i + 1)) σ ≠ -1 ∧ frT w d l (cntT mm) E n 0 (nx w d l (P (i + 1)) σ) ∧ mm 72 (324 * n + cR w d (nx w d l (P (i + 1)) σ)) = 0)) ↔ bdC w d l F P U i σ := by
        intro σ
        unfold bdC bdR
        exact and_congr (and_congr_right (fun h => hroom _ (nx_in h).1)) (and_congr_right (fun h => hroom _ (nx_in h).1))
      have hib : 0 ≤ (i : Int) ∧ (i : Int) < ((2400 : Nat) : Int) := by omega
      have no : bdN w d l lim F P K U len i = -1 → ∀ y5 : Int, kW (eX X) 5 M_X12_stretched T 9 [some (vR 54), some (vI n), some (vI lim), some (vI len), some (vI (i : Int)), some (vI y5), x6] [] mm := by
        intro h y5
        rw [if_pos h] at hSs
        have := ih (i + 1) (aT n (cR w d (P i)) (cR w d (P (i + 1))) mm) (some (vI y5)) (some (vI 0)) (by omega) (by
          rw [hSs, adR_app, hBI.2.1]
          show mkd old (aT n (cR w d (P i)) (cR w d (nx w d l (P i) (K i))) (adR w d l n ks (P 0) r0)) _
          rw [k3]
          exact mkd_aT hmk)
        rw [hSs] at this
        refine kW_go ok_X12_stretched [7] 20 ?_
        refine ⟨fun _ => ?_, fun h => absurd rfl h⟩
        show (0 ≤ (i : Int) ∧ (i : Int) < ((2400 : Nat) : Int)) ∧ (0 ≤ (i : Int) ∧ (i : Int) < ((2400 : Nat) : Int)) ∧ kCall (eX X) 5 M_X12_addTrace.1 [vR 54, vI n, vI (mm 73 i), vI (mm 74 i)] mm _
        rw [e73, e74]
        refine ⟨hib, hib, ?_⟩
        refine kCall_mono (c_X12_addTrace X mm n _ _ hn8 gp gp1 (by omega)) (Nat.le_of_ble_eq_true rfl) ?_
        rintro _ m2 ⟨rfl, rfl⟩
        exact ⟨by constructor <;> omega, this⟩
      have yes : ∀ σ, bdN w d l lim F P K U len i = σ → (0 ≤ σ ∧ σ < 6) → bdC w d l F P U i σ → ∀ y5 : Int, kW (eX X) 5 M_X12_stretched T 8 [some (vR 54), some (vI n), some (vI lim), some (vI len), some (vI (i : Int)), some (vI y5), x6] [] (buM w d l n (P i) σ (P (i + 1)) mm) := by
        intro σ h h6 hC y5
        rw [if_neg (by omega), h] at hSs
        obtain ⟨⟨g1, g2⟩, -⟩ := BI_bd hD hT hcu hiq hBI h6 hC
        have := ih (i + 1) (buM w d l n (P i) σ (P (i + 1)) mm) (some (vI y5)) (some (vI 1)) (by omega) (by
          rw [hSs, adR_app, hBI.2.1]
          show mkd old (aT n (cR w d (nx w d l (nx w d l (P i) σ) (K i))) (cR w d (nx w d l (nx w d l (nx w d l (P i) σ) (K i)) (oppF σ))) (aT n (cR w d (nx w d l (P i) σ)) (cR w d (nx w d l (nx w d l (P i) σ) (K i))) (aT n (cR w d (P i)) (cR w d (nx w d l (P i) σ)) (adR w d l n ks (P 0) r0)))) (buM w d l n (P i) σ (P (i + 1)) mm)
          rw [g1, g2]
          exact mkd_aT (mkd_aT (mkd_aT hmk)))
        rw [hSs] at this
        refine kW_go ok_X12_stretched [7] 20 ?_
        exact ⟨fun h => absurd h (by decide), fun _ => ⟨by constructor <;> omega, by constructor <;> omega, this⟩⟩
      refine kW_go ok_X12_stretched [8, 9] 20 ?_
      show (fld mm 54 33 ≤ (i : Int) → _) ∧ ((i : Int) < fld mm 54 33 → (0 ≤ (i : Int) ∧ (i : Int) < ((2400 : Nat) : Int)) ∧ (0 ≤ (i : Int) ∧ (i : Int) < ((2400 : Nat) : Int)) ∧ kCall (eX X) 5 M_X12_wayFrom.1 [vR 54, vI (mm 73 i), vI (mm 74 i)] mm _)
      rw [show fld mm 54 33 = q from e33, e73, e74]
      refine ⟨fun h => absurd h (by omega), fun _ => ⟨hib, hib, ?_⟩⟩
      have hway := c_X12_wayFrom X mm hG.1 (P i) (K i) hpi k1 k2
      rw [k3] at hway
      refine kCall_mono hway (Nat.le_of_ble_eq_true rfl) ?_
      rintro _ m2 ⟨rfl, rfl⟩
      have hsd := bd_side k1.1
      have hta : (K i + 3).tmod 4 = (K i + 3) % 4 := Int.tmod_eq_emod_of_nonneg (by omega)
      have htb : (K i + 1).tmod 4 = (K i + 1) % 4 := Int.tmod_eq_emod_of_nonneg (by omega)
      refine And.intro (fun h => no (bdN_n (fun z => by have h : 4 ≤ K i := h; omega)) _) (fun hk4 => ?_)
      have hk4 : K i < 4 := hk4
      show inR (len + 2) ∧ _
      refine ⟨by constructor <;> omega, And.intro (fun h => no (bdN_n (fun z => by have h : lim < len + 2 := h; omega)) _) (fun hll2 => ?_)⟩
      have hll2 : len + 2 ≤ lim := hll2
      show (0 ≤ (i : Int) ∧ (i : Int) < ((2400 : Nat) : Int)) ∧ (0 ≤ (i : Int) ∧ (i : Int) < ((2400 : Nat) : Int)) ∧ inR (K i + 3) ∧ ¬ ((4 : Int) = 0) ∧ kCall (eX X) 5 M_X12_bulge.1 [vR 54, vI n, vI (m2 73 i), vI (m2 74 i), vI ((K i + 3).tmod 4)] m2 _
      rw [e73, e74, hta]
      refine ⟨hib, hib, by constructor <;> omega, by decide, ?_⟩
      have hba := c_X12_bulge X E m2 hD hsr hG n (P i) (P (i + 1)) ((K i + 3) % 4) (by rw [h914]; exact hnn) hn8.2 hpi hp1 hsd.1 (by omega)
      rw [hCC] at hba
      refine kCall_mono hba (Nat.le_of_ble_eq_true rfl) ?_
      rintro _ m4 (⟨hC, rfl, rfl⟩ | ⟨hC, rfl, rfl⟩)
      · exact And.intro (fun _ => yes _ (bdN_a ⟨⟨hk4, hll2⟩, hC⟩) hsd.1 hC _) (fun h => absurd h (by decide))
      · refine And.intro (fun h => absurd rfl h) (fun _ => ?_)
        show (0 ≤ (i : Int) ∧ (i : Int) < ((2400 : Nat) : Int)) ∧ (0 ≤ (i : Int) ∧ (i : Int) < ((2400 : Nat) : Int)) ∧ inR (K i + 1) ∧ ¬ ((4 : Int) = 0) ∧ kCall (eX X) 5 M_X12_bulge.1 [vR 54, vI n, vI (m4 73 i), vI (m4 74 i), vI ((K i + 1).tmod 4)] m4 _
        rw [e73, e74, htb]
        refine ⟨hib, hib, by constructor <;> omega, by decide, ?_⟩
        have hbb := c_X12_bulge X E m4 hD hsr hG n (P i) (P (i + 1)) ((K i + 1) % 4) (by rw [h914]; exact hnn) hn8.2 hpi hp1 hsd.2 (by omega)
        rw [hCC] at hbb
        refine kCall_mono hbb (Nat.le_of_ble_eq_true rfl) ?_
        rintro _ m5 (⟨hC2, rfl, rfl⟩ | ⟨hC2, rfl, rfl⟩)
        · exact And.intro (fun h => absurd h (by decide)) (fun _ => yes _ (bdN_b hC ⟨⟨hk4, hll2⟩, hC2⟩) hsd.2 hC2 _)
        · exact And.intro (fun _ => no (bdN_n (fun z => z.2.elim hC hC2)) _) (fun h => absurd rfl h)
  -- the length
  obtain ⟨A, hA⟩ : ∃ A : Int → Int, ∀ i, A i = if m 69 (2400 * n + i) / 81 = m 70 (2400 * n + i) / 81 then 1 else 0 := ⟨_, fun _ => rfl⟩
  have bA : ∀ k : Nat, 0 ≤ sumN A k ∧ sumN A k ≤ 1 * k := fun k => sumN_01 (fun x => by rw [hA]; split <;> omega) k
  have hAs : sumN A q.toNat = L0 := by
    rw [← hll.1, hqm]
    exact sumN_cong (fun i _ _ => hA i)
  have lens : ∀ (k : Nat) (i : Int) (mm : Mem), i + k = q → 0 ≤ i → mkd old r0 mm → kW (eX X) 5 M_X12_stretched T 3 [some (vR 54), some (vI n), some (vI lim), some (vI (sumN A i.toNat)), some (vI i), none, none] [] mm := by
    intro k
    induction k with
    | zero =>
      intro i mm hk hi0 hmk
      have hi : i = q := by omega
      have e33 : mm 54 33 = q := by rw [hmk.1 54 (by decide)]; exact h33
      have hgo := bends q.toNat 0 mm none none (by omega) hmk
      refine kW_go ok_X12_stretched [7] 20 ?_
      refine And.intro (fun _ => ?_) (fun h => ?_)
      · rw [hi, hAs]
        exact hgo
      · have h : i < mm 54 33 := h
        omega
    | succ k ih =>
      intro i mm hk hi0 hmk
      have b1 := bA i.toNat
      have e33 : mm 54 33 = q := by rw [hmk.1 54 (by decide)]; exact h33
      have e73 : mm 73 i = cR w d (P i) := by rw [hmk.1 73 (by decide)]; exact (f73 i (by omega)).1
      have e74 : mm 74 i = cR w d (P (i + 1)) := by rw [hmk.1 74 (by decide)]; exact (f73 i (by omega)).2
      have gp := gP i (by omega)
      have gp1 := gP (i + 1) (by omega)
      have hib : 0 ≤ i ∧ i < ((2400 : Nat) : Int) := by omega
      have hAi : A i = if cR w d (P i) / 81 = cR w d (P (i + 1)) / 81 then 1 else 0 := by rw [hA, (hls i (by omega)).1, (hls i (by omega)).2]
      have five : ∀ v : Int, v = A i → kW (eX X) 5 M_X12_stretched T 5 [some (vR 54), some (vI n), some (vI lim), some (vI (sumN A i.toNat)), some (vI i), none, none] [vI v, vI (sumN A i.toNat)] mm := by
        intro v hv
        have hv1 : 0 ≤ v ∧ v ≤ 1 := by rw [hv, hA]; split <;> omega
        have := ih (i + 1) mm (by omega) (by omega) hmk
        rw [sumN_s A hi0, ← hv] at this
        refine kW_go ok_X12_stretched [3] 20 ?_
        exact ⟨by constructor <;> omega, by constructor <;> omega, this⟩
      refine kW_go ok_X12_stretched [5] 20 ?_
      show (fld mm 54 33 ≤ i → _) ∧ (i < fld mm 54 33 → (0 ≤ i ∧ i < ((2400 : Nat) : Int)) ∧ kCall (eX X) 5 M_X12_layerOf.1 [vI (mm 73 i)] mm _)
      rw [show fld mm 54 33 = q from e33, e73]
      refine ⟨fun h => absurd h (by omega), fun _ => ⟨hib, ?_⟩⟩
      refine kCall_mono (c_X12_layerOf (eX X) mm _ gp.1 (by omega)) (Nat.le_of_ble_eq_true rfl) ?_
      rintro _ m2 ⟨rfl, rfl⟩
      show (0 ≤ i ∧ i < ((2400 : Nat) : Int)) ∧ kCall (eX X) 5 M_X12_layerOf.1 [vI (m2 74 i)] m2 _
      rw [e74]
      refine ⟨hib, ?_⟩
      refine kCall_mono (c_X12_layerOf (eX X) m2 _ gp1.1 (by omega)) (Nat.le_of_ble_eq_true rfl) ?_
      rintro _ m3 ⟨rfl, rfl⟩
      exact And.intro (fun h => five 0 (by rw [hAi]; exact (if_neg h).symm)) (fun h => five 1 (by rw [hAi]; exact (if_pos h).symm))
  -- the marks
  have marks : ∀ (k : Nat) (i : Int) (mm : Mem), i + k = q → 0 ≤ i → mkd (fun j => ∃ k : Int, (0 ≤ k ∧ k < i) ∧ (j = 324 * n + cR w d (P k) ∨ j = 324 * n + cR w d (P (k + 1)))) r0 mm → kW (eX X) 5 M_X12_stretched T 1 [some (vR 54), some (vI n), some (vI lim), some (vI i), none, none, none] [] mm := by
    intro k
    induction k with
    | zero =>
      intro i mm hk hi0 hmk
      have hi : i = q := by omega
      have e33 : mm 54 33 = q := by rw [hmk.1 54 (by decide)]; exact h33
      have hmk2 : mkd old r0 mm := mkd_iff hmk (fun j => by
        rw [hold]
        constructor
        · rintro ⟨k, hk, e⟩
          by_cases hkq : k < q
          · exact ⟨k, by omega, Or.inl e⟩
          · have : k = (q - 1) + 1 := by omega
            exact ⟨q - 1, by omega, Or.inr (by rw [← this]; exact e)⟩
        · rintro ⟨k, hk, e | e⟩
          · exact ⟨k, by omega, e⟩
          · exact ⟨k + 1, by omega, e⟩)
      have hgo := lens q.toNat 0 mm (by omega) (by omega) hmk2
      refine kW_go ok_X12_stretched [3] 20 ?_
      refine And.intro (fun _ => hgo) (fun h => ?_)
      have h : i < mm 54 33 := h
      omega
    | succ k ih =>
      intro i mm hk hi0 hmk
      have e33 : mm 54 33 = q := by rw [hmk.1 54 (by decide)]; exact h33
      have e73 : mm 73 i = cR w d (P i) := by rw [hmk.1 73 (by decide)]; exact (f73 i (by omega)).1
      have e74 : mm 74 i = cR w d (P (i + 1)) := by rw [hmk.1 74 (by decide)]; exact (f73 i (by omega)).2
      have gp := gP i (by omega)
      have gp1 := gP (i + 1) (by omega)
      have hib : 0 ≤ i ∧ i < ((2400 : Nat) : Int) := by omega
      have i1 : 0 ≤ 324 * n + cR w d (P i) ∧ 324 * n + cR w d (P i) < ((2592 : Nat) : Int) := by omega
      have i2 : 0 ≤ 324 * n + cR w d (P (i + 1)) ∧ 324 * n + cR w d (P (i + 1)) < ((2592 : Nat) : Int) := by omega
      have hnx := ih (i + 1) _ (by omega) (by omega) (mkd_iff (mkd_mark (j := 324 * n + cR w d (P (i + 1))) (mkd_mark (j := 324 * n + cR w d (P i)) hmk)) (fun j => by
        constructor
        · rintro ⟨k, hk, e⟩
          by_cases hki : k = i
          · rw [hki] at e
            rcases e with e | e
            · exact Or.inl (Or.inr e)
            · exact Or.inr e
          · exact Or.inl (Or.inl ⟨k, by omega, e⟩)
        · rintro ((⟨k, hk, e⟩ | e) | e)
          · exact ⟨k, by omega, e⟩
          · exact ⟨i, by omega, Or.inl e⟩
          · exact ⟨i, by omega, Or.inr e⟩))
      rw [← e73, ← e74] at hnx
      rw [← e73] at i1 gp
      rw [← e74] at i2 gp1
      refine kW_go ok_X12_stretched [1] 20 ?_
      refine And.intro (fun h => ?_) (fun _ => ⟨by constructor <;> omega, hib, by constructor <;> omega, i1, i1, by constructor <;> omega, hib, (by show inR (324 * n + mm 74 i); constructor <;> omega), i2, i2, by constructor <;> omega, hnx⟩)
      have h : mm 54 33 ≤ i := h
      omega
  exact marks q.toNat 0 r0 (by omega) (by omega) ⟨fun _ _ => rfl, fun j => ⟨fun ⟨k, hk, _⟩ => by omega, fun _ => rfl⟩⟩
