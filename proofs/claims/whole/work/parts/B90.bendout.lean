/-! STRETCH: the class's bendOut, wholly -/
theorem and3 {v : Int} (h : 0 ≤ v ∧ v < 4) : kand (v + 3) 3 = (v + 3) % 4 ∧ kand (v + 1) 3 = (v + 1) % 4 := by
  have : ∀ i : Fin 4, kand ((i.val : Int) + 3) 3 = ((i.val : Int) + 3) % 4 ∧ kand ((i.val : Int) + 1) 3 = ((i.val : Int) + 1) % 4 := by decide +kernel
  exact k_fin (P := fun v => kand (v + 3) 3 = (v + 3) % 4 ∧ kand (v + 1) 3 = (v + 1) % 4) this h.1 (by omega)
theorem BI_len {w d l : Int} {cu : Int → Prop} {P : Int → Int} {L0 i len : Int} {U : Int → Prop} {ks : List Int} {N : Nat} (hN : w * d * l = (N : Int)) (h : BI w d l cu P L0 i U len ks) : (ks.length : Int) + 1 ≤ (N : Int) := by
  have hp := pigeon N (P 0 :: vis w d l ks (P 0)) h.2.2.1 (fun x hx => by
    have := (h.2.2.2.1 x hx).1.2
    obtain ⟨a, b⟩ := this
    omega)
  rw [List.length_cons] at hp
  have hl : ∀ (ks : List Int) (x : Int), (vis w d l ks x).length = ks.length := by
    intro ks
    induction ks with
    | nil => intro x; rfl
    | cons k ks ih => intro x; show (nx w d l x k :: vis w d l ks (nx w d l x k)).length = _; rw [List.length_cons, ih]; rfl
  rw [hl] at hp
  omega
set_option maxRecDepth 100000 in
theorem c_X9_bendOut (X : Xv) (m : Mem) {w d l : Int} (hB : Bd X w d l m) (hM : WM w d l m) (n lim q : Int) (P K : Int → Int) (hnn : 0 ≤ n ∧ n < m 9 14) (hT : TrL w d l (fun x => m 19 (n * (w * d * l) + x)) q P K) (hq : 1 ≤ q ∧ q < (nC X : Int)) (hp : m 14 (n * 4 + 1) = P 0) (hcu : ∀ j : Int, (0 ≤ j ∧ j ≤ q) → cuN m n (P j)) (hL0 : 0 ≤ lenA (nC X) m n ∧ lenA (nC X) m n ≤ 972) : kCall (eX X) 4 M_X9_bendOut.1 [vR 51, vI n, vI lim] m (fun r m' => r = some (vI (bdS w d l lim (frT w d l (fun _ => True) m n 0) (cuN m n) P K (lenA (nC X) m n) q.toNat).2.1) ∧ (∀ o, o ≠ 17 → o ≠ 19 → (o < 22 ∨ 27 < o) → o ≠ 51 → o ≠ 52 → o ≠ 53 → m' o = m o) ∧ ∃ m1, m1 17 = m 17 ∧ m1 19 = m 19 ∧ CL w d l n q P K m1 q (bdS w d l lim (frT w d l (fun _ => True) m n 0) (cuN m n) P K (lenA (nC X) m n) q.toNat).1 (bdS w d l lim (frT w d l (fun _ => True) m n 0) (cuN m n) P K (lenA (nC X) m n) q.toNat).2.2 m') := by
  obtain ⟨hD, hN, hG⟩ := id hB
  have hc4 := okD_cells hD
  have h8 := hM.1.2.1
  have hs := WFs_srt hM.1
  have hn8 : 0 ≤ n ∧ n < 8 := by omega
  have hW := hM.2.2.1 n hn8
  have hso := hs.2 n hnn
  obtain ⟨L0, hL⟩ : ∃ L0, L0 = lenA (nC X) m n := ⟨_, rfl⟩
  obtain ⟨F, hF⟩ : ∃ F, F = frT w d l (fun _ => True) m n 0 := ⟨_, rfl⟩
  rw [← hL] at hL0
  rw [← hL, ← hF]
  refine kCall_ofT ok_X9_bendOut rfl (Nat.le_of_ble_eq_true rfl) (fun T hT' => ?_)
  refine kW_go ok_X9_bendOut [1] 20 ?_
  refine kCall_mono (kCall_in (c_X6_look X m hD hN hG hs n 1 hnn)) (Nat.le_of_ble_eq_true rfl) ?_
  rintro _ m1 ⟨⟨rfl, hf, h22, h26, hb⟩, hin⟩
  have hf' : ∀ o, o < 22 ∨ 26 < o → m1 o = m o := fun o ho => hf o (by omega) (by omega) (by omega) (by omega) (by omega)
  have hlk : looked w d l X m m1 n 1 := ⟨h22.1, h26, hb⟩
  refine kCall_mono (c_X6_mark X m1 hD hN (gridC_same hG (fun o o1 o2 => hf' o (by omega))) 0 n h22.1 hn8 (by rw [hf' 11 (by decide)]; exact hso.1)) (Nat.le_of_ble_eq_true rfl) ?_
  rintro _ m2 ⟨rfl, f2, h27⟩
  have hf2 : ∀ o, o < 22 ∨ 27 < o → m2 o = m o := fun o ho => by rw [f2 o (by omega), hf' o (by omega)]
  have hF2 : ∀ x, inC w d l x → (m2 27 x ≠ 0 ↔ F x) := by
    intro x hx
    have h1 := frC_frT (g := 0) hD hN hs hin hnn (hf' 10 (by decide)) (hf' 11 (by decide)) (hf' 15 (by decide)) hlk hx
    have hqc : frT w d l (qC n 1 0) m n 0 x ↔ frT w d l (fun _ => True) m n 0 x := frT_cong ⟨fun _ => trivial, fun _ => Or.inl ⟨rfl, by decide⟩⟩ (fun o ho hon => ⟨fun _ => trivial, fun _ => Or.inr ⟨hon, bt_zero _⟩⟩)
    rw [hqc, ← hF] at h1
    rw [← h1]
    by_cases hc : frC w d m1 0 x
    · rw [(h27 x hx).1 hc]; exact ⟨fun _ => hc, fun _ => by decide⟩
    · rw [(h27 x hx).2 hc]; exact ⟨fun z => absurd rfl z, fun z => absurd z hc⟩
  have hB2 : Bd X w d l m2 := Bd_same hB (fun o a b => hf2 o (by omega))
  have hM2 : WM w d l m2 := WM_o (fun o a b => hf2 o (by omega)) hM
  have e19 : m2 19 = m 19 := hf2 19 (by decide)
  have e17 : m2 17 = m 17 := hf2 17 (by decide)
  refine kCall_mono (c_X9_follow X m2 hB2 n hn8 (hM2.2.2.1 n hn8) (P := P) (K := K) (q := q) (by rw [e19]; exact hT) (by omega) (by rw [hf2 14 (by decide)]; exact hp)) (Nat.le_of_ble_eq_true rfl) ?_
  rintro _ m3 ⟨rfl, hf3, hst, hcells, hmoves⟩
  have hf3' : ∀ o, (o < 22 ∨ 27 < o) → o ≠ 51 → o ≠ 52 → o ≠ 53 → m3 o = m o := fun o a b c e => by rw [hf3 o b c e]; exact hf2 o a
  have g19 : m3 19 = m 19 := hf3' 19 (by decide) (by decide) (by decide) (by decide)
  have g17 : m3 17 = m 17 := hf3' 17 (by decide) (by decide) (by decide) (by decide)
  have g16 : m3 16 = m 16 := hf3' 16 (by decide) (by decide) (by decide) (by decide)
  have hB3 : Bd X w d l m3 := Bd_same hB (fun o a b => hf3' o (by omega) (by omega) (by omega) (by omega))
  refine kCall_mono (c_X3_lengthOf X m3 n (by omega) (hB3.2.2.2.2.2.2.1.trans hN) hn8) (Nat.le_of_ble_eq_true rfl) ?_
  rw [g19, show sumN (fun c => pop (kand (m 19 (n * (nC X : Int) + c)) 6)) (nC X) = L0 from by rw [hL]; rfl]
  rintro _ m3 ⟨rfl, rfl⟩
  have loop : ∀ (r i : Nat) (mm : Mem) (x5 : Option AV), (i : Int) + r = q → CL w d l n q P K m3 i (bdS w d l lim F (cuN m n) P K L0 i).1 (bdS w d l lim F (cuN m n) P K L0 i).2.2 mm → kW (eX X) 3 M_X9_bendOut T 1 [some (vR 51), some (vI n), some (vI lim), some (vI (bdS w d l lim F (cuN m n) P K L0 i).2.1), some (vI (i : Int)), x5] [] mm := by
    intro r
    induction r with
    | zero =>
      intro i mm x5 hr hCL
      have hiq : (i : Int) = q := by omega
      have hin : q.toNat = i := by omega
      have e51 : mm 51 5 = q := by rw [hCL.1.1 51 (by decide) (by decide)]; exact hst
      refine kW_go ok_X9_bendOut [1] 20 ?_
      refine And.intro (fun _ => hT' _ _ ⟨by rw [hin], fun o a b c e f g => by rw [hCL.1.1 o a b]; exact hf3' o c e f g, m3, g17, g19, ?_⟩) (fun h => ?_)
      · rw [hin, ← hiq]
        rw [hiq]
        rw [hiq] at hCL
        exact hCL
      · have h : (i : Int) < mm 51 5 := h
        omega
    | succ r ih =>
      intro i mm x5 hr hCL
      have hiq : 0 ≤ (i : Int) ∧ (i : Int) < q := by omega
      have hBI := bdS_ok (lim := lim) (fr := F) (L0 := L0) hD hT hcu (by omega) i (by omega)
      have hBl := BI_len hN hBI
      obtain ⟨S, hS⟩ : ∃ S, S = bdS w d l lim F (cuN m n) P K L0 i := ⟨_, rfl⟩
      rw [← hS] at hBI hBl hCL ⊢
      obtain ⟨U, len, ks⟩ := S
      have hSs : bdS w d l lim F (cuN m n) P K L0 (i + 1) = if bdN w d l lim F P K U len i = -1 then (U, len, ks ++ [K i]) else (fun x => U x ∨ x = nx w d l (P i) (bdN w d l lim F P K U len i) ∨ x = nx w d l (P (i + 1)) (bdN w d l lim F P K U len i), len + 2, ks ++ [bdN w d l lim F P K U len i, K i, oppF (bdN w d l lim F P K U len i)]) := by
        show (if bdN w d l lim F P K (bdS w d l lim F (cuN m n) P K L0 i).1 (bdS w d l lim F (cuN m n) P K L0 i).2.1 i = -1 then _ else _) = _
        rw [← hS]
      have hlen : len = L0 + ((ks.length : Int) - i) ∧ (i : Int) ≤ ks.length := hBI.2.2.2.2.2.2
      have hCL : CL w d l n q P K m3 i U ks mm := hCL
      have hBl : (ks.length : Int) + 1 ≤ (nC X : Int) := hBl
      obtain ⟨k1, k2, k3⟩ := hT.2.1 i hiq
      have hpi := hT.1 i (by omega)
      have e51 : mm 51 5 = q := by rw [hCL.1.1 51 (by decide) (by decide)]; exact hst
      have e52 : mm 52 i = P i := by rw [hCL.1.1 52 (by decide) (by decide)]; exact hcells i (by omega)
      have e53 : mm 53 i = K i := by rw [hCL.1.1 53 (by decide) (by decide)]; exact hmoves i hiq
      have hib : 0 ≤ (i : Int) ∧ (i : Int) < ((nC X + 1 : Nat) : Int) := by omega
      have hBm : Bd X w d l mm := Bd_same hB3 (fun o a b => hCL.1.1 o (by omega) (by omega))
      have e27 : mm 27 = m2 27 := by rw [hCL.1.1 27 (by decide) (by decide)]; exact hf3 27 (by decide) (by decide) (by decide)
      have hR : ∀ x, (x ≠ -1 → inC w d l x) → (bdR (fun x => mm 27 x ≠ 0) (cuN mm n) x ↔ bdR F U x) := by
        intro x hx
        unfold bdR
        refine and_congr_right (fun hne => ?_)
        show (mm 27 x ≠ 0 ∧ ¬ cuN mm n x) ↔ (F x ∧ ¬ U x)
        rw [e27, hF2 x (hx hne), hCL.2.2.2.1 x (hx hne)]
      have hCC : ∀ σ, (bdR (fun x => mm 27 x ≠ 0) (cuN mm n) (nx w d l (P i) σ) ∧ bdR (fun x => mm 27 x ≠ 0) (cuN mm n) (nx w d l (nx w d l (P i) (K i)) σ)) ↔ bdC w d l F P U i σ := by
        intro σ
        rw [k3, hR _ (fun h => (nx_in h).1), hR _ (fun h => (nx_in h).1)]
        exact Iff.rfl
      have no : bdN w d l lim F P K U len i = -1 → ∀ x5, kW (eX X) 3 M_X9_bendOut T 3 [some (vR 51), some (vI n), some (vI lim), some (vI len), some (vI (i : Int)), x5] [] mm := by
        intro h x5
        rw [if_pos h] at hSs
        have := ih (i + 1) mm x5 (by omega) (by rw [hSs]; exact CL_no hT hiq hBI hCL)
        rw [hSs] at this
        refine kW_go ok_X9_bendOut [1] 20 ?_
        exact ⟨by constructor <;> omega, this⟩
      have yes : ∀ σ, bdN w d l lim F P K U len i = σ → (0 ≤ σ ∧ σ < 6) → bdC w d l F P U i σ → ∀ x5, kW (eX X) 3 M_X9_bendOut T 2 [some (vR 51), some (vI n), some (vI lim), some (vI len), some (vI (i : Int)), x5] [] (bdM w d l n (P i) (K i) σ mm) := by
        intro σ h h6 hC x5
        rw [if_neg (by omega), h] at hSs
        have := ih (i + 1) (bdM w d l n (P i) (K i) σ mm) x5 (by omega) (by rw [hSs]; exact CL_bd hD hn8 hT hcu hiq hBI h6 hC hCL)
        rw [hSs] at this
        refine kW_go ok_X9_bendOut [1] 20 ?_
        exact ⟨by constructor <;> omega, by constructor <;> omega, this⟩
      refine kW_go ok_X9_bendOut [2, 3] 20 ?_
      show (fld mm 51 5 ≤ (i : Int) → _) ∧ ((i : Int) < fld mm 51 5 → (0 ≤ (i : Int) ∧ (i : Int) < ((nC X + 1 : Nat) : Int)) ∧ (4 ≤ mm 53 i → kW (eX X) 3 M_X9_bendOut T 3 [some (vR 51), some (vI n), some (vI lim), some (vI len), some (vI (i : Int)), some (vI (mm 53 i))] [] mm) ∧ (mm 53 i < 4 → inR (len + 2) ∧ (lim < len + 2 → kW (eX X) 3 M_X9_bendOut T 3 [some (vR 51), some (vI n), some (vI lim), some (vI len), some (vI (i : Int)), some (vI (mm 53 i))] [] mm) ∧ (len + 2 ≤ lim → (0 ≤ (i : Int) ∧ (i : Int) < ((nC X + 1 : Nat) : Int)) ∧ inR (mm 53 i + 3) ∧ kCall (eX X) 3 115 [vR 51, vI n, vI (mm 52 i), vI (mm 53 i), vI (kand (mm 53 i + 3) 3)] mm _)))
      rw [show fld mm 51 5 = q from e51, e52, e53]
      refine ⟨fun h => absurd h (by omega), fun _ => ⟨hib, fun h => no (bdN_n (fun z => by omega)) _, fun hk4 => ⟨by constructor <;> omega, fun h => no (bdN_n (fun z => by omega)) _, fun hll => ⟨hib, by constructor <;> omega, ?_⟩⟩⟩⟩
      have ha3 := and3 (v := K i) ⟨k1.1, hk4⟩
      have hsd := bd_side k1.1
      rw [ha3.1]
      have hga := c_X9_goBeside X mm hBm n (P i) (K i) ((K i + 3) % 4) hn8 hpi k1 k2 hsd.1
      rw [hCC] at hga
      refine kCall_mono hga (Nat.le_of_ble_eq_true rfl) ?_
      rintro _ m4 (⟨hC, rfl, rfl⟩ | ⟨hC, rfl, rfl⟩)
      · exact And.intro (fun _ => yes _ (bdN_a ⟨⟨hk4, hll⟩, hC⟩) hsd.1 hC _) (fun h => absurd h (by decide))
      · refine And.intro (fun h => absurd rfl h) (fun _ => ?_)
        show (0 ≤ (i : Int) ∧ (i : Int) < ((nC X + 1 : Nat) : Int)) ∧ inR (K i + 1) ∧ kCall (eX X) 3 115 [vR 51, vI n, vI (m4 52 i), vI (K i), vI (kand (K i + 1) 3)] m4 _
        rw [e52, ha3.2]
        refine ⟨hib, by constructor <;> omega, ?_⟩
        have hgb := c_X9_goBeside X m4 hBm n (P i) (K i) ((K i + 1) % 4) hn8 hpi k1 k2 hsd.2
        rw [hCC] at hgb
        refine kCall_mono hgb (Nat.le_of_ble_eq_true rfl) ?_
        rintro _ m5 (⟨hC2, rfl, rfl⟩ | ⟨hC2, rfl, rfl⟩)
        · exact And.intro (fun h => absurd h (by decide)) (fun _ => yes _ (bdN_b hC ⟨⟨hk4, hll⟩, hC2⟩) hsd.2 hC2 _)
        · exact And.intro (fun _ => no (bdN_n (fun z => z.2.elim hC hC2)) _) (fun h => absurd rfl h)
  refine loop q.toNat 0 m3 none (by omega) ⟨tsame_rf, fun x k hx hk => ?_, fun x hx => ?_, fun x hx => ?_, fun x hx => ?_⟩
  · rw [g19]
    have hr := (hW.1 x hx)
    constructor
    · intro hbt
      by_cases hne : nx w d l x k = -1
      · have := (hr.2.1 k hk hne).2
        rw [this] at hbt
        cases hbt
      · obtain ⟨j, hj, h⟩ := (hT.2.2.2 x k hx hk hne).mp hbt
        exact Or.inr ⟨j, by omega, h⟩
    · rintro (h | ⟨j, hj, h⟩)
      · exact h.elim
      · obtain ⟨j1, j2, j3⟩ := hT.2.1 j (by omega)
        have hne : nx w d l x k ≠ -1 := by
          rcases h with ⟨a, b⟩ | ⟨a, b⟩
          · rw [← a, ← b]; exact j2
          · rw [← a, ← b, ← j3]
            exact nx_opp_ne hD (hT.1 j (by omega)) j1 j2
        exact (hT.2.2.2 x k hx hk hne).mpr ⟨j, by omega, h⟩
  · rw [g19, g17]
    exact ⟨(hW.1 x hx).1.2, (hM.2.2.2 x hx).2⟩
  · exact cuN_same g16 g17 n x
  · rw [g19, g17]
    exact (hW.1 x hx).2.2.1
