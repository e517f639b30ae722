/-! LATE alike -/
theorem bt_m1 {l : Int} (h0 : 0 ≤ l) (h1 : l ≤ 8) {k : Nat} (hk : k < 32) : bt (kshl 1 l - 1) k = decide ((k : Int) < l) := by
  have : ∀ (i : Fin 9) (j : Fin 32), bt (kshl 1 (i.val : Int) - 1) j.val = decide (j.val < i.val) := by decide +kernel
  have h2 := this ⟨l.toNat, by omega⟩ ⟨k, hk⟩
  simp only [Int.toNat_of_nonneg h0] at h2
  rw [h2]
  by_cases e : (k : Int) < l
  · rw [decide_eq_true e, decide_eq_true (by omega)]
  · rw [decide_eq_false e, decide_eq_false (by omega)]
/-- the mask of all other nets -/
theorem all_v {N n s : Int} (hN : 0 ≤ N ∧ N ≤ 8) (hn : 0 ≤ n ∧ n < 8) (hs : 0 ≤ s ∧ s < 256) : kand s (kxor (kand (kshl 1 N - 1) (kxor (kshl 1 n) (-1))) (-1)) = 0 ↔ vSet N n s := by
  rw [sub_k]
  constructor
  · intro h
    refine ⟨hs, fun k hk => ?_⟩
    have hk32 : k < 32 := Nat.lt_of_not_le (fun hge => by rw [bt_ge _ hge] at hk; cases hk)
    have := h k hk
    rw [bt_and, bt_m1 hN.1 hN.2 hk32, bt_nall hn.1 (by omega) hk32, Bool.and_eq_true, decide_eq_true_eq, decide_eq_true_eq] at this
    exact this
  · intro h k hk
    have hk32 : k < 32 := Nat.lt_of_not_le (fun hge => by rw [bt_ge _ hge] at hk; cases hk)
    have := h.2 k hk
    rw [bt_and, bt_m1 hN.1 hN.2 hk32, bt_nall hn.1 (by omega) hk32, Bool.and_eq_true, decide_eq_true_eq, decide_eq_true_eq]
    exact this
set_option maxRecDepth 100000 in
theorem c_X1_moveLate (X : Xv) (m : Mem) {w d l : Int} (hI : Inv X w d l m) (n p t : Int) (hnn : 0 ≤ n ∧ n < m 9 14) (hp : 0 ≤ p ∧ p < m 13 n) (ht : inC w d l t) (hno : noPin m t) : kCall (eX X) 7 M_X1_moveLate.1 [vR 40, vI n, vI p, vI t] m (fun r m' => ∃ z m1 cP, Inv X w d l m1 ∧ (∀ o, o ≠ 20 → o ≠ 21 → m1 o = m o) ∧ mvd w d l n p t m1 cP ∧ r = some (vI z) ∧ leastS (m 9 14) n (okT w d l (m 31) cP n) z ∧ (∀ o, o < 14 ∨ o = 15 ∨ o = 18 ∨ o = 31 ∨ 36 < o → m' o = m o) ∧ ((z = -1 ∧ m' 14 = m 14 ∧ (∀ x, inC w d l x → m' 16 x = m 16 x) ∧ rows19 w d l m m' ∧ ∀ x, inC w d l x → m' 17 x = m 17 x) ∨ (z ≠ -1 ∧ ∃ c', lwA w d l (m 31) (cS (w * d * l) n z cP) n z true c' ∧ Ea c' m' ∧ WS w d l c' ∧ ∀ o, o ≠ 17 → o ≠ 19 → c' o = cP o))) := by
  obtain ⟨hB, hl, hW, hR, h60, h31⟩ := id hI
  obtain ⟨hD, hN, hG⟩ := id hB
  have hc4 := okD_cells hD
  have hWS := Inv_WS hI
  have h8 := hW.1.2.1
  have hn8 : 0 ≤ n ∧ n < 8 := by omega
  have hP4 := (hW.2.1.1 n hn8).1
  refine kCall_ofT ok_X1_moveLate rfl (Nat.le_of_ble_eq_true rfl) (fun T hT => ?_)
  refine kW_go ok_X1_moveLate [1] 20 ?_
  refine kCall_mono (c_X3_pinCell X m n p hn8 (by omega)) (Nat.le_of_ble_eq_true rfl) ?_
  rintro _ m ⟨rfl, rfl⟩
  obtain ⟨a, hao⟩ : ∃ a, a = m 14 (n * 4 + p) := ⟨_, rfl⟩
  have hai : inC w d l a := by rw [hao]; exact hW.2.1.2.1 n p hn8 hp
  rw [← hao]
  refine kCall_mono (c_save X hI) (Nat.le_of_ble_eq_true rfl) ?_
  rintro _ m1 ⟨rfl, hI1, hS1, f1⟩
  have hWS1 := Inv_WS hI1
  have hno1 : noPin m1 t := by
    unfold noPin at hno ⊢
    rw [f1 13 (by decide) (by decide), f1 14 (by decide) (by decide)]
    exact hno
  have hp1 : 0 ≤ p ∧ p < m1 13 n := by rw [f1 13 (by decide) (by decide)]; exact hp
  refine kCall_mono (c_X3_movePin X m1 hI1.1 hWS1.1 n p t hn8 hp1 ht) (Nat.le_of_ble_eq_true rfl) ?_
  rintro _ cP ⟨rfl, hmv⟩
  have hWP := mvd_WS hWS1 hn8 hp1 ht hno1 hmv
  have hBP : Bd X w d l cP := Bd_same hI1.1 (fun o x y => hmv.1 o (by omega) (by omega))
  have fP : ∀ o, o ≠ 14 → o ≠ 16 → o ≠ 20 → o ≠ 21 → cP o = m o := fun o x y z q => by rw [hmv.1 o x y]; exact f1 o z q
  have eP9 : cP 9 = m 9 := fP 9 (by decide) (by decide) (by decide) (by decide)
  have eP13 : cP 13 = m 13 := fP 13 (by decide) (by decide) (by decide) (by decide)
  have eP31 : cP 31 = m 31 := fP 31 (by decide) (by decide) (by decide) (by decide)
  have hSP : Sv w d l cP cP := by
    unfold Sv at hS1 ⊢
    rw [hmv.1 17 (by decide) (by decide), hmv.1 19 (by decide) (by decide), hmv.1 20 (by decide) (by decide), hmv.1 21 (by decide) (by decide)]
    exact hS1
  -- nets without pins have no traces
  have hpl : ∀ k x : Int, (0 ≤ k ∧ k < cP 9 14) → ¬ 0 < cP 13 k → inC w d l x → cP 19 (k * (w * d * l) + x) = 0 := by
    intro k x hk hk0 hx
    rw [eP9] at hk
    rw [eP13] at hk0
    rw [hmv.1 19 (by decide) (by decide), f1 19 (by decide) (by decide)]
    have hk8 : 0 ≤ k ∧ k < 8 := by omega
    obtain ⟨hk1, hk2⟩ := RRn_k.mp (hR.2.1 k hk8)
    have hz := hk2.1 (by omega)
    have hWk := (hW.2.2.1 k hk8).1 x hx
    refine Classical.byContradiction (fun hne => ?_)
    obtain ⟨j, hj32, hb⟩ := (k_ne0 (inR_small (by omega))).mp hne
    have hj6 : j < 6 := by
      refine Nat.lt_of_not_le (fun hge => ?_)
      rw [bt_small (n := 6) (inR_small (by omega)) hWk.1.2.1 hWk.1.2.2 hge] at hb
      cases hb
    have hnx : nx w d l x (j : Int) ≠ -1 := by
      intro z
      have := (hWk.2.1 (j : Int) (by omega) z).2
      rw [Int.toNat_natCast, hb] at this
      cases this
    obtain ⟨i, hi, -⟩ := (hk1.2.2.1.2 x (j : Int) hx (by omega) hnx).mp (by rw [Int.toNat_natCast]; exact hb)
    omega
  obtain ⟨M, hMb, hMk⟩ := exM (fun k => ((k : Int) < cP 9 14 ∧ (k : Int) ≠ n) ∧ 0 < cP 13 (k : Int))
  have hMp : ∀ k : Int, (0 ≤ k ∧ k < cP 9 14) → k ≠ n → (bt M k.toNat = true ↔ 0 < cP 13 k) := by
    intro k hk hkn
    rw [hMk, show ((k.toNat : Nat) : Int) = k by omega]
    rw [eP9] at hk
    exact ⟨fun z => z.2.2, fun z => ⟨by omega, ⟨by rw [eP9]; omega, hkn⟩, z⟩⟩
  have hnnP : 0 ≤ n ∧ n < cP 9 14 := by rw [eP9]; exact hnn
  have hMv : ∀ s, vSet (m 9 14) n s → vSet (m 9 14) n (kand s M) := fun s hs => vSet_and hs
  have hMo : ∀ s, vSet (m 9 14) n s → okT w d l (m 31) cP n s → okT w d l (m 31) cP n (kand s M) := fun s hs h => okT_and hD hWP.1 hnnP hpl hMp (by rw [eP9]; exact hs) h
  have hM8 : ∀ s, (∀ k, bt s k = true → bt M k = true) → ∀ k : Nat, bt s k = true → 0 < cP 13 (k : Int) := fun s h k hk => ((hMk k).mp (h k hk)).2.2
  -- what the search keeps
  obtain ⟨K, hK⟩ : ∃ K : Mem → Prop, ∀ mm, K mm ↔ ((∀ o, o < 17 ∨ o = 18 ∨ o = 20 ∨ o = 21 ∨ o = 31 ∨ 36 < o → mm o = cP o) ∧ offS w d l cP mm) := ⟨_, fun _ => Iff.rfl⟩
  obtain ⟨A, hA⟩ : ∃ A, A = kand (kshl 1 (m 9 14) - 1) (kxor (kshl 1 n) (-1)) := ⟨_, rfl⟩
  have hfin : ∀ (z : Int) (m' : Mem), leastS (m 9 14) n (okT w d l (m 31) cP n) z → (∀ o, o < 14 ∨ o = 15 ∨ o = 18 ∨ o = 31 ∨ 36 < o → m' o = m o) → ((z = -1 ∧ m' 14 = m 14 ∧ (∀ x, inC w d l x → m' 16 x = m 16 x) ∧ rows19 w d l m m' ∧ ∀ x, inC w d l x → m' 17 x = m 17 x) ∨ (z ≠ -1 ∧ ∃ c', lwA w d l (m 31) (cS (w * d * l) n z cP) n z true c' ∧ Ea c' m' ∧ WS w d l c' ∧ ∀ o, o ≠ 17 → o ≠ 19 → c' o = cP o)) → T (some (vI z)) m' := fun z m' b c e => hT _ _ ⟨z, m1, cP, hI1, f1, hmv, rfl, b, c, e⟩
  obtain ⟨H, hH⟩ : ∃ H : Int → Int → Prop, ∀ c i, H c i ↔ ∀ j : Int, (0 ≤ j ∧ j < 256) → (pop (rvS j) < c ∨ (pop (rvS j) = c ∧ i < j)) → (∀ k, bt (rvS j) k = true → bt M k = true) → ¬ okT w d l (m 31) cP n (rvS j) := ⟨_, fun _ _ => Iff.rfl⟩
  have hMsub : ∀ s, (0 ≤ s ∧ s < 256) → (∀ k, bt s k = true → bt M k = true) → vSet (m 9 14) n s := fun s hs h => ⟨hs, fun k hk => by
    have := ((hMk k).mp (h k hk)).2.1
    rw [eP9] at this
    exact this⟩
  have outer : ∀ (q : Nat) (c : Int) (mm : Mem) (x7 x8 : Option AV), c + q = 4 → 0 ≤ c → H c 256 → K mm → kW (eX X) 6 M_X1_moveLate T 1 [some (vR 40), some (vI n), some (vI p), some (vI t), some (vI a), some (vI A), some (vI c), x7, x8] [] mm := by
    intro q
    induction q with
    | zero =>
      intro c mm x7 x8 hq h0 hc hk
      have hc4' : c = 4 := by omega
      subst hc4'
      obtain ⟨k1, k2⟩ := (hK mm).mp hk
      have hleast : leastS (m 9 14) n (okT w d l (m 31) cP n) (-1) := none_least hMb hMo (fun j hj hpj hsub hok => (hH 4 256).mp hc j hj (Or.inl (by have := hok.1; omega)) hsub hok)
      refine kW_go ok_X1_moveLate [] 20 ?_
      refine And.intro (fun _ => ?_) (fun h => absurd h (by decide))
      refine kCall_mono (c_back X hN (Sv_same (k1 20 (by omega)) (k1 21 (by omega)) hSP)) (Nat.le_of_ble_eq_true rfl) ?_
      rintro _ m3 ⟨rfl, h19, h17, f3⟩
      have f3' : ∀ o, o < 17 ∨ o = 18 ∨ o = 20 ∨ o = 21 ∨ o = 31 ∨ 36 < o → m3 o = cP o := fun o ho => by rw [f3 o (by omega) (by omega)]; exact k1 o ho
      have hB3 : Bd X w d l m3 := Bd_same hBP (fun o x y => f3' o (by omega))
      have hM3 : WM w d l m3 := by
        obtain ⟨w1, w2, w3, w4⟩ := hWP.1
        refine ⟨?_, ?_, fun n' hn' => ⟨fun x hx => ?_, fun hcc x hx => ?_⟩, fun x hx => ?_⟩
        · unfold WFs at w1 ⊢
          rw [f3' 9 (by omega), f3' 10 (by omega), f3' 11 (by omega), f3' 12 (by omega)]
          exact w1
        · unfold WFp at w2 ⊢
          rw [f3' 9 (by omega), f3' 13 (by omega), f3' 14 (by omega)]
          exact w2
        · have := (w3 n' hn').1 x hx
          unfold pinT at this ⊢
          rw [f3' 13 (by omega), f3' 14 (by omega), f3' 16 (by omega), f3' 18 (by omega), h17 x hx, h19 n' x hn' hx]
          exact this
        · rw [f3' 18 (by omega), h19 n' x hn' hx]
          rw [f3' 9 (by omega)] at hcc
          exact (w3 n' hn').2 hcc x hx
        · rw [f3' 16 (by omega), h17 x hx]
          exact w4 x hx
      refine kCall_mono (c_X3_movePin X m3 hB3 hM3 n p a hn8 (by rw [f3' 13 (by omega), eP13]; exact hp) hai) (Nat.le_of_ble_eq_true rfl) ?_
      rintro _ m4 ⟨rfl, hmb⟩
      have e14 : m4 14 = m 14 := by
        funext j
        rw [hmb.2.1, k_mset_at]
        by_cases e : j = n * 4 + p
        · rw [if_pos e, e]; exact hao
        · rw [if_neg e, f3' 14 (by omega), hmv.2.1, k_mset_at, if_neg e, f1 14 (by decide) (by decide)]
      have e13 : m4 13 = m 13 := by rw [hmb.1 13 (by decide) (by decide), f3' 13 (by omega)]; exact eP13
      refine hfin (-1) m4 hleast (fun o ho => ?_) (Or.inl ⟨rfl, e14, fun x hx => ?_, fun n' x hn' hx => ?_, fun x hx => ?_⟩)
      · rw [hmb.1 o (by omega) (by omega), f3' o (by omega)]
        exact fP o (by omega) (by omega) (by omega) (by omega)
      · obtain ⟨u1, u2, u3⟩ := hmb.2.2 x hx
        refine bits_eq u1 (hW.2.2.2.1 x hx).1 (fun k hk => ?_)
        by_cases e : (k : Int) = n
        · have hw := ((hW.2.2.1 n hn8).1 x hx).2.2.2
          rw [f3' 18 (by omega), fP 18 (by decide) (by decide) (by decide) (by decide)] at u3
          unfold pinT at u3 hw
          rw [e13, e14, ← hw] at u3
          rw [show k = n.toNat by omega]
          cases x1 : bt (m4 16 x) n.toNat <;> cases x2 : bt (m 16 x) n.toNat <;> simp_all
        · rw [u2 k e, f3' 16 (by omega), (hmv.2.2 x hx).2.1 k e, f1 16 (by decide) (by decide)]
      · rw [hmb.1 19 (by decide) (by decide), h19 n' x hn' hx, hmv.1 19 (by decide) (by decide), f1 19 (by decide) (by decide)]
      · rw [hmb.1 17 (by decide) (by decide), h17 x hx, hmv.1 17 (by decide) (by decide), f1 17 (by decide) (by decide)]
    | succ q ih =>
      intro c mm x7 x8 hq h0 hc hk
      have inner : ∀ (r : Nat) (i : Int) (mm : Mem) (x8 : Option AV), i + 1 = r → i < 256 → H c i → K mm → kW (eX X) 6 M_X1_moveLate T 2 [some (vR 40), some (vI n), some (vI p), some (vI t), some (vI a), some (vI A), some (vI c), some (vI i), x8] [] mm := by
        intro r
        induction r with
        | zero =>
          intro i mm x8 hr hi hc hk
          refine kW_go ok_X1_moveLate [1, 2] 20 ?_
          refine And.intro (fun _ => ⟨by constructor <;> omega, ih (c + 1) mm _ _ (by omega) (by omega) ((hH _ _).mpr (fun j hj hcj hsub => (hH c i).mp hc j hj (by omega) hsub)) hk⟩) (fun h => absurd h (by omega))
        | succ r ihr =>
          intro i mm x8 hr hi hc hk
          have hi0 : 0 ≤ i ∧ i < 256 := by omega
          have hrv := rvS_in hi0
          obtain ⟨k1, k2⟩ := (hK mm).mp hk
          have hskip : ∀ (m5 : Mem) (x8 : Option AV), ((pop (rvS i) = c) → (∀ k, bt (rvS i) k = true → bt M k = true) → ¬ okT w d l (m 31) cP n (rvS i)) → K m5 → inR (i + -1) ∧ kW (eX X) 6 M_X1_moveLate T 2 [some (vR 40), some (vI n), some (vI p), some (vI t), some (vI a), some (vI A), some (vI c), some (vI (i + -1)), x8] [] m5 := by
            intro m5 x8 h1 h2
            refine ⟨by constructor <;> omega, ihr (i + -1) m5 x8 (by omega) (by omega) ((hH _ _).mpr (fun j hj hcj hsub => ?_)) h2⟩
            by_cases e : j = i ∧ pop (rvS j) = c
            · rw [e.1] at hsub ⊢
              exact h1 (by rw [← e.1]; exact e.2) hsub
            · exact (hH c i).mp hc j hj (by omega) hsub
          refine kW_go ok_X1_moveLate [2] 20 ?_
          refine And.intro (fun h => absurd h (by omega)) (fun _ => ?_)
          have hav := all_v (N := m 9 14) (n := n) (s := rvS i) h8 hn8 hrv.1
          rw [← hA] at hav
          refine kCall_mono (c_X1_setAt X mm i c A hi0) (Nat.le_of_ble_eq_true rfl) ?_
          rintro _ m5 ⟨rfl, ⟨he, hns, rfl⟩ | ⟨hno, rfl⟩⟩
          · refine And.intro (fun h => absurd h (by have := hrv.1.1; omega)) (fun _ => ?_)
            have hvs := hav.mp hns
            refine kCall_mono (c_X1_layWith X cP m5 hBP hWP n (rvS i) hnnP (by rw [eP9]; exact hvs) (fun y hy => by rw [eP31]; exact h31 y hy) (fun o ho => k1 o (by omega)) (Sv_same (k1 20 (by omega)) (k1 21 (by omega)) hSP) k2) (Nat.le_of_ble_eq_true rfl) ?_
            rintro _ m6 ⟨ok, c', rfl, hlw, hbad, hok, f6, of6⟩
            rw [eP31] at hlw
            have hk6 : K m6 := (hK _).mpr ⟨fun o ho => by rw [f6 o (by omega)]; exact k1 o ho, of6⟩
            cases ok with
            | true =>
              have hP : ∀ k : Nat, bt (rvS i) k = true → 0 < cP 13 (k : Int) := Classical.byContradiction (fun z => by have := hbad z; cases this)
              have hlwT := hlw hP
              have hsub : ∀ k, bt (rvS i) k = true → bt M k = true := fun k hkk => (hMk k).mpr ⟨by have := (hvs.2 k hkk).1; omega, by rw [eP9]; exact hvs.2 k hkk, hP k hkk⟩
              obtain ⟨g1, g2, g3⟩ := hok rfl
              rw [if_pos rfl]
              refine And.intro (fun h => absurd h (by decide)) (fun _ => ?_)
              have hz := found_least hMb hMv hMo hi0 he hvs ⟨by omega, c', hlwT⟩ hsub ((hH c i).mp hc)
              exact hfin (rvS i) m6 hz (fun o ho => by rw [f6 o (by omega), k1 o (by omega)]; exact fP o (by omega) (by omega) (by omega) (by omega)) (Or.inr ⟨by have := hrv.1.1; omega, c', hlwT, g1, g2, g3⟩)
            | false =>
              rw [if_neg (by decide)]
              refine And.intro (fun _ => hskip m6 _ (fun _ hsub hokk => ?_) hk6) (fun h => absurd rfl h)
              obtain ⟨-, c2, h2⟩ := hokk
              have := (lwA_one (hlw (hM8 _ hsub)) h2).1
              cases this
          · exact And.intro (fun _ => hskip m5 _ (fun he hsub => absurd ⟨he, hav.mpr (hMsub _ hrv.1 hsub)⟩ hno) hk) (fun h => absurd rfl h)
      refine kW_go ok_X1_moveLate [2] 20 ?_
      refine And.intro (fun h => absurd h (by omega)) (fun _ => ?_)
      exact inner 256 255 mm _ (by omega) (by omega) ((hH _ _).mpr (fun j hj hcj hsub => (hH c 256).mp hc j hj (by omega) hsub)) hk
  have hgo := outer 4 0 cP none none (by omega) (by omega) ((hH _ _).mpr (fun j hj hcj _ => by have := pop_in (rvS j); omega)) ((hK _).mpr ⟨fun _ _ => rfl, offS_rf⟩)
  have hsh := shl_set.1 ⟨(m 9 14).toNat, by omega⟩
  simp only [Int.toNat_of_nonneg h8.1] at hsh
  rw [hA] at hgo
  rw [← eP9] at hgo hsh
  have hshf : 0 < kshl 1 (fld cP 9 14) ∧ kshl 1 (fld cP 9 14) ≤ 256 := ⟨hsh.1, hsh.2.1⟩
  exact ⟨by constructor <;> omega, hgo⟩
