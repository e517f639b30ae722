/-! CUT alike: the reference -/
theorem c_X12_isWall (X : Xv) (m : Mem) {w d l : Int} {R : Int → Prop} (hD : okD w d l) (hd : dimM m w d l) (hR : ∀ x, inC w d l x → (m 83 (cR w d x) ≠ 0 ↔ R x)) (i : Int) (hi : 0 ≤ i ∧ i < 324) : kCall (eX X) 5 M_X12_isWall.1 [vR 54, vI i] m (bP (inRf w d l i ∧ walP w d l R (cC w d i)) m) := by
  have hib : 0 ≤ i ∧ i < ((324 : Nat) : Int) := hi
  refine kCall_ofT ok_X12_isWall rfl (Nat.le_of_ble_eq_true rfl) (fun T hT => ?_)
  have hno : ¬ (inRf w d l i ∧ walP w d l R (cC w d i)) → T (some (vI 0)) m := fun h => hT _ _ ⟨Or.inl rfl, Or.inr ⟨h, rfl⟩, rfl⟩
  refine kW_go ok_X12_isWall [] 20 ?_
  refine kCall_mono (c_X12_isInside X m hd i hi) (Nat.le_of_ble_eq_true rfl) ?_
  rintro _ m2 ⟨⟨hin, rfl⟩ | ⟨hin, rfl⟩, rfl⟩
  · obtain ⟨hci, hcr⟩ := cC_in hin
    refine And.intro (fun h => absurd h (by decide)) (fun _ => ⟨hib, And.intro (fun hr => hno (fun z => z.2.1 ?_)) (fun hr => ?_)⟩)
    · exact (hR _ hci).mp (by rw [hcr]; exact hr)
    · have hr : m2 83 i = 0 := hr
      have hbs := c_X12_isBeside X m2 hd _ hci
      rw [hcr] at hbs
      have hw : (∃ k : Int, (0 ≤ k ∧ k < 6) ∧ nx w d l (cC w d i) k ≠ -1 ∧ m2 83 (cR w d (nx w d l (cC w d i) k)) ≠ 0) ↔ walP w d l R (cC w d i) := by
        unfold walP
        rw [← hR _ hci, hcr, Classical.not_not]
        exact ⟨fun ⟨k, a, b, e⟩ => ⟨hr, k, a, b, (hR _ (nx_in b).1).mp e⟩, fun ⟨_, k, a, b, e⟩ => ⟨k, a, b, (hR _ (nx_in b).1).mpr e⟩⟩
      rw [hw] at hbs
      refine kCall_mono hbs (Nat.le_of_ble_eq_true rfl) ?_
      rintro _ m3 ⟨⟨hb, rfl⟩ | ⟨hb, rfl⟩, rfl⟩
      · exact And.intro (fun h => absurd h (by decide)) (fun _ => hT _ _ ⟨Or.inr rfl, Or.inl ⟨⟨hin, hb⟩, rfl⟩, rfl⟩)
      · exact And.intro (fun _ => hno (fun z => hb z.2)) (fun h => absurd rfl h)
  · exact And.intro (fun _ => hno (fun z => hin z.1)) (fun h => absurd rfl h)
set_option maxRecDepth 100000 in
theorem c_X12_cutOf (X : Xv) (c c1 m : Mem) {w d l : Int} {R : Int → Prop} (hD : okD w d l) (hN : w * d * l = (nC X : Int)) (hM : WM w d l c) (hR1 : RR0 w d l c1 m) (n a : Int) (hc1 : c1 = rmT (w * d * l) n c) (hnn : 0 ≤ n ∧ n < c 9 14) (hp1 : 1 ≤ c 13 n) (ha : 0 ≤ a ∧ a ≤ 3) (hct : ∀ o : Int, (0 ≤ o ∧ o < 8) → cntT m o) (hR : ∀ x, inC w d l x → (m 83 (cR w d x) ≠ 0 ↔ R x)) (h01 : ∀ j : Int, (0 ≤ j ∧ j < 324) → m 83 j = 0 ∨ m 83 j = 1) (hz : ∀ j : Int, (0 ≤ j ∧ j < 324) → ¬ inRf w d l j → m 83 j = 0) : kCall (eX X) 6 M_X12_cutOf.1 [vR 54, vI n, vI a] m (fun r m' => ∃ z, r = some (vI z) ∧ cutV w d l (nC X) c n R a z ∧ m' = m) := by
  have h8 := hM.1.2.1
  have hn8 : 0 ≤ n ∧ n < 8 := by omega
  have hnb : 0 ≤ n ∧ n < ((8 : Nat) : Int) := hn8
  have hP4 := (hM.2.1.1 n hn8).1
  have hd := hR1.1.1
  have hts : tsame w d l n c c1 := by rw [hc1]; exact rmT_tsame hn8 (fun x hx => (hM.2.2.2 x hx).2)
  have hW1 : WFs c1 := WFs_c hts.1 hM.1
  have hG := RR0_RelG hW1 hR1
  have e9 : c1 9 = c 9 := hts.1 9 (by decide) (by decide)
  have e13 : c1 13 = c 13 := hts.1 13 (by decide) (by decide)
  have h26 : m 54 26 = c 9 14 := by rw [hR1.1.2.2.2.1.1, e9]
  obtain ⟨-, e63, e64⟩ := hR1.1.2.2.2.2.1 n hn8
  rw [e13] at e63 e64
  refine kCall_ofT ok_X12_cutOf rfl (Nat.le_of_ble_eq_true rfl) (fun T hT => ?_)
  have hpa : ∀ p : Int, (0 ≤ p ∧ p < c 13 n) → inC w d l (c 14 (n * 4 + p)) := fun p hp => hM.2.1.2.1 n p hn8 hp
  have e14 : c1 14 = c 14 := hts.1 14 (by decide) (by decide)
  rw [e14] at e64
  refine kW_go ok_X12_cutOf [1, 4] 20 ?_
  refine And.intro (fun h1 => ?_) (fun h1 => ?_)
  · have h1 : ¬ a = 1 := h1
    -- counts over 324
    obtain ⟨G, hGd⟩ : ∃ G : Int → Int, ∀ i, G i = if a = 0 then (if m 83 i = 0 then 0 else 1) else iv (inRf w d l i ∧ walP w d l R (cC w d i)) 1 := ⟨_, fun _ => rfl⟩
    have bG : ∀ i, 0 ≤ G i ∧ G i ≤ 1 := fun i => by
      rw [hGd]
      split
      · split <;> omega
      · exact iv_in ⟨by decide, by decide⟩
    have bGs : ∀ k : Nat, 0 ≤ sumN G k ∧ sumN G k ≤ 1 * k := fun k => sumN_01 bG k
    have hsumG : sumN G 324 = sumN (fun x => if a = 0 then iv (R x) 1 else iv (walP w d l R x) 1) (nC X) := by
      rw [sum_all hD G (fun r hr hni => ?_) hN]
      · refine sumN_cong (fun x x0 x1 => ?_)
        have hx : inC w d l x := ⟨x0, by omega⟩
        show G (cR w d x) = if a = 0 then iv (R x) 1 else iv (walP w d l R x) 1
        rw [hGd]
        have hin := cR_in hD hx
        by_cases h0 : a = 0
        · rw [if_pos h0, if_pos h0]
          by_cases hh : m 83 (cR w d x) = 0
          · rw [if_pos hh, iv_f (fun z => (hR x hx).mpr z hh)]
          · rw [if_neg hh, iv_t ((hR x hx).mp hh)]
        · rw [if_neg h0, if_neg h0]
          refine iv_cong ?_
          rw [hin.2]
          exact ⟨fun z => z.2, fun z => ⟨hin.1, z⟩⟩
      · rw [hGd]
        split
        · rw [if_pos (hz r hr hni)]
        · exact iv_f (fun z => hni z.1)
    -- another net near a wall's cell
    have hnear : ∀ x o, inC w d l x → (0 ≤ o ∧ o < c 9 14) → o ≠ n → (near w d m o (cR w d x) (aptC c n o) ↔ ∃ y : Int, inC w d l y ∧ cuN c o y ∧ box w d l y (aptC c n o) x) := by
      intro x o hx ho hon
      rw [near_boxT hD hG (by omega) hx]
      have hcu : ∀ y, inC w d l y → (cuT (cntT m) c1 o y ↔ cuN c o y) := by
        intro y hy
        unfold cuT cuN
        rw [hts.1 16 (by decide) (by decide), hts.2.2 y o.toNat hy (by omega)]
        exact ⟨fun z => z.elim Or.inl (fun z => Or.inr z.2), fun z => z.elim Or.inl (fun z => Or.inr ⟨hct o (by omega), z⟩)⟩
      exact ⟨fun ⟨y, p, q, r⟩ => ⟨y, p, (hcu y p).mp q, r⟩, fun ⟨y, p, q, r⟩ => ⟨y, p, (hcu y p).mpr q, r⟩⟩
    have hapt : aptC c1 n = aptC c n := by
      funext o
      unfold aptC
      rw [hts.1 10 (by decide) (by decide), hts.1 11 (by decide) (by decide)]
    have loop : ∀ (k : Nat) (i v : Int) (x6 x7 : Option AV), i + k = 324 → 0 ≤ i → inR v → (∀ o : Nat, o < 32 → (bt v o = true ↔ ((o : Int) < c 9 14 ∧ ∃ x : Int, (inC w d l x ∧ cR w d x < i) ∧ walP w d l R x ∧ walD w d l c n (o : Int) x))) → kW (eX X) 5 M_X12_cutOf T 5 [some (vR 54), some (vI n), some (vI a), some (vI (sumN G i.toNat)), some (vI v), some (vI i), x6, x7] [] m := by
      intro k
      induction k with
      | zero =>
        intro i v x6 x7 hk h0i hv hbv
        have hi : i = 324 := by omega
        subst hi
        refine kW_go ok_X12_cutOf [5] 20 ?_
        refine And.intro (fun _ => And.intro (fun h3 => ?_) (fun h3 => ?_)) (fun h => absurd h (by decide))
        · have h3 : ¬ a = 3 := h3
          refine hT _ _ ⟨_, rfl, ?_, rfl⟩
          rw [show (324 : Int).toNat = 324 from rfl, hsumG]
          by_cases h0 : a = 0
          · exact Or.inl ⟨h0, sumN_cong (fun x _ _ => if_pos h0)⟩
          · exact Or.inr (Or.inr (Or.inl ⟨by omega, sumN_cong (fun x _ _ => if_neg h0)⟩))
        · have h3 : a = 3 := h3
          refine hT _ _ ⟨v, rfl, Or.inr (Or.inr (Or.inr ⟨h3, hv, fun o ho => (hbv o ho).trans (and_congr_right (fun _ => ?_))⟩)), rfl⟩
          exact ⟨fun ⟨x, a, b⟩ => ⟨x, a.1, b⟩, fun ⟨x, a, b⟩ => ⟨x, ⟨a, (cR_geo hD a).1.2⟩, b⟩⟩
      | succ k ih =>
        intro i v x6 x7 hk h0i hv hbv
        have hib : 0 ≤ i ∧ i < ((324 : Nat) : Int) := by omega
        have hb1 := bGs i.toNat
        have hgi := bG i
        -- behind the nets
        have hnext : ∀ (v' : Int) (x6 x7 : Option AV), inR v' → (∀ o : Nat, o < 32 → (bt v' o = true ↔ bt v o = true ∨ ((o : Int) < c 9 14 ∧ inRf w d l i ∧ walP w d l R (cC w d i) ∧ walD w d l c n (o : Int) (cC w d i)))) → inR (i + 1) ∧ kW (eX X) 5 M_X12_cutOf T 5 [some (vR 54), some (vI n), some (vI a), some (vI (sumN G i.toNat + G i)), some (vI v'), some (vI (i + 1)), x6, x7] [] m := by
          intro v' x6 x7 hv' hbv'
          have := ih (i + 1) v' x6 x7 (by omega) (by omega) hv' (fun o ho => by
            rw [hbv' o ho, hbv o ho]
            constructor
            · rintro (⟨p, x, hx, h⟩ | ⟨p, hin, h⟩)
              · exact ⟨p, x, ⟨hx.1, by omega⟩, h⟩
              · obtain ⟨hci, hcr⟩ := cC_in hin
                exact ⟨p, _, ⟨hci, by omega⟩, h⟩
            · rintro ⟨p, x, hx, h⟩
              by_cases e : cR w d x = i
              · have hin := cR_in hD hx.1
                rw [e] at hin
                exact Or.inr ⟨p, hin.1, by rw [hin.2]; exact h⟩
              · exact Or.inl ⟨p, x, ⟨hx.1, by omega⟩, h⟩)
          rw [sumN_s G h0i] at this
          exact ⟨by constructor <;> omega, this⟩
        -- the nets
        have nets : ∀ (q : Nat) (o b u : Int), o + q = c 9 14 → 0 ≤ o → (b = 0 ∨ b = 1) → (b ≠ 0 ↔ inRf w d l i ∧ walP w d l R (cC w d i) ∧ c 15 (cC w d i) = 0 ∧ bt (c 10 (c 11 n * 5 + 4)) (gZ w d (cC w d i)).toNat = true) → inR u → (∀ o' : Nat, o' < 32 → (bt u o' = true ↔ bt v o' = true ∨ ((o' : Int) < o ∧ inRf w d l i ∧ walP w d l R (cC w d i) ∧ walD w d l c n (o' : Int) (cC w d i)))) → kW (eX X) 5 M_X12_cutOf T 12 [some (vR 54), some (vI n), some (vI a), some (vI (sumN G i.toNat + G i)), some (vI u), some (vI i), some (vI b), some (vI o)] [] m := by
          intro q
          induction q with
          | zero =>
            intro o b u hq h0o hb hbi hu hbu
            refine kW_go ok_X12_cutOf [5] 20 ?_
            refine And.intro (fun _ => hnext u _ _ hu (fun o' ho' => ?_)) (fun h => ?_)
            · rw [hbu o' ho', show o = c 9 14 by omega]
            · have h : o < m 54 26 := h
              omega
          | succ q ihq =>
            intro o b u hq h0o hb hbi hu hbu
            have hoo : 0 ≤ o ∧ o < c 9 14 := by omega
            refine kW_go ok_X12_cutOf [5, 14] 20 ?_
            refine And.intro (fun h => ?_) (fun _ => And.intro (fun hb0 => hnext u _ _ hu (fun o' ho' => ?_)) (fun hb0 => ?_))
            · have h : m 54 26 ≤ o := h
              omega
            · have hb0 : b = 0 := hb0
              rw [hbu o' ho']
              have hnn2 : ¬ (inRf w d l i ∧ walP w d l R (cC w d i) ∧ walD w d l c n (o' : Int) (cC w d i)) := fun z => (hbi.mpr ⟨z.1, z.2.1, z.2.2.1, z.2.2.2.1⟩) hb0
              exact ⟨fun z => z.elim Or.inl (fun z => absurd z.2 hnn2), fun z => z.elim Or.inl (fun z => absurd z.2 hnn2)⟩
            · have hb0 : ¬ b = 0 := hb0
              obtain ⟨hin, hwl, h15, hly⟩ := hbi.mp hb0
              obtain ⟨hci, hcr⟩ := cC_in hin
              have hstep : ∀ z : Int, inR z → (∀ o' : Nat, o' < 32 → (bt z o' = true ↔ ((o' : Int) = o ∧ o ≠ n ∧ ∃ y : Int, inC w d l y ∧ cuN c o y ∧ box w d l y (aptC c n o) (cC w d i)))) → kW (eX X) 5 M_X12_cutOf T 14 [some (vR 54), some (vI n), some (vI a), some (vI (sumN G i.toNat + G i)), some (vI u), some (vI i), some (vI b), some (vI o)] [vI z, vI u] m := by
                intro z hz' hbz
                refine kW_go ok_X12_cutOf [12] 20 ?_
                refine ⟨by constructor <;> omega, ihq (o + 1) b (kor u z) (by omega) (by omega) hb hbi (k_in_kor _ _) (fun o' ho' => ?_)⟩
                rw [bt_or, Bool.or_eq_true, hbu o' ho', hbz o' ho']
                unfold walD
                constructor
                · rintro ((h | ⟨h1, h2⟩) | ⟨h1, h2, h3⟩)
                  · exact Or.inl h
                  · exact Or.inr ⟨by omega, h2⟩
                  · exact Or.inr ⟨by omega, hin, hwl, h15, hly, by rw [h1]; exact h2, by rw [h1]; exact h3⟩
                · rintro (h | ⟨h1, h2⟩)
                  · exact Or.inl (Or.inl h)
                  · by_cases e : (o' : Int) = o
                    · obtain ⟨-, -, -, -, h3, h4⟩ := h2
                      rw [e] at h3 h4
                      exact Or.inr ⟨e, h3, h4⟩
                    · exact Or.inl (Or.inr ⟨by omega, h2⟩)
              refine And.intro (fun he => hstep 0 (by constructor <;> decide) (fun o' ho' => ?_)) (fun he => ?_)
              · have he : o = n := he
                rw [bt_zero]
                exact ⟨fun z => (by cases z), fun z => absurd he z.2.1⟩
              · have he : ¬ o = n := he
                have hap := apt_RC hW1 hR1.1 (n := n) (o := o) (by rw [e9]; exact hnn) (by rw [e9]; exact hoo)
                rw [hapt] at hap
                refine kCall_mono (c_X12_apart X m n o hn8 (by omega) hap.2.2.1 hap.2.2.2) (Nat.le_of_ble_eq_true rfl) ?_
                rintro _ m2 ⟨rfl, rfl⟩
                rw [hap.1]
                refine kCall_mono (c_X12_isNear X m2 hd o i _ (by omega) hin hap.2.1) (Nat.le_of_ble_eq_true rfl) ?_
                have hne2 := hnear _ o hci hoo he
                rw [hcr] at hne2
                rw [hne2]
                rintro _ m3 ⟨⟨hh, rfl⟩ | ⟨hh, rfl⟩, rfl⟩
                · refine And.intro (fun h => absurd h (by decide)) (fun _ => hstep _ (k_in_kshl _ _) (fun o' ho' => ?_))
                  rw [bt_bit (by omega) (by omega), decide_eq_true_eq]
                  exact ⟨fun z => ⟨z, he, hh⟩, fun z => z.1⟩
                · refine And.intro (fun _ => hstep 0 (by constructor <;> decide) (fun o' ho' => ?_)) (fun h => absurd rfl h)
                  rw [bt_zero]
                  exact ⟨fun z => (by cases z), fun z => absurd z.2.2 hh⟩
        -- what the cell counts
        have nine : ∀ z : Int, z = G i → kW (eX X) 5 M_X12_cutOf T 9 [some (vR 54), some (vI n), some (vI a), some (vI (sumN G i.toNat)), some (vI v), some (vI i), x6, x7] [vI z, vI (sumN G i.toNat)] m := by
          rintro z rfl
          have go12 : ∀ b : Int, (b = 0 ∨ b = 1) → (b ≠ 0 ↔ inRf w d l i ∧ walP w d l R (cC w d i) ∧ c 15 (cC w d i) = 0 ∧ bt (c 10 (c 11 n * 5 + 4)) (gZ w d (cC w d i)).toNat = true) → kW (eX X) 5 M_X12_cutOf T 11 [some (vR 54), some (vI n), some (vI a), some (vI (sumN G i.toNat + G i)), some (vI v), some (vI i), x6, x7] [vI b] m := by
            intro b hb hbi
            refine kW_go ok_X12_cutOf [12] 20 ?_
            refine nets (c 9 14).toNat 0 b v (by omega) (by omega) hb hbi hv (fun o' ho' => ⟨Or.inl, fun z => z.elim id (fun z => absurd z.1 (by omega))⟩)
          refine kW_go ok_X12_cutOf [11] 20 ?_
          refine ⟨by constructor <;> omega, ?_⟩
          refine kCall_mono (c_X12_isWall X m hD hd hR i (by omega)) (Nat.le_of_ble_eq_true rfl) ?_
          rintro _ m2 ⟨⟨hh, rfl⟩ | ⟨hh, rfl⟩, rfl⟩
          · obtain ⟨hin, hwl⟩ := hh
            obtain ⟨hci, hcr⟩ := cC_in hin
            have hgz := gZ_in hD hci
            have hz9 := (cR_geo hD hci).2.2.2
            rw [hcr] at hz9
            have e71 : m2 71 i = c 15 (cC w d i) := by
              have := hR1.1.2.2.2.2.2.1.1 _ hci
              rw [hcr, hts.1 15 (by decide) (by decide)] at this
              exact this
            have e61 : m2 61 n = c 11 n := by
              have := hR1.1.2.2.2.1.2 n (by rw [e9]; exact hnn)
              rw [hts.1 11 (by decide) (by decide)] at this
              exact this
            have hso := hM.1.2.2.2.1 n hnn
            have h13 := hM.1.1
            have e60 : m2 60 (c 11 n) = c 10 (c 11 n * 5 + 4) := by
              have := (hR1.1.2.2.1.2 (c 11 n) (by rw [e9]; exact hso)).2.2.2.2
              rw [hts.1 10 (by decide) (by decide)] at this
              exact this
            refine And.intro (fun h => absurd h (by decide)) (fun _ => ⟨hib, And.intro (fun hk => go12 0 (Or.inl rfl) ⟨fun z => absurd rfl z, fun z => ?_⟩) (fun hk => ⟨hnb, ?_, ?_⟩)⟩)
            · exact absurd (e71.trans z.2.2.1) hk
            · show 0 ≤ m2 61 n ∧ m2 61 n < _
              rw [e61]
              exact ⟨hso.1, by have := hso.2; show c 11 n < 7; omega⟩
            · refine kCall_mono (c_X12_layerOf (eX X) m2 i (by omega) (by omega)) (Nat.le_of_ble_eq_true rfl) ?_
              rintro _ m3 ⟨rfl, rfl⟩
              have hk : m3 71 i = 0 := hk
              have hask : kand (kshr (m3 60 (m3 61 n)) (i / 81)) 1 = 1 ↔ bt (c 10 (c 11 n * 5 + 4)) (gZ w d (cC w d i)).toNat = true := by
                rw [e61, e60, ← hz9]
                obtain ⟨-, -, l1, l2⟩ := id hD
                exact k_ask1 (by omega) (by omega)
              refine And.intro (fun h => go12 0 (Or.inl rfl) ⟨fun z => absurd rfl z, fun z => absurd (hask.mpr z.2.2.2) h⟩) (fun h => go12 1 (Or.inr rfl) ⟨fun _ => ⟨hin, hwl, by rw [← e71]; exact hk, hask.mp h⟩, fun _ => by decide⟩)
          · exact And.intro (fun _ => go12 0 (Or.inl rfl) ⟨fun z => absurd rfl z, fun z => absurd ⟨z.1, z.2.1⟩ hh⟩) (fun h => absurd rfl h)
        refine kW_go ok_X12_cutOf [5, 9] 20 ?_
        refine And.intro (fun h => absurd h (by omega)) (fun _ => And.intro (fun h0 => ?_) (fun h0 => ⟨hib, And.intro (fun hh => nine 0 ?_) (fun hh => nine 1 ?_)⟩))
        · have h0 : ¬ a = 0 := h0
          refine kCall_mono (c_X12_isWall X m hD hd hR i (by omega)) (Nat.le_of_ble_eq_true rfl) ?_
          rintro _ m2 ⟨⟨hh, rfl⟩ | ⟨hh, rfl⟩, rfl⟩
          · exact And.intro (fun h => absurd h (by decide)) (fun _ => nine 1 (by rw [hGd, if_neg h0, iv_t hh]))
          · exact And.intro (fun _ => nine 0 (by rw [hGd, if_neg h0, iv_f hh])) (fun h => absurd rfl h)
        · have h0 : a = 0 := h0
          have hh : m 83 i = 0 := hh
          rw [hGd, if_pos h0, if_pos hh]
        · have h0 : a = 0 := h0
          have hh : ¬ m 83 i = 0 := hh
          rw [hGd, if_pos h0, if_neg hh]
    refine kW_go ok_X12_cutOf [5] 20 ?_
    exact loop 324 0 0 none none (by omega) (by omega) (by constructor <;> decide) (fun o ho => by
      rw [bt_zero]
      exact ⟨fun z => (by cases z), fun ⟨_, x, hx, _⟩ => absurd hx.2 (by have := (cR_geo hD hx.1).1; omega)⟩)
  · have h1 : a = 1 := h1
    have pins : ∀ (k : Nat) (p : Int) (x4 x5 x6 x7 : Option AV), p + k = c 13 n → 0 ≤ p → (∀ i : Int, (0 ≤ i ∧ i < p) → R (c 14 (n * 4 + i))) → kW (eX X) 5 M_X12_cutOf T 1 [some (vR 54), some (vI n), some (vI a), some (vI p), x4, x5, x6, x7] [] m := by
      intro k
      induction k with
      | zero =>
        intro p x4 x5 x6 x7 hk h0 hall
        refine kW_go ok_X12_cutOf [1] 20 ?_
        refine ⟨hnb, And.intro (fun _ => hT _ _ ⟨-1, rfl, Or.inr (Or.inl ⟨h1, Or.inl ⟨rfl, fun i hi => hall i (by omega)⟩⟩), rfl⟩) (fun h => ?_)⟩
        have h : p < m 63 n := h
        omega
      | succ k ih =>
        intro p x4 x5 x6 x7 hk h0 hall
        have hpi := hpa p (by omega)
        have e64p := e64 p (by omega)
        have hi4 : 0 ≤ 4 * n + p ∧ 4 * n + p < ((32 : Nat) : Int) := by omega
        have hg := (cR_geo hD hpi).1
        have hgb : 0 ≤ m 64 (4 * n + p) ∧ m 64 (4 * n + p) < ((324 : Nat) : Int) := by rw [e64p]; exact hg
        refine kW_go ok_X12_cutOf [1] 20 ?_
        refine ⟨hnb, And.intro (fun h => ?_) (fun _ => ⟨by constructor <;> omega, by constructor <;> omega, hi4, hgb, And.intro (fun hh => ⟨by constructor <;> omega, ih (p + 1) _ _ _ _ (by omega) (by omega) (fun i hi => ?_)⟩) (fun hh => ?_)⟩)⟩
        · have h : m 63 n ≤ p := h
          omega
        · by_cases e : i = p
          · rw [e]
            refine (hR _ hpi).mp ?_
            rw [← e64p]
            exact hh
          · exact hall i (by omega)
        · have hh : m 83 (m 64 (4 * n + p)) = 0 := hh
          rw [e64p] at hh
          exact hT _ _ ⟨p, rfl, Or.inr (Or.inl ⟨h1, Or.inr ⟨by omega, fun z => (hR _ hpi).mpr z hh, hall⟩⟩), rfl⟩
    exact pins (c 13 n).toNat 0 none none none none (by omega) (by omega) (fun i hi => by omega)
