/-! NETLIST alike: the answers -/
theorem prs_sum {w d l : Int} {c : Mem} (hs : ∀ a b, inC w d l a → stN w d l c a b → stN w d l c b a) : sumN (fun n => sumN (fun k => iv (shP w d l c n k) 1) n.toNat) (c 9 14).toNat = prsV w d l c := by
  unfold prsV
  rw [sum_swap (fun a b => iv (a < b ∧ shP w d l c a b) 1) (c 9 14).toNat (c 9 14).toNat]
  refine sumN_cong (fun b h0 h1 => ?_)
  show sumN (fun k => iv (shP w d l c b k) 1) b.toNat = sumN (fun a => iv (a < b ∧ shP w d l c a b) 1) (c 9 14).toNat
  rw [sum_cut (f := fun a => iv (a < b ∧ shP w d l c a b) 1) (k := b.toNat) (by omega) (fun i a _ => iv_f (fun q => by have := q.1; omega))]
  refine sumN_cong (fun a a0 a1 => iv_cong ?_)
  exact ⟨fun q => ⟨by omega, shP_sym hs q⟩, fun q => shP_sym hs q.2⟩
theorem pin_cuN {w d l : Int} {c : Mem} (hM : WM w d l c) {n p : Int} (hn : 0 ≤ n ∧ n < 8) (hp : 0 ≤ p ∧ p < c 13 n) : inC w d l (c 14 (n * 4 + p)) ∧ cuN c n (c 14 (n * 4 + p)) := by
  have hx := hM.2.1.2.1 n p hn hp
  exact ⟨hx, Or.inl (((hM.2.2.1 n hn).1 _ hx).2.2.2.mpr (Or.inr ⟨p, hp, rfl⟩))⟩
set_option maxRecDepth 100000 in
theorem c_X12_netlist (X : Xv) (c m : Mem) {w d l : Int} (hD : okD w d l) (hM : WM w d l c) (hR : RR w d l c m) (z : Int) : kCall (eX X) 4 290 [vR 54, vI z] m (fun r m' => (¬ (0 ≤ z ∧ z ≤ 1) ∧ r = some (vI (-1)) ∧ m' = m) ∨ ((0 ≤ z ∧ z ≤ 1) ∧ r = some (vI (if z = 0 then prsV w d l c else opnV w d l c)) ∧ RR w d l c m' ∧ ∀ o, o < 54 → m' o = m o)) := by
  have h8 := hM.1.2.1
  have hs : ∀ a b, inC w d l a → stN w d l c a b → stN w d l c b a := fun a b ha h => stN_sym hD hM hR.2.1 ha h
  refine kCall_ofT ok_X12_netlist rfl (Nat.le_of_ble_eq_true rfl) (fun T hT => ?_)
  refine kW_go ok_X12_netlist [1] 20 ?_
  refine kCall_mono (c_X12_in (eX X) m z 0 1) (Nat.le_of_ble_eq_true rfl) ?_
  rintro _ m ⟨rfl, rfl⟩
  refine And.intro (fun h => ?_) (fun h => hT _ _ (Or.inl ⟨fun q => b2i_0.mp h q, rfl, rfl⟩))
  have hz : 0 ≤ z ∧ z ≤ 1 := b2i_n.mp h
  refine kW_go ok_X12_netlist [2] 20 ?_
  refine kCall_mono (c_X12_uniteAll X c m hD hM hR) (Nat.le_of_ble_eq_true rfl) ?_
  rintro _ m1 ⟨rfl, hK⟩
  have hf1 := hK.1
  obtain ⟨ρ, hU⟩ := KU_UFN hD hM hR hK
  have hR1 : RR w d l c m1 := RR_ref (fun o a b => hf1 o (by omega)) hR
  have g26 : m1 54 26 = c 9 14 := hR1.1.2.2.2.1.1
  obtain ⟨B, hB⟩ : ∃ B : Int → Int → Int, ∀ n k, B n k = if z = 0 then iv (shP w d l c n k) 1 else iv (nwP w d l c n k) 1 := ⟨_, fun _ _ => rfl⟩
  have bB : ∀ a (k : Nat), 0 ≤ sumN (B a) k ∧ sumN (B a) k ≤ 1 * k := fun a k => sumN_01 (fun x => by rw [hB]; split <;> exact iv_in ⟨by decide, by decide⟩) k
  obtain ⟨A, hA⟩ : ∃ A : Int → Int, ∀ n, A n = if 0 ≤ n ∧ n < 8 then (if z = 0 then sumN (B n) n.toNat else sumN (B n) (c 13 n).toNat) else 0 := ⟨_, fun _ => rfl⟩
  have bA : ∀ k : Nat, 0 ≤ sumN A k ∧ sumN A k ≤ 8 * k := fun k => sumN_01 (fun n => by
    rw [hA]
    split
    · rename_i h
      have h13 := (hM.2.1.1 n h).1
      have b1 := bB n n.toNat
      have b2 := bB n (c 13 n).toNat
      split <;> omega
    · omega) k
  have hsum : sumN A (c 9 14).toNat = if z = 0 then prsV w d l c else opnV w d l c := by
    by_cases e : z = 0
    · rw [if_pos e, ← prs_sum hs]
      refine sumN_cong (fun n a b => ?_)
      rw [hA, if_pos (by omega), if_pos e]
      exact sumN_cong (fun k _ _ => by rw [hB, if_pos e])
    · rw [if_neg e]
      unfold opnV
      refine sumN_cong (fun n a b => ?_)
      rw [hA, if_pos (by omega), if_neg e]
      exact sumN_cong (fun k _ _ => by rw [hB, if_neg e])
  have outer : ∀ (q : Nat) (n : Int) (x4 x5 x6 : Option AV), n + q = c 9 14 → 0 ≤ n → kW (eX X) 3 M_X12_netlist T 2 [some (vR 54), some (vI z), some (vI (sumN A n.toNat)), some (vI n), x4, x5, x6] [] m1 := by
    intro q
    induction q with
    | zero =>
      intro n x4 x5 x6 hq h0
      have hn : n = c 9 14 := by omega
      refine kW_go ok_X12_netlist [2] 20 ?_
      refine And.intro (fun _ => hT _ _ (Or.inr ⟨hz, by rw [hn, hsum], hR1, fun o ho => hf1 o (by omega)⟩)) (fun h => ?_)
      have h : n < m1 54 26 := h
      omega
    | succ q ih =>
      intro n x4 x5 x6 hq h0
      have hn8 : 0 ≤ n ∧ n < 8 := by omega
      have hnb : 0 ≤ n ∧ n < ((8 : Nat) : Int) := hn8
      have hnn : 0 ≤ n ∧ n < c 9 14 := by omega
      have b1 := bA n.toNat
      have h13 := (hM.2.1.1 n hn8).1
      have hRs := hR1.1.2.2.2.2.1 n hn8
      have e63 : m1 63 n = c 13 n := hRs.2.1
      have fourteen : ∀ (v : Int) (x4 x5 x6 : Option AV), v = A n → kW (eX X) 3 M_X12_netlist T 14 [some (vR 54), some (vI z), some (vI (sumN A n.toNat + v)), some (vI n), x4, x5, x6] [] m1 := by
        intro v x4 x5 x6 hv
        have := ih (n + 1) x4 x5 x6 (by omega) (by omega)
        rw [sumN_s A h0, ← hv] at this
        refine kW_go ok_X12_netlist [2] 20 ?_
        exact ⟨by constructor <;> omega, this⟩
      have hnext : n < m1 54 26 := by omega
      by_cases e : z = 0
      · subst e
        have hAn : A n = sumN (B n) n.toNat := by rw [hA, if_pos hn8, if_pos rfl]
        have inner : ∀ (r : Nat) (k : Int), k + r = n → 0 ≤ k → kW (eX X) 3 M_X12_netlist T 3 [some (vR 54), some (vI 0), some (vI (sumN A n.toNat + sumN (B n) k.toNat)), some (vI n), some (vI k), x5, x6] [] m1 := by
          intro r
          induction r with
          | zero =>
            intro k hr hk0
            have hkn : k = n := by omega
            subst hkn
            refine kW_go ok_X12_netlist [14] 20 ?_
            refine And.intro (fun _ => ⟨hnb, And.intro (fun _ => fourteen _ _ _ _ hAn.symm) (fun _ => And.intro (fun _ => fourteen _ _ _ _ hAn.symm) (fun h => absurd h (by decide)))⟩) (fun h => absurd h (by omega))
          | succ r ih2 =>
            intro k hr hk0
            have b2 := bB n k.toNat
            have hfive : ∀ v : Int, v = B n k → kW (eX X) 3 M_X12_netlist T 5 [some (vR 54), some (vI 0), some (vI (sumN A n.toNat + sumN (B n) k.toNat)), some (vI n), some (vI k), x5, x6] [vI v, vI (sumN A n.toNat + sumN (B n) k.toNat)] m1 := by
              intro v hv
              have hv1 : 0 ≤ v ∧ v ≤ 1 := by rw [hv, hB, if_pos rfl]; exact iv_in ⟨by decide, by decide⟩
              have := ih2 (k + 1) (by omega) (by omega)
              rw [sumN_s (B n) hk0, ← hv, ← Int.add_assoc] at this
              refine kW_go ok_X12_netlist [3] 20 ?_
              exact ⟨by constructor <;> omega, by constructor <;> omega, this⟩
            refine kW_go ok_X12_netlist [5, 6] 20 ?_
            refine And.intro (fun h => absurd h (by omega)) (fun _ => And.intro (fun h => absurd rfl h) (fun _ => ?_))
            refine kCall_mono (c_X12_areShort X c m1 hD hM hR1.2.1 ρ hU n k hnn (by omega)) (Nat.le_of_ble_eq_true rfl) ?_
            rintro _ m2 ⟨⟨hh, rfl⟩ | ⟨hh, rfl⟩, rfl⟩
            · exact And.intro (fun h => absurd h (by decide)) (fun _ => hfive 1 (by rw [hB, if_pos rfl, iv_t hh]))
            · exact And.intro (fun _ => hfive 0 (by rw [hB, if_pos rfl, iv_f hh])) (fun h => absurd rfl h)
        have hgo := inner n.toNat 0 (by omega) (by omega)
        rw [show sumN (B n) (0 : Int).toNat = 0 from rfl, Int.add_zero] at hgo
        refine kW_go ok_X12_netlist [3] 20 ?_
        exact And.intro (fun h => absurd hnext (by have h : m1 54 26 ≤ n := h; omega)) (fun _ => hgo)
      · have ez : z = 1 := by omega
        subst ez
        have hAn : A n = sumN (B n) (c 13 n).toNat := by rw [hA, if_pos hn8, if_neg (by decide)]
        have hB0 : B n 0 = 0 := by rw [hB, if_neg (by decide)]; exact iv_f (fun q => by have := q.1; omega)
        have hpin : ∀ p : Int, (0 ≤ p ∧ p < c 13 n) → m1 64 (4 * n + p) = cR w d (c 14 (n * 4 + p)) ∧ (0 ≤ cR w d (c 14 (n * 4 + p)) ∧ cR w d (c 14 (n * 4 + p)) < 324) := fun p hp => ⟨hRs.2.2 p hp, (cR_geo hD (pin_cuN hM hn8 hp).1).1⟩
        have pins : ∀ (r : Nat) (p : Int) (x5 x6 : Option AV), (p + r = c 13 n ∨ (r = 0 ∧ c 13 n ≤ p)) → 1 ≤ p → p ≤ 5 → kW (eX X) 3 M_X12_netlist T 7 [some (vR 54), some (vI 1), some (vI (sumN A n.toNat + sumN (B n) (if p ≤ c 13 n then p else c 13 n).toNat)), some (vI n), some (vI p), x5, x6] [] m1 := by
          intro r
          induction r with
          | zero =>
            intro p x5 x6 hr hp hp5
            have e : (if p ≤ c 13 n then p else c 13 n) = c 13 n := by split <;> omega
            rw [e]
            refine kW_go ok_X12_netlist [14] 20 ?_
            refine ⟨hnb, And.intro (fun _ => fourteen _ _ _ _ hAn.symm) (fun h => ?_)⟩
            have h : p < m1 63 n := h
            omega
          | succ r ih2 =>
            intro p x5 x6 hr hp hp5
            have hr : p + ((r + 1 : Nat) : Int) = c 13 n := by omega
            rw [if_pos (by omega)]
            have b2 := bB n p.toNat
            have hpp := hpin p (by omega)
            have hpc := pin_cuN hM hn8 (p := p) (by omega)
            have hthirteen : ∀ (v : Int) (x5 x6 : Option AV), v = B n p → kW (eX X) 3 M_X12_netlist T 13 [some (vR 54), some (vI 1), some (vI (sumN A n.toNat + sumN (B n) p.toNat)), some (vI n), some (vI p), x5, x6] [vI v, vI (sumN A n.toNat + sumN (B n) p.toNat)] m1 := by
              intro v x5 x6 hv
              have hv1 : 0 ≤ v ∧ v ≤ 1 := by rw [hv, hB, if_neg (by decide)]; exact iv_in ⟨by decide, by decide⟩
              have := ih2 (p + 1) x5 x6 (Or.inl (by omega)) (by omega) (by omega)
              rw [if_pos (by omega), sumN_s (B n) (by omega), ← hv, ← Int.add_assoc] at this
              refine kW_go ok_X12_netlist [7] 20 ?_
              exact ⟨by constructor <;> omega, by constructor <;> omega, this⟩
            obtain ⟨Q, hQ⟩ : ∃ Q : Int → Prop, ∀ i, Q i ↔ ∀ j : Int, (0 ≤ j ∧ j < i) → ¬ Rch (stN w d l c) (c 14 (n * 4 + j)) (c 14 (n * 4 + p)) := ⟨_, fun _ => Iff.rfl⟩
            have flags : ∀ (s : Nat) (i b : Int), i + s = p → 0 ≤ i → ((Q i ∧ b = 1) ∨ (¬ Q i ∧ b = 0)) → kW (eX X) 3 M_X12_netlist T 8 [some (vR 54), some (vI 1), some (vI (sumN A n.toNat + sumN (B n) p.toNat)), some (vI n), some (vI p), some (vI b), some (vI i)] [] m1 := by
              intro s
              induction s with
              | zero =>
                intro i b hs' hi0 hb
                have hi : i = p := by omega
                subst hi
                refine kW_go ok_X12_netlist [13] 20 ?_
                refine And.intro (fun _ => ?_) (fun h => absurd h (by omega))
                rcases hb with ⟨hq, rfl⟩ | ⟨hq, rfl⟩
                · exact And.intro (fun h => absurd h (by decide)) (fun _ => hthirteen 1 _ _ (by rw [hB, if_neg (by decide), iv_t ⟨hp, (hQ _).mp hq⟩]))
                · exact And.intro (fun _ => hthirteen 0 _ _ (by rw [hB, if_neg (by decide), iv_f (fun z => hq ((hQ _).mpr z.2))])) (fun h => absurd rfl h)
              | succ s ih3 =>
                intro i b hs' hi0 hb
                have hpi := hpin i (by omega)
                have hic := pin_cuN hM hn8 (p := i) (by omega)
                have hiff := hU.2 n n _ _ hnn hnn hic.1 hpc.1 hic.2 hpc.2
                have eQ : Q (i + 1) ↔ Q i ∧ ¬ Rch (stN w d l c) (c 14 (n * 4 + i)) (c 14 (n * 4 + p)) := by
                  rw [hQ, hQ]
                  constructor
                  · intro z
                    exact ⟨fun j hj => z j (by omega), z i (by omega)⟩
                  · rintro ⟨z1, z2⟩ j hj
                    by_cases e : j = i
                    · rw [e]; exact z2
                    · exact z1 j (by omega)
                have hten : ∀ v : Int, ((Q (i + 1) ∧ v = 1) ∨ (¬ Q (i + 1) ∧ v = 0)) → kW (eX X) 3 M_X12_netlist T 10 [some (vR 54), some (vI 1), some (vI (sumN A n.toNat + sumN (B n) p.toNat)), some (vI n), some (vI p), some (vI b), some (vI i)] [vI v] m1 := by
                  intro v hv
                  refine kW_go ok_X12_netlist [8] 20 ?_
                  exact ⟨by constructor <;> omega, ih3 (i + 1) v (by omega) (by omega) hv⟩
                have hix1 : 0 ≤ 4 * n + p ∧ 4 * n + p < ((32 : Nat) : Int) := by omega
                have hix2 : 0 ≤ 4 * n + i ∧ 4 * n + i < ((32 : Nat) : Int) := by omega
                refine kW_go ok_X12_netlist [10] 20 ?_
                refine And.intro (fun h => absurd h (by omega)) (fun _ => And.intro (fun h => hten 0 (Or.inr ⟨fun z => ?_, rfl⟩)) (fun h => ?_))
                · have h : b = 0 := h
                  rcases hb with ⟨hq, hb⟩ | ⟨hq, hb⟩
                  · omega
                  · exact hq (eQ.mp z).1
                · have hq : Q i := by
                    rcases hb with ⟨hq, hb⟩ | ⟨hq, hb⟩
                    · exact hq
                    · exact absurd hb h
                  show inR (324 * n) ∧ inR (4 * n) ∧ inR (4 * n + p) ∧ (0 ≤ 4 * n + p ∧ 4 * n + p < ((32 : Nat) : Int)) ∧ inR (324 * n + m1 64 (4 * n + p)) ∧ kCall (eX X) 3 286 [vR 54, vI (324 * n + m1 64 (4 * n + p))] m1 _
                  rw [hpp.1]
                  refine ⟨by constructor <;> omega, by constructor <;> omega, by constructor <;> omega, hix1, by constructor <;> omega, ?_⟩
                  refine kCall_mono (c_X12_find X m1 ρ hU.1 (324 * n + cR w d (c 14 (n * 4 + p))) (by omega)) (Nat.le_of_ble_eq_true rfl) ?_
                  rintro _ m2 ⟨rfl, rfl⟩
                  show inR (324 * n) ∧ inR (4 * n) ∧ inR (4 * n + i) ∧ (0 ≤ 4 * n + i ∧ 4 * n + i < ((32 : Nat) : Int)) ∧ inR (324 * n + m2 64 (4 * n + i)) ∧ kCall (eX X) 3 286 [vR 54, vI (324 * n + m2 64 (4 * n + i))] m2 _
                  rw [hpi.1]
                  refine ⟨by constructor <;> omega, by constructor <;> omega, by constructor <;> omega, hix2, by constructor <;> omega, ?_⟩
                  refine kCall_mono (c_X12_find X m2 ρ hU.1 (324 * n + cR w d (c 14 (n * 4 + i))) (by omega)) (Nat.le_of_ble_eq_true rfl) ?_
                  rintro _ m3 ⟨rfl, rfl⟩
                  exact And.intro (fun h => hten 0 (Or.inr ⟨fun z => (eQ.mp z).2 (hiff.mp (Eq.symm h)), rfl⟩)) (fun h => hten 1 (Or.inl ⟨eQ.mpr ⟨hq, fun z => h (hiff.mpr z).symm⟩, rfl⟩))
            refine kW_go ok_X12_netlist [8, 14] 20 ?_
            refine ⟨hnb, And.intro (fun h => ?_) (fun _ => And.intro (fun h => absurd rfl h) (fun _ => flags p.toNat 0 1 (by omega) (by omega) (Or.inl ⟨(hQ 0).mpr (fun j hj => by omega), rfl⟩)))⟩
            have h : m1 63 n ≤ p := h
            omega
        have hz : sumN (B n) (if 1 ≤ c 13 n then 1 else c 13 n).toNat = 0 := sumN_z (fun b hb0 hb => by
          have e : (if 1 ≤ c 13 n then (1 : Int) else c 13 n) ≤ 1 := by split <;> omega
          have : b = 0 := by omega
          rw [this]
          exact hB0)
        have hgo := pins (c 13 n - 1).toNat 1 x5 x6 (by omega) (by omega) (by omega)
        rw [hz, Int.add_zero] at hgo
        refine kW_go ok_X12_netlist [7] 20 ?_
        exact And.intro (fun h => absurd hnext (by have h : m1 54 26 ≤ n := h; omega)) (fun _ => And.intro (fun _ => hgo) (fun _ => And.intro (fun _ => hgo) (fun h => absurd h (by decide))))
  exact outer (c 9 14).toNat 0 none none none (by omega) (by omega)
theorem pair_netlist (X : Xv) (m : Mem) {w d l : Int} (hI : Inv X w d l m) (z : Int) : kPair X 161 290 [vI z] m (Inv X w d l) := by
  obtain ⟨hB, hl, hW, hR, h60, h31⟩ := id hI
  obtain ⟨hD, hN, hG⟩ := id hB
  have hM := WF_WM hW
  have hc4 := okD_cells hD
  have hs : ∀ a b, inC w d l a → stN w d l m a b → stN w d l m b a := fun a b ha h => stN_sym hD hM hR.2.1 ha h
  refine kp2 (k1 := 6) (k2 := 5) (by decide) (by decide) ?_
  refine kCall_ofT ok_X11_netlist rfl (Nat.le_of_ble_eq_true rfl) (fun T hT => ?_)
  have hno : ¬ (0 ≤ z ∧ z ≤ 1) → T (some (vI (-1))) m := by
    intro h
    refine hT _ _ ⟨_, rfl, kCall_mono (c_X12_netlist X m m hD hM hR z) (Nat.le_of_ble_eq_true rfl) ?_⟩
    rintro _ m2 (⟨-, rfl, rfl⟩ | ⟨h2, -⟩)
    · exact ⟨rfl, hI⟩
    · exact absurd h2 h
  have hfin : ∀ (v : Int) (m1 : Mem), (0 ≤ z ∧ z ≤ 1) → v = (if z = 0 then prsV w d l m else opnV w d l m) → (∀ o, o ≠ 46 → o ≠ 48 → o ≠ 49 → o ≠ 50 → m1 o = m o) → T (some (vI v)) m1 := by
    intro v m1 hz hv hf
    have hI1 : Inv X w d l m1 := inv_k hI (fun o ho => hf o (by omega) (by omega) (by omega) (by omega))
    refine hT _ _ ⟨_, rfl, kCall_mono (c_X12_netlist X m m1 hD hM (RR_ref (fun o a _ => hf o (by omega) (by omega) (by omega) (by omega)) hR) z) (Nat.le_of_ble_eq_true rfl) ?_⟩
    rintro _ m2 (⟨h2, -⟩ | ⟨-, rfl, hR2, hf2⟩)
    · exact absurd hz h2
    · exact ⟨by rw [hv], inv_mk hI1 (m1 := m1) (c' := m1) (fun _ _ _ => rfl) Es_rf hI1.2.2.1 rfl rfl hf2 (RR_es (Es_of (fun o ho => hf o (by omega) (by omega) (by omega) (by omega))) hR2)⟩
  have two : (0 ≤ z ∧ z ≤ 1) → kW (eX X) 5 M_X11_netlist T 2 [some (vR 0), some (vI z)] [] m := by
    intro hz
    refine kW_go ok_X11_netlist [] 20 ?_
    refine kCall_mono (c_X0_joinAll X m hB hM hs) (Nat.le_of_ble_eq_true rfl) ?_
    rintro _ m1 ⟨rfl, hf, q, h46, hq, hL⟩
    refine And.intro (fun h => ?_) (fun h => ?_)
    · refine kCall_mono (c_X0_openParts X m m1 hM hN (by rw [hf 9 (by decide) (by decide) (by decide) (by decide)]) (hf 13 (by decide) (by decide) (by decide) (by decide)) (hf 14 (by decide) (by decide) (by decide) (by decide)) q hL) (Nat.le_of_ble_eq_true rfl) ?_
      rintro _ m2 ⟨rfl, rfl⟩
      exact hfin _ _ hz (by rw [if_neg h]) hf
    · refine kCall_mono (c_X0_joinedPairs X m m1 hM (by omega) (by rw [hf 9 (by decide) (by decide) (by decide) (by decide)]) q h46 hq hL) (Nat.le_of_ble_eq_true rfl) ?_
      rintro _ m2 ⟨rfl, rfl⟩
      exact hfin _ _ hz (by rw [if_pos h]) hf
  refine kW_go ok_X11_netlist [2] 20 ?_
  exact And.intro (fun h => hno (by have h : z < 0 := h; omega)) (fun h => And.intro (fun h2 => two (by have h2 : z ≤ 1 := h2; have h : 0 ≤ z := h; omega)) (fun h2 => hno (by have h2 : 1 < z := h2; omega)))
