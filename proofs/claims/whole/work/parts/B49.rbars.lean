/-! BARS and WHY: the reference -/
theorem LRw_reach6 {w d l n mv : Int} {F : Int → Prop} {cs : Int → Int → Int} {be : Int} (hD : okD w d l) (hmv : mv = 4 ∨ mv = 6) : ∀ {j : Nat} {p : Int} {c : Mem} {s : Int} {r : Option Int} {c' : Mem}, inC w d l (c 14 (n * 4)) → (∀ q, (p ≤ q ∧ q < p + j) → inC w d l (c 14 (n * 4 + q))) → ownF w d l (w * d * l) n F c → LRw w d l (w * d * l) n mv F cs be j p c s r c' → r ≠ none → ∀ q, (p ≤ q ∧ q < p + j) → Rch (stR w d l F 6) (c 14 (n * 4)) (c 14 (n * 4 + q))
  | 0, p, c, s, r, c', _, _, _, _, _ => fun q hq => by omega
  | j + 1, p, c, s, r, c', h0, hpi, hO, h, hr => by
    have hJR : ∀ y, joi w d l (w * d * l) n c y → Rch (stR w d l F 6) (c 14 (n * 4)) y := fun y hy => joi_reach h0 hO ownV_6 hy
    have row6 : ∀ {ks : List Int} {x dir C : Int}, inC w d l x → row w d l mv F (joi w d l (w * d * l) n c) cs be ks x dir C → Rch (stR w d l F 6) (c 14 (n * 4)) x := by
      intro ks
      induction ks with
      | nil => intro x dir C _ h; exact hJR _ h.1
      | cons k ks ih =>
        intro x dir C hx h
        obtain ⟨r1, r2, r3, r4, r5⟩ := h
        have hk6 : 0 ≤ k ∧ k < 6 := by omega
        exact Rch_to (ih (nx_in r4).1 r5) ⟨oppF k, opp_in hk6, nx_opp hD hx hk6 r4, by have := hx.1; omega, r2⟩
    rcases h with ⟨a1, a2⟩ | ⟨a1, a2, a3, a4⟩ | ⟨a1, C, q, ks, a2, a3, a4⟩
    · intro q hq
      by_cases hqp : q = p
      · rw [hqp]; exact hJR _ a1
      · exact LRw_reach6 hD hmv h0 (fun q hq' => hpi q (by omega)) hO a2 hr q (by omega)
    · exact absurd a3 hr
    · have e14 : adP w d l (w * d * l) n ks (c 14 (n * 4 + p)) c 14 = c 14 := adP_ne (by decide) (by decide) _ _ _
      have hxi := hpi p (by omega)
      have hrow := (pth_row a3 a2).1
      have hJF : ∀ y, joi w d l (w * d * l) n c y → F y := fun y hy => ownF_joi h0 hO hy
      have hO' := ownF_adP hD rfl (by omega) hJF hxi hO hrow
      intro q' hq'
      by_cases hqp : q' = p
      · rw [hqp]; exact row6 hxi hrow
      · have := LRw_reach6 hD hmv (by rw [e14]; exact h0) (fun q hq => by rw [e14]; exact hpi q (by omega)) hO' a4 hr q' (by omega)
        rw [e14] at this
        exact this
theorem xor8 {a b : Int} (ha : 0 ≤ a ∧ a < 256) (hb : 0 ≤ b ∧ b < 256) : 0 ≤ kxor a b ∧ kxor a b < 256 := bits8 (k_in_kxor _ _) (fun o ho => by
  rw [bt_xor, bt_small (n := 8) (inR_small (by omega)) ha.1 ha.2 ho, bt_small (n := 8) (inR_small (by omega)) hb.1 hb.2 ho]
  rfl)
theorem lexA_k {a b : Int} (ha : 0 ≤ a ∧ a < 256) (hb : 0 ≤ b ∧ b < 256) : ¬ kand (kand a (kxor b a)) (-(kxor b a)) = 0 ↔ lexA a b := by
  obtain ⟨x, hx⟩ : ∃ x, x = kxor b a := ⟨_, rfl⟩
  have hx8 : 0 ≤ x ∧ x < 256 := by rw [hx]; exact xor8 hb ha
  have hl : ∀ k : Nat, k < 32 → ((bt x k = true ∧ bt (-x) k = true) ↔ (bt x k = true ∧ ∀ q, q < 8 → q < k → bt x q = false)) := by
    intro k hk
    have := low_bit ⟨x.toNat, by omega⟩ ⟨k, hk⟩
    simp only [Int.toNat_of_nonneg hx8.1] at this
    rw [this]
    exact and_congr_right (fun _ => ⟨fun h q q8 hq => h ⟨q, q8⟩ hq, fun h q hq => h q.val q.isLt hq⟩)
  have hxb : ∀ k, bt x k = (bt b k ^^ bt a k) := fun k => by rw [hx, bt_xor]
  rw [← hx, k_and0]
  constructor
  · intro h
    obtain ⟨k, hk⟩ := Classical.not_forall.mp h
    obtain ⟨h32, hk⟩ := Classical.not_imp.mp hk
    obtain ⟨h1, h2⟩ := Classical.not_not.mp hk
    rw [bt_and, Bool.and_eq_true] at h1
    obtain ⟨-, h3⟩ := (hl k h32).mp ⟨h1.2, h2⟩
    have hk8 : k < 8 := by
      refine Nat.lt_of_not_le (fun hge => ?_)
      have := h1.1
      rw [bt_small (n := 8) (inR_small (by omega)) ha.1 ha.2 hge] at this
      cases this
    have hbk := h1.2
    rw [hxb, h1.1] at hbk
    refine ⟨k, hk8, h1.1, ?_, fun q hq => ?_⟩
    · cases hh : bt b k with
      | false => rfl
      | true => rw [hh] at hbk; cases hbk
    · have := h3 q (by omega) hq
      rw [hxb] at this
      cases h5 : bt b q <;> cases h6 : bt a q <;> rw [h5, h6] at this <;> first | rfl | cases this
  · rintro ⟨p, p8, h1, h2, h3⟩ hall
    have hxp : bt x p = true := by rw [hxb, h1, h2]; rfl
    have h4 := (hl p (by omega)).mpr ⟨hxp, fun q _ hq => by rw [hxb, h3 q hq]; cases bt b q <;> rfl⟩
    exact hall p (by omega) ⟨by rw [bt_and, h1, hxp]; rfl, h4.2⟩
theorem c_X12_isAhead (X : Xv) (m : Mem) (a b : Int) (ha : 0 ≤ a ∧ a < 256) (hb : b = -1 ∨ (0 ≤ b ∧ b < 256)) : kCall (eX X) 2 M_X12_isAhead.1 [vI a, vI b] m (bP (b = -1 ∨ (b ≠ -1 ∧ ahd a b)) m) := by
  refine kCall_ofT ok_X12_isAhead rfl (Nat.le_of_ble_eq_true rfl) (fun T hT => ?_)
  refine kW_go ok_X12_isAhead [] 20 ?_
  have hpa := pop_in a
  refine And.intro (fun hne => ?_) (fun he => ?_)
  · have hne : ¬ b = -1 := hne
    have hb8 : 0 ≤ b ∧ b < 256 := by omega
    have hpb := pop_in b
    have hx := xor8 hb8 ha
    have hlex := lexA_k ha hb8
    have hy : ahd a b → T (some (vI 1)) m := fun h => hT _ _ ⟨Or.inr rfl, Or.inl ⟨Or.inr ⟨hne, h⟩, rfl⟩, rfl⟩
    have hn : ¬ ahd a b → T (some (vI 0)) m := fun h => hT _ _ ⟨Or.inl rfl, Or.inr ⟨fun z => z.elim (fun z => hne z) (fun z => h z.2), rfl⟩, rfl⟩
    refine kCall_mono (c_bitCount (eX X) m b hb8.1 hb8.2) (Nat.le_of_ble_eq_true rfl) ?_
    rintro _ m ⟨rfl, rfl⟩
    refine kCall_mono (c_bitCount (eX X) m a ha.1 ha.2) (Nat.le_of_ble_eq_true rfl) ?_
    rintro _ m ⟨rfl, rfl⟩
    refine ⟨by constructor <;> omega, And.intro (fun h => hy (Or.inl ?_)) (fun h => And.intro (fun h2 => hn ?_) (fun h2 => ⟨by constructor <;> omega, And.intro (fun h3 => hn ?_) (fun h3 => hy (Or.inr ⟨?_, hlex.mp h3⟩))⟩))⟩
    · have h : 0 < pop b - pop a := h
      omega
    · have h : pop b - pop a ≤ 0 := h
      have h2 : ¬ pop b - pop a = 0 := h2
      rintro (z | ⟨z, -⟩)
      · omega
      · omega
    · have h2 : pop b - pop a = 0 := h2
      rintro (z | ⟨-, z⟩)
      · omega
      · exact hlex.mpr z h3
    · have h2 : pop b - pop a = 0 := h2
      omega
  · have he : b = -1 := he
    exact And.intro (fun _ => hT _ _ ⟨Or.inr rfl, Or.inl ⟨Or.inl he, rfl⟩, rfl⟩) (fun h => absurd h (by decide))
theorem shl_set : (∀ N : Fin 9, 0 < kshl 1 (N.val : Int) ∧ kshl 1 (N.val : Int) ≤ 256 ∧ kshl 1 (N.val : Int) = ((2 ^ N.val : Nat) : Int)) ∧ ∀ (s : Fin 256) (k : Fin 8), bt (s.val : Int) k.val = s.val.testBit k.val := by decide +kernel
theorem vSet_iff {N n s : Int} (hN : 0 ≤ N ∧ N ≤ 8) (hn : 0 ≤ n ∧ n < 8) (h0 : 0 ≤ s) : (0 ≤ s ∧ s < kshl 1 N ∧ bt s n.toNat = false) ↔ vSet N n s := by
  have h1 := shl_set.1 ⟨N.toNat, by omega⟩
  simp only [Int.toNat_of_nonneg hN.1] at h1
  constructor
  · rintro ⟨-, h2, h3⟩
    have h8 : 0 ≤ s ∧ s < 256 := by omega
    refine ⟨h8, fun k hk => ⟨?_, fun e => ?_⟩⟩
    · refine Int.lt_of_not_ge (fun hge => ?_)
      by_cases hk8 : k < 8
      · have hb := shl_set.2 ⟨s.toNat, by omega⟩ ⟨k, hk8⟩
        simp only [Int.toNat_of_nonneg h0] at hb
        rw [hk] at hb
        have hlt : s.toNat < 2 ^ k := by
          have : 2 ^ N.toNat ≤ 2 ^ k := Nat.pow_le_pow_right (by decide) (by omega)
          omega
        rw [Nat.testBit_lt_two_pow hlt] at hb
        cases hb
      · rw [bt_small (n := 8) (inR_small (by omega)) h8.1 h8.2 (by omega)] at hk
        cases hk
    · rw [← e, Int.toNat_natCast, hk] at h3
      cases h3
  · intro h
    refine ⟨h0, ?_, vSet_n h hn.1⟩
    have hlt : s.toNat < 2 ^ N.toNat := by
      refine Nat.lt_pow_two_of_testBit s.toNat (fun i hi => ?_)
      by_cases hi8 : i < 8
      · have hb := shl_set.2 ⟨s.toNat, by have := h.1; omega⟩ ⟨i, hi8⟩
        simp only [Int.toNat_of_nonneg h0] at hb
        rw [← hb]
        cases hh : bt s i with
        | false => rfl
        | true => have := (h.2 i hh).1; omega
      · have : 2 ^ 8 ≤ 2 ^ i := Nat.pow_le_pow_right (by decide) (by omega)
        exact Nat.testBit_lt_two_pow (by have := h.1; omega)
    omega
/-- laying a net, a set's traces gone -/
def okR (w d l : Int) (c : Mem) (n mv : Int) (ex : Int → Int) (s : Int) : Prop := ∃ res c', LRw w d l (w * d * l) n mv (Fs w d l c n s) (cs0 c ex n) (be0 c n) (c 13 n - 1).toNat 1 (rmT (w * d * l) n c) 0 res c' ∧ res ≠ none
theorem F_gone {w d l n t s : Int} {c r : Mem} (h9 : c 9 14 ≤ 8) (hn : 0 ≤ n ∧ n < 8) (h28 : r 54 28 = s) (h30 : r 54 30 = 0) : frT w d l (cntT r) c n t = frT w d l (fun o => bt s o.toNat = false) c n t ∧ (bt s n.toNat = false → cntT r n) := by
  have hc : ∀ o : Int, (0 ≤ o ∧ o < 8) → (cntT r o ↔ bt s o.toNat = false) := by
    intro o ho
    unfold cntT
    rw [h28, k_ask0 ho.1 (by omega)]
    exact ⟨fun z => z.1, fun z => ⟨z, Or.inl h30⟩⟩
  refine ⟨?_, (hc n hn).mpr⟩
  funext x
  exact propext (frT_cong (hc n hn) (fun o ho _ => hc o (by omega)))
set_option maxRecDepth 100000 in
theorem c_X12_bars (X : Xv) (c m : Mem) {w d l : Int} {ex : Int → Int} (hD : okD w d l) (hM : WM w d l c) (hR : RR w d l c m) (hex : ∀ y, inC w d l y → ex y = 0) (n : Int) : kCall (eX X) 11 256 [vR 54, vI n] m (fun r m' => (¬ ((0 ≤ n ∧ n < c 9 14) ∧ c 13 n ≠ 0) ∧ r = some (vI (-1)) ∧ m' = m) ∨ (((0 ≤ n ∧ n < c 9 14) ∧ c 13 n ≠ 0) ∧ (∃ z, r = some (vI z) ∧ leastS (c 9 14) n (okR w d l c n 6 ex) z) ∧ RR w d l c m' ∧ ∀ o, o < 54 → m' o = m o)) := by
  have h8 := hM.1.2.1
  refine kCall_ofT ok_X12_bars rfl (Nat.le_of_ble_eq_true rfl) (fun T hT => ?_)
  have hno : ¬ ((0 ≤ n ∧ n < c 9 14) ∧ c 13 n ≠ 0) → T (some (vI (-1))) m := fun h => hT _ _ (Or.inl ⟨h, rfl, rfl⟩)
  refine kW_go ok_X12_bars [2] 20 ?_
  refine kCall_mono (isNetR hM.1 hR.1 n) (Nat.le_of_ble_eq_true rfl) ?_
  rintro _ m ⟨rfl, rfl⟩
  refine And.intro (fun h => hno (fun q => b2i_0.mp h q.1)) (fun h => ?_)
  have hnn := b2i_n.mp h
  have hn8 : 0 ≤ n ∧ n < 8 := by omega
  have hnb : 0 ≤ n ∧ n < ((8 : Nat) : Int) := hn8
  have e63 := (hR.1.2.2.2.2.1 n hn8).2.1
  have hP4 := (hM.2.1.1 n hn8).1
  refine ⟨hnb, And.intro (fun hp => ?_) (fun hp => hno (fun q => q.2 (by rw [← e63]; exact hp)))⟩
  have hpc : ¬ c 13 n = 0 := fun z => hp (by rw [← e63] at z; exact z)
  have hsh := shl_set.1 ⟨(c 9 14).toNat, by omega⟩
  simp only [Int.toNat_of_nonneg h8.1] at hsh
  refine kW_go ok_X12_bars [3] 20 ?_
  refine kCall_mono (c_X12_plainly X m 1 (Or.inr rfl)) (Nat.le_of_ble_eq_true rfl) ?_
  rintro _ m1 ⟨rfl, hp1⟩
  have hR1 := plain_R hR hp1
  obtain ⟨K, hK⟩ : ∃ K : Mem → Prop, ∀ mm, K mm ↔ (RR0 w d l c mm ∧ mm 54 30 = 0 ∧ mm 54 41 = 1 ∧ (∀ j : Int, (0 ≤ j ∧ j < 324) → mm 81 j = 0) ∧ ∀ o, o < 54 → mm o = m o) := ⟨_, fun _ => Iff.rfl⟩
  have loop : ∀ (q : Nat) (i z : Int) (mm : Mem), i + q = kshl 1 (c 9 14) → 0 ≤ i → K mm → ((z = -1 ∧ ∀ s, s < i → vSet (c 9 14) n s → ¬ okR w d l c n 6 ex s) ∨ (vSet (c 9 14) n z ∧ okR w d l c n 6 ex z ∧ ∀ s, s < i → vSet (c 9 14) n s → okR w d l c n 6 ex s → s = z ∨ ahd z s)) → kW (eX X) 10 M_X12_bars T 3 [some (vR 54), some (vI n), some (vI z), some (vI i)] [] mm := by
    intro q
    induction q with
    | zero =>
      intro i z mm hq h0 hk hz
      obtain ⟨k1, k2, k3, k4, k5⟩ := (hK mm).mp hk
      have e26 : mm 54 26 = c 9 14 := k1.1.2.2.2.1.1
      have hleast : leastS (c 9 14) n (okR w d l c n 6 ex) z := by
        have hlt : ∀ s, vSet (c 9 14) n s → s < i := fun s hs => by
          have := ((vSet_iff h8 hn8 hs.1.1).mpr hs).2.1
          omega
        rcases hz with ⟨a, b⟩ | ⟨a, b, e⟩
        · exact Or.inl ⟨a, fun s hs => b s (hlt s hs) hs⟩
        · exact Or.inr ⟨a, b, fun s hs => e s (hlt s hs) hs⟩
      refine kW_go ok_X12_bars [3] 20 ?_
      refine And.intro (fun _ => ?_) (fun h => ?_)
      · have hR0' : RR0 w d l c (mset mm 54 28 0) := RR0_fld (fun o a b => k_mset_ne (by omega)) (fun j hj => by rw [k_mset_at, if_neg (by omega)]) k1
        refine hT _ _ (Or.inr ⟨⟨hnn, hpc⟩, ⟨z, rfl, hleast⟩, ⟨hR0'.1, hR0'.2, (show mset mm 54 28 0 54 28 = 0 by rw [k_mset_at, if_pos rfl]), (show mset mm 54 28 0 54 30 = 0 by rw [k_mset_at, if_neg (by decide)]; exact k2)⟩, fun o ho => ?_⟩)
        have e : mset mm 54 28 0 o = mm o := k_mset_ne (by omega)
        exact e.trans (k5 o ho)
      · have h : i < kshl 1 (mm 54 26) := h
        rw [e26] at h
        omega
    | succ q ih =>
      intro i z mm hq h0 hk hz
      obtain ⟨k1, k2, k3, k4, k5⟩ := (hK mm).mp hk
      have e26 : mm 54 26 = c 9 14 := k1.1.2.2.2.1.1
      have hi8 : 0 ≤ i ∧ i < 256 := by omega
      have hz8 : z = -1 ∨ (0 ≤ z ∧ z < 256) := by
        rcases hz with ⟨a, -⟩ | ⟨a, -⟩
        · exact Or.inl a
        · exact Or.inr a.1
      have hskip : ∀ (m2 : Mem), K m2 → (vSet (c 9 14) n i → okR w d l c n 6 ex i → z ≠ -1 ∧ (i = z ∨ ahd z i)) → kW (eX X) 10 M_X12_bars T 7 [some (vR 54), some (vI n), some (vI z), some (vI i)] [] m2 := by
        intro m2 hk2 hi
        refine kW_go ok_X12_bars [3] 20 ?_
        refine ⟨by constructor <;> omega, ih (i + 1) z m2 (by omega) (by omega) hk2 ?_⟩
        rcases hz with ⟨a, b⟩ | ⟨a, b, e⟩
        · refine Or.inl ⟨a, fun s hs hv hok => ?_⟩
          by_cases hsi : s = i
          · rw [hsi] at hv hok
            exact (hi hv hok).1 a
          · exact b s (by omega) hv hok
        · refine Or.inr ⟨a, b, fun s hs hv hok => ?_⟩
          by_cases hsi : s = i
          · rw [hsi] at hv hok ⊢
            exact (hi hv hok).2
          · exact e s (by omega) hv hok
      refine kW_go ok_X12_bars [7] 20 ?_
      refine And.intro (fun h => ?_) (fun _ => And.intro (fun hb => hskip mm hk (fun hv _ => ?_)) (fun hb => ?_))
      · have h : kshl 1 (mm 54 26) ≤ i := h
        rw [e26] at h
        omega
      · have hb := (k_ask1 hn8.1 (by omega)).mp hb
        rw [vSet_n hv hn8.1] at hb
        cases hb
      · have hbn : bt i n.toNat = false := by
          cases hh : bt i n.toNat with
          | false => rfl
          | true => exact absurd ((k_ask1 hn8.1 (by omega)).mpr hh) hb
        have hvi : vSet (c 9 14) n i := (vSet_iff h8 hn8 h0).mp ⟨h0, by omega, hbn⟩
        refine kCall_mono (c_X12_isAhead X mm i z hi8 hz8) (Nat.le_of_ble_eq_true rfl) ?_
        rintro _ m2 ⟨⟨hh, rfl⟩ | ⟨hh, rfl⟩, rfl⟩
        · refine And.intro (fun _ => ?_) (fun h => absurd h (by decide))
          obtain ⟨mG, hmG⟩ : ∃ mG, mG = mset m2 54 28 i := ⟨_, rfl⟩
          have fG : ∀ o, o ≠ 54 → mG o = m2 o := fun o ho => by rw [hmG]; exact k_mset_ne ho
          have fG54 : ∀ j : Int, j ≠ 28 → mG 54 j = m2 54 j := fun j hj => by rw [hmG, k_mset_at, if_neg hj]
          have g28 : mG 54 28 = i := by rw [hmG, k_mset_at, if_pos rfl]
          have hRG : RR0 w d l c mG := RR0_fld (fun o a _ => fG o (by omega)) (fun j hj => fG54 j (by omega)) k1
          have hRW : RWf w d l 6 (c 10 (c 11 n * 5)) (c 10 (c 11 n * 5 + 1)) (c 10 (c 11 n * 5 + 2)) ex n mG := by
            have := RWf_mk (ex := ex) hM.1 hRG.1 hnn (show mG 54 41 = 1 by rw [fG54 41 (by decide)]; exact k3) (fun y hy => by rw [fG 81 (by decide), k4 _ (cR_geo hD hy).1, hex y hy]; omega)
            rwa [if_neg (by decide)] at this
          have hFg := F_gone (w := w) (d := d) (l := l) (n := n) (t := 0) (c := rmT (w * d * l) n c) (by rw [rmT_ne (by decide) (by decide)]; exact h8.2) hn8 g28 (by rw [fG54 30 (by decide)]; exact k2)
          have htr := c_X12_tried X c mG hD hM hRG hnn hRW (hFg.2 hbn)
          rw [hFg.1, hmG] at htr
          refine kCall_mono htr (Nat.le_of_ble_eq_true rfl) ?_
          rw [← hmG]
          rintro _ m3 (⟨e0, -, -⟩ | ⟨-, res, c', hL, rfl, hr3, hR3⟩)
          · exact absurd e0 hpc
          have hge : ∀ z, res = some z → 0 ≤ z := by
            have a := hM.1.2.2.2.1 n hnn
            obtain ⟨b1, b2, b3, -⟩ := hM.1.2.2.1 (c 11 n) a
            exact LRw_ge (fun k y => by unfold csF; split <;> omega) b3.1 (Int.le_refl 0) hL
          have hans := ansR_ne hge
          have hk3 : K m3 := (hK _).mpr ⟨hR3, by rw [hr3.2.2.1 30 (by decide), fG54 30 (by decide)]; exact k2, by rw [hr3.2.2.1 41 (by decide), fG54 41 (by decide)]; exact k3, fun j hj => by rw [hr3.1 81 (by decide) (by decide) (by decide) (by decide) (by decide) (by decide) (by decide) (by decide) (by decide) (by decide) (by decide), fG 81 (by decide)]; exact k4 j hj, fun o ho => by rw [hr3.2.1 o ho, fG o (by omega)]; exact k5 o ho⟩
          have hdet : okR w d l c n 6 ex i ↔ res ≠ none := by
            constructor
            · rintro ⟨r2, c2, hL2, h2⟩
              rw [(LRw_one hL hL2).1]
              exact h2
            · exact fun h => ⟨res, c', hL, h⟩
          refine And.intro (fun he => ?_) (fun hne => ?_)
          · have he : ansR res = -1 := he
            exact hskip m3 hk3 (fun _ hok => absurd (hans.mp he) (hdet.mp hok))
          · have hne : ¬ ansR res = -1 := hne
            have hok : okR w d l c n 6 ex i := hdet.mpr (fun h => hne (hans.mpr h))
            refine kW_go ok_X12_bars [3] 20 ?_
            refine ⟨by constructor <;> omega, ih (i + 1) i m3 (by omega) (by omega) hk3 (Or.inr ⟨hvi, hok, fun s hs hv hsok => ?_⟩)⟩
            by_cases hsi : s = i
            · exact Or.inl hsi
            · right
              rcases hz with ⟨a, b⟩ | ⟨a, b, e⟩
              · exact absurd hsok (b s (by omega) hv)
              · have hiz : ahd i z := by
                  rcases hh with z0 | z0
                  · have := a.1.1; omega
                  · exact z0.2
                rcases e s (by omega) hv hsok with rfl | h
                · exact hiz
                · exact ahd_tr hiz h
        · refine And.intro (fun h => absurd rfl h) (fun _ => ?_)
          refine hskip m2 hk (fun _ _ => ?_)
          have hzn : z ≠ -1 := fun e => hh (Or.inl e)
          refine ⟨hzn, ?_⟩
          by_cases e : i = z
          · exact Or.inl e
          · right
            rcases ahd_or hi8 (hz8.resolve_left hzn) e with h | h
            · exact absurd (Or.inr ⟨hzn, h⟩) hh
            · exact h
  have hgo := loop (kshl 1 (c 9 14)).toNat 0 (-1) m1 (by omega) (by omega) ((hK _).mpr ⟨RR_0 hR1, hp1.2.2.2.2.1, hp1.2.2.1, hp1.2.2.2.2.2, fun o ho => hp1.1 o (by omega) (by omega)⟩) (Or.inl ⟨rfl, fun s hs hv => by have := hv.1.1; omega⟩)
  exact hgo
set_option maxRecDepth 100000 in
theorem c_X12_why (X : Xv) (c m : Mem) {w d l : Int} {ex : Int → Int} (hD : okD w d l) (hM : WM w d l c) (hR : RR w d l c m) (hex : ∀ y, inC w d l y → ex y = 0) (n : Int) : kCall (eX X) 11 308 [vR 54, vI n] m (fun r m' => (¬ ((0 ≤ n ∧ n < c 9 14) ∧ c 13 n ≠ 0) ∧ r = some (vI (-1)) ∧ m' = m) ∨ (((0 ≤ n ∧ n < c 9 14) ∧ c 13 n ≠ 0) ∧ (∃ z, r = some (vI z) ∧ leastS (c 9 14) n (okR w d l c n 4 ex) z) ∧ RR w d l c m' ∧ ∀ o, o < 54 → m' o = m o)) := by
  have h8 := hM.1.2.1
  refine kCall_ofT ok_X12_why rfl (Nat.le_of_ble_eq_true rfl) (fun T hT => ?_)
  have hno : ¬ ((0 ≤ n ∧ n < c 9 14) ∧ c 13 n ≠ 0) → T (some (vI (-1))) m := fun h => hT _ _ (Or.inl ⟨h, rfl, rfl⟩)
  refine kW_go ok_X12_why [2] 20 ?_
  refine kCall_mono (isNetR hM.1 hR.1 n) (Nat.le_of_ble_eq_true rfl) ?_
  rintro _ m ⟨rfl, rfl⟩
  refine And.intro (fun h => hno (fun q => b2i_0.mp h q.1)) (fun h => ?_)
  have hnn := b2i_n.mp h
  have hn8 : 0 ≤ n ∧ n < 8 := by omega
  have hnb : 0 ≤ n ∧ n < ((8 : Nat) : Int) := hn8
  have e63 := (hR.1.2.2.2.2.1 n hn8).2.1
  have hP4 := (hM.2.1.1 n hn8).1
  refine ⟨hnb, And.intro (fun hp => ?_) (fun hp => hno (fun q => q.2 (by rw [← e63]; exact hp)))⟩
  have hpc : ¬ c 13 n = 0 := fun z => hp (by rw [← e63] at z; exact z)
  have hsh := shl_set.1 ⟨(c 9 14).toNat, by omega⟩
  simp only [Int.toNat_of_nonneg h8.1] at hsh
  refine kW_go ok_X12_why [3] 20 ?_
  refine kCall_mono (c_X12_plainly X m 0 (Or.inl rfl)) (Nat.le_of_ble_eq_true rfl) ?_
  rintro _ m1 ⟨rfl, hp1⟩
  have hR1 := plain_R hR hp1
  obtain ⟨K, hK⟩ : ∃ K : Mem → Prop, ∀ mm, K mm ↔ (RR0 w d l c mm ∧ mm 54 30 = 0 ∧ mm 54 41 = 0 ∧ (∀ j : Int, (0 ≤ j ∧ j < 324) → mm 81 j = 0) ∧ ∀ o, o < 54 → mm o = m o) := ⟨_, fun _ => Iff.rfl⟩
  have loop : ∀ (q : Nat) (i z : Int) (mm : Mem), i + q = kshl 1 (c 9 14) → 0 ≤ i → K mm → ((z = -1 ∧ ∀ s, s < i → vSet (c 9 14) n s → ¬ okR w d l c n 4 ex s) ∨ (vSet (c 9 14) n z ∧ okR w d l c n 4 ex z ∧ ∀ s, s < i → vSet (c 9 14) n s → okR w d l c n 4 ex s → s = z ∨ ahd z s)) → kW (eX X) 10 M_X12_why T 3 [some (vR 54), some (vI n), some (vI z), some (vI i)] [] mm := by
    intro q
    induction q with
    | zero =>
      intro i z mm hq h0 hk hz
      obtain ⟨k1, k2, k3, k4, k5⟩ := (hK mm).mp hk
      have e26 : mm 54 26 = c 9 14 := k1.1.2.2.2.1.1
      have hleast : leastS (c 9 14) n (okR w d l c n 4 ex) z := by
        have hlt : ∀ s, vSet (c 9 14) n s → s < i := fun s hs => by
          have := ((vSet_iff h8 hn8 hs.1.1).mpr hs).2.1
          omega
        rcases hz with ⟨a, b⟩ | ⟨a, b, e⟩
        · exact Or.inl ⟨a, fun s hs => b s (hlt s hs) hs⟩
        · exact Or.inr ⟨a, b, fun s hs => e s (hlt s hs) hs⟩
      refine kW_go ok_X12_why [3] 20 ?_
      refine And.intro (fun _ => ?_) (fun h => ?_)
      · refine kCall_mono (c_X12_plainly X mm 1 (Or.inr rfl)) (Nat.le_of_ble_eq_true rfl) ?_
        rintro _ m2 ⟨rfl, hp2⟩
        refine hT _ _ (Or.inr ⟨⟨hnn, hpc⟩, ⟨z, rfl, hleast⟩, plain_R0 k1 hp2, fun o ho => ?_⟩)
        rw [hp2.1 o (by omega) (by omega)]
        exact k5 o ho
      · have h : i < kshl 1 (mm 54 26) := h
        rw [e26] at h
        omega
    | succ q ih =>
      intro i z mm hq h0 hk hz
      obtain ⟨k1, k2, k3, k4, k5⟩ := (hK mm).mp hk
      have e26 : mm 54 26 = c 9 14 := k1.1.2.2.2.1.1
      have hi8 : 0 ≤ i ∧ i < 256 := by omega
      have hz8 : z = -1 ∨ (0 ≤ z ∧ z < 256) := by
        rcases hz with ⟨a, -⟩ | ⟨a, -⟩
        · exact Or.inl a
        · exact Or.inr a.1
      have hskip : ∀ (m2 : Mem), K m2 → (vSet (c 9 14) n i → okR w d l c n 4 ex i → z ≠ -1 ∧ (i = z ∨ ahd z i)) → kW (eX X) 10 M_X12_why T 7 [some (vR 54), some (vI n), some (vI z), some (vI i)] [] m2 := by
        intro m2 hk2 hi
        refine kW_go ok_X12_why [3] 20 ?_
        refine ⟨by constructor <;> omega, ih (i + 1) z m2 (by omega) (by omega) hk2 ?_⟩
        rcases hz with ⟨a, b⟩ | ⟨a, b, e⟩
        · refine Or.inl ⟨a, fun s hs hv hok => ?_⟩
          by_cases hsi : s = i
          · rw [hsi] at hv hok
            exact (hi hv hok).1 a
          · exact b s (by omega) hv hok
        · refine Or.inr ⟨a, b, fun s hs hv hok => ?_⟩
          by_cases hsi : s = i
          · rw [hsi] at hv hok ⊢
            exact (hi hv hok).2
          · exact e s (by omega) hv hok
      refine kW_go ok_X12_why [7] 20 ?_
      refine And.intro (fun h => ?_) (fun _ => And.intro (fun hb => hskip mm hk (fun hv _ => ?_)) (fun hb => ?_))
      · have h : kshl 1 (mm 54 26) ≤ i := h
        rw [e26] at h
        omega
      · have hb := (k_ask1 hn8.1 (by omega)).mp hb
        rw [vSet_n hv hn8.1] at hb
        cases hb
      · have hbn : bt i n.toNat = false := by
          cases hh : bt i n.toNat with
          | false => rfl
          | true => exact absurd ((k_ask1 hn8.1 (by omega)).mpr hh) hb
        have hvi : vSet (c 9 14) n i := (vSet_iff h8 hn8 h0).mp ⟨h0, by omega, hbn⟩
        refine kCall_mono (c_X12_isAhead X mm i z hi8 hz8) (Nat.le_of_ble_eq_true rfl) ?_
        rintro _ m2 ⟨⟨hh, rfl⟩ | ⟨hh, rfl⟩, rfl⟩
        · refine And.intro (fun _ => ?_) (fun h => absurd h (by decide))
          obtain ⟨mG, hmG⟩ : ∃ mG, mG = mset m2 54 28 i := ⟨_, rfl⟩
          have fG : ∀ o, o ≠ 54 → mG o = m2 o := fun o ho => by rw [hmG]; exact k_mset_ne ho
          have fG54 : ∀ j : Int, j ≠ 28 → mG 54 j = m2 54 j := fun j hj => by rw [hmG, k_mset_at, if_neg hj]
          have g28 : mG 54 28 = i := by rw [hmG, k_mset_at, if_pos rfl]
          have hRG : RR0 w d l c mG := RR0_fld (fun o a _ => fG o (by omega)) (fun j hj => fG54 j (by omega)) k1
          have hRW : RWf w d l 4 (c 10 (c 11 n * 5)) (c 10 (c 11 n * 5 + 1)) (c 10 (c 11 n * 5 + 2)) ex n mG := by
            have := RWf_mk (ex := ex) hM.1 hRG.1 hnn (show mG 54 41 = 0 by rw [fG54 41 (by decide)]; exact k3) (fun y hy => by rw [fG 81 (by decide), k4 _ (cR_geo hD hy).1, hex y hy]; omega)
            rwa [if_pos rfl] at this
          have hFg := F_gone (w := w) (d := d) (l := l) (n := n) (t := 0) (c := rmT (w * d * l) n c) (by rw [rmT_ne (by decide) (by decide)]; exact h8.2) hn8 g28 (by rw [fG54 30 (by decide)]; exact k2)
          have htr := c_X12_tried X c mG hD hM hRG hnn hRW (hFg.2 hbn)
          rw [hFg.1, hmG] at htr
          refine kCall_mono htr (Nat.le_of_ble_eq_true rfl) ?_
          rw [← hmG]
          rintro _ m3 (⟨e0, -, -⟩ | ⟨-, res, c', hL, rfl, hr3, hR3⟩)
          · exact absurd e0 hpc
          have hge : ∀ z, res = some z → 0 ≤ z := by
            have a := hM.1.2.2.2.1 n hnn
            obtain ⟨b1, b2, b3, -⟩ := hM.1.2.2.1 (c 11 n) a
            exact LRw_ge (fun k y => by unfold csF; split <;> omega) b3.1 (Int.le_refl 0) hL
          have hans := ansR_ne hge
          have hk3 : K m3 := (hK _).mpr ⟨hR3, by rw [hr3.2.2.1 30 (by decide), fG54 30 (by decide)]; exact k2, by rw [hr3.2.2.1 41 (by decide), fG54 41 (by decide)]; exact k3, fun j hj => by rw [hr3.1 81 (by decide) (by decide) (by decide) (by decide) (by decide) (by decide) (by decide) (by decide) (by decide) (by decide) (by decide), fG 81 (by decide)]; exact k4 j hj, fun o ho => by rw [hr3.2.1 o ho, fG o (by omega)]; exact k5 o ho⟩
          have hdet : okR w d l c n 4 ex i ↔ res ≠ none := by
            constructor
            · rintro ⟨r2, c2, hL2, h2⟩
              rw [(LRw_one hL hL2).1]
              exact h2
            · exact fun h => ⟨res, c', hL, h⟩
          refine And.intro (fun he => ?_) (fun hne => ?_)
          · have he : ansR res = -1 := he
            exact hskip m3 hk3 (fun _ hok => absurd (hans.mp he) (hdet.mp hok))
          · have hne : ¬ ansR res = -1 := hne
            have hok : okR w d l c n 4 ex i := hdet.mpr (fun h => hne (hans.mpr h))
            refine kW_go ok_X12_why [3] 20 ?_
            refine ⟨by constructor <;> omega, ih (i + 1) i m3 (by omega) (by omega) hk3 (Or.inr ⟨hvi, hok, fun s hs hv hsok => ?_⟩)⟩
            by_cases hsi : s = i
            · exact Or.inl hsi
            · right
              rcases hz with ⟨a, b⟩ | ⟨a, b, e⟩
              · exact absurd hsok (b s (by omega) hv)
              · have hiz : ahd i z := by
                  rcases hh with z0 | z0
                  · have := a.1.1; omega
                  · exact z0.2
                rcases e s (by omega) hv hsok with rfl | h
                · exact hiz
                · exact ahd_tr hiz h
        · refine And.intro (fun h => absurd rfl h) (fun _ => ?_)
          refine hskip m2 hk (fun _ _ => ?_)
          have hzn : z ≠ -1 := fun e => hh (Or.inl e)
          refine ⟨hzn, ?_⟩
          by_cases e : i = z
          · exact Or.inl e
          · right
            rcases ahd_or hi8 (hz8.resolve_left hzn) e with h | h
            · exact absurd (Or.inr ⟨hzn, h⟩) hh
            · exact h
  have hgo := loop (kshl 1 (c 9 14)).toNat 0 (-1) m1 (by omega) (by omega) ((hK _).mpr ⟨RR_0 hR1, hp1.2.2.2.2.1, hp1.2.2.1, hp1.2.2.2.2.2, fun o ho => hp1.1 o (by omega) (by omega)⟩) (Or.inl ⟨rfl, fun s hs hv => by have := hv.1.1; omega⟩)
  exact hgo
