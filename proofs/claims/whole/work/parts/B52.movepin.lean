/-! LATE: a pin moved -/
/-- a pin of a net put elsewhere, its lasting copper set anew -/
def mvd (w d l : Int) (n p t : Int) (c c' : Mem) : Prop := (∀ o, o ≠ 14 → o ≠ 16 → c' o = c o) ∧ c' 14 = mset c 14 (n * 4 + p) t 14 ∧ ∀ x, inC w d l x → (0 ≤ c' 16 x ∧ c' 16 x < 256) ∧ (∀ o : Nat, (o : Int) ≠ n → bt (c' 16 x) o = bt (c 16 x) o) ∧ (bt (c' 16 x) n.toNat = true ↔ c 18 (n * (w * d * l) + x) ≠ 0 ∨ pinT c' n x)
theorem c_X3_movePin (X : Xv) (m : Mem) {w d l : Int} (hB : Bd X w d l m) (hM : WM w d l m) (n p t : Int) (hnn : 0 ≤ n ∧ n < 8) (hp : 0 ≤ p ∧ p < m 13 n) (ht : inC w d l t) : kCall (eX X) 3 M_X3_movePin.1 [vR 9, vI n, vI p, vI t] m (fun r m' => r = none ∧ mvd w d l n p t m m') := by
  obtain ⟨hD, hN, hG⟩ := id hB
  have hc4 := okD_cells hD
  have hP4 := (hM.2.1.1 n hnn).1
  have g4 : m 1 4 = (nC X : Int) := by rw [hG.2.2.2.2.1, hN]
  refine kCall_ofT ok_X3_movePin rfl (Nat.le_of_ble_eq_true rfl) (fun T hT => ?_)
  obtain ⟨m1, hm1⟩ : ∃ m1, m1 = mset m 14 (n * 4 + p) t := ⟨_, rfl⟩
  have f1 : ∀ o, o ≠ 14 → m1 o = m o := fun o ho => by rw [hm1]; exact k_mset_ne ho
  have hse := c_X3_settle X m1 n (by omega) (by rw [f1 1 (by decide)]; exact g4) hnn (by rw [f1 13 (by decide)]; exact hP4) (fun q hq => by
    rw [f1 13 (by decide)] at hq
    rw [hm1, k_mset_at]
    by_cases e : n * 4 + q = n * 4 + p
    · rw [if_pos e]; exact ⟨ht.1, by have := ht.2; omega⟩
    · rw [if_neg e]
      have := hM.2.1.2.1 n q hnn hq
      exact ⟨this.1, by have := this.2; omega⟩) (fun x hx => by rw [f1 16 (by decide)]; exact (hM.2.2.2 x ⟨hx.1, by omega⟩).1)
  rw [hm1] at hse
  refine kW_go ok_X3_movePin [] 20 ?_
  refine ⟨by constructor <;> omega, by constructor <;> omega, by show 0 ≤ n * 4 + p ∧ n * 4 + p < ((32 : Nat) : Int); omega, ?_⟩
  refine kCall_mono hse (Nat.le_of_ble_eq_true rfl) ?_
  rw [← hm1]
  rintro _ m2 ⟨rfl, hs1, hs2⟩
  refine hT _ _ ⟨rfl, fun o a b => by rw [hs1 o b, f1 o a], by rw [hs1 14 (by decide), hm1], fun x hx => ?_⟩
  obtain ⟨q1, q2, q3⟩ := hs2 x ⟨hx.1, by have := hx.2; omega⟩
  rw [f1 16 (by decide)] at q2
  rw [f1 18 (by decide), ← hN] at q3
  refine ⟨q1, q2, q3.trans (or_congr_right ?_)⟩
  unfold pinT
  rw [hs1 13 (by decide), hs1 14 (by decide)]
/-- the cell is nobody's pin -/
def noPin (c : Mem) (t : Int) : Prop := ∀ n p : Int, (0 ≤ n ∧ n < 8) → (0 ≤ p ∧ p < c 13 n) → c 14 (n * 4 + p) ≠ t
theorem mvd_pins {w d l n p t : Int} {c c' : Mem} (h : mvd w d l n p t c c') (n' q : Int) : c' 14 (n' * 4 + q) = if n' * 4 + q = n * 4 + p then t else c 14 (n' * 4 + q) := by
  rw [h.2.1, k_mset_at]
theorem mvd_pinT {w d l n p t n' x : Int} {c c' : Mem} (hW : WFp w d l c) (hn' : 0 ≤ n' ∧ n' < 8) (hne : n' ≠ n) (hp : 0 ≤ p ∧ p < 4) (h : mvd w d l n p t c c') : pinT c' n' x ↔ pinT c n' x := by
  have hP4 := (hW.1 n' hn').1
  unfold pinT
  rw [h.1 13 (by decide) (by decide)]
  constructor
  · rintro ⟨q, hq, e⟩
    rw [mvd_pins h, if_neg (by omega)] at e
    exact ⟨q, hq, e⟩
  · rintro ⟨q, hq, e⟩
    refine ⟨q, hq, ?_⟩
    rw [mvd_pins h, if_neg (by omega)]
    exact e
theorem mvd_WS {w d l n p t : Int} {c c' : Mem} (hW : WS w d l c) (hn : 0 ≤ n ∧ n < 8) (hp : 0 ≤ p ∧ p < c 13 n) (ht : inC w d l t) (hno : noPin c t) (h : mvd w d l n p t c c') : WS w d l c' := by
  obtain ⟨⟨h1, h2, h3, h4⟩, h5⟩ := hW
  have hP4 := (h2.1 n hn).1
  have hf := h.1
  refine ⟨⟨?_, ⟨?_, ?_, ?_⟩, fun n' hn' => ?_, fun x hx => ⟨(h.2.2 x hx).1, by rw [hf 17 (by decide) (by decide)]; exact (h4 x hx).2⟩⟩, fun n' hn' => ?_⟩
  · unfold WFs at h1 ⊢
    rw [hf 9 (by decide) (by decide), hf 10 (by decide) (by decide), hf 11 (by decide) (by decide), hf 12 (by decide) (by decide)]
    exact h1
  · rw [hf 13 (by decide) (by decide), hf 9 (by decide) (by decide)]
    exact h2.1
  · intro n' q hn' hq
    rw [hf 13 (by decide) (by decide)] at hq
    rw [mvd_pins h]
    split
    · exact ht
    · exact h2.2.1 n' q hn' hq
  · intro a q b q' ha hq hb hq' e
    rw [hf 13 (by decide) (by decide)] at hq hq'
    have hA := (h2.1 a ha).1
    have hB := (h2.1 b hb).1
    rw [mvd_pins h, mvd_pins h] at e
    by_cases e1 : a * 4 + q = n * 4 + p
    · by_cases e2 : b * 4 + q' = n * 4 + p
      · omega
      · rw [if_pos e1, if_neg e2] at e
        exact absurd e.symm (hno b q' hb hq')
    · by_cases e2 : b * 4 + q' = n * 4 + p
      · rw [if_neg e1, if_pos e2] at e
        exact absurd e (hno a q ha hq)
      · rw [if_neg e1, if_neg e2] at e
        exact h2.2.2 a q b q' ha hq hb hq' e
  · obtain ⟨w1, w2⟩ := h3 n' hn'
    refine ⟨fun x hx => ?_, fun hcc x hx => ?_⟩
    · obtain ⟨z1, z2, z3, z4⟩ := w1 x hx
      rw [hf 17 (by decide) (by decide), hf 18 (by decide) (by decide), hf 19 (by decide) (by decide)]
      refine ⟨z1, z2, z3, ?_⟩
      by_cases e : n' = n
      · rw [e]; exact (h.2.2 x hx).2.2
      · rw [(h.2.2 x hx).2.1 n'.toNat (by omega), z4, mvd_pinT h2 hn' e (by omega) h]
    · rw [hf 18 (by decide) (by decide), hf 19 (by decide) (by decide)]
      rw [hf 9 (by decide) (by decide)] at hcc
      exact w2 hcc x hx
  · have := h5 n' hn'
    unfold SYn at this ⊢
    rw [hf 18 (by decide) (by decide), hf 19 (by decide) (by decide)]
    exact this
/-- the reference's objects stand for the class's, but for how a trace runs -/
def RRK (w d l : Int) (c r : Mem) : Prop := RRs w d l c r ∧ ∀ n : Int, (0 ≤ n ∧ n < 8) → RRk w d l c r n
theorem RR0_K {w d l : Int} {c r : Mem} (h : RR0 w d l c r) : RRK w d l c r := ⟨h.1, fun n hn => (RRn_k.mp (h.2 n hn)).1⟩
theorem RRK_0 {w d l : Int} {c r : Mem} (h : RRK w d l c r) (hc : ∀ n : Int, (0 ≤ n ∧ n < 8) → CHn w d c r n) : RR0 w d l c r := ⟨h.1, fun n hn => RRn_k.mpr ⟨h.2 n hn, hc n hn⟩⟩
theorem v4_67 {v : Int} (h : 0 ≤ v ∧ v < 4) : ((0 ≤ kand v 6 ∧ kand v 6 < 4) ∧ bt (kand v 6) 0 = false ∧ bt (kand v 6) 1 = bt v 1) ∧ kand v 7 = v ∧ (0 ≤ kor v 1 ∧ kor v 1 < 4) ∧ bt (kor v 1) 0 = true ∧ bt (kor v 1) 1 = bt v 1 := by
  have : ∀ i : Fin 4, ((0 ≤ kand (i.val : Int) 6 ∧ kand (i.val : Int) 6 < 4) ∧ bt (kand (i.val : Int) 6) 0 = false ∧ bt (kand (i.val : Int) 6) 1 = bt (i.val : Int) 1) ∧ kand (i.val : Int) 7 = (i.val : Int) ∧ (0 ≤ kor (i.val : Int) 1 ∧ kor (i.val : Int) 1 < 4) ∧ bt (kor (i.val : Int) 1) 0 = true ∧ bt (kor (i.val : Int) 1) 1 = bt (i.val : Int) 1 := by decide +kernel
  have h2 := this ⟨v.toNat, by omega⟩
  simp only [Int.toNat_of_nonneg h.1] at h2
  exact h2
set_option maxRecDepth 100000 in
theorem c_X12_movePin (X : Xv) (c c' m : Mem) {w d l : Int} (hM : WM w d l c) (hR : RRK w d l c m) (n p t : Int) (hn : 0 ≤ n ∧ n < 8) (hp : 0 ≤ p ∧ p < c 13 n) (ht : inC w d l t) (hno : noPin c t) (h : mvd w d l n p t c c') : kCall (eX X) 1 M_X12_movePin.1 [vR 54, vI n, vI p, vI (cR w d t)] m (fun r m' => r = none ∧ RRK w d l c' m' ∧ ∀ o, o ≠ 64 → o ≠ 72 → m' o = m o) := by
  have hD : okD w d l := hR.1.1.2.2.2
  have hP4 := (hM.2.1.1 n hn).1
  have hnb : 0 ≤ n ∧ n < ((8 : Nat) : Int) := hn
  have h4b : 0 ≤ 4 * n + p ∧ 4 * n + p < ((32 : Nat) : Int) := by omega
  have hk := hR.2 n hn
  have hw0 := hk.1.1.1
  have hw9 := okL_le hD hk.1.1
  obtain ⟨a, hao⟩ : ∃ a, a = c 14 (n * 4 + p) := ⟨_, rfl⟩
  have hai : inC w d l a := by rw [hao]; exact hM.2.1.2.1 n p hn hp
  have e64 : m 64 (4 * n + p) = cR w d a := by rw [hao]; exact (hR.1.2.2.2.2.1 n hn).2.2 p hp
  have hta : t ≠ a := by rw [hao]; exact fun z => hno n p hn hp z.symm
  have hga := (cR_geo hD hai).1
  have hgt := (cR_geo hD ht).1
  have hia : 0 ≤ 324 * n + cR w d a ∧ 324 * n + cR w d a < ((2592 : Nat) : Int) := by omega
  have hit : 0 ≤ 324 * n + cR w d t ∧ 324 * n + cR w d t < ((2592 : Nat) : Int) := by omega
  have hcne : cR w d t ≠ cR w d a := fun z => hta (cR_inj hD ht hai z)
  refine kCall_ofT ok_X12_movePin rfl (Nat.le_of_ble_eq_true rfl) (fun T hT => ?_)
  -- a wire at the old place
  obtain ⟨W, hWd⟩ : ∃ W : Int → Prop, ∀ i, W i ↔ (m 66 (1200 * n + i) = cR w d a ∨ m 67 (1200 * n + i) = cR w d a) := ⟨_, fun _ => Iff.rfl⟩
  have hWa : (∃ i : Int, (0 ≤ i ∧ i < m 65 n) ∧ W i) ↔ c 18 (n * (w * d * l) + a) ≠ 0 := by
    have hrow := ((hM.2.2.1 n hn).1 a hai)
    constructor
    · rintro ⟨i, hi, hw⟩
      obtain ⟨x, k, hx, hk6, hne, e1, e2⟩ := hk.1.1.2.1 i hi
      have e1 : m 66 (1200 * n + i) = cR w d x := e1
      have e2 : m 67 (1200 * n + i) = cR w d (nx w d l x k) := e2
      have hy := nx_in hne
      intro hz
      rcases (hWd i).mp hw with e | e
      · have hxa : x = a := cR_inj hD hx hai (e1.symm.trans e)
        have hb := (hk.1.2 x k hx hk6 hne).mpr ⟨i, hi, Or.inl ⟨e1, e2⟩⟩
        have hb : bt (c 18 (n * (w * d * l) + x)) k.toNat = true := hb
        rw [hxa, hz, bt_zero] at hb
        cases hb
      · have hya : nx w d l x k = a := cR_inj hD hy.1 hai (e2.symm.trans e)
        have hoo := nx_opp hD hx hk6 hne
        have hne' : nx w d l (nx w d l x k) (oppF k) ≠ -1 := by rw [hoo]; have := hx.1; omega
        have hb := (hk.1.2 (nx w d l x k) (oppF k) hy.1 (opp_in hk6) hne').mpr ⟨i, hi, Or.inr ⟨by rw [hoo]; exact e1, e2⟩⟩
        have hb : bt (c 18 (n * (w * d * l) + nx w d l x k)) (oppF k).toNat = true := hb
        rw [hya, hz, bt_zero] at hb
        cases hb
    · intro hz
      have hz64 := hrow.1.1
      obtain ⟨k, hk32, hb⟩ := (k_ne0 (inR_small (by omega))).mp hz
      have hk6 : k < 6 := by
        refine Nat.lt_of_not_le (fun hge => ?_)
        rw [bt_small (n := 6) (inR_small (by omega)) hz64.1 hz64.2 hge] at hb
        cases hb
      have hne : nx w d l a (k : Int) ≠ -1 := by
        intro z
        have := (hrow.2.1 (k : Int) (by omega) z).1
        rw [Int.toNat_natCast, hb] at this
        cases this
      have hb' : bt (c 18 (n * (w * d * l) + a)) ((k : Int)).toNat = true := by rw [Int.toNat_natCast]; exact hb
      obtain ⟨i, hi, ⟨e1, e2⟩ | ⟨e1, e2⟩⟩ := (hk.1.2 a (k : Int) hai (by omega) hne).mp hb'
      · exact ⟨i, hi, (hWd i).mpr (Or.inl e1)⟩
      · exact ⟨i, hi, (hWd i).mpr (Or.inr e2)⟩
  have hfin : ∀ v : Int, ((c 18 (n * (w * d * l) + a) ≠ 0 ∧ v = m 72 (324 * n + cR w d a)) ∨ (c 18 (n * (w * d * l) + a) = 0 ∧ v = kand (m 72 (324 * n + cR w d a)) 6)) → RRK w d l c' (mset (mset (mset m 64 (4 * n + p) (cR w d t)) 72 (324 * n + cR w d a) v) 72 (324 * n + cR w d t) (kor (mset (mset m 64 (4 * n + p) (cR w d t)) 72 (324 * n + cR w d a) v 72 (324 * n + cR w d t)) 1)) := by
    intro v hv
    obtain ⟨mf, hmf⟩ : ∃ mf, mf = mset (mset (mset m 64 (4 * n + p) (cR w d t)) 72 (324 * n + cR w d a) v) 72 (324 * n + cR w d t) (kor (mset (mset m 64 (4 * n + p) (cR w d t)) 72 (324 * n + cR w d a) v 72 (324 * n + cR w d t)) 1) := ⟨_, rfl⟩
    rw [← hmf]
    have f : ∀ o, o ≠ 64 → o ≠ 72 → mf o = m o := fun o x y => by rw [hmf, k_mset_ne y, k_mset_ne y, k_mset_ne x]
    have f64 : ∀ j, mf 64 j = if j = 4 * n + p then cR w d t else m 64 j := fun j => by rw [hmf, k_mset_ne (by decide), k_mset_ne (by decide), k_mset_at]
    have f72 : ∀ j, mf 72 j = if j = 324 * n + cR w d t then kor (m 72 j) 1 else if j = 324 * n + cR w d a then v else m 72 j := by
      intro j
      rw [hmf, k_mset_at]
      by_cases e : j = 324 * n + cR w d t
      · rw [if_pos e, if_pos e, k_mset_at, if_neg (show ¬ (324 * n + cR w d t = 324 * n + cR w d a) from fun z => hcne (Int.add_left_cancel z)), k_mset_ne (by decide), e]
      · rw [if_neg e, if_neg e, k_mset_at]
        by_cases e2 : j = 324 * n + cR w d a
        · rw [if_pos e2, if_pos e2]
        · rw [if_neg e2, if_neg e2, k_mset_ne (by decide)]
    have hf := h.1
    obtain ⟨s1, s2, s3, s4, s5, s6, s7⟩ := hR.1
    refine ⟨⟨?_, ?_, ?_, ?_, fun n' hn' => ?_, ?_, ?_⟩, fun n' hn' => ?_⟩
    · unfold dimM fld at s1 ⊢
      rw [f 54 (by decide) (by decide)]
      exact s1
    · rw [f 54 (by decide) (by decide), f 55 (by decide) (by decide), hf 6 (by decide) (by decide), hf 7 (by decide) (by decide)]
      exact s2
    · rw [f 54 (by decide) (by decide), f 56 (by decide) (by decide), f 57 (by decide) (by decide), f 58 (by decide) (by decide), f 59 (by decide) (by decide), f 60 (by decide) (by decide), hf 9 (by decide) (by decide), hf 10 (by decide) (by decide)]
      exact s3
    · rw [f 54 (by decide) (by decide), f 61 (by decide) (by decide), hf 9 (by decide) (by decide), hf 11 (by decide) (by decide)]
      exact s4
    · obtain ⟨t1, t2, t3⟩ := s5 n' hn'
      rw [f 62 (by decide) (by decide), f 63 (by decide) (by decide), hf 12 (by decide) (by decide), hf 13 (by decide) (by decide)]
      have hP' := (hM.2.1.1 n' hn').1
      refine ⟨t1, t2, fun q hq => ?_⟩
      rw [f64, mvd_pins h]
      by_cases e : 4 * n' + q = 4 * n + p
      · rw [if_pos e, if_pos (by omega)]
      · rw [if_neg e, if_neg (by omega)]
        exact t3 q hq
    · rw [f 71 (by decide) (by decide), hf 15 (by decide) (by decide)]
      exact s6
    · rw [f 88 (by decide) (by decide), hf 47 (by decide) (by decide)]
      exact s7
    · obtain ⟨u1, u2, u3, u4, u5⟩ := hR.2 n' hn'
      unfold RRk
      rw [f 65 (by decide) (by decide), f 66 (by decide) (by decide), f 67 (by decide) (by decide), f 68 (by decide) (by decide), f 69 (by decide) (by decide), f 70 (by decide) (by decide), hf 17 (by decide) (by decide), hf 18 (by decide) (by decide), hf 19 (by decide) (by decide)]
      refine ⟨u1, u2, u3, fun x hx => ?_, fun j hj hj2 => ?_⟩
      · obtain ⟨v1, v2, v3⟩ := u4 x hx
        have hgx := (cR_geo hD hx).1
        obtain ⟨q1, q2, q3⟩ := h.2.2 x hx
        have hv4 := v4_67 v1
        by_cases en : n' = n
        · subst en
          have hw := ((hM.2.2.1 n' hn').1 x hx).2.2.2
          rw [f72]
          by_cases ext : x = t
          · rw [if_pos (by rw [ext])]
            refine ⟨hv4.2.2.1, ?_, by rw [hv4.2.2.2.2]; exact v3⟩
            rw [hv4.2.2.2.1, q3]
            refine ⟨fun _ => Or.inr ⟨p, by rw [hf 13 (by decide) (by decide)]; exact hp, ?_⟩, fun _ => rfl⟩
            rw [mvd_pins h, if_pos rfl, ext]
          · rw [if_neg (fun z => ext (cR_inj hD hx ht (by omega)))]
            by_cases exa : x = a
            · rw [if_pos (by rw [exa])]
              have hpT : ¬ pinT c' n' a := by
                rintro ⟨q, hq, e⟩
                rw [hf 13 (by decide) (by decide)] at hq
                rw [mvd_pins h] at e
                by_cases e1 : n' * 4 + q = n' * 4 + p
                · rw [if_pos e1] at e; exact hta e
                · rw [if_neg e1, hao] at e
                  have := hM.2.1.2.2 n' q n' p hn' hq hn' hp e
                  omega
              rw [exa] at q3 v3 hv4 v1 v2 hw ⊢
              rcases hv with ⟨hz, rfl⟩ | ⟨hz, rfl⟩
              · refine ⟨v1, ?_, v3⟩
                rw [v2, q3, hw]
                exact ⟨fun _ => Or.inl hz, fun _ => Or.inl hz⟩
              · refine ⟨hv4.1.1, ?_, by rw [hv4.1.2.2]; exact v3⟩
                rw [hv4.1.2.1, q3]
                exact ⟨fun z => (by cases z), fun z => z.elim (fun z => absurd hz z) (fun z => absurd z hpT)⟩
            · rw [if_neg (fun z => exa (cR_inj hD hx hai (by omega)))]
              refine ⟨v1, ?_, v3⟩
              rw [v2, q3, hw]
              refine or_congr_right ⟨fun ⟨q, hq, e⟩ => ⟨q, by rw [hf 13 (by decide) (by decide)]; exact hq, ?_⟩, fun ⟨q, hq, e⟩ => ⟨q, by rw [hf 13 (by decide) (by decide)] at hq; exact hq, ?_⟩⟩
              · rw [mvd_pins h, if_neg (fun z => exa ?_)]
                · exact e
                · rw [← e, hao, z]
              · rw [mvd_pins h] at e
                by_cases e1 : n' * 4 + q = n' * 4 + p
                · rw [if_pos e1] at e; exact absurd e.symm ext
                · rw [if_neg e1] at e; exact e
        · rw [f72, if_neg (by omega), if_neg (by omega)]
          exact ⟨v1, by rw [q2 n'.toNat (by omega)]; exact v2, v3⟩
      · rw [f72]
        have e1 : 324 * n' + j ≠ 324 * n + cR w d t := fun z => hj2 (by
          have : n' = n := by omega
          subst this
          rw [show j = cR w d t by omega]
          exact (cR_in hD ht).1)
        have e2 : 324 * n' + j ≠ 324 * n + cR w d a := fun z => hj2 (by
          have : n' = n := by omega
          subst this
          rw [show j = cR w d a by omega]
          exact (cR_in hD hai).1)
        rw [if_neg e1, if_neg e2]
        exact u5 j hj hj2
  have hfr : ∀ v : Int, ∀ o, o ≠ 64 → o ≠ 72 → (mset (mset (mset m 64 (4 * n + p) (cR w d t)) 72 (324 * n + cR w d a) v) 72 (324 * n + cR w d t) (kor (mset (mset m 64 (4 * n + p) (cR w d t)) 72 (324 * n + cR w d a) v 72 (324 * n + cR w d t)) 1)) o = m o := fun v o x y => by rw [k_mset_ne y, k_mset_ne y, k_mset_ne x]
  obtain ⟨m1, hm1⟩ : ∃ m1, m1 = mset m 64 (4 * n + p) (cR w d t) := ⟨_, rfl⟩
  have f1 : ∀ o, o ≠ 64 → m1 o = m o := fun o ho => by rw [hm1]; exact k_mset_ne ho
  have loop : ∀ (k : Nat) (i b : Int), i + k = m 65 n → 0 ≤ i → (b = 0 ∨ b = 1) → (b ≠ 0 ↔ ∃ j : Int, (0 ≤ j ∧ j < i) ∧ W j) → kW (eX X) 0 M_X12_movePin T 1 [some (vR 54), some (vI n), some (vI p), some (vI (cR w d t)), some (vI (cR w d a)), some (vI b), some (vI i)] [] m1 := by
    intro k
    induction k with
    | zero =>
      intro i b hk h0 hb hbi
      have hi : i = m 65 n := by omega
      have e65 : m1 65 = m 65 := f1 65 (by decide)
      have e72 : m1 72 = m 72 := f1 72 (by decide)
      rw [hi, hWa] at hbi
      refine kW_go ok_X12_movePin [1] 20 ?_
      refine ⟨hnb, And.intro (fun _ => ?_) (fun h => ?_)⟩
      · rcases hb with rfl | rfl
        · have hz : c 18 (n * (w * d * l) + a) = 0 := Classical.byContradiction (fun z => hbi.mpr z rfl)
          have hg := hfin _ (Or.inr ⟨hz, rfl⟩)
          have hgf := hfr (kand (m 72 (324 * n + cR w d a)) 6)
          rw [← hm1, ← e72] at hg hgf
          exact ⟨by constructor <;> omega, by constructor <;> omega, hia, And.intro (fun _ => ⟨hia, by constructor <;> omega, by constructor <;> omega, hit, hit, hT _ _ ⟨rfl, hg, hgf⟩⟩) (fun h => absurd rfl h)⟩
        · have hz : c 18 (n * (w * d * l) + a) ≠ 0 := hbi.mp (by decide)
          have hv1 := ((hR.2 n hn).2.2.2.1 a hai).1
          have hg := hfin _ (Or.inl ⟨hz, rfl⟩)
          have hgf := hfr (m 72 (324 * n + cR w d a))
          rw [show m 72 (324 * n + cR w d a) = kand (m 72 (324 * n + cR w d a)) 7 from (v4_67 hv1).2.1.symm] at hg hgf
          rw [← hm1, ← e72] at hg hgf
          exact ⟨by constructor <;> omega, by constructor <;> omega, hia, And.intro (fun h => absurd h (by decide)) (fun _ => ⟨hia, by constructor <;> omega, by constructor <;> omega, hit, hit, hT _ _ ⟨rfl, hg, hgf⟩⟩)⟩
      · have h : i < m1 65 n := h
        rw [e65] at h
        omega
    | succ k ih =>
      intro i b hk h0 hb hbi
      have hix : 0 ≤ 1200 * n + i ∧ 1200 * n + i < ((9600 : Nat) : Int) := by omega
      have e65 : m1 65 = m 65 := f1 65 (by decide)
      have e66 : m1 66 = m 66 := f1 66 (by decide)
      have e67 : m1 67 = m 67 := f1 67 (by decide)
      have hnext : ∀ u : Int, (u = 0 ∨ u = 1) → (u ≠ 0 ↔ b ≠ 0 ∨ W i) → inR (i + 1) ∧ kW (eX X) 0 M_X12_movePin T 1 [some (vR 54), some (vI n), some (vI p), some (vI (cR w d t)), some (vI (cR w d a)), some (vI u), some (vI (i + 1))] [] m1 := by
        intro u hu hui
        refine ⟨by constructor <;> omega, ih (i + 1) u (by omega) (by omega) hu ?_⟩
        rw [hui, hbi]
        constructor
        · rintro (⟨j, hj, z⟩ | z)
          · exact ⟨j, by omega, z⟩
          · exact ⟨i, by omega, z⟩
        · rintro ⟨j, hj, z⟩
          by_cases e : j = i
          · rw [e] at z; exact Or.inr z
          · exact Or.inl ⟨j, by omega, z⟩
      have one : (b ≠ 0 ∨ W i) → _ := fun z => hnext 1 (Or.inr rfl) ⟨fun _ => z, fun _ => by decide⟩
      have nul : ¬ (b ≠ 0 ∨ W i) → _ := fun z => hnext 0 (Or.inl rfl) ⟨fun y => absurd rfl y, fun y => absurd y z⟩
      refine kW_go ok_X12_movePin [1] 20 ?_
      refine ⟨hnb, And.intro (fun h => ?_) (fun _ => And.intro (fun h => one (Or.inl h)) (fun hb0 => ⟨by constructor <;> omega, by constructor <;> omega, hix, And.intro (fun h => one (Or.inr ((hWd i).mpr (Or.inl ?_)))) (fun h => ⟨by constructor <;> omega, by constructor <;> omega, hix, And.intro (fun h2 => nul ?_) (fun h2 => one (Or.inr ((hWd i).mpr (Or.inr ?_))))⟩)⟩))⟩
      · have h : m1 65 n ≤ i := h
        rw [e65] at h
        omega
      · rw [← e66]; exact h
      · have hb0 : b = 0 := hb0
        have h : ¬ m1 66 (1200 * n + i) = cR w d a := h
        have h2 : ¬ m1 67 (1200 * n + i) = cR w d a := h2
        rw [e66] at h
        rw [e67] at h2
        rintro (z | z)
        · exact z hb0
        · rcases (hWd i).mp z with z | z
          · exact h z
          · exact h2 z
      · rw [← e67]; exact h2
  have hgo := loop (m 65 n).toNat 0 0 (by omega) (by omega) (Or.inl rfl) ⟨fun z => absurd rfl z, fun ⟨j, hj, _⟩ => by omega⟩
  rw [hm1] at hgo
  refine kW_go ok_X12_movePin [1] 20 ?_
  show inR (4 * n) ∧ inR (4 * n + p) ∧ (0 ≤ 4 * n + p ∧ 4 * n + p < ((32 : Nat) : Int)) ∧ inR (4 * n) ∧ inR (4 * n + p) ∧ (0 ≤ 4 * n + p ∧ 4 * n + p < ((32 : Nat) : Int)) ∧ kW (eX X) 0 M_X12_movePin T 1 [some (vR 54), some (vI n), some (vI p), some (vI (cR w d t)), some (vI (m 64 (4 * n + p))), some (vI 0), some (vI 0)] [] (mset m 64 (4 * n + p) (cR w d t))
  rw [e64]
  exact ⟨by constructor <;> omega, by constructor <;> omega, h4b, by constructor <;> omega, by constructor <;> omega, h4b, hgo⟩
