/-! takeOff and putBack of the reference, told of the class's memory -/
theorem SV_idx {w d l n : Int} (hD : okD w d l) {c r : Mem} (h : SVn w d l c r n) : 0 ≤ r 54 33 ∧ r 54 33 ≤ 972 := ⟨h.1.1.1, okL_le hD h.1.1⟩
theorem LT_val {w d l : Int} (hD : okD w d l) {f t : Int → Int} {q : Int} {row : Int → Int} (h : LT w d l f t q row) {i : Int} (hi : 0 ≤ i ∧ i < q) : (0 ≤ f i ∧ f i < 324) ∧ (0 ≤ t i ∧ t i < 324) ∧ inRf w d l (f i) ∧ inRf w d l (t i) := by
  obtain ⟨x, k, hx, hk, hne, e1, e2⟩ := h.1.2.1 i hi
  have a := cR_geo hD hx
  have b := cR_geo hD (nx_in hne).1
  rw [e1, e2]
  exact ⟨a.1, b.1, (cR_in hD hx).1, (cR_in hD (nx_in hne).1).1⟩
theorem c_X12_takeOffR (X : Xv) (c m : Mem) {w d l n : Int} (hD : okD w d l) (hn : 0 ≤ n ∧ n < 8) (hR : RR0 w d l c m) (hW : WFn w d l c n) (h17 : ∀ x, inC w d l x → 0 ≤ c 17 x ∧ c 17 x < 256) : kCall (eX X) 2 M_X12_takeOff.1 [vR 54, vI n] m (fun r m' => r = none ∧ RR0 w d l (rmT (w * d * l) n c) m' ∧ SVn w d l c m' n ∧ rsm n m m' ∧ m' 68 n = 0) := by
  have hk := RRn_k.mp (hR.2 n hn)
  have hLT := hk.1.2.2.1
  have hq := okL_le hD hLT.1
  have hq0 := hLT.1.1
  refine kCall_mono (c_X12_takeOff X m n hn ⟨hq0, by omega⟩) (Nat.le_refl _) ?_
  rintro _ m' ⟨rfl, hp⟩
  generalize ht : tkO n m = t at *
  have t_ne : ∀ o, o ≠ 54 → o ≠ 68 → o ≠ 73 → o ≠ 74 → t o = m o := fun o a b e f => by
    rw [← ht]
    unfold tkO fset
    rw [k_mset_ne b, mmap_ne f, mmap_ne e, k_mset_ne a]
  have t68 : ∀ j, t 68 j = if j = n then 0 else m 68 j := fun j => by
    rw [← ht]
    unfold tkO fset
    rw [k_mset_at, mmap_ne (by decide), mmap_ne (by decide), k_mset_ne (by decide)]
  have t33 : t 54 33 = m 68 n := by
    rw [← ht]
    unfold tkO fset
    rw [k_mset_ne (by decide), mmap_ne (by decide), mmap_ne (by decide), k_mset_at]
    rfl
  have t54 : ∀ i, i ≠ 33 → t 54 i = m 54 i := fun i hi => by
    rw [← ht]
    unfold tkO fset
    rw [k_mset_ne (by decide), mmap_ne (by decide), mmap_ne (by decide), k_mset_at, if_neg (show i ≠ ((33 : Nat) : Int) from hi)]
  have t73 : ∀ i, (0 ≤ i ∧ i < m 68 n) → t 73 i = m 69 (2400 * n + i) ∧ t 74 i = m 70 (2400 * n + i) := fun i hi => by
    rw [← ht]
    unfold tkO
    rw [k_mset_ne (by decide), k_mset_ne (by decide), mmap_ne (show (73 : Nat) ≠ 74 by decide), mmap_at, mmap_at, if_pos hi, if_pos hi]
    exact ⟨rfl, rfl⟩
  have p1 := hp.1
  have hts := rmT_tsame (w := w) (d := d) (l := l) hn h17
  have hrs : rsm n m m' := ⟨fun o h1 h2 h3 h4 h5 h6 h7 h8 h9 h10 h11 => by rw [p1 o h6, t_ne o h2 h3 h7 h8], fun o ho => by rw [p1 o (by omega), t_ne o (by omega) (by omega) (by omega) (by omega)], fun i hi => by rw [p1 54 (by decide), t54 i hi], fun j hj => by rw [p1 68 (by decide), t68, if_neg hj], fun j hj => by rw [p1 69 (by decide), p1 70 (by decide), t_ne 69 (by decide) (by decide) (by decide) (by decide), t_ne 70 (by decide) (by decide) (by decide) (by decide)]; exact ⟨rfl, rfl⟩, fun j hj => by rw [pnt_rsame hp j hj, t_ne 72 (by decide) (by decide) (by decide) (by decide)]⟩
  have h68 : m' 68 n = 0 := by rw [p1 68 (by decide), t68, if_pos rfl]
  refine ⟨rfl, RR0_rsm hD hn hts hrs hR (RRn_k.mpr ⟨?_, fun _ => h68, fun _ => ?_⟩), ?_, hrs, h68⟩
  · refine paint_RRk hD hn (rmT_WFn hn hW) (c0 := c) (m := t) (rmT_ne (by decide) (by decide)) (rmT_ne (by decide) (by decide)) (RRw_m (t_ne 65 (by decide) (by decide) (by decide) (by decide)) (t_ne 66 (by decide) (by decide) (by decide) (by decide)) (t_ne 67 (by decide) (by decide) (by decide) (by decide)) (t_ne 72 (by decide) (by decide) (by decide) (by decide)) (RRk_w hk.1)) ?_ hp (fun x hx => ?_) (fun _ _ z => z)
    · rw [t68, if_pos rfl]
      refine ⟨⟨Int.le_refl _, fun i hi => by omega, fun i j hij => by omega⟩, fun x k hx hk hne => ?_⟩
      simp only [rmT_row hx, if_true, bt_zero]
      constructor
      · intro z; cases z
      · rintro ⟨i, hi, -⟩; omega
    · rw [t68, if_pos rfl]
      exact ⟨False.elim, fun ⟨i, hi, _⟩ => by omega⟩
  · rw [h68]
    exact ⟨fun h => by omega, fun i h1 h2 => by omega, fun i j hij => by omega, fun i hi => by omega⟩
  · unfold SVn
    rw [p1 54 (by decide), p1 73 (by decide), p1 74 (by decide), t33]
    exact ⟨LT_cong t73 (fun _ _ => rfl) hLT, hk.2.1, fun h2 => CH_cong t73 (hk.2.2 h2)⟩
/-- the memory with a net's traces brought back -/
def pbM (n : Int) (m : Mem) : Mem := mmap (mmap (mset m 68 n (m 54 33)) 69 (2400 * n) (2400 * n + m 54 33) (fun j => m 73 (j - 2400 * n))) 70 (2400 * n) (2400 * n + m 54 33) (fun j => m 74 (j - 2400 * n))
set_option maxRecDepth 100000 in
theorem c_X12_putBack (X : Xv) (m : Mem) (n : Int) (hn : 0 ≤ n ∧ n < 8) (hk : 0 ≤ m 54 33 ∧ m 54 33 ≤ 2400) (hv : ∀ i : Int, (0 ≤ i ∧ i < m 54 33) → (0 ≤ m 73 i ∧ m 73 i < 324) ∧ (0 ≤ m 74 i ∧ m 74 i < 324)) : kCall (eX X) 2 M_X12_putBack.1 [vR 54, vI n] m (fun r m' => r = none ∧ pnt n (pbM n m) m' (trS (pbM n m) n (m 54 33))) := by
  refine kCall_ofT ok_X12_putBack rfl (Nat.le_of_ble_eq_true rfl) (fun T hT => ?_)
  have hnb : 0 ≤ n ∧ n < ((8 : Nat) : Int) := hn
  generalize hm1 : mset m 68 n (m 54 33) = m1
  have e1 : ∀ o, o ≠ 68 → m1 o = m o := fun o ho => by rw [← hm1, k_mset_ne ho]
  have loop : ∀ (k : Nat) (i : Int), i + k = m 54 33 → 0 ≤ i → kW (eX X) 1 M_X12_putBack T 1 [some (vR 54), some (vI n), some (vI i)] [] (mmap (mmap m1 69 (2400 * n) (2400 * n + i) (fun j => m 73 (j - 2400 * n))) 70 (2400 * n) (2400 * n + i) (fun j => m 74 (j - 2400 * n))) := by
    intro k
    induction k with
    | zero =>
      intro i hi h0
      have hii : i = m 54 33 := by omega
      rw [hii]
      have epb : mmap (mmap m1 69 (2400 * n) (2400 * n + m 54 33) (fun j => m 73 (j - 2400 * n))) 70 (2400 * n) (2400 * n + m 54 33) (fun j => m 74 (j - 2400 * n)) = pbM n m := by
        unfold pbM
        rw [hm1]
      rw [epb]
      generalize hP : pbM n m = P at *
      have q33 : P 54 33 = m 54 33 := by rw [← epb, mmap_ne (by decide), mmap_ne (by decide), e1 54 (by decide)]
      have q68 : P 68 n = m 54 33 := by rw [← epb, mmap_ne (by decide), mmap_ne (by decide), ← hm1, k_mset_at, if_pos rfl]
      have q69 : ∀ i, (0 ≤ i ∧ i < m 54 33) → P 69 (2400 * n + i) = m 73 i ∧ P 70 (2400 * n + i) = m 74 i := fun i hi => by
        rw [← epb, mmap_ne (show (69 : Nat) ≠ 70 by decide), mmap_at, mmap_at, if_pos (by omega), if_pos (by omega), show 2400 * n + i - 2400 * n = i by omega]
        exact ⟨rfl, rfl⟩
      refine kW_go ok_X12_putBack [1] 20 ?_
      refine And.intro (fun _ => ?_) (fun h => ?_)
      · refine kCall_mono (c_X12_paint X P n hn (by rw [q68]; exact hk) (fun j h1 h2 => by rw [q68] at h2; rw [(q69 j ⟨h1, h2⟩).1, (q69 j ⟨h1, h2⟩).2]; exact hv j ⟨h1, h2⟩)) (Nat.le_of_ble_eq_true rfl) ?_
        rintro _ m3 ⟨rfl, hp⟩
        rw [q68] at hp
        exact hT _ _ ⟨rfl, hp⟩
      · have h : m 54 33 < P 54 33 := h
        omega
    | succ k ih =>
      intro i hi h0
      generalize hM : mmap (mmap m1 69 (2400 * n) (2400 * n + i) (fun j => m 73 (j - 2400 * n))) 70 (2400 * n) (2400 * n + i) (fun j => m 74 (j - 2400 * n)) = M
      have e3 : M 54 33 = m 54 33 := by rw [← hM, mmap_ne (by decide), mmap_ne (by decide)]; rw [e1 54 (by decide)]
      have e73 : M 73 = m 73 := by rw [← hM, mmap_ne (by decide), mmap_ne (by decide)]; exact e1 73 (by decide)
      have e74 : M 74 = m 74 := by rw [← hM, mmap_ne (by decide), mmap_ne (by decide)]; exact e1 74 (by decide)
      have h1 : 0 ≤ 2400 * n + i ∧ 2400 * n + i < ((19200 : Nat) : Int) := by omega
      have h2 : 0 ≤ i ∧ i < ((2400 : Nat) : Int) := by omega
      have hst : mset (mset M 69 (2400 * n + i) (m 73 i)) 70 (2400 * n + i) (m 74 i) = mmap (mmap m1 69 (2400 * n) (2400 * n + (i + 1)) (fun j => m 73 (j - 2400 * n))) 70 (2400 * n) (2400 * n + (i + 1)) (fun j => m 74 (j - 2400 * n)) := by
        rw [← hM, mmap_mset (by decide)]
        have a1 := mmap_s m1 69 (2400 * n) (2400 * n + i) (fun j => m 73 (j - 2400 * n)) (by omega)
        have a2 := mmap_s (mmap m1 69 (2400 * n) (2400 * n + (i + 1)) (fun j => m 73 (j - 2400 * n))) 70 (2400 * n) (2400 * n + i) (fun j => m 74 (j - 2400 * n)) (by omega)
        simp only [show 2400 * n + i - 2400 * n = i by omega, show 2400 * n + i + 1 = 2400 * n + (i + 1) by omega] at a1 a2
        rw [a1, a2]
      refine kW_go ok_X12_putBack [1] 20 ?_
      show (M 54 33 ≤ i → _) ∧ (i < M 54 33 → inR (2400 * n) ∧ inR (2400 * n + i) ∧ (0 ≤ i ∧ i < ((2400 : Nat) : Int)) ∧ (0 ≤ 2400 * n + i ∧ 2400 * n + i < ((19200 : Nat) : Int)) ∧ inR (2400 * n) ∧ inR (2400 * n + i) ∧ (0 ≤ i ∧ i < ((2400 : Nat) : Int)) ∧ (0 ≤ 2400 * n + i ∧ 2400 * n + i < ((19200 : Nat) : Int)) ∧ inR (i + 1) ∧ kW (eX X) 1 M_X12_putBack T 1 [some (vR 54), some (vI n), some (vI (i + 1))] [] (mset (mset M 69 (2400 * n + i) (M 73 i)) 70 (2400 * n + i) (M 74 i)))
      rw [e3, e73, e74, hst]
      exact ⟨fun h => absurd h (by omega), fun _ => ⟨by constructor <;> omega, by constructor <;> omega, h2, h1, by constructor <;> omega, by constructor <;> omega, h2, h1, by constructor <;> omega, ih (i + 1) (by omega) (by omega)⟩⟩
  refine kW_go ok_X12_putBack [1] 20 ?_
  refine ⟨hnb, ?_⟩
  have := loop (m 54 33).toNat 0 (by omega) (by omega)
  rw [show 2400 * n + 0 = 2400 * n by omega, mmap_e, mmap_e, ← hm1] at this
  exact this
theorem c_X12_putBackR (X : Xv) (c c' m : Mem) {w d l n : Int} (hD : okD w d l) (hn : 0 ≤ n ∧ n < 8) (hR : RR0 w d l c' m) (ht : tsame w d l n c c') (hS : SVn w d l c m n) (hW : WFn w d l c n) : kCall (eX X) 2 M_X12_putBack.1 [vR 54, vI n] m (fun r m' => r = none ∧ RR0 w d l c m' ∧ rsm n m m' ∧ m' 54 = m 54 ∧ m' 73 = m 73 ∧ m' 74 = m 74) := by
  have hi := SV_idx hD hS
  have hk := RRn_k.mp (hR.2 n hn)
  have hval := fun i hi => LT_val hD hS.1 (i := i) hi
  refine kCall_mono (c_X12_putBack X m n hn ⟨hi.1, by omega⟩ (fun i hi => ⟨(hval i hi).1, (hval i hi).2.1⟩)) (Nat.le_refl _) ?_
  rintro _ m' ⟨rfl, hp⟩
  generalize hP : pbM n m = P at *
  have q_ne : ∀ o, o ≠ 68 → o ≠ 69 → o ≠ 70 → P o = m o := fun o a b e => by
    rw [← hP]
    unfold pbM
    rw [mmap_ne e, mmap_ne b, k_mset_ne a]
  have q68 : ∀ j, P 68 j = if j = n then m 54 33 else m 68 j := fun j => by
    rw [← hP]
    unfold pbM
    rw [mmap_ne (by decide), mmap_ne (by decide), k_mset_at]
  have q69 : ∀ j, P 69 j = (if 2400 * n ≤ j ∧ j < 2400 * n + m 54 33 then m 73 (j - 2400 * n) else m 69 j) ∧ P 70 j = if 2400 * n ≤ j ∧ j < 2400 * n + m 54 33 then m 74 (j - 2400 * n) else m 70 j := fun j => by
    rw [← hP]
    unfold pbM
    rw [mmap_ne (show (69 : Nat) ≠ 70 by decide), mmap_at, mmap_at, mmap_ne (show (70 : Nat) ≠ 69 by decide), k_mset_ne (by decide), k_mset_ne (by decide)]
    exact ⟨rfl, rfl⟩
  have q69' : ∀ i, (0 ≤ i ∧ i < m 54 33) → P 69 (2400 * n + i) = m 73 i ∧ P 70 (2400 * n + i) = m 74 i := fun i hi => by
    have := q69 (2400 * n + i)
    rw [if_pos (by omega), if_pos (by omega), show 2400 * n + i - 2400 * n = i by omega] at this
    exact this
  have p1 := hp.1
  have hrs : rsm n m m' := ⟨fun o h1 h2 h3 h4 h5 h6 h7 h8 h9 h10 h11 => by rw [p1 o h6, q_ne o h3 h4 h5], fun o ho => by rw [p1 o (by omega), q_ne o (by omega) (by omega) (by omega)], fun i hi => by rw [p1 54 (by decide), q_ne 54 (by decide) (by decide) (by decide)], fun j hj => by rw [p1 68 (by decide), q68, if_neg hj], fun j hj => by rw [p1 69 (by decide), p1 70 (by decide), (q69 j).1, (q69 j).2, if_neg (by omega), if_neg (by omega)]; exact ⟨rfl, rfl⟩, fun j hj => by rw [pnt_rsame hp j hj, q_ne 72 (by decide) (by decide) (by decide)]⟩
  have h68 : m' 68 n = m 54 33 := by rw [p1 68 (by decide), q68, if_pos rfl]
  have hLT : LT w d l (fun i => P 69 (2400 * n + i)) (fun i => P 70 (2400 * n + i)) (P 68 n) (fun x => c 19 (n * (w * d * l) + x)) := by
    rw [q68, if_pos rfl]
    exact LT_cong q69' (fun _ _ => rfl) hS.1
  refine ⟨rfl, RR0_rsm hD hn (tsame_sy ht) hrs hR (RRn_k.mpr ⟨?_, ?_, fun h2 => ?_⟩), hrs, by rw [p1 54 (by decide), q_ne 54 (by decide) (by decide) (by decide)], by rw [p1 73 (by decide), q_ne 73 (by decide) (by decide) (by decide)], by rw [p1 74 (by decide), q_ne 74 (by decide) (by decide) (by decide)]⟩
  · refine paint_RRk hD hn hW (c0 := c') (m := P) (ht.1 16 (by decide) (by decide)).symm (ht.1 18 (by decide) (by decide)).symm (RRw_m (q_ne 65 (by decide) (by decide) (by decide)) (q_ne 66 (by decide) (by decide) (by decide)) (q_ne 67 (by decide) (by decide) (by decide)) (q_ne 72 (by decide) (by decide) (by decide)) (RRk_w hk.1)) hLT hp (fun x hx => ?_) (fun j hj z => ?_)
    · rw [q68, if_pos rfl]
      exact Iff.rfl
    · obtain ⟨i, hi, hh⟩ := z
      have hv := hval i hi
      have hq := q69' i hi
      rw [hq.1, hq.2] at hh
      rcases hh with hh | hh
      · rw [← hh] at hj; exact hj hv.2.2.1
      · rw [← hh] at hj; exact hj hv.2.2.2
  · rw [h68]; exact hS.2.1
  · rw [p1 69 (by decide), p1 70 (by decide), h68]
    exact CH_cong q69' (hS.2.2 h2)
