/-! the reference takes a net's traces off: what it laid aside -/
theorem c_X12_takeOffL (X : Xv) (c m : Mem) {w d l n : Int} (hD : okD w d l) (hn : 0 ≤ n ∧ n < 8) (hR : RR0 w d l c m) (hW : WFn w d l c n) (h17 : ∀ x, inC w d l x → 0 ≤ c 17 x ∧ c 17 x < 256) : kCall (eX X) 2 M_X12_takeOff.1 [vR 54, vI n] m (fun r m' => r = none ∧ RR0 w d l (rmT (w * d * l) n c) m' ∧ SVn w d l c m' n ∧ rsm n m m' ∧ m' 68 n = 0 ∧ m' 54 33 = m 68 n ∧ ∀ i : Int, (0 ≤ i ∧ i < m 68 n) → m' 73 i = m 69 (2400 * n + i) ∧ m' 74 i = m 70 (2400 * n + i)) := by
  have hk := RRn_k.mp (hR.2 n hn)
  have hLT := hk.1.2.2.1
  have hq := okL_le hD hLT.1
  have hq0 := hLT.1.1
  refine kCall_mono (c_X12_takeOff X m n hn ⟨hq0, by omega⟩) (Nat.le_refl _) ?_
  rintro _ m' ⟨rfl, hp⟩
  generalize ht : tkO n m = t at *
  have t_ne : ∀ o, o ≠ 54 → o ≠ 68 → o ≠ 73 → o ≠ 74 → t o = m o := fun o a b e f => by
    rw [← ht]
    unfold tkO fset
    rw [k_mset_ne b, mmap_ne f, mmap_ne e, k_mset_ne a]
  have t68 : ∀ j, t 68 j = if j = n then 0 else m 68 j := fun j => by
    rw [← ht]
    unfold tkO fset
    rw [k_mset_at, mmap_ne (by decide), mmap_ne (by decide), k_mset_ne (by decide)]
  have t33 : t 54 33 = m 68 n := by
    rw [← ht]
    unfold tkO fset
    rw [k_mset_ne (by decide), mmap_ne (by decide), mmap_ne (by decide), k_mset_at]
    rfl
  have t54 : ∀ i, i ≠ 33 → t 54 i = m 54 i := fun i hi => by
    rw [← ht]
    unfold tkO fset
    rw [k_mset_ne (by decide), mmap_ne (by decide), mmap_ne (by decide), k_mset_at, if_neg (show i ≠ ((33 : Nat) : Int) from hi)]
  have t73 : ∀ i, (0 ≤ i ∧ i < m 68 n) → t 73 i = m 69 (2400 * n + i) ∧ t 74 i = m 70 (2400 * n + i) := fun i hi => by
    rw [← ht]
    unfold tkO
    rw [k_mset_ne (by decide), k_mset_ne (by decide), mmap_ne (show (73 : Nat) ≠ 74 by decide), mmap_at, mmap_at, if_pos hi, if_pos hi]
    exact ⟨rfl, rfl⟩
  have p1 := hp.1
  have hts := rmT_tsame (w := w) (d := d) (l := l) hn h17
  have hrs : rsm n m m' := ⟨fun o h1 h2 h3 h4 h5 h6 h7 h8 h9 h10 h11 => by rw [p1 o h6, t_ne o h2 h3 h7 h8], fun o ho => by rw [p1 o (by omega), t_ne o (by omega) (by omega) (by omega) (by omega)], fun i hi => by rw [p1 54 (by decide), t54 i hi], fun j hj => by rw [p1 68 (by decide), t68, if_neg hj], fun j hj => by rw [p1 69 (by decide), p1 70 (by decide), t_ne 69 (by decide) (by decide) (by decide) (by decide), t_ne 70 (by decide) (by decide) (by decide) (by decide)]; exact ⟨rfl, rfl⟩, fun j hj => by rw [pnt_rsame hp j hj, t_ne 72 (by decide) (by decide) (by decide) (by decide)]⟩
  have h68 : m' 68 n = 0 := by rw [p1 68 (by decide), t68, if_pos rfl]
  refine ⟨rfl, RR0_rsm hD hn hts hrs hR (RRn_k.mpr ⟨?_, fun _ => h68, fun _ => ?_⟩), ?_, hrs, h68, by rw [p1 54 (by decide)]; exact t33, fun i hi => by rw [p1 73 (by decide), p1 74 (by decide)]; exact t73 i hi⟩
  · refine paint_RRk hD hn (rmT_WFn hn hW) (c0 := c) (m := t) (rmT_ne (by decide) (by decide)) (rmT_ne (by decide) (by decide)) (RRw_m (t_ne 65 (by decide) (by decide) (by decide) (by decide)) (t_ne 66 (by decide) (by decide) (by decide) (by decide)) (t_ne 67 (by decide) (by decide) (by decide) (by decide)) (t_ne 72 (by decide) (by decide) (by decide) (by decide)) (RRk_w hk.1)) ?_ hp (fun x hx => ?_) (fun _ _ z => z)
    · rw [t68, if_pos rfl]
      refine ⟨⟨Int.le_refl _, fun i hi => by omega, fun i j hij => by omega⟩, fun x k hx hk hne => ?_⟩
      simp only [rmT_row hx, if_true, bt_zero]
      constructor
      · intro z; cases z
      · rintro ⟨i, hi, -⟩; omega
    · rw [t68, if_pos rfl]
      exact ⟨False.elim, fun ⟨i, hi, _⟩ => by omega⟩
  · rw [h68]
    exact ⟨fun h => by omega, fun i h1 h2 => by omega, fun i j hij => by omega, fun i hi => by omega⟩
  · unfold SVn
    rw [p1 54 (by decide), p1 73 (by decide), p1 74 (by decide), t33]
    exact ⟨LT_cong t73 (fun _ _ => rfl) hLT, hk.2.1, fun h2 => CH_cong t73 (hk.2.2 h2)⟩
