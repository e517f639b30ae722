/-! LATE: laying a net with others -/
def rmL (N s : Int) : Nat → Int → Mem → Mem
  | 0, _, c => c
  | j + 1, k, c => rmL N s j (k + 1) (if bt s k.toNat = true then rmT N k c else c)
theorem rmL_ne {N s : Int} {o : Nat} (h7 : o ≠ 17) (h9 : o ≠ 19) : ∀ (j : Nat) (k : Int) (c : Mem), rmL N s j k c o = c o
  | 0, _, _ => rfl
  | j + 1, k, c => by
    show rmL N s j (k + 1) (if bt s k.toNat = true then rmT N k c else c) o = c o
    rw [rmL_ne h7 h9 j]
    split
    · exact rmT_ne h7 h9
    · rfl
theorem rmL_row {w d l s : Int} : ∀ (j : Nat) (k : Int) (c : Mem) (n x : Int), inC w d l x → rmL (w * d * l) s j k c 19 (n * (w * d * l) + x) = if (k ≤ n ∧ n < k + j) ∧ bt s n.toNat = true then 0 else c 19 (n * (w * d * l) + x)
  | 0, k, c, n, x, hx => by
    rw [if_neg (by omega)]
    rfl
  | j + 1, k, c, n, x, hx => by
    show rmL (w * d * l) s j (k + 1) (if bt s k.toNat = true then rmT (w * d * l) k c else c) 19 (n * (w * d * l) + x) = _
    rw [rmL_row j (k + 1) _ n x hx]
    by_cases h1 : (k + 1 ≤ n ∧ n < k + 1 + j) ∧ bt s n.toNat = true
    · rw [if_pos h1, if_pos ⟨by omega, h1.2⟩]
    · rw [if_neg h1]
      by_cases hb : bt s k.toNat = true
      · rw [if_pos hb, rmT_row hx]
        by_cases e : n = k
        · rw [if_pos e, if_pos ⟨by omega, by rw [e]; exact hb⟩]
        · rw [if_neg e, if_neg (fun z => h1 ⟨by omega, z.2⟩)]
      · rw [if_neg hb]
        by_cases e : n = k
        · rw [if_neg (fun z => hb (by rw [← e]; exact z.2))]
        · rw [if_neg (fun z => h1 ⟨by omega, z.2⟩)]
theorem rmL_WS {w d l s : Int} : ∀ (j : Nat) (k : Int) (c : Mem), (0 ≤ k ∧ k + j ≤ 8) → WS w d l c → WS w d l (rmL (w * d * l) s j k c)
  | 0, _, _, _, h => h
  | j + 1, k, c, hk, h => by
    refine rmL_WS j (k + 1) _ (by omega) ?_
    split
    · exact WS_rmT h (by omega)
    · exact h
theorem rmL_WM {w d l s : Int} : ∀ (j : Nat) (k : Int) (c : Mem), (0 ≤ k ∧ k + j ≤ 8) → WM w d l c → WM w d l (rmL (w * d * l) s j k c)
  | 0, _, _, _, h => h
  | j + 1, k, c, hk, h => by
    refine rmL_WM j (k + 1) _ (by omega) ?_
    split
    · exact WM_rmT h (by omega)
    · exact h
/-- off the board nothing is changed -/
def offS (w d l : Int) (c c' : Mem) : Prop := (∀ j : Int, ¬ (0 ≤ j ∧ j < w * d * l * 8) → c' 19 j = c 19 j) ∧ ∀ x : Int, ¬ inC w d l x → c' 17 x = c 17 x
theorem offS_rf {w d l : Int} {c : Mem} : offS w d l c c := ⟨fun _ _ => rfl, fun _ _ => rfl⟩
theorem offS_tr {w d l : Int} {a b c : Mem} (h : offS w d l a b) (h' : offS w d l b c) : offS w d l a c := ⟨fun j hj => (h'.1 j hj).trans (h.1 j hj), fun x hx => (h'.2 x hx).trans (h.2 x hx)⟩
theorem offS_rmT {w d l n : Int} {c : Mem} (hD : okD w d l) (hn : 0 ≤ n ∧ n < 8) : offS w d l c (rmT (w * d * l) n c) := by
  have hc4 := okD_cells hD
  have h1 : 0 ≤ n * (w * d * l) := Int.mul_nonneg hn.1 (by omega)
  have h2 : (n + 1) * (w * d * l) ≤ 8 * (w * d * l) := Int.mul_le_mul_of_nonneg_right (by omega) (by omega)
  exact ⟨fun j hj => by rw [rmT_19, if_neg (by omega)], fun x hx => by rw [rmT_17, if_neg hx]⟩
theorem offS_rmL {w d l s : Int} (hD : okD w d l) : ∀ (j : Nat) (k : Int) (c : Mem), (0 ≤ k ∧ k + j ≤ 8) → offS w d l c (rmL (w * d * l) s j k c)
  | 0, _, _, _ => offS_rf
  | j + 1, k, c, hk => by
    refine offS_tr ?_ (offS_rmL hD j (k + 1) _ (by omega))
    split
    · exact offS_rmT hD (by omega)
    · exact offS_rf
theorem offS_layA {w d l : Int} {ex : Int → Int} {c c' : Mem} {n : Int} {res : Option Int} {q : Int → Prop} (hD : okD w d l) (hW : WS w d l c) (hn : 0 ≤ n ∧ n < c 9 14) (h : layA w d l 6 q ex c n res c') : offS w d l c c' := by
  have hn8 : 0 ≤ n ∧ n < 8 := by have := hW.1.1.2.1; omega
  rcases h with ⟨-, -, rfl⟩ | ⟨hp, c2, h1, ⟨-, rfl⟩ | ⟨-, rfl⟩⟩
  · exact offS_rf
  · exact offS_rf
  · have e14 : rmT (w * d * l) n c 14 = c 14 := rmT_ne (by decide) (by decide)
    have hP4 := (hW.1.2.1.1 n hn8).1
    have := LRw_out hn8 (Int.le_refl 6) (fun q hq => by rw [e14]; exact hW.1.2.1.2.1 n q hn8 (by omega)) h1
    exact offS_tr (offS_rmT hD hn8) ⟨this.1, this.2⟩
/-- nets laid one behind another until one can't be -/
def lwN (w d l : Int) (ex : Int → Int) (s : Int) : Nat → Int → Mem → Bool → Mem → Prop
  | 0, _, c, ok, c' => ok = true ∧ c' = c
  | j + 1, k, c, ok, c' => (¬ (bt s k.toNat = true ∧ 0 < c 13 k) ∧ lwN w d l ex s j (k + 1) c ok c') ∨ ((bt s k.toNat = true ∧ 0 < c 13 k) ∧ ∃ res c2, layA w d l 6 (fun _ => True) ex c k res c2 ∧ ((res = none ∧ ok = false) ∨ (res ≠ none ∧ lwN w d l ex s j (k + 1) c2 ok c')))
theorem lwN_one {w d l s : Int} {ex : Int → Int} : ∀ {j : Nat} {k : Int} {c : Mem} {b1 b2 : Bool} {c1 c2 : Mem}, lwN w d l ex s j k c b1 c1 → lwN w d l ex s j k c b2 c2 → b1 = b2 ∧ (b1 = true → c1 = c2)
  | 0, _, _, _, _, _, _, h, h' => ⟨h.1.trans h'.1.symm, fun _ => h.2.trans h'.2.symm⟩
  | j + 1, k, c, b1, b2, c1, c2, h, h' => by
    rcases h with ⟨a1, a2⟩ | ⟨a1, r1, x1, a2, a3⟩ <;> rcases h' with ⟨d1, d2⟩ | ⟨d1, r2, x2, d2, d3⟩
    · exact lwN_one a2 d2
    · exact absurd d1 a1
    · exact absurd a1 d1
    · obtain ⟨rfl, rfl⟩ := layA_one a2 d2
      rcases a3 with ⟨p, q⟩ | ⟨p, q⟩ <;> rcases d3 with ⟨p', q'⟩ | ⟨p', q'⟩
      · exact ⟨q.trans q'.symm, fun z => by rw [q] at z; cases z⟩
      · exact absurd p p'
      · exact absurd p' p
      · exact lwN_one q q'
def lwA (w d l : Int) (ex : Int → Int) (c : Mem) (n s : Int) (ok : Bool) (c' : Mem) : Prop := ∃ res c2, layA w d l 6 (fun _ => True) ex c n res c2 ∧ ((res = none ∧ ok = false) ∨ (res ≠ none ∧ lwN w d l ex s (c 9 14).toNat 0 c2 ok c'))
theorem lwA_one {w d l s n : Int} {ex : Int → Int} {c : Mem} {b1 b2 : Bool} {c1 c2 : Mem} (h : lwA w d l ex c n s b1 c1) (h' : lwA w d l ex c n s b2 c2) : b1 = b2 ∧ (b1 = true → c1 = c2) := by
  obtain ⟨r1, x1, a2, a3⟩ := h
  obtain ⟨r2, x2, d2, d3⟩ := h'
  obtain ⟨rfl, rfl⟩ := layA_one a2 d2
  rcases a3 with ⟨p, q⟩ | ⟨p, q⟩ <;> rcases d3 with ⟨p', q'⟩ | ⟨p', q'⟩
  · exact ⟨q.trans q'.symm, fun z => by rw [q] at z; cases z⟩
  · exact absurd p p'
  · exact absurd p' p
  · exact lwN_one q q'
/-- the board before a net is laid with others -/
def cS (N n s : Int) (c : Mem) : Mem := rmL N s (c 9 14).toNat 0 (rmT N n c)
theorem ite_z {P : Prop} [Decidable P] : (if P then (0 : Int) else 0) = 0 := by split <;> rfl
/-! the reference -/
theorem c_rip1K (X : Xv) (c m : Mem) {w d l n : Int} (hD : okD w d l) (hn : 0 ≤ n ∧ n < 8) (hM : WM w d l c) (hR : RRK w d l c m) : kCall (eX X) 1 M_X12_paint.1 [vR 54, vI n] (mset m 68 n 0) (fun r m' => r = none ∧ RRK w d l (rmT (w * d * l) n c) m' ∧ (∀ o, o ≠ 68 → o ≠ 72 → m' o = m o) ∧ (∀ j : Int, j ≠ n → m' 68 j = m 68 j) ∧ m' 68 n = 0) := by
  have e68 : mset m 68 n 0 68 n = 0 := by rw [k_mset_at, if_pos rfl]
  refine kCall_mono (c_X12_paint X (mset m 68 n 0) n hn (by rw [e68]; decide) (fun i h1 h2 => by rw [e68] at h2; omega)) (Nat.le_refl _) ?_
  rintro _ m' ⟨rfl, hp⟩
  have hp' : pnt n (mset m 68 n 0) m' (fun _ => False) := pnt_cong hp (fun x => ⟨False.elim, by rintro ⟨i, hi, -⟩; rw [e68] at hi; omega⟩)
  have p1 := hp.1
  have hts := rmT_tsame (w := w) (d := d) (l := l) hn (fun x hx => (hM.2.2.2 x hx).2)
  have hf : ∀ o, o ≠ 68 → o ≠ 72 → m' o = m o := fun o a b => by rw [p1 o b, k_mset_ne a]
  have h68 : ∀ j : Int, j ≠ n → m' 68 j = m 68 j := fun j hj => by rw [p1 68 (by decide), k_mset_at, if_neg hj]
  have hrs : rsm n m m' := ⟨fun o _ _ h3 _ _ h6 _ _ _ _ _ => hf o h3 h6, fun o ho => hf o (by omega) (by omega), fun i _ => by rw [hf 54 (by decide) (by decide)], h68, fun j _ => by rw [hf 69 (by decide) (by decide), hf 70 (by decide) (by decide)]; exact ⟨rfl, rfl⟩, fun j hj => by rw [pnt_rsame hp j hj, k_mset_ne (by decide)]⟩
  refine ⟨rfl, RRK_rsm hD hn hts hrs hR ?_, hf, h68, by rw [p1 68 (by decide)]; exact e68⟩
  exact (RRn_k.mp (rip_RRk hD hn (hR.2 n hn) (hM.2.2.1 n hn) (k_mset_ne (by decide)) (k_mset_ne (by decide)) (k_mset_ne (by decide)) (k_mset_ne (by decide)) e68 hp')).1
theorem c_X12_ripSome (X : Xv) (c m : Mem) {w d l : Int} (hD : okD w d l) (hM : WM w d l c) (hR : RRK w d l c m) (s : Int) : kCall (eX X) 2 M_X12_ripSome.1 [vR 54, vI s] m (fun r m' => r = none ∧ RRK w d l (rmL (w * d * l) s (c 9 14).toNat 0 c) m' ∧ (∀ o, o ≠ 68 → o ≠ 72 → m' o = m o) ∧ ∀ n : Int, ((0 ≤ n ∧ n < c 9 14) ∧ bt s n.toNat = true → m' 68 n = 0) ∧ (¬ ((0 ≤ n ∧ n < c 9 14) ∧ bt s n.toNat = true) → m' 68 n = m 68 n)) := by
  have h8 := hM.1.2.1
  refine kCall_ofT ok_X12_ripSome rfl (Nat.le_of_ble_eq_true rfl) (fun T hT => ?_)
  obtain ⟨cF, hcF⟩ : ∃ cF, cF = rmL (w * d * l) s (c 9 14).toNat 0 c := ⟨_, rfl⟩
  rw [← hcF] at hT
  have loop : ∀ (k : Nat) (n : Int) (c1 mm : Mem), n + k = c 9 14 → 0 ≤ n → RRK w d l c1 mm → WM w d l c1 → (∀ o, o ≠ 17 → o ≠ 19 → c1 o = c o) → rmL (w * d * l) s k n c1 = cF → (∀ o, o ≠ 68 → o ≠ 72 → mm o = m o) → (∀ j : Int, ((0 ≤ j ∧ j < n) ∧ bt s j.toNat = true → mm 68 j = 0) ∧ (¬ ((0 ≤ j ∧ j < n) ∧ bt s j.toNat = true) → mm 68 j = m 68 j)) → kW (eX X) 1 M_X12_ripSome T 1 [some (vR 54), some (vI s), some (vI n)] [] mm := by
    intro k
    induction k with
    | zero =>
      intro n c1 mm hk h0 hR1 hM1 hc1 hcf hf h68
      have hn : n = c 9 14 := by omega
      have e26 : mm 54 26 = c 9 14 := by rw [hR1.1.2.2.2.1.1, hc1 9 (by decide) (by decide)]
      rw [hn] at h68
      refine kW_go ok_X12_ripSome [1] 20 ?_
      refine And.intro (fun _ => hT _ _ ⟨rfl, ?_, hf, h68⟩) (fun h => ?_)
      · rw [← hcf]; exact hR1
      · have h : n < mm 54 26 := h
        omega
    | succ k ih =>
      intro n c1 mm hk h0 hR1 hM1 hc1 hcf hf h68
      have hn8 : 0 ≤ n ∧ n < 8 := by omega
      have hnb : 0 ≤ n ∧ n < ((8 : Nat) : Int) := hn8
      have e26 : mm 54 26 = c 9 14 := by rw [hR1.1.2.2.2.1.1, hc1 9 (by decide) (by decide)]
      have hcf : rmL (w * d * l) s k (n + 1) (if bt s n.toNat = true then rmT (w * d * l) n c1 else c1) = cF := hcf
      refine kW_go ok_X12_ripSome [1] 20 ?_
      refine And.intro (fun h => ?_) (fun _ => And.intro (fun hb => ?_) (fun hb => ⟨hnb, ?_⟩))
      · have h : mm 54 26 ≤ n := h
        omega
      · have hbn : ¬ bt s n.toNat = true := fun z => hb ((k_ask1 h0 (by omega)).mpr z)
        rw [if_neg hbn] at hcf
        refine ⟨by constructor <;> omega, ih (n + 1) c1 mm (by omega) (by omega) hR1 hM1 hc1 hcf hf (fun j => ⟨fun z => ?_, fun z => (h68 j).2 (fun y => z ⟨by omega, y.2⟩)⟩)⟩
        by_cases e : j = n
        · rw [e] at z; exact absurd z.2 hbn
        · exact (h68 j).1 ⟨by omega, z.2⟩
      · have hbn := (k_ask1 h0 (by omega)).mp hb
        rw [if_pos hbn] at hcf
        refine kCall_mono (c_rip1K X c1 mm hD hn8 hM1 hR1) (Nat.le_of_ble_eq_true rfl) ?_
        rintro _ m2 ⟨rfl, hR2, hf2, h2, h2n⟩
        refine ⟨by constructor <;> omega, ih (n + 1) _ m2 (by omega) (by omega) hR2 (WM_rmT hM1 hn8) (fun o a b => by rw [rmT_ne a b]; exact hc1 o a b) hcf (fun o a b => by rw [hf2 o a b]; exact hf o a b) (fun j => ⟨fun z => ?_, fun z => ?_⟩)⟩
        · by_cases e : j = n
          · rw [e]; exact h2n
          · rw [h2 j e]; exact (h68 j).1 ⟨by omega, z.2⟩
        · by_cases e : j = n
          · rw [e] at z; exact absurd ⟨by omega, hbn⟩ z
          · rw [h2 j e]; exact (h68 j).2 (fun y => z ⟨by omega, y.2⟩)
  refine kW_go ok_X12_ripSome [1] 20 ?_
  exact loop (c 9 14).toNat 0 c m (by omega) (by omega) hR hM (fun _ _ _ => rfl) hcF.symm (fun _ _ _ => rfl) (fun j => ⟨fun z => by omega, fun _ => rfl⟩)
set_option maxRecDepth 100000 in
theorem c_X12_layWith (X : Xv) (c m : Mem) {w d l : Int} {ex : Int → Int} (hD : okD w d l) (hM : WM w d l c) (hR : RRK w d l c m) (hSt : Rst m) (hex : ∀ y, inC w d l y → ex y = 0) (n s : Int) (hnn : 0 ≤ n ∧ n < c 9 14) (hCH : ∀ n' : Int, (0 ≤ n' ∧ n' < 8) → n' ≠ n → CHn w d c m n') : kCall (eX X) 9 M_X12_layWith.1 [vR 54, vI n, vI s] m (fun r m' => ∃ ok c', lwA w d l ex (cS (w * d * l) n s c) n s ok c' ∧ r = some (vI (if ok = true then 1 else 0)) ∧ ∃ cN, (ok = true → cN = c') ∧ RR0 w d l cN m' ∧ WM w d l cN ∧ (∀ o, o ≠ 17 → o ≠ 19 → cN o = c o) ∧ rfr m m' ∧ Rst m') := by
  have h8 := hM.1.2.1
  have hn8 : 0 ≤ n ∧ n < 8 := by omega
  obtain ⟨c1, hc1⟩ : ∃ c1, c1 = cS (w * d * l) n s c := ⟨_, rfl⟩
  have hne1 : ∀ o, o ≠ 17 → o ≠ 19 → c1 o = c o := fun o a b => by rw [hc1]; unfold cS; rw [rmL_ne a b, rmT_ne a b]
  have hM1 : WM w d l c1 := by rw [hc1]; exact rmL_WM _ _ _ (by omega) (WM_rmT hM hn8)
  rw [← hc1]
  refine kCall_ofT ok_X12_layWith rfl (Nat.le_of_ble_eq_true rfl) (fun T hT => ?_)
  refine kW_go ok_X12_layWith [1] 20 ?_
  refine kCall_mono (c_X12_ripSome X c m hD hM hR _) (Nat.le_of_ble_eq_true rfl) ?_
  rintro _ m1 ⟨rfl, hR1, hf1, h68⟩
  have hbm : ∀ k : Nat, k < 32 → (bt (kor s (kshl 1 n)) k = true ↔ bt s k = true ∨ (k : Int) = n) := fun k hk => by
    rw [bt_or, bt_bit hn8.1 (by omega), Bool.or_eq_true, decide_eq_true_eq]
  have hRK1 : RRK w d l c1 m1 := by
    refine RRK_pt hD (fun o a b => by rw [hne1 o a b, rmL_ne a b]) (fun n' x hn' hx => ?_) (fun x o hx ho => ?_) hR1
    · rw [hc1]
      unfold cS
      rw [rmL_row _ _ _ n' x hx, rmL_row _ _ _ n' x hx, rmT_row hx]
      have hb := hbm n'.toNat (by omega)
      rw [show ((n'.toNat : Nat) : Int) = n' by omega] at hb
      by_cases e : n' = n
      · rw [if_pos e, ite_z, if_pos ⟨by omega, hb.mpr (Or.inr e)⟩]
      · rw [if_neg e]
        by_cases hs : ((0 : Int) ≤ n' ∧ n' < 0 + ((c 9 14).toNat : Int)) ∧ bt s n'.toNat = true
        · rw [if_pos hs, if_pos ⟨hs.1, hb.mpr (Or.inl hs.2)⟩]
        · rw [if_neg hs, if_neg (fun z => hs ⟨z.1, (hb.mp z.2).resolve_right e⟩)]
    · -- bits follow the rows
      have hA := ((hM1.2.2.1 (o : Int) (by omega)).1 x hx).2.2.1
      have hB := (((rmL_WM (s := kor s (kshl 1 n)) (c 9 14).toNat 0 c (by omega) hM).2.2.1 (o : Int) (by omega)).1 x hx).2.2.1
      rw [Int.toNat_natCast] at hA hB
      have hrow : c1 19 ((o : Int) * (w * d * l) + x) = rmL (w * d * l) (kor s (kshl 1 n)) (c 9 14).toNat 0 c 19 ((o : Int) * (w * d * l) + x) := by
        rw [hc1]
        unfold cS
        rw [rmL_row _ _ _ (o : Int) x hx, rmL_row _ _ _ (o : Int) x hx, rmT_row hx, Int.toNat_natCast]
        have hb := hbm o (by omega)
        by_cases e : (o : Int) = n
        · rw [if_pos e, ite_z, if_pos ⟨by omega, hb.mpr (Or.inr e)⟩]
        · rw [if_neg e]
          by_cases hs : ((0 : Int) ≤ (o : Int) ∧ (o : Int) < 0 + ((c 9 14).toNat : Int)) ∧ bt s o = true
          · rw [if_pos hs, if_pos ⟨hs.1, hb.mpr (Or.inl hs.2)⟩]
          · rw [if_neg hs, if_neg (fun z => hs ⟨z.1, (hb.mp z.2).resolve_right e⟩)]
      rw [hrow] at hA
      have := hA.trans hB.symm
      cases h1 : bt (c1 17 x) o <;> cases h2 : bt (rmL (w * d * l) (kor s (kshl 1 n)) (c 9 14).toNat 0 c 17 x) o <;> simp_all
  have hR01 : RR0 w d l c1 m1 := by
    refine RRK_0 hRK1 (fun n' hn' => ?_)
    have hb := hbm n'.toNat (by omega)
    rw [show ((n'.toNat : Nat) : Int) = n' by omega] at hb
    by_cases hin : (0 ≤ n' ∧ n' < c 9 14) ∧ bt (kor s (kshl 1 n)) n'.toNat = true
    · have hz := (h68 n').1 hin
      exact ⟨fun _ => hz, fun _ => by rw [hz]; exact ⟨fun z => absurd z (by decide), fun i a b => by omega, fun i j z => by omega, fun i z => by omega⟩⟩
    · have hne : n' ≠ n := fun z => hin ⟨by omega, hb.mpr (Or.inr z)⟩
      have hold := hCH n' hn' hne
      unfold CHn at hold ⊢
      rw [(h68 n').2 hin, hf1 69 (by decide) (by decide), hf1 70 (by decide) (by decide), hne1 13 (by decide) (by decide), hne1 14 (by decide) (by decide)]
      exact hold
  have hS1 : Rst m1 := by
    unfold Rst at hSt ⊢
    rw [hf1 54 (by decide) (by decide), hf1 81 (by decide) (by decide)]
    exact hSt
  have hr1 : rfr m m1 := ⟨fun o ho => hf1 o (by omega) (by omega), fun i _ _ _ _ _ => by rw [hf1 54 (by decide) (by decide)]⟩
  have hge : ∀ {cc c2 : Mem} {k : Int} {res : Option Int}, WM w d l cc → (0 ≤ k ∧ k < cc 9 14) → layA w d l 6 (fun _ => True) ex cc k res c2 → (ansR res = -1 ↔ res = none) := by
    intro cc c2 k res hMc hk hL
    refine ansR_ne ?_
    rcases hL with ⟨-, e, -⟩ | ⟨hp, c2, h1, -⟩
    · intro z hz; rw [e] at hz; cases hz
    · have a := hMc.1.2.2.2.1 k hk
      obtain ⟨b1, b2, b3, -⟩ := hMc.1.2.2.1 (cc 11 k) a
      exact LRw_ge (fun k y => by unfold cs0 csF; split <;> omega) b3.1 (Int.le_refl 0) h1
  refine kCall_mono (c_X12_layA X c1 m1 (ex := ex) hD hM1 hR01 (by rw [hne1 9 (by decide) (by decide)]; exact hnn) hS1 hex) (Nat.le_of_ble_eq_true rfl) ?_
  rintro _ m2 ⟨res, c2, hL, rfl, hR2, hM2, ht2, hr2⟩
  have hans := hge hM1 (by rw [hne1 9 (by decide) (by decide)]; exact hnn) hL
  have hc2 : ∀ o, o ≠ 17 → o ≠ 19 → c2 o = c o := fun o a b => by rw [ht2.1 o a b]; exact hne1 o a b
  have e9 : c1 9 14 = c 9 14 := by rw [hne1 9 (by decide) (by decide)]
  have nets : ∀ (q : Nat) (k : Int) (c3 m3 : Mem), k + q = c 9 14 → 0 ≤ k → RR0 w d l c3 m3 → WM w d l c3 → (∀ o, o ≠ 17 → o ≠ 19 → c3 o = c o) → rfr m m3 → Rst m3 → (∀ ok c', lwN w d l ex s q k c3 ok c' → lwA w d l ex c1 n s ok c') → kW (eX X) 8 M_X12_layWith T 2 [some (vR 54), some (vI n), some (vI s), some (vI k)] [] m3 := by
    intro q
    induction q with
    | zero =>
      intro k c3 m3 hq h0 a1 a2 a3 a4 a5 a6
      have e26 : m3 54 26 = c 9 14 := by rw [a1.1.2.2.2.1.1, a3 9 (by decide) (by decide)]
      refine kW_go ok_X12_layWith [2] 20 ?_
      refine And.intro (fun _ => hT _ _ ⟨Or.inr rfl, true, c3, a6 _ _ ⟨rfl, rfl⟩, rfl, c3, fun _ => rfl, a1, a2, a3, a4, a5⟩) (fun h => ?_)
      have h : k < m3 54 26 := h
      omega
    | succ q ih =>
      intro k c3 m3 hq h0 a1 a2 a3 a4 a5 a6
      have e26 : m3 54 26 = c 9 14 := by rw [a1.1.2.2.2.1.1, a3 9 (by decide) (by decide)]
      have hk8 : 0 ≤ k ∧ k < 8 := by omega
      have hkb : 0 ≤ k ∧ k < ((8 : Nat) : Int) := hk8
      have e63 : m3 63 k = c3 13 k := (a1.1.2.2.2.2.1 k hk8).2.1
      have hskip : ¬ (bt s k.toNat = true ∧ 0 < c3 13 k) → inR (k + 1) ∧ kW (eX X) 8 M_X12_layWith T 2 [some (vR 54), some (vI n), some (vI s), some (vI (k + 1))] [] m3 := fun hn => ⟨by constructor <;> omega, ih (k + 1) c3 m3 (by omega) (by omega) a1 a2 a3 a4 a5 (fun ok c' h => a6 ok c' (Or.inl ⟨hn, h⟩))⟩
      refine kW_go ok_X12_layWith [2] 20 ?_
      refine And.intro (fun h => ?_) (fun _ => And.intro (fun hb => hskip (fun z => hb ((k_ask1 h0 (by omega)).mpr z.1))) (fun hb => ⟨hkb, And.intro (fun hp => hskip (fun z => ?_)) (fun hp => ?_)⟩))
      · have h : m3 54 26 ≤ k := h
        omega
      · have hp : m3 63 k ≤ 0 := hp
        omega
      · have hp : 0 < m3 63 k := hp
        have hcond : bt s k.toNat = true ∧ 0 < c3 13 k := ⟨(k_ask1 h0 (by omega)).mp hb, by omega⟩
        have hk9 : 0 ≤ k ∧ k < c3 9 14 := by rw [a3 9 (by decide) (by decide)]; omega
        refine kCall_mono (c_X12_layA X c3 m3 (ex := ex) hD a2 a1 hk9 a5 hex) (Nat.le_of_ble_eq_true rfl) ?_
        rintro _ m4 ⟨res4, c4, hL4, rfl, hR4, hM4, ht4, hr4⟩
        have hans4 := hge a2 hk9 hL4
        have hc4 : ∀ o, o ≠ 17 → o ≠ 19 → c4 o = c o := fun o a b => by rw [ht4.1 o a b]; exact a3 o a b
        refine And.intro (fun hne => ?_) (fun he => ?_)
        · have hne : ¬ ansR res4 = -1 := hne
          exact ⟨by constructor <;> omega, ih (k + 1) c4 m4 (by omega) (by omega) hR4 hM4 hc4 (rfr_tr a4 (rfr_rsm hr4)) (Rst_rsm a5 hr4) (fun ok c' h => a6 ok c' (Or.inr ⟨hcond, res4, c4, hL4, Or.inr ⟨fun z => hne (hans4.mpr z), h⟩⟩))⟩
        · have he : ansR res4 = -1 := he
          exact hT _ _ ⟨Or.inl rfl, false, c4, a6 _ _ (Or.inr ⟨hcond, res4, c4, hL4, Or.inl ⟨hans4.mp he, rfl⟩⟩), rfl, c4, fun z => (by cases z), hR4, hM4, hc4, rfr_tr a4 (rfr_rsm hr4), Rst_rsm a5 hr4⟩
  refine And.intro (fun hne => ?_) (fun he => ?_)
  · have hne : ¬ ansR res = -1 := hne
    refine kW_go ok_X12_layWith [2] 20 ?_
    exact nets (c 9 14).toNat 0 c2 m2 (by omega) (by omega) hR2 hM2 hc2 (rfr_tr hr1 (rfr_rsm hr2)) (Rst_rsm hS1 hr2) (fun ok c' h => ⟨res, c2, hL, Or.inr ⟨fun z => hne (hans.mpr z), by rw [e9]; exact h⟩⟩)
  · have he : ansR res = -1 := he
    exact hT _ _ ⟨Or.inl rfl, false, c2, ⟨res, c2, hL, Or.inl ⟨hans.mp he, rfl⟩⟩, rfl, c2, fun z => (by cases z), hR2, hM2, hc2, rfr_tr hr1 (rfr_rsm hr2), Rst_rsm hS1 hr2⟩
