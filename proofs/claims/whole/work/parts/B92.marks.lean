/-! STRETCH: a move's way, marks put on -/
theorem c_X12_wayFrom (X : Xv) (m : Mem) {w d l : Int} (hd : dimM m w d l) (x k : Int) (hx : inC w d l x) (hk : 0 ≤ k ∧ k < 6) (hne : nx w d l x k ≠ -1) : kCall (eX X) 4 M_X12_wayFrom.1 [vR 54, vI (cR w d x), vI (cR w d (nx w d l x k))] m (cP k m) := by
  have hD : okD w d l := hd.2.2.2
  have hy := (nx_in hne).1
  have hgy := (cR_geo hD hy).1
  refine kCall_ofT ok_X12_wayFrom rfl (Nat.le_of_ble_eq_true rfl) (fun T hT => ?_)
  have loop : ∀ (q : Nat) (j : Int), j + q = k → 0 ≤ j → kW (eX X) 3 M_X12_wayFrom T 1 [some (vR 54), some (vI (cR w d x)), some (vI (cR w d (nx w d l x k))), some (vI j)] [] m := by
    intro q
    induction q with
    | zero =>
      intro j hj h0
      have hjk : j = k := by omega
      subst hjk
      refine kW_go ok_X12_wayFrom [1] 20 ?_
      refine kCall_mono (c_X12_moved X m hd x j hx) (Nat.le_of_ble_eq_true rfl) ?_
      rw [show mR w d l x j = cR w d (nx w d l x j) from if_neg hne]
      rintro _ m2 ⟨rfl, rfl⟩
      exact And.intro (fun _ => hT _ _ ⟨rfl, rfl⟩) (fun h => absurd rfl h)
    | succ q ih =>
      intro j hj h0
      refine kW_go ok_X12_wayFrom [1] 20 ?_
      refine kCall_mono (c_X12_moved X m hd x j hx) (Nat.le_of_ble_eq_true rfl) ?_
      rintro _ m2 ⟨rfl, rfl⟩
      refine And.intro (fun h => ?_) (fun _ => ⟨by constructor <;> omega, ih (j + 1) (by omega) (by omega)⟩)
      have h : mR w d l x j = cR w d (nx w d l x k) := h
      by_cases e : nx w d l x j = -1
      · rw [show mR w d l x j = -1 from if_pos e] at h
        omega
      · rw [show mR w d l x j = cR w d (nx w d l x j) from if_neg e] at h
        have := cR_inj hD (nx_in e).1 hy h
        have := nx_inj (by omega) hk e this
        omega
  refine kW_go ok_X12_wayFrom [1] 20 ?_
  exact loop k.toNat 0 (by omega) (by omega)
theorem kor_44 (v : Int) : kor (kor v 4) 4 = kor v 4 := k_or_or v 4
/-- one more mark -/
theorem mkd_mark {old : Int → Prop} {r mm : Mem} {j : Int} (h : mkd old r mm) : mkd (fun i => old i ∨ i = j) r (mset mm 72 j (kor (mm 72 j) 4)) := by
  refine ⟨fun o ho => by rw [k_mset_ne ho]; exact h.1 o ho, fun i => ⟨fun hi => ?_, fun hi => ?_⟩⟩
  · rw [k_mset_at]
    by_cases e : i = j
    · rw [if_pos e, ← e]
      by_cases ho : old i
      · rw [(h.2 i).1 ho, kor_44]
      · rw [(h.2 i).2 ho]
    · rw [if_neg e]
      exact (h.2 i).1 (hi.resolve_right e)
  · rw [k_mset_at, if_neg (fun e => hi (Or.inr e))]
    exact (h.2 i).2 (fun e => hi (Or.inl e))
theorem mkd_iff {old old' : Int → Prop} {r mm : Mem} (h : mkd old r mm) (e : ∀ j, old' j ↔ old j) : mkd old' r mm := ⟨h.1, fun j => ⟨fun q => (h.2 j).1 ((e j).mp q), fun q => (h.2 j).2 (fun z => q ((e j).mpr z))⟩⟩
/-- the marks taken off -/
theorem kand_43 {v : Int} (h : 0 ≤ v ∧ v < 4) : kand (kor v 4) 3 = v ∧ kand v 3 = v ∧ (0 ≤ kor v 4 ∧ kor v 4 < 8) ∧ bt (kor v 4) 2 = true ∧ bt (kor v 4) 0 = bt v 0 ∧ bt (kor v 4) 1 = bt v 1 ∧ bt v 2 = false ∧ kor v 4 ≠ 0 := by
  have : ∀ i : Fin 4, kand (kor (i.val : Int) 4) 3 = (i.val : Int) ∧ kand (i.val : Int) 3 = (i.val : Int) ∧ (0 ≤ kor (i.val : Int) 4 ∧ kor (i.val : Int) 4 < 8) ∧ bt (kor (i.val : Int) 4) 2 = true ∧ bt (kor (i.val : Int) 4) 0 = bt (i.val : Int) 0 ∧ bt (kor (i.val : Int) 4) 1 = bt (i.val : Int) 1 ∧ bt (i.val : Int) 2 = false ∧ kor (i.val : Int) 4 ≠ 0 := by decide +kernel
  exact k_fin (P := fun v => kand (kor v 4) 3 = v ∧ kand v 3 = v ∧ (0 ≤ kor v 4 ∧ kor v 4 < 8) ∧ bt (kor v 4) 2 = true ∧ bt (kor v 4) 0 = bt v 0 ∧ bt (kor v 4) 1 = bt v 1 ∧ bt v 2 = false ∧ kor v 4 ≠ 0) this h.1 (by omega)
/-- others' copper alike: the same cells are clear -/
theorem clT_ts {w d l n x : Int} {q : Int → Prop} {c c' : Mem} (h9 : c' 9 14 = c 9 14) (h10 : c' 10 = c 10) (h11 : c' 11 = c 11) (h8 : c 9 14 ≤ 8) (hb : ∀ (o y : Int), (0 ≤ o ∧ o < 8) → o ≠ n → inC w d l y → bt (c' 16 y) o.toNat = bt (c 16 y) o.toNat ∧ bt (c' 17 y) o.toNat = bt (c 17 y) o.toNat) : clT w d l q c' n x ↔ clT w d l q c n x := by
  have hap : ∀ o, aptC c' n o = aptC c n o := by
    intro o
    unfold aptC
    rw [h10, h11]
  unfold clT
  rw [h9]
  constructor
  · intro h o ho hon ⟨y, hy, hc, hx⟩
    refine h o ho hon ⟨y, hy, ?_, by rw [hap]; exact hx⟩
    obtain ⟨b1, b2⟩ := hb o y (by omega) hon hy
    unfold cuT at hc ⊢
    rw [b1, b2]
    exact hc
  · intro h o ho hon ⟨y, hy, hc, hx⟩
    refine h o ho hon ⟨y, hy, ?_, by rw [← hap]; exact hx⟩
    obtain ⟨b1, b2⟩ := hb o y (by omega) hon hy
    unfold cuT at hc ⊢
    rw [← b1, ← b2]
    exact hc
