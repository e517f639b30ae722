/-! TOGETHER, the reference: all ways -/
def mkF (f : Int → Int) (U : List (Int × Int)) : List (Int × Int) := U.map (fun u => (f u.1, u.2))
/-- what the reference's memory holds while it searches -/
abbrev RS (w d l s A : Int) (c : Mem) (f : Int → Int) (U : List (Int × Int)) (mm : Mem) : Prop := (RelG w d l (wM c (mkF f U)) mm) ∧ (mm 54 28 = s) ∧ (mm 54 30 = 0) ∧ (∀ i, 0 ≤ i → i < A → mm 64 (4 * f i) = cR w d (c 14 (f i * 4 + 0)) ∧ mm 64 (4 * f i + 1) = cR w d (c 14 (f i * 4 + 1)))
theorem RS.rel {w d l s A : Int} {c : Mem} {f : Int → Int} {U : List (Int × Int)} {mm : Mem} (h : RS w d l s A c f U mm) : RelG w d l (wM c (mkF f U)) mm := h.1
theorem RS.gone {w d l s A : Int} {c : Mem} {f : Int → Int} {U : List (Int × Int)} {mm : Mem} (h : RS w d l s A c f U mm) : mm 54 28 = s := h.2.1
theorem RS.pr {w d l s A : Int} {c : Mem} {f : Int → Int} {U : List (Int × Int)} {mm : Mem} (h : RS w d l s A c f U mm) : mm 54 30 = 0 := h.2.2.1
theorem RS.pin {w d l s A : Int} {c : Mem} {f : Int → Int} {U : List (Int × Int)} {mm : Mem} (h : RS w d l s A c f U mm) : ∀ i, 0 ≤ i → i < A → mm 64 (4 * f i) = cR w d (c 14 (f i * 4 + 0)) ∧ mm 64 (4 * f i + 1) = cR w d (c 14 (f i * 4 + 1)) := h.2.2.2
/-- what stays true of the board -/
abbrev RB (w d l s A : Int) (c : Mem) (f : Int → Int) : Prop := (okD w d l) ∧ (w * d * l ≤ 24) ∧ (srt c) ∧ (FL c s f A) ∧ (LO w d l A (layY w d l c s f)) ∧ (∀ i, 0 ≤ i → i < A → ∀ x, inC w d l x → (bt (c 16 x) (f i).toNat = true ↔ x = c 14 (f i * 4 + 0) ∨ x = c 14 (f i * 4 + 1)))
theorem RB.hD {w d l s A : Int} {c : Mem} {f : Int → Int} (h : RB w d l s A c f) : okD w d l := h.1
theorem RB.h24 {w d l s A : Int} {c : Mem} {f : Int → Int} (h : RB w d l s A c f) : w * d * l ≤ 24 := h.2.1
theorem RB.hs {w d l s A : Int} {c : Mem} {f : Int → Int} (h : RB w d l s A c f) : srt c := h.2.2.1
theorem RB.hF {w d l s A : Int} {c : Mem} {f : Int → Int} (h : RB w d l s A c f) : FL c s f A := h.2.2.2.1
theorem RB.lo {w d l s A : Int} {c : Mem} {f : Int → Int} (h : RB w d l s A c f) : LO w d l A (layY w d l c s f) := h.2.2.2.2.1
theorem RB.sol {w d l s A : Int} {c : Mem} {f : Int → Int} (h : RB w d l s A c f) : ∀ i, 0 ≤ i → i < A → ∀ x, inC w d l x → (bt (c 16 x) (f i).toNat = true ↔ x = c 14 (f i * 4 + 0) ∨ x = c 14 (f i * 4 + 1)) := h.2.2.2.2.2
def SetI (f : Int → Int) (A i v : Int) : Prop := (0 ≤ v ∧ v < 256) ∧ ∀ k : Nat, k < 8 → (bt v k = true ↔ ∃ j, (i ≤ j ∧ j < A) ∧ f j = (k : Int))
theorem RS_same {w d l s A : Int} {c : Mem} {f : Int → Int} {U : List (Int × Int)} {m m' : Mem} (h : RS w d l s A c f U m) (e : ∀ o, o ≠ 84 → m' o = m o) : RS w d l s A c f U m' := ⟨RelG_same h.rel e, by rw [e 54 (by decide)]; exact h.gone, by rw [e 54 (by decide)]; exact h.pr, by rw [e 64 (by decide)]; exact h.pin⟩
theorem mkF_8 {w d l s A i : Int} {c : Mem} {f : Int → Int} {U : List (Int × Int)} (hB : RB w d l s A c f) (hi : i ≤ A) (hU : ∀ u ∈ U, 0 ≤ u.1 ∧ u.1 < i) : ∀ u ∈ mkF f U, 0 ≤ u.1 ∧ u.1 < 8 := by
  intro u hu
  obtain ⟨v, hv, rfl⟩ := List.mem_map.mp hu
  have := hU v hv
  have := (hB.hF.2.1 v.1 this.1 (by omega)).1
  have := hB.hs.1
  show 0 ≤ f v.1 ∧ f v.1 < 8
  omega
theorem ntz_low : ∀ v : Fin 256, ∀ j : Fin 8, bt (v.val : Int) j.val = true → (∀ k : Fin 8, k < j → bt (v.val : Int) k.val = false) → ntz (v.val : Int) = (j.val : Int) := by decide +kernel
theorem SetI_ntz {w d l s A i v : Int} {c : Mem} {f : Int → Int} (hB : RB w d l s A c f) (hi : 0 ≤ i ∧ i < A) (h : SetI f A i v) : ntz v = f i ∧ v ≠ 0 := by
  have h8 := hB.hs.1
  have hfi := (hB.hF.2.1 i hi.1 hi.2).1
  obtain ⟨⟨v0, v1⟩, hb⟩ := h
  have hbi : bt v (f i).toNat = true := (hb (f i).toNat (by omega)).mpr ⟨i, ⟨by omega, hi.2⟩, by omega⟩
  have := ntz_low ⟨v.toNat, by omega⟩ ⟨(f i).toNat, by omega⟩
  simp only [Int.toNat_of_nonneg v0, Int.toNat_of_nonneg hfi.1] at this
  refine ⟨this hbi (fun k hk => ?_), fun e => ?_⟩
  · cases e : bt v k.val with
    | false => rfl
    | true =>
      obtain ⟨j, hj, e2⟩ := (hb k.val k.isLt).mp e
      have hk : k.val < (f i).toNat := hk
      by_cases ej : j = i
      · rw [ej] at e2; omega
      · have := hB.hF.2.2.1 i j hi.1 (by omega) hj.2
        omega
  · rw [e, bt_zero] at hbi
    cases hbi
theorem SetI_next {w d l s A i v : Int} {c : Mem} {f : Int → Int} (hB : RB w d l s A c f) (hi : 0 ≤ i ∧ i < A) (h : SetI f A i v) : SetI f A (i + 1) (kand v (kxor (kshl 1 (f i)) (-1))) := by
  have h8 := hB.hs.1
  have hfi := (hB.hF.2.1 i hi.1 hi.2).1
  obtain ⟨hv, hb⟩ := h
  refine ⟨(pop_and hv).1, fun k hk => ?_⟩
  rw [bt_and, bt_xor, bt_neg1 (by omega), bt_bit hfi.1 (by omega), Bool.and_eq_true, hb k hk]
  constructor
  · rintro ⟨⟨j, hj, e⟩, hn⟩
    refine ⟨j, ⟨?_, hj.2⟩, e⟩
    by_cases ej : j = i
    · rw [ej] at e
      rw [e] at hn
      simp at hn
    · omega
  · rintro ⟨j, hj, e⟩
    refine ⟨⟨j, ⟨by omega, hj.2⟩, e⟩, ?_⟩
    have := hB.hF.2.2.1 i j hi.1 (by omega) hj.2
    have hne : ¬ (k : Int) = f i := by omega
    simp [hne]
theorem SetI_end {A v : Int} {f : Int → Int} (h : SetI f A A v) : v = 0 := by
  obtain ⟨hv, hb⟩ := h
  refine bt_ext (inR_small (by omega)) (by decide) (fun k hk => ?_)
  rw [bt_zero]
  by_cases h8 : k < 8
  · cases e : bt v k with
    | false => rfl
    | true =>
      obtain ⟨j, hj, -⟩ := (hb k h8).mp e
      omega
  · exact bt_small (n := 8) (inR_small (by omega)) hv.1 hv.2 (by omega)
/-- what FINDALL answers with k ways wanting -/
def FAc (X : Xv) (w d l s A : Int) (c : Mem) (f : Int → Int) (k : Nat) : Prop := ∀ (mm : Mem) (i v b : Int) (U : List (Int × Int)), i + (k : Int) = A → 0 ≤ i → RS w d l s A c f U mm → SetI f A i v → UB w d l (layY w d l c s f) U i → Dj w d l U [] → b = (U.length : Int) → kCall (eX X) (30 * k + 5) M_X12_findAll.1 [vR 54, vI v, vI b] mm (fun r m' => ((FA (layY w d l c s f) k i U ∧ r = some (vI 1)) ∨ (¬ FA (layY w d l c s f) k i U ∧ r = some (vI 0))) ∧ (∀ o, o ≠ 84 → m' o = mm o) ∧ ∀ j, 0 ≤ j → j < b → m' 84 j = mm 84 j)
/-- what GOON answers: k ways wanting behind this one, q cells at most to come -/
def GOc (X : Xv) (w d l s A : Int) (c : Mem) (f : Int → Int) (k q : Nat) : Prop := ∀ (mm : Mem) (i v b y : Int) (h : Int) (U : List (Int × Int)) (R : List Int), i + (k : Int) + 1 = A → 0 ≤ i → RS w d l s A c f (UL U i (h :: R)) mm → SetI f A i v → UB w d l (layY w d l c s f) U i → Dj w d l U (h :: R) → (∀ x ∈ h :: R, x = (layY w d l c s f).a i ∨ x = (layY w d l c s f).t i ∨ (layY w d l c s f).B i x) → Rw w d mm (U.length : Int) (h :: R) → U.length + R.length + 1 + q = 24 → b = (U.length : Int) → y = (R.length : Int) + 1 → kCall (eX X) (30 * k + q + 6) M_X12_goOn.1 [vR 54, vI v, vI (f i), vI b, vI y] mm (fun r m' => ((GO (stM w d l) ((layY w d l c s f).fr i U) ((layY w d l c s f).t i) (fun Q => FA (layY w d l c s f) k (i + 1) (UL U i Q)) (h :: R) ∧ r = some (vI 1)) ∨ (¬ GO (stM w d l) ((layY w d l c s f).fr i U) ((layY w d l c s f).t i) (fun Q => FA (layY w d l c s f) k (i + 1) (UL U i Q)) (h :: R) ∧ r = some (vI 0))) ∧ (∀ o, o ≠ 84 → m' o = mm o) ∧ ∀ j, 0 ≤ j → j < b + y → m' 84 j = mm 84 j)
set_option maxRecDepth 100000 in
theorem GO_one {X : Xv} {w d l s A : Int} {c : Mem} {f : Int → Int} (hN : w * d * l = (nC X : Int)) (hB : RB w d l s A c f) {k q : Nat} (hF : FAc X w d l s A c f k) (IH : ∀ q', q' + 1 = q → GOc X w d l s A c f k q') : GOc X w d l s A c f k q := by
  intro mm i v b y h U R hik hi hS hv hU hDj hLR hRw hq hb hy
  subst hb hy
  have hD := hB.hD
  have h24 := hB.h24
  have hf := okD_floor hD
  have hia : 0 ≤ i ∧ i < A := ⟨hi, by omega⟩
  have h8 := hB.hs.1
  have hfi := (hB.hF.2.1 i hi hia.2).1
  have hlen := Dj_len hN hDj
  rw [List.length_cons] at hlen
  have hh : inC w d l h := hDj.2 h (List.mem_append_right _ List.mem_cons_self)
  have hRin : ∀ x ∈ h :: R, inC w d l x := fun x hx => hDj.2 x (List.mem_append_right _ hx)
  have hpin := hB.lo.pin i hi hia.2
  have htin : inC w d l (c 14 (f i * 4 + 1)) := hpin.2
  have hUi : ∀ u ∈ U, 0 ≤ u.1 ∧ u.1 < i := fun u hu => (hU u hu).1
  have hUin : ∀ u ∈ U, (0 ≤ u.1 ∧ u.1 < i) ∧ inC w d l u.2 := fun u hu => ⟨(hU u hu).1, (hU u hu).2.1⟩
  have hULi : ∀ u ∈ UL U i (h :: R), 0 ≤ u.1 ∧ u.1 < i + 1 := fun u hu => by
    rcases List.mem_append.mp hu with hu | hu
    · obtain ⟨x, hx, rfl⟩ := List.mem_map.mp hu
      exact ⟨hi, by show i < i + 1; omega⟩
    · have := hUi u hu
      omega
  have hst : ∀ x, ¬ stM w d l x x := fun x => stM_self
  obtain ⟨G, hG⟩ : ∃ G, G = GO (stM w d l) ((layY w d l c s f).fr i U) ((layY w d l c s f).t i) (fun Q => FA (layY w d l c s f) k (i + 1) (UL U i Q)) (h :: R) := ⟨_, rfl⟩
  rw [← hG]
  have hbm : (0 ≤ (U.length : Int) + ((R.length : Int) + 1) - 1 ∧ (U.length : Int) + ((R.length : Int) + 1) - 1 < ((324 : Nat) : Int)) := by omega
  have hp1 : 0 ≤ 4 * f i + 1 ∧ 4 * f i + 1 < ((32 : Nat) : Int) := by omega
  have hrow : mm 84 ((U.length : Int) + ((R.length : Int) + 1) - 1) = cR w d h := by
    rw [show (U.length : Int) + ((R.length : Int) + 1) - 1 = (U.length : Int) + (R.length : Int) by omega]
    exact hRw.1
  refine kCall_ofT ok_X12_goOn rfl (Nat.le_of_ble_eq_true rfl) (fun T hT => ?_)
  have hfin0 : ∀ m', ¬ G → (∀ o, o ≠ 84 → m' o = mm o) → (∀ j, 0 ≤ j → j < (U.length : Int) + ((R.length : Int) + 1) → m' 84 j = mm 84 j) → T (some (vI 0)) m' := fun m' a b e => hT _ _ ⟨Or.inl rfl, Or.inr ⟨a, rfl⟩, b, e⟩
  have hfin1 : ∀ m', G → (∀ o, o ≠ 84 → m' o = mm o) → (∀ j, 0 ≤ j → j < (U.length : Int) + ((R.length : Int) + 1) → m' 84 j = mm 84 j) → T (some (vI 1)) m' := fun m' a b e => hT _ _ ⟨Or.inr rfl, Or.inl ⟨a, rfl⟩, b, e⟩
  refine kW_go ok_X12_goOn [2] 40 ?_
  refine ⟨by constructor <;> omega, by constructor <;> omega, hbm, by constructor <;> omega, by constructor <;> omega, hp1, ?_⟩
  refine And.intro (fun hne => ?_) (fun heq => ?_)
  · have hht : h ≠ c 14 (f i * 4 + 1) := fun e => hne (by
      show mm 84 ((U.length : Int) + ((R.length : Int) + 1) - 1) = mm 64 (4 * f i + 1)
      rw [hrow, (hS.pin i hi hia.2).2, e])
    have hGi : G ↔ ∃ z, stM w d l h z ∧ Op (stM w d l) ((layY w d l c s f).fr i U) R z ∧ GO (stM w d l) ((layY w d l c s f).fr i U) ((layY w d l c s f).t i) (fun Q => FA (layY w d l c s f) k (i + 1) (UL U i Q)) (z :: h :: R) := by
      rw [hG]
      exact GO_iff hst hht
    have loop : ∀ (n : Nat) (e : Int) (m2 : Mem) (x7 x8 x9 : Option AV), e + n = 6 → 0 ≤ e → (∀ o, o ≠ 84 → m2 o = mm o) → (∀ j, 0 ≤ j → j < (U.length : Int) + ((R.length : Int) + 1) → m2 84 j = mm 84 j) → (∀ e', 0 ≤ e' → e' < e → nx w d l h e' ≠ -1 → ¬ (Op (stM w d l) ((layY w d l c s f).fr i U) R (nx w d l h e') ∧ GO (stM w d l) ((layY w d l c s f).fr i U) ((layY w d l c s f).t i) (fun Q => FA (layY w d l c s f) k (i + 1) (UL U i Q)) (nx w d l h e' :: h :: R))) → kW (eX X) (30 * k + q + 5) M_X12_goOn T 2 [some (vR 54), some (vI v), some (vI (f i)), some (vI (U.length : Int)), some (vI ((R.length : Int) + 1)), some (vI (cR w d h)), some (vI e), x7, x8, x9] [] m2 := by
      intro n
      induction n with
      | zero =>
        intro e m2 x7 x8 x9 hn he f1 f2 hno
        refine kW_go ok_X12_goOn [2] 20 ?_
        refine ⟨fun _ => hfin0 m2 (fun hg => ?_) f1 f2, fun h => absurd h (by omega)⟩
        obtain ⟨z, ⟨k', k1, k2, rfl⟩, z2, z3⟩ := hGi.mp hg
        exact hno k' k1.1 (by omega) k2 ⟨z2, z3⟩
      | succ n ih =>
        intro e m2 x7 x8 x9 hn he f1 f2 hno
        have hS2 := RS_same hS f1
        have hdim : dimM m2 w d l := hS2.rel.1
        have hnx : ∀ (m3 : Mem) (y7 y8 y9 : Option AV), (∀ o, o ≠ 84 → m3 o = mm o) → (∀ j, 0 ≤ j → j < (U.length : Int) + ((R.length : Int) + 1) → m3 84 j = mm 84 j) → (nx w d l h e ≠ -1 → ¬ (Op (stM w d l) ((layY w d l c s f).fr i U) R (nx w d l h e) ∧ GO (stM w d l) ((layY w d l c s f).fr i U) ((layY w d l c s f).t i) (fun Q => FA (layY w d l c s f) k (i + 1) (UL U i Q)) (nx w d l h e :: h :: R))) → kW (eX X) (30 * k + q + 5) M_X12_goOn T 4 [some (vR 54), some (vI v), some (vI (f i)), some (vI (U.length : Int)), some (vI ((R.length : Int) + 1)), some (vI (cR w d h)), some (vI e), y7, y8, y9] [] m3 := by
          intro m3 y7 y8 y9 g1 g2 hne2
          refine kW_go ok_X12_goOn [2] 20 ?_
          refine ⟨by constructor <;> omega, ih (e + 1) m3 _ _ _ (by omega) (by omega) g1 g2 (fun e' a b z => ?_)⟩
          by_cases ee : e' = e
          · rw [ee] at z ⊢; exact hne2 z
          · exact hno e' a (by omega) z
        refine kW_go ok_X12_goOn [2, 3, 4] 40 ?_
        refine ⟨fun h => absurd h (by omega), fun _ => ?_⟩
        refine kCall_mono (c_X12_moved X m2 hdim h e hh) (by omega) ?_
        rintro r m2 ⟨hr, rfl⟩
        by_cases hn1 : nx w d l h e = -1
        · rw [show mR w d l h e = -1 from if_pos hn1] at hr
          subst hr
          exact And.intro (fun _ => hnx m2 _ _ _ f1 f2 (fun z => absurd hn1 z)) (fun h => absurd rfl h)
        rw [show mR w d l h e = cR w d (nx w d l h e) from if_neg hn1] at hr
        subst hr
        have hzi := (nx_in hn1).1
        have hzc := (cR_geo hD hzi).1
        obtain ⟨z, hz⟩ : ∃ z, z = nx w d l h e := ⟨_, rfl⟩
        rw [← hz] at hnx hzi hzc ⊢
        have hsz : stM w d l h z := ⟨e, by omega, hn1, hz.symm⟩
        refine And.intro (fun h => absurd (show cR w d z = -1 from h) (by omega)) (fun _ => ?_)
        have hs2 : srt (wM c (mkF f (UL U i (h :: R)))) := by
          have := hB.hs
          unfold srt at this ⊢
          rw [wM_ne (by decide), wM_ne (by decide), wM_ne (by decide)]
          exact this
        refine kCall_mono (c_X12_isFreeT X (wM c (mkF f (UL U i (h :: R)))) m2 hD hs2 hS2.rel (f i) z 0 (by rw [wM_ne (by decide)]; exact hfi) hzi) (by omega) ?_
        have hfq : frT w d l (cntT m2) (wM c (mkF f (UL U i (h :: R)))) (f i) 0 z ↔ frT w d l (fun o => bt s o.toNat = false) (wM c (mkF f (UL U i (h :: R)))) (f i) 0 z := by
          have hct : ∀ o, (0 ≤ o ∧ o < c 9 14) → (cntT m2 o ↔ bt s o.toNat = false) := by
            intro o ho
            unfold cntT
            have e28 : m2 54 28 = s := hS2.gone
            have e30 : m2 54 30 = 0 := hS2.pr
            rw [e28, e30, k_ask0 ho.1 (by omega)]
            exact ⟨fun q => q.1, fun q => ⟨q, Or.inl rfl⟩⟩
          refine frT_cong (hct _ hfi) (fun o ho _ => ?_)
          rw [wM_ne (by decide)] at ho
          exact hct o ho
        rw [hfq]
        rintro _ m2 ⟨⟨hfr, rfl⟩ | ⟨hfr, rfl⟩, rfl⟩
        · refine And.intro (fun h => absurd h (by decide)) (fun _ => ?_)
          have hrwm : Rw w d m2 (U.length : Int) (h :: R) := Rw_same (fun j a b => f2 j (by omega) (by rw [List.length_cons] at b; omega)) hRw
          refine kCall_mono (c_X12_isPlainFrom X m2 hdim z (U.length : Int) h R hzi hRin (by omega) hrwm) (by omega) ?_
          rintro _ m2 ⟨⟨hpl, rfl⟩ | ⟨hpl, rfl⟩, rfl⟩
          · refine And.intro (fun _ => ?_) (fun h => absurd h (by decide))
            have hop : (layY w d l c s f).fr i U z := (ref_fr h8.2 hB.hF hia hUin (hB.sol i hi hia.2 z hzi) hzi hpl.1).mp hfr
            have hOp : Op (stM w d l) ((layY w d l c s f).fr i U) R z := ⟨hop, fun q => hpl.1 (List.mem_cons_of_mem _ q), hpl.2⟩
            have hDj2 := Dj_cons hDj hzi (Lay_fresh hB.lo hia hU hop) hpl.1
            have hlen2 := Dj_len hN hDj2
            rw [List.length_cons, List.length_cons] at hlen2
            obtain ⟨q', hq'⟩ : ∃ q', q' + 1 = q := ⟨q - 1, by omega⟩
            have hcb : 0 ≤ 324 * f i + cR w d z ∧ 324 * f i + cR w d z < ((2592 : Nat) : Int) := by omega
            have hby : 0 ≤ (U.length : Int) + ((R.length : Int) + 1) ∧ (U.length : Int) + ((R.length : Int) + 1) < ((324 : Nat) : Int) := by omega
            have r1 : inR ((U.length : Int) + ((R.length : Int) + 1)) := by constructor <;> omega
            have r2 : inR (324 * f i) := by constructor <;> omega
            have r3 : inR (324 * f i + cR w d z) := by constructor <;> omega
            refine kW_go ok_X12_goOn [2, 4] 60 ?_
            refine ⟨r1, hby, r2, r3, hcb, r2, r3, hcb, hcb, by constructor <;> omega, ?_⟩
            obtain ⟨m3, hm3⟩ : ∃ m3, m3 = mset (mset m2 84 ((U.length : Int) + ((R.length : Int) + 1)) (cR w d z)) 72 (324 * f i + cR w d z) (kor (m2 72 (324 * f i + cR w d z)) 4) := ⟨_, rfl⟩
            have e72 : ∀ x, m3 72 x = if x = 324 * f i + cR w d z then kor (m2 72 (324 * f i + cR w d z)) 4 else m2 72 x := fun x => by rw [hm3, k_mset_at, k_mset_ne (show (72 : Nat) ≠ 84 by decide)]
            have e84 : ∀ x, m3 84 x = if x = (U.length : Int) + ((R.length : Int) + 1) then cR w d z else m2 84 x := fun x => by rw [hm3, k_mset_ne (show (84 : Nat) ≠ 72 by decide)]; exact k_mset_at
            have eo3 : ∀ o, o ≠ 72 → o ≠ 84 → m3 o = m2 o := fun o a b => by rw [hm3, k_mset_ne a, k_mset_ne b]
            have hrel3 : RelG w d l (wM c (mkF f (UL U i (z :: h :: R)))) m3 := by
              have hr2 : RelG w d l (wM c (mkF f (UL U i (h :: R)))) (mset m2 84 ((U.length : Int) + ((R.length : Int) + 1)) (cR w d z)) := RelG_same hS2.rel (fun o ho => k_mset_ne ho)
              have := RelG_mark hD (mkF_8 hB (show i + 1 ≤ A by omega) hULi) hr2 (show 0 ≤ f i ∧ f i < 8 by omega) hzi
              rw [hm3]
              exact this
            have hS3 : RS w d l s A c f (UL U i (z :: h :: R)) m3 := ⟨hrel3, by rw [eo3 54 (by decide) (by decide)]; exact hS2.gone, by rw [eo3 54 (by decide) (by decide)]; exact hS2.pr, by rw [eo3 64 (by decide) (by decide)]; exact hS2.pin⟩
            have hLR3 : ∀ x ∈ z :: h :: R, x = (layY w d l c s f).a i ∨ x = (layY w d l c s f).t i ∨ (layY w d l c s f).B i x := fun x hx => by
              rcases List.mem_cons.mp hx with e | e
              · rw [e]
                rcases hop with a | a | a
                · exact Or.inl a
                · exact Or.inr (Or.inl a)
                · exact Or.inr (Or.inr a.1)
              · exact hLR x e
            have hRw3 : Rw w d m3 (U.length : Int) (z :: h :: R) := by
              refine ⟨?_, Rw_same (fun j a b => ?_) hrwm⟩
              · rw [e84, List.length_cons, if_pos (by omega)]
              · rw [List.length_cons] at b
                rw [e84, if_neg (by omega)]
            have hcall := IH q' hq' m3 i v (U.length : Int) ((R.length : Int) + 1 + 1) z U (h :: R) hik hi hS3 hv hU hDj2 hLR3 hRw3 (by rw [List.length_cons]; omega) rfl (by rw [List.length_cons]; omega)
            rw [hm3] at hcall
            refine kCall_mono hcall (by omega) ?_
            rw [← hm3]
            rintro _ m4 ⟨hres, k1, k2⟩
            have l1 : ∀ o, o ≠ 84 → mset m4 72 (324 * f i + cR w d z) (m2 72 (324 * f i + cR w d z)) o = mm o := by
              intro o ho
              by_cases e : o = 72
              · subst e
                funext x
                rw [k_mset_at]
                by_cases ex : x = 324 * f i + cR w d z
                · rw [if_pos ex, f1 72 (by decide), ex]
                · rw [if_neg ex, k1 72 (by decide), e72, if_neg ex, f1 72 (by decide)]
              · rw [k_mset_ne e, k1 o ho, eo3 o e ho]
                exact f1 o ho
            have l2 : ∀ j, 0 ≤ j → j < (U.length : Int) + ((R.length : Int) + 1) → mset m4 72 (324 * f i + cR w d z) (m2 72 (324 * f i + cR w d z)) 84 j = mm 84 j := by
              intro j a b
              rw [k_mset_ne (show (84 : Nat) ≠ 72 by decide), k2 j a (by omega), e84, if_neg (by omega)]
              exact f2 j a b
            rcases hres with ⟨hg, rfl⟩ | ⟨hg, rfl⟩
            · refine ⟨r2, r3, hcb, ?_⟩
              exact And.intro (fun h => absurd h (by decide)) (fun _ => hfin1 (mset m4 72 (324 * f i + cR w d z) (m2 72 (324 * f i + cR w d z))) (hGi.mpr ⟨z, hsz, hOp, hg⟩) l1 l2)
            · refine ⟨r2, r3, hcb, ?_⟩
              exact And.intro (fun _ => hnx (mset m4 72 (324 * f i + cR w d z) (m2 72 (324 * f i + cR w d z))) _ _ _ l1 l2 (fun _ q => hg q.2)) (fun h => absurd rfl h)
          · exact And.intro (fun h => absurd rfl h) (fun _ => hnx m2 _ _ _ f1 f2 (fun _ q => hpl ⟨fun w => (List.mem_cons.mp w).elim (fun w => hst h (by rw [w] at hsz; exact hsz)) q.1.2.1, q.1.2.2⟩))
        · refine And.intro (fun _ => hnx m2 _ _ _ f1 f2 (fun _ q => hfr ?_)) (fun h => absurd rfl h)
          exact (ref_fr h8.2 hB.hF hia hUin (hB.sol i hi hia.2 z hzi) hzi (fun w => (List.mem_cons.mp w).elim (fun w => hst h (by rw [w] at hsz; exact hsz)) q.1.2.1)).mpr q.1.1
    have := loop 6 0 mm none none none (by omega) (by omega) (fun _ _ => rfl) (fun _ _ _ => rfl) (fun e' a b => by omega)
    rw [← hrow] at this
    exact this
  · have heq : mm 84 ((U.length : Int) + ((R.length : Int) + 1) - 1) = mm 64 (4 * f i + 1) := heq
    rw [hrow, (hS.pin i hi hia.2).2] at heq
    have hht := cR_inj hD hh htin heq
    have hGF : G ↔ FA (layY w d l c s f) k (i + 1) (UL U i (h :: R)) := by
      rw [hG, hht]
      exact GO_at
    refine ⟨by constructor <;> omega, ?_⟩
    have hlenU : (U.length : Int) + ((R.length : Int) + 1) = ((UL U i (h :: R)).length : Int) := by
      unfold UL
      rw [List.length_append, List.length_map, List.length_cons]
      omega
    refine kCall_mono (hF mm (i + 1) _ _ (UL U i (h :: R)) (by omega) (by omega) hS (SetI_next hB hia hv) (UB_in hi hU (fun x hx => ⟨hRin x hx, hLR x hx⟩)) (Dj_done hDj) hlenU) (by omega) ?_
    rintro _ m4 ⟨hres, k1, k2⟩
    rcases hres with ⟨hg, rfl⟩ | ⟨hg, rfl⟩
    · exact hfin1 m4 (hGF.mpr hg) k1 k2
    · exact hfin0 m4 (fun q => hg (hGF.mp q)) k1 k2
theorem GO_all {X : Xv} {w d l s A : Int} {c : Mem} {f : Int → Int} (hN : w * d * l = (nC X : Int)) (hB : RB w d l s A c f) {k : Nat} (hF : FAc X w d l s A c f k) : ∀ q, GOc X w d l s A c f k q := by
  intro q
  induction q with
  | zero => exact GO_one hN hB hF (fun q' h => by omega)
  | succ q ih => exact GO_one hN hB hF (fun q' h => by rw [show q' = q by omega]; exact ih)
set_option maxRecDepth 100000 in
theorem FA_all {X : Xv} {w d l s A : Int} {c : Mem} {f : Int → Int} (hN : w * d * l = (nC X : Int)) (hB : RB w d l s A c f) : ∀ k, FAc X w d l s A c f k := by
  have h24 := hB.h24
  intro k
  induction k with
  | zero =>
    intro mm i v b U hik hi hS hv hU hDj hb
    rw [show i = A by omega] at hv
    have hv0 := SetI_end hv
    subst hv0
    refine kCall_ofT ok_X12_findAll rfl (Nat.le_of_ble_eq_true rfl) (fun T hT => ?_)
    refine kW_go ok_X12_findAll [] 20 ?_
    exact And.intro (fun h => absurd rfl h) (fun _ => hT _ _ ⟨Or.inr rfl, Or.inl ⟨trivial, rfl⟩, fun _ _ => rfl, fun _ _ _ => rfl⟩)
  | succ k ih =>
    intro mm i v b U hik hi hS hv hU hDj hb
    have hia : 0 ≤ i ∧ i < A := ⟨hi, by omega⟩
    have h8 := hB.hs.1
    have hfi := (hB.hF.2.1 i hi hia.2).1
    obtain ⟨hz, hv0⟩ := SetI_ntz hB hia hv
    have hain : inC w d l (c 14 (f i * 4 + 0)) := (hB.lo.pin i hi hia.2).1
    have hpi := (hS.pin i hi hia.2).1
    have hDj2 : Dj w d l U [c 14 (f i * 4 + 0)] := Dj_cons hDj hain (Lay_fresh hB.lo hia hU (Or.inl rfl)) (by simp)
    have hlen := Dj_len hN hDj2
    rw [List.length_singleton] at hlen
    have hUi : ∀ u ∈ U, 0 ≤ u.1 ∧ u.1 < i := fun u hu => (hU u hu).1
    refine kCall_ofT ok_X12_findAll rfl (Nat.le_of_ble_eq_true rfl) (fun T hT => ?_)
    refine kW_go ok_X12_findAll [] 40 ?_
    refine And.intro (fun _ => ?_) (fun h => absurd h hv0)
    refine kCall_mono (c_ntz (eX X) mm v hv.1.1 hv.1.2) (by omega) ?_
    rw [hz]
    rintro _ mm ⟨rfl, rfl⟩
    have e1 : ∀ o, o ≠ 84 → mset mm 84 b (mm 64 (4 * f i)) o = mm o := fun o ho => k_mset_ne ho
    have hS2 := RS_same hS e1
    have hS3 : RS w d l s A c f (UL U i [c 14 (f i * 4 + 0)]) (mset mm 84 b (mm 64 (4 * f i))) := ⟨RelG_pin (mkF_8 hB (show i ≤ A by omega) hUi) hS2.rel (show 0 ≤ f i ∧ f i < 8 by omega) ((hB.sol i hi hia.2 _ hain).mpr (Or.inl rfl)), hS2.gone, hS2.pr, hS2.pin⟩
    refine ⟨by constructor <;> omega, by constructor <;> omega, by constructor <;> omega, ?_⟩
    refine kCall_mono (GO_all hN hB ih (23 - U.length) (mset mm 84 b (mm 64 (4 * f i))) i v b 1 (c 14 (f i * 4 + 0)) U [] (by omega) hi hS3 hv hU hDj2 (fun x hx => Or.inl (List.mem_singleton.mp hx)) ⟨?_, trivial⟩ (by rw [List.length_nil]; omega) hb (by rw [List.length_nil]; omega)) (by omega) ?_
    · rw [List.length_nil, k_mset_at, if_pos (by omega)]
      exact hpi
    rintro _ m3 ⟨hres, k1, k2⟩
    have l1 : ∀ o, o ≠ 84 → m3 o = mm o := fun o ho => by rw [k1 o ho]; exact e1 o ho
    have l2 : ∀ j, 0 ≤ j → j < b → m3 84 j = mm 84 j := fun j a b' => by rw [k2 j a (by omega), k_mset_at, if_neg (by omega)]
    rcases hres with ⟨hg, rfl⟩ | ⟨hg, rfl⟩
    · exact hT _ _ ⟨Or.inr rfl, Or.inl ⟨hg, rfl⟩, l1, l2⟩
    · exact hT _ _ ⟨Or.inl rfl, Or.inr ⟨hg, rfl⟩, l1, l2⟩
