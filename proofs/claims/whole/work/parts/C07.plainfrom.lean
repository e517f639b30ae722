/-! TOGETHER, the reference: the search -/
def Rw (w d : Int) (mm : Mem) (b : Int) : List Int → Prop
  | [] => True
  | x :: L => mm 84 (b + (L.length : Int)) = cR w d x ∧ Rw w d mm b L
theorem Rw_same {w d b : Int} {m m' : Mem} : ∀ {L : List Int}, (∀ j, b ≤ j → j < b + (L.length : Int) → m' 84 j = m 84 j) → Rw w d m b L → Rw w d m' b L
  | [], _, _ => trivial
  | x :: L, h, hw => ⟨by rw [h _ (by omega) (by rw [List.length_cons]; omega)]; exact hw.1, Rw_same (fun j a c => h j a (by rw [List.length_cons]; omega)) hw.2⟩
theorem Rw_at {w d b : Int} {m : Mem} : ∀ {L : List Int}, Rw w d m b L → ∀ p : Int, 0 ≤ p → p < (L.length : Int) → ∃ x, x ∈ L ∧ m 84 (b + p) = cR w d x ∧ (p + 1 < (L.length : Int) → x ∈ L.tail)
  | [], _, p, h0, h1 => by rw [List.length_nil] at h1; omega
  | x :: L, h, p, h0, h1 => by
    rw [List.length_cons] at h1 ⊢
    by_cases e : p = (L.length : Int)
    · exact ⟨x, List.mem_cons_self, by rw [e]; exact h.1, fun q => by omega⟩
    · obtain ⟨y, y1, y2, -⟩ := Rw_at h.2 p h0 (by omega)
      exact ⟨y, List.mem_cons_of_mem _ y1, y2, fun _ => y1⟩
theorem Rw_of {w d b : Int} {m : Mem} : ∀ {L : List Int}, Rw w d m b L → ∀ x ∈ L, ∃ p : Int, (0 ≤ p ∧ p < (L.length : Int)) ∧ m 84 (b + p) = cR w d x
  | [], _, x, h => by cases h
  | y :: L, h, x, hx => by
    rw [List.length_cons]
    rcases List.mem_cons.mp hx with e | e
    · exact ⟨(L.length : Int), by omega, by rw [e]; exact h.1⟩
    · obtain ⟨p, p1, p2⟩ := Rw_of h.2 x e
      exact ⟨p, by omega, p2⟩
theorem c_X12_isPlainFrom (X : Xv) (m : Mem) {w d l : Int} (hd : dimM m w d l) (y b : Int) (h : Int) (R : List Int) (hy : inC w d l y) (hin : ∀ x ∈ h :: R, inC w d l x) (hb : 0 ≤ b ∧ b + (R.length : Int) + 1 ≤ 300) (hR : Rw w d m b (h :: R)) : kCall (eX X) 4 M_X12_isPlainFrom.1 [vR 54, vI (cR w d y), vI b, vI ((R.length : Int) + 1)] m (bP (y ∉ h :: R ∧ ∀ z ∈ R, ¬ stM w d l z y) m) := by
  have hD : okD w d l := hd.2.2.2
  refine kCall_ofT ok_X12_isPlainFrom rfl (Nat.le_of_ble_eq_true rfl) (fun T hT => ?_)
  have hno : ¬ (y ∉ h :: R ∧ ∀ z ∈ R, ¬ stM w d l z y) → T (some (vI 0)) m := fun q => hT _ _ ⟨Or.inl rfl, Or.inr ⟨q, rfl⟩, rfl⟩
  have hlen : ((h :: R).length : Int) = (R.length : Int) + 1 := by rw [List.length_cons]; omega
  have outer : ∀ (k : Nat) (p : Int) (x5 : Option AV), p + k = (R.length : Int) + 1 → 0 ≤ p → (∀ p', 0 ≤ p' → p' < p → ∀ x, inC w d l x → m 84 (b + p') = cR w d x → x ≠ y ∧ (p' < (R.length : Int) → ¬ stM w d l x y)) → kW (eX X) 3 M_X12_isPlainFrom T 1 [some (vR 54), some (vI (cR w d y)), some (vI b), some (vI ((R.length : Int) + 1)), some (vI (b + p)), x5] [] m := by
    intro k
    induction k with
    | zero =>
      intro p x5 hk hp hI
      refine kW_go ok_X12_isPlainFrom [1] 20 ?_
      refine ⟨by constructor <;> omega, fun _ => ?_, fun h => absurd h (by omega)⟩
      refine hT _ _ ⟨Or.inr rfl, Or.inl ⟨⟨fun q => ?_, fun z hz hs => ?_⟩, rfl⟩, rfl⟩
      · obtain ⟨p', p1, p2⟩ := Rw_of hR y q
        exact (hI p' p1.1 (by omega) y hy p2).1 rfl
      · obtain ⟨p', p1, p2⟩ := Rw_of hR.2 z hz
        exact (hI p' p1.1 (by omega) z (hin z (List.mem_cons_of_mem _ hz)) p2).2 p1.2 hs
    | succ k ih =>
      intro p x5 hk hp hI
      obtain ⟨x, hx, hrx, htl⟩ := Rw_at hR p hp (by omega)
      rw [hlen] at htl
      have hxi := hin x hx
      have hbp : 0 ≤ b + p ∧ b + p < ((324 : Nat) : Int) := by omega
      -- to the next cell of the row
      have hnext : ∀ (y5 : Option AV), x ≠ y → (p < (R.length : Int) → ¬ stM w d l x y) → kW (eX X) 3 M_X12_isPlainFrom T 5 [some (vR 54), some (vI (cR w d y)), some (vI b), some (vI ((R.length : Int) + 1)), some (vI (b + p)), y5] [] m := by
        intro y5 h1 h2
        refine kW_go ok_X12_isPlainFrom [1] 20 ?_
        refine ⟨by constructor <;> omega, ?_⟩
        rw [show b + p + 1 = b + (p + 1) by omega]
        refine ih (p + 1) _ (by omega) (by omega) (fun p' a c x' hx' e => ?_)
        by_cases e' : p' = p
        · subst e'
          rw [hrx] at e
          have := cR_inj hD hxi hx' e
          subst this
          exact ⟨h1, h2⟩
        · exact hI p' a (by omega) x' hx' e
      refine kW_go ok_X12_isPlainFrom [1, 3, 5] 30 ?_
      refine ⟨by constructor <;> omega, fun h => absurd h (by omega), fun _ => ⟨hbp, ?_⟩⟩
      refine And.intro (fun hne => ?_) (fun heq => ?_)
      · have hxy : x ≠ y := fun e => hne (by show m 84 (b + p) = cR w d y; rw [hrx, e])
        have inner : ∀ (q : Nat) (e : Int), e + q = 6 → 0 ≤ e → (∀ e', 0 ≤ e' → e' < e → nx w d l x e' ≠ -1 → nx w d l x e' ≠ y) → kW (eX X) 3 M_X12_isPlainFrom T 3 [some (vR 54), some (vI (cR w d y)), some (vI b), some (vI ((R.length : Int) + 1)), some (vI (b + p)), some (vI e)] [] m := by
          intro q
          induction q with
          | zero =>
            intro e hq he hI2
            refine kW_go ok_X12_isPlainFrom [3, 5] 20 ?_
            refine ⟨fun _ => hnext _ hxy (fun _ => ?_), fun h => absurd h (by omega)⟩
            rintro ⟨k', k1, k2, k3⟩
            exact hI2 k' k1.1 (by omega) k2 k3
          | succ q ihq =>
            intro e hq he hI2
            refine kW_go ok_X12_isPlainFrom [3, 5] 30 ?_
            refine ⟨fun h => absurd h (by omega), fun _ => ⟨by constructor <;> omega, by constructor <;> omega, fun hl => hnext _ hxy (fun q => by omega), fun hl => ⟨hbp, ?_⟩⟩⟩
            have hc := c_X12_moved X m hd x e hxi
            rw [← hrx] at hc
            refine kCall_mono hc (Nat.le_of_ble_eq_true rfl) ?_
            rintro r m2 ⟨hr, rfl⟩
            by_cases hn : nx w d l x e = -1
            · rw [show mR w d l x e = -1 from if_pos hn] at hr
              subst hr
              have h0 := (cR_geo hD hy).1.1
              refine And.intro (fun _ => ⟨by constructor <;> omega, ihq (e + 1) (by omega) (by omega) (fun e' a c z => ?_)⟩) (fun h => absurd (show (-1 : Int) = cR w d y from h) (by omega))
              by_cases ee : e' = e
              · rw [ee] at z; exact absurd hn z
              · exact hI2 e' a (by omega) z
            · rw [show mR w d l x e = cR w d (nx w d l x e) from if_neg hn] at hr
              subst hr
              refine And.intro (fun hne2 => ⟨by constructor <;> omega, ihq (e + 1) (by omega) (by omega) (fun e' a c z => ?_)⟩) (fun heq2 => hno (fun z => ?_))
              · by_cases ee : e' = e
                · rw [ee]
                  exact fun z => hne2 (by rw [z])
                · exact hI2 e' a (by omega) z
              · have heq2 : cR w d (nx w d l x e) = cR w d y := heq2
                exact z.2 x (htl (by omega)) ⟨e, by omega, hn, cR_inj hD (nx_in hn).1 hy heq2⟩
        exact inner 6 0 (by omega) (by omega) (fun e' a c => by omega)
      · have heq : m 84 (b + p) = cR w d y := heq
        rw [hrx] at heq
        exact hno (fun z => z.1 (by rw [← cR_inj hD hxi hy heq]; exact hx))
  refine kW_go ok_X12_isPlainFrom [1] 20 ?_
  have := outer (R.length + 1) 0 none (by omega) (by omega) (fun p' a c => by omega)
  rw [Int.add_zero] at this
  exact this
