/-! the reference goes along the first of the least rows -/
theorem row_le358 {w d l mv st vi be : Int} {ex : Int → Int} {n : Int} {m : Mem} {F J : Int → Prop} (hR : RWf w d l mv st vi be ex n m) : ∀ {ks : List Int} {x dir C : Int}, row w d l mv F J (csF st vi ex) be ks x dir C → C ≤ 358 * (ks.length : Int)
  | [], x, dir, C, h => by rw [h.2]; simp
  | k :: ks, x, dir, C, h => by
    have g1 := row_le358 hR h.2.2.2.2
    have g2 := (wtR_in hR (dir := dir) (k := k) (nx_in h.2.2.2.1).1).2
    simp only [List.length_cons]
    omega
/-- the weights of a cell are its least row's -/
theorem ws_up {w d l mv st vi be : Int} {ex : Int → Int} {n : Int} {c m : Mem} {F J : Int → Prop} (hD : okD w d l) (hR : RWf w d l mv st vi be ex n c) (hF : ∀ x, inC w d l x → (m 80 (cR w d x) ≠ 0 ↔ F x)) (hJF : ∀ x, J x → F x) (hW : wsOk w d l mv F J (csF st vi ex) be m) (hA : ∀ x dir, inC w d l x → (0 ≤ dir ∧ dir < 5) → wsAt w d l mv F J (csF st vi ex) be m x dir) : ∀ {ks : List Int} {x dir C : Int}, inC w d l x → (0 ≤ dir ∧ dir < 5) → row w d l mv F J (csF st vi ex) be ks x dir C → Ls w d l mv F J (csF st vi ex) be x dir C ks.length → stl w d m x dir ≤ 1000 * C + (ks.length : Int)
  | [], x, dir, C, hx, hd, hr, hL => by
    rw [hW.2.2 x dir hx hd hr.1, hr.2]
    simp
  | k :: ks, x, dir, C, hx, hd, hr, hL => by
    have hcs := RWf_cs hR
    have hT := Ls_tail hL hr
    obtain ⟨r1, r2, r3, r4, r5⟩ := hr
    have hyi := (nx_in r4).1
    have hdr := dr_in hd r3.1 (k := k)
    have ih := ws_up hD hR hF hJF hW hA hyi hdr r5 hT
    have hsh := Ls_short hcs.1 hcs.2 hD hyi hT
    have hle := row_le358 hR r5
    have hFy : F (nx w d l x k) := by
      cases ks with
      | nil => exact hJF _ r5.1
      | cons k' ks => exact r5.2.1
    have := hA x dir hx hd r1 r2 k ⟨r3, r4, (hF _ hyi).mpr hFy, by omega⟩
    simp only [List.length_cons]
    omega
theorem ws_key {w d l mv st vi be : Int} {ex : Int → Int} {n : Int} {c m : Mem} {F J : Int → Prop} (hD : okD w d l) (hR : RWf w d l mv st vi be ex n c) (hF : ∀ x, inC w d l x → (m 80 (cR w d x) ≠ 0 ↔ F x)) (hJF : ∀ x, J x → F x) (hW : wsOk w d l mv F J (csF st vi ex) be m) (hA : ∀ x dir, inC w d l x → (0 ≤ dir ∧ dir < 5) → wsAt w d l mv F J (csF st vi ex) be m x dir) {x dir C : Int} {q : Nat} (hx : inC w d l x) (hd : 0 ≤ dir ∧ dir < 5) (hL : Ls w d l mv F J (csF st vi ex) be x dir C q) : stl w d m x dir = 1000 * C + q ∧ (0 ≤ C ∧ C ≤ 115992) ∧ q < 324 := by
  have hcs := RWf_cs hR
  have hsh := Ls_short hcs.1 hcs.2 hD hx hL
  obtain ⟨⟨ks, rfl, hr⟩, hmin⟩ := id hL
  have hup := ws_up hD hR hF hJF hW hA hx hd hr hL
  have hle := row_le358 hR hr
  have hge := row_ge hcs.1 hcs.2 hr
  refine ⟨?_, by omega, hsh⟩
  rcases hW.2.1 x dir hx hd with z | ⟨ks', C', r1, r2⟩
  · omega
  · have := hmin ks' C' r1
    unfold lx at this
    omega
theorem ws_lds {w d l mv st vi be : Int} {ex : Int → Int} {n : Int} {c m : Mem} {F J : Int → Prop} (hD : okD w d l) (hR : RWf w d l mv st vi be ex n c) (hF : ∀ x, inC w d l x → (m 80 (cR w d x) ≠ 0 ↔ F x)) (hJF : ∀ x, J x → F x) (hW : wsOk w d l mv F J (csF st vi ex) be m) (hA : ∀ x dir, inC w d l x → (0 ≤ dir ∧ dir < 5) → wsAt w d l mv F J (csF st vi ex) be m x dir) {x dir C : Int} {q : Nat} (hx : inC w d l x) (hd : 0 ≤ dir ∧ dir < 5) (hL : Ls w d l mv F J (csF st vi ex) be x dir C q) (hnJ : ¬ J x) {k : Int} (hk : 0 ≤ k ∧ k < mv) : lds w d l mv F J (csF st vi ex) be x dir k ↔ (nx w d l x k ≠ -1 ∧ F (nx w d l x k) ∧ stl w d m (nx w d l x k) (dr dir k) < 1000000000 ∧ 1000 * wt (csF st vi ex) be dir k (nx w d l x k) + 1 + stl w d m (nx w d l x k) (dr dir k) = stl w d m x dir) := by
  have hdr := dr_in hd hk.1 (k := k)
  obtain ⟨e1, e2, e3⟩ := ws_key hD hR hF hJF hW hA hx hd hL
  constructor
  · rintro ⟨-, h2, C1, n1, C2, n2, h3, h4, h5, h6⟩
    obtain ⟨rfl, rfl⟩ := Ls_one hL h3
    have hyi := (nx_in h2).1
    obtain ⟨f1, f2, f3⟩ := ws_key hD hR hF hJF hW hA hyi hdr h4
    have hFy : F (nx w d l x k) := by
      obtain ⟨⟨ks, -, hr⟩, -⟩ := h4
      cases ks with
      | nil => exact hJF _ hr.1
      | cons k' ks => exact hr.2.1
    exact ⟨h2, hFy, by omega, by omega⟩
  · rintro ⟨h2, hFy, h3, h4⟩
    have hyi := (nx_in h2).1
    rcases hW.2.1 _ _ hyi hdr with z | ⟨ks', C', q4, q5⟩
    · omega
    · obtain ⟨k0, ks0, -, hr0⟩ := Ls_notJ hL hnJ
      have hFx := hr0.2.1
      have hcons : ∀ {ks : List Int} {C3 : Int}, row w d l mv F J (csF st vi ex) be ks (nx w d l x k) (dr dir k) C3 → lx C q (C3 + wt (csF st vi ex) be dir k (nx w d l x k)) (ks.length + 1) := by
        intro ks C3 hr
        exact hL.2 (k :: ks) _ ⟨hnJ, hFx, hk, h2, by rw [show C3 + wt (csF st vi ex) be dir k (nx w d l x k) - wt (csF st vi ex) be dir k (nx w d l x k) = C3 by omega]; exact hr⟩
      have h5 := hcons q4
      unfold lx at h5
      refine ⟨hk, h2, C, q, C', ks'.length, hL, ⟨⟨ks', rfl, q4⟩, fun ks3 C3 h3 => ?_⟩, by omega, by omega⟩
      have h6 := hcons h3
      unfold lx at h6 ⊢
      omega
theorem c_X12_leads (X : Xv) (c m : Mem) {w d l mv st vi be : Int} {ex : Int → Int} {n : Int} {F J : Int → Prop} (hd : dimM m w d l) (hn : 0 ≤ n ∧ n < 8) (hR : RWf w d l mv st vi be ex n m) (hF : ∀ x, inC w d l x → (m 80 (cR w d x) ≠ 0 ↔ F x)) (hJF : ∀ x, J x → F x) (hW : wsOk w d l mv F J (csF st vi ex) be m) (hA : ∀ x dir, inC w d l x → (0 ≤ dir ∧ dir < 5) → wsAt w d l mv F J (csF st vi ex) be m x dir) {x dir C : Int} {q : Nat} (hx : inC w d l x) (hdir : 0 ≤ dir ∧ dir < 5) (hL : Ls w d l mv F J (csF st vi ex) be x dir C q) (hnJ : ¬ J x) (k : Int) (hk : 0 ≤ k ∧ k < mv) : kCall (eX X) 4 M_X12_leads.1 [vR 54, vI n, vI (cR w d x), vI dir, vI k] m (bP (lds w d l mv F J (csF st vi ex) be x dir k) m) := by
  have hD : okD w d l := hd.2.2.2
  have hiff := ws_lds hD hR hF hJF hW hA hx hdir hL hnJ hk
  have hdr := dr_in hdir hk.1 (k := k)
  refine kCall_ofT ok_X12_leads rfl (Nat.le_of_ble_eq_true rfl) (fun T hT => ?_)
  have hno : ¬ lds w d l mv F J (csF st vi ex) be x dir k → T (some (vI 0)) m := fun h => hT _ _ ⟨Or.inl rfl, Or.inr ⟨h, rfl⟩, rfl⟩
  refine kW_go ok_X12_leads [4] 20 ?_
  refine kCall_mono (c_X12_moved X m hd x k hx) (Nat.le_of_ble_eq_true rfl) ?_
  rintro _ m1 ⟨rfl, rfl⟩
  by_cases hne : nx w d l x k = -1
  · have e : mR w d l x k = -1 := if_pos hne
    rw [e]
    exact And.intro (fun _ => hno (fun z => z.2.1 hne)) (fun h => absurd rfl h)
  · have e : mR w d l x k = cR w d (nx w d l x k) := if_neg hne
    have hyi := (nx_in hne).1
    have hg := cR_geo hD hyi
    obtain ⟨y, hy⟩ : ∃ y, nx w d l x k = y := ⟨_, rfl⟩
    rw [e]
    rw [hy] at hyi hg hiff ⊢
    have hstb : 0 ≤ 5 * cR w d y + dr dir k ∧ 5 * cR w d y + dr dir k < ((1620 : Nat) : Int) := stl_idx hD hyi hdr
    have hstx : 0 ≤ 5 * cR w d x + dir ∧ 5 * cR w d x + dir < ((1620 : Nat) : Int) := stl_idx hD hx hdir
    have hb := hW.1 _ hstb
    have hw := wtR_in hR (dir := dir) (k := k) hyi
    have hs : stl w d m1 y (dr dir k) = m1 79 (5 * cR w d y + dr dir k) := rfl
    have hsx : stl w d m1 x dir = m1 79 (5 * cR w d x + dir) := rfl
    refine And.intro (fun h => absurd h (by omega)) (fun _ => ⟨hg.1, And.intro (fun ho => ?_) (fun ho => hno (fun z => (hF y hyi).mpr (hiff.mp z).2.1 ho))⟩)
    have hFy := (hF y hyi).mp ho
    have hne' : y ≠ -1 := by rw [← hy]; exact hne
    have b4 : kW (eX X) 3 M_X12_leads T 4 [some (vR 54), some (vI n), some (vI (cR w d x)), some (vI dir), some (vI k), some (vI (cR w d y)), none] [vI (dr dir k), vI (5 * cR w d y), vR 79] m1 := by
      refine kW_go ok_X12_leads [] 20 ?_
      refine ⟨by constructor <;> omega, hstb, And.intro (fun h => hno (fun z => ?_)) (fun hlt => ?_)⟩
      · have h : 1000000000 ≤ m1 79 (5 * cR w d y + dr dir k) := h
        have := (hiff.mp z).2.2.1
        omega
      · have hlt : m1 79 (5 * cR w d y + dr dir k) < 1000000000 := hlt
        refine kCall_mono (c_X12_costOf X m1 hD hn hR k dir y hyi) (Nat.le_of_ble_eq_true rfl) ?_
        rintro _ m2 ⟨rfl, rfl⟩
        refine ⟨by constructor <;> omega, by constructor <;> omega, by constructor <;> omega, hstx, And.intro (fun h => hno (fun z => h ?_)) (fun h => hT _ _ ⟨Or.inr rfl, Or.inl ⟨hiff.mpr ⟨hne', hFy, by rw [hs]; omega, ?_⟩, rfl⟩, rfl⟩)⟩
        · have := (hiff.mp z).2.2.2
          rw [hs, hsx] at this
          exact this
        · rw [hs, hsx]
          exact h
    refine ⟨by constructor <;> omega, And.intro (fun hk4 => ?_) (fun hk4 => ?_)⟩
    · have : dr dir k = dir := by unfold dr; rw [if_neg (show ¬ k < 4 from by have hk4 : 4 ≤ k := hk4; omega)]
      rw [this] at b4
      exact b4
    · have : dr dir k = k := by unfold dr; rw [if_pos hk4]
      rw [this] at b4
      exact b4
