/-! whether rows can be laid: reaching through free cells -/
def stR (w d l : Int) (F : Int → Prop) (v a b : Int) : Prop := ∃ k : Int, (0 ≤ k ∧ k < v) ∧ nx w d l a k = b ∧ b ≠ -1 ∧ F b
theorem opp_v {v k : Int} (hv : v = 4 ∨ v = 6) (hk : 0 ≤ k ∧ k < v) : 0 ≤ oppF k ∧ oppF k < v := by
  have h6 : ∀ i : Fin 6, 0 ≤ oppF (i.val : Int) ∧ oppF (i.val : Int) < 6 ∧ ((i.val : Int) < 4 → oppF (i.val : Int) < 4) := by decide +kernel
  have := k_fin (P := fun k => 0 ≤ oppF k ∧ oppF k < 6 ∧ (k < 4 → oppF k < 4)) h6 hk.1 (by omega)
  omega
theorem stR_in {w d l : Int} {F : Int → Prop} {v a b : Int} (ha : inC w d l a) (h : Rch (stR w d l F v) a b) : inC w d l b := by
  refine Rch_ind (P := fun b => inC w d l b) ?_ ha h
  rintro c e _ ⟨k, hk, rfl, hne, -⟩
  exact (nx_in hne).1
theorem LRw_ex {w d l N n mv : Int} {F : Int → Prop} {cs : Int → Int → Int} {be : Int} (hcs : ∀ k y, 0 ≤ cs k y) (hbe : 0 ≤ be) : ∀ (j : Nat) (p : Int) (c : Mem) (s : Int), ∃ r c', LRw w d l N n mv F cs be j p c s r c'
  | 0, p, c, s => ⟨some s, c, rfl, rfl⟩
  | j + 1, p, c, s => by
    by_cases hj : joi w d l N n c (c 14 (n * 4 + p))
    · obtain ⟨r, c', h⟩ := LRw_ex hcs hbe j (p + 1) c s
      exact ⟨r, c', Or.inl ⟨hj, h⟩⟩
    · by_cases hr : ∃ ks C, row w d l mv F (joi w d l N n c) cs be ks (c 14 (n * 4 + p)) 4 C
      · obtain ⟨ks, C, hr⟩ := hr
        obtain ⟨C0, q, hL⟩ := Ls_ex hcs hbe hr
        obtain ⟨ks0, hp⟩ := pth_ex q hL
        obtain ⟨r, c', h⟩ := LRw_ex hcs hbe j (p + 1) (adP w d l N n ks0 (c 14 (n * 4 + p)) c) (s + C0)
        exact ⟨r, c', Or.inr (Or.inr ⟨hj, C0, q, ks0, hL, hp, h⟩)⟩
      · exact ⟨none, c, Or.inr (Or.inl ⟨hj, fun ks C z => hr ⟨ks, C, z⟩, rfl, rfl⟩)⟩
/-- where all pins can be reached, rows can be laid -/
theorem LRw_can {w d l n mv : Int} {F : Int → Prop} {cs : Int → Int → Int} {be : Int} (hD : okD w d l) (hmv : mv = 4 ∨ mv = 6) : ∀ {j : Nat} {p : Int} {c : Mem} {s : Int} {r : Option Int} {c' : Mem}, inC w d l (c 14 (n * 4)) → (∀ q, (p ≤ q ∧ q < p + j) → Rch (stR w d l F mv) (c 14 (n * 4)) (c 14 (n * 4 + q))) → LRw w d l (w * d * l) n mv F cs be j p c s r c' → r ≠ none
  | 0, p, c, s, r, c', _, _, h => by rw [h.1]; intro z; cases z
  | j + 1, p, c, s, r, c', h0, hq, h => by
    rcases h with ⟨a1, a2⟩ | ⟨a1, a2, a3, a4⟩ | ⟨a1, C, q, ks, a2, a3, a4⟩
    · exact LRw_can hD hmv h0 (fun q hq' => hq q (by omega)) a2
    · exfalso
      have hrow : inC w d l (c 14 (n * 4 + p)) ∧ ∀ dir, ∃ ks C, row w d l mv F (joi w d l (w * d * l) n c) cs be ks (c 14 (n * 4 + p)) dir C := by
        refine Rch_ind (P := fun y => inC w d l y ∧ ∀ dir, ∃ ks C, row w d l mv F (joi w d l (w * d * l) n c) cs be ks y dir C) ?_ ⟨h0, fun dir => ⟨[], 0, Rch_rf, rfl⟩⟩ (hq p (by omega))
        rintro a b ⟨ha, hra⟩ ⟨k, hk, rfl, hne, hF⟩
        have hk6 : 0 ≤ k ∧ k < 6 := by omega
        have hb := (nx_in hne).1
        refine ⟨hb, fun dir => ?_⟩
        by_cases hj : joi w d l (w * d * l) n c (nx w d l a k)
        · exact ⟨[], 0, hj, rfl⟩
        · have hback := nx_opp hD ha hk6 hne
          obtain ⟨ks, C, hr⟩ := hra (dr dir (oppF k))
          refine ⟨oppF k :: ks, C + wt cs be dir (oppF k) (nx w d l (nx w d l a k) (oppF k)), hj, hF, opp_v hmv hk, by rw [hback]; have := ha.1; omega, ?_⟩
          rw [hback, show C + wt cs be dir (oppF k) a - wt cs be dir (oppF k) a = C by omega]
          exact hr
      obtain ⟨ks, C, hr⟩ := hrow.2 4
      exact a2 ks C hr
    · have e14 : adP w d l (w * d * l) n ks (c 14 (n * 4 + p)) c 14 = c 14 := adP_ne (by decide) (by decide) _ _ _
      exact LRw_can hD hmv (by rw [e14]; exact h0) (fun q hq' => by rw [e14]; exact hq q (by omega)) a4
/-- a row's cells are reached from its end -/
theorem row_reach {w d l mv : Int} {F J : Int → Prop} {cs : Int → Int → Int} {be s : Int} (hD : okD w d l) (hmv : mv = 4 ∨ mv = 6) (hJ : ∀ y, J y → Rch (stR w d l F mv) s y) : ∀ {ks : List Int} {x dir C : Int}, inC w d l x → row w d l mv F J cs be ks x dir C → Rch (stR w d l F mv) s x
  | [], x, dir, C, _, h => hJ _ h.1
  | k :: ks, x, dir, C, hx, h => by
    obtain ⟨r1, r2, r3, r4, r5⟩ := h
    have ih := row_reach hD hmv hJ (nx_in r4).1 r5
    have hk6 : 0 ≤ k ∧ k < 6 := by omega
    have hback := nx_opp hD hx hk6 r4
    exact Rch_to ih ⟨oppF k, opp_v hmv r3, hback, by have := hx.1; omega, r2⟩
/-- own moves are among the first so many -/
def ownV (w d l n v : Int) (c : Mem) : Prop := ∀ a b, inC w d l a → stJ w d l (w * d * l) n c a b → ∃ k : Int, (0 ≤ k ∧ k < v) ∧ nx w d l a k = b
theorem ownV_6 {w d l n : Int} {c : Mem} : ownV w d l n 6 c := fun a b _ ⟨k, hk, h1, _⟩ => ⟨k, hk, h1⟩
theorem joi_reach {w d l n v : Int} {F : Int → Prop} {c : Mem} (h0 : inC w d l (c 14 (n * 4))) (hO : ownF w d l (w * d * l) n F c) (hV : ownV w d l n v c) {y : Int} (h : joi w d l (w * d * l) n c y) : Rch (stR w d l F v) (c 14 (n * 4)) y := by
  have : inC w d l y ∧ Rch (stR w d l F v) (c 14 (n * 4)) y := by
    refine Rch_ind (P := fun y => inC w d l y ∧ Rch (stR w d l F v) (c 14 (n * 4)) y) ?_ ⟨h0, Rch_rf⟩ h
    rintro a b ⟨ha, hr⟩ hst
    obtain ⟨k, hk, hb⟩ := hV a b ha hst
    have hF := hO.2 a b ha hst
    obtain ⟨k', -, hb', hne, -⟩ := hst
    exact ⟨by rw [← hb']; exact (nx_in (by rw [hb']; exact hne)).1, Rch_to hr ⟨k, hk, hb, hne, hF⟩⟩
  exact this.2
/-- where rows were laid, all pins can be reached -/
theorem LRw_reach {w d l n mv : Int} {F : Int → Prop} {cs : Int → Int → Int} {be : Int} (hD : okD w d l) (hmv : mv = 4 ∨ mv = 6) : ∀ {j : Nat} {p : Int} {c : Mem} {s : Int} {r : Option Int} {c' : Mem}, inC w d l (c 14 (n * 4)) → (∀ q, (p ≤ q ∧ q < p + j) → inC w d l (c 14 (n * 4 + q))) → ownF w d l (w * d * l) n F c → ownV w d l n mv c → LRw w d l (w * d * l) n mv F cs be j p c s r c' → r ≠ none → ∀ q, (p ≤ q ∧ q < p + j) → Rch (stR w d l F mv) (c 14 (n * 4)) (c 14 (n * 4 + q))
  | 0, p, c, s, r, c', _, _, _, _, _, _ => fun q hq => by omega
  | j + 1, p, c, s, r, c', h0, hpi, hO, hV, h, hr => by
    have hJR : ∀ y, joi w d l (w * d * l) n c y → Rch (stR w d l F mv) (c 14 (n * 4)) y := fun y hy => joi_reach h0 hO hV hy
    rcases h with ⟨a1, a2⟩ | ⟨a1, a2, a3, a4⟩ | ⟨a1, C, q, ks, a2, a3, a4⟩
    · intro q hq
      by_cases hqp : q = p
      · rw [hqp]; exact hJR _ a1
      · exact LRw_reach hD hmv h0 (fun q hq' => hpi q (by omega)) hO hV a2 hr q (by omega)
    · exact absurd a3 hr
    · have e14 : adP w d l (w * d * l) n ks (c 14 (n * 4 + p)) c 14 = c 14 := adP_ne (by decide) (by decide) _ _ _
      have hxi := hpi p (by omega)
      have hrow := (pth_row a3 a2).1
      have hok := row_okm (by omega) hrow
      have hJF : ∀ y, joi w d l (w * d * l) n c y → F y := fun y hy => ownF_joi h0 hO hy
      have hO' := ownF_adP hD rfl (by omega) hJF hxi hO hrow
      have hV' : ownV w d l n mv (adP w d l (w * d * l) n ks (c 14 (n * 4 + p)) c) := by
        intro a b ha hst
        rcases (adP_st hD hxi hok ha).mp hst with hst | hst
        · exact hV a b ha hst
        · -- a move of the row
          have : ∀ {ks : List Int} {x dir C a b : Int}, inC w d l x → row w d l mv F (joi w d l (w * d * l) n c) cs be ks x dir C → pe w d l ks x a b → ∃ k : Int, (0 ≤ k ∧ k < mv) ∧ nx w d l a k = b := by
            intro ks
            induction ks with
            | nil => intro x dir C a b _ _ h; exact h.elim
            | cons k ks ih =>
              intro x dir C a b hx hr h
              obtain ⟨r1, r2, r3, r4, r5⟩ := hr
              rcases h with ⟨rfl, rfl⟩ | ⟨rfl, rfl⟩ | h
              · exact ⟨k, r3, rfl⟩
              · exact ⟨oppF k, opp_v hmv r3, nx_opp hD hx (by omega) r4⟩
              · exact ih (nx_in r4).1 r5 h
          exact this hxi hrow hst
      intro q' hq'
      by_cases hqp : q' = p
      · rw [hqp]; exact row_reach hD hmv hJR hxi hrow
      · have := LRw_reach hD hmv (by rw [e14]; exact h0) (fun q hq => by rw [e14]; exact hpi q (by omega)) hO' hV' a4 hr q' (by omega)
        rw [e14] at this
        exact this
/-- free cells with a net's traces gone -/
theorem frT_rm {w d l n t : Int} {q q' : Int → Prop} {c : Mem} (hn : 0 ≤ n ∧ n < 8) (h9 : c 9 14 ≤ 8) (hq : ¬ q n) (hqq : ∀ o, (0 ≤ o ∧ o < c 9 14) → o ≠ n → (q o ↔ q' o)) {x : Int} (hx : inC w d l x) : frT w d l q c n t x ↔ frT w d l q' (rmT (w * d * l) n c) n t x := by
  have hcu : cuT q c n x ↔ cuT q' (rmT (w * d * l) n c) n x := by
    unfold cuT
    rw [rmT_ne (by decide) (by decide), rmT_bit hn hx (by omega)]
    have : ((n.toNat : Nat) : Int) = n := Int.toNat_of_nonneg hn.1
    simp [this, hq]
  have hcl : clT w d l q c n x ↔ clT w d l q' (rmT (w * d * l) n c) n x := by
    unfold clT aptC
    rw [rmT_ne (o := 9) (by decide) (by decide), rmT_ne (o := 10) (by decide) (by decide), rmT_ne (o := 11) (by decide) (by decide)]
    have key : ∀ o y, (0 ≤ o ∧ o < c 9 14) → o ≠ n → inC w d l y → (cuT q c o y ↔ cuT q' (rmT (w * d * l) n c) o y) := by
      intro o y ho hon hy
      have e : ((o.toNat : Nat) : Int) = o := Int.toNat_of_nonneg ho.1
      unfold cuT
      rw [rmT_ne (by decide) (by decide), rmT_bit hn hy (by omega), hqq o ho hon, e]
      simp [hon]
    constructor
    · rintro h o ho hon ⟨y, y1, y2, y3⟩
      exact h o ho hon ⟨y, y1, (key o y ho hon y1).mpr y2, y3⟩
    · rintro h o ho hon ⟨y, y1, y2, y3⟩
      exact h o ho hon ⟨y, y1, (key o y ho hon y1).mp y2, y3⟩
  unfold frT
  rw [hcu, hcl, rmT_ne (o := 10) (by decide) (by decide), rmT_ne (o := 11) (by decide) (by decide), rmT_ne (o := 15) (by decide) (by decide)]
