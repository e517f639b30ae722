/-! STRETCH: the reference's room is the abstract room -/
theorem pE_ex {w d l : Int} : ∀ (ks : List Int) (a y : Int), ks ≠ [] → y ∈ a :: vis w d l ks a → ∃ k, pE w d l ks a y k
  | [], _, _, h, _ => absurd rfl h
  | κ :: ks, a, y, _, hy => by
    rcases List.mem_cons.mp hy with e | hy
    · exact ⟨κ, Or.inl ⟨e, rfl⟩⟩
    · have hy : y ∈ nx w d l a κ :: vis w d l ks (nx w d l a κ) := hy
      by_cases hks : ks = []
      · rw [hks] at hy
        have e : y = nx w d l a κ := by simpa [vis] using hy
        exact ⟨oppF κ, Or.inr (Or.inl ⟨e, rfl⟩)⟩
      · obtain ⟨k, hk⟩ := pE_ex ks (nx w d l a κ) y hks hy
        exact ⟨k, Or.inr (Or.inr hk)⟩
theorem row_bit {v : Int} (h : 0 ≤ v ∧ v < 64) (hne : v ≠ 0) : ∃ k : Int, (0 ≤ k ∧ k < 6) ∧ bt v k.toNat = true := by
  refine Classical.byContradiction (fun hno => hne ?_)
  refine bt_ext (inR_small (by omega)) (by decide) (fun k hk => ?_)
  rw [bt_zero]
  cases e : bt v k
  · rfl
  · by_cases h6 : k < 6
    · exact absurd ⟨(k : Int), ⟨by omega, by omega⟩, by rw [Int.toNat_natCast]; exact e⟩ hno
    · rw [bt_small (n := 6) (inR_small (by omega)) h.1 h.2 (by omega)] at e
      cases e
/-- net n's copper also in the cells of a set -/
noncomputable def with16 (n : Int) (S : Int → Prop) (e : Mem) : Mem := fun o => if o = 16 then (fun x => @ite Int (S x) (Classical.propDecidable _) (kor (e 16 x) (kshl 1 n)) (e 16 x)) else e o
theorem w16_ne {n : Int} {S : Int → Prop} {e : Mem} {o : Nat} (h : o ≠ 16) : with16 n S e o = e o := by unfold with16; exact if_neg h
theorem w16_y {n : Int} {S : Int → Prop} {e : Mem} {x : Int} (h : S x) : with16 n S e 16 x = kor (e 16 x) (kshl 1 n) := by
  unfold with16
  rw [if_pos rfl]
  exact @if_pos _ (Classical.propDecidable _) h _ _ _
theorem w16_n {n : Int} {S : Int → Prop} {e : Mem} {x : Int} (h : ¬ S x) : with16 n S e 16 x = e 16 x := by
  unfold with16
  rw [if_pos rfl]
  exact @if_neg _ (Classical.propDecidable _) h _ _ _
theorem w16_b {n : Int} {S : Int → Prop} {e : Mem} (hn : 0 ≤ n ∧ n < 8) (x o : Int) (ho : 0 ≤ o ∧ o < 8) : bt (with16 n S e 16 x) o.toNat = true ↔ bt (e 16 x) o.toNat = true ∨ (o = n ∧ S x) := by
  by_cases h : S x
  · rw [w16_y h, bt_kor_bit hn.1 (by omega), Int.toNat_of_nonneg ho.1]
    exact ⟨fun q => q.imp id (fun z => ⟨z, h⟩), fun q => q.imp id (fun z => z.1)⟩
  · rw [w16_n h]
    exact ⟨Or.inl, fun q => q.elim id (fun z => absurd z.2 h)⟩
set_option maxRecDepth 100000 in
theorem st_rel {w d l n q i L0 len : Int} {P K : Int → Int} {U : Int → Prop} {ks : List Int} {c r0 mm : Mem} (hD : okD w d l) (hM : WM w d l c) (hnn : 0 ≤ n ∧ n < c 9 14) (hT : TrL w d l (fun x => c 19 (n * (w * d * l) + x)) q P K) (hcu : ∀ j : Int, (0 ≤ j ∧ j ≤ q) → cuN c n (P j)) (hq : 0 ≤ q) (hB : BI w d l (cuN c n) P L0 i U len ks) (hR0 : RR0 w d l (rmT (w * d * l) n c) r0) (h28 : r0 54 28 = 0) (h30 : r0 54 30 = 0) (hk : RRk w d l (adP w d l (w * d * l) n ks (P 0) (rmT (w * d * l) n c)) (adR w d l n ks (P 0) r0) n) (hW : WFn w d l (adP w d l (w * d * l) n ks (P 0) (rmT (w * d * l) n c)) n) (ht : tsame w d l n (rmT (w * d * l) n c) (adP w d l (w * d * l) n ks (P 0) (rmT (w * d * l) n c))) (hr : rsame n r0 (adR w d l n ks (P 0) r0)) (hm : mkd (fun j => ∃ k : Int, (0 ≤ k ∧ k ≤ q) ∧ j = 324 * n + cR w d (P k)) (adR w d l n ks (P 0) r0) mm) : RelG w d l (with16 n (fun x => ∃ k : Int, (0 ≤ k ∧ k ≤ q) ∧ x = P k) (adP w d l (w * d * l) n ks (P 0) (rmT (w * d * l) n c))) mm ∧ srt (with16 n (fun x => ∃ k : Int, (0 ≤ k ∧ k ≤ q) ∧ x = P k) (adP w d l (w * d * l) n ks (P 0) (rmT (w * d * l) n c))) ∧ with16 n (fun x => ∃ k : Int, (0 ≤ k ∧ k ≤ q) ∧ x = P k) (adP w d l (w * d * l) n ks (P 0) (rmT (w * d * l) n c)) 9 14 = c 9 14 ∧ ∀ y, inC w d l y → ((frT w d l (cntT mm) (with16 n (fun x => ∃ k : Int, (0 ≤ k ∧ k ≤ q) ∧ x = P k) (adP w d l (w * d * l) n ks (P 0) (rmT (w * d * l) n c))) n 0 y ∧ mm 72 (324 * n + cR w d y) = 0) ↔ (frT w d l (fun _ => True) c n 0 y ∧ ¬ U y)) := by
  have h8 := hM.1.2.1
  have hn8 : 0 ≤ n ∧ n < 8 := by omega
  obtain ⟨e0, he0⟩ : ∃ e0, e0 = rmT (w * d * l) n c := ⟨_, rfl⟩
  rw [← he0] at hR0 hk hW ht ⊢
  obtain ⟨e, he⟩ : ∃ e, e = adP w d l (w * d * l) n ks (P 0) e0 := ⟨_, rfl⟩
  obtain ⟨rr, hrr⟩ : ∃ rr, rr = adR w d l n ks (P 0) r0 := ⟨_, rfl⟩
  rw [← he] at hk hW ht ⊢
  rw [← hrr] at hk hr hm
  obtain ⟨S, hS⟩ : ∃ S : Int → Prop, S = fun x => ∃ k : Int, (0 ≤ k ∧ k ≤ q) ∧ x = P k := ⟨_, rfl⟩
  rw [← hS]
  have hSx : ∀ x, S x ↔ ∃ k : Int, (0 ≤ k ∧ k ≤ q) ∧ x = P k := fun x => by rw [hS]
  have hM0 : WM w d l e0 := by rw [he0]; exact WM_rmT hM hn8
  have tc : tsame w d l n c e0 := by rw [he0]; exact rmT_tsame hn8 (fun x hx => (hM.2.2.2 x hx).2)
  have tce := tsame_tr tc ht
  have eo : ∀ o, o ≠ 17 → o ≠ 19 → e o = c o := tce.1
  have hG0 := RR0_RelG hM0.1 hR0
  have wo : ∀ o, o ≠ 16 → with16 n S e o = e o := fun o h => w16_ne h
  have w9 : with16 n S e 9 = c 9 := by rw [wo 9 (by decide)]; exact eo 9 (by decide) (by decide)
  have w10 : with16 n S e 10 = c 10 := by rw [wo 10 (by decide)]; exact eo 10 (by decide) (by decide)
  have w11 : with16 n S e 11 = c 11 := by rw [wo 11 (by decide)]; exact eo 11 (by decide) (by decide)
  have w15 : with16 n S e 15 = c 15 := by rw [wo 15 (by decide)]; exact eo 15 (by decide) (by decide)
  have w17 : with16 n S e 17 = e 17 := wo 17 (by decide)
  have mo : ∀ o, o ≠ 68 → o ≠ 69 → o ≠ 70 → o ≠ 72 → mm o = r0 o := fun o a b f g => by rw [hm.1 o g]; exact hr.1 o a b f g
  have z9 : e0 9 = c 9 := tc.1 9 (by decide) (by decide)
  have z10 : e0 10 = c 10 := tc.1 10 (by decide) (by decide)
  have z11 : e0 11 = c 11 := tc.1 11 (by decide) (by decide)
  have z15 : e0 15 = c 15 := tc.1 15 (by decide) (by decide)
  -- the copper's numbers
  have hcop : ∀ (n' x : Int), (0 ≤ n' ∧ n' < 8) → inC w d l x → (0 ≤ rr 72 (324 * n' + cR w d x) ∧ rr 72 (324 * n' + cR w d x) < 4) ∧ (bt (rr 72 (324 * n' + cR w d x)) 0 = true ↔ bt (e 16 x) n'.toNat = true) ∧ (bt (rr 72 (324 * n' + cR w d x)) 1 = true ↔ bt (e 17 x) n'.toNat = true) := by
    intro n' x hn' hx
    by_cases hne : n' = n
    · rw [hne]; exact hk.2.2.2.1 x hx
    · exact (RRn_other hD hn8 hn' hne ht hr (hR0.2 n' hn')).2.2.2.2.1 x hx
  have hold : ∀ x, inC w d l x → ((∃ k : Int, (0 ≤ k ∧ k ≤ q) ∧ 324 * n + cR w d x = 324 * n + cR w d (P k)) ↔ S x) := by
    intro x hx
    rw [hSx]
    constructor
    · rintro ⟨k, hk, e⟩
      exact ⟨k, hk, cR_inj hD hx (hT.1 k hk) (by omega)⟩
    · rintro ⟨k, hk, e⟩
      exact ⟨k, hk, by rw [e]⟩
  have hmm : ∀ x, inC w d l x → (S x → mm 72 (324 * n + cR w d x) = kor (rr 72 (324 * n + cR w d x)) 4) ∧ (¬ S x → mm 72 (324 * n + cR w d x) = rr 72 (324 * n + cR w d x)) := fun x hx => ⟨fun h => (hm.2 _).1 ((hold x hx).mpr h), fun h => (hm.2 _).2 (fun q => h ((hold x hx).mp q))⟩
  have hother : ∀ n' x, (0 ≤ n' ∧ n' < 8) → n' ≠ n → inC w d l x → mm 72 (324 * n' + cR w d x) = rr 72 (324 * n' + cR w d x) := by
    intro n' x hn' hne hx
    refine (hm.2 _).2 (fun ⟨k, hk, h⟩ => hne ?_)
    have g1 := (cR_geo hD hx).1
    have g2 := (cR_geo hD (hT.1 k hk)).1
    omega
  have hW' := hM.2.2.1 n hn8
  have hP0 := (hB.2.2.2.1 (P 0) List.mem_cons_self).1.2
  have hrow : ∀ y, inC w d l y → ∀ k : Int, (0 ≤ k ∧ k < 6) → (bt (e 19 (n * (w * d * l) + y)) k.toNat = true ↔ pE w d l ks (P 0) y k) := by
    intro y hy k hk
    rw [he, adP_bits ks (P 0) e0 hP0 hB.1 y k hy hk, he0, rmT_row hy, if_pos rfl, bt_zero]
    exact ⟨fun q => q.elim (fun z => by cases z) id, Or.inr⟩
  have hUc : ∀ y, inC w d l y → (bt (e 16 y) n.toNat = true ∨ bt (e 17 y) n.toNat = true ∨ S y) → U y := by
    rintro y hy (h | h | h)
    · rw [eo 16 (by decide) (by decide)] at h
      exact hB.2.2.2.2.1 _ (Or.inl h)
    · obtain ⟨k, hk, hb⟩ := row_bit (hW.1 y hy).1.2 ((hW.1 y hy).2.2.1.mp h)
      exact (hB.2.2.2.1 y (pE_in hD ks (P 0) y k hP0 hB.1 ((hrow y hy k hk).mp hb)).1.1).1.1
    · obtain ⟨k, hk, e⟩ := (hSx y).mp h
      rw [e]
      exact hB.2.2.2.2.1 _ (hcu k hk)
  have hU : ∀ y, inC w d l y → (mm 72 (324 * n + cR w d y) ≠ 0 ↔ U y) := by
    intro y hy
    obtain ⟨v1, v2, v3⟩ := hcop n y hn8 hy
    have h17 := (hW.1 y hy).2.2.1
    constructor
    · intro h
      by_cases hs : S y
      · exact hUc y hy (Or.inr (Or.inr hs))
      · rw [(hmm y hy).2 hs, v4_ne v1, v2, v3] at h
        exact hUc y hy (h.imp id Or.inl)
    · intro h
      by_cases hs : S y
      · rw [(hmm y hy).1 hs]
        exact (kand_43 v1).2.2.2.2.2.2.2
      · rw [(hmm y hy).2 hs, v4_ne v1, v2, v3, eo 16 (by decide) (by decide)]
        by_cases hc : cuN c n y
        · rcases hc with hc | hc
          · exact Or.inl hc
          · exfalso
            obtain ⟨k, hk, hb⟩ := row_bit (hW'.1 y hy).1.2 ((hW'.1 y hy).2.2.1.mp hc)
            have hne : nx w d l y k ≠ -1 := by
              intro z
              have := ((hW'.1 y hy).2.1 k hk z).2
              rw [hb] at this
              cases this
            obtain ⟨j, hj, hj2⟩ := (hT.2.2.2 y k hy hk hne).mp hb
            rcases hj2 with ⟨a, _⟩ | ⟨a, _⟩
            · exact hs ((hSx y).mpr ⟨j, by omega, a.symm⟩)
            · exact hs ((hSx y).mpr ⟨j + 1, by omega, a.symm⟩)
        · rcases hB.2.2.2.2.2.1 y h with z | z
          · exact absurd z hc
          · have hks : ks ≠ [] := by
              intro e
              rw [e] at z
              have e : y = P 0 := by simpa [vis] using z
              rw [e] at hc
              exact hc (hcu 0 ⟨Int.le_refl _, hq⟩)
            obtain ⟨k, hk⟩ := pE_ex ks (P 0) y hks z
            have hk6 := (pE_in hD ks (P 0) y k hP0 hB.1 hk).2.1
            refine Or.inr (h17.mpr (fun z0 => ?_))
            have := (hrow y hy k hk6).mpr hk
            rw [z0, bt_zero] at this
            cases this
  have hd : dimM mm w d l := by
    have := hG0.1
    unfold dimM fld at this ⊢
    rw [mo 54 (by decide) (by decide) (by decide) (by decide)]
    exact this
  have m28 : mm 54 28 = 0 := by rw [mo 54 (by decide) (by decide) (by decide) (by decide)]; exact h28
  have m30 : mm 54 30 = 0 := by rw [mo 54 (by decide) (by decide) (by decide) (by decide)]; exact h30
  refine ⟨⟨hd, ?_, fun n' hn' => ?_, fun x hx => ?_, fun n' x hn' hx => ?_⟩, ?_, by rw [w9], fun y hy => ?_⟩
  · rw [mo 54 (by decide) (by decide) (by decide) (by decide), w9, ← z9]; exact hG0.2.1
  · rw [w9] at hn'
    rw [mo 61 (by decide) (by decide) (by decide) (by decide), mo 59 (by decide) (by decide) (by decide) (by decide), mo 60 (by decide) (by decide) (by decide) (by decide), w10, w11, ← z10, ← z11]
    exact hG0.2.2.1 n' (by rw [z9]; exact hn')
  · rw [mo 71 (by decide) (by decide) (by decide) (by decide), w15, ← z15]; exact hG0.2.2.2.1 x hx
  · obtain ⟨v1, v2, v3⟩ := hcop n' x hn' hx
    have k4 := kand_43 v1
    rw [w16_b hn8 x n' hn', w17]
    by_cases hne : n' = n
    · by_cases hs : S x
      · have e1 : mm 72 (324 * n' + cR w d x) = kor (rr 72 (324 * n' + cR w d x)) 4 := by rw [hne]; exact (hmm x hx).1 hs
        rw [e1, k4.2.2.2.2.1, k4.2.2.2.1, k4.2.2.2.2.2.1]
        exact ⟨k4.2.2.1, ⟨fun _ => Or.inr ⟨hne, hs⟩, fun _ => Or.inr rfl⟩, v3⟩
      · have e1 : mm 72 (324 * n' + cR w d x) = rr 72 (324 * n' + cR w d x) := by rw [hne]; exact (hmm x hx).2 hs
        rw [e1, k4.2.2.2.2.2.2.1]
        exact ⟨by omega, ⟨fun q => q.elim (fun z => Or.inl (v2.mp z)) (fun z => by cases z), fun q => q.elim (fun z => Or.inl (v2.mpr z)) (fun z => absurd z.2 hs)⟩, v3⟩
    · have e1 := hother n' x hn' hne hx
      rw [e1, k4.2.2.2.2.2.2.1]
      exact ⟨by omega, ⟨fun q => q.elim (fun z => Or.inl (v2.mp z)) (fun z => by cases z), fun q => q.elim (fun z => Or.inl (v2.mpr z)) (fun z => absurd z.1 hne)⟩, v3⟩
  · have hsc := WFs_srt hM.1
    unfold srt at hsc ⊢
    rw [w9, w10, w11]
    exact hsc
  · have hz : mm 72 (324 * n + cR w d y) = 0 ↔ ¬ U y := by
      rw [← hU y hy]
      exact ⟨fun a b => b a, fun a => Classical.byContradiction a⟩
    rw [hz, F_plain (by rw [w9]; exact h8.2) hn8 m28 m30]
    refine and_congr_left (fun hnU => ?_)
    have hcl := clT_ts (w := w) (d := d) (l := l) (n := n) (x := y) (q := fun _ => True) (c := c) (c' := with16 n S e) (by rw [w9]) w10 w11 h8.2 (fun o z ho hon hz => ⟨?_, ?_⟩)
    · unfold frT
      rw [w10, w11, w15, hcl]
      have c1 : ¬ cuT (fun _ => True) (with16 n S e) n y := by
        rintro (q | ⟨-, q⟩)
        · rw [w16_b hn8 y n hn8] at q
          exact hnU (hUc y hy (q.elim Or.inl (fun z => Or.inr (Or.inr z.2))))
        · rw [w17] at q
          exact hnU (hUc y hy (Or.inr (Or.inl q)))
      have c2 : ¬ cuT (fun _ => True) c n y := by
        rintro (q | ⟨-, q⟩)
        · exact hnU (hB.2.2.2.2.1 _ (Or.inl q))
        · exact hnU (hB.2.2.2.2.1 _ (Or.inr q))
      exact ⟨fun q => Or.inr (q.resolve_left c1), fun q => Or.inr (q.resolve_left c2)⟩
    · rw [Bool.eq_iff_iff, w16_b hn8 z o ho, eo 16 (by decide) (by decide)]
      exact ⟨fun q => q.elim id (fun y => absurd y.1 hon), Or.inl⟩
    · rw [w17]
      exact tce.2.2 z o.toNat hz (by omega)
