/-! STRETCH: the class's bends -/
/-- the old moves from one on -/
def oE (P K : Int → Int) (q i x k : Int) : Prop := ∃ j : Int, (i ≤ j ∧ j < q) ∧ ((P j = x ∧ K j = k) ∨ (P (j + 1) = x ∧ oppF (K j) = k))
theorem oE_s {P K : Int → Int} {q i x k : Int} (hi : i < q) : oE P K q i x k ↔ ((P i = x ∧ K i = k) ∨ (P (i + 1) = x ∧ oppF (K i) = k)) ∨ oE P K q (i + 1) x k := by
  constructor
  · rintro ⟨j, hj, h⟩
    by_cases e : j = i
    · rw [e] at h; exact Or.inl h
    · exact Or.inr ⟨j, by omega, h⟩
  · rintro (h | ⟨j, hj, h⟩)
    · exact ⟨i, by omega, h⟩
    · exact ⟨j, by omega, h⟩
/-- the class's memory behind the bends of the first i moves -/
def CL (w d l n q : Int) (P K : Int → Int) (m1 : Mem) (i : Int) (U : Int → Prop) (ks : List Int) (mm : Mem) : Prop := tsame w d l n m1 mm ∧ (∀ x k : Int, inC w d l x → (0 ≤ k ∧ k < 6) → (bt (mm 19 (n * (w * d * l) + x)) k.toNat = true ↔ pE w d l ks (P 0) x k ∨ oE P K q i x k)) ∧ (∀ x, inC w d l x → (0 ≤ mm 19 (n * (w * d * l) + x) ∧ mm 19 (n * (w * d * l) + x) < 64) ∧ (0 ≤ mm 17 x ∧ mm 17 x < 256)) ∧ (∀ x, inC w d l x → (cuN mm n x ↔ U x)) ∧ ∀ x, inC w d l x → (bt (mm 17 x) n.toNat = true ↔ mm 19 (n * (w * d * l) + x) ≠ 0)
theorem CL_no {w d l n q : Int} {P K row : Int → Int} {cu : Int → Prop} {L0 len : Int} {m1 mm : Mem} {i : Int} {U : Int → Prop} {ks : List Int} (hT : TrL w d l row q P K) (hi : 0 ≤ i ∧ i < q) (hB : BI w d l cu P L0 i U len ks) (h : CL w d l n q P K m1 i U ks mm) : CL w d l n q P K m1 (i + 1) U (ks ++ [K i]) mm := by
  obtain ⟨h1, h2, h3, h4⟩ := h
  refine ⟨h1, fun x k hx hk => ?_, h3, h4⟩
  rw [h2 x k hx hk, oE_s hi.2, pE_app, hB.2.1]
  have e : pE w d l [K i] (P i) x k ↔ (P i = x ∧ K i = k) ∨ (P (i + 1) = x ∧ oppF (K i) = k) := by
    show ((x = P i ∧ k = K i) ∨ (x = nx w d l (P i) (K i) ∧ k = oppF (K i)) ∨ False) ↔ _
    rw [(hT.2.1 i hi).2.2]
    constructor
    · rintro (⟨a, b⟩ | ⟨a, b⟩ | z)
      · exact Or.inl ⟨a.symm, b.symm⟩
      · exact Or.inr ⟨a.symm, b.symm⟩
      · exact z.elim
    · rintro (⟨a, b⟩ | ⟨a, b⟩)
      · exact Or.inl ⟨a.symm, b.symm⟩
      · exact Or.inr (Or.inl ⟨a.symm, b.symm⟩)
  rw [e]
  exact or_assoc.symm
/-- one move bent -/
def bdM (w d l n p κ σ : Int) (m : Mem) : Mem := jn 19 17 (n * (w * d * l)) n (nx w d l p κ) σ (nx w d l (nx w d l p κ) σ) (jn 19 17 (n * (w * d * l)) n (nx w d l p σ) κ (nx w d l (nx w d l p σ) κ) (jn 19 17 (n * (w * d * l)) n p σ (nx w d l p σ) (dn (n * (w * d * l)) p κ (nx w d l p κ) m)))
theorem jn_nz {w d l n x k z : Int} {m : Mem} (hx : inC w d l x) (hk : 0 ≤ k ∧ k < 6) (hne : nx w d l x k ≠ -1) (hz : inC w d l z) (i1 : inR (m 19 (n * (w * d * l) + z))) (i2 : inR (jn 19 17 (n * (w * d * l)) n x k (nx w d l x k) m 19 (n * (w * d * l) + z))) : jn 19 17 (n * (w * d * l)) n x k (nx w d l x k) m 19 (n * (w * d * l) + z) ≠ 0 ↔ m 19 (n * (w * d * l) + z) ≠ 0 ∨ z = x ∨ z = nx w d l x k := by
  have hb := fun j => jn_bit (n := n) (m := m) rfl hx hk hne hz j
  rw [k_ne0 i2, k_ne0 i1]
  constructor
  · rintro ⟨j, hj, h⟩
    rcases (hb j).mp h with q | q | q
    · exact Or.inl ⟨j, hj, q⟩
    · exact Or.inr (Or.inl q.1)
    · exact Or.inr (Or.inr q.1)
  · rintro (⟨j, hj, q⟩ | q | q)
    · exact ⟨j, hj, (hb j).mpr (Or.inl q)⟩
    · exact ⟨k.toNat, by omega, (hb _).mpr (Or.inr (Or.inl ⟨q, by omega⟩))⟩
    · have := opp_in hk
      exact ⟨(oppF k).toNat, by omega, (hb _).mpr (Or.inr (Or.inr ⟨q, by omega⟩))⟩
theorem jn_b17 {w d l n x k z : Int} {m : Mem} (hn : 0 ≤ n ∧ n < 8) (hk : 0 ≤ k ∧ k < 6) (hne : nx w d l x k ≠ -1) : bt (jn 19 17 (n * (w * d * l)) n x k (nx w d l x k) m 17 z) n.toNat = true ↔ bt (m 17 z) n.toNat = true ∨ z = x ∨ z = nx w d l x k := by
  have hself := nx_self hk hne
  rw [jn_17 (fun z => hself z.symm)]
  have hone : ∀ v : Int, bt (kor v (kshl 1 n)) n.toNat = true := fun v => (bt_kor_n hn 0).2
  by_cases h1 : z = nx w d l x k
  · rw [if_pos h1, hone]
    exact ⟨fun _ => Or.inr (Or.inr h1), fun _ => rfl⟩
  · rw [if_neg h1]
    by_cases h2 : z = x
    · rw [if_pos h2, hone]
      exact ⟨fun _ => Or.inr (Or.inl h2), fun _ => rfl⟩
    · rw [if_neg h2]
      exact ⟨Or.inl, fun q => q.elim id (fun q => q.elim (fun q => absurd q h2) (fun q => absurd q h1))⟩
set_option maxRecDepth 100000 in
theorem CL_bd {w d l n q : Int} (hD : okD w d l) (hn : 0 ≤ n ∧ n < 8) {P K row : Int → Int} {fr cu : Int → Prop} {L0 len σ : Int} {m1 mm : Mem} {i : Int} {U : Int → Prop} {ks : List Int} (hT : TrL w d l row q P K) (hcu : ∀ j : Int, (0 ≤ j ∧ j ≤ q) → cu (P j)) (hi : 0 ≤ i ∧ i < q) (hB : BI w d l cu P L0 i U len ks) (hσ : 0 ≤ σ ∧ σ < 6) (hC : bdC w d l fr P U i σ) (h : CL w d l n q P K m1 i U ks mm) : CL w d l n q P K m1 (i + 1) (fun x => U x ∨ x = nx w d l (P i) σ ∨ x = nx w d l (P (i + 1)) σ) (ks ++ [σ, K i, oppF σ]) (bdM w d l n (P i) (K i) σ mm) := by
  obtain ⟨⟨g1, g2⟩, -⟩ := BI_bd hD hT hcu hi hB hσ hC
  obtain ⟨h1, h2, h3, h4, h5⟩ := h
  obtain ⟨b1, b2, b3, b4, b5, b6, b7⟩ := hB
  obtain ⟨t1, t2, t3, t4⟩ := id hT
  obtain ⟨k1, k2, k3⟩ := t2 i hi
  obtain ⟨⟨s1, -, -⟩, r1, -, -⟩ := hC
  have hpi := t1 i (by omega)
  have hp1i := t1 (i + 1) (by omega)
  have hsi := (nx_in s1).1
  have hti := (nx_in r1).1
  unfold bdM
  rw [k3, g1]
  obtain ⟨s, hs⟩ : ∃ s, s = nx w d l (P i) σ := ⟨_, rfl⟩
  obtain ⟨t, ht⟩ : ∃ t, t = nx w d l (P (i + 1)) σ := ⟨_, rfl⟩
  have hκs : nx w d l (nx w d l (P i) σ) (K i) ≠ -1 := by rw [g1]; exact r1
  obtain ⟨ma, hma⟩ : ∃ ma, ma = dn (n * (w * d * l)) (P i) (K i) (P (i + 1)) mm := ⟨_, rfl⟩
  obtain ⟨mb, hmb⟩ : ∃ mb, mb = jn 19 17 (n * (w * d * l)) n (P i) σ (nx w d l (P i) σ) ma := ⟨_, rfl⟩
  obtain ⟨mc, hmc⟩ : ∃ mc, mc = jn 19 17 (n * (w * d * l)) n (nx w d l (P i) σ) (K i) (nx w d l (P (i + 1)) σ) mb := ⟨_, rfl⟩
  rw [← hma, ← hmb, ← hmc]
  have ta : tsame w d l n mm ma := by have := dn_tsame (n := n) (c := mm) hpi k1 k2; rw [k3, ← hma] at this; exact this
  have tb : tsame w d l n ma mb := by rw [hmb]; exact jn_tsame hn hpi hσ s1
  have tc : tsame w d l n mb mc := by have := jn_tsame (c := mb) hn hsi k1 hκs; rw [g1, ← hmc] at this; exact this
  have td := jn_tsame (c := mc) hn hp1i hσ r1
  have ia : ∀ x, inC w d l x → (0 ≤ ma 19 (n * (w * d * l) + x) ∧ ma 19 (n * (w * d * l) + x) < 64) ∧ (0 ≤ ma 17 x ∧ ma 17 x < 256) := by
    intro x hx
    have := dn_in (z := x) k1 k2 (h3 _ hpi).1 (by rw [k3]; exact (h3 _ hp1i).1) (h3 x hx).1
    rw [k3, ← hma] at this
    exact ⟨this, by rw [hma, dn_ne (by decide)]; exact (h3 x hx).2⟩
  have ib : ∀ x, inC w d l x → (0 ≤ mb 19 (n * (w * d * l) + x) ∧ mb 19 (n * (w * d * l) + x) < 64) ∧ (0 ≤ mb 17 x ∧ mb 17 x < 256) := by
    intro x hx
    rw [hmb]
    exact ⟨jn_in hσ s1 (ia _ hpi).1 (ia _ hsi).1 (ia x hx).1, jn_17in hn (ia _ hpi).2 hσ s1 (ia _ hsi).2 (ia x hx).2⟩
  have ic : ∀ x, inC w d l x → (0 ≤ mc 19 (n * (w * d * l) + x) ∧ mc 19 (n * (w * d * l) + x) < 64) ∧ (0 ≤ mc 17 x ∧ mc 17 x < 256) := by
    intro x hx
    have a1 := jn_in (z := x) k1 hκs (ib _ hsi).1 (by rw [g1]; exact (ib _ hti).1) (ib x hx).1
    have a2 := jn_17in (z := x) hn (ib _ hsi).2 k1 hκs (by rw [g1]; exact (ib _ hti).2) (ib x hx).2
    rw [g1, ← hmc] at a1 a2
    exact ⟨a1, a2⟩
  refine ⟨tsame_tr h1 (tsame_tr ta (tsame_tr tb (tsame_tr tc td))), fun x k hx hk => ?_, fun x hx => ⟨jn_in hσ r1 (ic _ hp1i).1 (ic _ hti).1 (ic x hx).1, jn_17in hn (ic _ hp1i).2 hσ r1 (ic _ hti).2 (ic x hx).2⟩, fun x hx => ?_, fun x hx => ?_⟩
  · have hkn : ((k.toNat : Nat) : Int) = k := by omega
    rw [jn_bit rfl hp1i hσ r1 hx k.toNat, hkn]
    have ec : bt (mc 19 (n * (w * d * l) + x)) k.toNat = true ↔ bt (mb 19 (n * (w * d * l) + x)) k.toNat = true ∨ (x = nx w d l (P i) σ ∧ k = K i) ∨ (x = nx w d l (P (i + 1)) σ ∧ k = oppF (K i)) := by
      have := jn_bit (n := n) (m := mb) rfl hsi k1 hκs hx k.toNat
      rw [g1, ← hmc, hkn] at this
      exact this
    have eb : bt (mb 19 (n * (w * d * l) + x)) k.toNat = true ↔ bt (ma 19 (n * (w * d * l) + x)) k.toNat = true ∨ (x = P i ∧ k = σ) ∨ (x = nx w d l (P i) σ ∧ k = oppF σ) := by
      have := jn_bit (n := n) (m := ma) rfl hpi hσ s1 hx k.toNat
      rw [← hmb, hkn] at this
      exact this
    have ea : bt (ma 19 (n * (w * d * l) + x)) k.toNat = true ↔ bt (mm 19 (n * (w * d * l) + x)) k.toNat = true ∧ ¬ (x = P i ∧ k = K i) ∧ ¬ (x = P (i + 1) ∧ k = oppF (K i)) := by
      have := dn_bit (n := n) (z := x) (m := mm) k1 k2 k hk
      rw [k3, ← hma] at this
      exact this
    rw [ec, eb, ea, h2 x k hx hk, oE_s hi.2, pE_app, b2]
    have hnotP : P (i + 1) ∉ P 0 :: vis w d l ks (P 0) := by
      intro hm
      rcases (b4 _ hm).2 with ⟨j, hj, e⟩ | hno
      · exact t3 j (i + 1) (by omega) e.symm
      · exact hno (hcu (i + 1) (by omega))
    have hA : pE w d l ks (P 0) x k → ¬ (x = P i ∧ k = K i) ∧ ¬ (x = P (i + 1) ∧ k = oppF (K i)) := by
      intro hp
      obtain ⟨⟨p1, p2⟩, -⟩ := pE_in hD ks (P 0) x k (t1 0 (by omega)) b1 hp
      refine ⟨fun ⟨e1, e2⟩ => ?_, fun ⟨e1, e2⟩ => ?_⟩
      · rw [e1, e2, k3] at p2
        exact hnotP p2
      · rw [e1] at p1
        exact hnotP p1
    have hO : oE P K q (i + 1) x k → ¬ (x = P i ∧ k = K i) ∧ ¬ (x = P (i + 1) ∧ k = oppF (K i)) := by
      rintro ⟨j, hj, hj2⟩
      refine ⟨fun ⟨e1, e2⟩ => ?_, fun ⟨e1, e2⟩ => ?_⟩
      · rcases hj2 with ⟨a, _⟩ | ⟨a, _⟩
        · exact t3 i j (by omega) (by rw [a, e1])
        · exact t3 i (j + 1) (by omega) (by rw [a, e1])
      · rcases hj2 with ⟨a, b⟩ | ⟨a, b⟩
        · by_cases e : j = i + 1
          · obtain ⟨q1, q2, q3⟩ := t2 j (by omega)
            rw [b, e2, e] at q3
            have := nx_opp hD hpi k1 k2
            rw [k3] at this
            rw [this] at q3
            exact t3 i (i + 1 + 1) (by omega) q3
          · exact t3 (i + 1) j (by omega) (by rw [a, e1])
        · exact t3 (i + 1) (j + 1) (by omega) (by rw [a, e1])
    have hN : pE w d l [σ, K i, oppF σ] (P i) x k ↔ (x = P i ∧ k = σ) ∨ (x = nx w d l (P i) σ ∧ k = oppF σ) ∨ (x = nx w d l (P i) σ ∧ k = K i) ∨ (x = nx w d l (P (i + 1)) σ ∧ k = oppF (K i)) ∨ (x = nx w d l (P (i + 1)) σ ∧ k = oppF σ) ∨ (x = P (i + 1) ∧ k = σ) := by
      show ((x = P i ∧ k = σ) ∨ (x = nx w d l (P i) σ ∧ k = oppF σ) ∨ (x = nx w d l (P i) σ ∧ k = K i) ∨ (x = nx w d l (nx w d l (P i) σ) (K i) ∧ k = oppF (K i)) ∨ (x = nx w d l (nx w d l (P i) σ) (K i) ∧ k = oppF σ) ∨ (x = nx w d l (nx w d l (nx w d l (P i) σ) (K i)) (oppF σ) ∧ k = oppF (oppF σ)) ∨ False) ↔ _
      rw [g1, g2, opp_opp hσ, or_false]
    rw [hN]
    constructor
    · rintro (((⟨(z | z | z), n1, n2⟩ | z | z) | z | z) | z | z)
      · exact Or.inl (Or.inl z)
      · rcases z with ⟨a, b⟩ | ⟨a, b⟩
        · exact absurd ⟨a.symm, b.symm⟩ n1
        · exact absurd ⟨a.symm, b.symm⟩ n2
      · exact Or.inr z
      · exact Or.inl (Or.inr (Or.inl z))
      · exact Or.inl (Or.inr (Or.inr (Or.inl z)))
      · exact Or.inl (Or.inr (Or.inr (Or.inr (Or.inl z))))
      · exact Or.inl (Or.inr (Or.inr (Or.inr (Or.inr (Or.inl z)))))
      · exact Or.inl (Or.inr (Or.inr (Or.inr (Or.inr (Or.inr (Or.inr z))))))
      · exact Or.inl (Or.inr (Or.inr (Or.inr (Or.inr (Or.inr (Or.inl z))))))
    · rintro ((z | z | z | z | z | z | z) | z)
      · exact Or.inl (Or.inl (Or.inl ⟨Or.inl z, hA z⟩))
      · exact Or.inl (Or.inl (Or.inr (Or.inl z)))
      · exact Or.inl (Or.inl (Or.inr (Or.inr z)))
      · exact Or.inl (Or.inr (Or.inl z))
      · exact Or.inl (Or.inr (Or.inr z))
      · exact Or.inr (Or.inr z)
      · exact Or.inr (Or.inl z)
      · exact Or.inl (Or.inl (Or.inl ⟨Or.inr (Or.inr z), hO z⟩))
  · rw [jn_cu hn hσ r1]
    have ec : cuN mc n x ↔ cuN mb n x ∨ x = nx w d l (P i) σ ∨ x = nx w d l (P (i + 1)) σ := by
      have := jn_cu (z := x) (m := mb) hn k1 hκs
      rw [g1, ← hmc] at this
      exact this
    have eb : cuN mb n x ↔ cuN ma n x ∨ x = P i ∨ x = nx w d l (P i) σ := by
      rw [hmb]
      exact jn_cu hn hσ s1
    have ea : cuN ma n x ↔ cuN mm n x := by
      unfold cuN
      rw [hma, dn_ne (by decide), dn_ne (by decide)]
    rw [ec, eb, ea, h4 x hx]
    have u0 : U (P i) := b5 _ (hcu i (by omega))
    have u1 : U (P (i + 1)) := b5 _ (hcu (i + 1) (by omega))
    constructor
    · rintro (((z | z | z) | z | z) | z | z)
      · exact Or.inl z
      · rw [z]; exact Or.inl u0
      · exact Or.inr (Or.inl z)
      · exact Or.inr (Or.inl z)
      · exact Or.inr (Or.inr z)
      · rw [z]; exact Or.inl u1
      · exact Or.inr (Or.inr z)
    · rintro (z | z | z)
      · exact Or.inl (Or.inl (Or.inl z))
      · exact Or.inl (Or.inr (Or.inl z))
      · exact Or.inr (Or.inr z)
  · have small : ∀ {v : Int}, 0 ≤ v ∧ v < 64 → inR v := fun h => inR_small (by omega)
    have idd := jn_in (n := n) (z := x) hσ r1 (ic _ hp1i).1 (ic _ hti).1 (ic x hx).1
    rw [jn_b17 hn hσ r1, jn_nz hp1i hσ r1 hx (small (ic x hx).1) (small idd)]
    have ec := jn_b17 (z := x) (m := mb) hn k1 hκs
    have ec2 := jn_nz (n := n) (z := x) (m := mb) hsi k1 hκs hx (small (ib x hx).1) (by rw [g1, ← hmc]; exact small (ic x hx).1)
    rw [g1, ← hmc] at ec ec2
    have eb := jn_b17 (z := x) (m := ma) hn hσ s1
    have eb2 := jn_nz (n := n) (z := x) (m := ma) hpi hσ s1 hx (small (ia x hx).1) (by rw [← hmb]; exact small (ib x hx).1)
    rw [← hmb] at eb eb2
    have ea : ma 17 = mm 17 := by rw [hma, dn_ne (by decide)]
    have ea2 : x = P i ∨ x = P (i + 1) ∨ ma 19 (n * (w * d * l) + x) = mm 19 (n * (w * d * l) + x) := by
      by_cases e1 : x = P i
      · exact Or.inl e1
      · by_cases e2 : x = P (i + 1)
        · exact Or.inr (Or.inl e2)
        · have hpp : P i ≠ P (i + 1) := t3 i (i + 1) (by omega)
          rw [hma, dn_19 hpp, if_neg (by omega), if_neg (by omega)]
          exact Or.inr (Or.inr rfl)
    rw [ec, eb, ea, h5 x hx, ec2, eb2]
    rcases ea2 with e | e | e
    · exact ⟨fun _ => Or.inl (Or.inl (Or.inr (Or.inl e))), fun _ => Or.inl (Or.inl (Or.inr (Or.inl e)))⟩
    · exact ⟨fun _ => Or.inr (Or.inl e), fun _ => Or.inr (Or.inl e)⟩
    · rw [e]
