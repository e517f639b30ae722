/-! TOGETHER, the class: the search -/
def Dj (w d l : Int) (U : List (Int × Int)) (L : List Int) : Prop := (U.map (fun u => u.2) ++ L).Nodup ∧ ∀ x ∈ U.map (fun u => u.2) ++ L, inC w d l x
theorem Dj_cons {w d l : Int} {U : List (Int × Int)} {L : List Int} {y : Int} (h : Dj w d l U L) (hy : inC w d l y) (h1 : ∀ u ∈ U, u.2 ≠ y) (h2 : y ∉ L) : Dj w d l U (y :: L) := by
  refine ⟨?_, fun x hx => ?_⟩
  · rw [List.perm_middle.nodup_iff, List.nodup_cons]
    refine ⟨fun q => ?_, h.1⟩
    rcases List.mem_append.mp q with q | q
    · obtain ⟨u, u1, u2⟩ := List.mem_map.mp q
      exact h1 u u1 u2
    · exact h2 q
  · rcases List.mem_append.mp hx with q | q
    · exact h.2 x (List.mem_append_left _ q)
    · rcases List.mem_cons.mp q with e | q
      · rw [e]; exact hy
      · exact h.2 x (List.mem_append_right _ q)
theorem Dj_len {w d l : Int} {N : Nat} (hN : w * d * l = (N : Int)) {U : List (Int × Int)} {L : List Int} (h : Dj w d l U L) : U.length + L.length ≤ N := by
  have := pigeon N _ h.1 (fun x hx => ⟨(h.2 x hx).1, by have := (h.2 x hx).2; omega⟩)
  rw [List.length_append, List.length_map] at this
  exact this
/-- a way laid joins those before -/
theorem Dj_done {w d l i : Int} {U : List (Int × Int)} {L : List Int} (h : Dj w d l U L) : Dj w d l (L.map (fun x => (i, x)) ++ U) [] := by
  have e : (L.map (fun x => (i, x)) ++ U).map (fun u => u.2) ++ [] = L ++ U.map (fun u => u.2) := by
    rw [List.append_nil, List.map_append, List.map_map]
    congr 1
    exact List.map_id' L
  unfold Dj
  rw [e]
  exact ⟨(List.perm_append_comm.nodup_iff).mpr h.1, fun x hx => h.2 x ((List.mem_append.mp hx).elim (fun q => List.mem_append_right _ q) (fun q => List.mem_append_left _ q))⟩
theorem Lay_fresh {w d l A i y : Int} {Y : Lay} {U : List (Int × Int)} (hT : LO w d l A Y) (hi : 0 ≤ i ∧ i < A) (hU : UB w d l Y U i) (hy : Y.fr i U y) : ∀ u ∈ U, u.2 ≠ y := by
  intro u hu e
  obtain ⟨u1, u2, u3⟩ := hU u hu
  have hn := hT.nn u.1 i u1.1 (by omega) hi.1 hi.2 (by omega)
  rcases hy with rfl | rfl | ⟨h1, h2⟩
  · rcases u3 with q | q | q
    · exact hn.1.1 (by rw [← q, e])
    · have hn' := hT.nn i u.1 hi.1 hi.2 u1.1 (by omega) (by omega)
      exact hn'.1.2.1 (by rw [← q, e])
    · exact hn.2.1 (by rw [← e]; exact q)
  · rcases u3 with q | q | q
    · exact hn.1.2.1 (by rw [← q, e])
    · exact hn.1.2.2 (by rw [← q, e])
    · exact hn.2.2 (by rw [← e]; exact q)
  · refine h2 u hu ?_
    have := hT.nf i u.1 hi.1 hi.2 u1.1 (by omega) u.2 u2
    rw [e] at this ⊢
    exact this
/-- ways that hold a row of cells more -/
theorem Wy_in {w d l i v : Int} {m m1 : Mem} {U : List (Int × Int)} {L : List Int} (hW : Wy w d l m U i) (hU : ∀ u ∈ U, 0 ≤ u.1 ∧ u.1 < i) (h : ∀ j, 0 ≤ j → j < i → m1 44 j = m 44 j) (hv : m1 44 i = v) (hml : mloC w d l v) (hb : ∀ x, mbt v x ↔ x ∈ L) : Wy w d l m1 (L.map (fun x => (i, x)) ++ U) (i + 1) := by
  intro j h0 h1
  by_cases e : j = i
  · subst e
    rw [hv]
    refine ⟨hml, fun x => ?_⟩
    rw [hb, List.mem_append, List.mem_map]
    constructor
    · intro hx; exact Or.inl ⟨x, hx, rfl⟩
    · rintro (⟨y, hy, e⟩ | hx)
      · cases e; exact hy
      · have := (hU _ hx).2
        exact absurd this (by show ¬ j < j; omega)
  · rw [h j h0 (by omega)]
    refine ⟨(hW j h0 (by omega)).1, fun x => ?_⟩
    rw [(hW j h0 (by omega)).2, List.mem_append, List.mem_map]
    constructor
    · exact Or.inr
    · rintro (⟨y, -, e'⟩ | hx)
      · cases e'; exact absurd rfl e
      · exact hx
def UL (U : List (Int × Int)) (i : Int) (L : List Int) : List (Int × Int) := L.map (fun x => (i, x)) ++ U
theorem UB_in {w d l i : Int} {Y : Lay} {U : List (Int × Int)} {L : List Int} (hi : 0 ≤ i) (hU : UB w d l Y U i) (hL : ∀ x ∈ L, inC w d l x ∧ (x = Y.a i ∨ x = Y.t i ∨ Y.B i x)) : UB w d l Y (UL U i L) (i + 1) := by
  intro u hu
  rcases List.mem_append.mp hu with hu | hu
  · obtain ⟨x, hx, rfl⟩ := List.mem_map.mp hu
    exact ⟨⟨hi, by show i < i + 1; omega⟩, hL x hx⟩
  · have := hU u hu
    exact ⟨⟨this.1.1, by omega⟩, this.2⟩
/-- what FINDWAYS answers with k ways wanting -/
def FWc (X : Xv) (w d l A : Int) (Y : Lay) (k : Nat) : Prop := ∀ (m : Mem) (i depth : Int) (U : List (Int × Int)), i + (k : Int) = A → 0 ≤ i → TB w d l A Y m → UB w d l Y U i → Wy w d l m U i → Dj w d l U [] → depth = (U.length : Int) → (∀ j, i ≤ j → j < A → Rt Y.st (Y.fr j U) (Y.t j) (Y.a j)) → kCall (eX X) (30 * k + 27) M_X10_findWays.1 [vR 41, vI i, vI depth] m (fun r m' => ((FA Y k i U ∧ r = some (vI 1)) ∨ (¬ FA Y k i U ∧ r = some (vI 0))) ∧ (∀ o, o ≠ 44 → m' o = m o) ∧ ∀ j, 0 ≤ j → j < i → m' 44 j = m 44 j)
/-- what EXTEND answers: k ways wanting behind this one, q cells at most to come -/
def EXc (X : Xv) (w d l A : Int) (Y : Lay) (k q : Nat) : Prop := ∀ (m : Mem) (i h o depth : Int) (U : List (Int × Int)) (R : List Int), i + (k : Int) + 1 = A → 0 ≤ i → 1 ≤ k → TB w d l A Y m → UB w d l Y U i → Wy w d l m U i → Dj w d l U (h :: R) → depth = (U.length : Int) + (R.length : Int) + 1 → U.length + R.length + 1 + q = 24 → mloC w d l (m 44 i) → (∀ x, mbt (m 44 i) x ↔ x ∈ R) → (∀ x ∈ h :: R, x = Y.a i ∨ x = Y.t i ∨ Y.B i x) → Y.t i ∉ h :: R → (∀ z ∈ R, ¬ Y.st z (Y.t i)) → mloC w d l o → (∀ y, mbt o y ↔ Op Y.st (Y.fr i U) R y) → kCall (eX X) (30 * k + q + 31) M_X10_extend.1 [vR 41, vI i, vI (kshl 1 h), vI o, vI depth] m (fun r m' => ((GO Y.st (Y.fr i U) (Y.t i) (fun Q => FA Y k (i + 1) (UL U i Q)) (h :: R) ∧ r = some (vI 1)) ∨ (¬ GO Y.st (Y.fr i U) (Y.t i) (fun Q => FA Y k (i + 1) (UL U i Q)) (h :: R) ∧ r = some (vI 0))) ∧ (∀ o, o ≠ 44 → m' o = m o) ∧ ∀ j, 0 ≤ j → j ≤ i → m' 44 j = m 44 j)
set_option maxRecDepth 100000 in
theorem EX_one {X : Xv} {w d l A : Int} {Y : Lay} (hD : okD w d l) (hN : w * d * l = (nC X : Int)) (h24 : w * d * l ≤ 24) {k q : Nat} (hF : FWc X w d l A Y k) (IH : ∀ q', q' + 1 = q → EXc X w d l A Y k q') : EXc X w d l A Y k q := by
  intro m i h o depth U R hik hi hk hT hU hW hDj hdep hq hml hmb hLR ht0 ht1 ho hob
  have hA := hT.am
  have hi3 : 0 ≤ i ∧ i < ((3 : Nat) : Int) := by omega
  have hci := hT.ch i hi (by omega)
  have hlen := Dj_len hN hDj
  rw [List.length_cons] at hlen
  have hh : inC w d l h := hDj.2 h (List.mem_append_right _ List.mem_cons_self)
  have hRin : ∀ x ∈ h :: R, inC w d l x := fun x hx => hDj.2 x (List.mem_append_right _ hx)
  have hh0 := hh.1
  have hh1 := hh.2
  have htin := hci.2.2.2.2.1
  have ht2 := htin.1
  have ht3 := htin.2
  have hht : h ≠ Y.t i := fun e => ht0 (by rw [← e]; exact List.mem_cons_self)
  have hst : ∀ x, ¬ Y.st x x := fun x => by rw [hT.lo.st]; exact stM_self
  have hUi : ∀ u ∈ U, 0 ≤ u.1 ∧ u.1 < i := fun u hu => (hU u hu).1
  have hbh : ∀ x, mbt (kshl 1 h) x ↔ x = h := fun x => mbt_bit (by omega)
  have hbt : ∀ x, mbt (kshl 1 (Y.t i)) x ↔ x = Y.t i := fun x => mbt_bit (by omega)
  have hpt := hT.pt i
  refine kCall_ofT ok_X10_extend rfl (Nat.le_of_ble_eq_true rfl) (fun T hTT => ?_)
  obtain ⟨G, hG⟩ : ∃ G, G = GO Y.st (Y.fr i U) (Y.t i) (fun Q => FA Y k (i + 1) (UL U i Q)) (h :: R) := ⟨_, rfl⟩
  rw [← hG] at hTT
  -- the end
  have hfin : ∀ (b : Int) (m2 : Mem) (x6 x7 : Int) (x9 x10 x11 : Option AV), (∀ o, o ≠ 44 → m2 o = m o) → (∀ j, 0 ≤ j → j < i → m2 44 j = m 44 j) → (b = 1 ∧ G) ∨ (b = 0 ∧ ¬ G) → kW (eX X) (30 * k + q + 30) M_X10_extend T 7 [some (vR 41), some (vI i), some (vI (kshl 1 h)), some (vI o), some (vI depth), some (vI (m 44 i)), some (vI x6), some (vI x7), some (vI b), x9, x10, x11] [] m2 := by
    intro b m2 x6 x7 x9 x10 x11 f1 f2 hb
    have hf1 : ∀ o, o ≠ 44 → mset m2 44 i (m 44 i) o = m o := fun o ho => by rw [k_mset_ne ho]; exact f1 o ho
    have hf2 : ∀ j, 0 ≤ j → j ≤ i → mset m2 44 i (m 44 i) 44 j = m 44 j := fun j h0 h1 => by
      rw [k_mset_at]
      by_cases e : j = i
      · rw [if_pos e, e]
      · rw [if_neg e]; exact f2 j h0 (by omega)
    refine kW_go ok_X10_extend [] 20 ?_
    refine ⟨hi3, ?_⟩
    rcases hb with ⟨rfl, hb⟩ | ⟨rfl, hb⟩
    · exact hTT (some (vI 1)) (mset m2 44 i (m 44 i)) ⟨Or.inr rfl, Or.inl ⟨hb, rfl⟩, hf1, hf2⟩
    · exact hTT (some (vI 0)) (mset m2 44 i (m 44 i)) ⟨Or.inl rfl, Or.inr ⟨hb, rfl⟩, hf1, hf2⟩
  refine kW_go ok_X10_extend [5, 7] 40 ?_
  refine And.intro (fun _ => ?_) (fun h => absurd h (by omega))
  refine ⟨hi3, hi3, hi3, ?_⟩
  -- the way with its head
  refine kCall_mono (c_X3_pinCell X (mset m 44 i (kor (m 44 i) (kshl 1 h))) (m 42 i) 1 hci.1 (by omega)) (by omega) ?_
  rintro r m1 ⟨hr, hm1⟩
  have hr' : r = some (vI (Y.t i)) := by rw [hpt]; exact hr
  subst hr'
  clear hr
  have e1 : ∀ o, o ≠ 44 → m1 o = m o := fun o ho => by rw [hm1]; exact k_mset_ne ho
  have e44 : ∀ j, m1 44 j = if j = i then kor (m 44 i) (kshl 1 h) else m 44 j := fun j => by rw [hm1]; exact k_mset_at
  clear hm1
  have hT1 := TB_same hT e1
  have hv1 : m1 44 i = kor (m 44 i) (kshl 1 h) := by rw [e44, if_pos rfl]
  have hml1 : mloC w d l (kor (m 44 i) (kshl 1 h)) := ⟨k_in_kor _ _, fun x hx => by
    rcases mbt_or.mp hx with a | a
    · exact hml.2 x a
    · rw [(hbh x).mp a]; exact hh⟩
  have hmb1 : ∀ x, mbt (kor (m 44 i) (kshl 1 h)) x ↔ x ∈ h :: R := fun x => by
    rw [mbt_or, hbh, hmb, List.mem_cons]
    exact Or.comm
  have elt : ∀ j, 0 ≤ j → j < i → m1 44 j = m 44 j := fun j _ b => by rw [e44, if_neg (by omega)]
  have hbound : -2147483648 ≤ depth + 1 ∧ depth + 1 ≤ 2147483647 := by omega
  have hbhm : mloC w d l (kshl 1 h) := ⟨k_in_kshl _ _, fun x hx => by rw [(hbh x).mp hx]; exact hh⟩
  refine kCall_mono (c_X10_oneMove X m1 hD hT1.grid hT1.msk h24 (kshl 1 h) hbhm) (by omega) ?_
  rintro _ m1 ⟨z, ⟨rfl, hz, hzb⟩, rfl⟩
  have hzs : ∀ y, inC w d l y → (mbt z y ↔ Y.st h y) := by
    intro y hy
    rw [hzb y hy, hT.lo.st]
    constructor
    · rintro ⟨x, h1, h2⟩
      rw [(hbh x).mp h1] at h2
      exact h2
    · intro h1
      exact ⟨h, (hbh h).mpr rfl, h1⟩
  refine And.intro (fun hz0 => ?_) (fun hz0 => ?_)
  · -- the target isn't beside the head
    have hnt : ¬ Y.st h (Y.t i) := fun q => (mbt_neb ⟨ht2, by omega⟩).mpr ((hzs _ htin).mpr q) hz0
    refine ⟨by constructor <;> omega, by constructor <;> omega, ?_⟩
    refine kCall_mono (c_X10_laterCanJoin X m1 hD hN h24 hT1 (i + 1) (i + 1) (by omega) (by omega) (U := UL U i (h :: R)) (fun u hu => ?_) (Wy_in hW hUi elt hv1 hml1 hmb1)) (by omega) ?_
    · rcases List.mem_append.mp hu with hu | hu
      · obtain ⟨x, hx, rfl⟩ := List.mem_map.mp hu
        exact ⟨hi, by show i < i + 1; omega⟩
      · have := hUi u hu
        omega
    rintro _ m1 ⟨⟨hl, rfl⟩ | ⟨hl, rfl⟩, rfl⟩
    · refine And.intro (fun h => absurd h (by decide)) (fun _ => ?_)
      obtain ⟨rest, hrest⟩ : ∃ rest, rest = kand (kand o (kxor z (-1))) (kxor (kshl 1 h) (-1)) := ⟨_, rfl⟩
      have hrb : ∀ y, mbt rest y ↔ Op Y.st (Y.fr i U) (h :: R) y := by
        intro y
        rw [hrest, mbt_and, mbt_and, Op_cons, ← hob]
        constructor
        · rintro ⟨⟨h1, h2⟩, h3⟩
          rw [mbt_not h1.1, hzs y (ho.2 y h1)] at h2
          rw [mbt_not h1.1, hbh] at h3
          exact ⟨h1, h2, h3⟩
        · rintro ⟨h1, h2, h3⟩
          exact ⟨⟨h1, (mbt_not h1.1).mpr (fun q => h2 ((hzs y (ho.2 y h1)).mp q))⟩, (mbt_not h1.1).mpr (fun q => h3 ((hbh y).mp q))⟩
      have hrm : mloC w d l rest := ⟨by rw [hrest]; exact k_in_kand _ _, fun x hx => ho.2 x (by rw [hrest] at hx; exact (mbt_and.mp (mbt_and.mp hx).1).1)⟩
      -- a way was found
      have hone : ∀ (c : Int) (m2 : Mem) (x11 : Option AV), (∀ o, o ≠ 44 → m2 o = m o) → (∀ j, 0 ≤ j → j < i → m2 44 j = m 44 j) → G → kW (eX X) (30 * k + q + 30) M_X10_extend T 5 [some (vR 41), some (vI i), some (vI (kshl 1 h)), some (vI o), some (vI depth), some (vI (m 44 i)), some (vI (kshl 1 (Y.t i))), some (vI z), some (vI 1), some (vI rest), some (vI c), x11] [] m2 := by
        intro c m2 x11 f1 f2 hg
        refine kW_go ok_X10_extend [7] 20 ?_
        exact ⟨fun _ => hfin 1 m2 _ _ _ _ _ f1 f2 (Or.inl ⟨rfl, hg⟩), fun _ => And.intro (fun _ => hfin 1 m2 _ _ _ _ _ f1 f2 (Or.inl ⟨rfl, hg⟩)) (fun h => absurd h (by decide))⟩
      have loop : ∀ (n : Nat) (c : Int) (m2 : Mem) (x11 : Option AV), c + n = w * d * l → 0 ≤ c → (∀ o, o ≠ 44 → m2 o = m o) → (∀ j, 0 ≤ j → j < i → m2 44 j = m 44 j) → m2 44 i = kor (m 44 i) (kshl 1 h) → (∀ y, 0 ≤ y → y < c → ¬ (Y.st h y ∧ Op Y.st (Y.fr i U) R y ∧ GO Y.st (Y.fr i U) (Y.t i) (fun Q => FA Y k (i + 1) (UL U i Q)) (y :: h :: R))) → kW (eX X) (30 * k + q + 30) M_X10_extend T 5 [some (vR 41), some (vI i), some (vI (kshl 1 h)), some (vI o), some (vI depth), some (vI (m 44 i)), some (vI (kshl 1 (Y.t i))), some (vI z), some (vI 0), some (vI rest), some (vI c), x11] [] m2 := by
        intro n
        induction n with
        | zero =>
          intro c m2 x11 hn hc f1 f2 f3 hno
          have hTm := TB_same hT f1
          have g4 : m2 1 4 = w * d * l := hTm.grid.2.2.2.2.1
          have hng : ¬ G := by
            rw [hG, GO_iff hst hht]
            rintro ⟨y, y1, y2, y3⟩
            have hy : inC w d l y := by rw [hT.lo.st] at y1; exact stM_in y1
            exact hno y hy.1 (by have := hy.2; omega) ⟨y1, y2, y3⟩
          refine kW_go ok_X10_extend [5, 7] 20 ?_
          have g4' : fld m2 1 4 = w * d * l := g4
          exact ⟨fun _ => hfin 0 m2 _ _ _ _ _ f1 f2 (Or.inr ⟨rfl, hng⟩), fun h => absurd h (by omega)⟩
        | succ n ih =>
          intro c m2 x11 hn hc f1 f2 f3 hno
          have hTm := TB_same hT f1
          have g4 : m2 1 4 = w * d * l := hTm.grid.2.2.2.2.1
          have g4' : fld m2 1 4 = w * d * l := g4
          have hcin : inC w d l c := ⟨hc, by omega⟩
          -- no way by this cell
          have hnx : ∀ (m3 : Mem) (y11 : Option AV), (∀ o, o ≠ 44 → m3 o = m o) → (∀ j, 0 ≤ j → j < i → m3 44 j = m 44 j) → m3 44 i = kor (m 44 i) (kshl 1 h) → ¬ (Y.st h c ∧ Op Y.st (Y.fr i U) R c ∧ GO Y.st (Y.fr i U) (Y.t i) (fun Q => FA Y k (i + 1) (UL U i Q)) (c :: h :: R)) → kW (eX X) (30 * k + q + 30) M_X10_extend T 6 [some (vR 41), some (vI i), some (vI (kshl 1 h)), some (vI o), some (vI depth), some (vI (m 44 i)), some (vI (kshl 1 (Y.t i))), some (vI z), some (vI 0), some (vI rest), some (vI c), y11] [] m3 := by
            intro m3 y11 k1 k2 k3 k4
            refine kW_go ok_X10_extend [5] 20 ?_
            refine ⟨by constructor <;> omega, ih (c + 1) m3 _ (by omega) (by omega) k1 k2 k3 (fun y y0 y1 => ?_)⟩
            by_cases e : y = c
            · rw [e]; exact k4
            · exact hno y y0 (by omega)
          refine kW_go ok_X10_extend [5, 6, 7] 40 ?_
          refine ⟨fun h => absurd h (by omega), fun _ => And.intro (fun h => absurd rfl h) (fun _ => And.intro (fun h0 => ?_) (fun h0 => ?_))⟩
          · refine hnx m2 _ f1 f2 f3 (fun hq => ?_)
            exact (mbt_neb ⟨hc, by omega⟩).mpr (mbt_and.mpr ⟨(hzs c hcin).mpr hq.1, (hob c).mpr hq.2.1⟩) h0
          · have hco := mbt_and.mp ((mbt_neb ⟨hc, by omega⟩).mp h0)
            have hsc := (hzs c hcin).mp hco.1
            have hoc := (hob c).mp hco.2
            have hct : c ≠ Y.t i := fun e => hnt (by rw [← e]; exact hsc)
            have hch : c ≠ h := fun e => hst h (by rw [e] at hsc; exact hsc)
            have hbc : ∀ x, mbt (kshl 1 c) x ↔ x = c := fun x => mbt_bit ⟨hc, by omega⟩
            refine kCall_mono (c_X10_canReach X m2 hD hN hTm.grid hTm.msk h24 c (Y.t i) (kor rest (kshl 1 c)) hcin htin ⟨k_in_kor _ _, fun x hx => ?_⟩ hct) (by omega) ?_
            · rcases mbt_or.mp hx with a | a
              · exact hrm.2 x a
              · rw [(hbc x).mp a]; exact hcin
            rintro _ m2 ⟨⟨hr, rfl⟩ | ⟨hr, rfl⟩, rfl⟩
            · refine And.intro (fun h => absurd h (by decide)) (fun _ => ⟨hbound, ?_⟩)
              have hcR : c ∉ h :: R := fun q => by
                rcases List.mem_cons.mp q with q | q
                · exact hch q
                · exact hoc.2.1 q
              have hDj2 := Dj_cons hDj hcin (Lay_fresh hT.lo ⟨hi, by omega⟩ hU hoc.1) hcR
              have hlen2 := Dj_len hN hDj2
              rw [List.length_cons, List.length_cons] at hlen2
              obtain ⟨q', hq'⟩ : ∃ q', q' + 1 = q := ⟨q - 1, by omega⟩
              refine kCall_mono (IH q' hq' m2 i c rest (depth + 1) U (h :: R) hik hi hk hTm hU (fun j a b => by rw [f2 j a b]; exact hW j a b) hDj2 (by rw [List.length_cons]; omega) (by rw [List.length_cons]; omega) (by rw [f3]; exact hml1) (by rw [f3]; exact hmb1) (fun x hx => ?_) (fun q => ?_) (fun y hy => ?_) hrm hrb) (by omega) ?_
              · rcases List.mem_cons.mp hx with e | e
                · rw [e]
                  rcases hoc.1 with a | a | a
                  · exact Or.inl a
                  · exact Or.inr (Or.inl a)
                  · exact Or.inr (Or.inr a.1)
                · exact hLR x e
              · rcases List.mem_cons.mp q with e | e
                · exact hct e.symm
                · exact ht0 e
              · rcases List.mem_cons.mp hy with e | e
                · rw [e]; exact hnt
                · exact ht1 y e
              rintro _ m3 ⟨hres, k1, k2⟩
              have l1 : ∀ o, o ≠ 44 → m3 o = m o := fun o ho => by rw [k1 o ho]; exact f1 o ho
              have l2 : ∀ j, 0 ≤ j → j < i → m3 44 j = m 44 j := fun j a b => by rw [k2 j a (by omega)]; exact f2 j a b
              have l3 : m3 44 i = kor (m 44 i) (kshl 1 h) := by rw [k2 i hi (by omega)]; exact f3
              rcases hres with ⟨hg, rfl⟩ | ⟨hg, rfl⟩
              · refine kW_go ok_X10_extend [5] 20 ?_
                exact ⟨by constructor <;> omega, hone (c + 1) m3 _ l1 l2 (by rw [hG]; exact (GO_iff hst hht).mpr ⟨c, hsc, hoc, hg⟩)⟩
              · exact hnx m3 _ l1 l2 l3 (fun hq => hg hq.2.2)
            · refine And.intro (fun _ => hnx m2 _ f1 f2 f3 (fun hq => hr ?_)) (fun h => absurd rfl h)
              have := GO_reach hq.2.2 c (h :: R) rfl (mbt (kor rest (kshl 1 c))) (fun x hx _ => mbt_or.mpr (Or.inl ((hrb x).mpr hx)))
              rw [hT.lo.st] at this
              exact this
      rw [hrest] at loop
      exact loop (w * d * l).toNat 0 m1 _ (by omega) (by omega) e1 elt hv1 (fun y a b => by omega)
    · refine And.intro (fun _ => hfin 0 m1 _ _ _ _ _ e1 elt (Or.inr ⟨rfl, fun hg => hl (fun j a b => ?_)⟩)) (fun h => absurd rfl h)
      rw [hG] at hg
      exact GO_later hg j a (by omega)
  · -- the target is beside the head
    have hnt : Y.st h (Y.t i) := (hzs _ htin).mp ((mbt_neb ⟨ht2, by omega⟩).mp hz0)
    have hop : Op Y.st (Y.fr i U) R (Y.t i) := ⟨Or.inr (Or.inl rfl), fun q => ht0 (List.mem_cons_of_mem _ q), ht1⟩
    have hGF : G ↔ FA Y k (i + 1) (UL U i (Y.t i :: h :: R)) := by
      rw [hG]
      exact GO_near hht hnt hop
    refine ⟨hi3, hi3, by constructor <;> omega, by constructor <;> omega, ?_⟩
    have e2 : ∀ o, o ≠ 44 → mset m1 44 i (kor (m1 44 i) (kshl 1 (Y.t i))) o = m o := fun o ho => by rw [k_mset_ne ho]; exact e1 o ho
    have hv2 : mset m1 44 i (kor (m1 44 i) (kshl 1 (Y.t i))) 44 i = kor (kor (m 44 i) (kshl 1 h)) (kshl 1 (Y.t i)) := by rw [k_mset_at, if_pos rfl, hv1]
    have elt2 : ∀ j, 0 ≤ j → j < i → mset m1 44 i (kor (m1 44 i) (kshl 1 (Y.t i))) 44 j = m 44 j := fun j a b => by rw [k_mset_at, if_neg (by omega)]; exact elt j a b
    have hml2 : mloC w d l (kor (kor (m 44 i) (kshl 1 h)) (kshl 1 (Y.t i))) := ⟨k_in_kor _ _, fun x hx => by
      rcases mbt_or.mp hx with a | a
      · exact hml1.2 x a
      · rw [(hbt x).mp a]; exact htin⟩
    have hmb2 : ∀ x, mbt (kor (kor (m 44 i) (kshl 1 h)) (kshl 1 (Y.t i))) x ↔ x ∈ Y.t i :: h :: R := fun x => by
      rw [mbt_or, hbt, hmb1]
      exact ⟨fun q => q.elim (fun q => List.mem_cons_of_mem _ q) (fun e => by rw [e]; exact List.mem_cons_self), fun q => (List.mem_cons.mp q).elim Or.inr Or.inl⟩
    have hW2 := Wy_in (L := Y.t i :: h :: R) hW hUi elt2 hv2 hml2 hmb2
    have hDj2 : Dj w d l U (Y.t i :: h :: R) := Dj_cons hDj htin (Lay_fresh hT.lo ⟨hi, by omega⟩ hU (Or.inr (Or.inl rfl))) ht0
    have hUB2 : UB w d l Y (UL U i (Y.t i :: h :: R)) (i + 1) := UB_in hi hU (fun x hx => by
      rcases List.mem_cons.mp hx with e | e
      · rw [e]; exact ⟨htin, Or.inr (Or.inl rfl)⟩
      · exact ⟨hRin x e, hLR x e⟩)
    refine kCall_mono (c_X10_laterCanJoin X (mset m1 44 i (kor (m1 44 i) (kshl 1 (Y.t i)))) hD hN h24 (TB_same hT e2) (i + 1) (i + 1) (by omega) (by omega) (U := UL U i (Y.t i :: h :: R)) (fun u hu => (hUB2 u hu).1) hW2) (by omega) ?_
    rintro _ m2 ⟨⟨hl, rfl⟩ | ⟨hl, rfl⟩, hm2⟩
    · refine And.intro (fun h => absurd h (by decide)) (fun _ => ⟨by constructor <;> omega, hbound, ?_⟩)
      have hlenU : ((UL U i (Y.t i :: h :: R)).length : Int) = depth + 1 := by
        unfold UL
        rw [List.length_append, List.length_map, List.length_cons, List.length_cons]
        omega
      rw [← hm2] at e2 elt2 hW2
      refine kCall_mono (hF m2 (i + 1) (depth + 1) (UL U i (Y.t i :: h :: R)) (by omega) (by omega) (TB_same hT e2) hUB2 hW2 (Dj_done hDj2) hlenU.symm hl) (by omega) ?_
      rintro _ m3 ⟨hres, k1, k2⟩
      have l1 : ∀ o, o ≠ 44 → m3 o = m o := fun o ho => by rw [k1 o ho]; exact e2 o ho
      have l2 : ∀ j, 0 ≤ j → j < i → m3 44 j = m 44 j := fun j a b => by rw [k2 j a (by omega)]; exact elt2 j a b
      rcases hres with ⟨hg, rfl⟩ | ⟨hg, rfl⟩
      · exact And.intro (fun h => absurd h (by decide)) (fun _ => hfin 1 m3 _ _ _ _ _ l1 l2 (Or.inl ⟨rfl, hGF.mpr hg⟩))
      · exact And.intro (fun _ => hfin 0 m3 _ _ _ _ _ l1 l2 (Or.inr ⟨rfl, fun q => hg (hGF.mp q)⟩)) (fun h => absurd rfl h)
    · rw [← hm2] at e2 elt2
      exact And.intro (fun _ => hfin 0 m2 _ _ _ _ _ e2 elt2 (Or.inr ⟨rfl, fun q => hl (fun j a b => FA_reach k (i + 1) _ (hGF.mp q) j a (by omega))⟩)) (fun h => absurd rfl h)
theorem EX_all {X : Xv} {w d l A : Int} {Y : Lay} (hD : okD w d l) (hN : w * d * l = (nC X : Int)) (h24 : w * d * l ≤ 24) {k : Nat} (hF : FWc X w d l A Y k) : ∀ q, EXc X w d l A Y k q := by
  intro q
  induction q with
  | zero => exact EX_one hD hN h24 hF (fun q' h => by omega)
  | succ q ih => exact EX_one hD hN h24 hF (fun q' h => by rw [show q' = q by omega]; exact ih)
set_option maxRecDepth 100000 in
theorem FW_all {X : Xv} {w d l A : Int} {Y : Lay} (hD : okD w d l) (hN : w * d * l = (nC X : Int)) (h24 : w * d * l ≤ 24) : ∀ k, FWc X w d l A Y k := by
  intro k
  induction k with
  | zero =>
    intro m i depth U hik hi hT hU hW hDj hdep hR
    have hA := hT.am
    have hA6 : m 41 6 = A := hA.1
    have hA7 : fld m 41 6 = A := hA.1
    refine kCall_ofT ok_X10_findWays rfl (Nat.le_of_ble_eq_true rfl) (fun T hTT => ?_)
    refine kW_go ok_X10_findWays [] 20 ?_
    exact ⟨by constructor <;> omega, And.intro (fun h => absurd h (by omega)) (fun _ => hTT _ _ ⟨Or.inr rfl, Or.inl ⟨trivial, rfl⟩, fun _ _ => rfl, fun _ _ _ => rfl⟩)⟩
  | succ k ih =>
    intro m i depth U hik hi hT hU hW hDj hdep hR
    have hA := hT.am
    have hA6 : m 41 6 = A := hA.1
    have hA7 : fld m 41 6 = A := hA.1
    have hi3 : 0 ≤ i ∧ i < ((3 : Nat) : Int) := by omega
    have hUi : ∀ u ∈ U, 0 ≤ u.1 ∧ u.1 < i := fun u hu => (hU u hu).1
    have hci := hT.ch i hi (by omega)
    refine kCall_ofT ok_X10_findWays rfl (Nat.le_of_ble_eq_true rfl) (fun T hTT => ?_)
    refine kW_go ok_X10_findWays [] 40 ?_
    refine ⟨by constructor <;> omega, And.intro (fun hlt => ?_) (fun hlt => hTT _ _ ⟨Or.inr rfl, Or.inl ⟨?_, rfl⟩, fun _ _ => rfl, fun _ _ _ => rfl⟩)⟩
    · have hk1 : 1 ≤ k := by omega
      refine kCall_mono (c_X10_openAt X m hD h24 hT i i ⟨hi, by omega⟩ ⟨hi, by omega⟩ hUi hW) (by omega) ?_
      rintro _ m ⟨z, ⟨rfl, hz1, hz2⟩, rfl⟩
      refine ⟨hi3, ?_⟩
      refine kCall_mono (c_X3_pinCell X m (m 42 i) 0 hci.1 (by omega)) (by omega) ?_
      rintro r m ⟨hr, rfl⟩
      have hr' : r = some (vI (Y.a i)) := by rw [hT.pa]; exact hr
      subst hr'
      clear hr
      have hain := hci.2.2.2.1
      have hDj2 : Dj w d l U [Y.a i] := Dj_cons hDj hain (Lay_fresh hT.lo ⟨hi, by omega⟩ hU (Or.inl rfl)) (by simp)
      have hlen := Dj_len hN hDj2
      rw [List.length_singleton] at hlen
      have e1 : ∀ o, o ≠ 44 → mset m 44 i 0 o = m o := fun o ho => k_mset_ne ho
      have hv : mset m 44 i 0 44 i = 0 := by rw [k_mset_at, if_pos rfl]
      have elt : ∀ j, 0 ≤ j → j < i → mset m 44 i 0 44 j = m 44 j := fun j a b => by rw [k_mset_at, if_neg (by omega)]
      refine ⟨hi3, by constructor <;> omega, ?_⟩
      refine kCall_mono (EX_all hD hN h24 ih (23 - U.length) (mset m 44 i 0) i (Y.a i) z (depth + 1) U [] (by omega) hi hk1 (TB_same hT e1) hU (fun j a b => by rw [elt j a b]; exact hW j a b) hDj2 (by rw [List.length_nil]; omega) (by rw [List.length_nil]; omega) (by rw [hv]; exact ⟨by decide, fun x hx => absurd hx mbt_zero⟩) (fun x => by rw [hv]; exact ⟨fun h => absurd h mbt_zero, fun h => by cases h⟩) (fun x hx => Or.inl (List.mem_singleton.mp hx)) (fun q => hT.lo.ne i hi (by omega) (List.mem_singleton.mp q).symm) (fun y hy => by cases hy) hz1 (fun y => ?_)) (by omega) ?_
      · rw [hz2]
        exact ⟨fun h => ⟨h, by simp, fun y hy => by cases hy⟩, fun h => h.1⟩
      rintro _ m3 ⟨hres, k1, k2⟩
      have l1 : ∀ o, o ≠ 44 → m3 o = m o := fun o ho => by rw [k1 o ho]; exact e1 o ho
      have l2 : ∀ j, 0 ≤ j → j < i → m3 44 j = m 44 j := fun j a b => by rw [k2 j a (by omega)]; exact elt j a b
      rcases hres with ⟨hg, rfl⟩ | ⟨hg, rfl⟩
      · exact hTT _ _ ⟨Or.inr rfl, Or.inl ⟨hg, rfl⟩, l1, l2⟩
      · exact hTT _ _ ⟨Or.inl rfl, Or.inr ⟨hg, rfl⟩, l1, l2⟩
    · rw [show k = 0 by omega]
      exact FA_last.mpr (hR i (by omega) (by omega))
