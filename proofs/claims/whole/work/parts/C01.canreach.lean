/-! TOGETHER, the class: whether a way is there at all -/
theorem c_X10_canReach (X : Xv) (m : Mem) {w d l : Int} (hD : okD w d l) (hN : w * d * l = (nC X : Int)) (hG : gridC m w d l) (hK : MK w d l m) (h24 : w * d * l ≤ 24) (s t o : Int) (hs : inC w d l s) (ht : inC w d l t) (ho : mloC w d l o) (hst : s ≠ t) : kCall (eX X) 2 M_X10_canReach.1 [vR 41, vI (kshl 1 s), vI (kshl 1 t), vI o] m (bP (Rt (stM w d l) (mbt o) t s) m) := by
  refine kCall_ofT ok_X10_canReach rfl (Nat.le_of_ble_eq_true rfl) (fun T hT => ?_)
  have hs0 := hs.1
  have hs1 := hs.2
  have ht0 := ht.1
  have ht1 := ht.2
  have loop : ∀ (k : Nat) (i v : Int) (x6 : Option AV), i + k = 24 → 0 ≤ i → mloC w d l v → (∀ x, mbt v x → Rch (fun x y => stM w d l x y ∧ mbt o y) s x) → mbt v s → ¬ mbt v t → (∃ L : List Int, L.Nodup ∧ (∀ x ∈ L, mbt v x) ∧ (L.length : Int) = i + 1) → kW (eX X) 1 M_X10_canReach T 1 [some (vR 41), some (vI (kshl 1 s)), some (vI (kshl 1 t)), some (vI o), some (vI v), some (vI i), x6] [] m := by
    intro k
    induction k with
    | zero =>
      intro i v x6 hk hi hv hr hsv htv hL
      obtain ⟨L, l1, l2, l3⟩ := hL
      have := pigeon (nC X) L l1 (fun x hx => ⟨(hv.2 x (l2 x hx)).1, by have := (hv.2 x (l2 x hx)).2; omega⟩)
      omega
    | succ k ih =>
      intro i v x6 hk hi hv hr hsv htv hL
      refine kW_go ok_X10_canReach [1] 40 ?_
      refine ⟨fun h => absurd h (by omega), fun _ => ?_⟩
      refine kCall_mono (c_X10_oneMove X m hD hG hK h24 v hv) (Nat.le_of_ble_eq_true rfl) ?_
      rintro _ m1 ⟨z, ⟨rfl, hz, hzb⟩, rfl⟩
      have hmb : ∀ x, mbt (kor v (kand z o)) x ↔ mbt v x ∨ (∃ y, mbt v y ∧ stM w d l y x) ∧ mbt o x := by
        intro x
        rw [mbt_or, mbt_and]
        constructor
        · rintro (h | ⟨h1, h2⟩)
          · exact Or.inl h
          · exact Or.inr ⟨(hzb x (ho.2 x h2)).mp h1, h2⟩
        · rintro (h | ⟨h1, h2⟩)
          · exact Or.inl h
          · exact Or.inr ⟨(hzb x (ho.2 x h2)).mpr h1, h2⟩
      have hmr : ∀ x, mbt (kor v (kand z o)) x → Rch (fun x y => stM w d l x y ∧ mbt o y) s x := by
        intro x hx
        rcases (hmb x).mp hx with h | ⟨⟨y, h1, h2⟩, h3⟩
        · exact hr x h
        · exact Rch_to (hr y h1) ⟨h2, h3⟩
      have hml : mloC w d l (kor v (kand z o)) := ⟨k_in_kor _ _, fun x hx => by
        rcases (hmb x).mp hx with h | ⟨-, h⟩
        · exact hv.2 x h
        · exact ho.2 x h⟩
      refine And.intro (fun h => ?_) (fun h => ?_)
      · have htn : ¬ mbt (kor v (kand z o)) t := fun q => (mbt_neb (by omega)).mpr q h
        refine And.intro (fun hne => ?_) (fun heq => ?_)
        · refine ⟨by constructor <;> omega, ih (i + 1) _ _ (by omega) (by omega) hml hmr ((hmb s).mpr (Or.inl hsv)) htn ?_⟩
          obtain ⟨L, l1, l2, l3⟩ := hL
          obtain ⟨y, y1, y2⟩ : ∃ y, mbt (kor v (kand z o)) y ∧ ¬ mbt v y := by
            refine Classical.byContradiction (fun hno => hne ?_)
            refine mbt_ext (k_in_kor _ _) hv.1 (fun x => ⟨fun q => Classical.byContradiction (fun q' => hno ⟨x, q, q'⟩), fun q => (hmb x).mpr (Or.inl q)⟩)
          refine ⟨y :: L, List.nodup_cons.mpr ⟨fun q => y2 (l2 y q), l1⟩, fun x hx => ?_, by rw [List.length_cons]; omega⟩
          rcases List.mem_cons.mp hx with e | e
          · rw [e]; exact y1
          · exact (hmb x).mpr (Or.inl (l2 x e))
        · refine hT _ _ ⟨Or.inl rfl, Or.inr ⟨fun q => ?_, rfl⟩, rfl⟩
          have heq : kor v (kand z o) = v := heq
          refine htv (Rch_ind (P := fun c => mbt v c) (fun c e hc hce => ?_) hsv q)
          rw [← heq]
          exact (hmb e).mpr (Or.inr ⟨⟨c, hc, hce.1⟩, hce.2⟩)
      · have htn : mbt (kor v (kand z o)) t := (mbt_neb (by omega)).mp h
        exact hT _ _ ⟨Or.inr rfl, Or.inl ⟨hmr t htn, rfl⟩, rfl⟩
  refine kW_go ok_X10_canReach [1] 20 ?_
  have hsb : ∀ x, mbt (kshl 1 s) x ↔ x = s := fun x => mbt_bit (by omega)
  refine loop 24 0 (kshl 1 s) _ rfl (by omega) ⟨k_in_kshl _ _, fun x hx => by rw [(hsb x).mp hx]; exact hs⟩ (fun x hx => by rw [(hsb x).mp hx]; exact Rch_rf) ((hsb s).mpr rfl) (fun q => hst ((hsb t).mp q).symm) ⟨[s], List.nodup_cons.mpr ⟨by simp, List.nodup_nil⟩, fun x hx => by rw [List.mem_singleton.mp hx]; exact (hsb s).mpr rfl, rfl⟩
