/-! the machine's small steps are the machine's: soundness -/
theorem kHp_up {E : Ev} {ad : Nat → Nat} {A B : Nat → Prop} {m : Mem} {H : Heap} (h : kHp E ad A m H) (hAB : ∀ q, A q → B q) : kHp E ad B m H := ⟨h.1, h.2.1.weaken (fun _ q _ => hAB q.1), h.2.2⟩
theorem kHp_self {E : Ev} {ad : Nat → Nat} {A : Nat → Prop} {m : Mem} {H : Heap} (h : kHp E ad A m H) : kHp E ad (kAd E ad) m H := by
  refine ⟨h.1, ⟨h.2.1.1, fun k q hk => ?_⟩, h.2.2⟩
  unfold k_wl at hk
  rw [List.getElem?_mapIdx] at hk
  cases hd : E.2.2.2.1[k]? with
  | none => rw [hd] at hk; cases hk
  | some d =>
    rw [hd] at hk
    have hk : k_ent E.2.2.1 ad m k d = q := Option.some.inj hk
    refine ⟨k, (List.getElem?_eq_some_iff.mp hd).1, ?_⟩
    rw [← hk]
    match d with
    | .inl (ci, rs) => rfl
    | .inr (ty, n) => rfl
theorem kRo_move {E : Ev} {ad : Nat → Nat} {A : Nat → Prop} {s U : State} {H : Heap} {locs : List Loc} (h : kRo E ad A s s.heap) (hS : va_S A s.heap H locs) (hU : U.heap = H) (hW : s.WarmedH U.vm) (hA : ∀ q, kAd E ad q → A q) : kRo E ad (kAd E ad) U U.heap := by
  have hk : ∀ a : Nat, a < s.heap.size → ¬ A a → H[a]? = s.heap[a]? := hS.2.1
  refine ⟨fun j q hj => ?_, fun j t hj => ?_, fun w hw => ?_⟩
  · rw [hU]; exact (((h.1 j q hj).kept hk).narrow hA).moved hW.alike
  · obtain ⟨h1, h2⟩ := h.2.1 j t hj
    refine ⟨?_, h2⟩
    rw [hU]
    rcases h1 with h1 | h1
    · exact Or.inl ⟨h1.1, ((h1.2.kept hk).narrow hA).moved hW.alike⟩
    · exact Or.inr ⟨h1.1, ((h1.2.kept hk).narrow hA).moved hW.alike⟩
  · have h3 := h.2.2 w hw
    simp only [k_NW, List.mem_cons, List.not_mem_nil, or_false] at hw
    rcases hw with rfl | rfl | rfl <;> exact va_Nw.warmF hW h3
theorem kPc_blind {E : Ev} {as : List AV} {m : Mem} {ad : Nat → Nat} : FrameBlind (va_Pc (as.map (rv ad)) (fun U => kHp E ad (kAd E ad) m U.heap ∧ va_K E.2.1 cls (k_tys E.2.2.1) U ∧ kRo E ad (kAd E ad) U U.heap ∧ kLen E.2.2.2.1)) := by
  intro a U g mk h
  obtain ⟨h1, h2, h3, h4, h5⟩ := h
  have hvm : (U.calling g mk a).vm = U.vm := rfl
  have hal : U.vm.Alike (U.calling g mk a).vm := Vm.Alike.refl U.vm
  refine ⟨h1, h2, va_K.moved hal h3, ⟨fun j q hj => (h4.1 j q hj).moved hal, fun j t hj => ?_, fun w hw => ?_⟩, h5⟩
  · obtain ⟨a1, a2⟩ := h4.2.1 j t hj
    refine ⟨?_, a2⟩
    rcases a1 with a1 | a1
    · exact Or.inl ⟨a1.1, a1.2.moved hal⟩
    · exact Or.inr ⟨a1.1, a1.2.moved hal⟩
  · have h6 := h4.2.2 w hw
    simp only [k_NW, List.mem_cons, List.not_mem_nil, or_false] at hw
    rcases hw with rfl | rfl | rfl <;> exact va_Nw.same rfl rfl h6
section KS
variable {E : Ev} {h : Nat} {M : Md} {T : Option AV → Mem → Prop} {p : Program} {e : Env} {R : Room} {s : State} {mm : MethodId} {args : Array Value} {below : List Frame} {meth : Method} {c : Code} {cells slots : Nat} {Qf : State → Prop} {ad : Nat → Nat} {A : Nat → Prop}
theorem k_callW {Q : Option AV → Mem → Prop} {H : Heap} {locs : List Loc} {pc : Nat} {ls : Array Slot} {st0 rest : List Value}
    (hr : va_Run p E.1 e R s mm args below meth c H locs cells slots 0 0 (F0 mm pc ls st0) rest (fun st oc t => (∃ (r : Option AV) (m' : Mem), oc = .returned (r.map (rv ad)) ∧ Q r m' ∧ kHp E ad (kAd E ad) m' t.heap ∧ ∀ v, r = some v → kV v) ∧ va_F (kAd E ad) st t) (kAd E ad))
    (hS : va_S A s.heap H locs) (hA : ∀ q, kAd E ad q → A q)
    (kk : ∀ (r : Option AV) (m' : Mem) (H1 : Heap) (locs1 : List Loc), Q r m' → kHp E ad (kAd E ad) m' H1 → (∀ v, r = some v → kV v) → va_S A s.heap H1 locs1 → W p E.1 e R s mm args below meth c H1 locs1 cells slots Qf (F0 mm (pc + 3) ls ((r.map (rv ad)).toList ++ rest))) : W p E.1 e R s mm args below meth c H locs cells slots Qf (F0 mm pc ls st0) := by
  intro T hT X
  obtain ⟨v, st₀, t, T', L, h0, X', hL, e1, e2, ⟨⟨r, m', hv, hq, hp, hkv⟩, hz, hk⟩, st⟩ := hr T hT X
  have hv' : v = r.map (rv ad) := by injection hv
  subst hv'
  rw [h0] at hz hk
  obtain ⟨t2, a1, b1⟩ := kk r m' T'.heap (locs ++ L) hq (by rw [e1]; exact hp) hkv
    ⟨Nat.le_trans hS.1 (by rw [e1]; exact hz), fun q h1 h2 => by rw [e1, hk q (Nat.lt_of_lt_of_le h1 hS.1) (fun z => h2 (hA q z))]; exact hS.2.1 q h1 h2, fun q hq => by
      rcases List.mem_append.mp hq with h | h
      · exact hS.2.2 q h
      · exact hA _ (hL q h)⟩ T' rfl X'
  exact ⟨t2, st t2 a1, b1⟩
theorem k_goodTT {n : Nat} (hc : Cond.code (MT n).1 (MT n).2.1 (MT n).2.2.1 (MT n).2.2.2 ∈ TT) : GoodIn TT (Cond.code (MT n).1 (MT n).2.1 (MT n).2.2.1 (MT n).2.2.2 :: TT) := by
  intro w hw
  rcases List.mem_cons.mp hw with rfl | hw
  · exact ⟨hc, good_of_word (TT_good hc)⟩
  · exact ⟨hw, good_of_word (TT_good hw)⟩
theorem k_MR_at {n : Nat} {r : Nat × Nat × Nat × Nat × Nat × Nat} (hr : r ∈ k_MR) (hn : r.1 = n) : Cond.code (MT n).1 (MT n).2.1 (MT n).2.2.1 (MT n).2.2.2 ∈ TT ∧ Cond.initialized (MT n).1.cls ∈ TT ∧ (MT n).2.2.1 ≤ 21 ∧ ((MT n).1.cls ≠ "java/lang/invoke/MethodHandle" ∧ (MT n).1.cls ≠ "java/lang/invoke/VarHandle") ∧ (r.2.2.2.1 = 0 → Cond.static (MT n).1 ∈ TT) ∧ (r.2.2.2.1 = 1 → Cond.instanceMethod (MT n).1 ∈ TT ∧ (Nat.beq r.2.2.2.2.2 9999 = false → Cond.selects (MT n).1.cls (MT n).1 (MT n).1 ∈ TT)) := by
  have h1 := k_MR_ok r hr
  have h2 := k_code_in hr
  obtain ⟨a, b, c, d, f, g⟩ := r
  simp only at hn
  subst hn
  simp only [k_mchk, Bool.and_eq_true, decide_eq_true_eq] at h1
  obtain ⟨h3, h4, h5, h6⟩ := h1
  refine ⟨h2, k_at_in h3, Nat.le_of_ble_eq_true h4, h5, fun hz => ?_, fun hz => ?_⟩
  · simp only at hz
    subst hz
    exact k_at_in h6
  · simp only at hz
    subst hz
    simp only [Bool.and_eq_true] at h6
    refine ⟨k_at_in h6.1, fun hg => ?_⟩
    simp only at hg
    have h7 := h6.2
    rw [hg] at h7
    exact k_at_in h7
end KS
