/-! the rules that the contracts are proved by -/
theorem kCall_mono {E : Ev} {h h' n : Nat} {as : List AV} {m : Mem} {Q Q' : Option AV → Mem → Prop} (H : kCall E h n as m Q) (hh : h ≤ h') (hQ : ∀ r m', Q r m' → Q' r m') : kCall E h' n as m Q' :=
  fun h2 hl Q2 hq => H h2 (Nat.le_trans hh hl) Q2 (fun r m' q => hq r m' (hQ r m' q))
theorem k_blk_sound {E : Ev} {h : Nat} {M : Md} {T : Option AV → Mem → Prop} {p : Program} {e : Env} {R : Room} {s : State} {mm : MethodId} {args : Array Value} {below : List Frame} {meth : Method} {c : Code} {cells slots : Nat} {Qf : State → Prop} {ad : Nat → Nat} {A : Nat → Prop} (hM : k_okM M) (hX : kX E h M T p e R s mm args below meth c cells slots Qf ad A) {cuts : List Nat} :
    ∀ (f b : Nat) (L : KL) (S : List AV) (m : Mem), k_blk E.2.2.2.1 E.2.2.2.2 (kCall E h) T M.2.2.2.2 cuts (kW E h M T) f b L S m → kWW E M p e R s mm args below meth c cells slots Qf ad A (k_pc M b) L S m := by
  intro f
  induction f with
  | zero => intro b L S m hB; exact hB.elim
  | succ f ih =>
    intro b L S m hB
    unfold k_blk at hB
    split at hB
    · exact hB p e R s mm args below meth c cells slots Qf ad A hX
    · split at hB
      · rename_i q hq
        have hk : k_pc M b = q.1 := by unfold k_pc; rw [List.getD_eq_getElem?_getD, hq]; rfl
        rw [hk]
        exact k_sound hX ih q.2 q.1 L S m (List.all_eq_true.mp hM.2.2.2.2.1 q (List.mem_of_getElem? hq)) hB
      · exact hB.elim
/-- from a block on: run it until the cuts -/
theorem kW_go {E : Ev} {h : Nat} {M : Md} {T : Option AV → Mem → Prop} (hM : k_okM M) (cuts : List Nat) (f : Nat) {b : Nat} {L : KL} {S : List AV} {m : Mem}
    (H : k_go E.2.2.2.1 E.2.2.2.2 (kCall E h) T M.2.2.2.2 cuts (kW E h M T) f b L S m) : kW E h M T b L S m := by
  intro p e R s mm args below meth c cells slots Qf ad A hX
  unfold k_go at H
  split at H
  · rename_i q hq
    have hk : k_pc M b = q.1 := by unfold k_pc; rw [List.getD_eq_getElem?_getD, hq]; rfl
    rw [hk]
    exact k_sound hX (k_blk_sound hM hX f) q.2 q.1 L S m (List.all_eq_true.mp hM.2.2.2.2.1 q (List.mem_of_getElem? hq)) H
  · exact H.elim
theorem k_sl_len {ad : Nat → Nat} {as : List AV} (h : ∀ v ∈ as, kV v) : (lg_sl (as.map (rv ad))).length = as.length := by
  induction as with
  | nil => rfl
  | cons v as ih =>
    obtain ⟨h1, h2⟩ := k_kV_tail h
    have := ih h2
    match v, h1 with
    | .inl a, _ => simpa [lg_sl, rv, Value.category] using this
    | .inr (.inl a), _ => simpa [lg_sl, rv, Value.category] using this
theorem k_args_in {ad : Nat → Nat} {as : List AV} (h : ∀ v ∈ as, kV v) : ∀ (i j : Nat) (v : AV), as[j]? = some v → (i + j, rv ad v) ∈ lv_args i (as.map (rv ad)) := by
  induction as with
  | nil => intro i j v hv; simp at hv
  | cons a as ih =>
    intro i j v hv
    obtain ⟨h1, h2⟩ := k_kV_tail h
    simp only [List.map_cons, lv_args]
    have hc := kV_cat (ad := ad) h1
    rw [if_neg (by rw [hc]; decide)]
    cases j with
    | zero =>
      simp at hv
      subst hv
      exact List.mem_cons_self
    | succ j =>
      refine List.mem_cons_of_mem _ ?_
      have := ih h2 (i + 1) j v (by simpa using hv)
      rw [show i + (j + 1) = i + 1 + j by omega]
      exact this
/-- a method's contract out of its body -/
theorem kCall_of {E : Ev} {h n : Nat} {M : Md} {as : List AV} {m : Mem} {Q : Option AV → Mem → Prop} (hM : k_okM M) (hn : M.1 = n) (hlen : as.length ≤ M.2.2.1)
    (H : kW E h M (k_T M.2.2.2.1 Q) 0 (as.map some ++ List.replicate (M.2.2.1 - as.length) none) [] m) : kCall E (h + 1) n as m Q := by
  intro h' hh Q' hQ ad hV
  subst hn
  obtain ⟨m1, m2, m3, m4, m5, m6⟩ := id hM
  refine Met.ofW (cc := (MT M.1).2.1) (maxL := (MT M.1).2.2.1) (ret := (MT M.1).2.2.2) m4 rfl ?_
  intro p e s mm args below meth c s₁ B hml hv
  obtain ⟨rfl, hH, hK, hRo, hLn⟩ := hv
  have hts := atoms_spec (ws := Cond.code (MT M.1).1 (MT M.1).2.1 (MT M.1).2.2.1 (MT M.1).2.2.2 :: TT) B.pre
  have hown : s.vm.findClass (MT M.1).1.cls = some mm.cls := findClass_of_methodNamed B.named
  have hlocks := B.notSynchronized
  have hr := B.returns
  have hX : kX E h M (k_T M.2.2.2.1 Q) p e (k_rm h') s mm (as.map (rv ad)).toArray below meth c 0 0 (MQ below (fun _ st oc t => (∃ (r : Option AV) (m' : Mem), oc = .returned (r.map (rv ad)) ∧ Q' r m' ∧ kHp E ad (kAd E ad) m' t.heap ∧ ∀ v, r = some v → kV v) ∧ va_F (kAd E ad) st t) (as.map (rv ad)).toArray s 0 0 (kAd E ad)) ad (kAd E ad) := by
    refine ⟨B.exec, B.bytes, by rw [hml, m1], by rw [← m3]; exact hown, fun w hw => hts w (List.mem_cons_of_mem _ hw), by show h + 1 ≤ h'; omega, by show 40 * (h + 1) ≤ 40 * h'; omega, Nat.le_refl _, Nat.le_refl _, hK, hRo, fun o ho => ⟨o, ho, rfl⟩, hLn, ?_⟩
    intro r m' H' locs ls pc hT hp hS hdec
    rw [m2] at hr
    unfold k_T at hT
    split at hT
    · rename_i hret
      rw [hret] at hr
      split at hT
      · exact W.vret B.exec B.bytes hr (fun t ht _ => ⟨⟨none, m', rfl, hQ _ _ hT, by rw [ht]; exact hp, fun v hv => by cases hv⟩, hS.F ht⟩) hS.2.2 hdec
      · exact hT.elim
    · rename_i hret
      rw [hret] at hr
      split at hT
      · rename_i a
        exact W.iret B.exec B.bytes hr (fun t ht _ => ⟨⟨some (.inl a), m', rfl, hQ _ _ hT, by rw [ht]; exact hp, fun v hv => by cases hv; exact hdec.1⟩, hS.F ht⟩) hS.2.2 hdec.2
      · exact hT.elim
    · rename_i hret
      rw [hret] at hr
      split at hT
      · rename_i a
        obtain ⟨h01, hT⟩ := hT
        exact W.zret B.exec B.bytes hr (by rcases h01 with rfl | rfl <;> decide) (fun t ht _ => ⟨⟨some (.inl a), m', rfl, hQ _ _ hT, by rw [ht]; exact hp, fun v hv => by cases hv; exact hdec.1⟩, hS.F ht⟩) hS.2.2 hdec.2
      · exact hT.elim
    · exact hT.elim
  have hW := H p e (k_rm h') s mm (as.map (rv ad)).toArray below meth c 0 0 _ ad (kAd E ad) hX
  have hl := lv_entry (as.map (rv ad)) (n := (MT M.1).2.2.1) (by rw [k_sl_len hV, m1]; exact hlen)
  rw [lg_entry_eq]
  generalize (lg_sl (as.map (rv ad)) ++ List.replicate ((MT M.1).2.2.1 - (lg_sl (as.map (rv ad))).length) Slot.unset).toArray = ls at hl ⊢
  have hpc : k_pc M 0 = 0 := by
    unfold k_pc
    rw [List.getD_eq_getElem?_getD] at m6 ⊢
    cases hq : M.2.2.2.2[0]? with
    | none => rw [hq] at m6; cases m6
    | some q => rw [hq] at m6; exact m6
  rw [hpc] at hW
  refine hW s.heap [] ls hH va_S.rf ⟨⟨by rw [hl.1, m1], hl.2.1, fun q hq => ?_⟩, by simp; omega, fun v hv => ?_⟩ (fun v hv => by cases hv)
  · obtain ⟨v, h1, h2⟩ := k_lv_in.mp hq
    by_cases hlt : q.1 < as.length
    · rw [List.getElem?_append_left (by simpa using hlt), List.getElem?_map] at h1
      cases ha : as[q.1]? with
      | none => rw [ha] at h1; cases h1
      | some w =>
        rw [ha] at h1
        have : w = v := by simpa using h1
        subst this
        have := hl.2.2 (0 + q.1, rv ad w) (k_args_in hV 0 q.1 w ha)
        rw [h2]
        simpa using this
    · rw [List.getElem?_append_right (by simpa using hlt)] at h1
      rw [List.getElem?_replicate] at h1
      split at h1 <;> cases h1
  · rcases List.mem_append.mp hv with h1 | h1
    · obtain ⟨w, h2, h3⟩ := List.mem_map.mp h1
      rw [← Option.some.inj h3]
      exact hV w h2
    · have := (List.mem_replicate.mp h1).2
      cases this
