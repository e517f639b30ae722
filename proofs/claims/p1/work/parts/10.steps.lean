/-! every instruction, a step -/
section KS
variable {E : Ev} {h : Nat} {M : Md} {T : Option AV → Mem → Prop} {p : Program} {e : Env} {R : Room} {s : State} {mm : MethodId} {args : Array Value} {below : List Frame} {meth : Method} {c : Code} {cells slots : Nat} {Qf : State → Prop} {ad : Nat → Nat} {A : Nat → Prop}
theorem k_pc_of {b t : Nat} (h : (M.2.2.2.2.map (fun z => z.1))[b]? = some t) : k_pc M b = t := by
  unfold k_pc
  rw [List.getElem?_map] at h
  rw [List.getD_eq_getElem?_getD]
  cases hq : M.2.2.2.2[b]? with
  | none => rw [hq] at h; cases h
  | some q => rw [hq] at h; exact Option.some.inj h
theorem k_kV_tail {v : AV} {S : List AV} (h : ∀ w ∈ v :: S, kV w) : kV v ∧ ∀ w ∈ S, kV w := ⟨h v List.mem_cons_self, fun w hw => h w (List.mem_cons_of_mem _ hw)⟩
theorem k_kV_cons {v : AV} {S : List AV} (h1 : kV v) (h2 : ∀ w ∈ S, kV w) : ∀ w ∈ v :: S, kV w := by
  intro w hw
  rcases List.mem_cons.mp hw with rfl | hw
  · exact h1
  · exact h2 w hw
theorem k_sum_cat {S : List AV} (hV : ∀ v ∈ S, kV v) : ((S.map (rv ad)).map fun v => v.category).sum = (S.map k_cat).sum := by
  induction S with
  | nil => rfl
  | cons v S ih =>
    obtain ⟨h1, h2⟩ := k_kV_tail hV
    simp only [List.map_cons, List.sum_cons]
    rw [ih h2, kV_cat h1]
    match v, h1 with
    | .inl a, _ => rfl
    | .inr (.inl a), _ => rfl
/-- a call of a method with the receiver's class known -/
theorem k_stepV (hX : kX E h M T p e R s mm args below meth c cells slots Qf ad A) {pc j n na ci o : Nat} {rs : List (Option Nat)} {xs S' : List AV} {L : KL} {m : Mem} {Q : Option AV → Mem → Prop}
    (hd : decode (MT M.1).2.1 pc = .ok (.invokevirtual j, 3)) (hcl : (MT n).1.cls = CN ci)
    (hl : ∃ q ∈ k_LR, q.1 = M.2.1 ∧ q.2.1 = j ∧ q.2.2.1 = n ∧ q.2.2.2.1 + 1 = na) (hr : ∃ r ∈ k_MR, r.1 = n ∧ r.2.2.2.1 = 1 ∧ Nat.beq r.2.2.2.2.2 9999 = false)
    (hG : E.2.2.2.1[o]? = some (.inl (ci, rs))) (hlen : xs.length + 1 = na) (hsum : (S'.map k_cat).sum ≤ 8)
    (hC : kCall E h n (.inr (.inl o) :: xs) m Q) (kk : ∀ r m', Q r m' → kWW E M p e R s mm args below meth c cells slots Qf ad A (pc + 3) L (k_push r S') m') :
    kWW E M p e R s mm args below meth c cells slots Qf ad A pc L (xs.reverse ++ .inr (.inl o) :: S') m := by
  intro H locs ls hH hS hL hV
  obtain ⟨hx, hb, hml, hown, hts, hfr, hlo, hce, hsl, hK, hRo, hA, hLn, hret⟩ := hX
  obtain ⟨⟨qo, qi, qn, qa, qp⟩, hq, hz1, hz2, hz3, hz4⟩ := hl
  simp only at hz1 hz2 hz3 hz4
  subst hz1 hz2 hz3 hz4
  obtain ⟨r, hr, hrn, hr1, hr2⟩ := hr
  obtain ⟨w1, w2, w3, w4, -, w5⟩ := k_MR_at hr hrn
  obtain ⟨w6, w7⟩ := w5 hr1
  have w7 := w7 hr2
  have hlk := k_LR_ok _ hq
  simp only [k_lchk, Bool.and_eq_true, decide_eq_true_eq] at hlk
  obtain ⟨hl1, hl2, -⟩ := hlk
  have hV' : ∀ v ∈ (Sum.inr (Sum.inl o) : AV) :: xs, kV v := by
    intro v hv
    rcases List.mem_cons.mp hv with rfl | hv
    · exact trivial
    · exact hV v (List.mem_append_left _ (List.mem_reverse.mpr hv))
  have hVS : ∀ v ∈ S', kV v := fun v hv => hV v (List.mem_append_right _ (List.mem_cons_of_mem _ hv))
  have hAd : ∀ q, kAd E ad q → A q := by rintro q ⟨o, h1, rfl⟩; exact hA o h1
  have he := k_wl_at (cA := E.2.2.1) (ad := ad) (m := m) hG
  have hci : ∃ q, cls[ci]? = some q := by
    obtain ⟨r0, hr0, -⟩ := hH.1 o _ he
    exact ⟨r0, hr0⟩
  obtain ⟨cq, hcq⟩ := hci
  have hrec := va_recv hK hH.1 hcq he
  have hcn : cq.1 = CN ci := by
    obtain ⟨h12, -⟩ := k_cls hcq
    match ci, hcq, h12 with
    | 0, hcq, _ => cases hcq; rfl
    | 1, hcq, _ => cases hcq; rfl
    | 2, hcq, _ => cases hcq; rfl
    | 3, hcq, _ => cases hcq; rfl
    | 4, hcq, _ => cases hcq; rfl
    | 5, hcq, _ => cases hcq; rfl
    | 6, hcq, _ => cases hcq; rfl
    | 7, hcq, _ => cases hcq; rfl
    | 8, hcq, _ => cases hcq; rfl
    | 9, hcq, _ => cases hcq; rfl
    | 10, hcq, _ => cases hcq; rfl
    | 11, hcq, _ => cases hcq; rfl
    | 12, hcq, _ => cases hcq; rfl
  have hqa : xs.length = qa := by simpa using hlen
  have hcw : CallW R s args (CN M.2.1) (MT qn).1.cls qi (MT qn).1 (MT qn).2.1 (MT qn).2.2.1 (MT qn).2.2.2 (Cond.code (MT qn).1 (MT qn).2.1 (MT qn).2.2.1 (MT qn).2.2.2 :: TT) (k_rm h) 0 0 qa :=
    ⟨callB_of qa hts (k_goodTT w1) rfl rfl rfl (hts _ w2) (hts _ (k_at_in hl1)) ⟨w4.1, w4.2, hl2⟩ ⟨hfr, by show 8 + ((MT qn).2.2.1 + 11) + 40 * h ≤ R.locals; omega⟩, hts _ w6, hts _ w7⟩
  have hrun := va_runV (As := xs.map (rv ad)) (rest := S'.map (rv ad)) (g := F0 mm pc ls ((xs.reverse ++ .inr (.inl o) :: S').map (rv ad))) (H := H) (locs := locs) (cells := cells) (slots := slots) (b := ad o) (p := p) (l := E.1) (e := e) (below := below) (meth := meth) ⟨hx, hb, hml, hown, hts⟩ (hC h (Nat.le_refl h) Q (fun _ _ q => q) ad hV') hcw
    ⟨kPc_blind, by obtain ⟨cell, c1, c2, c3⟩ := hrec; exact ⟨cell, c1, c2, by rw [hcl, ← hcn]; exact c3⟩, fun U hU hW => ⟨by simp [rv], by rw [hU]; exact kHp_self hH, va_K.moved hW.alike hK, kRo_move hRo hS hU hW hAd, hLn⟩⟩
    rfl (by simpa using hqa) hL.1.1 (by simp [rv]) (lv_room (by rw [k_sum_cat hVS]; exact hsum)) hd ⟨hce, hsl⟩
  refine k_callW hrun hS hAd (fun r m' H1 locs1 hq hp hkv hS1 => ?_)
  have := kk r m' hq H1 locs1 ls (kHp_up hp hAd) hS1 hL (by
    cases r with
    | none => exact hVS
    | some v => exact k_kV_cons (hkv v rfl) hVS)
  cases r with
  | none => exact this
  | some v => exact this
/-- a call of a static method -/
theorem k_stepS (hX : kX E h M T p e R s mm args below meth c cells slots Qf ad A) {pc j n na : Nat} {xs S' : List AV} {L : KL} {m : Mem} {Q : Option AV → Mem → Prop}
    (hd : decode (MT M.1).2.1 pc = .ok (.invokestatic j, 3))
    (hl : ∃ q ∈ k_LR, q.1 = M.2.1 ∧ q.2.1 = j ∧ q.2.2.1 = n ∧ q.2.2.2.1 = na) (hr : ∃ r ∈ k_MR, r.1 = n ∧ r.2.2.2.1 = 0)
    (hlen : xs.length = na) (hsum : (S'.map k_cat).sum ≤ 8)
    (hC : kCall E h n xs m Q) (kk : ∀ r m', Q r m' → kWW E M p e R s mm args below meth c cells slots Qf ad A (pc + 3) L (k_push r S') m') :
    kWW E M p e R s mm args below meth c cells slots Qf ad A pc L (xs.reverse ++ S') m := by
  intro H locs ls hH hS hL hV
  obtain ⟨hx, hb, hml, hown, hts, hfr, hlo, hce, hsl, hK, hRo, hA, hLn, hret⟩ := hX
  obtain ⟨⟨qo, qi, qn, qa, qp⟩, hq, hz1, hz2, hz3, hz4⟩ := hl
  simp only at hz1 hz2 hz3 hz4
  subst hz1 hz2 hz3 hz4
  obtain ⟨r, hr, hrn, hr1⟩ := hr
  obtain ⟨w1, w2, w3, w4, w5, -⟩ := k_MR_at hr hrn
  have w6 := w5 hr1
  have hlk := k_LR_ok _ hq
  simp only [k_lchk, Bool.and_eq_true, decide_eq_true_eq] at hlk
  obtain ⟨hl1, hl2, -⟩ := hlk
  have hV' : ∀ v ∈ xs, kV v := fun v hv => hV v (List.mem_append_left _ (List.mem_reverse.mpr hv))
  have hVS : ∀ v ∈ S', kV v := fun v hv => hV v (List.mem_append_right _ hv)
  have hAd : ∀ q, kAd E ad q → A q := by rintro q ⟨o, h1, rfl⟩; exact hA o h1
  have hcw : CallB R s args (CN M.2.1) qi (MT qn).1 (MT qn).2.1 (MT qn).2.2.1 (MT qn).2.2.2 (Cond.code (MT qn).1 (MT qn).2.1 (MT qn).2.2.1 (MT qn).2.2.2 :: TT) (k_rm h) 0 0 qa ∧ (Cond.static (MT qn).1).before args s = true :=
    ⟨callB_of qa hts (k_goodTT w1) rfl rfl rfl (hts _ w2) (hts _ (k_at_in hl1)) ⟨w4.1, w4.2, hl2⟩ ⟨hfr, by show 8 + ((MT qn).2.2.1 + 11) + 40 * h ≤ R.locals; omega⟩, hts _ w6⟩
  have hrun := va_runS (As := xs.map (rv ad)) (rest := S'.map (rv ad)) (g := F0 mm pc ls ((xs.reverse ++ S').map (rv ad))) (H := H) (locs := locs) (cells := cells) (slots := slots) (p := p) (l := E.1) (e := e) (below := below) (meth := meth) ⟨hx, hb, hml, hown, hts⟩ (hC h (Nat.le_refl h) Q (fun _ _ q => q) ad hV') hcw
    ⟨kPc_blind, fun U hU hW => ⟨rfl, by rw [hU]; exact kHp_self hH, va_K.moved hW.alike hK, kRo_move hRo hS hU hW hAd, hLn⟩⟩
    rfl (by simpa using hlen) hL.1.1 (by simp) (lv_room (by rw [k_sum_cat hVS]; exact hsum)) hd ⟨hce, hsl⟩
  refine k_callW hrun hS hAd (fun r m' H1 locs1 hq hp hkv hS1 => ?_)
  have := kk r m' hq H1 locs1 ls (kHp_up hp hAd) hS1 hL (by
    cases r with
    | none => exact hVS
    | some v => exact k_kV_cons (hkv v rfl) hVS)
  cases r with
  | none => exact this
  | some v => exact this
end KS
