/-! fields and arrays, a step -/
section KS
variable {E : Ev} {h : Nat} {M : Md} {T : Option AV → Mem → Prop} {p : Program} {e : Env} {R : Room} {s : State} {mm : MethodId} {args : Array Value} {below : List Frame} {meth : Method} {c : Code} {cells slots : Nat} {Qf : State → Prop} {ad : Nat → Nat} {A : Nat → Prop}
theorem k_FR_at {o i ci k t : Nat} (hl : ∃ q ∈ k_FR, q.1 = o ∧ q.2.1 = i ∧ q.2.2.1 = ci ∧ q.2.2.2.1 = k ∧ q.2.2.2.2.1 = t) : ci ≤ 12 ∧ k < k_nf ci ∧ k_tc (k_ty ci k) = t ∧ Cond.fieldLink (CN o) i (k_TX ci k).1 (k_TX ci k).2.1 (k_TX ci k).2.2.1 ∈ TT := by
  obtain ⟨⟨a, b, c, d, f, g⟩, hq, hz1, hz2, hz3, hz4, hz5⟩ := hl
  simp only at hz1 hz2 hz3 hz4 hz5
  subst hz1 hz2 hz3 hz4 hz5
  have := k_FR_ok _ hq
  simp only [k_fchk, Bool.and_eq_true] at this
  exact ⟨Nat.le_of_ble_eq_true this.1, Nat.le_of_ble_eq_true this.2.1, Nat.eq_of_beq_eq_true this.2.2.1, k_at_in this.2.2.2⟩
theorem k_stepGet (hX : kX E h M T p e R s mm args below meth c cells slots Qf ad A) {pc i ci k t o : Nat} {rs : List (Option Nat)} {v : AV} {S : List AV} {L : KL} {m : Mem}
    (hd : decode (MT M.1).2.1 pc = .ok (.getfield i, 3)) (hl : ∃ q ∈ k_FR, q.1 = M.2.1 ∧ q.2.1 = i ∧ q.2.2.1 = ci ∧ q.2.2.2.1 = k ∧ q.2.2.2.2.1 = t)
    (hG : E.2.2.2.1[o]? = some (.inl (ci, rs))) (hv : (t = 1 ∧ ∃ q, rs[k]? = some (some q) ∧ v = .inr (.inl q)) ∨ (t ≠ 1 ∧ v = .inl (fld m o k)))
    (kk : kWW E M p e R s mm args below meth c cells slots Qf ad A (pc + 3) L (v :: S) m) : kWW E M p e R s mm args below meth c cells slots Qf ad A pc L (.inr (.inl o) :: S) m := by
  intro H locs ls hH hS hL hV
  obtain ⟨hx, hb, hml, hown, hts, hfr, hlo, hce, hsl, hK, hRo, hA, hLn, hret⟩ := hX
  obtain ⟨h12, hkn, htc, hlk⟩ := k_FR_at hl
  obtain ⟨q, hq⟩ := k_cls_at h12
  obtain ⟨-, hqn, hqt, hqw, hqp, hqd⟩ := k_cls hq
  obtain ⟨C0, T0, N0⟩ := q
  simp only at hqn hqt hqw hqp hqd
  subst hqn hqt
  have he := k_wl_at (cA := E.2.2.1) (ad := ad) (m := m) hG
  have hval : ((List.range (k_nf ci)).map (k_fv ad m o ci rs))[k]? = some (rv ad v) := by
    rw [List.getElem?_map, List.getElem?_range hkn]
    show some (k_fv ad m o ci rs k) = _
    rcases hv with ⟨rfl, q, h1, rfl⟩ | ⟨h1, rfl⟩
    · simp [k_fv, htc, h1, rv]
    · simp [k_fv, htc, h1, rv]
  have hVv : kV v := by
    rcases hv with ⟨rfl, q, h1, rfl⟩ | ⟨h1, rfl⟩
    · exact trivial
    · exact hH.2.2 o (k : Int)
  obtain ⟨-, hV2⟩ := k_kV_tail hV
  exact va_get hx hb hts hqw hown hK hH.1 o he hq k hkn (hts _ hlk) (fun x h => h) hval hd (kk H locs ls hH hS hL (k_kV_cons hVv hV2))
theorem k_stepPut (hX : kX E h M T p e R s mm args below meth c cells slots Qf ad A) {pc i ci k t o : Nat} {rs : List (Option Nat)} {v : Int} {S : List AV} {L : KL} {m : Mem}
    (hd : decode (MT M.1).2.1 pc = .ok (.putfield i, 3)) (hl : ∃ q ∈ k_FR, q.1 = M.2.1 ∧ q.2.1 = i ∧ q.2.2.1 = ci ∧ q.2.2.2.1 = k ∧ q.2.2.2.2.1 = t) (hfin : (k_TX ci k).2.2.2 = false)
    (hG : E.2.2.2.1[o]? = some (.inl (ci, rs))) (ht : t = 0 ∨ (t = 2 ∧ (v = 0 ∨ v = 1)))
    (kk : kWW E M p e R s mm args below meth c cells slots Qf ad A (pc + 3) L S (fset m o k v)) : kWW E M p e R s mm args below meth c cells slots Qf ad A pc L (.inl v :: .inr (.inl o) :: S) m := by
  intro H locs ls hH hS hL hV
  obtain ⟨hx, hb, hml, hown, hts, hfr, hlo, hce, hsl, hK, hRo, hA, hLn, hret⟩ := hX
  obtain ⟨h12, hkn, htc, hlk⟩ := k_FR_at hl
  obtain ⟨q, hq⟩ := k_cls_at h12
  obtain ⟨-, hqn, hqt, hqw, hqp, hqd⟩ := k_cls hq
  obtain ⟨C0, T0, N0⟩ := q
  simp only at hqn hqt hqw hqp hqd
  subst hqn hqt
  have he := k_wl_at (cA := E.2.2.1) (ad := ad) (m := m) hG
  obtain ⟨hVv, hV2⟩ := k_kV_tail hV
  obtain ⟨-, hV3⟩ := k_kV_tail hV2
  have htn : k_tc (k_ty ci k) ≠ 1 := by rw [htc]; rcases ht with rfl | ⟨rfl, -⟩ <;> decide
  have hnar : narrow (k_ty ci k) (.int (Int32.ofInt v)) = .int (Int32.ofInt v) ∧ fits (k_ty ci k) (.int (Int32.ofInt v)) = true := by
    rcases ht with rfl | ⟨rfl, hv⟩
    · rw [k_tc_int htc]; exact ⟨rfl, rfl⟩
    · rw [k_tc_bool htc]
      rcases hv with rfl | rfl <;> exact ⟨by decide, by decide⟩
  refine va_put hx hb hts hqw (k_ty ci) hqp hqd hown hK hH.1 hH.2.1 hS o he hq k hkn (hts _ hlk) (fun x h => h) hfin (hqp k hkn) hnar.1 hnar.2 (by simpa using hkn) hd (fun H1 locs1 hP hD hS1 => ?_)
  have hw : k_wl E.2.2.1 ad (fset m o k v) E.2.2.2.1 = (k_wl E.2.2.1 ad m E.2.2.2.1).set o (ad o, .inr (ci, ((List.range (k_nf ci)).map (k_fv ad m o ci rs)).set k (.int (Int32.ofInt v)))) := by
    rw [k_wl_upd (m := m) (m' := fset m o k v) hG (fun p hp => k_mset_ne hp), k_ent_put htn]
  exact kk H1 locs1 ls ⟨by rw [hw]; exact hP, by rw [hw]; exact hD, k_mset_in hH.2.2 hVv⟩ hS1 hL hV3
theorem k_ent_arr {cA : Nat → ClassId} {m : Mem} {o ty n : Nat} (hty : ty ≠ 2) : k_ent cA ad m o (.inr (ty, n)) = (ad o, .inl (cA ty, n, .inl (fun i => Int32.ofInt (m o (i : Int))))) := by
  unfold k_ent
  simp [hty]
theorem k_ent_ast {cA : Nat → ClassId} {m : Mem} {o ty n : Nat} {i v : Int} (hi : inR i) (h0 : 0 ≤ i) (hty : ty ≠ 2) : k_ent cA ad (mset m o i v) o (.inr (ty, n)) = (ad o, .inl (cA ty, n, .inl (upd (fun i => Int32.ofInt (m o (i : Int))) (Int32.ofInt i).toNatClampNeg (Int32.ofInt v)))) := by
  rw [k_ent_arr hty]
  congr 5
  funext j
  rw [k_clamp hi]
  unfold upd
  rw [k_mset_at]
  by_cases hj : j = i.toNat
  · rw [if_pos hj, if_pos (by omega)]
  · rw [if_neg hj, if_neg (by omega)]
/-- a read of an array of ints, of booleans (in the world or outside it) or of chars -/
theorem k_stepRead (hX : kX E h M T p e R s mm args below meth c cells slots Qf ad A) {pc o n ty : Nat} {f : Int → Int} {i : Int} {S : List AV} {L : KL} {m : Mem} {ins : Instr}
    (hd : decode (MT M.1).2.1 pc = .ok (ins, 1)) (hins : (ins = .iaload ∧ ty = 0) ∨ (ins = .baload ∧ ty = 1) ∨ (ins = .caload ∧ ty = 3))
    (hR : (∃ n', E.2.2.2.1[o]? = some (.inr (ty, n')) ∧ n' = n ∧ f = m o) ∨ ∃ j, o = 1000 + j ∧ E.2.2.2.2[j]? = some (ty, n, f)) (hi : 0 ≤ i ∧ i < (n : Int))
    (kk : kWW E M p e R s mm args below meth c cells slots Qf ad A (pc + 1) L (.inl (f i) :: S) m) : kWW E M p e R s mm args below meth c cells slots Qf ad A pc L (.inl i :: .inr (.inl o) :: S) m := by
  intro H locs ls hH hS hL hV
  obtain ⟨hx, hb, hml, hown, hts, hfr, hlo, hce, hsl, hK, hRo, hA, hLn, hret⟩ := hX
  obtain ⟨hVi, hV2⟩ := k_kV_tail hV
  obtain ⟨-, hV3⟩ := k_kV_tail hV2
  have hVi : inR i := hVi
  have hin := k_vpin hVi hi.1 hi.2
  rcases hR with ⟨n', hG, rfl, rfl⟩ | ⟨j, rfl, hj⟩
  · have hty : ty ≠ 2 := by rcases hins with ⟨-, rfl⟩ | ⟨-, rfl⟩ | ⟨-, rfl⟩ <;> decide
    have he := k_wl_at (cA := E.2.2.1) (ad := ad) (m := m) hG
    rw [k_ent_arr hty] at he
    have hk := kk H locs ls hH hS hL (k_kV_cons (hH.2.2 o i) hV3)
    rcases hins with ⟨rfl, rfl⟩ | ⟨rfl, rfl⟩ | ⟨rfl, rfl⟩
    · exact va_iald hx hb hK hH.1 o 0 he rfl hin hd (by rw [k_clamp hVi, Int.toNat_of_nonneg hi.1]; exact hk)
    · exact va_zald hx hb hK hH.1 o 1 he rfl hin hd (by rw [k_clamp hVi, Int.toNat_of_nonneg hi.1]; exact hk)
    · exact absurd (hLn o 3 n' hG).2 (by decide)
  · obtain ⟨h1, h2, h3⟩ := hRo.2.1 j _ hj
    have hk := kk H locs ls hH hS hL (k_kV_cons (h2 i) hV3)
    rcases hins with ⟨rfl, rfl⟩ | ⟨rfl, rfl⟩ | ⟨rfl, rfl⟩
    · rcases h1 with ⟨-, h1⟩ | ⟨h1, -⟩
      · exact va_ti hx hb h1 hS hin (by rw [k_clamp hVi, Int.toNat_of_nonneg hi.1]; rfl) hd hk
      · cases h1
    · rcases h1 with ⟨h1, -⟩ | ⟨h1, -⟩ <;> cases h1
    · rcases h1 with ⟨h1, -⟩ | ⟨-, h1⟩
      · cases h1
      · exact va_tc hx hb h1 hS hin (by rw [k_clamp hVi, Int.toNat_of_nonneg hi.1]; rfl) hd hk
/-- a write into an array of ints or of booleans -/
theorem k_stepWrite (hX : kX E h M T p e R s mm args below meth c cells slots Qf ad A) {pc o n ty : Nat} {i v : Int} {S : List AV} {L : KL} {m : Mem} {ins : Instr}
    (hd : decode (MT M.1).2.1 pc = .ok (ins, 1)) (hins : (ins = .iastore ∧ ty = 0) ∨ (ins = .bastore ∧ ty = 1 ∧ (v = 0 ∨ v = 1)))
    (hG : E.2.2.2.1[o]? = some (.inr (ty, n))) (hi : 0 ≤ i ∧ i < (n : Int))
    (kk : kWW E M p e R s mm args below meth c cells slots Qf ad A (pc + 1) L S (mset m o i v)) : kWW E M p e R s mm args below meth c cells slots Qf ad A pc L (.inl v :: .inl i :: .inr (.inl o) :: S) m := by
  intro H locs ls hH hS hL hV
  obtain ⟨hx, hb, hml, hown, hts, hfr, hlo, hce, hsl, hK, hRo, hA, hLn, hret⟩ := hX
  obtain ⟨hVv, hV2⟩ := k_kV_tail hV
  obtain ⟨hVi, hV3⟩ := k_kV_tail hV2
  obtain ⟨-, hV4⟩ := k_kV_tail hV3
  have hVi : inR i := hVi
  have hin := k_vpin hVi hi.1 hi.2
  have hty : ty ≠ 2 := by rcases hins with ⟨-, rfl⟩ | ⟨-, rfl, -⟩ <;> decide
  have he := k_wl_at (cA := E.2.2.1) (ad := ad) (m := m) hG
  rw [k_ent_arr hty] at he
  have hw : k_wl E.2.2.1 ad (mset m o i v) E.2.2.2.1 = (k_wl E.2.2.1 ad m E.2.2.2.1).set o (ad o, .inl (E.2.2.1 ty, n, .inl (upd (fun i => Int32.ofInt (m o (i : Int))) (Int32.ofInt i).toNatClampNeg (Int32.ofInt v)))) := by
    rw [k_wl_upd hG (fun p hp => k_mset_ne hp), k_ent_ast hVi hi.1 hty]
  rcases hins with ⟨rfl, rfl⟩ | ⟨rfl, rfl, hv⟩
  · exact va_iast hx hb hK hH.1 hH.2.1 hS o 0 he rfl hin hd (fun H1 locs1 hP hD hS1 => kk H1 locs1 ls ⟨by rw [hw]; exact hP, by rw [hw]; exact hD, k_mset_in hH.2.2 hVv⟩ hS1 hL hV4)
  · have hnar : vp_nar .boolean (Int32.ofInt v) = Int32.ofInt v := by rcases hv with rfl | rfl <;> decide
    exact va_zast hx hb hK hH.1 hH.2.1 hS o 1 he rfl hin hd (fun H1 locs1 hP hD hS1 => kk H1 locs1 ls ⟨by rw [hw]; rw [hnar] at hP; exact hP, by rw [hw]; rw [hnar] at hD; exact hD, k_mset_in hH.2.2 hVv⟩ hS1 hL hV4)
theorem k_stepLen (hX : kX E h M T p e R s mm args below meth c cells slots Qf ad A) {pc o n : Nat} {S : List AV} {L : KL} {m : Mem}
    (hd : decode (MT M.1).2.1 pc = .ok (.arraylength, 1)) (hR : (∃ ty, E.2.2.2.1[o]? = some (.inr (ty, n))) ∨ ∃ j ty f, o = 1000 + j ∧ E.2.2.2.2[j]? = some (ty, n, f))
    (kk : kWW E M p e R s mm args below meth c cells slots Qf ad A (pc + 1) L (.inl (n : Int) :: S) m) : kWW E M p e R s mm args below meth c cells slots Qf ad A pc L (.inr (.inl o) :: S) m := by
  intro H locs ls hH hS hL hV
  obtain ⟨hx, hb, hml, hown, hts, hfr, hlo, hce, hsl, hK, hRo, hA, hLn, hret⟩ := hX
  obtain ⟨-, hV3⟩ := k_kV_tail hV
  rcases hR with ⟨ty, hG⟩ | ⟨j, ty, f, rfl, hj⟩
  · obtain ⟨hn, ht⟩ := hLn o ty n hG
    have hk := kk H locs ls hH hS hL (k_kV_cons (show inR (n : Int) by constructor <;> omega) hV3)
    have he := k_wl_at (cA := E.2.2.1) (ad := ad) (m := m) hG
    unfold k_ent at he
    match ty, ht, he with
    | 0, _, he => exact va_alen hx hb hK hH.1 o 0 he (ty := .int) rfl (k_ofNat n) hd hk
    | 1, _, he => exact va_alen hx hb hK hH.1 o 1 he (ty := .boolean) rfl (k_ofNat n) hd hk
    | 2, _, he => exact va_alen hx hb hK hH.1 o 2 he (ty := .long) rfl (k_ofNat n) hd hk
  · obtain ⟨h1, h2, h3⟩ := hRo.2.1 j _ hj
    have hk := kk H locs ls hH hS hL (k_kV_cons (show inR (n : Int) by constructor <;> simp only at h3 <;> omega) hV3)
    rcases h1 with ⟨-, h1⟩ | ⟨-, h1⟩
    · exact va_tlen hx hb h1 hS (k_ofNat n) hd hk
    · exact va_tlen hx hb h1 hS (k_ofNat n) hd hk
theorem k_stepStatic (hX : kX E h M T p e R s mm args below meth c cells slots Qf ad A) {pc i j : Nat} {S : List AV} {L : KL} {m : Mem}
    (hd : decode (MT M.1).2.1 pc = .ok (.getstatic i, 3)) (hl : ∃ q ∈ k_SR, q.1 = M.2.1 ∧ q.2.1 = i ∧ q.2.2.1 = j)
    (kk : kWW E M p e R s mm args below meth c cells slots Qf ad A (pc + 3) L (.inr (.inl (1000 + j)) :: S) m) : kWW E M p e R s mm args below meth c cells slots Qf ad A pc L S m := by
  intro H locs ls hH hS hL hV
  obtain ⟨hx, hb, hml, hown, hts, hfr, hlo, hce, hsl, hK, hRo, hA, hLn, hret⟩ := hX
  obtain ⟨⟨qo, qi, qj, qn, qp⟩, hq, hz1, hz2, hz3⟩ := hl
  simp only at hz1 hz2 hz3
  subst hz1 hz2 hz3
  have hk := kk H locs ls hH hS hL (k_kV_cons trivial hV)
  have hs := k_SR_ok _ hq
  simp only [k_schk] at hs
  cases hz : k_SN[qj]? with
  | none => rw [hz] at hs; cases hs
  | some z =>
    rw [hz] at hs
    have hZ := hRo.1 qj z hz
    match qn, hs with
    | 0, hs => exact va_gets hx hb hZ hS hown (hts _ (k_at_in hs)) (fun x h => h) hd hk
    | n + 1, hs =>
      have hw := hRo.2.2 _ (List.mem_of_getElem? (of_decide_eq_true hs))
      exact va_getsN hx hb hZ hS hown (va_Nw.use rfl hw) (fun x h => h) hd hk
theorem k_stepCopy (hX : kX E h M T p e R s mm args below meth c cells slots Qf ad A) {pc i a d na nd : Nat} {n dp sp : Int} {S : List AV} {L : KL} {m : Mem}
    (hdc : decode (MT M.1).2.1 pc = .ok (.invokestatic i, 3)) (hl : ∃ q ∈ k_CR, q.1 = M.2.1 ∧ q.2.1 = i) (hGa : E.2.2.2.1[a]? = some (.inr (0, na))) (hGd : E.2.2.2.1[d]? = some (.inr (0, nd)))
    (hz : (0 ≤ n ∧ 0 ≤ dp ∧ 0 ≤ sp) ∧ sp + n ≤ (na : Int) ∧ dp + n ≤ (nd : Int)) (hsum : (S.map k_cat).sum ≤ 8)
    (kk : kWW E M p e R s mm args below meth c cells slots Qf ad A (pc + 3) L S (mcpy m a sp d dp n)) : kWW E M p e R s mm args below meth c cells slots Qf ad A pc L (.inl n :: .inl dp :: .inr (.inl d) :: .inl sp :: .inr (.inl a) :: S) m := by
  intro H locs ls hH hS hL hV
  obtain ⟨hx, hb, hml, hown, hts, hfr, hlo, hce, hsl, hK, hRo, hA, hLn, hret⟩ := hX
  obtain ⟨⟨qo, qi, qp⟩, hq, hz1, hz2⟩ := hl
  simp only at hz1 hz2
  subst hz1 hz2
  have hs := k_CR_ok _ hq
  simp only [k_cchk] at hs
  obtain ⟨hVn, hV⟩ := k_kV_tail hV
  obtain ⟨hVd, hV⟩ := k_kV_tail hV
  obtain ⟨-, hV⟩ := k_kV_tail hV
  obtain ⟨hVs, hV⟩ := k_kV_tail hV
  obtain ⟨-, hV⟩ := k_kV_tail hV
  have hVn : inR n := hVn
  have hVd : inR dp := hVd
  have hVs : inR sp := hVs
  have hea := k_wl_at (cA := E.2.2.1) (ad := ad) (m := m) hGa
  have hed := k_wl_at (cA := E.2.2.1) (ad := ad) (m := m) hGd
  rw [k_ent_arr (by decide)] at hea hed
  have n1 : ¬ Int32.ofInt sp < 0 := by rw [← k_zero, k_lt hVs k_inR0]; omega
  have n2 : ¬ Int32.ofInt dp < 0 := by rw [← k_zero, k_lt hVd k_inR0]; omega
  have n3 : ¬ Int32.ofInt n < 0 := by rw [← k_zero, k_lt hVn k_inR0]; omega
  have hw : k_wl E.2.2.1 ad (mcpy m a sp d dp n) E.2.2.2.1 = (k_wl E.2.2.1 ad m E.2.2.2.1).set d (ad d, .inl (E.2.2.1 0, nd, .inl (va_cpy (fun i => Int32.ofInt (m a (i : Int))) (fun i => Int32.ofInt (m d (i : Int))) (Int32.ofInt sp).toNatClampNeg (Int32.ofInt dp).toNatClampNeg (Int32.ofInt n).toNatClampNeg))) := by
    rw [k_wl_upd (m := m) hGd (fun p hp => by simp [mcpy, hp]), k_ent_arr (by decide)]
    congr 6
    funext j
    rw [k_clamp hVs, k_clamp hVd, k_clamp hVn]
    unfold va_cpy mcpy
    simp only [if_true]
    by_cases hj : dp.toNat ≤ j ∧ j < dp.toNat + n.toNat
    · rw [if_pos hj, if_pos (by omega), show ((sp.toNat + (j - dp.toNat) : Nat) : Int) = sp + ((j : Int) - dp) by omega]
    · rw [if_neg hj, if_neg (by omega)]
  have hmr : ∀ o i, inR (mcpy m a sp d dp n o i) := by
    intro o i
    unfold mcpy
    split
    · show inR (if _ then _ else _)
      split
      · exact hH.2.2 _ _
      · exact hH.2.2 _ _
    · exact hH.2.2 _ _
  refine va_copyi hx hb (by rw [hml]; exact hL.1.1.symm) hown (hts _ (k_at_in hs)) (hts _ k_copy_ok.1) (hts _ k_copy_ok.2.1) (hts _ k_copy_ok.2.2) hK hH.1 hH.2.1 hS a d 0 0 hea hed (ty := .int) rfl rfl rfl n1 n2 n3 (by rw [k_clamp hVs, k_clamp hVn]; omega) (by rw [k_clamp hVd, k_clamp hVn]; omega) (fun _ _ => rfl) (by omega) ?_ hdc (fun H1 locs1 hP hD hS1 => kk H1 locs1 ls ⟨by rw [hw]; exact hP, by rw [hw]; exact hD, hmr⟩ hS1 hL hV)
  rw [k_sum_cat hV]
  have : nativeFrameWords "java/lang/System" "arraycopy" 5 = 7 := by decide
  omega
end KS
