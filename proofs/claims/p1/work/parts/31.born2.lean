/-! constructors, second half: new, final fields, calls of constructors, the end -/
section CR2
variable {B : Bs} {h : Nat} {M : Md} {p : Program} {e : Env} {R : Room} {s : State} {mm : MethodId} {args : Array Value} {below : List Frame} {meth : Method} {c : Code} {cells slots : Nat} {Qf : State → Prop} {ad0 : Nat → Nat} {n0 : Nat} {A : Nat → Prop} {G : Gr}
def k_nulls (ci : Nat) : List (Option Nat) := List.replicate (k_nf ci) none
theorem k_nulls_at (ci k : Nat) : ∀ q, (k_nulls ci)[k]? ≠ some (some q) := by
  intro q h
  unfold k_nulls at h
  rw [List.getElem?_replicate] at h
  split at h <;> cases h
/-- an object is made -/
theorem c_new (hX : cX B h M p R s mm args meth c ad0 n0 A) {pc idx ci o cells' slots' : Nat} {G' : Gr} {L : KL} {S : List AV} {m : Mem} (pos pos2 pos3 : Nat)
    (hd : decode (MT M.1).2.1 pc = .ok (.new idx, 3)) (hcl : k_at pos (.classLink (CN M.2.1) idx (CN ci)) = true) (hin : k_at pos2 (.instantiable (CN ci) (k_nf ci)) = true) (hini : k_at pos3 (.initialized (CN ci)) = true) (hcc : cls[ci]? = some (CN ci, k_TX ci, k_nf ci))
    (hdef : ∀ k, k < k_nf ci → defaultValue (k_ty ci k) = (if k_tc (k_ty ci k) = 1 then .null else .int 0))
    (ho : G.length = o) (ho2 : Nat.blt o 1000 = true) (hG' : G ++ [.inl (ci, k_nulls ci)] = G') (hr1 : k_rok o (k_lvs L) = true) (hr2 : k_rok o S = true)
    (hc1 : cells + 1 ≤ R.cells) (hs1 : slots + k_nf ci ≤ R.slots) (hc2 : cells + 1 ≤ cells') (hs2 : slots + k_nf ci ≤ slots')
    (kk : cW B M p e R s mm args below meth c cells' slots' Qf ad0 n0 A G' (pc + 3) L (vR o :: S) (mz m o)) : cW B M p e R s mm args below meth c cells slots Qf ad0 n0 A G pc L S m := by
  intro ad he hlen hw H locs ls hH hS hL hV
  obtain ⟨h1, h2, h3, h4, h5, h6, h7, h8, h9, h10, hA⟩ := hX
  subst hG' ho
  have hKn := h8.1 ci _ hcc
  obtain ⟨-, -, -, hqw, hqp, -⟩ := k_cls hcc
  refine W.newcK h1 h2 h4 (h5 _ (k_at_in hcl)) (h5 _ (k_at_in hin)) (h5 _ (k_at_in hini)) rfl hd hc1 hs1 hKn.2.1 rfl fun H1 kC hkC e1 z1 o1 => ?_
  have hsz : s.heap.size ≤ H.size := hS.1
  have hl1 : G.length < 1000 := Nat.le_of_ble_eq_true ho2
  obtain ⟨he', f1, f2⟩ := c_ext_new (d := .inl (ci, k_nulls ci)) he hsz hl1
  generalize hadq : (fun x => if x = G.length then H.size else ad x) = ad' at he' f1 f2
  have hadn : ad' G.length = H.size := by rw [← hadq]; simp
  have hwl : k_wl B.2.2.1 ad' (mz m G.length) (G ++ [.inl (ci, k_nulls ci)]) = k_wl B.2.2.1 ad m G ++ [(H.size, .inr (ci, (List.range (k_nf ci)).map (fun k => if k_tc (k_ty ci k) = 1 then .null else .int 0)))] := by
    rw [k_wl_app, k_wl_ad f1 (fun o ho => mz_ne (by omega)) hw]
    congr 2
    unfold k_ent
    simp only [hadn]
    congr 3
    apply List.map_congr_left
    intro k _
    unfold k_fv fld
    rw [mz_at]
    split
    · split
      · rename_i q hq
        exact absurd hq (k_nulls_at ci k q)
      · rfl
    · rfl
  have hP1 : va_P B.2.1 cls (k_wl B.2.2.1 ad' (mz m G.length) (G ++ [.inl (ci, k_nulls ci)])) H1 := by
    rw [hwl]
    refine (hH.1.kept (fun k x hx => o1 x.1 ((hH.1 k x hx).lt))).app (fun k x hx => ?_)
    have hz : k < 1 := (List.getElem?_eq_some_iff.mp hx).1
    rw [show k = 0 by omega] at hx
    cases hx
    refine ⟨_, hcc, (u_born (k_ty ci) h5 hqw hKn hkC e1 hqp).to (fun j hj => ?_)⟩
    rw [hdef j hj]
    unfold vp_V
    rw [List.getD_eq_getElem?_getD, List.getElem?_map, List.getElem?_range hj]
    rfl
  have hD1 : va_D A (k_wl B.2.2.1 ad' (mz m G.length) (G ++ [.inl (ci, k_nulls ci)])) := by
    rw [hwl]
    exact hH.2.1.push hH.1 rfl (hA _ hsz)
  refine W.widen hc2 hs2 ?_
  have := kk ad' he' (kLen_app hlen (fun t n' e => by cases e)) (gWf_app hw (fun ci' k q rs e hk => by cases e; exact absurd hk (k_nulls_at ci k q))) H1 locs ls ⟨hP1, hD1, mz_in hH.2.2⟩ ⟨Nat.le_trans hsz (by omega), fun x g1 g2 => (o1 x (Nat.lt_of_lt_of_le g1 hsz)).trans (hS.2.1 x g1 g2), hS.2.2⟩ (kLs_ad f1 f2 hr1 hL) (k_kV_cons trivial hV)
  rw [List.map_cons, kSt_ad f1 f2 hr2] at this
  show W p B.1 e R s mm args below meth c H1 locs cells' slots' Qf (F0 mm (pc + 3) ls (.ref H.size :: S.map (rv ad)))
  rw [← hadn]
  exact this
theorem gWf_set {o : Nat} {ci : Nat} {rs : List (Option Nat)} (hw : gWf G) (hd : ∀ (k q : Nat), rs[k]? = some (some q) → q < G.length) : gWf (G.set o (.inl (ci, rs))) := by
  intro o' ci' k q rs' h1 h2
  rw [List.length_set]
  by_cases hj : o' = o
  · subst hj
    by_cases hl : o' < G.length
    · rw [List.getElem?_set_self hl] at h1
      cases h1
      exact hd k q h2
    · rw [List.getElem?_eq_none (by rw [List.length_set]; omega)] at h1
      cases h1
  · rw [List.getElem?_set_ne (Ne.symm hj)] at h1
    exact hw o' ci' k q rs' h1 h2
theorem kLen_set {o ci : Nat} {rs : List (Option Nat)} (hl : kLen G) : kLen (G.set o (.inl (ci, rs))) := by
  intro o' t n h1
  by_cases hj : o' = o
  · subst hj
    by_cases hl : o' < G.length
    · rw [List.getElem?_set_self hl] at h1
      cases h1
    · rw [List.getElem?_eq_none (by rw [List.length_set]; omega)] at h1
      cases h1
  · rw [List.getElem?_set_ne (Ne.symm hj)] at h1
    exact hl o' t n h1
/-- a final field of a reference is set -/
theorem c_putR (hX : cX B h M p R s mm args meth c ad0 n0 A) (hin : meth.name = "<init>") {pc idx ci k o q : Nat} {rs rs' : List (Option Nat)} {G' : Gr} {L : KL} {S : List AV} {m : Mem}
    (hd : decode (MT M.1).2.1 pc = .ok (.putfield idx, 3)) (hl : k_FR.any (fun q => Nat.beq q.1 M.2.1 && (Nat.beq q.2.1 idx && (Nat.beq q.2.2.1 ci && (Nat.beq q.2.2.2.1 k && Nat.beq q.2.2.2.2.1 1)))) = true)
    (hG : G[o]? = some (.inl (ci, rs))) (hfin : (k_TX ci k).2.2.2 = true) (hdecl : (k_TX ci k).1 = CN M.2.1) (hfit : ∀ a, narrow (k_ty ci k) (.ref a) = .ref a ∧ fits (k_ty ci k) (.ref a) = true)
    (hrs : rs.set k (some q) = rs') (hkl : Nat.blt k rs.length = true) (hq : Nat.blt q G.length = true) (hG' : G.set o (.inl (ci, rs')) = G')
    (kk : cW B M p e R s mm args below meth c cells slots Qf ad0 n0 A G' (pc + 3) L S m) : cW B M p e R s mm args below meth c cells slots Qf ad0 n0 A G pc L (vR q :: vR o :: S) m := by
  intro ad he hlen hw H locs ls hH hS hL hV
  have hl := k_fr hl
  obtain ⟨hx, hb, hml, hown, hts, h6, h7, hK, hRo, h10, hA⟩ := hX
  obtain ⟨h12, hkn, htc, hlk⟩ := k_FR_at hl
  obtain ⟨cq, hcq⟩ := k_cls_at h12
  obtain ⟨-, hqn, hqt, hqw, hqp, hqd⟩ := k_cls hcq
  obtain ⟨C0, T0, N0⟩ := cq
  simp only at hqn hqt hqw hqp hqd
  subst hqn hqt hrs hG'
  have hee := k_wl_at (cA := B.2.2.1) (ad := ad) (m := m) hG
  obtain ⟨-, hV2⟩ := k_kV_tail hV
  obtain ⟨-, hV3⟩ := k_kV_tail hV2
  have hql : q < G.length := Nat.le_of_ble_eq_true hq
  have hkl := Nat.le_of_ble_eq_true hkl
  refine va_putF hx hb hts hqw (k_ty ci) hqp hqd hown hK hH.1 hH.2.1 hS o hee hcq k hkn (hts _ hlk) (fun x h => h) hfin hin hdecl (hqp k hkn) (hfit (ad q)).1 (hfit (ad q)).2 (by simpa using hkn) hd (fun H1 locs1 hP hD hS1 => ?_)
  have hw2 : k_wl B.2.2.1 ad m (G.set o (.inl (ci, rs.set k (some q)))) = (k_wl B.2.2.1 ad m G).set o (ad o, .inr (ci, ((List.range (k_nf ci)).map (k_fv ad m o ci rs)).set k (.ref (ad q)))) := by
    rw [k_wl_set]
    congr 1
    unfold k_ent
    simp only
    congr 3
    apply List.ext_getElem?
    intro j
    by_cases hj : j = k
    · subst hj
      rw [List.getElem?_set_self (by simpa using hkn), List.getElem?_map, List.getElem?_range hkn]
      simp [k_fv, htc, List.getElem?_set_self hkl]
    · rw [List.getElem?_set_ne (Ne.symm hj), List.getElem?_map, List.getElem?_map]
      cases hz : (List.range (k_nf ci))[j]? with
      | none => rfl
      | some z =>
        simp only [Option.map_some]
        obtain ⟨g1, g2⟩ := List.getElem?_eq_some_iff.mp hz
        rw [List.getElem_range] at g2
        subst g2
        simp only [k_fv]
        rw [List.getElem?_set_ne (Ne.symm hj)]
  have hwf : gWf (G.set o (.inl (ci, rs.set k (some q)))) := gWf_set hw (fun k' q' hk' => by
    by_cases hj : k' = k
    · subst hj
      rw [List.getElem?_set_self hkl] at hk'
      cases hk'
      exact hql
    · rw [List.getElem?_set_ne (Ne.symm hj)] at hk'
      exact hw o ci k' q' rs hG hk')
  refine kk ad ⟨he.1, he.2.1, fun o' g1 g2 => he.2.2.1 o' g1 (by rwa [List.length_set] at g2), by rw [List.length_set]; exact he.2.2.2.1, by rw [List.length_set]; exact he.2.2.2.2⟩ (kLen_set hlen) hwf H1 locs1 ls ⟨?_, ?_, hH.2.2⟩ hS1 hL hV3
  · show va_P B.2.1 cls (k_wl B.2.2.1 ad m (G.set o (.inl (ci, rs.set k (some q))))) H1
    rw [hw2]; exact hP
  · show va_D A (k_wl B.2.2.1 ad m (G.set o (.inl (ci, rs.set k (some q)))))
    rw [hw2]; exact hD
/-- a final field of a number is set -/
theorem c_putI (hX : cX B h M p R s mm args meth c ad0 n0 A) (hin : meth.name = "<init>") {pc idx ci k o : Nat} {rs : List (Option Nat)} {v : Int} {L : KL} {S : List AV} {m : Mem}
    (hd : decode (MT M.1).2.1 pc = .ok (.putfield idx, 3)) (hl : k_FR.any (fun q => Nat.beq q.1 M.2.1 && (Nat.beq q.2.1 idx && (Nat.beq q.2.2.1 ci && (Nat.beq q.2.2.2.1 k && Nat.beq q.2.2.2.2.1 0)))) = true)
    (hG : G[o]? = some (.inl (ci, rs))) (hfin : (k_TX ci k).2.2.2 = true) (hdecl : (k_TX ci k).1 = CN M.2.1)
    (kk : cW B M p e R s mm args below meth c cells slots Qf ad0 n0 A G (pc + 3) L S (fset m o k v)) : cW B M p e R s mm args below meth c cells slots Qf ad0 n0 A G pc L (vI v :: vR o :: S) m := by
  intro ad he hlen hw H locs ls hH hS hL hV
  have hl := k_fr hl
  obtain ⟨hx, hb, hml, hown, hts, h6, h7, hK, hRo, h10, hA⟩ := hX
  obtain ⟨h12, hkn, htc, hlk⟩ := k_FR_at hl
  obtain ⟨cq, hcq⟩ := k_cls_at h12
  obtain ⟨-, hqn, hqt, hqw, hqp, hqd⟩ := k_cls hcq
  obtain ⟨C0, T0, N0⟩ := cq
  simp only at hqn hqt hqw hqp hqd
  subst hqn hqt
  have hee := k_wl_at (cA := B.2.2.1) (ad := ad) (m := m) hG
  obtain ⟨hVv, hV2⟩ := k_kV_tail hV
  obtain ⟨-, hV3⟩ := k_kV_tail hV2
  have hty := k_tc_int htc
  refine va_putF hx hb hts hqw (k_ty ci) hqp hqd hown hK hH.1 hH.2.1 hS o hee hcq k hkn (hts _ hlk) (fun x h => h) hfin hin hdecl (hqp k hkn) (v := .int (Int32.ofInt v)) (by rw [hty]; rfl) (by rw [hty]; rfl) (by simpa using hkn) hd (fun H1 locs1 hP hD hS1 => ?_)
  have hw2 : k_wl B.2.2.1 ad (fset m o k v) G = (k_wl B.2.2.1 ad m G).set o (ad o, .inr (ci, ((List.range (k_nf ci)).map (k_fv ad m o ci rs)).set k (.int (Int32.ofInt v)))) := by
    rw [k_wl_upd (m := m) (m' := fset m o k v) hG (fun p hp => k_mset_ne hp), k_ent_put (by rw [htc]; decide)]
  refine kk ad he hlen hw H1 locs1 ls ⟨?_, ?_, k_mset_in hH.2.2 hVv⟩ hS1 hL hV3
  · show va_P B.2.1 cls (k_wl B.2.2.1 ad (fset m o k v) G) H1
    rw [hw2]; exact hP
  · show va_D A (k_wl B.2.2.1 ad (fset m o k v) G)
    rw [hw2]; exact hD
end CR2
/-- a constructor, called with these values where the graph is G, ends with the graph G' and a memory of which Q holds -/
def kNew (B : Bs) (h n : Nat) (as : List AV) (G G' : Gr) (m : Mem) (mc ms : Nat) (Q : Mem → Prop) : Prop := ∀ (ad0 : Nat → Nat) (sz : Nat), (∀ v ∈ as, kV v) →
  Met B.1 (MT n).1 (Cond.code (MT n).1 (MT n).2.1 (MT n).2.2.1 (MT n).2.2.2 :: TT) { frames := h, cells := mc, slots := ms, locals := 40 * h }
    (va_Pc (as.map (rv ad0)) (fun U => U.heap.size = sz ∧ kHp (bE B G) ad0 (kAd (bE B G) ad0) m U.heap ∧ va_K B.2.1 cls (k_tys B.2.2.1) U ∧ kRo (bE B G) ad0 (kAd (bE B G) ad0) U U.heap ∧ kLen G ∧ gWf G ∧ G.length ≤ 1000))
    (fun _ st oc t => (∃ (ad : Nat → Nat) (m' : Mem), oc = .returned none ∧ Q m' ∧ cExt ad0 G.length G' ad st.heap.size ∧ kHp (bE B G') ad (kAd (bE B G') ad) m' t.heap ∧ kLen G' ∧ gWf G') ∧ va_F (kAd (bE B G) ad0) st t) mc ms (fun q => kAd (bE B G) ad0 q ∨ sz ≤ q)
theorem kNP_blind {B : Bs} {G : Gr} {as : List AV} {m : Mem} {ad : Nat → Nat} {sz : Nat} : FrameBlind (va_Pc (as.map (rv ad)) (fun U => U.heap.size = sz ∧ kHp (bE B G) ad (kAd (bE B G) ad) m U.heap ∧ va_K B.2.1 cls (k_tys B.2.2.1) U ∧ kRo (bE B G) ad (kAd (bE B G) ad) U U.heap ∧ kLen G ∧ gWf G ∧ G.length ≤ 1000)) := by
  intro a U g mk h
  obtain ⟨h1, h0, h2, h3, h4, h5⟩ := h
  have hvm : (U.calling g mk a).vm = U.vm := rfl
  have hal : U.vm.Alike (U.calling g mk a).vm := Vm.Alike.refl U.vm
  refine ⟨h1, h0, h2, va_K.moved hal h3, ⟨fun j q hj => (h4.1 j q hj).moved hal, fun j t hj => ?_, fun w hw => ?_⟩, h5⟩
  · obtain ⟨a1, a2⟩ := h4.2.1 j t hj
    refine ⟨?_, a2⟩
    rcases a1 with a1 | a1
    · exact Or.inl ⟨a1.1, a1.2.moved hal⟩
    · exact Or.inr ⟨a1.1, a1.2.moved hal⟩
  · have h6 := h4.2.2 w hw
    simp only [k_NW, List.mem_cons, List.not_mem_nil, or_false] at hw
    rcases hw with rfl | rfl | rfl <;> exact va_Nw.same rfl rfl h6
section CR3
variable {B : Bs} {h : Nat} {M : Md} {p : Program} {e : Env} {R : Room} {s : State} {mm : MethodId} {args : Array Value} {below : List Frame} {meth : Method} {c : Code} {cells slots : Nat} {Qf : State → Prop} {ad0 : Nat → Nat} {n0 : Nat} {A : Nat → Prop} {G : Gr}
/-- a constructor is called -/
theorem c_init (hX : cX B h M p R s mm args meth c ad0 n0 A) {pc j n na o mc ms h2 cells' slots' : Nat} {G' : Gr} {xs S' : List AV} {L : KL} {m : Mem} {Q : Mem → Prop} (st : List AV) (hst : st = xs.reverse ++ vR o :: S')
    (hd : decode (MT M.1).2.1 pc = .ok (.invokespecial j, 3)) (hnm : (MT n).1.name = "<init>") (hret : (MT n).2.2.2 = none)
    (hl : k_LR.any (fun q => Nat.beq q.1 M.2.1 && (Nat.beq q.2.1 j && (Nat.beq q.2.2.1 n && Nat.beq q.2.2.2.1 na))) = true) (hr : k_MR.any (fun r => Nat.beq r.1 n && Nat.beq r.2.2.2.1 1) = true)
    (hlen : Nat.beq xs.length na = true) (hsum : Nat.ble (S'.map k_cat).sum 8 = true) (hr1 : k_rok G.length (k_lvs L) = true) (hr2 : k_rok G.length S' = true) (hh : h2 ≤ h) (hc1 : cells + mc ≤ R.cells) (hs1 : slots + ms ≤ R.slots) (hc2 : cells + mc ≤ cells') (hs2 : slots + ms ≤ slots')
    (hC : kNew B h2 n (vR o :: xs) G G' m mc ms Q)
    (kk : ∀ m', Q m' → cW B M p e R s mm args below meth c cells' slots' Qf ad0 n0 A G' (pc + 3) L S' m') : cW B M p e R s mm args below meth c cells slots Qf ad0 n0 A G pc L st m := by
  intro ad he hlen2 hw H locs ls hH hS hL hV
  have hAo := cX_A hX he
  obtain ⟨hx, hb, hml, hown, hts, hfr, hlo, hK, hRo, h10, hA⟩ := hX
  subst hst
  obtain ⟨⟨qo, qi, qn, qa, qp⟩, hq, hz⟩ := k_any hl
  simp only [Bool.and_eq_true] at hz
  have z1 := Nat.eq_of_beq_eq_true hz.1
  have z2 := Nat.eq_of_beq_eq_true hz.2.1
  have z3 := Nat.eq_of_beq_eq_true hz.2.2.1
  have z4 := Nat.eq_of_beq_eq_true hz.2.2.2
  subst z1 z2 z3 z4
  obtain ⟨r, hr, hr0⟩ := k_any hr
  simp only [Bool.and_eq_true] at hr0
  obtain ⟨w1, w2, w3, w4, -, w5⟩ := k_MR_at hr (Nat.eq_of_beq_eq_true hr0.1)
  obtain ⟨w6, -⟩ := w5 (Nat.eq_of_beq_eq_true hr0.2)
  have hlk := k_LR_ok _ hq
  simp only [k_lchk, Bool.and_eq_true, decide_eq_true_eq] at hlk
  obtain ⟨hl1, hl2, -⟩ := hlk
  have hV' : ∀ v ∈ vR o :: xs, kV v := by
    intro v hv
    rcases List.mem_cons.mp hv with rfl | hv
    · exact trivial
    · exact hV v (List.mem_append_left _ (List.mem_reverse.mpr hv))
  have hVS : ∀ v ∈ S', kV v := fun v hv => hV v (List.mem_append_right _ (List.mem_cons_of_mem _ hv))
  have hAd : ∀ q, kAd (bE B G) ad q → A q := by rintro q ⟨o, h1, rfl⟩; exact hAo o h1
  have hcw : CallB R s args (CN M.2.1) qi (MT qn).1 (MT qn).2.1 (MT qn).2.2.1 (MT qn).2.2.2 (Cond.code (MT qn).1 (MT qn).2.1 (MT qn).2.2.1 (MT qn).2.2.2 :: TT) { frames := h2, cells := mc, slots := ms, locals := 40 * h2 } mc ms qa ∧ (MT qn).1.name = "<init>" ∧ (Cond.instanceMethod (MT qn).1).before args s = true :=
    ⟨callB_of qa hts (k_goodTT w1) rfl rfl rfl (hts _ w2) (hts _ (k_at_in hl1)) ⟨w4.1, w4.2, hl2⟩ ⟨by show h2 + 1 ≤ R.frames; omega, by show 8 + ((MT qn).2.2.1 + 11) + 40 * h2 ≤ R.locals; omega⟩, hnm, hts _ w6⟩
  rw [hret] at hcw
  have hC' := hC ad H.size hV'
  rw [hret] at hC'
  have hrun := va_runI (b := ad o) (As := xs.map (rv ad)) (rest := S'.map (rv ad)) (g := F0 mm pc ls ((xs.reverse ++ vR o :: S').map (rv ad))) (H := H) (locs := locs) (cells := cells) (slots := slots) (p := p) (l := B.1) (e := e) (below := below) (meth := meth) ⟨hx, hb, hml, hown, hts⟩ hC' hcw
    ⟨kNP_blind, fun U hU hW => ⟨rfl, by rw [hU], by rw [hU]; exact kHp_self (E := bE B G) hH, va_K.moved hW.alike hK, kRo_move (E := bE B G) (kRo_ad hRo he.2.1) hS hU hW hAd, hlen2, hw, he.2.2.2.2⟩⟩
    rfl (by simpa using Nat.eq_of_beq_eq_true hlen) hL.1.1 (by simp [rv]) (lv_room (by rw [k_sum_cat hVS]; exact Nat.le_of_ble_eq_true hsum)) hd ⟨hc1, hs1⟩
  intro T hT X
  obtain ⟨v, st₀, t, T', Lc, h0, X', hLc, e1, e2, ⟨⟨ad2, m', hv, hq2, hex, hp, hl2', hw2'⟩, hz, hk⟩, stp⟩ := hrun T hT X
  have hv' : v = none := by injection hv
  subst hv'
  rw [h0] at hz hk hex
  have hsz : s.heap.size ≤ H.size := hS.1
  have hex2 : cExt ad0 n0 G' ad2 s.heap.size := by
    obtain ⟨x1, x2, x3, x4, x5⟩ := hex
    obtain ⟨y1, y2, y3, y4, y5⟩ := he
    refine ⟨fun o ho => by rw [x1 o (by omega)]; exact y1 o ho, fun o ho => by rw [x2 o ho]; exact y2 o ho, fun o g1 g2 => ?_, by omega, x5⟩
    by_cases hg : o < G.length
    · rw [x1 o hg]; exact y3 o g1 hg
    · exact Nat.le_trans hsz (x3 o (by omega) g2)
  have hA2 : ∀ q, kAd (bE B G') ad2 q → A q := by
    rintro q ⟨o, h1, rfl⟩
    by_cases hg : o < n0
    · rw [hex2.1 o hg]; exact h10 o hg
    · exact hA _ (hex2.2.2.1 o (by omega) h1)
  have hloc : ∀ q ∈ locs ++ Lc, A q.base := by
    intro q hq
    rcases List.mem_append.mp hq with h | h
    · exact hS.2.2 q h
    · rcases hLc q h with h | h
      · exact hAd _ h
      · exact hA _ (Nat.le_trans hsz h)
  have hX3 := stand_widen X' hc2 hs2
  obtain ⟨x1, x2, x3, x4, x5⟩ := hex
  have hW := kk m' hq2 ad2 hex2 hl2' hw2' T'.heap (locs ++ Lc) ls (kHp_up (E := bE B G') (by rw [e1]; exact hp) hA2)
    ⟨Nat.le_trans hsz (by rw [e1]; exact hz), fun q g1 g2 => by rw [e1, hk q (Nat.lt_of_lt_of_le g1 hsz) (fun z => g2 (hAd q z))]; exact hS.2.1 q g1 g2, hloc⟩ (kLs_ad x1 x2 hr1 hL) hVS T' rfl
  rw [kSt_ad x1 x2 hr2] at hW
  obtain ⟨t2, a1, b1⟩ := hW hX3
  exact ⟨t2, stp t2 a1, b1⟩
/-- a constructor's contract out of its body -/
theorem c_start {n mc ms : Nat} {as : List AV} {m : Mem} {G' : Gr} {Q : Mem → Prop} (hM : k_okM M) (hn : M.1 = n) (hret : M.2.2.2.1 = none) (hnm : (MT M.1).1.name = "<init>") (hlen : as.length ≤ M.2.2.1)
    (H : ∀ (p : Program) (e : Env) (s : State) (mm : MethodId) (args : Array Value) (below : List Frame) (meth : Method) (c : Code) (Qf : State → Prop) (ad0 : Nat → Nat) (A : Nat → Prop),
      cX B h M p { frames := h + 1, cells := mc, slots := ms, locals := 40 * (h + 1) } s mm args meth c ad0 G.length A → meth.name = "<init>" →
      (∀ (pc : Nat) (L : KL) (m' : Mem), decode (MT M.1).2.1 pc = .ok (.return_, 1) → Q m' → cW B M p e { frames := h + 1, cells := mc, slots := ms, locals := 40 * (h + 1) } s mm args below meth c mc ms Qf ad0 G.length A G' pc L [] m') →
      cW B M p e { frames := h + 1, cells := mc, slots := ms, locals := 40 * (h + 1) } s mm args below meth c 0 0 Qf ad0 G.length A G (k_pc M 0) (as.map some ++ List.replicate (M.2.2.1 - as.length) none) [] m) : kNew B (h + 1) n as G G' m mc ms Q := by
  intro ad0 sz hV
  subst hn
  obtain ⟨m1, m2, m3, m4, m5, m6⟩ := id hM
  refine Met.ofW (cc := (MT M.1).2.1) (maxL := (MT M.1).2.2.1) (ret := (MT M.1).2.2.2) m4 rfl ?_
  intro p e s mm args below meth c s₁ B0 hml hv
  obtain ⟨rfl, rfl, hH, hK, hRo, hLn, hWf, h1000⟩ := hv
  have hts := atoms_spec (ws := Cond.code (MT M.1).1 (MT M.1).2.1 (MT M.1).2.2.1 (MT M.1).2.2.2 :: TT) B0.pre
  have hown : s.vm.findClass (MT M.1).1.cls = some mm.cls := findClass_of_methodNamed B0.named
  have hlocks := B0.notSynchronized
  have hin : meth.name = "<init>" := by rw [(name_of_methodNamed B0.named B0.method).1]; exact hnm
  have hr := B0.returns
  rw [m2, hret] at hr
  have hA : ∀ q, (fun q : Nat => kAd (bE B G) ad0 q ∨ s.heap.size ≤ q) q → (fun q : Nat => kAd (bE B G) ad0 q ∨ s.heap.size ≤ q) q := fun q h => h
  have hin2 : ∀ (t : Nat), t < s.heap.size → ¬ kAd (bE B G) ad0 t → ¬ (fun q : Nat => kAd (bE B G) ad0 q ∨ s.heap.size ≤ q) t := fun t h1 h2 h3 => by
    rcases h3 with h3 | h3
    · exact h2 h3
    · omega
  have hRo' : kRo (bE B []) ad0 (fun q => kAd (bE B G) ad0 q ∨ s.heap.size ≤ q) s s.heap := by
    refine ⟨fun j q hj => ?_, fun j t hj => ?_, hRo.2.2⟩
    · obtain ⟨cf, kf, fi, f, a, cell, z1, z2, z3, z4, z5, z6, z7, z8⟩ := hRo.1 j q hj
      exact ⟨cf, kf, fi, f, a, cell, z1, z2, z3, z4, z5, z6, z7, hin2 a (Array.getElem?_eq_some_iff.mp z5).1 z8⟩
    · obtain ⟨g1, g2⟩ := hRo.2.1 j t hj
      refine ⟨?_, g2⟩
      rcases g1 with ⟨g0, cell, z1, z2, z3, z4, z5, z6, z7⟩ | ⟨g0, cell, z1, z2, z3, z4, z5, z6, z7⟩
      · exact Or.inl ⟨g0, cell, z1, z2, z3, z4, z5, z6, hin2 _ (Array.getElem?_eq_some_iff.mp z1).1 z7⟩
      · exact Or.inr ⟨g0, cell, z1, z2, z3, z4, z5, z6, hin2 _ (Array.getElem?_eq_some_iff.mp z1).1 z7⟩
  have hX : cX B h M p { frames := h + 1, cells := mc, slots := ms, locals := 40 * (h + 1) } s mm (as.map (rv ad0)).toArray meth c ad0 G.length (fun q => kAd (bE B G) ad0 q ∨ s.heap.size ≤ q) :=
    ⟨B0.exec, B0.bytes, by rw [hml, m1], by rw [← m3]; exact hown, fun w hw => hts w (List.mem_cons_of_mem _ hw), Nat.le_refl _, Nat.le_refl _, hK, hRo', fun o ho => Or.inl ⟨o, ho, rfl⟩, fun q h => Or.inr h⟩
  have hW := H p e s mm (as.map (rv ad0)).toArray below meth c (MQ below (fun _ st oc t => (∃ (ad : Nat → Nat) (m' : Mem), oc = .returned none ∧ Q m' ∧ cExt ad0 G.length G' ad st.heap.size ∧ kHp (bE B G') ad (kAd (bE B G') ad) m' t.heap ∧ kLen G' ∧ gWf G') ∧ va_F (kAd (bE B G) ad0) st t) (as.map (rv ad0)).toArray s mc ms (fun q => kAd (bE B G) ad0 q ∨ s.heap.size ≤ q)) ad0 _ hX hin (by
    intro pc L m' hdec hQ ad he hlen' hwf' H1 locs ls hH1 hS1 hL1 _
    refine W.vret B0.exec B0.bytes hr (fun t ht _ => ⟨⟨ad, m', rfl, hQ, he, by rw [ht]; exact kHp_self (E := bE B G') hH1, hlen', hwf'⟩, by rw [ht]; exact hS1.1, fun q g1 g2 => by rw [ht]; exact hS1.2.1 q g1 (hin2 q g1 g2)⟩) hS1.2.2 hdec)
  have hl := lv_entry (as.map (rv ad0)) (n := (MT M.1).2.2.1) (by rw [k_sl_len hV, m1]; exact hlen)
  rw [lg_entry_eq]
  generalize (lg_sl (as.map (rv ad0)) ++ List.replicate ((MT M.1).2.2.1 - (lg_sl (as.map (rv ad0))).length) Slot.unset).toArray = ls at hl ⊢
  have hpc : k_pc M 0 = 0 := by
    unfold k_pc
    rw [List.getD_eq_getElem?_getD] at m6 ⊢
    cases hq : M.2.2.2.2[0]? with
    | none => rw [hq] at m6; cases m6
    | some q => rw [hq] at m6; exact m6
  rw [hpc] at hW
  refine hW ad0 ⟨fun _ _ => rfl, fun _ _ => rfl, fun o g1 g2 => absurd g2 (by omega), Nat.le_refl _, h1000⟩ hLn hWf s.heap [] ls ⟨hH.1, hH.2.1.weaken (fun _ q _ h => Or.inl h), hH.2.2⟩ va_S.rf ⟨⟨by rw [hl.1, m1], hl.2.1, fun q hq => ?_⟩, by simp; omega, fun v hv => ?_⟩ (fun v hv => by cases hv)
  · obtain ⟨v, h1, h2⟩ := k_lv_in.mp hq
    by_cases hlt : q.1 < as.length
    · rw [List.getElem?_append_left (by simpa using hlt), List.getElem?_map] at h1
      cases ha : as[q.1]? with
      | none => rw [ha] at h1; cases h1
      | some w =>
        rw [ha] at h1
        have : w = v := by simpa using h1
        subst this
        have := hl.2.2 (0 + q.1, rv ad0 w) (k_args_in hV 0 q.1 w ha)
        rw [h2]
        simpa using this
    · rw [List.getElem?_append_right (by simpa using hlt)] at h1
      rw [List.getElem?_replicate] at h1
      split at h1 <;> cases h1
  · rcases List.mem_append.mp hv with h1 | h1
    · obtain ⟨w, h2, h3⟩ := List.mem_map.mp h1
      rw [← Option.some.inj h3]
      exact hV w h2
    · have := (List.mem_replicate.mp h1).2
      cases this
end CR3
