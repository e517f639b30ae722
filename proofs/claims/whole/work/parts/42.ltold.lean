/-! the law's told: it catches -/
abbrev tcw : Cond := .codeWith yL_told cL_told 5 (some .int) [(0, 10, 13, 13)]
theorem tcw_in : k_at 1431 tcw = true := by decide +kernel
theorem k_i2l {z : Int} (h : inR z) : (Int32.ofInt z).toInt64 = Int64.ofInt z := by
  apply Int64.toInt_inj.mp
  rw [Int32.toInt_toInt64, k_toInt_in h, Int64.toInt_ofInt_of_le (by obtain ⟨a, b⟩ := h; omega) (by obtain ⟨a, b⟩ := h; omega)]
theorem d_lt_0 : decode cL_told 0 = .ok (.aload_n 3, 1) := by decide +kernel
theorem d_lt_1 : decode cL_told 1 = .ok (.iconst 0, 1) := by decide +kernel
theorem d_lt_2 : decode cL_told 2 = .ok (.aload_n 0, 1) := by decide +kernel
theorem d_lt_3 : decode cL_told 3 = .ok (.iload_n 1, 1) := by decide +kernel
theorem d_lt_4 : decode cL_told 4 = .ok (.iload_n 2, 1) := by decide +kernel
theorem d_lt_5 : decode cL_told 5 = .ok (.invokevirtual 7, 3) := by decide +kernel
theorem d_lt_8 : decode cL_told 8 = .ok (.i2l, 1) := by decide +kernel
theorem d_lt_9 : decode cL_told 9 = .ok (.lastore, 1) := by decide +kernel
theorem d_lt_10 : decode cL_told 10 = .ok (.goto 7, 3) := by decide +kernel
theorem d_lt_13 : decode cL_told 13 = .ok (.astore 4, 2) := by decide +kernel
theorem d_lt_15 : decode cL_told 15 = .ok (.iconst 1, 1) := by decide +kernel
theorem d_lt_16 : decode cL_told 16 = .ok (.ireturn, 1) := by decide +kernel
theorem d_lt_17 : decode cL_told 17 = .ok (.iconst 0, 1) := by decide +kernel
theorem d_lt_18 : decode cL_told 18 = .ok (.ireturn, 1) := by decide +kernel
theorem k_wl_long {cA : Nat → ClassId} {ad : Nat → Nat} {m : Mem} {G : Gr} {o n : Nat} {z : Int} (hG : G[o]? = some (.inr (2, n))) : k_wl cA ad (mset m o 0 z) G = (k_wl cA ad m G).set o (ad o, .inl (cA 2, n, .inr (.inl (vp_updL (fun i => Int64.ofInt (m o (i : Int))) 0 (Int64.ofInt z))))) := by
  rw [k_wl_upd hG (fun p hp => k_mset_ne hp)]
  congr 1
  unfold k_ent
  simp only [if_true]
  congr 6
  funext i
  unfold vp_updL
  rw [k_mset_at]
  by_cases hi : i = 0
  · rw [if_pos hi, if_pos (by omega)]
  · rw [if_neg hi, if_neg (by omega)]
set_option maxHeartbeats 4000000 in
set_option maxRecDepth 100000 in
theorem c_ltold (X : Xv) (hl : X.1.stackTraces = false) (m : Mem) (k j : Int) (hk : inR k) (hj : inR j) (hso : 0 ≤ m 9 13 ∧ m 9 13 ≤ 6) (ad : Nat → Nat) :
    Met X.1 yL_told (tcw :: TT) { frames := 9, cells := 1, slots := 6, locals := 400 }
      (va_Pc [.ref (ad 0), .int (Int32.ofInt k), .int (Int32.ofInt j), .ref (ad 92)] (fun U => kHp (eX X) ad (kAd (eX X) ad) m U.heap ∧ va_K (eX X).2.1 cls (k_tys (eX X).2.2.1) U ∧ kRo (eX X) ad (kAd (eX X) ad) U U.heap ∧ kLen (eX X).2.2.2.1 ∧ kEx (kAd (eX X) ad) U U.heap))
      (fun _ st oc t => (∃ (r : Int) (m' : Mem), oc = .returned (some (.int (Int32.ofInt r))) ∧ ((tdOk m k j ∧ r = 0 ∧ m' = mset m 92 0 (m 10 (k * 5 + j))) ∨ (¬ tdOk m k j ∧ r = 1 ∧ m' = m)) ∧ kHp (eX X) ad (kAd (eX X) ad) m' t.heap) ∧ va_F (kAd (eX X) ad) st t) 1 6 (kAd (eX X) ad) := by
  refine va_MetW (cc := cL_told) (maxL := 5) (ret := some .int) (hh := [(0, 10, 13, 13)]) (by decide +kernel) rfl ?_
  intro p e s mm args below meth c s₁ B hml hv
  obtain ⟨rfl, hH, hK, hRo, hLn, hEx⟩ := hv
  have hts := atoms_spec (ws := tcw :: TT) B.pre
  have hts2 : ∀ w ∈ TT, w.before _ s = true := fun w hw => hts w (List.mem_cons_of_mem _ hw)
  have hx := B.exec
  have hb := B.bytes
  have hown : s.vm.findClass "CopperBoardLaw" = some mm.cls := findClass_of_methodNamed B.named
  have hlocks := B.notSynchronized
  have hr := B.returns
  have htab := vx_table (x := yL_told) B (hts tcw List.mem_cons_self)
  have hS : va_S (kAd (eX X) ad) s.heap s.heap [] := va_S.rf
  have hle := lv_entry ([.ref (ad 0), .int (Int32.ofInt k), .int (Int32.ofInt j), .ref (ad 92)]) (n := 5) (Nat.le_of_ble_eq_true rfl)
  rw [lg_entry_eq]
  generalize (lg_sl ([.ref (ad 0), .int (Int32.ofInt k), .int (Int32.ofInt j), .ref (ad 92)]) ++ List.replicate (5 - (lg_sl ([.ref (ad 0), .int (Int32.ofInt k), .int (Int32.ofInt j), .ref (ad 92)])).length) Slot.unset).toArray = ls at hle ⊢
  have hle : lv_has ls 5 [(0, .ref (ad 0)), (1, .int (Int32.ofInt k)), (2, .int (Int32.ofInt j)), (3, .ref (ad 92))] := hle
  refine lv_aload_n hx hb d_lt_0 rfl (lv_at hle 3 rfl) ?_
  refine lv_iconst (v := 0) hx hb d_lt_1 (by decide) ?_
  refine lv_aload_n hx hb d_lt_2 rfl (lv_at hle 0 rfl) ?_
  refine lv_iload_n hx hb d_lt_3 rfl (lv_at hle 1 rfl) ?_
  refine lv_iload_n hx hb d_lt_4 rfl (lv_at hle 2 rfl) ?_
  have hmr : k_MR.any (fun r => Nat.beq r.1 134 && (Nat.beq r.2.2.2.1 1 && !(Nat.beq r.2.2.2.2.2 9999))) = true := by decide +kernel
  have hlr : k_LR.any (fun q => Nat.beq q.1 13 && (Nat.beq q.2.1 7 && (Nat.beq q.2.2.1 134 && Nat.beq q.2.2.2.1 2))) = true := by decide +kernel
  obtain ⟨r, hr1, hr2⟩ := k_any hmr
  simp only [Bool.and_eq_true] at hr2
  obtain ⟨w1, w2, w3, w4, -, w5⟩ := k_MR_at hr1 (Nat.eq_of_beq_eq_true hr2.1)
  obtain ⟨w6, w7⟩ := w5 (Nat.eq_of_beq_eq_true hr2.2.1)
  have w7 := w7 (by simpa using hr2.2.2)
  obtain ⟨⟨qo, qi, qn, qa, qp⟩, hq, hz⟩ := k_any hlr
  simp only [Bool.and_eq_true] at hz
  have z1 := Nat.eq_of_beq_eq_true hz.1
  have z2 := Nat.eq_of_beq_eq_true hz.2.1
  have z3 := Nat.eq_of_beq_eq_true hz.2.2.1
  have z4 := Nat.eq_of_beq_eq_true hz.2.2.2
  subst z1 z2 z3 z4
  have hlk := k_LR_ok _ hq
  simp only [k_lchk, Bool.and_eq_true, decide_eq_true_eq] at hlk
  obtain ⟨hl1, hl2, -⟩ := hlk
  have hG0 : (eX X).2.2.2.1[0]? = some (.inl (11, [some 1, some 6, some 9, some 22, some 30, some 37, some 40, some 41, some 45, some 46, some 51])) := rfl
  have hG92 : (eX X).2.2.2.1[92]? = some (.inr (2, 1)) := rfl
  have he0 := k_wl_at (cA := (eX X).2.2.1) (ad := ad) (m := m) hG0
  have he92 := k_wl_at (cA := (eX X).2.2.1) (ad := ad) (m := m) hG92
  have hrec := va_recv hK hH.1 (ci := 11) (q := (RX11, TX11, 11)) rfl he0
  have hcw : CallW (headSpec (tcw :: TT) { frames := 9, cells := 1, slots := 6, locals := 400 }).room s [Value.ref (ad 0), .int (Int32.ofInt k), .int (Int32.ofInt j), .ref (ad 92)].toArray "CopperBoardLaw" (MT 134).1.cls 7 (MT 134).1 (MT 134).2.1 (MT 134).2.2.1 (MT 134).2.2.2 (Cond.code (MT 134).1 (MT 134).2.1 (MT 134).2.2.1 (MT 134).2.2.2 :: TT) { frames := 8, cells := 1, slots := 6, locals := 320 } 1 6 2 :=
    ⟨callB_of 2 hts2 (k_goodTT w1) rfl rfl rfl (hts2 _ w2) (hts2 _ (k_at_in hl1)) ⟨w4.1, w4.2, hl2⟩ ⟨Nat.le_of_ble_eq_true rfl, by show 8 + ((MT 134).2.2.1 + 11) + 320 ≤ 400; omega⟩, hts2 _ w6, hts2 _ w7⟩
  have hAd : ∀ q, kAd (eX X) ad q → kAd (eX X) ad q := fun q h => h
  refine vx_calli (mc := 1) (ms := 6) (vx_runV (b := ad 0) (As := [.int (Int32.ofInt k), .int (Int32.ofInt j)]) (rest := [.int 0, .ref (ad 92)]) ⟨hx, hb, hml, hown, hts2⟩ (c_told X hl m k j hk hj hso ad) hcw
    ⟨kEP_blind, by obtain ⟨cell, c1, c2, c3⟩ := hrec; exact ⟨cell, c1, c2, c3⟩, fun U hU hW => ⟨rfl, by rw [hU]; exact hH, va_K.moved hW.alike hK, kRo_move hRo hS hU hW hAd, hLn, kEx_move hEx hS hU hW hAd⟩⟩
    rfl rfl hle.1 rfl (lv_room (Nat.le_of_ble_eq_true rfl)) d_lt_5 ⟨Nat.le_of_ble_eq_true rfl, Nat.le_of_ble_eq_true rfl⟩) hS (fun q _ h => h) (fun q h => h) (fun q _ h => h)
    (fun E ce q9 u t H1 locs1 ht hvm hpx hBX hz1 hk1 hS1 hce hcev hcl => ?_) (fun r u t H1 locs1 ht hvm hpost hB hz1 hk1 hS1 => ?_)
  · obtain ⟨rfl, hB⟩ := hBX
    have hB : kHp (eX X) ad (kAd (eX X) ad) m t.heap := hB
    rw [ht] at hB
    refine vx_catch hown [] ⟨0, 10, 13, 13⟩ [] (by rw [htab]; rfl) (fun z hz => nomatch hz) (by decide) (by decide) (name := tXN) (hts2 _ (k_at_in (p := 1432) (by decide +kernel))) (va_Nw.use rfl (hEx.1 _ (by simp [tBad]))) hce hcev hcl ?_
    refine lv_astore (lv' := [(4, .ref q9), (0, .ref (ad 0)), (1, .int (Int32.ofInt k)), (2, .int (Int32.ofInt j)), (3, .ref (ad 92))]) hx hb d_lt_13 hle (by decide) rfl (fun ls hle => ?_)
    refine lv_iconst (v := 1) hx hb d_lt_15 (by decide) ?_
    exact W.iret hx hb hr (fun t ht _ => ⟨⟨1, m, rfl, Or.inr ⟨hpx, rfl, rfl⟩, by rw [ht]; exact hB⟩, hS1.F ht⟩) hS1.2.2 d_lt_16
  · obtain ⟨hok, hrv⟩ := hpost
    have hB : kHp (eX X) ad (kAd (eX X) ad) m t.heap := hB
    rw [ht] at hB
    subst hrv
    have hzr : inR (m 10 (k * 5 + j)) := hB.2.2 _ _
    refine lv_i2l hx hb d_lt_8 (k_i2l hzr) ?_
    unfold k_ent at he92
    refine va_last hx hb hK hB.1 hB.2.1 hS1 92 2 he92 rfl (fun h => by rcases h with h | h <;> revert h <;> decide) d_lt_9 (fun H2 locs2 hP2 hD2 hS2 => ?_)
    refine lv_goto hx hb d_lt_10 (show ((10 : Nat) : Int) + 7 = ((17 : Nat) : Int) by decide) ?_
    refine lv_iconst (v := 0) hx hb d_lt_17 (by decide) ?_
    have hw := k_wl_long (cA := (eX X).2.2.1) (ad := ad) (m := m) (z := m 10 (k * 5 + j)) hG92
    refine W.iret hx hb hr (fun t ht _ => ⟨⟨0, mset m 92 0 (m 10 (k * 5 + j)), rfl, Or.inl ⟨hok, rfl, rfl⟩, ?_⟩, hS2.F ht⟩) hS2.2.2 d_lt_18
    rw [ht]
    exact ⟨by rw [hw]; exact hP2, by rw [hw]; exact hD2, k_mset_in hB.2.2 hzr⟩
