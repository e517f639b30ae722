/-! told: its throw, its contract; the law's own told, which catches -/
def tBad : List Cond := [.declares (Bundle.initS tRN), .declares (Bundle.initS tEN), .declares (Bundle.initS Bundle.tN), .castable tXN tXN]
theorem tWs_bad : (tWs.filter (fun w => !goodWord w)).all (fun w => decide (w ∈ tBad)) = true := by decide +kernel
theorem tBad_in : tBad.all (fun w => decide (w ∈ lw_tbl)) = true := by decide +kernel
/-- what a throw needs of the start beside the words -/
def kEx (A : Nat → Prop) (s : State) (H : Heap) : Prop := (∀ w ∈ tBad, va_Nw w s) ∧ vx_Zq Bundle.tN "UNASSIGNED_STACK" Bundle.steD A s H ∧ vx_Zq Bundle.tN "SUPPRESSED_SENTINEL" Bundle.listD A s H ∧ ∃ sa, vk_R "CopperBoard" 133 "no such class or setting" sa s
theorem tBad_warm {s U : State} (hW : s.WarmedH U.vm) (h : ∀ w ∈ tBad, va_Nw w s) : ∀ w ∈ tBad, va_Nw w U := by
  intro w hw
  have h6 := h w hw
  simp only [tBad, List.mem_cons, List.not_mem_nil, or_false] at hw
  rcases hw with rfl | rfl | rfl | rfl
  · exact va_Nw.warmD hW h6
  · exact va_Nw.warmD hW h6
  · exact va_Nw.warmD hW h6
  · exact va_Nw.warmC hW h6
theorem kEx_move {A A' : Nat → Prop} {s U : State} {H : Heap} {locs : List Loc} (h : kEx A s s.heap) (hS : va_S A s.heap H locs) (hU : U.heap = H) (hW : s.WarmedH U.vm) (hA : ∀ q, A' q → A q) : kEx A' U U.heap := by
  have hk : ∀ a : Nat, a < s.heap.size → ¬ A a → H[a]? = s.heap[a]? := hS.2.1
  obtain ⟨h1, h2, h3, sa, h4⟩ := h
  refine ⟨tBad_warm hW h1, ?_, ?_, sa, vk_R.warm hW h4⟩
  · rw [hU]; exact vx_Zq.moved hW.alike ((h2.kept hk).narrow hA)
  · rw [hU]; exact vx_Zq.moved hW.alike ((h3.kept hk).narrow hA)
theorem tWs_hat {s : State} {args : Array Value} (hts : ∀ w ∈ TT, w.before args s = true) (hb : ∀ w ∈ tBad, va_Nw w s) : ∀ w ∈ tWs, w.before args s = true := by
  intro w hw
  have h1 : w ∈ lw_tbl := of_decide_eq_true (List.all_eq_true.mp tWs_in w hw)
  by_cases hg : goodWord w = true
  · exact hts w (List.mem_filter.mpr ⟨h1, hg⟩)
  · have h2 : w ∈ tBad := of_decide_eq_true (List.all_eq_true.mp tWs_bad w (List.mem_filter.mpr ⟨hw, by simpa using hg⟩))
    have h3 := hb w h2
    simp only [tBad, List.mem_cons, List.not_mem_nil, or_false] at h2
    rcases h2 with rfl | rfl | rfl | rfl <;> exact va_Nw.use rfl h3
section TTH2
variable {p : Program} {l : Launch} {e : Env} {R : Room} {s : State} {m : MethodId} {args : Array Value} {below : List Frame} {meth : Method} {c : Code} {H : Heap} {locs : List Loc} {cells slots : Nat} {ls : Array Slot} {rest : List Value} {free : Addr → Prop}
variable {Qc : Array Value → State → Outcome → State → Prop} {XC : String → State → State → Prop}
set_option maxHeartbeats 4000000 in
/-- 'throw new NoSuchElementException("no such class or setting")' -/
theorem t_throw {cc : ByteArray} {pc mc ms : Nat} {A : Nat → Prop} (hexec : p.tables.exec = Jvm.exec) (hb : c.code = cc) (hl : l.stackTraces = false)
    (hown : s.vm.findClass "CopperBoard" = some m.cls) (hts : ∀ w ∈ TT, w.before args s = true) (hE : kEx A s s.heap) (hS : va_S A s.heap H locs) (hsize : ls.size = c.maxLocals)
    (d0 : decode cc pc = .ok (.new 131, 3)) (d3 : decode cc (pc + 3) = .ok (.dup, 1)) (d4 : decode cc (pc + 4) = .ok (.ldc 133, 2)) (d6 : decode cc (pc + 6) = .ok (.invokespecial 135, 3)) (d9 : decode cc (pc + 9) = .ok (.athrow, 1))
    (hout : ∀ x ∈ c.exceptionTable.toList, covers x (pc + 9) = false)
    (hRframes : 5 < R.frames) (hRlocals : (rest.map fun v => v.category).sum + 82 ≤ R.locals) (hRcells : cells + 1 ≤ R.cells) (hRslots : slots + 6 ≤ R.slots) (hlocks : meth.locks = false)
    (hx : ∀ t : State, s.vm.Alike t.vm → H.size ≤ t.heap.size → (∀ q : Nat, q < H.size → t.heap[q]? = H[q]?) → XC tXN s t)
    (hf : ∀ z ∈ locs, free z.base) (hc : cells + 1 ≤ mc) (hs : slots + 6 ≤ ms) :
    W p l e R s m args below meth c H locs cells slots (vx_MQ below Qc XC args s mc ms free) (F0 m pc ls rest) := by
  obtain ⟨hbd, hU, hN, sa, hstr⟩ := hE
  have hat := tWs_hat hts hbd
  have hk : (Cond.classLink "CopperBoard" 131 tXN).before args s = true := hts _ (k_at_in (p := 1437) (by decide +kernel))
  have hini : (Cond.initialized tXN).before args s = true := hts _ (k_at_in (p := 160) (by decide +kernel))
  intro T hT X
  have htr : e.platform.stackTraces = false := (show e.platform.stackTraces = l.stackTraces by rw [X.admits.platform]).trans hl
  have Y := vx_rebase X (R' := { frames := R.frames, locals := R.locals, cells := 1, slots := 6 }) (Nat.le_refl _) (Nat.le_refl _) hRcells hRslots
  obtain ⟨s', hA⟩ : ∃ z, z = (T.setVm s.vm).setFrames (.invoking m args :: below) := ⟨_, rfl⟩
  rw [← hA] at Y
  have hvm : s'.vm = s.vm := by rw [hA]; rfl
  have hhp : s'.heap = H := by rw [hA]; exact hT
  have hW0 : s.WarmedH s'.vm := by rw [hvm]; exact State.WarmedH.refl s
  have hat' : ∀ w ∈ tWs, w.before args s' = true := fun w hw => vx_ot_at hW0 hvm.symm (List.all_eq_true.mp tWs_ot w hw) (hat w hw)
  have hk' : (Cond.classLink "CopperBoard" 131 tXN).before args s' = true := vx_ot_at hW0 hvm.symm (by decide +kernel) hk
  have hini' : (Cond.initialized tXN).before args s' = true := vx_ot_at hW0 hvm.symm (by decide +kernel) hini
  have hU' : vx_Zq Bundle.tN "UNASSIGNED_STACK" Bundle.steD A s' s'.heap := by rw [hhp]; exact vx_Zq.moved hW0.alike (hU.kept hS.2.1)
  have hN' : vx_Zq Bundle.tN "SUPPRESSED_SENTINEL" Bundle.listD A s' s'.heap := by rw [hhp]; exact vx_Zq.moved hW0.alike (hN.kept hS.2.1)
  have h : ∀ w ∈ tAt, w.before args s' = true := vx_own hat' (vx_isRefq hU'.1) (vx_isRefq hN'.1) hU'.2.word hN'.2.word
  have hown' : s'.vm.findClass "CopperBoard" = some m.cls := by rw [hvm]; exact hown
  have hins : (Cond.instantiable tXN 6).before args s' = true := h _ (by simp [tAt])
  obtain ⟨vm₁, cX, kX, hfX, hkX, -, -, X₁, st1⟩ := Y.newCold hexec (own := "CopperBoard") (C := tXN) (index := 131) (n := 6) hown' hk' hins hini'
    (g := F0 m pc ls rest) rfl (by rw [hb]; exact d0) (Nat.le_refl _) (Nat.le_refl _)
  generalize hT1 : (T.setVm vm₁).pushCell { cls := cX, slots := kX.instanceTypes.map defaultValue, vm := .none } = T1 at X₁ st1
  have hcat : (Value.ref T.heap.size).category = 1 := rfl
  have hcellA : T1.heap[T.heap.size]? = some (freshCell cX kX) := by rw [← hT1]; exact State.heap_pushCell_size _ _
  have d3' : decode c.code (pc + 3) = .ok (.dup, 1) := by rw [hb]; exact d3
  have d4' : decode c.code (pc + 4) = .ok (.ldc 133, 2) := by rw [hb]; exact d4
  have hstr' : vk_R "CopperBoard" 133 "no such class or setting" sa s' := vk_R.warm hW0 hstr
  obtain ⟨U, hsteps, hrun, hend, hW, hsame, ce, hce, hcev, hcl⟩ := t_ctor X₁ hexec htr hown' h (fun x hx => nomatch hx) hfX hkX hcellA (by rw [hhp, hT]; exact Nat.le_refl _) (msg := .ref sa) rfl
    (g := { method := m, pc := pc + 6, locals := ls, stack := .ref sa :: .ref T.heap.size :: .ref T.heap.size :: rest, locked := none }) rfl hsize rfl rfl (rest := rest) rfl
    (by rw [hb]; exact d6) (by rw [hb]; exact d9) hout hRframes (by
      simp only [List.map_cons, List.sum_cons, hcat]
      show 2 * 0 + _ + 81 ≤ R.locals
      omega) hlocks
  obtain ⟨f1, f2⟩ := vx_frame hsame
  rw [hhp] at f1 f2
  have hWs : s.WarmedH U.vm := State.WarmedH.trans hW0 hW
  rw [hvm] at hcl
  have hall : s.sameButNew ({ U with vm := s.vm } : State) locs mc ms := by
    subst hA
    obtain ⟨e1, e2⟩ := hsame
    rw [State.setFrames_setFrames] at e1
    have h2 : (T.setVm s.vm).sameButNew ({ U with vm := s.vm } : State) [] (0 + 1) (0 + 6) := ⟨e1, e2⟩
    have h3 := X.same.trans h2
    rw [List.append_nil] at h3
    exact h3.mono hc hs
  refine ⟨U, ?_, .threw T.heap.size, hrun, hend, Or.inr ⟨T.heap.size, rfl, tXN, ce, locs, hx U hWs.alike f1 (fun q hq => f2 q hq (fun z hz => nomatch hz)), hce, hcev, hcl, hWs, hall, hf⟩⟩
  refine st1 _ ?_
  show Steps p.tables e below (T1.setTop { method := m, pc := pc + 3, locals := ls, stack := .ref T.heap.size :: rest, locked := none }) _
  jvm_step X₁.here [X₁.here.top, hexec, d3', Value.category]
  exact X₁.ldcString hexec (own := "CopperBoard") (text := "no such class or setting") (index := 133) (a := sa) hown' hstr'.1 hstr'.2
    (g := { method := m, pc := pc + 4, locals := ls, stack := .ref T.heap.size :: .ref T.heap.size :: rest, locked := none }) rfl d4' _ hsteps
end TTH2
/-! CopperBoard.told -/
def P_X11_told : CB := [(0, [(.iload_n 1, 1, []), (.ifCond .lt 23, 3, [1]), (.iload_n 1, 1, []), (.aload_n 0, 1, []), (.getfield 40, 3, [11, 2, 1]), (.getfield 120, 3, [3, 13, 0]), (.if_icmp .ge 12, 3, [1]), (.iload_n 2, 1, []), (.ifCond .lt 8, 3, [1]), (.iload_n 2, 1, []), (.iconst 5, 1, []), (.if_icmp .lt 13, 3, [2]), (.nop, 0, [1])]),
  (24, []),
  (34, [(.aload_n 0, 1, []), (.getfield 40, 3, [11, 2, 1]), (.getfield 138, 3, [3, 1, 1]), (.iload_n 1, 1, []), (.iconst 5, 1, []), (.imul, 1, []), (.iload_n 2, 1, []), (.iadd, 1, []), (.iaload, 1, []), (.ireturn, 1, [])])]
abbrev M_X11_told : Md := (134, 11, 3, (some .int), P_X11_told)
theorem ok_X11_told : k_okM M_X11_told := by unfold k_okM; decide +kernel
def tdOk (m : Mem) (k j : Int) : Prop := (0 ≤ k ∧ k < m 9 13) ∧ (0 ≤ j ∧ j < 5)
theorem kEP_blind {E : Ev} {vs : List Value} {m : Mem} {ad : Nat → Nat} : FrameBlind (va_Pc vs (fun U => kHp E ad (kAd E ad) m U.heap ∧ va_K E.2.1 cls (k_tys E.2.2.1) U ∧ kRo E ad (kAd E ad) U U.heap ∧ kLen E.2.2.2.1 ∧ kEx (kAd E ad) U U.heap)) := by
  intro a U g mk h
  obtain ⟨h1, h2, h3, h4, h5, h6⟩ := h
  have hvm : (U.calling g mk a).vm = U.vm := rfl
  have hal : U.vm.Alike (U.calling g mk a).vm := Vm.Alike.refl U.vm
  refine ⟨h1, h2, va_K.moved hal h3, ⟨fun j q hj => (h4.1 j q hj).moved hal, fun j t hj => ?_, fun w hw => ?_⟩, h5, fun w hw => ?_, vx_Zq.moved hal h6.2.1, vx_Zq.moved hal h6.2.2.1, ?_⟩
  · obtain ⟨a1, a2⟩ := h4.2.1 j t hj
    refine ⟨?_, a2⟩
    rcases a1 with a1 | a1
    · exact Or.inl ⟨a1.1, a1.2.moved hal⟩
    · exact Or.inr ⟨a1.1, a1.2.moved hal⟩
  · have h6 := h4.2.2 w hw
    simp only [k_NW, List.mem_cons, List.not_mem_nil, or_false] at hw
    rcases hw with rfl | rfl | rfl <;> exact va_Nw.same rfl rfl h6
  · have h7 := h6.1 w hw
    simp only [tBad, List.mem_cons, List.not_mem_nil, or_false] at hw
    rcases hw with rfl | rfl | rfl | rfl <;> exact va_Nw.same rfl rfl h7
  · obtain ⟨sa, h7⟩ := h6.2.2.2
    exact ⟨sa, vk_R.same rfl h7⟩
set_option maxHeartbeats 4000000 in
set_option maxRecDepth 100000 in
theorem c_told (X : Xv) (hl : X.1.stackTraces = false) (m : Mem) (k j : Int) (hk : inR k) (hj : inR j) (hso : 0 ≤ m 9 13 ∧ m 9 13 ≤ 6) (ad : Nat → Nat) :
    vx_Met X.1 (MT 134).1 (Cond.code (MT 134).1 (MT 134).2.1 (MT 134).2.2.1 (MT 134).2.2.2 :: TT) { frames := 8, cells := 1, slots := 6, locals := 320 }
      (va_Pc [.ref (ad 0), .int (Int32.ofInt k), .int (Int32.ofInt j)] (fun U => kHp (eX X) ad (kAd (eX X) ad) m U.heap ∧ va_K (eX X).2.1 cls (k_tys (eX X).2.2.1) U ∧ kRo (eX X) ad (kAd (eX X) ad) U U.heap ∧ kLen (eX X).2.2.2.1 ∧ kEx (kAd (eX X) ad) U U.heap))
      (va_Qi (fun r (_ : Unit) => tdOk m k j ∧ r = Int32.ofInt (m 10 (k * 5 + j))) (fun _ t => kHp (eX X) ad (kAd (eX X) ad) m t.heap) (kAd (eX X) ad))
      (vx_X (fun _ : Unit => ¬ tdOk m k j) (fun E _ t => E = tXN ∧ kHp (eX X) ad (kAd (eX X) ad) m t.heap) (kAd (eX X) ad)) 1 6 (kAd (eX X) ad) := by
  refine vx_ofW (cc := (MT 134).2.1) (maxL := (MT 134).2.2.1) (ret := (MT 134).2.2.2) (by decide +kernel) rfl ?_
  intro p e s mm args below meth c s₁ B hml hnox hv
  obtain ⟨rfl, hH, hK, hRo, hLn, hEx⟩ := hv
  obtain ⟨m1, m2, m3, m4, m5, m6⟩ := ok_X11_told
  have hts := atoms_spec (ws := Cond.code (MT 134).1 (MT 134).2.1 (MT 134).2.2.1 (MT 134).2.2.2 :: TT) B.pre
  have hts2 : ∀ w ∈ TT, w.before _ s = true := fun w hw => hts w (List.mem_cons_of_mem _ hw)
  have hown : s.vm.findClass "CopperBoard" = some mm.cls := findClass_of_methodNamed B.named
  have hlocks := B.notSynchronized
  have hr := B.returns
  have hret : meth.sig.returnType = some .int := hr.trans (by decide +kernel)
  obtain ⟨Qf, hQf⟩ : ∃ Qf, Qf = vx_MQ below (va_Qi (fun r (_ : Unit) => tdOk m k j ∧ r = Int32.ofInt (m 10 (k * 5 + j))) (fun _ t => kHp (eX X) ad (kAd (eX X) ad) m t.heap) (kAd (eX X) ad)) (vx_X (fun _ : Unit => ¬ tdOk m k j) (fun E _ t => E = tXN ∧ kHp (eX X) ad (kAd (eX X) ad) m t.heap) (kAd (eX X) ad)) [Value.ref (ad 0), Value.int (Int32.ofInt k), Value.int (Int32.ofInt j)].toArray s 1 6 (kAd (eX X) ad) := ⟨_, rfl⟩
  rw [← hQf]
  have hX : kX (eX X) 7 M_X11_told (fun r m' => r = some (vI (m 10 (k * 5 + j))) ∧ m' = m ∧ tdOk m k j) p e (headSpec (Cond.code (MT 134).1 (MT 134).2.1 (MT 134).2.2.1 (MT 134).2.2.2 :: TT) { frames := 8, cells := 1, slots := 6, locals := 320 }).room s mm [Value.ref (ad 0), Value.int (Int32.ofInt k), Value.int (Int32.ofInt j)].toArray below meth c 0 0 Qf ad (kAd (eX X) ad) := by
    refine ⟨B.exec, B.bytes, by rw [hml, m1], hown, hts2, Nat.le_of_ble_eq_true rfl, Nat.le_of_ble_eq_true rfl, Nat.le_of_ble_eq_true rfl, Nat.le_of_ble_eq_true rfl, hK, hRo, fun o ho => ⟨o, ho, rfl⟩, hLn, ?_⟩
    intro r m' H' locs ls pc hT hp hS hdec
    obtain ⟨rfl, rfl, hok⟩ := hT
    rw [hQf]
    refine vx_ret (W.widen (k := 1) (n := 6) (Nat.le_of_ble_eq_true rfl) (Nat.le_of_ble_eq_true rfl) ?_)
    exact W.iret B.exec B.bytes hret (fun t ht _ => ⟨⟨_, (), rfl, ⟨hok, rfl⟩, by show kHp (eX X) ad (kAd (eX X) ad) _ t.heap; rw [ht]; exact hp⟩, hS.F ht⟩) hS.2.2 hdec.2
  have hno : ¬ tdOk m k j → kWW (eX X) M_X11_told p e (headSpec (Cond.code (MT 134).1 (MT 134).2.1 (MT 134).2.2.1 (MT 134).2.2.2 :: TT) { frames := 8, cells := 1, slots := 6, locals := 320 }).room s mm [Value.ref (ad 0), Value.int (Int32.ofInt k), Value.int (Int32.ofInt j)].toArray below meth c 0 0 Qf ad (kAd (eX X) ad) (k_pc M_X11_told 1) [some (vR 0), some (vI k), some (vI j)] [] m := by
    intro hok H1 locs ls hH1 hS1 hL1 _
    rw [hQf]
    refine t_throw (cc := (MT 134).2.1) (A := kAd (eX X) ad) B.exec B.bytes hl hown hts2 hEx hS1 (by rw [hL1.1.1, hml, m1]) (by decide +kernel) (by decide +kernel) (by decide +kernel) (by decide +kernel) (by decide +kernel) (fun x hx => (hnox x hx).elim) (Nat.le_of_ble_eq_true rfl) (Nat.le_of_ble_eq_true rfl) (Nat.le_of_ble_eq_true rfl) (Nat.le_of_ble_eq_true rfl) hlocks ?_ hS1.2.2 (Nat.le_refl _) (Nat.le_refl _)
    intro t ht h1 h2
    have hl : ∀ (i : Nat) (q : Nat × va_E), (k_wl (eX X).2.2.1 ad m (eX X).2.2.2.1)[i]? = some q → t.heap[q.1]? = H1[q.1]? := fun i q hq => h2 q.1 ((hH1.1 i q hq).lt)
    exact ⟨(), hok, ⟨rfl, hH1.1.kept hl, hH1.2.1, hH1.2.2⟩, Nat.le_trans hS1.1 h1, fun q g1 g2 => by rw [h2 q (Nat.lt_of_lt_of_le g1 hS1.1)]; exact hS1.2.1 q g1 g2⟩
  have hrun : kWW (eX X) M_X11_told p e (headSpec (Cond.code (MT 134).1 (MT 134).2.1 (MT 134).2.2.1 (MT 134).2.2.2 :: TT) { frames := 8, cells := 1, slots := 6, locals := 320 }).room s mm [Value.ref (ad 0), Value.int (Int32.ofInt k), Value.int (Int32.ofInt j)].toArray below meth c 0 0 Qf ad (kAd (eX X) ad) 0 [some (vR 0), some (vI k), some (vI j)] [] m := by
    have hyes : tdOk m k j → kWW (eX X) M_X11_told p e (headSpec (Cond.code (MT 134).1 (MT 134).2.1 (MT 134).2.2.1 (MT 134).2.2.2 :: TT) { frames := 8, cells := 1, slots := 6, locals := 320 }).room s mm [Value.ref (ad 0), Value.int (Int32.ofInt k), Value.int (Int32.ofInt j)].toArray below meth c 0 0 Qf ad (kAd (eX X) ad) 34 [some (vR 0), some (vI k), some (vI j)] [] m := by
      intro hok
      refine k_sound hX (J := fun _ _ _ _ => False) (fun _ _ _ _ h => h.elim) _ 34 _ [] m (List.all_eq_true.mp m5 (P_X11_told[2]) (List.mem_of_getElem? (i := 2) rfl)) ?_
      obtain ⟨⟨k0, k1⟩, j0, j1⟩ := id hok
      refine ⟨by constructor <;> omega, by constructor <;> omega, ⟨by omega, by show k * 5 + j < ((30 : Nat) : Int); omega⟩, ?_⟩
      exact ⟨rfl, rfl, hok⟩
    refine k_sound hX (J := fun b L S m' => kWW (eX X) M_X11_told p e (headSpec (Cond.code (MT 134).1 (MT 134).2.1 (MT 134).2.2.1 (MT 134).2.2.2 :: TT) { frames := 8, cells := 1, slots := 6, locals := 320 }).room s mm [Value.ref (ad 0), Value.int (Int32.ofInt k), Value.int (Int32.ofInt j)].toArray below meth c 0 0 Qf ad (kAd (eX X) ad) (k_pc M_X11_told b) L S m') (fun _ _ _ _ h => h) _ 0 _ [] m (List.all_eq_true.mp m5 (P_X11_told[0]) (List.mem_of_getElem? (i := 0) rfl)) ?_
    refine And.intro (fun h1 => hno (fun h => by obtain ⟨⟨a, b⟩, d, e⟩ := h; omega)) (fun h1 => And.intro (fun h2 => hno (fun h => ?_)) (fun h2 => And.intro (fun h3 => hno (fun h => by obtain ⟨⟨a, b⟩, d, e⟩ := h; omega)) (fun h3 => And.intro (fun h4 => hyes ?_) (fun h4 => hno (fun h => by obtain ⟨⟨a, b⟩, d, e⟩ := h; omega)))))
    · have h2 : m 9 13 ≤ k := h2
      obtain ⟨⟨a, b⟩, d, e⟩ := h
      omega
    · have h2 : k < m 9 13 := h2
      exact ⟨⟨h1, h2⟩, h3, h4⟩
  have hV : ∀ v ∈ [vR 0, vI k, vI j], kV v := by
    intro v hv
    simp only [List.mem_cons, List.not_mem_nil, or_false] at hv
    rcases hv with rfl | rfl | rfl
    · exact trivial
    · exact hk
    · exact hj
  have hle := lv_entry ([vR 0, vI k, vI j].map (rv ad)) (n := (MT 134).2.2.1) (by rw [k_sl_len hV, m1]; exact Nat.le_of_ble_eq_true rfl)
  have e0 : [Value.ref (ad 0), Value.int (Int32.ofInt k), Value.int (Int32.ofInt j)] = [vR 0, vI k, vI j].map (rv ad) := rfl
  rw [e0] at hrun ⊢
  rw [lg_entry_eq]
  generalize (lg_sl ([vR 0, vI k, vI j].map (rv ad)) ++ List.replicate ((MT 134).2.2.1 - (lg_sl ([vR 0, vI k, vI j].map (rv ad))).length) Slot.unset).toArray = ls at hle ⊢
  refine hrun s.heap [] ls hH va_S.rf ⟨⟨by rw [hle.1, m1], hle.2.1, fun q hq => ?_⟩, rfl, fun v hv => ?_⟩ (fun v hv => by cases hv)
  · obtain ⟨v, h1, h2⟩ := k_lv_in.mp hq
    cases ha : [vR 0, vI k, vI j][q.1]? with
    | none =>
      have : [some (vR 0), some (vI k), some (vI j)][q.1]? = ([vR 0, vI k, vI j][q.1]?).map some := by rw [← List.getElem?_map]; rfl
      rw [this, ha] at h1
      cases h1
    | some w =>
      have : [some (vR 0), some (vI k), some (vI j)][q.1]? = ([vR 0, vI k, vI j][q.1]?).map some := by rw [← List.getElem?_map]; rfl
      rw [this, ha] at h1
      have : w = v := by simpa using h1
      subst this
      have := hle.2.2 (0 + q.1, rv ad w) (k_args_in hV 0 q.1 w ha)
      rw [h2]
      simpa using this
  · exact hV v (by simpa using hv)
