/-! the law from its start to its loop (its first definitions are those of the kit's skeleton) -/
def R_law : String := "CopperBoardLaw"
def lw_P (b : Addr) (xs : List Int32) (args : Array Value) (s : State) : Prop := args = #[.ref b] ∧ s.IntsAt b xs ∧ xs.length ≤ 3587 ∧ (Jvm.Cond.and given_1 narrow_1).before args s = true
def lw_Q (_ : Array Value) (s : State) (o : Outcome) (t : State) : Prop := o = .returned (some (.int 1)) ∧ Framed s o t [] 601024 7293000
def lw_Z (below : List Frame) (a : Array Value) (s : State) : State → Prop := fun t => ∃ o, t.status = .running ∧ Ended t below o ∧ lw_Q a s o t
theorem lw_ret {p : Program} {l : Launch} {e : Env} {s : State} {m : MethodId} {below : List Frame} {meth : Method} {c : Code} {b : Nat} (hx : p.tables.exec = Jvm.exec) (hb : c.code = code) (hr : meth.sig.returnType = ret) (hlocks : meth.locks = false) {pc : Nat} {H : Heap} {ls : Array Slot} (hdg : decode code pc = .ok (.ireturn, 1)) : W p l e room_1 s m #[Value.ref b] below meth c H [] 601024 7293000 (lw_Z below #[Value.ref b] s) (F0 m pc ls [.int 1]) := by
  intro T hT X
  obtain ⟨fs, hret, hrun, hended, hW, hframe⟩ := X.leave (v := some (.int 1)) (hlocks := hlocks) (fun h => by rw [hr] at h; cases h)
  have hmeth' : T.vm.method? m = some meth := X.method'
  refine ⟨T.setFrames fs, ?_, .returned (some (.int 1)), hrun, hended, rfl, ⟨_, rfl⟩, hW, hframe⟩
  jvm_step X.here [X.here.top, hx, hb, hdg, hmeth', hr, ret, narrow_b1]
  (try refine ⟨rfl, ?_⟩); (try refine ⟨rfl, ?_⟩)
  first | (intro acts; rw [hret _ acts rfl rfl rfl]) | rw [hret _ _ rfl rfl rfl]
  exact Steps.refl _
def lw_At (p : Program) (s : State) (m : MethodId) (meth : Method) (c : Code) (b L : Nat) (xs : Nat → Int32) : Prop :=
  p.tables.exec = Jvm.exec ∧ c.code = code ∧ meth.sig.returnType = ret ∧ c.maxLocals = 7 ∧ s.vm.findClass R_law = some m.cls ∧ (∀ w ∈ lw_tbl, w.before #[Value.ref b] s = true) ∧ va_X b L xs s s.heap ∧ b < s.heap.size ∧ meth.locks = false ∧ (Jvm.Cond.and given_1 narrow_1).before #[Value.ref b] s = true

/-- the memory as both constructors leave it -/
def initM (w d l : Int) (m : Mem) : Prop := bS w d l m 54 m ∧ rS w d l m m
/-- what is to be shown of all 42 methods: an invariant for so many calls -/
def SimOK (T : Nat) : Prop := ∀ (X : Xv) (w d l : Int), okD w d l → w * d * l = (nC X : Int) → l = (nL X : Int) → (∀ i, inR (X.2.2.2.2.2.2 i)) → ∃ I : Nat → Mem → Prop, LawOK X T I ∧ ∀ m, initM w d l m → I 0 m
theorem mem_tbl {p : Nat} {w : Cond} (h : lw_tbl[p]? = some w) : w ∈ lw_tbl := List.mem_of_getElem? h
set_option maxRecDepth 100000 in
theorem st_OPPOSITE {s : State} {args : Array Value} {A : Nat → Prop} (hts : ∀ w ∈ lw_tbl, w.before args s = true) (hs : ∀ c ∈ flatC (Jvm.Cond.and given_1 narrow_1), c.before args s = true) (hA : ∀ a : Nat, a < s.heap.size → ¬ A a) : ∃ t : Nat, va_Z "CopperBoard" "OPPOSITE" "[I" (.ref t) A s s.heap ∧ va_T .int t 6 (fun i => .int (Int32.ofInt (oppF (i : Int)))) A s s.heap := by
  have hel : ∀ j : Nat, j < 6 → (Term.elem (.static "CopperBoard" "OPPOSITE" "[I") (.int (Int32.ofNat j))).eval args s none [] s = some (.int (Int32.ofInt (oppF (j : Int)))) := by
    intro j hj
    match j, hj with
    | 0, _ => exact va_eqt (z := 2) (hs _ (by decide +kernel))
    | 1, _ => exact va_eqt (z := 3) (hs _ (by decide +kernel))
    | 2, _ => exact va_eqt (z := 0) (hs _ (by decide +kernel))
    | 3, _ => exact va_eqt (z := 1) (hs _ (by decide +kernel))
    | 4, _ => exact va_eqt (z := 5) (hs _ (by decide +kernel))
    | 5, _ => exact va_eqt (z := 4) (hs _ (by decide +kernel))
    | j + 6, hj => omega
  obtain ⟨t, h1, h2⟩ := va_Tof (args := args) (s := s) (tm := .static "CopperBoard" "OPPOSITE" "[I") (ty := .int) (N := 6) (f := fun i => .int (Int32.ofInt (oppF (i : Int)))) (A := A) (by decide) (hs _ (by decide +kernel)) (va_eqt (z := 6) (hs _ (by decide +kernel))) hel hA
  exact ⟨t, va_Zref (hts _ (mem_tbl (p := 792) (by decide +kernel))) (hts _ (mem_tbl (p := 141) (by decide +kernel))) h1 hA, h2⟩
set_option maxRecDepth 100000 in
theorem st_LETTERS {s : State} {args : Array Value} {A : Nat → Prop} (hts : ∀ w ∈ lw_tbl, w.before args s = true) (hs : ∀ c ∈ flatC (Jvm.Cond.and given_1 narrow_1), c.before args s = true) (hA : ∀ a : Nat, a < s.heap.size → ¬ A a) : ∃ t : Nat, va_Z "CopperBoard$Tape" "LETTERS" "[C" (.ref t) A s s.heap ∧ va_T .char t 5 (fun i => .int (Int32.ofInt (letF (i : Int)))) A s s.heap := by
  have hel : ∀ j : Nat, j < 5 → (Term.elem (.static "CopperBoard$Tape" "LETTERS" "[C") (.int (Int32.ofNat j))).eval args s none [] s = some (.int (Int32.ofInt (letF (j : Int)))) := by
    intro j hj
    match j, hj with
    | 0, _ => exact va_eqt (z := 115) (hs _ (by decide +kernel))
    | 1, _ => exact va_eqt (z := 118) (hs _ (by decide +kernel))
    | 2, _ => exact va_eqt (z := 98) (hs _ (by decide +kernel))
    | 3, _ => exact va_eqt (z := 99) (hs _ (by decide +kernel))
    | 4, _ => exact va_eqt (z := 108) (hs _ (by decide +kernel))
    | j + 5, hj => omega
  obtain ⟨t, h1, h2⟩ := va_Tof (args := args) (s := s) (tm := .static "CopperBoard$Tape" "LETTERS" "[C") (ty := .char) (N := 5) (f := fun i => .int (Int32.ofInt (letF (i : Int)))) (A := A) (by decide) (hs _ (by decide +kernel)) (va_eqt (z := 5) (hs _ (by decide +kernel))) hel hA
  exact ⟨t, va_Zref (hts _ (mem_tbl (p := 704) (by decide +kernel))) (hts _ (mem_tbl (p := 144) (by decide +kernel))) h1 hA, h2⟩
set_option maxRecDepth 100000 in
theorem st_LEAST {s : State} {args : Array Value} {A : Nat → Prop} (hts : ∀ w ∈ lw_tbl, w.before args s = true) (hs : ∀ c ∈ flatC (Jvm.Cond.and given_1 narrow_1), c.before args s = true) (hA : ∀ a : Nat, a < s.heap.size → ¬ A a) : ∃ t : Nat, va_Z "CopperBoard$Tape" "LEAST" "[I" (.ref t) A s s.heap ∧ va_T .int t 4 (fun i => .int (Int32.ofInt (leaF (i : Int)))) A s s.heap := by
  have hel : ∀ j : Nat, j < 4 → (Term.elem (.static "CopperBoard$Tape" "LEAST" "[I") (.int (Int32.ofNat j))).eval args s none [] s = some (.int (Int32.ofInt (leaF (j : Int)))) := by
    intro j hj
    match j, hj with
    | 0, _ => exact va_eqt (z := 1) (hs _ (by decide +kernel))
    | 1, _ => exact va_eqt (z := 0) (hs _ (by decide +kernel))
    | 2, _ => exact va_eqt (z := 0) (hs _ (by decide +kernel))
    | 3, _ => exact va_eqt (z := 0) (hs _ (by decide +kernel))
    | j + 4, hj => omega
  obtain ⟨t, h1, h2⟩ := va_Tof (args := args) (s := s) (tm := .static "CopperBoard$Tape" "LEAST" "[I") (ty := .int) (N := 4) (f := fun i => .int (Int32.ofInt (leaF (i : Int)))) (A := A) (by decide) (hs _ (by decide +kernel)) (va_eqt (z := 4) (hs _ (by decide +kernel))) hel hA
  exact ⟨t, va_Zref (hts _ (mem_tbl (p := 718) (by decide +kernel))) (hts _ (mem_tbl (p := 144) (by decide +kernel))) h1 hA, h2⟩
set_option maxRecDepth 100000 in
theorem st_MOST {s : State} {args : Array Value} {A : Nat → Prop} (hts : ∀ w ∈ lw_tbl, w.before args s = true) (hs : ∀ c ∈ flatC (Jvm.Cond.and given_1 narrow_1), c.before args s = true) (hA : ∀ a : Nat, a < s.heap.size → ¬ A a) : ∃ t : Nat, va_Z "CopperBoard$Tape" "MOST" "[I" (.ref t) A s s.heap ∧ va_T .int t 4 (fun i => .int (Int32.ofInt (mosF (i : Int)))) A s s.heap := by
  have hel : ∀ j : Nat, j < 4 → (Term.elem (.static "CopperBoard$Tape" "MOST" "[I") (.int (Int32.ofNat j))).eval args s none [] s = some (.int (Int32.ofInt (mosF (j : Int)))) := by
    intro j hj
    match j, hj with
    | 0, _ => exact va_eqt (z := 9) (hs _ (by decide +kernel))
    | 1, _ => exact va_eqt (z := 99) (hs _ (by decide +kernel))
    | 2, _ => exact va_eqt (z := 99) (hs _ (by decide +kernel))
    | 3, _ => exact va_eqt (z := 2) (hs _ (by decide +kernel))
    | j + 4, hj => omega
  obtain ⟨t, h1, h2⟩ := va_Tof (args := args) (s := s) (tm := .static "CopperBoard$Tape" "MOST" "[I") (ty := .int) (N := 4) (f := fun i => .int (Int32.ofInt (mosF (i : Int)))) (A := A) (by decide) (hs _ (by decide +kernel)) (va_eqt (z := 4) (hs _ (by decide +kernel))) hel hA
  exact ⟨t, va_Zref (hts _ (mem_tbl (p := 720) (by decide +kernel))) (hts _ (mem_tbl (p := 144) (by decide +kernel))) h1 hA, h2⟩
set_option maxRecDepth 100000 in
theorem st_USUAL {s : State} {args : Array Value} {A : Nat → Prop} (hts : ∀ w ∈ lw_tbl, w.before args s = true) (hs : ∀ c ∈ flatC (Jvm.Cond.and given_1 narrow_1), c.before args s = true) (hA : ∀ a : Nat, a < s.heap.size → ¬ A a) : ∃ t : Nat, va_Z "CopperBoard$Tape" "USUAL" "[I" (.ref t) A s s.heap ∧ va_T .int t 4 (fun i => .int (Int32.ofInt (usuF (i : Int)))) A s s.heap := by
  have hel : ∀ j : Nat, j < 4 → (Term.elem (.static "CopperBoard$Tape" "USUAL" "[I") (.int (Int32.ofNat j))).eval args s none [] s = some (.int (Int32.ofInt (usuF (j : Int)))) := by
    intro j hj
    match j, hj with
    | 0, _ => exact va_eqt (z := 1) (hs _ (by decide +kernel))
    | 1, _ => exact va_eqt (z := 5) (hs _ (by decide +kernel))
    | 2, _ => exact va_eqt (z := 0) (hs _ (by decide +kernel))
    | 3, _ => exact va_eqt (z := 0) (hs _ (by decide +kernel))
    | j + 4, hj => omega
  obtain ⟨t, h1, h2⟩ := va_Tof (args := args) (s := s) (tm := .static "CopperBoard$Tape" "USUAL" "[I") (ty := .int) (N := 4) (f := fun i => .int (Int32.ofInt (usuF (i : Int)))) (A := A) (by decide) (hs _ (by decide +kernel)) (va_eqt (z := 4) (hs _ (by decide +kernel))) hel hA
  exact ⟨t, va_Zref (hts _ (mem_tbl (p := 690) (by decide +kernel))) (hts _ (mem_tbl (p := 144) (by decide +kernel))) h1 hA, h2⟩
theorem st_known {s : State} {args : Array Value} (hts : ∀ w ∈ TT, w.before args s = true) : ∃ D : va_G, ∀ (k : Nat) (q : vw_C), cls[k]? = some q → u_Kn s q.1 q.2.1 q.2.2 (D.1 k) (D.2 k) := by
  have h : ∀ k : Nat, ∃ (cc : ClassId) (iS : Nat → Nat), ∀ q, cls[k]? = some q → u_Kn s q.1 q.2.1 q.2.2 cc iS := by
    intro k
    match k with
    | 0 =>
      obtain ⟨cc, iS, hk⟩ := u_known (C := RX0) (T := TX0) (N := 9) (n := 9) hts (k_cw_of k_cw0 rfl) (hts (.instantiable (CN 0) (k_nf 0)) (k_at_in (p := 568) (by decide +kernel)))
      exact ⟨cc, iS, fun q hq => by cases hq; exact hk⟩
    | 1 =>
      obtain ⟨cc, iS, hk⟩ := u_known (C := RX1) (T := TX1) (N := 4) (n := 4) hts (k_cw_of k_cw1 rfl) (hts (.instantiable (CN 1) (k_nf 1)) (k_at_in (p := 487) (by decide +kernel)))
      exact ⟨cc, iS, fun q hq => by cases hq; exact hk⟩
    | 2 =>
      obtain ⟨cc, iS, hk⟩ := u_known (C := RX2) (T := TX2) (N := 9) (n := 9) hts (k_cw_of k_cw2 rfl) (hts (.instantiable (CN 2) (k_nf 2)) (k_at_in (p := 171) (by decide +kernel)))
      exact ⟨cc, iS, fun q hq => by cases hq; exact hk⟩
    | 3 =>
      obtain ⟨cc, iS, hk⟩ := u_known (C := RX3) (T := TX3) (N := 15) (n := 15) hts (k_cw_of k_cw3 rfl) (hts (.instantiable (CN 3) (k_nf 3)) (k_at_in (p := 282) (by decide +kernel)))
      exact ⟨cc, iS, fun q hq => by cases hq; exact hk⟩
    | 4 =>
      obtain ⟨cc, iS, hk⟩ := u_known (C := RX4) (T := TX4) (N := 5) (n := 5) hts (k_cw_of k_cw4 rfl) (hts (.instantiable (CN 4) (k_nf 4)) (k_at_in (p := 546) (by decide +kernel)))
      exact ⟨cc, iS, fun q hq => by cases hq; exact hk⟩
    | 5 =>
      obtain ⟨cc, iS, hk⟩ := u_known (C := RX5) (T := TX5) (N := 6) (n := 6) hts (k_cw_of k_cw5 rfl) (hts (.instantiable (CN 5) (k_nf 5)) (k_at_in (p := 462) (by decide +kernel)))
      exact ⟨cc, iS, fun q hq => by cases hq; exact hk⟩
    | 6 =>
      obtain ⟨cc, iS, hk⟩ := u_known (C := RX6) (T := TX6) (N := 10) (n := 10) hts (k_cw_of k_cw6 rfl) (hts (.instantiable (CN 6) (k_nf 6)) (k_at_in (p := 360) (by decide +kernel)))
      exact ⟨cc, iS, fun q hq => by cases hq; exact hk⟩
    | 7 =>
      obtain ⟨cc, iS, hk⟩ := u_known (C := RX7) (T := TX7) (N := 15) (n := 15) hts (k_cw_of k_cw7 rfl) (hts (.instantiable (CN 7) (k_nf 7)) (k_at_in (p := 409) (by decide +kernel)))
      exact ⟨cc, iS, fun q hq => by cases hq; exact hk⟩
    | 8 =>
      obtain ⟨cc, iS, hk⟩ := u_known (C := RX8) (T := TX8) (N := 6) (n := 6) hts (k_cw_of k_cw8 rfl) (hts (.instantiable (CN 8) (k_nf 8)) (k_at_in (p := 255) (by decide +kernel)))
      exact ⟨cc, iS, fun q hq => by cases hq; exact hk⟩
    | 9 =>
      obtain ⟨cc, iS, hk⟩ := u_known (C := RX9) (T := TX9) (N := 6) (n := 6) hts (k_cw_of k_cw9 rfl) (hts (.instantiable (CN 9) (k_nf 9)) (k_at_in (p := 608) (by decide +kernel)))
      exact ⟨cc, iS, fun q hq => by cases hq; exact hk⟩
    | 10 =>
      obtain ⟨cc, iS, hk⟩ := u_known (C := RX10) (T := TX10) (N := 11) (n := 11) hts (k_cw_of k_cw10 rfl) (hts (.instantiable (CN 10) (k_nf 10)) (k_at_in (p := 506) (by decide +kernel)))
      exact ⟨cc, iS, fun q hq => by cases hq; exact hk⟩
    | 11 =>
      obtain ⟨cc, iS, hk⟩ := u_known (C := RX11) (T := TX11) (N := 11) (n := 11) hts (k_cw_of k_cw11 rfl) (hts (.instantiable (CN 11) (k_nf 11)) (k_at_in (p := 163) (by decide +kernel)))
      exact ⟨cc, iS, fun q hq => by cases hq; exact hk⟩
    | 12 =>
      obtain ⟨cc, iS, hk⟩ := u_known (C := RX12) (T := TX12) (N := 54) (n := 54) hts (k_cw_of k_cw12 rfl) (hts (.instantiable (CN 12) (k_nf 12)) (k_at_in (p := 1504) (by decide +kernel)))
      exact ⟨cc, iS, fun q hq => by cases hq; exact hk⟩
    | k + 13 => exact ⟨0, fun _ => 0, fun q hq => by simp [cls] at hq⟩
  exact ⟨(fun k => (h k).choose, fun k => (h k).choose_spec.choose), fun k q hq => (h k).choose_spec.choose_spec q hq⟩
theorem st_arr {s : State} {args : Array Value} {ty : FieldType} (h : (Cond.arrayClass ty).before args s = true) : ∃ cA : ClassId, ArrOfT s cA ty ∧ s.vm.findClass ("[" ++ ty.toString) = some cA := by
  obtain ⟨cA, kA, comp, h1, h2, h3⟩ := Cond.arrayClass_spec h
  exact ⟨cA, fun n z => ⟨fun k h => (by cases h), kA, h2, comp, h3⟩, h1⟩
theorem st_Ex {s : State} {args : Array Value} {A : Nat → Prop} (hts : ∀ w ∈ lw_tbl, w.before args s = true) (hs : ∀ c ∈ flatC (Jvm.Cond.and given_1 narrow_1), c.before args s = true) (hA : ∀ a : Nat, a < s.heap.size → ¬ A a) {cc : ClassId} (hfc : s.vm.findClass "CopperBoard" = some cc) : kEx A s s.heap := by
  refine ⟨fun w hw => ?_, vx_Zqof (hts _ (mem_tbl (p := 1464) (by decide +kernel))) (hts _ (mem_tbl (p := 157) (by decide +kernel))) (hs _ (by decide +kernel)) hA, vx_Zqof (hts _ (mem_tbl (p := 1466) (by decide +kernel))) (hts _ (mem_tbl (p := 157) (by decide +kernel))) (hs _ (by decide +kernel)) hA, ?_⟩
  · have h1 : w ∈ lw_tbl := of_decide_eq_true (List.all_eq_true.mp tBad_in w hw)
    have h2 := hts w h1
    simp only [tBad, List.mem_cons, List.not_mem_nil, or_false] at hw
    rcases hw with rfl | rfl | rfl | rfl <;> exact va_Nw.of rfl h2
  · have h1 : (Cond.stringRef "CopperBoard" 133 "no such class or setting").before args s = true := hts _ (mem_tbl (p := 1476) (by decide +kernel))
    obtain ⟨-, -, -, sa, -, -, -, -, -, hev⟩ := Cond.stringRef_spec hfc h1
    exact ⟨sa, vk_R.of (A := args) h1 hev⟩
theorem xs_toInt {xs : Nat → Int32} (i : Nat) : Int32.ofInt ((fun i : Int => (xs i.toNat).toInt) (i : Int)) = xs i := by
  show Int32.ofInt ((xs ((i : Int)).toNat).toInt) = xs i
  rw [Int.toNat_natCast, k_ofInt_toInt]
set_option maxHeartbeats 16000000 in
set_option maxRecDepth 100000 in
theorem law_start {T : Nat} (hSim : SimOK T) {p : Program} {e : Env} {s : State} {mm : MethodId} {below : List Frame} {meth : Method} {c : Code} (l : Launch) (hflags : l.flags = flags0) {b L : Nat} {xs : Nat → Int32} (hL : L ≤ 3587) (hT : L ≤ 9 + 7 * T) (C0 : lw_At p s mm meth c b L xs) : W p l e room_1 s mm #[Value.ref b] below meth c s.heap [] 0 0 (lw_Z below #[Value.ref b] s) (entryFrame mm ([Value.ref b] : List Value).toArray 7) := by
  obtain ⟨hx, hb, hr, hml, hown, hts, hXs, hbl, hlocks, hgv⟩ := C0
  have hs := flat_of_before _ hgv
  have hts2 : ∀ w ∈ TT, w.before #[Value.ref b] s = true := fun w hw => hts w (TT_in hw)
  have hst : l.stackTraces = false := by unfold Launch.stackTraces; rw [hflags]; decide +kernel
  obtain ⟨A, hAe⟩ : ∃ A : Nat → Prop, A = fun q => s.heap.size ≤ q := ⟨_, rfl⟩
  have hA1 : ∀ q : Nat, s.heap.size ≤ q → A q := fun q h => by rw [hAe]; exact h
  have hA2 : ∀ a : Nat, a < s.heap.size → ¬ A a := fun a h => by rw [hAe]; exact Nat.not_le.mpr h
  obtain ⟨D, hKc⟩ := st_known hts2
  obtain ⟨cI, aI1, aI2⟩ := st_arr (ty := .int) (hts2 _ (k_at_in (p := 253) (by decide +kernel)))
  obtain ⟨cZ, aZ1, aZ2⟩ := st_arr (ty := .boolean) (hts2 _ (k_at_in (p := 1677) (by decide +kernel)))
  obtain ⟨cJ, aJ1, aJ2⟩ := st_arr (ty := .long) (hts2 _ (k_at_in (p := 2213) (by decide +kernel)))
  obtain ⟨cA, hcA⟩ : ∃ cA : Nat → ClassId, cA = fun k => if k = 0 then cI else if k = 1 then cZ else cJ := ⟨_, rfl⟩
  have hcA0 : cA 0 = cI := by rw [hcA]; rfl
  have hcA1 : cA 1 = cZ := by rw [hcA]; rfl
  have hcA2 : cA 2 = cJ := by rw [hcA]; rfl
  have hK : va_K D cls (k_tys cA) s := by
    refine ⟨hKc, fun k q hq => ?_⟩
    unfold k_tys at hq
    rw [hcA0, hcA1, hcA2] at hq
    match k, hq with
    | 0, hq => cases hq; exact ⟨aI1, aI2⟩
    | 1, hq => cases hq; exact ⟨aZ1, aZ2⟩
    | 2, hq => cases hq; exact ⟨aJ1, aJ2⟩
    | k + 3, hq => simp at hq
  obtain ⟨t0, z0, v0⟩ := st_OPPOSITE hts hs hA2
  obtain ⟨t1, z1, v1⟩ := st_LETTERS hts hs hA2
  obtain ⟨t2, z2, v2⟩ := st_LEAST hts hs hA2
  obtain ⟨t3, z3, v3⟩ := st_MOST hts hs hA2
  obtain ⟨t4, z4, v4⟩ := st_USUAL hts hs hA2
  obtain ⟨ad0, had⟩ : ∃ ad0 : Nat → Nat, ad0 = fun o => if o = 1000 then t0 else if o = 1001 then t1 else if o = 1002 then t2 else if o = 1003 then t3 else if o = 1004 then t4 else b := ⟨_, rfl⟩
  have ha0 : ad0 1000 = t0 := by rw [had]; rfl
  have ha1 : ad0 1001 = t1 := by rw [had]; rfl
  have ha2 : ad0 1002 = t2 := by rw [had]; rfl
  have ha3 : ad0 1003 = t3 := by rw [had]; rfl
  have ha4 : ad0 1004 = t4 := by rw [had]; rfl
  have ha5 : ad0 1005 = b := by rw [had]; rfl
  -- the script, the board
  obtain ⟨ys, hys⟩ : ∃ ys : Int → Int, ys = fun i => (xs i.toNat).toInt := ⟨_, rfl⟩
  have hyr : ∀ i, inR (ys i) := fun i => by rw [hys]; exact k_in_toInt _
  obtain ⟨g, hg⟩ : ∃ g : Int → Int, g = fun k => if k < (L : Int) then ys k else 0 := ⟨_, rfl⟩
  obtain ⟨w, hw⟩ : ∃ w, max 2 (min 9 (g 0)) = w := ⟨_, rfl⟩
  obtain ⟨d, hd⟩ : ∃ d, max 2 (min 9 (g 1)) = d := ⟨_, rfl⟩
  obtain ⟨h, hh⟩ : ∃ h, max 1 (min 4 (g 2)) = h := ⟨_, rfl⟩
  have hD : okD w d h := by refine ⟨by omega, by omega, by omega⟩
  have hcc := okD_cells hD
  obtain ⟨n, hn⟩ : ∃ n : Nat, w * d * h = (n : Int) := ⟨(w * d * h).toNat, by omega⟩
  obtain ⟨ly, hly⟩ : ∃ ly : Nat, h = (ly : Int) := ⟨h.toNat, by have := hD.2.2; omega⟩
  obtain ⟨X, hX⟩ : ∃ X : Xv, X = (l, D, cA, n, ly, L, ys) := ⟨_, rfl⟩
  have hRo : kRo (bE (bX X) []) ad0 A s s.heap := by
    subst hX
    refine ⟨fun j q hq => ?_, fun j t hj => ?_, fun w hw => ?_⟩
    · match j, hq with
      | 0, hq => cases hq; show va_Z _ _ _ (.ref (ad0 1000)) A s s.heap; rw [ha0]; exact z0
      | 1, hq => cases hq; show va_Z _ _ _ (.ref (ad0 1001)) A s s.heap; rw [ha1]; exact z1
      | 2, hq => cases hq; show va_Z _ _ _ (.ref (ad0 1002)) A s s.heap; rw [ha2]; exact z2
      | 3, hq => cases hq; show va_Z _ _ _ (.ref (ad0 1003)) A s s.heap; rw [ha3]; exact z3
      | 4, hq => cases hq; show va_Z _ _ _ (.ref (ad0 1004)) A s s.heap; rw [ha4]; exact z4
      | j + 5, hq => simp [k_SN] at hq
    · have hj : (RO0 L ys)[j]? = some t := hj
      match j, hj with
      | 0, hj => cases hj; exact ⟨Or.inl ⟨rfl, by show va_T .int (ad0 1000) _ _ A s s.heap; rw [ha0]; exact v0⟩, fun i => by show inR (oppF i); unfold oppF; (repeat' split) <;> (constructor <;> omega), by decide⟩
      | 1, hj => cases hj; exact ⟨Or.inr ⟨rfl, by show va_T .char (ad0 1001) _ _ A s s.heap; rw [ha1]; exact v1⟩, fun i => by show inR (letF i); unfold letF; (repeat' split) <;> (constructor <;> omega), by decide⟩
      | 2, hj => cases hj; exact ⟨Or.inl ⟨rfl, by show va_T .int (ad0 1002) _ _ A s s.heap; rw [ha2]; exact v2⟩, fun i => by show inR (leaF i); unfold leaF; (repeat' split) <;> (constructor <;> omega), by decide⟩
      | 3, hj => cases hj; exact ⟨Or.inl ⟨rfl, by show va_T .int (ad0 1003) _ _ A s s.heap; rw [ha3]; exact v3⟩, fun i => by show inR (mosF i); unfold mosF; (repeat' split) <;> (constructor <;> omega), by decide⟩
      | 4, hj => cases hj; exact ⟨Or.inl ⟨rfl, by show va_T .int (ad0 1004) _ _ A s s.heap; rw [ha4]; exact v4⟩, fun i => by show inR (usuF i); unfold usuF; (repeat' split) <;> (constructor <;> omega), by decide⟩
      | 5, hj =>
        cases hj
        refine ⟨Or.inl ⟨rfl, ?_⟩, hyr, by show L ≤ 2147483647; omega⟩
        show va_T .int (ad0 1005) L (fun i => .int (Int32.ofInt (ys (i : Int)))) A s s.heap
        rw [ha5]
        obtain ⟨scr, s1, s2, s3, s4, s5⟩ := hXs
        refine ⟨scr, s1, s2, s3, by rw [s4]; exact Nat.le_refl _, by rw [s4], fun j hj => ?_, hA2 b hbl⟩
        rw [s5 j hj]
        show _ = some (Value.int (Int32.ofInt (ys (j : Int))))
        rw [hys, xs_toInt]
      | j + 6, hj => simp [RO0] at hj
    · have h1 := hts w (k_NW_in w hw)
      simp only [k_NW, List.mem_cons, List.not_mem_nil, or_false] at hw
      rcases hw with rfl | rfl | rfl <;> exact va_Nw.of rfl h1
  have hEx : kEx A s s.heap := st_Ex hts hs hA2 (hKc 11 _ rfl).2.1
  have hXc : cX (bX X) 2000 M_law p room_1 s mm #[Value.ref b] meth c ad0 0 A := by
    subst hX
    exact ⟨hx, hb, hml, hown, hts2, by decide, by decide, hK, hRo, fun o ho => absurd ho (by omega), hA1⟩
  have hXl : X.1 = l := by rw [hX]
  have hXn : nC X = n := by rw [hX]
  have hXy : nL X = ly := by rw [hX]
  have hXL : X.2.2.2.2.2.1 = L := by rw [hX]
  have hXs2 : X.2.2.2.2.2.2 = ys := by rw [hX]
  have hXB : (bX X).2.2.2 = RO0 L ys := by rw [hX]
  obtain ⟨I, hLaw, hInit⟩ := hSim X w d h hD (by rw [hXn]; exact hn) (by rw [hXy]; exact hly) (by rw [hXs2]; exact hyr)
  have hfin : ∀ (ce sl : Nat) (L : KL) (m : Mem), ce ≤ 601024 → sl ≤ 7293000 → cW (bX X) M_law p e room_1 s mm #[Value.ref b] below meth c ce sl (lw_Z below #[Value.ref b] s) ad0 0 A (G0 (nC X) (nL X)) (k_pc M_law 67) L [] m := by
    intro ce sl L m h1 h2 ad he hlen hw2 H locs ls hH hS hL2 hV
    show W p (bX X).1 e room_1 s mm #[Value.ref b] below meth c H locs ce sl (lw_Z below #[Value.ref b] s) (F0 mm 1933 ls [])
    refine lv_iconst (v := 1) hx hb (by decide +kernel : decode code 1933 = .ok (.iconst 1, 1)) (by decide) ?_
    refine va_forget (fun q hq => by have := hS.2.2 q hq; rw [hAe] at this; exact this) ?_
    refine W.widen h1 h2 ?_
    exact lw_ret hx hb hr hlocks (by decide +kernel : decode code 1934 = .ok (.ireturn, 1))
  have hloop := law_loop X (by rw [hXl]; exact hst) (by rw [hXL]; exact hL) (T := T) (by rw [hXL]; exact hT) hLaw (by rw [hXs2]; exact hyr) hXc hEx hfin
  -- the objects are made
  obtain ⟨mA, hmA⟩ : ∃ mA : Mem, mA = fun _ _ => 0 := ⟨_, rfl⟩
  have hrun : cW (bX X) M_law p e room_1 s mm #[Value.ref b] below meth c 0 0 (lw_Z below #[Value.ref b] s) ad0 0 A [] 0 [some (vR 1005), none, none, none, none, none, none] [] mA := by
    refine c_new hXc (idx := 8) (ci := 11) (o := 0) (cells' := 1) (slots' := 11) (G' := [.inl (11, k_nulls 11)]) 162 163 141 (by decide +kernel) (by decide +kernel) (by decide +kernel) (by decide +kernel) rfl (k_def_ok 11 (by decide)) rfl rfl rfl rfl rfl (by decide) (by decide) (Nat.le_refl _) (Nat.le_refl _) ?_
    refine l_seg hXc ok_law (by decide) (by decide) 1 (b1 := 2) (L1 := [some (vR 1005), none, none, none, none, none, none]) (S1 := [vI (g 2), vI (g 1), vI (g 0), vR 0, vR 0]) (m1 := mz mA 0) ⟨_, rfl, ?_⟩ ?_
    · refine kCall_mono (c_L_cell _ _ L ys hXB _ 0 (by decide)) (Nat.le_of_ble_eq_true rfl) ?_
      rintro _ _ ⟨rfl, rfl⟩
      refine kCall_mono (c_L_cell _ _ L ys hXB _ 1 (by decide)) (Nat.le_of_ble_eq_true rfl) ?_
      rintro _ _ ⟨rfl, rfl⟩
      refine kCall_mono (c_L_cell _ _ L ys hXB _ 2 (by decide)) (Nat.le_of_ble_eq_true rfl) ?_
      rintro _ _ ⟨rfl, rfl⟩
      rw [hg]
      exact ⟨rfl, rfl, rfl, rfl⟩
    refine c_init hXc (j := 21) (n := 129) (na := 3) (o := 0) (h2 := 3) (cells' := 60) (slots' := 30000) (G' := (G0 n ly).take 54) (xs := [vI (g 0), vI (g 1), vI (g 2)]) (S' := [vR 0]) _ rfl (by decide +kernel) rfl rfl (by decide +kernel) (by decide +kernel) rfl rfl rfl rfl (Nat.le_of_ble_eq_true rfl) (by decide) (by decide) (by decide) (by decide) (n_X11_init (bX X) n ly _ _ _ _ w d h hw hd hh hn hly) (fun m1 hm1 => ?_)
    refine l_seg hXc ok_law (by decide) (by decide) 3 ⟨_, rfl, rfl, rfl, rfl, rfl⟩ ?_
    refine c_new hXc (idx := 24) (ci := 12) (o := 54) (cells' := 61) (slots' := 30054) (G' := gM n ly 55 (k_nulls 12)) 1503 1504 155 (by decide +kernel) (by decide +kernel) (by decide +kernel) (by decide +kernel) rfl (k_def_ok 12 (by decide)) rfl rfl rfl rfl rfl (by decide) (by decide) (Nat.le_refl _) (Nat.le_refl _) ?_
    refine l_seg hXc ok_law (by decide) (by decide) 5 (b1 := 6) (L1 := [some (vR 1005), some (vR 0), none, none, none, none, none]) (S1 := [vI (g 2), vI (g 1), vI (g 0), vR 54, vR 54]) (m1 := mz m1 54) ⟨_, rfl, ?_⟩ ?_
    · refine kCall_mono (c_L_cell _ _ L ys hXB _ 0 (by decide)) (Nat.le_of_ble_eq_true rfl) ?_
      rintro _ _ ⟨rfl, rfl⟩
      refine kCall_mono (c_L_cell _ _ L ys hXB _ 1 (by decide)) (Nat.le_of_ble_eq_true rfl) ?_
      rintro _ _ ⟨rfl, rfl⟩
      refine kCall_mono (c_L_cell _ _ L ys hXB _ 2 (by decide)) (Nat.le_of_ble_eq_true rfl) ?_
      rintro _ _ ⟨rfl, rfl⟩
      rw [hg]
      exact ⟨rfl, rfl, rfl, rfl⟩
    refine c_init hXc (j := 26) (n := 181) (na := 3) (o := 54) (h2 := 2) (cells' := 99) (slots' := 199990) (G' := gM n ly 92 [none, none, none, none, some 55, none, none, none, some 56, some 57, some 58, some 59, some 60, none, none, some 61, some 62, some 63, some 64, some 65, some 66, some 67, some 68, some 69, some 70, some 71, none, some 72, none, none, none, some 73, some 74, none, some 75, some 76, some 77, some 78, some 79, some 80, some 81, none, some 82, some 83, some 84, some 85, some 86, none, none, some 87, some 88, some 89, some 90, some 91]) (xs := [vI (g 0), vI (g 1), vI (g 2)]) (S' := [vR 54]) _ rfl (by decide +kernel) rfl rfl (by decide +kernel) (by decide +kernel) rfl rfl rfl rfl (Nat.le_of_ble_eq_true rfl) (by decide) (by decide) (by decide) (by decide) (n_X12_init (bX X) n ly _ _ _ _ w d h hw hd hh (fun i => mz_at i)) (fun m2 hm2 => ?_)
    refine l_seg hXc ok_law (by decide) (by decide) 7 ⟨_, rfl, rfl, rfl, rfl, rfl⟩ ?_
    refine c_newa hXc (atype := .long) (ft := .long) (ty := 2) (n := 1) (o := 92) (cells' := 100) (slots' := 200000) (G' := G0 n ly) 2213 (by decide +kernel) rfl rfl (Or.inr (Or.inr ⟨rfl, rfl⟩)) (by decide +kernel) rfl rfl rfl rfl (by decide) rfl rfl (by decide) (by decide) (by decide) (by decide) ?_
    refine l_seg hXc ok_law (by decide) (by decide) 9 ⟨_, rfl, rfl, rfl, rfl, rfl⟩ ?_
    have hI0 : initM w d h (mz m2 92) := by
      obtain ⟨r1, r2, r3, r4, r5, r6, r7⟩ := hm2
      have hlow : ∀ o, o < 54 → mz m2 92 o = m1 o := fun o ho => by rw [mz_ne (by omega), r7 o (Or.inl ho), mz_ne (by omega)]
      have hmid : ∀ o, 54 ≤ o → o < 92 → mz m2 92 o = m2 o := fun o h1 h2 => mz_ne (by omega)
      refine ⟨?_, ?_⟩
      · obtain ⟨b1, b2, b3, b4, b5, b6, b7⟩ := hm1
        refine ⟨gridC_same b1 (fun o o1 o2 => hlow o (by omega)), by rw [hlow 6 (by omega)]; exact b2, by rw [hlow 6 (by omega)]; exact b3, fun o o1 o2 o3 o4 i => by rw [hlow o o2]; exact b4 o o1 o2 o3 o4 i, fun hk => by rw [hlow 41 (by omega), hlow 3 (by omega), hlow 4 (by omega)]; exact b5 hk, fun hk => by rw [hlow 47 (by omega)]; exact b6 hk, fun o ho => rfl⟩
      · refine ⟨by rw [hmid 54 (by omega) (by omega)]; exact r1, by rw [hmid 54 (by omega) (by omega)]; exact r2, by rw [hmid 54 (by omega) (by omega)]; exact r3, by rw [hmid 54 (by omega) (by omega)]; exact r4, fun o o1 o2 o3 i => by rw [hmid o (by omega) o2]; exact r5 o o1 o2 o3 i, by rw [hmid 88 (by omega) (by omega)]; exact r6, fun o ho => rfl⟩
    have hgo := hloop 520 0 (mz m2 92) none none rfl (hInit _ hI0)
    rw [show 3 + 7 * ((0 : Nat) : Int) = 3 by decide, hXn, hXy] at hgo
    exact hgo
  have hl := lv_entry ([.ref b]) (n := 7) (Nat.le_of_ble_eq_true rfl)
  rw [lg_entry_eq]
  generalize (lg_sl ([.ref b]) ++ List.replicate (7 - (lg_sl ([.ref b])).length) Slot.unset).toArray = ls at hl ⊢
  have hl : lv_has ls 7 [(0, .ref b)] := hl
  have hfinal := hrun ad0 ⟨fun _ _ => rfl, fun _ _ => rfl, fun o _ h2 => absurd h2 (by simp), Nat.le_refl _, by decide⟩ (fun o t n h => by simp at h) (fun o ci k q rs h => by simp at h) s.heap [] ls ⟨fun k q h => by simp [k_wl] at h, ⟨fun i j p q h => by simp [k_wl] at h, fun k q h => by simp [k_wl] at h⟩, fun o i => by rw [hmA]; exact k_inR0⟩ va_S.rf ⟨⟨hl.1, hl.2.1, fun q hq => ?_⟩, rfl, fun v hv => ?_⟩ (fun v hv => by cases hv)
  · have : (bX X).1 = l := hXl
    rw [this] at hfinal
    exact hfinal
  · obtain ⟨v, h1, h2⟩ := k_lv_in.mp hq
    match q, h1, h2 with
    | (0, y), h1, h2 =>
      cases h1
      simp only at h2
      subst h2
      show ls[0]? = some (.val (.ref (ad0 1005)))
      rw [ha5]
      exact hl.2.2 (0, .ref b) List.mem_cons_self
    | (1, y), h1, h2 => cases h1
    | (2, y), h1, h2 => cases h1
    | (3, y), h1, h2 => cases h1
    | (4, y), h1, h2 => cases h1
    | (5, y), h1, h2 => cases h1
    | (6, y), h1, h2 => cases h1
    | (k + 7, y), h1, h2 => simp at h1
  · simp only [List.mem_cons, List.not_mem_nil, or_false, Option.some.injEq, reduceCtorEq] at hv
    subst hv
    exact trivial
