/-! what the heap holds of the memory, and what it means that the machine ends well -/
abbrev Ev : Type := Launch × va_G × (Nat → ClassId) × Gr × Ro
abbrev Md : Type := Nat × Nat × Nat × Option FieldType × CB
def rv (ad : Nat → Nat) : AV → Value
  | .inl x => .int (Int32.ofInt x)
  | .inr (.inl o) => .ref (ad o)
  | .inr (.inr x) => .long (Int64.ofInt x)
def k_fv (ad : Nat → Nat) (m : Mem) (o ci : Nat) (rs : List (Option Nat)) (k : Nat) : Value :=
  if k_tc (k_ty ci k) = 1 then (match rs[k]? with | some (some q) => .ref (ad q) | _ => .null) else .int (Int32.ofInt (fld m o k))
def k_ent (cA : Nat → ClassId) (ad : Nat → Nat) (m : Mem) (o : Nat) : Ob → Nat × va_E
  | .inl (ci, rs) => (ad o, .inr (ci, (List.range (k_nf ci)).map (k_fv ad m o ci rs)))
  | .inr (ty, n) => (ad o, .inl (cA ty, n, if ty = 2 then .inr (.inl (fun i => Int64.ofInt (m o (i : Int)))) else .inl (fun i => Int32.ofInt (m o (i : Int)))))
def k_wl (cA : Nat → ClassId) (ad : Nat → Nat) (m : Mem) (G : Gr) : va_W := G.mapIdx (fun o d => k_ent cA ad m o d)
def k_tys (cA : Nat → ClassId) : List (ClassId × FieldType) := [(cA 0, .int), (cA 1, .boolean), (cA 2, .long)]
theorem k_wl_at {cA : Nat → ClassId} {ad : Nat → Nat} {m : Mem} {G : Gr} {o : Nat} {d : Ob} (h : G[o]? = some d) : (k_wl cA ad m G)[o]? = some (k_ent cA ad m o d) := by
  unfold k_wl
  rw [List.getElem?_mapIdx, h]; rfl
theorem k_ent_cong {cA : Nat → ClassId} {ad : Nat → Nat} {m m' : Mem} {o : Nat} (h : m' o = m o) (d : Ob) : k_ent cA ad m' o d = k_ent cA ad m o d := by
  have hf : ∀ ci rs k, k_fv ad m' o ci rs k = k_fv ad m o ci rs k := fun ci rs k => by unfold k_fv fld; rw [h]
  cases d with
  | inl q =>
    obtain ⟨ci, rs⟩ := q
    unfold k_ent
    simp only
    rw [show k_fv ad m' o ci rs = k_fv ad m o ci rs from funext (hf ci rs)]
  | inr q =>
    obtain ⟨ty, n⟩ := q
    unfold k_ent
    simp only [h]
theorem k_wl_upd {cA : Nat → ClassId} {ad : Nat → Nat} {m m' : Mem} {G : Gr} {o : Nat} {d : Ob} (hG : G[o]? = some d) (h : ∀ p, p ≠ o → m' p = m p) : k_wl cA ad m' G = (k_wl cA ad m G).set o (k_ent cA ad m' o d) := by
  apply List.ext_getElem?
  intro j
  have ho : o < G.length := (List.getElem?_eq_some_iff.mp hG).1
  by_cases hj : j = o
  · subst hj
    rw [k_wl_at hG, List.getElem?_set_self (by unfold k_wl; rw [List.length_mapIdx]; exact ho)]
  · rw [List.getElem?_set_ne (Ne.symm hj)]
    unfold k_wl
    rw [List.getElem?_mapIdx, List.getElem?_mapIdx]
    cases G[j]? with
    | none => rfl
    | some d => exact congrArg some (k_ent_cong (h j hj) d)
def kHp (E : Ev) (ad : Nat → Nat) (A : Nat → Prop) (m : Mem) (H : Heap) : Prop := va_P E.2.1 cls (k_wl E.2.2.1 ad m E.2.2.2.1) H ∧ va_D A (k_wl E.2.2.1 ad m E.2.2.2.1) ∧ ∀ o i, inR (m o i)
def kRo (E : Ev) (ad : Nat → Nat) (A : Nat → Prop) (s : State) (H : Heap) : Prop :=
  (∀ (j : Nat) (q : String × String × String), k_SN[j]? = some q → va_Z q.1 q.2.1 q.2.2 (.ref (ad (1000 + j))) A s H) ∧
  (∀ (j : Nat) (t : Nat × Nat × (Int → Int)), E.2.2.2.2[j]? = some t → ((t.1 = 0 ∧ va_T .int (ad (1000 + j)) t.2.1 (fun i => .int (Int32.ofInt (t.2.2 (i : Int)))) A s H) ∨ (t.1 = 3 ∧ va_T .char (ad (1000 + j)) t.2.1 (fun i => .int (Int32.ofInt (t.2.2 (i : Int)))) A s H)) ∧ (∀ i, inR (t.2.2 i)) ∧ t.2.1 ≤ 2147483647) ∧
  ∀ w ∈ k_NW, va_Nw w s
def kLen (G : Gr) : Prop := ∀ (o t n : Nat), G[o]? = some (.inr (t, n)) → n ≤ 2147483647 ∧ t ≤ 2
def kV : AV → Prop
  | .inl x => inR x
  | .inr (.inl _) => True
  | .inr (.inr _) => False
def k_lv (ad : Nat → Nat) (L : KL) : List (Nat × Value) := (List.range L.length).filterMap (fun i => match L[i]? with
  | some (some v) => some (i, rv ad v)
  | _ => none)
def kLs (ad : Nat → Nat) (ls : Array Slot) (n : Nat) (L : KL) : Prop := lv_has ls n (k_lv ad L) ∧ L.length = n ∧ ∀ v, some v ∈ L → kV v
def k_rm (h : Nat) : Room := { frames := h, cells := 0, slots := 0, locals := 40 * h }
def kAd (E : Ev) (ad : Nat → Nat) : Nat → Prop := fun q => ∃ o, o < E.2.2.2.1.length ∧ q = ad o
/-- a method, called with these values on this memory, ends with an answer and a memory of which Q holds -/
def kCall (E : Ev) (h n : Nat) (as : List AV) (m : Mem) (Q0 : Option AV → Mem → Prop) : Prop := ∀ (h' : Nat), h ≤ h' → ∀ (Q : Option AV → Mem → Prop), (∀ r m', Q0 r m' → Q r m') → ∀ (ad : Nat → Nat), (∀ v ∈ as, kV v) →
  Met E.1 (MT n).1 (Cond.code (MT n).1 (MT n).2.1 (MT n).2.2.1 (MT n).2.2.2 :: TT) (k_rm h')
    (va_Pc (as.map (rv ad)) (fun U => kHp E ad (kAd E ad) m U.heap ∧ va_K E.2.1 cls (k_tys E.2.2.1) U ∧ kRo E ad (kAd E ad) U U.heap ∧ kLen E.2.2.2.1))
    (fun _ st oc t => (∃ (r : Option AV) (m' : Mem), oc = .returned (r.map (rv ad)) ∧ Q r m' ∧ kHp E ad (kAd E ad) m' t.heap ∧ ∀ v, r = some v → kV v) ∧ va_F (kAd E ad) st t) 0 0 (kAd E ad)
def k_T (ret : Option FieldType) (Q : Option AV → Mem → Prop) (r : Option AV) (m : Mem) : Prop := match ret with
  | none => match r with
    | none => Q none m
    | _ => False
  | some .int => match r with
    | some (.inl a) => Q (some (vI a)) m
    | _ => False
  | some .boolean => match r with
    | some (.inl a) => (a = 0 ∨ a = 1) ∧ Q (some (vI a)) m
    | _ => False
  | _ => False
section KX
variable (E : Ev) (h : Nat) (M : Md) (T : Option AV → Mem → Prop) (p : Program) (e : Env) (R : Room) (s : State) (mm : MethodId) (args : Array Value) (below : List Frame) (meth : Method) (c : Code) (cells slots : Nat) (Qf : State → Prop) (ad : Nat → Nat) (A : Nat → Prop)
def kX : Prop :=
  p.tables.exec = Jvm.exec ∧ c.code = (MT M.1).2.1 ∧ c.maxLocals = M.2.2.1 ∧ s.vm.findClass (CN M.2.1) = some mm.cls ∧ (∀ w ∈ TT, w.before args s = true) ∧ h + 1 ≤ R.frames ∧ 40 * (h + 1) ≤ R.locals ∧ cells ≤ R.cells ∧ slots ≤ R.slots ∧ va_K E.2.1 cls (k_tys E.2.2.1) s ∧ kRo E ad A s s.heap ∧ (∀ o, o < E.2.2.2.1.length → A (ad o)) ∧ kLen E.2.2.2.1 ∧
  (∀ (r : Option AV) (m : Mem) (H : Heap) (locs : List Loc) (ls : Array Slot) (pc : Nat), T r m → kHp E ad A m H → va_S A s.heap H locs → (match r with
    | none => decode (MT M.1).2.1 pc = .ok (.return_, 1)
    | some (.inl a) => inR a ∧ decode (MT M.1).2.1 pc = .ok (.ireturn, 1)
    | _ => False) → W p E.1 e R s mm args below meth c H locs cells slots Qf (F0 mm pc ls (match r with
    | none => []
    | some v => [rv ad v])))
def kWW (pc : Nat) (L : KL) (S : List AV) (m : Mem) : Prop := ∀ (H : Heap) (locs : List Loc) (ls : Array Slot), kHp E ad A m H → va_S A s.heap H locs → kLs ad ls M.2.2.1 L → (∀ v ∈ S, kV v) → W p E.1 e R s mm args below meth c H locs cells slots Qf (F0 mm pc ls (S.map (rv ad)))
end KX
def k_pc (M : Md) (b : Nat) : Nat := (M.2.2.2.2.getD b (0, [])).1
/-- the method's body, from this block on with these locals, stack and memory, comes to a return of which T holds -/
def kW (E : Ev) (h : Nat) (M : Md) (T : Option AV → Mem → Prop) (b : Nat) (L : KL) (S : List AV) (m : Mem) : Prop :=
  ∀ (p : Program) (e : Env) (R : Room) (s : State) (mm : MethodId) (args : Array Value) (below : List Frame) (meth : Method) (c : Code) (cells slots : Nat) (Qf : State → Prop) (ad : Nat → Nat) (A : Nat → Prop), kX E h M T p e R s mm args below meth c cells slots Qf ad A → kWW E M p e R s mm args below meth c cells slots Qf ad A (k_pc M b) L S m
def k_dc (bts : ByteArray) (pc : Nat) (i : Instr) (len n : Nat) : Bool := decide (decode bts pc = .ok (i, len)) && Nat.beq len n
def k_tg (pcs : List Nat) (b pc : Nat) (off : Int) : Bool := match pcs[b]? with
  | some t => decide ((pc : Int) + off = (t : Int))
  | none => false
def k_tgs (pcs : List Nat) (pc : Nat) : List Nat → List Int → Bool
  | [], [] => true
  | b :: bs, f :: fs => k_tg pcs b pc f && k_tgs pcs pc bs fs
  | _, _ => false
def k_okI (o : Nat) (pcs : List Nat) (bts : ByteArray) (pc : Nat) (i : Instr) (len : Nat) (x : List Nat) : Bool := match i with
  | .nop => Nat.beq len 0 && (match x with
    | b :: _ => k_tg pcs b pc 0
    | [] => false)
  | .iconst n => k_dc bts pc i len 1 && decide (inR n)
  | .bipush n => k_dc bts pc i len 2 && decide (inR n ∧ (Int8.ofInt n).toInt32 = Int32.ofInt n)
  | .sipush n => k_dc bts pc i len 3 && decide (inR n ∧ (Int16.ofInt n).toInt32 = Int32.ofInt n)
  | .ldc j => k_dc bts pc i len 2 && (match x with
    | v :: _ => k_KR.any (fun q => Nat.beq q.1 o && (Nat.beq q.2.1 j && Nat.beq q.2.2.1 v))
    | [] => false)
  | .ldc_w j => k_dc bts pc i len 3 && (match x with
    | v :: _ => k_KR.any (fun q => Nat.beq q.1 o && (Nat.beq q.2.1 j && Nat.beq q.2.2.1 v))
    | [] => false)
  | .iload _ => k_dc bts pc i len 2
  | .aload _ => k_dc bts pc i len 2
  | .istore _ => k_dc bts pc i len 2
  | .astore _ => k_dc bts pc i len 2
  | .iinc _ _ => k_dc bts pc i len 3
  | .getfield j => k_dc bts pc i len 3 && (match x with
    | ci :: k :: t :: _ => k_FR.any (fun q => Nat.beq q.1 o && (Nat.beq q.2.1 j && (Nat.beq q.2.2.1 ci && (Nat.beq q.2.2.2.1 k && Nat.beq q.2.2.2.2.1 t))))
    | _ => false)
  | .putfield j => k_dc bts pc i len 3 && (match x with
    | ci :: k :: t :: _ => k_FR.any (fun q => Nat.beq q.1 o && (Nat.beq q.2.1 j && (Nat.beq q.2.2.1 ci && (Nat.beq q.2.2.2.1 k && (Nat.beq q.2.2.2.2.1 t && !(k_TX ci k).2.2.2)))))
    | _ => false)
  | .getstatic j => k_dc bts pc i len 3 && (match x with
    | b :: _ => k_SR.any (fun q => Nat.beq q.1 o && (Nat.beq q.2.1 j && Nat.beq q.2.2.1 b))
    | [] => false)
  | .goto f => k_dc bts pc i len 3 && (match x with
    | b :: _ => k_tg pcs b pc f
    | [] => false)
  | .ifCond _ f => k_dc bts pc i len 3 && (match x with
    | b :: _ => k_tg pcs b pc f
    | [] => false)
  | .if_icmp _ f => k_dc bts pc i len 3 && (match x with
    | b :: _ => k_tg pcs b pc f
    | [] => false)
  | .tableswitch d lo hi fs => k_dc bts pc i len len && (match x with
    | b :: bs => k_tg pcs b pc d && (k_tgs pcs pc bs fs.toList && decide ((fs.toList.length : Int) = hi - lo + 1))
    | [] => false)
  | .invokevirtual j => k_dc bts pc i len 3 && (match x with
    | n :: na :: ci :: _ => decide ((MT n).1.cls = CN ci) && k_LR.any (fun q => Nat.beq q.1 o && (Nat.beq q.2.1 j && (Nat.beq q.2.2.1 n && Nat.beq (q.2.2.2.1 + 1) na))) && k_MR.any (fun r => Nat.beq r.1 n && (Nat.beq r.2.2.2.1 1 && !(Nat.beq r.2.2.2.2.2 9999)))
    | _ => false)
  | .invokestatic j => k_dc bts pc i len 3 && (match x with
    | n :: na :: _ => k_LR.any (fun q => Nat.beq q.1 o && (Nat.beq q.2.1 j && (Nat.beq q.2.2.1 n && Nat.beq q.2.2.2.1 na))) && k_MR.any (fun r => Nat.beq r.1 n && Nat.beq r.2.2.2.1 0)
    | [] => k_CR.any (fun q => Nat.beq q.1 o && Nat.beq q.2.1 j)
    | [k] => k_XR.any (fun q => Nat.beq q.1 o && (Nat.beq q.2.1 j && Nat.beq q.2.2.1 k)))
  | _ => k_dc bts pc i len 1
def k_okB (o : Nat) (pcs : List Nat) (bts : ByteArray) : Nat → List AI → Bool
  | _, [] => true
  | pc, (i, len, x) :: r => k_okI o pcs bts pc i len x && k_okB o pcs bts (pc + len) r
def k_okM (M : Md) : Prop := (MT M.1).2.2.1 = M.2.2.1 ∧ (MT M.1).2.2.2 = M.2.2.2.1 ∧ (MT M.1).1.cls = CN M.2.1 ∧ plainName (MT M.1).1.cls = true ∧ (M.2.2.2.2.all (fun q => k_okB M.2.1 (M.2.2.2.2.map (fun z => z.1)) (MT M.1).2.1 q.1 q.2)) = true ∧ (M.2.2.2.2.getD 0 (1, [])).1 = 0
