/-! the machine over numbered objects: values, memory, code as data, what must hold for a run to end well -/
abbrev AV : Type := Int ⊕ (Nat ⊕ Int)
abbrev vI (x : Int) : AV := Sum.inl x
abbrev vR (o : Nat) : AV := Sum.inr (Sum.inl o)
abbrev vL (x : Int) : AV := Sum.inr (Sum.inr x)
abbrev Mem : Type := Nat → Int → Int
abbrev Ob : Type := (Nat × List (Option Nat)) ⊕ (Nat × Nat)
abbrev Gr : Type := List Ob
abbrev Ro : Type := List (Nat × Nat × (Int → Int))
abbrev AI : Type := Instr × Nat × List Nat
abbrev KL : Type := List (Option AV)
abbrev CB : Type := List (Nat × List AI)
def mset (m : Mem) (o : Nat) (i v : Int) : Mem := fun p => if p = o then (fun j => if j = i then v else m o j) else m p
def mcpy (m : Mem) (src : Nat) (sp : Int) (dst : Nat) (dp n : Int) : Mem := fun p => if p = dst then (fun j => if dp ≤ j ∧ j < dp + n then m src (sp + (j - dp)) else m dst j) else m p
def fld (m : Mem) (o k : Nat) : Int := m o (k : Int)
def fset (m : Mem) (o k : Nat) (v : Int) : Mem := mset m o (k : Int) v
def k_get : KL → Nat → (AV → Prop) → Prop
  | some v :: _, 0, K => K v
  | _ :: l, n + 1, K => k_get l n K
  | _, _, _ => False
def k_set : KL → Nat → AV → (KL → Prop) → Prop
  | _ :: l, 0, v, K => K (some v :: l)
  | a :: l, n + 1, v, K => k_set l n v (fun l' => K (a :: l'))
  | [], _, _, _ => False
def k_pop : Nat → List AV → List AV → (List AV → List AV → Prop) → Prop
  | 0, S, acc, K => K acc S
  | n + 1, v :: S, acc, K => k_pop n S (v :: acc) K
  | _ + 1, [], _, _ => False
def k_1 : List Nat → (Nat → Prop) → Prop
  | a :: _, K => K a
  | [], _ => False
def k_2 : List Nat → (Nat → Nat → Prop) → Prop
  | a :: b :: _, K => K a b
  | _, _ => False
def k_3 : List Nat → (Nat → Nat → Nat → Prop) → Prop
  | a :: b :: c :: _, K => K a b c
  | _, _ => False
def k_int : AV → (Int → Prop) → Prop
  | .inl a, K => K a
  | _, _ => False
def k_ref : AV → (Nat → Prop) → Prop
  | .inr (.inl a), K => K a
  | _, _ => False
def k_un : List AV → (Int → List AV → Prop) → Prop
  | .inl a :: S, K => K a S
  | _, _ => False
def k_bin : List AV → (Int → Int → List AV → Prop) → Prop
  | .inl b :: .inl a :: S, K => K a b S
  | _, _ => False
def k_ob : List AV → (Nat → List AV → Prop) → Prop
  | .inr (.inl o) :: S, K => K o S
  | _, _ => False
def k_if (b : Bool) (P : Prop) : Prop := match b with
  | true => P
  | false => False
def k_obj (G : Gr) (o ci : Nat) (K : List (Option Nat) → Prop) : Prop := match G[o]? with
  | some (.inl (c, rs)) => k_if (Nat.beq c ci) (K rs)
  | _ => False
def k_wr (G : Gr) (o ty : Nat) (K : Nat → Prop) : Prop := match G[o]? with
  | some (.inr (t, n)) => k_if (Nat.beq t ty) (K n)
  | _ => False
def k_rd (G : Gr) (RO : Ro) (m : Mem) (o ty : Nat) (K : Nat → (Int → Int) → Prop) : Prop := match Nat.blt o 1000 with
  | true => k_wr G o ty (fun n => K n (m o))
  | false => match RO[o - 1000]? with
    | some (t, n, f) => k_if (Nat.beq t ty) (K n f)
    | none => False
def k_len (G : Gr) (RO : Ro) (o : Nat) (K : Nat → Prop) : Prop := match Nat.blt o 1000 with
  | true => match G[o]? with
    | some (.inr (_, n)) => K n
    | _ => False
  | false => match RO[o - 1000]? with
    | some (_, n, _) => K n
    | none => False
def k_br (c : ClassFile.Cond) (a b : Int) (X Y : Prop) : Prop := match c with
  | .eq => (a = b → X) ∧ (¬ a = b → Y)
  | .ne => (¬ a = b → X) ∧ (a = b → Y)
  | .lt => (a < b → X) ∧ (b ≤ a → Y)
  | .ge => (b ≤ a → X) ∧ (a < b → Y)
  | .gt => (b < a → X) ∧ (a ≤ b → Y)
  | .le => (a ≤ b → X) ∧ (b < a → Y)
def k_cases (v : Int) : Int → List Nat → (Nat → Prop) → Prop
  | _, [], _ => True
  | lo, b :: bs, K => (v = lo → K b) ∧ k_cases v (lo + 1) bs K
def k_cat : AV → Nat
  | .inl _ => 1
  | .inr (.inl _) => 1
  | .inr (.inr _) => 2
def k_push : Option AV → List AV → List AV
  | some v, S => v :: S
  | none, S => S
def k_ar (x : List Nat) (z : Int) (K : Int → Prop) : Prop := match x with
  | [] => inR z ∧ K z
  | _ => K (w32 z)
def k_math (k : Nat) (S : List AV) (K : List AV → Prop) : Prop := match k with
  | 0 => k_bin S (fun a b S => k_if (Nat.ble (S.map k_cat).sum 8) (K (vI (max a b) :: S)))
  | 1 => k_bin S (fun a b S => k_if (Nat.ble (S.map k_cat).sum 8) (K (vI (min a b) :: S)))
  | 2 => k_un S (fun a S => inR (-a) ∧ k_if (Nat.ble (S.map k_cat).sum 8) (K (vI (max a (-a)) :: S)))
  | _ => False
section KE
variable (G : Gr) (RO : Ro) (J : Nat → KL → List AV → Mem → Prop) (C : Nat → List AV → Mem → (Option AV → Mem → Prop) → Prop) (T : Option AV → Mem → Prop)
def k_call (x : List Nat) (S : List AV) (m : Mem) (K : List AV → Mem → Prop) : Prop :=
  k_2 x (fun n na => k_pop na S [] (fun as S => k_if (Nat.ble (S.map k_cat).sum 8) (C n as m (fun r m' => K (k_push r S) m'))))
def k_callv (x : List Nat) (S : List AV) (m : Mem) (K : List AV → Mem → Prop) : Prop :=
  k_3 x (fun n na ci => k_pop na S [] (fun as S => match as with
    | .inr (.inl o) :: _ => k_obj G o ci (fun _ => k_if (Nat.ble (S.map k_cat).sum 8) (C n as m (fun r m' => K (k_push r S) m')))
    | _ => False))
def k_exec : List AI → KL → List AV → Mem → Prop
  | [], _, _, _ => False
  | (i, _, x) :: r, L, S, m =>
    match i with
    | .nop => k_1 x (fun b => J b L S m)
    | .iconst n => k_exec r L (vI n :: S) m
    | .bipush n => k_exec r L (vI n :: S) m
    | .sipush n => k_exec r L (vI n :: S) m
    | .ldc _ => k_1 x (fun v => k_exec r L (vI (v : Int) :: S) m)
    | .ldc_w _ => k_1 x (fun v => k_exec r L (vI (v : Int) :: S) m)
    | .iload_n k => k_get L k.val (fun v => k_int v (fun a => k_exec r L (vI a :: S) m))
    | .iload k => k_get L k (fun v => k_int v (fun a => k_exec r L (vI a :: S) m))
    | .aload_n k => k_get L k.val (fun v => k_ref v (fun a => k_exec r L (vR a :: S) m))
    | .aload k => k_get L k (fun v => k_ref v (fun a => k_exec r L (vR a :: S) m))
    | .istore_n k => k_un S (fun a S => k_set L k.val (vI a) (fun L => k_exec r L S m))
    | .istore k => k_un S (fun a S => k_set L k (vI a) (fun L => k_exec r L S m))
    | .astore_n k => k_ob S (fun a S => k_set L k.val (vR a) (fun L => k_exec r L S m))
    | .astore k => k_ob S (fun a S => k_set L k (vR a) (fun L => k_exec r L S m))
    | .iinc k n => k_get L k (fun v => k_int v (fun a => inR (a + n) ∧ k_set L k (vI (a + n)) (fun L => k_exec r L S m)))
    | .iadd => k_bin S (fun a b S => k_ar x (a + b) (fun z => k_exec r L (vI z :: S) m))
    | .isub => k_bin S (fun a b S => k_ar x (a - b) (fun z => k_exec r L (vI z :: S) m))
    | .imul => k_bin S (fun a b S => k_ar x (a * b) (fun z => k_exec r L (vI z :: S) m))
    | .ineg => k_un S (fun a S => k_ar x (-a) (fun z => k_exec r L (vI z :: S) m))
    | .idiv => k_bin S (fun a b S => ¬ b = 0 ∧ inR (a.tdiv b) ∧ k_exec r L (vI (a.tdiv b) :: S) m)
    | .irem => k_bin S (fun a b S => ¬ b = 0 ∧ k_exec r L (vI (a.tmod b) :: S) m)
    | .iand => k_bin S (fun a b S => k_exec r L (vI (kand a b) :: S) m)
    | .ior => k_bin S (fun a b S => k_exec r L (vI (kor a b) :: S) m)
    | .ixor => k_bin S (fun a b S => k_exec r L (vI (kxor a b) :: S) m)
    | .ishl => k_bin S (fun a b S => k_exec r L (vI (kshl a b) :: S) m)
    | .ishr => k_bin S (fun a b S => k_exec r L (vI (kshr a b) :: S) m)
    | .iushr => k_bin S (fun a b S => k_exec r L (vI (kushr a b) :: S) m)
    | .dup => match S with
      | .inl a :: S => k_exec r L (vI a :: vI a :: S) m
      | .inr (.inl a) :: S => k_exec r L (vR a :: vR a :: S) m
      | _ => False
    | .dup2 => match S with
      | .inl b :: .inr (.inl a) :: S => k_exec r L (vI b :: vR a :: vI b :: vR a :: S) m
      | _ => False
    | .pop => match S with
      | .inl _ :: S => k_exec r L S m
      | .inr (.inl _) :: S => k_exec r L S m
      | _ => False
    | .getfield _ => k_ob S (fun o S => k_3 x (fun ci k t => k_obj G o ci (fun rs => match t with
      | 1 => match rs[k]? with
        | some (some q) => k_exec r L (vR q :: S) m
        | _ => False
      | _ => k_exec r L (vI (fld m o k) :: S) m)))
    | .putfield _ => k_un S (fun v S => k_ob S (fun o S => k_3 x (fun ci k t => k_obj G o ci (fun _ => match t with
      | 0 => k_exec r L S (fset m o k v)
      | 2 => (v = 0 ∨ v = 1) ∧ k_exec r L S (fset m o k v)
      | _ => False))))
    | .getstatic _ => k_1 x (fun j => k_exec r L (vR (1000 + j) :: S) m)
    | .iaload => k_un S (fun i S => k_ob S (fun o S => k_rd G RO m o 0 (fun n f => (0 ≤ i ∧ i < (n : Int)) ∧ k_exec r L (vI (f i) :: S) m)))
    | .baload => k_un S (fun i S => k_ob S (fun o S => k_rd G RO m o 1 (fun n f => (0 ≤ i ∧ i < (n : Int)) ∧ k_exec r L (vI (f i) :: S) m)))
    | .caload => k_un S (fun i S => k_ob S (fun o S => k_rd G RO m o 3 (fun n f => (0 ≤ i ∧ i < (n : Int)) ∧ k_exec r L (vI (f i) :: S) m)))
    | .iastore => k_bin S (fun i v S => k_ob S (fun o S => k_wr G o 0 (fun n => (0 ≤ i ∧ i < (n : Int)) ∧ k_exec r L S (mset m o i v))))
    | .bastore => k_bin S (fun i v S => k_ob S (fun o S => k_wr G o 1 (fun n => (0 ≤ i ∧ i < (n : Int)) ∧ (v = 0 ∨ v = 1) ∧ k_exec r L S (mset m o i v))))
    | .arraylength => k_ob S (fun o S => k_len G RO o (fun n => k_exec r L (vI (n : Int) :: S) m))
    | .goto _ => k_1 x (fun b => J b L S m)
    | .ifCond c _ => k_1 x (fun b => k_un S (fun a S => k_br c a 0 (J b L S m) (k_exec r L S m)))
    | .if_icmp c _ => k_1 x (fun b => k_bin S (fun a z S => k_br c a z (J b L S m) (k_exec r L S m)))
    | .tableswitch _ lo hi _ => match x with
      | b :: bs => k_un S (fun v S => (v < lo ∨ hi < v → J b L S m) ∧ k_cases v lo bs (fun b => J b L S m))
      | [] => False
    | .invokevirtual _ => k_callv G C x S m (fun S m => k_exec r L S m)
    | .invokestatic _ => match x with
      | [] => match S with
        | .inl n :: .inl dp :: .inr (.inl d) :: .inl sp :: .inr (.inl a) :: S => k_wr G a 0 (fun na => k_wr G d 0 (fun nd => ((0 ≤ n ∧ 0 ≤ dp ∧ 0 ≤ sp) ∧ sp + n ≤ (na : Int) ∧ dp + n ≤ (nd : Int)) ∧ k_if (Nat.ble (S.map k_cat).sum 8) (k_exec r L S (mcpy m a sp d dp n))))
        | _ => False
      | [k] => k_math k S (fun S => k_exec r L S m)
      | _ => k_call C x S m (fun S m => k_exec r L S m)
    | .ireturn => k_un S (fun a S => match S with
      | [] => T (some (vI a)) m
      | _ => False)
    | .return_ => match S with
      | [] => T none m
      | _ => False
    | _ => False
def k_mem : Nat → List Nat → Bool
  | _, [] => false
  | a, b :: l => match Nat.beq a b with
    | true => true
    | false => k_mem a l
def k_blk (P : CB) (cuts : List Nat) (A : Nat → KL → List AV → Mem → Prop) : Nat → Nat → KL → List AV → Mem → Prop
  | 0, _, _, _, _ => False
  | f + 1, b, L, S, m => match k_mem b cuts with
    | true => A b L S m
    | false => match P[b]? with
      | some q => k_exec G RO (k_blk P cuts A f) C T q.2 L S m
      | none => False
def k_go (P : CB) (cuts : List Nat) (A : Nat → KL → List AV → Mem → Prop) (f b : Nat) (L : KL) (S : List AV) (m : Mem) : Prop := match P[b]? with
  | some q => k_exec G RO (k_blk G RO C T P cuts A f) C T q.2 L S m
  | none => False
end KE
