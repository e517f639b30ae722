/-! constructors: segments that run straight on, stages of the graph -/
section CR4
variable {B : Bs} {h : Nat} {M : Md} {p : Program} {e : Env} {R : Room} {s : State} {mm : MethodId} {args : Array Value} {below : List Frame} {meth : Method} {c : Code} {cells slots : Nat} {Qf : State → Prop} {ad0 : Nat → Nat} {n0 : Nat} {A : Nat → Prop} {G : Gr}
theorem k_exec_mono {RO : Ro} {J J' : Nat → KL → List AV → Mem → Prop} {C : Nat → List AV → Mem → (Option AV → Mem → Prop) → Prop} {T : Option AV → Mem → Prop} (hJ : J = J') (is : List AI) (L : KL) (S : List AV) (m : Mem) (H : k_exec G RO J C T is L S m) : k_exec G RO J' C T is L S m := by rw [← hJ]; exact H
/-- a segment that runs straight on to the block b1 with these locals, stack and memory -/
theorem c_seg (hX : cX B h M p R s mm args meth c ad0 n0 A) (hM : k_okM M) (hce : cells ≤ R.cells) (hsl : slots ≤ R.slots) (b : Nat) {b1 : Nat} {L L1 : KL} {S S1 : List AV} {m m1 : Mem}
    (H : ∃ q, M.2.2.2.2[b]? = some q ∧ k_exec G B.2.2.2 (fun b L S m => b = b1 ∧ L = L1 ∧ S = S1 ∧ m = m1) (kCall (bE B G) h) (fun _ _ => False) q.2 L S m)
    (kk : cW B M p e R s mm args below meth c cells slots Qf ad0 n0 A G (k_pc M b1) L1 S1 m1) : cW B M p e R s mm args below meth c cells slots Qf ad0 n0 A G (k_pc M b) L S m := by
  obtain ⟨q, hq, hE⟩ := H
  have hk : k_pc M b = q.1 := by unfold k_pc; rw [List.getD_eq_getElem?_getD, hq]; rfl
  rw [hk]
  intro ad he hl hw
  exact k_sound (E := bE B G) (cX_kX hX he hl hce hsl) (fun b L S m hz => by obtain ⟨rfl, rfl, rfl, rfl⟩ := hz; exact kk ad he hl hw) q.2 q.1 L S m (List.all_eq_true.mp hM.2.2.2.2.1 q (List.mem_of_getElem? hq)) hE
end CR4
/-- the graph of the class's objects while they are made: a of them, the root's references so far, those of the object o so far -/
def gS (n ly a : Nat) (r0 : List (Option Nat)) (o ci : Nat) (rs : List (Option Nat)) : Gr := (((G0 n ly).take a).set 0 (.inl (11, r0))).set o (.inl (ci, rs))
def mzs : Mem → List Nat → Mem
  | m, [] => m
  | m, o :: l => mzs (mz m o) l
theorem mzs_ne {l : List Nat} {p : Nat} : ∀ {m : Mem}, p ∉ l → mzs m l p = m p := by
  induction l with
  | nil => intro m _; rfl
  | cons o l ih =>
    intro m h
    have h1 : p ≠ o := fun e => h (by rw [e]; exact List.mem_cons_self)
    have h2 : p ∉ l := fun e => h (List.mem_cons_of_mem _ e)
    show mzs (mz m o) l p = m p
    rw [ih h2, mz_ne h1]
theorem mzs_at {l : List Nat} {p : Nat} (i : Int) : ∀ {m : Mem}, p ∈ l → mzs m l p i = 0 := by
  induction l with
  | nil => intro m h; cases h
  | cons o l ih =>
    intro m h
    show mzs (mz m o) l p i = 0
    by_cases hp : p ∈ l
    · exact ih hp
    · rcases List.mem_cons.mp h with rfl | h
      · rw [mzs_ne hp, mz_at]
      · exact absurd h hp
