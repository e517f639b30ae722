/-! constructors: the graph grows, references are set; rules for new, newarray, putfield of a final field, calls of constructors -/
abbrev Bs : Type := Launch × va_G × (Nat → ClassId) × Ro
abbrev bE (B : Bs) (G : Gr) : Ev := (B.1, B.2.1, B.2.2.1, G, B.2.2.2)
def gWf (G : Gr) : Prop := ∀ (o ci k q : Nat) (rs : List (Option Nat)), G[o]? = some (.inl (ci, rs)) → rs[k]? = some (some q) → q < G.length
def mz (m : Mem) (o : Nat) : Mem := fun p => if p = o then (fun _ => 0) else m p
theorem mz_ne {m : Mem} {o p : Nat} (h : p ≠ o) : mz m o p = m p := by simp [mz, h]
theorem mz_at {m : Mem} {o : Nat} (i : Int) : mz m o o i = 0 := by simp [mz]
theorem mz_in {m : Mem} {o : Nat} (h : ∀ o i, inR (m o i)) : ∀ p i, inR (mz m o p i) := by
  intro p i
  unfold mz
  split
  · exact k_inR0
  · exact h p i
/-- all references on locals and stack are of objects that there are -/
def k_rok (n : Nat) : List AV → Bool
  | [] => true
  | .inr (.inl o) :: l => (Nat.blt o n || Nat.ble 1000 o) && k_rok n l
  | _ :: l => k_rok n l
def k_lvs : KL → List AV
  | [] => []
  | some v :: l => v :: k_lvs l
  | none :: l => k_lvs l
theorem k_rok_at {n : Nat} : ∀ {l : List AV}, k_rok n l = true → ∀ v ∈ l, ∀ o, v = .inr (.inl o) → o < n ∨ 1000 ≤ o
  | [], _, v, h, _, _ => by cases h
  | .inr (.inl a) :: l, hk, v, hv, o, e => by
    simp only [k_rok, Bool.and_eq_true, Bool.or_eq_true] at hk
    rcases List.mem_cons.mp hv with rfl | hv
    · cases e
      rcases hk.1 with h | h
      · exact Or.inl (Nat.le_of_ble_eq_true h)
      · exact Or.inr (Nat.le_of_ble_eq_true h)
    · exact k_rok_at hk.2 v hv o e
  | .inl a :: l, hk, v, hv, o, e => by
    rcases List.mem_cons.mp hv with rfl | hv
    · cases e
    · exact k_rok_at (l := l) hk v hv o e
  | .inr (.inr a) :: l, hk, v, hv, o, e => by
    rcases List.mem_cons.mp hv with rfl | hv
    · cases e
    · exact k_rok_at (l := l) hk v hv o e
theorem k_lvs_in {L : KL} {v : AV} (h : some v ∈ L) : v ∈ k_lvs L := by
  induction L with
  | nil => cases h
  | cons a L ih =>
    cases a with
    | none =>
      rcases List.mem_cons.mp h with h | h
      · cases h
      · exact ih h
    | some w =>
      rcases List.mem_cons.mp h with h | h
      · cases h; exact List.mem_cons_self
      · exact List.mem_cons_of_mem _ (ih h)
theorem k_rv_ad {n : Nat} {ad ad' : Nat → Nat} (h1 : ∀ o, o < n → ad' o = ad o) (h2 : ∀ o, 1000 ≤ o → ad' o = ad o) {l : List AV} (hk : k_rok n l = true) : ∀ v ∈ l, rv ad' v = rv ad v := by
  intro v hv
  match v, hv with
  | .inl x, _ => rfl
  | .inr (.inr x), _ => rfl
  | .inr (.inl o), hv =>
    show Value.ref (ad' o) = Value.ref (ad o)
    rcases k_rok_at hk _ hv o rfl with h | h
    · rw [h1 o h]
    · rw [h2 o h]
theorem kLs_ad {n N : Nat} {ad ad' : Nat → Nat} (h1 : ∀ o, o < n → ad' o = ad o) (h2 : ∀ o, 1000 ≤ o → ad' o = ad o) {ls : Array Slot} {L : KL} (hk : k_rok n (k_lvs L) = true) (h : kLs ad ls N L) : kLs ad' ls N L := by
  refine ⟨⟨h.1.1, h.1.2.1, fun q hq => ?_⟩, h.2.1, h.2.2⟩
  obtain ⟨v, g1, g2⟩ := k_lv_in.mp hq
  rw [k_rv_ad h1 h2 hk v (k_lvs_in (List.mem_of_getElem? g1))] at g2
  exact h.1.2.2 q (k_lv_in.mpr ⟨v, g1, g2⟩)
theorem kSt_ad {n : Nat} {ad ad' : Nat → Nat} (h1 : ∀ o, o < n → ad' o = ad o) (h2 : ∀ o, 1000 ≤ o → ad' o = ad o) {S : List AV} (hk : k_rok n S = true) : S.map (rv ad') = S.map (rv ad) := List.map_congr_left (k_rv_ad h1 h2 hk)
theorem k_ent_ad {cA : Nat → ClassId} {n : Nat} {ad ad' : Nat → Nat} {m m' : Mem} {o : Nat} {d : Ob} (ho : ad' o = ad o) (hm : m' o = m o) (h1 : ∀ o, o < n → ad' o = ad o) (hd : ∀ (ci k q : Nat) (rs : List (Option Nat)), d = .inl (ci, rs) → rs[k]? = some (some q) → q < n) : k_ent cA ad' m' o d = k_ent cA ad m o d := by
  match d, hd with
  | .inl (ci, rs), hd =>
    unfold k_ent
    simp only
    rw [ho]
    congr 3
    apply List.map_congr_left
    intro k _
    unfold k_fv fld
    rw [hm]
    split
    · cases hq : rs[k]? with
      | none => rfl
      | some x =>
        cases x with
        | none => rfl
        | some q => simp only; rw [h1 q (hd ci k q rs rfl hq)]
    · rfl
  | .inr (ty, n), hd =>
    unfold k_ent
    simp only [ho, hm]
theorem k_wl_ad {cA : Nat → ClassId} {ad ad' : Nat → Nat} {m m' : Mem} {G : Gr} (h1 : ∀ o, o < G.length → ad' o = ad o) (hm : ∀ o, o < G.length → m' o = m o) (hw : gWf G) : k_wl cA ad' m' G = k_wl cA ad m G := by
  apply List.ext_getElem?
  intro j
  unfold k_wl
  rw [List.getElem?_mapIdx, List.getElem?_mapIdx]
  cases hj : G[j]? with
  | none => rfl
  | some d =>
    have hl : j < G.length := (List.getElem?_eq_some_iff.mp hj).1
    exact congrArg some (k_ent_ad (h1 j hl) (hm j hl) h1 (fun ci k q rs e hk => hw j ci k q rs (by rw [hj, e]) hk))
theorem k_wl_app {cA : Nat → ClassId} {ad : Nat → Nat} {m : Mem} {G : Gr} {d : Ob} : k_wl cA ad m (G ++ [d]) = k_wl cA ad m G ++ [k_ent cA ad m G.length d] := by
  unfold k_wl
  rw [List.mapIdx_concat]
theorem k_wl_set {cA : Nat → ClassId} {ad : Nat → Nat} {m : Mem} {G : Gr} {o : Nat} {d : Ob} : k_wl cA ad m (G.set o d) = (k_wl cA ad m G).set o (k_ent cA ad m o d) := by
  apply List.ext_getElem?
  intro j
  unfold k_wl
  rw [List.getElem?_mapIdx]
  by_cases hj : j = o
  · subst hj
    by_cases hl : j < G.length
    · rw [List.getElem?_set_self hl, List.getElem?_set_self (by rw [List.length_mapIdx]; exact hl)]; rfl
    · rw [List.getElem?_eq_none (by rw [List.length_set]; omega), List.getElem?_eq_none (by rw [List.length_set, List.length_mapIdx]; omega)]; rfl
  · rw [List.getElem?_set_ne (Ne.symm hj), List.getElem?_set_ne (Ne.symm hj), List.getElem?_mapIdx]
theorem kRo_ad {B : Bs} {ad ad' : Nat → Nat} {A : Nat → Prop} {s : State} {H : Heap} {G G' : Gr} (h : kRo (bE B G) ad A s H) (h2 : ∀ o, 1000 ≤ o → ad' o = ad o) : kRo (bE B G') ad' A s H := by
  refine ⟨fun j q hj => ?_, fun j t hj => ?_, h.2.2⟩
  · rw [h2 _ (by omega)]; exact h.1 j q hj
  · have := h.2.1 j t hj
    rw [h2 _ (by omega)]
    exact this
/-- what holds in the body of a constructor all along: ad0 are the addresses at its entry, of n0 objects -/
def cX (B : Bs) (h : Nat) (M : Md) (p : Program) (R : Room) (s : State) (mm : MethodId) (args : Array Value) (meth : Method) (c : Code) (ad0 : Nat → Nat) (n0 : Nat) (A : Nat → Prop) : Prop :=
  p.tables.exec = Jvm.exec ∧ c.code = (MT M.1).2.1 ∧ c.maxLocals = M.2.2.1 ∧ s.vm.findClass (CN M.2.1) = some mm.cls ∧ (∀ w ∈ TT, w.before args s = true) ∧ h + 1 ≤ R.frames ∧ 40 * (h + 1) ≤ R.locals ∧ va_K B.2.1 cls (k_tys B.2.2.1) s ∧ kRo (bE B []) ad0 A s s.heap ∧ (∀ o, o < n0 → A (ad0 o)) ∧ (∀ q, s.heap.size ≤ q → A q)
section CW
variable (B : Bs) (M : Md) (p : Program) (e : Env) (R : Room) (s : State) (mm : MethodId) (args : Array Value) (below : List Frame) (meth : Method) (c : Code) (cells slots : Nat) (Qf : State → Prop) (ad0 : Nat → Nat) (n0 : Nat) (A : Nat → Prop) (G : Gr)
def cExt (ad : Nat → Nat) (sz : Nat) : Prop := (∀ o, o < n0 → ad o = ad0 o) ∧ (∀ o, 1000 ≤ o → ad o = ad0 o) ∧ (∀ o, n0 ≤ o → o < G.length → sz ≤ ad o) ∧ n0 ≤ G.length ∧ G.length ≤ 1000
def cW (pc : Nat) (L : KL) (S : List AV) (m : Mem) : Prop := ∀ ad, cExt ad0 n0 G ad s.heap.size → kLen G → gWf G → kWW (bE B G) M p e R s mm args below meth c cells slots Qf ad A pc L S m
end CW
section CR
variable {B : Bs} {h : Nat} {M : Md} {p : Program} {e : Env} {R : Room} {s : State} {mm : MethodId} {args : Array Value} {below : List Frame} {meth : Method} {c : Code} {cells slots : Nat} {Qf : State → Prop} {ad0 : Nat → Nat} {n0 : Nat} {A : Nat → Prop} {G : Gr}
theorem cX_A (hX : cX B h M p R s mm args meth c ad0 n0 A) {ad : Nat → Nat} (he : cExt ad0 n0 G ad s.heap.size) : ∀ o, o < G.length → A (ad o) := by
  obtain ⟨-, -, -, -, -, -, -, -, -, h1, h2⟩ := hX
  intro o ho
  by_cases hn : o < n0
  · rw [he.1 o hn]; exact h1 o hn
  · exact h2 _ (he.2.2.1 o (by omega) ho)
theorem cX_kX (hX : cX B h M p R s mm args meth c ad0 n0 A) {ad : Nat → Nat} (he : cExt ad0 n0 G ad s.heap.size) (hL : kLen G) (hce : cells ≤ R.cells) (hsl : slots ≤ R.slots) : kX (bE B G) h M (fun _ _ => False) p e R s mm args below meth c cells slots Qf ad A := by
  have hA := cX_A hX he
  obtain ⟨h1, h2, h3, h4, h5, h6, h7, h8, h9, -, -⟩ := hX
  exact ⟨h1, h2, h3, h4, h5, h6, h7, hce, hsl, h8, kRo_ad h9 he.2.1, hA, hL, fun _ _ _ _ _ _ h => h.elim⟩
theorem c_blk_sound (hM : k_okM M) (hX : cX B h M p R s mm args meth c ad0 n0 A) (hce : cells ≤ R.cells) (hsl : slots ≤ R.slots) {cuts : List Nat} :
    ∀ (f b : Nat) (L : KL) (S : List AV) (m : Mem), k_blk G B.2.2.2 (kCall (bE B G) h) (fun _ _ => False) M.2.2.2.2 cuts (fun b L S m => cW B M p e R s mm args below meth c cells slots Qf ad0 n0 A G (k_pc M b) L S m) f b L S m → cW B M p e R s mm args below meth c cells slots Qf ad0 n0 A G (k_pc M b) L S m := by
  intro f
  induction f with
  | zero => intro b L S m hB; exact hB.elim
  | succ f ih =>
    intro b L S m hB
    unfold k_blk at hB
    split at hB
    · exact hB
    · split at hB
      · rename_i q hq
        have hk : k_pc M b = q.1 := by unfold k_pc; rw [List.getD_eq_getElem?_getD, hq]; rfl
        rw [hk]
        intro ad he hl hw
        exact k_sound (E := bE B G) (cX_kX hX he hl hce hsl) (fun b L S m hq => ih b L S m hq ad he hl hw) q.2 q.1 L S m (List.all_eq_true.mp hM.2.2.2.2.1 q (List.mem_of_getElem? hq)) hB
      · exact hB.elim
/-- from a block on, to the cuts -/
theorem c_go (hX : cX B h M p R s mm args meth c ad0 n0 A) (hM : k_okM M) (hce : cells ≤ R.cells) (hsl : slots ≤ R.slots) (cuts : List Nat) (f b : Nat) {L : KL} {S : List AV} {m : Mem}
    (H : k_go G B.2.2.2 (kCall (bE B G) h) (fun _ _ => False) M.2.2.2.2 cuts (fun b L S m => cW B M p e R s mm args below meth c cells slots Qf ad0 n0 A G (k_pc M b) L S m) f b L S m) : cW B M p e R s mm args below meth c cells slots Qf ad0 n0 A G (k_pc M b) L S m := by
  unfold k_go at H
  split at H
  · rename_i q hq
    have hk : k_pc M b = q.1 := by unfold k_pc; rw [List.getD_eq_getElem?_getD, hq]; rfl
    rw [hk]
    intro ad he hl hw
    exact k_sound (E := bE B G) (cX_kX hX he hl hce hsl) (fun b L S m hq => c_blk_sound hM hX hce hsl f b L S m hq ad he hl hw) q.2 q.1 L S m (List.all_eq_true.mp hM.2.2.2.2.1 q (List.mem_of_getElem? hq)) H
  · exact H.elim
theorem c_obj_in : Cond.instanceMethod Lib.objectInit ∈ TT ∧ Cond.code Lib.objectInit ⟨#[0xb1]⟩ 1 none ∈ TT := ⟨k_at_in (p := 168) (by decide +kernel), k_at_in (p := 169) (by decide +kernel)⟩
/-- Object's constructor -/
theorem c_obj (hX : cX B h M p R s mm args meth c ad0 n0 A) {pc idx pos o : Nat} {L : KL} {S : List AV} {m : Mem} (hd : decode (MT M.1).2.1 pc = .ok (.invokespecial idx, 3)) (hl : k_at pos (.methodLink (CN M.2.1) idx Lib.objectInit) = true) (hs : Nat.ble (S.map k_cat).sum 8 = true) (hf : Nat.ble 1 R.frames = true) (hlo : Nat.ble 20 R.locals = true)
    (kk : cW B M p e R s mm args below meth c cells slots Qf ad0 n0 A G (pc + 3) L S m) : cW B M p e R s mm args below meth c cells slots Qf ad0 n0 A G pc L (vR o :: S) m := by
  intro ad he hl' hw H locs ls hH hS hL hV
  obtain ⟨h1, h2, h3, h4, h5, h6, h7, h8, h9, -, -⟩ := hX
  obtain ⟨-, hV2⟩ := k_kV_tail hV
  have hs2 := Nat.le_of_ble_eq_true hs
  have hl2 := Nat.le_of_ble_eq_true hlo
  refine W.objInit h1 h2 h4 (h5 _ (k_at_in hl)) (h5 _ c_obj_in.1) (h5 _ c_obj_in.2) rfl (by rw [h3]; exact hL.1.1) rfl hd (Nat.le_of_ble_eq_true hf) ?_ (kk ad he hl' hw H locs ls hH hS hL hV2)
  have : (List.map (fun v : Value => v.category) (S.map (rv ad))).sum ≤ 8 := by rw [k_sum_cat hV2]; exact hs2
  show 2 * 0 + _ + 12 ≤ _
  omega
theorem c_ext_new {ad : Nat → Nat} {sz q : Nat} {d : Ob} (he : cExt ad0 n0 G ad sz) (hq : sz ≤ q) (ho : G.length < 1000) : cExt ad0 n0 (G ++ [d]) (fun x => if x = G.length then q else ad x) sz ∧ (∀ o, o < G.length → (fun x => if x = G.length then q else ad x) o = ad o) ∧ (∀ o, 1000 ≤ o → (fun x => if x = G.length then q else ad x) o = ad o) := by
  obtain ⟨e1, e2, e3, e4, e5⟩ := he
  have f1 : ∀ o, o < G.length → (fun x => if x = G.length then q else ad x) o = ad o := fun o h => by simp only; rw [if_neg (by omega)]
  have f2 : ∀ o, 1000 ≤ o → (fun x => if x = G.length then q else ad x) o = ad o := fun o h => by simp only; rw [if_neg (by omega)]
  refine ⟨⟨fun o h => by rw [f1 o (by omega)]; exact e1 o h, fun o h => by rw [f2 o h]; exact e2 o h, fun o g1 g2 => ?_, by rw [List.length_append]; omega, by rw [List.length_append]; simp; omega⟩, f1, f2⟩
  rw [List.length_append] at g2
  simp only [List.length_cons, List.length_nil] at g2
  by_cases hg : o = G.length
  · simp only [hg, if_true]; exact hq
  · rw [f1 o (by omega)]; exact e3 o g1 (by omega)
theorem gWf_app {d : Ob} (hw : gWf G) (hd : ∀ (ci k q : Nat) (rs : List (Option Nat)), d = .inl (ci, rs) → rs[k]? = some (some q) → q ≤ G.length) : gWf (G ++ [d]) := by
  intro o ci k q rs h1 h2
  rw [List.length_append]
  show q < G.length + 1
  by_cases hl : o < G.length
  · rw [List.getElem?_append_left hl] at h1
    have := hw o ci k q rs h1 h2
    omega
  · rw [List.getElem?_append_right (by omega)] at h1
    have hz : o - G.length < 1 := (List.getElem?_eq_some_iff.mp h1).1
    rw [show o - G.length = 0 by omega] at h1
    have := hd ci k q rs (Option.some.inj h1) h2
    omega
theorem kLen_app {d : Ob} (hl : kLen G) (hd : ∀ t n, d = .inr (t, n) → n ≤ 2147483647 ∧ t ≤ 2) : kLen (G ++ [d]) := by
  intro o t n h1
  by_cases hl' : o < G.length
  · rw [List.getElem?_append_left hl'] at h1
    exact hl o t n h1
  · rw [List.getElem?_append_right (by omega)] at h1
    have hz : o - G.length < 1 := (List.getElem?_eq_some_iff.mp h1).1
    rw [show o - G.length = 0 by omega] at h1
    exact hd t n (Option.some.inj h1)
/-- an array is made -/
theorem c_newa (hX : cX B h M p R s mm args meth c ad0 n0 A) {pc ty n o cells' slots' : Nat} {atype : ArrayType} {ft : FieldType} {G' : Gr} {v : Int} {L : KL} {S : List AV} {m : Mem} (pos : Nat)
    (hd : decode (MT M.1).2.1 pc = .ok (.newarray atype, 2)) (hk : (k_tys B.2.2.1)[ty]? = some (B.2.2.1 ty, ft)) (hft : newarray.typeOf atype = ft) (hde : (ty = 0 ∧ ft = .int) ∨ (ty = 1 ∧ ft = .boolean) ∨ (ty = 2 ∧ ft = .long)) (harr : k_at pos (.arrayClass (newarray.typeOf atype)) = true)
    (ho : G.length = o) (ho2 : Nat.blt o 1000 = true) (hG' : G ++ [.inr (ty, n)] = G') (hv : v = (n : Int)) (hn : n ≤ 100000) (hr1 : k_rok o (k_lvs L) = true) (hr2 : k_rok o S = true)
    (hc1 : cells + 1 ≤ R.cells) (hs1 : slots + n ≤ R.slots) (hc2 : cells + 1 ≤ cells') (hs2 : slots + n ≤ slots')
    (kk : cW B M p e R s mm args below meth c cells' slots' Qf ad0 n0 A G' (pc + 2) L (vR o :: S) (mz m o)) : cW B M p e R s mm args below meth c cells slots Qf ad0 n0 A G pc L (vI v :: S) m := by
  intro ad he hlen hw H locs ls hH hS hL hV
  obtain ⟨h1, h2, h3, h4, h5, h6, h7, h8, h9, h10, hA⟩ := hX
  obtain ⟨hVv, hV2⟩ := k_kV_tail hV
  have hVv : inR v := hVv
  subst hv hG' ho hft
  have hN : (Int32.ofInt (n : Int)).toNatClampNeg = n := by rw [k_clamp hVv]; simp
  have hn0 : ¬ Int32.ofInt (n : Int) < 0 := by rw [← k_zero, k_lt hVv k_inR0]; omega
  have hcb : componentBytes (newarray.typeOf atype) ≤ 8 := by rcases hde with ⟨-, hf⟩ | ⟨-, hf⟩ | ⟨-, hf⟩ <;> rw [hf] <;> decide
  refine va_newaK h1 h2 (h5 _ (k_at_in harr)) rfl hd rfl hn0 hN (Nat.le_trans (Nat.mul_le_mul hn hcb) (by decide)) hc1 hs1 rfl fun H1 cA e1 z1 o1 hAr hNm => ?_
  have hcA : cA = B.2.2.1 ty := by
    have hz := (h8.2 ty _ hk).2
    have hz2 : s.vm.findClass ("[" ++ (newarray.typeOf atype).toString) = some (B.2.2.1 ty) := by
      rcases hde with ⟨-, hf⟩ | ⟨-, hf⟩ | ⟨-, hf⟩ <;> (simp only [hf] at hz ⊢; exact hz)
    rw [hNm] at hz2
    exact Option.some.inj hz2
  subst hcA
  have hsz : s.heap.size ≤ H.size := hS.1
  have hl1 : G.length < 1000 := Nat.le_of_ble_eq_true ho2
  obtain ⟨he', f1, f2⟩ := c_ext_new (d := .inr (ty, n)) he hsz hl1
  generalize hadq : (fun x => if x = G.length then H.size else ad x) = ad' at he' f1 f2
  have hadn : ad' G.length = H.size := by rw [← hadq]; simp
  have hwl : k_wl B.2.2.1 ad' (mz m G.length) (G ++ [.inr (ty, n)]) = k_wl B.2.2.1 ad m G ++ [(H.size, .inl (B.2.2.1 ty, n, if ty = 2 then .inr (.inl (fun _ => 0)) else .inl (fun _ => 0)))] := by
    rw [k_wl_app, k_wl_ad f1 (fun o ho => mz_ne (by omega)) hw]
    congr 2
    unfold k_ent
    simp only [hadn, mz_at]
    rfl
  have hP1 : va_P B.2.1 cls (k_wl B.2.2.1 ad' (mz m G.length) (G ++ [.inr (ty, n)])) H1 := by
    rw [hwl]
    refine (hH.1.kept (fun k x hx => o1 x.1 ((hH.1 k x hx).lt))).app (fun k x hx => ?_)
    have hz : k < 1 := (List.getElem?_eq_some_iff.mp hx).1
    rw [show k = 0 by omega] at hx
    cases hx
    show H1[H.size]? = some (vp_cell _ _)
    rw [e1]
    rcases hde with ⟨rfl, hf⟩ | ⟨rfl, hf⟩ | ⟨rfl, hf⟩ <;> rw [hf] <;> rfl
  have hD1 : va_D A (k_wl B.2.2.1 ad' (mz m G.length) (G ++ [.inr (ty, n)])) := by
    rw [hwl]
    exact hH.2.1.push hH.1 rfl (hA _ hsz)
  refine W.widen hc2 hs2 ?_
  have := kk ad' he' (kLen_app hlen (fun t n' e => by cases e; exact ⟨by omega, by rcases hde with ⟨rfl, -⟩ | ⟨rfl, -⟩ | ⟨rfl, -⟩ <;> decide⟩)) (gWf_app hw (fun ci k q rs e => by cases e)) H1 locs ls ⟨hP1, hD1, mz_in hH.2.2⟩ ⟨Nat.le_trans hsz (by omega), fun x g1 g2 => (o1 x (Nat.lt_of_lt_of_le g1 hsz)).trans (hS.2.1 x g1 g2), hS.2.2⟩ (kLs_ad f1 f2 hr1 hL) (k_kV_cons trivial hV2)
  rw [List.map_cons, kSt_ad f1 f2 hr2] at this
  show W p B.1 e R s mm args below meth c H1 locs cells' slots' Qf (F0 mm (pc + 2) ls (.ref H.size :: S.map (rv ad)))
  rw [← hadn]
  exact this
end CR
