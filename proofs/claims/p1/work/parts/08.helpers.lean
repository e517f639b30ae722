/-! what the machine's small steps say -/
theorem k_dc_spec {bts : ByteArray} {pc : Nat} {i : Instr} {len n : Nat} (h : k_dc bts pc i len n = true) : decode bts pc = .ok (i, n) ∧ len = n := by
  simp only [k_dc, Bool.and_eq_true, decide_eq_true_eq] at h
  have := Nat.eq_of_beq_eq_true h.2
  subst this
  exact ⟨h.1, rfl⟩
theorem k_tg_spec {pcs : List Nat} {b pc : Nat} {off : Int} (h : k_tg pcs b pc off = true) : ∃ t, pcs[b]? = some t ∧ (pc : Int) + off = (t : Int) := by
  unfold k_tg at h
  cases hp : pcs[b]? with
  | none => rw [hp] at h; cases h
  | some t => rw [hp] at h; exact ⟨t, rfl, of_decide_eq_true h⟩
theorem k_get_spec {K : AV → Prop} : ∀ {L : KL} {k : Nat}, k_get L k K → ∃ v, L[k]? = some (some v) ∧ K v
  | [], _, h => by simp [k_get] at h
  | some v :: l, 0, h => ⟨v, rfl, h⟩
  | none :: l, 0, h => by simp [k_get] at h
  | some v :: l, n + 1, h => by
    obtain ⟨w, h1, h2⟩ := k_get_spec (L := l) (k := n) h
    exact ⟨w, h1, h2⟩
  | none :: l, n + 1, h => by
    obtain ⟨w, h1, h2⟩ := k_get_spec (L := l) (k := n) h
    exact ⟨w, h1, h2⟩
theorem k_set_spec {v : AV} : ∀ {L : KL} {k : Nat} {K : KL → Prop}, k_set L k v K → k < L.length ∧ K (L.set k (some v))
  | [], _, _, h => by simp [k_set] at h
  | a :: l, 0, K, h => ⟨Nat.zero_lt_succ _, h⟩
  | a :: l, n + 1, K, h => by
    obtain ⟨h1, h2⟩ := k_set_spec (L := l) (k := n) (K := fun l' => K (a :: l')) h
    exact ⟨Nat.succ_lt_succ h1, h2⟩
theorem k_pop_spec {K : List AV → List AV → Prop} : ∀ {n : Nat} {S acc : List AV}, k_pop n S acc K → ∃ xs S', S = xs ++ S' ∧ xs.length = n ∧ K (xs.reverse ++ acc) S'
  | 0, S, acc, h => ⟨[], S, rfl, rfl, h⟩
  | n + 1, [], acc, h => by simp [k_pop] at h
  | n + 1, v :: S, acc, h => by
    obtain ⟨xs, S', h1, h2, h3⟩ := k_pop_spec (n := n) (S := S) (acc := v :: acc) h
    refine ⟨v :: xs, S', by rw [h1]; rfl, by simp [h2], ?_⟩
    simpa using h3
theorem k_1_spec {x : List Nat} {K : Nat → Prop} (h : k_1 x K) : ∃ a r, x = a :: r ∧ K a := by
  cases x with
  | nil => exact h.elim
  | cons a r => exact ⟨a, r, rfl, h⟩
theorem k_2_spec {x : List Nat} {K : Nat → Nat → Prop} (h : k_2 x K) : ∃ a b r, x = a :: b :: r ∧ K a b := by
  match x, h with
  | a :: b :: r, h => exact ⟨a, b, r, rfl, h⟩
theorem k_3_spec {x : List Nat} {K : Nat → Nat → Nat → Prop} (h : k_3 x K) : ∃ a b c r, x = a :: b :: c :: r ∧ K a b c := by
  match x, h with
  | a :: b :: c :: r, h => exact ⟨a, b, c, r, rfl, h⟩
theorem k_int_spec {v : AV} {K : Int → Prop} (h : k_int v K) : ∃ a, v = .inl a ∧ K a := by
  match v, h with
  | .inl a, h => exact ⟨a, rfl, h⟩
theorem k_ref_spec {v : AV} {K : Nat → Prop} (h : k_ref v K) : ∃ a, v = .inr (.inl a) ∧ K a := by
  match v, h with
  | .inr (.inl a), h => exact ⟨a, rfl, h⟩
theorem k_un_spec {S : List AV} {K : Int → List AV → Prop} (h : k_un S K) : ∃ a S', S = .inl a :: S' ∧ K a S' := by
  match S, h with
  | .inl a :: S, h => exact ⟨a, S, rfl, h⟩
theorem k_bin_spec {S : List AV} {K : Int → Int → List AV → Prop} (h : k_bin S K) : ∃ a b S', S = .inl b :: .inl a :: S' ∧ K a b S' := by
  match S, h with
  | .inl b :: .inl a :: S, h => exact ⟨a, b, S, rfl, h⟩
theorem k_ob_spec {S : List AV} {K : Nat → List AV → Prop} (h : k_ob S K) : ∃ o S', S = .inr (.inl o) :: S' ∧ K o S' := by
  match S, h with
  | .inr (.inl o) :: S, h => exact ⟨o, S, rfl, h⟩
theorem k_if_spec {b : Bool} {P : Prop} (h : k_if b P) : b = true ∧ P := by
  cases b with
  | true => exact ⟨rfl, h⟩
  | false => exact h.elim
theorem k_obj_spec {G : Gr} {o ci : Nat} {K : List (Option Nat) → Prop} (h : k_obj G o ci K) : ∃ rs, G[o]? = some (.inl (ci, rs)) ∧ K rs := by
  unfold k_obj at h
  split at h
  · rename_i c rs hG
    obtain ⟨h1, h2⟩ := k_if_spec h
    have := Nat.eq_of_beq_eq_true h1
    subst this
    exact ⟨rs, hG, h2⟩
  · exact h.elim
theorem k_wr_spec {G : Gr} {o ty : Nat} {K : Nat → Prop} (h : k_wr G o ty K) : ∃ n, G[o]? = some (.inr (ty, n)) ∧ K n := by
  unfold k_wr at h
  split at h
  · rename_i t n hG
    obtain ⟨h1, h2⟩ := k_if_spec h
    have := Nat.eq_of_beq_eq_true h1
    subst this
    exact ⟨n, hG, h2⟩
  · exact h.elim
theorem k_rd_spec {G : Gr} {RO : Ro} {m : Mem} {o ty : Nat} {K : Nat → (Int → Int) → Prop} (h : k_rd G RO m o ty K) : (∃ n, G[o]? = some (.inr (ty, n)) ∧ K n (m o)) ∨ ∃ j n f, o = 1000 + j ∧ RO[j]? = some (ty, n, f) ∧ K n f := by
  unfold k_rd at h
  split at h
  · exact Or.inl (k_wr_spec h)
  · rename_i hb
    split at h
    · rename_i t n f hR
      obtain ⟨h1, h2⟩ := k_if_spec h
      have := Nat.eq_of_beq_eq_true h1
      subst this
      have : ¬ o < 1000 := fun q => by rw [show Nat.blt o 1000 = true from Nat.ble_eq_true_of_le q] at hb; cases hb
      exact Or.inr ⟨o - 1000, n, f, by omega, hR, h2⟩
    · exact h.elim
theorem k_len_spec {G : Gr} {RO : Ro} {o : Nat} {K : Nat → Prop} (h : k_len G RO o K) : (∃ ty n, G[o]? = some (.inr (ty, n)) ∧ K n) ∨ ∃ j ty n f, o = 1000 + j ∧ RO[j]? = some (ty, n, f) ∧ K n := by
  unfold k_len at h
  split at h
  · split at h
    · rename_i t n hG
      exact Or.inl ⟨t, n, hG, h⟩
    · exact h.elim
  · rename_i hb
    split at h
    · rename_i t n f hR
      have : ¬ o < 1000 := fun q => by rw [show Nat.blt o 1000 = true from Nat.ble_eq_true_of_le q] at hb; cases hb
      exact Or.inr ⟨o - 1000, t, n, f, by omega, hR, h⟩
    · exact h.elim
theorem k_ar_spec {x : List Nat} {z : Int} {K : Int → Prop} (h : k_ar x z K) : ∃ z', Int32.ofInt z = Int32.ofInt z' ∧ inR z' ∧ K z' := by
  unfold k_ar at h
  split at h
  · exact ⟨z, rfl, h.1, h.2⟩
  · exact ⟨w32 z, (k_ofInt_w z).symm, w32_in z, h⟩
theorem k_lv_in {ad : Nat → Nat} {L : KL} {q : Nat × Value} : q ∈ k_lv ad L ↔ ∃ v, L[q.1]? = some (some v) ∧ q.2 = rv ad v := by
  unfold k_lv
  rw [List.mem_filterMap]
  constructor
  · rintro ⟨i, -, h⟩
    split at h
    · rename_i v hv
      cases h
      exact ⟨v, hv, rfl⟩
    · cases h
  · rintro ⟨v, h1, h2⟩
    refine ⟨q.1, List.mem_range.mpr (List.getElem?_eq_some_iff.mp h1).1, ?_⟩
    rw [h1]
    simp only
    rw [← h2]
theorem kLs_get {ad : Nat → Nat} {ls : Array Slot} {n : Nat} {L : KL} {k : Nat} {v : AV} (h : kLs ad ls n L) (hk : L[k]? = some (some v)) : ls[k]? = some (.val (rv ad v)) ∧ kV v := ⟨h.1.2.2 (k, rv ad v) (k_lv_in.mpr ⟨v, hk, rfl⟩), h.2.2 v (List.mem_of_getElem? hk)⟩
theorem kV_cat {ad : Nat → Nat} {v : AV} (h : kV v) : (rv ad v).category = 1 := by
  match v, h with
  | .inl a, _ => rfl
  | .inr (.inl a), _ => rfl
theorem kLs_set {ad : Nat → Nat} {ls ls' : Array Slot} {n : Nat} {L : KL} {k : Nat} {v : AV} (h : kLs ad ls n L) (hk : k < L.length) (hv : kV v) (h' : lv_has ls' n ((k, rv ad v) :: (k_lv ad L).filter (fun q => !(q.1 == k) && !(q.1 + 1 == k && q.2.category == 2)))) : kLs ad ls' n (L.set k (some v)) := by
  refine ⟨⟨h'.1, h'.2.1, fun q hq => ?_⟩, by rw [List.length_set]; exact h.2.1, fun w hw => ?_⟩
  · obtain ⟨w, h1, h2⟩ := k_lv_in.mp hq
    by_cases hj : q.1 = k
    · rw [hj, List.getElem?_set_self hk] at h1
      cases h1
      have := h'.2.2 (k, rv ad v) List.mem_cons_self
      rw [hj, h2]
      exact this
    · rw [List.getElem?_set_ne (Ne.symm hj)] at h1
      refine h'.2.2 q (List.mem_cons_of_mem _ (List.mem_filter.mpr ⟨k_lv_in.mpr ⟨w, h1, h2⟩, ?_⟩))
      have hc := kV_cat (ad := ad) (h.2.2 w (List.mem_of_getElem? h1))
      rw [h2, hc]
      simp [hj]
  · rcases List.mem_or_eq_of_mem_set hw with h1 | h1
    · exact h.2.2 w h1
    · cases h1; exact hv
theorem k_tc_int {ty : FieldType} (h : k_tc ty = 0) : ty = .int := by cases ty <;> simp [k_tc] at h ⊢
theorem k_tc_bool {ty : FieldType} (h : k_tc ty = 2) : ty = .boolean := by cases ty <;> simp [k_tc] at h ⊢
theorem k_cls_at {ci : Nat} (h : ci ≤ 12) : ∃ q, cls[ci]? = some q := by
  have : ci < cls.length := by simp [cls]; omega
  exact ⟨cls[ci], List.getElem?_eq_getElem this⟩
theorem k_any {α : Type} {l : List α} {f : α → Bool} (h : l.any f = true) : ∃ q ∈ l, f q = true := List.any_eq_true.mp h
theorem k_mset_ne {m : Mem} {o p : Nat} {i v : Int} (h : p ≠ o) : mset m o i v p = m p := by simp [mset, h]
theorem k_mset_at {m : Mem} {o : Nat} {i j v : Int} : mset m o i v o j = if j = i then v else m o j := by simp [mset]
theorem k_mset_in {m : Mem} {o : Nat} {i v : Int} (h : ∀ o i, inR (m o i)) (hv : inR v) : ∀ p j, inR (mset m o i v p j) := by
  intro p j
  unfold mset
  split
  · show inR (if j = i then v else m o j)
    split
    · exact hv
    · exact h o j
  · exact h p j
theorem k_ent_put {cA : Nat → ClassId} {ad : Nat → Nat} {m : Mem} {o ci k : Nat} {rs : List (Option Nat)} {v : Int} (ht : k_tc (k_ty ci k) ≠ 1) : k_ent cA ad (fset m o k v) o (.inl (ci, rs)) = (ad o, .inr (ci, ((List.range (k_nf ci)).map (k_fv ad m o ci rs)).set k (.int (Int32.ofInt v)))) := by
  unfold k_ent
  simp only
  congr 3
  apply List.ext_getElem?
  intro j
  by_cases hj : j = k
  · subst hj
    by_cases hl : j < k_nf ci
    · rw [List.getElem?_set_self (by simpa using hl), List.getElem?_map, List.getElem?_range hl]
      simp [k_fv, ht, k_mset_at, fld, fset]
    · rw [List.getElem?_eq_none (by simpa using hl), List.getElem?_eq_none (by simpa using hl)]
  · rw [List.getElem?_set_ne (Ne.symm hj), List.getElem?_map, List.getElem?_map]
    cases this : (List.range (k_nf ci))[j]? with
    | none => rfl
    | some z =>
      simp only [Option.map_some]
      obtain ⟨h1, h2⟩ := List.getElem?_eq_some_iff.mp this
      rw [List.getElem_range] at h2
      subst h2
      simp only [k_fv, fld, fset, k_mset_at]
      rw [if_neg (fun z : ((j : Nat) : Int) = (k : Int) => hj (by omega))]
