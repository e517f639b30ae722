/-! the machine's code as data, run: soundness of k_exec, k_blk, k_go, and a method's contract out of its body -/
section KS
variable {E : Ev} {h : Nat} {M : Md} {T : Option AV → Mem → Prop} {p : Program} {e : Env} {R : Room} {s : State} {mm : MethodId} {args : Array Value} {below : List Frame} {meth : Method} {c : Code} {cells slots : Nat} {Qf : State → Prop} {ad : Nat → Nat} {A : Nat → Prop}
theorem k_fr {j b ci k t : Nat} (h : k_FR.any (fun q => Nat.beq q.1 j && (Nat.beq q.2.1 b && (Nat.beq q.2.2.1 ci && (Nat.beq q.2.2.2.1 k && Nat.beq q.2.2.2.2.1 t)))) = true) : ∃ q ∈ k_FR, q.1 = j ∧ q.2.1 = b ∧ q.2.2.1 = ci ∧ q.2.2.2.1 = k ∧ q.2.2.2.2.1 = t := by
  obtain ⟨q, h1, h2⟩ := k_any h
  simp only [Bool.and_eq_true] at h2
  exact ⟨q, h1, Nat.eq_of_beq_eq_true h2.1, Nat.eq_of_beq_eq_true h2.2.1, Nat.eq_of_beq_eq_true h2.2.2.1, Nat.eq_of_beq_eq_true h2.2.2.2.1, Nat.eq_of_beq_eq_true h2.2.2.2.2⟩
theorem k_frp {j b ci k t : Nat} (h : k_FR.any (fun q => Nat.beq q.1 j && (Nat.beq q.2.1 b && (Nat.beq q.2.2.1 ci && (Nat.beq q.2.2.2.1 k && (Nat.beq q.2.2.2.2.1 t && !(k_TX ci k).2.2.2))))) = true) : (∃ q ∈ k_FR, q.1 = j ∧ q.2.1 = b ∧ q.2.2.1 = ci ∧ q.2.2.2.1 = k ∧ q.2.2.2.2.1 = t) ∧ (k_TX ci k).2.2.2 = false := by
  obtain ⟨q, h1, h2⟩ := k_any h
  simp only [Bool.and_eq_true] at h2
  exact ⟨⟨q, h1, Nat.eq_of_beq_eq_true h2.1, Nat.eq_of_beq_eq_true h2.2.1, Nat.eq_of_beq_eq_true h2.2.2.1, Nat.eq_of_beq_eq_true h2.2.2.2.1, Nat.eq_of_beq_eq_true h2.2.2.2.2.1⟩, by simpa using h2.2.2.2.2.2⟩
theorem k_cases_spec {v : Int} {K : Nat → Prop} {pcs : List Nat} {pc : Nat} : ∀ {bs : List Nat} {lo : Int} {fs : List Int}, k_cases v lo bs K → k_tgs pcs pc bs fs = true → lo ≤ v → v < lo + fs.length → ∃ b f, fs[(v - lo).toNat]? = some f ∧ k_tg pcs b pc f = true ∧ K b
  | [], lo, [], h, ht, h1, h2 => by simp at h2; omega
  | [], lo, f :: fs, h, ht, h1, h2 => by simp [k_tgs] at ht
  | b :: bs, lo, [], h, ht, h1, h2 => by simp [k_tgs] at ht
  | b :: bs, lo, f :: fs, h, ht, h1, h2 => by
    simp only [k_tgs, Bool.and_eq_true] at ht
    by_cases hv : v = lo
    · refine ⟨b, f, ?_, ht.1, h.1 hv⟩
      subst hv
      simp
    · obtain ⟨b', f', g1, g2, g3⟩ := k_cases_spec (bs := bs) (lo := lo + 1) (fs := fs) h.2 ht.2 (by omega) (by simp only [List.length_cons] at h2; omega)
      refine ⟨b', f', ?_, g2, g3⟩
      have : (v - lo).toNat = (v - (lo + 1)).toNat + 1 := by omega
      rw [this, List.getElem?_cons_succ]
      exact g1
set_option maxHeartbeats 4000000 in
theorem k_sound (hX : kX E h M T p e R s mm args below meth c cells slots Qf ad A) {J : Nat → KL → List AV → Mem → Prop}
    (hJ : ∀ b L S m, J b L S m → kWW E M p e R s mm args below meth c cells slots Qf ad A (k_pc M b) L S m) :
    ∀ (is : List AI) (pc : Nat) (L : KL) (S : List AV) (m : Mem), k_okB M.2.1 (M.2.2.2.2.map (fun z => z.1)) (MT M.1).2.1 pc is = true → k_exec E.2.2.2.1 E.2.2.2.2 J (kCall E h) T is L S m → kWW E M p e R s mm args below meth c cells slots Qf ad A pc L S m := by
  intro is
  induction is with
  | nil => intro pc L S m _ hE; exact hE.elim
  | cons q r ih =>
    obtain ⟨i, len, x⟩ := q
    intro pc L S m hok hE
    simp only [k_okB, Bool.and_eq_true] at hok
    obtain ⟨hI, hr⟩ := hok
    obtain ⟨hx, hb, hml, hown, hts, hfr, hlo, hce, hsl, hK, hRo, hA, hLn, hret⟩ := id hX
    have hjmp : ∀ {b : Nat} {off : Int} {t : Nat}, (M.2.2.2.2.map (fun z => z.1))[b]? = some t → k_pc M b = t := fun h => k_pc_of h
    cases i
    case nop =>
      simp only [k_okI, Bool.and_eq_true] at hI
      obtain ⟨b, r', rfl, hE1⟩ := k_1_spec hE
      obtain ⟨t, h1, h2⟩ := k_tg_spec hI.2
      have := hJ b L S m hE1
      rw [k_pc_of h1] at this
      have ht : t = pc := by omega
      rw [ht] at this
      exact this
    case iconst n =>
      simp only [k_okI, Bool.and_eq_true, decide_eq_true_eq] at hI
      obtain ⟨hd, rfl⟩ := k_dc_spec hI.1
      intro H locs ls hH hS hL hV
      exact lv_iconst hx hb hd rfl (ih _ _ _ _ hr hE H locs ls hH hS hL (k_kV_cons hI.2 hV))
    case bipush n =>
      simp only [k_okI, Bool.and_eq_true, decide_eq_true_eq] at hI
      obtain ⟨hd, rfl⟩ := k_dc_spec hI.1
      intro H locs ls hH hS hL hV
      exact lv_bipush hx hb hd hI.2.2 (ih _ _ _ _ hr hE H locs ls hH hS hL (k_kV_cons hI.2.1 hV))
    case sipush n =>
      simp only [k_okI, Bool.and_eq_true, decide_eq_true_eq] at hI
      obtain ⟨hd, rfl⟩ := k_dc_spec hI.1
      intro H locs ls hH hS hL hV
      exact lv_sipush hx hb hd hI.2.2 (ih _ _ _ _ hr hE H locs ls hH hS hL (k_kV_cons hI.2.1 hV))
    case ldc j =>
      obtain ⟨v, r', rfl, hE1⟩ := k_1_spec hE
      simp only [k_okI, Bool.and_eq_true] at hI
      obtain ⟨hd, rfl⟩ := k_dc_spec hI.1
      obtain ⟨⟨qo, qi, qv, qp⟩, hq, hz⟩ := k_any hI.2
      simp only [Bool.and_eq_true] at hz
      have e1 := Nat.eq_of_beq_eq_true hz.1
      have e2 := Nat.eq_of_beq_eq_true hz.2.1
      have e3 := Nat.eq_of_beq_eq_true hz.2.2
      subst e1 e2 e3
      have hk := k_KR_ok _ hq
      simp only [k_kchk, Bool.and_eq_true] at hk
      have hb2 := Nat.le_of_ble_eq_true hk.2
      intro H locs ls hH hS hL hV
      exact lv_ldc hx hb hown (hts _ (k_at_in hk.1)) hd (ih _ _ _ _ hr hE1 H locs ls hH hS hL (k_kV_cons (show inR (qv : Int) by constructor <;> omega) hV))
    case ldc_w j =>
      obtain ⟨v, r', rfl, hE1⟩ := k_1_spec hE
      simp only [k_okI, Bool.and_eq_true] at hI
      obtain ⟨hd, rfl⟩ := k_dc_spec hI.1
      obtain ⟨⟨qo, qi, qv, qp⟩, hq, hz⟩ := k_any hI.2
      simp only [Bool.and_eq_true] at hz
      have e1 := Nat.eq_of_beq_eq_true hz.1
      have e2 := Nat.eq_of_beq_eq_true hz.2.1
      have e3 := Nat.eq_of_beq_eq_true hz.2.2
      subst e1 e2 e3
      have hk := k_KR_ok _ hq
      simp only [k_kchk, Bool.and_eq_true] at hk
      have hb2 := Nat.le_of_ble_eq_true hk.2
      intro H locs ls hH hS hL hV
      exact lv_ldcw hx hb hown (hts _ (k_at_in hk.1)) hd (ih _ _ _ _ hr hE1 H locs ls hH hS hL (k_kV_cons (show inR (qv : Int) by constructor <;> omega) hV))
    case iload_n k =>
      obtain ⟨hd, rfl⟩ := k_dc_spec hI
      obtain ⟨v, h1, hE1⟩ := k_get_spec hE
      obtain ⟨a, rfl, hE2⟩ := k_int_spec hE1
      intro H locs ls hH hS hL hV
      obtain ⟨g1, g2⟩ := kLs_get hL h1
      exact lv_iload_n hx hb hd rfl g1 (ih _ _ _ _ hr hE2 H locs ls hH hS hL (k_kV_cons g2 hV))
    case iload k =>
      obtain ⟨hd, rfl⟩ := k_dc_spec hI
      obtain ⟨v, h1, hE1⟩ := k_get_spec hE
      obtain ⟨a, rfl, hE2⟩ := k_int_spec hE1
      intro H locs ls hH hS hL hV
      obtain ⟨g1, g2⟩ := kLs_get hL h1
      exact lv_iload hx hb hd g1 (ih _ _ _ _ hr hE2 H locs ls hH hS hL (k_kV_cons g2 hV))
    case aload_n k =>
      obtain ⟨hd, rfl⟩ := k_dc_spec hI
      obtain ⟨v, h1, hE1⟩ := k_get_spec hE
      obtain ⟨a, rfl, hE2⟩ := k_ref_spec hE1
      intro H locs ls hH hS hL hV
      obtain ⟨g1, g2⟩ := kLs_get hL h1
      exact lv_aload_n hx hb hd rfl g1 (ih _ _ _ _ hr hE2 H locs ls hH hS hL (k_kV_cons g2 hV))
    case aload k =>
      obtain ⟨hd, rfl⟩ := k_dc_spec hI
      obtain ⟨v, h1, hE1⟩ := k_get_spec hE
      obtain ⟨a, rfl, hE2⟩ := k_ref_spec hE1
      intro H locs ls hH hS hL hV
      obtain ⟨g1, g2⟩ := kLs_get hL h1
      exact lv_aload hx hb hd g1 (ih _ _ _ _ hr hE2 H locs ls hH hS hL (k_kV_cons g2 hV))
    case istore_n k =>
      obtain ⟨hd, rfl⟩ := k_dc_spec hI
      obtain ⟨a, S', rfl, hE1⟩ := k_un_spec hE
      obtain ⟨h1, hE2⟩ := k_set_spec hE1
      intro H locs ls hH hS hL hV
      obtain ⟨v1, v2⟩ := k_kV_tail hV
      exact lv_istore_n hx hb hd rfl hL.1 (by rw [← hL.2.1]; exact h1) rfl (fun ls' hl' => ih _ _ _ _ hr hE2 H locs ls' hH hS (kLs_set hL h1 v1 hl') v2)
    case istore k =>
      obtain ⟨hd, rfl⟩ := k_dc_spec hI
      obtain ⟨a, S', rfl, hE1⟩ := k_un_spec hE
      obtain ⟨h1, hE2⟩ := k_set_spec hE1
      intro H locs ls hH hS hL hV
      obtain ⟨v1, v2⟩ := k_kV_tail hV
      exact lv_istore hx hb hd hL.1 (by rw [← hL.2.1]; exact h1) rfl (fun ls' hl' => ih _ _ _ _ hr hE2 H locs ls' hH hS (kLs_set hL h1 v1 hl') v2)
    case astore_n k =>
      obtain ⟨hd, rfl⟩ := k_dc_spec hI
      obtain ⟨a, S', rfl, hE1⟩ := k_ob_spec hE
      obtain ⟨h1, hE2⟩ := k_set_spec hE1
      intro H locs ls hH hS hL hV
      obtain ⟨v1, v2⟩ := k_kV_tail hV
      exact lv_astore_n hx hb hd rfl hL.1 (by rw [← hL.2.1]; exact h1) rfl (fun ls' hl' => ih _ _ _ _ hr hE2 H locs ls' hH hS (kLs_set hL h1 v1 hl') v2)
    case astore k =>
      obtain ⟨hd, rfl⟩ := k_dc_spec hI
      obtain ⟨a, S', rfl, hE1⟩ := k_ob_spec hE
      obtain ⟨h1, hE2⟩ := k_set_spec hE1
      intro H locs ls hH hS hL hV
      obtain ⟨v1, v2⟩ := k_kV_tail hV
      exact lv_astore hx hb hd hL.1 (by rw [← hL.2.1]; exact h1) rfl (fun ls' hl' => ih _ _ _ _ hr hE2 H locs ls' hH hS (kLs_set hL h1 v1 hl') v2)
    case iinc k n =>
      obtain ⟨hd, rfl⟩ := k_dc_spec hI
      obtain ⟨v, h1, hE1⟩ := k_get_spec hE
      obtain ⟨a, rfl, hE2⟩ := k_int_spec hE1
      obtain ⟨hin, hE3⟩ := hE2
      obtain ⟨h2, hE4⟩ := k_set_spec hE3
      intro H locs ls hH hS hL hV
      obtain ⟨kk, hkk⟩ := List.getElem?_of_mem (k_lv_in.mpr ⟨_, h1, rfl⟩ : (k, rv ad (.inl a)) ∈ k_lv ad L)
      exact lv_iinc hx hb hd hL.1 hkk (by rw [← Int32.ofInt_add]) (by rw [← hL.2.1]; exact h2) rfl (fun ls' hl' => ih _ _ _ _ hr hE4 H locs ls' hH hS (kLs_set hL h2 hin hl') hV)
    case iadd =>
      obtain ⟨hd, rfl⟩ := k_dc_spec hI
      obtain ⟨a, b, S', rfl, hE1⟩ := k_bin_spec hE
      obtain ⟨z, hz, hzi, hE2⟩ := k_ar_spec (K := fun z => k_exec E.2.2.2.1 E.2.2.2.2 J (kCall E h) T r L (vI z :: S') m) hE1
      intro H locs ls hH hS hL hV
      obtain ⟨v1, v2⟩ := k_kV_tail hV
      obtain ⟨v3, v4⟩ := k_kV_tail v2
      refine lv_iadd hx hb hd ?_
      rw [← Int32.ofInt_add, hz]
      exact ih _ _ _ _ hr hE2 H locs ls hH hS hL (k_kV_cons hzi v4)
    case isub =>
      obtain ⟨hd, rfl⟩ := k_dc_spec hI
      obtain ⟨a, b, S', rfl, hE1⟩ := k_bin_spec hE
      obtain ⟨z, hz, hzi, hE2⟩ := k_ar_spec (K := fun z => k_exec E.2.2.2.1 E.2.2.2.2 J (kCall E h) T r L (vI z :: S') m) hE1
      intro H locs ls hH hS hL hV
      obtain ⟨v1, v2⟩ := k_kV_tail hV
      obtain ⟨v3, v4⟩ := k_kV_tail v2
      refine lv_isub hx hb hd ?_
      rw [← Int32.ofInt_sub, hz]
      exact ih _ _ _ _ hr hE2 H locs ls hH hS hL (k_kV_cons hzi v4)
    case imul =>
      obtain ⟨hd, rfl⟩ := k_dc_spec hI
      obtain ⟨a, b, S', rfl, hE1⟩ := k_bin_spec hE
      obtain ⟨z, hz, hzi, hE2⟩ := k_ar_spec (K := fun z => k_exec E.2.2.2.1 E.2.2.2.2 J (kCall E h) T r L (vI z :: S') m) hE1
      intro H locs ls hH hS hL hV
      obtain ⟨v1, v2⟩ := k_kV_tail hV
      obtain ⟨v3, v4⟩ := k_kV_tail v2
      refine lv_imul hx hb hd ?_
      rw [← Int32.ofInt_mul, hz]
      exact ih _ _ _ _ hr hE2 H locs ls hH hS hL (k_kV_cons hzi v4)
    case ineg =>
      obtain ⟨hd, rfl⟩ := k_dc_spec hI
      obtain ⟨a, S', rfl, hE1⟩ := k_un_spec hE
      obtain ⟨z, hz, hzi, hE2⟩ := k_ar_spec (K := fun z => k_exec E.2.2.2.1 E.2.2.2.2 J (kCall E h) T r L (vI z :: S') m) hE1
      intro H locs ls hH hS hL hV
      obtain ⟨v1, v2⟩ := k_kV_tail hV
      refine lv_ineg hx hb hd ?_
      rw [k_ofInt_neg, hz]
      exact ih _ _ _ _ hr hE2 H locs ls hH hS hL (k_kV_cons hzi v2)
    case idiv =>
      obtain ⟨hd, rfl⟩ := k_dc_spec hI
      obtain ⟨a, b, S', rfl, hE1⟩ := k_bin_spec hE
      obtain ⟨h0, hzi, hE2⟩ := hE1
      intro H locs ls hH hS hL hV
      obtain ⟨v1, v2⟩ := k_kV_tail hV
      obtain ⟨v3, v4⟩ := k_kV_tail v2
      refine lv_idiv hx hb hd (by rw [← k_zero, k_eq v1 k_inR0]; exact h0) ?_
      rw [k_div v3 v1]
      exact ih _ _ _ _ hr hE2 H locs ls hH hS hL (k_kV_cons hzi v4)
    case irem =>
      obtain ⟨hd, rfl⟩ := k_dc_spec hI
      obtain ⟨a, b, S', rfl, hE1⟩ := k_bin_spec hE
      obtain ⟨h0, hE2⟩ := hE1
      intro H locs ls hH hS hL hV
      obtain ⟨v1, v2⟩ := k_kV_tail hV
      obtain ⟨v3, v4⟩ := k_kV_tail v2
      refine lv_irem hx hb hd (by rw [← k_zero, k_eq v1 k_inR0]; exact h0) ?_
      rw [k_rem v3 v1]
      exact ih _ _ _ _ hr hE2 H locs ls hH hS hL (k_kV_cons (k_tmod_in v3 v1 h0) v4)
    case iand =>
      obtain ⟨hd, rfl⟩ := k_dc_spec hI
      obtain ⟨a, b, S', rfl, hE1⟩ := k_bin_spec hE
      intro H locs ls hH hS hL hV
      obtain ⟨v1, v2⟩ := k_kV_tail hV
      obtain ⟨v3, v4⟩ := k_kV_tail v2
      refine lv_iand hx hb hd ?_
      rw [← k_ofInt_toInt (Int32.ofInt a &&& Int32.ofInt b)]
      exact ih _ _ _ _ hr hE1 H locs ls hH hS hL (k_kV_cons (k_in_toInt _) v4)
    case ior =>
      obtain ⟨hd, rfl⟩ := k_dc_spec hI
      obtain ⟨a, b, S', rfl, hE1⟩ := k_bin_spec hE
      intro H locs ls hH hS hL hV
      obtain ⟨v1, v2⟩ := k_kV_tail hV
      obtain ⟨v3, v4⟩ := k_kV_tail v2
      refine lv_ior hx hb hd ?_
      rw [← k_ofInt_toInt (Int32.ofInt a ||| Int32.ofInt b)]
      exact ih _ _ _ _ hr hE1 H locs ls hH hS hL (k_kV_cons (k_in_toInt _) v4)
    case ixor =>
      obtain ⟨hd, rfl⟩ := k_dc_spec hI
      obtain ⟨a, b, S', rfl, hE1⟩ := k_bin_spec hE
      intro H locs ls hH hS hL hV
      obtain ⟨v1, v2⟩ := k_kV_tail hV
      obtain ⟨v3, v4⟩ := k_kV_tail v2
      refine lv_ixor hx hb hd ?_
      rw [← k_ofInt_toInt (Int32.ofInt a ^^^ Int32.ofInt b)]
      exact ih _ _ _ _ hr hE1 H locs ls hH hS hL (k_kV_cons (k_in_toInt _) v4)
    case ishl =>
      obtain ⟨hd, rfl⟩ := k_dc_spec hI
      obtain ⟨a, b, S', rfl, hE1⟩ := k_bin_spec hE
      intro H locs ls hH hS hL hV
      obtain ⟨v1, v2⟩ := k_kV_tail hV
      obtain ⟨v3, v4⟩ := k_kV_tail v2
      refine lv_ishl hx hb hd ?_
      rw [← k_ofInt_toInt (Int32.ofInt a <<< (Int32.ofInt b &&& 31))]
      exact ih _ _ _ _ hr hE1 H locs ls hH hS hL (k_kV_cons (k_in_toInt _) v4)
    case ishr =>
      obtain ⟨hd, rfl⟩ := k_dc_spec hI
      obtain ⟨a, b, S', rfl, hE1⟩ := k_bin_spec hE
      intro H locs ls hH hS hL hV
      obtain ⟨v1, v2⟩ := k_kV_tail hV
      obtain ⟨v3, v4⟩ := k_kV_tail v2
      refine lv_ishr hx hb hd ?_
      rw [← k_ofInt_toInt (Int32.ofInt a >>> (Int32.ofInt b &&& 31))]
      exact ih _ _ _ _ hr hE1 H locs ls hH hS hL (k_kV_cons (k_in_toInt _) v4)
    case iushr =>
      obtain ⟨hd, rfl⟩ := k_dc_spec hI
      obtain ⟨a, b, S', rfl, hE1⟩ := k_bin_spec hE
      intro H locs ls hH hS hL hV
      obtain ⟨v1, v2⟩ := k_kV_tail hV
      obtain ⟨v3, v4⟩ := k_kV_tail v2
      refine lv_iushr hx hb hd rfl ?_
      rw [← k_ofInt_toInt ((Int32.ofInt a).toUInt32 >>> ((Int32.ofInt b).toUInt32 &&& Int32.toUInt32 31)).toInt32]
      exact ih _ _ _ _ hr hE1 H locs ls hH hS hL (k_kV_cons (k_in_toInt _) v4)
    case dup =>
      obtain ⟨hd, rfl⟩ := k_dc_spec hI
      match S, hE with
      | .inl a :: S, hE =>
        intro H locs ls hH hS hL hV
        obtain ⟨v1, v2⟩ := k_kV_tail hV
        exact lv_dup hx hb hd rfl (ih _ _ _ _ hr hE H locs ls hH hS hL (k_kV_cons v1 hV))
      | .inr (.inl a) :: S, hE =>
        intro H locs ls hH hS hL hV
        obtain ⟨v1, v2⟩ := k_kV_tail hV
        exact lv_dup hx hb hd rfl (ih _ _ _ _ hr hE H locs ls hH hS hL (k_kV_cons v1 hV))
    case dup2 =>
      obtain ⟨hd, rfl⟩ := k_dc_spec hI
      match S, hE with
      | .inl b :: .inr (.inl a) :: S, hE =>
        intro H locs ls hH hS hL hV
        obtain ⟨v1, v2⟩ := k_kV_tail hV
        obtain ⟨v3, v4⟩ := k_kV_tail v2
        exact lv_dup2_11 hx hb hd rfl rfl (ih _ _ _ _ hr hE H locs ls hH hS hL (k_kV_cons v1 (k_kV_cons v3 hV)))
    case pop =>
      obtain ⟨hd, rfl⟩ := k_dc_spec hI
      match S, hE with
      | .inl a :: S, hE =>
        intro H locs ls hH hS hL hV
        obtain ⟨v1, v2⟩ := k_kV_tail hV
        exact lv_pop hx hb hd rfl (ih _ _ _ _ hr hE H locs ls hH hS hL v2)
      | .inr (.inl a) :: S, hE =>
        intro H locs ls hH hS hL hV
        obtain ⟨v1, v2⟩ := k_kV_tail hV
        exact lv_pop hx hb hd rfl (ih _ _ _ _ hr hE H locs ls hH hS hL v2)
    case getfield j =>
      obtain ⟨o, S', rfl, hE1⟩ := k_ob_spec hE
      obtain ⟨ci, k, t, r', rfl, hE2⟩ := k_3_spec hE1
      obtain ⟨rs, hG, hE3⟩ := k_obj_spec hE2
      simp only [k_okI, Bool.and_eq_true] at hI
      obtain ⟨hd, rfl⟩ := k_dc_spec hI.1
      have hfl := k_fr hI.2
      by_cases ht : t = 1
      · subst ht
        have hE4 : (match rs[k]? with
          | some (some q) => k_exec E.2.2.2.1 E.2.2.2.2 J (kCall E h) T r L (vR q :: S') m
          | _ => False) := hE3
        split at hE4
        · rename_i q hq
          exact k_stepGet hX hd hfl hG (Or.inl ⟨rfl, q, hq, rfl⟩) (ih _ _ _ _ hr hE4)
        · exact hE4.elim
      · have hE3 : k_exec E.2.2.2.1 E.2.2.2.2 J (kCall E h) T r L (vI (fld m o k) :: S') m := by
          split at hE3
          · exact absurd rfl ht
          · exact hE3
        exact k_stepGet hX hd hfl hG (Or.inr ⟨ht, rfl⟩) (ih _ _ _ _ hr hE3)
    case putfield j =>
      obtain ⟨v, S', rfl, hE1⟩ := k_un_spec hE
      obtain ⟨o, S', rfl, hE2⟩ := k_ob_spec hE1
      obtain ⟨ci, k, t, r', rfl, hE3⟩ := k_3_spec hE2
      obtain ⟨rs, hG, hE4⟩ := k_obj_spec hE3
      simp only [k_okI, Bool.and_eq_true] at hI
      obtain ⟨hd, rfl⟩ := k_dc_spec hI.1
      obtain ⟨hfl, hfin⟩ := k_frp hI.2
      split at hE4
      · exact k_stepPut hX hd hfl hfin hG (Or.inl rfl) (ih _ _ _ _ hr hE4)
      · exact k_stepPut hX hd hfl hfin hG (Or.inr ⟨rfl, hE4.1⟩) (ih _ _ _ _ hr hE4.2)
      · exact hE4.elim
    case getstatic j =>
      obtain ⟨b, r', rfl, hE1⟩ := k_1_spec hE
      simp only [k_okI, Bool.and_eq_true] at hI
      obtain ⟨hd, rfl⟩ := k_dc_spec hI.1
      obtain ⟨q, hq, hz⟩ := k_any hI.2
      simp only [Bool.and_eq_true] at hz
      exact k_stepStatic hX hd ⟨q, hq, Nat.eq_of_beq_eq_true hz.1, Nat.eq_of_beq_eq_true hz.2.1, Nat.eq_of_beq_eq_true hz.2.2⟩ (ih _ _ _ _ hr hE1)
    case iaload =>
      obtain ⟨hd, rfl⟩ := k_dc_spec hI
      obtain ⟨i, S', rfl, hE1⟩ := k_un_spec hE
      obtain ⟨o, S', rfl, hE2⟩ := k_ob_spec hE1
      rcases k_rd_spec hE2 with ⟨n, hG, hi, hE3⟩ | ⟨j, n, f, rfl, hj, hi, hE3⟩
      · exact k_stepRead hX hd (Or.inl ⟨rfl, rfl⟩) (Or.inl ⟨n, hG, rfl, rfl⟩) hi (ih _ _ _ _ hr hE3)
      · exact k_stepRead hX hd (Or.inl ⟨rfl, rfl⟩) (Or.inr ⟨j, rfl, hj⟩) hi (ih _ _ _ _ hr hE3)
    case baload =>
      obtain ⟨hd, rfl⟩ := k_dc_spec hI
      obtain ⟨i, S', rfl, hE1⟩ := k_un_spec hE
      obtain ⟨o, S', rfl, hE2⟩ := k_ob_spec hE1
      rcases k_rd_spec hE2 with ⟨n, hG, hi, hE3⟩ | ⟨j, n, f, rfl, hj, hi, hE3⟩
      · exact k_stepRead hX hd (Or.inr (Or.inl ⟨rfl, rfl⟩)) (Or.inl ⟨n, hG, rfl, rfl⟩) hi (ih _ _ _ _ hr hE3)
      · exact k_stepRead hX hd (Or.inr (Or.inl ⟨rfl, rfl⟩)) (Or.inr ⟨j, rfl, hj⟩) hi (ih _ _ _ _ hr hE3)
    case caload =>
      obtain ⟨hd, rfl⟩ := k_dc_spec hI
      obtain ⟨i, S', rfl, hE1⟩ := k_un_spec hE
      obtain ⟨o, S', rfl, hE2⟩ := k_ob_spec hE1
      rcases k_rd_spec hE2 with ⟨n, hG, hi, hE3⟩ | ⟨j, n, f, rfl, hj, hi, hE3⟩
      · exact k_stepRead hX hd (Or.inr (Or.inr ⟨rfl, rfl⟩)) (Or.inl ⟨n, hG, rfl, rfl⟩) hi (ih _ _ _ _ hr hE3)
      · exact k_stepRead hX hd (Or.inr (Or.inr ⟨rfl, rfl⟩)) (Or.inr ⟨j, rfl, hj⟩) hi (ih _ _ _ _ hr hE3)
    case iastore =>
      obtain ⟨hd, rfl⟩ := k_dc_spec hI
      obtain ⟨i, v, S', rfl, hE1⟩ := k_bin_spec hE
      obtain ⟨o, S', rfl, hE2⟩ := k_ob_spec hE1
      obtain ⟨n, hG, hi, hE3⟩ := k_wr_spec hE2
      exact k_stepWrite hX hd (Or.inl ⟨rfl, rfl⟩) hG hi (ih _ _ _ _ hr hE3)
    case bastore =>
      obtain ⟨hd, rfl⟩ := k_dc_spec hI
      obtain ⟨i, v, S', rfl, hE1⟩ := k_bin_spec hE
      obtain ⟨o, S', rfl, hE2⟩ := k_ob_spec hE1
      obtain ⟨n, hG, hi, hv, hE3⟩ := k_wr_spec hE2
      exact k_stepWrite hX hd (Or.inr ⟨rfl, rfl, hv⟩) hG hi (ih _ _ _ _ hr hE3)
    case arraylength =>
      obtain ⟨hd, rfl⟩ := k_dc_spec hI
      obtain ⟨o, S', rfl, hE1⟩ := k_ob_spec hE
      rcases k_len_spec hE1 with ⟨ty, n, hG, hE2⟩ | ⟨j, ty, n, f, rfl, hj, hE2⟩
      · exact k_stepLen hX hd (Or.inl ⟨ty, hG⟩) (ih _ _ _ _ hr hE2)
      · exact k_stepLen hX hd (Or.inr ⟨j, ty, f, rfl, hj⟩) (ih _ _ _ _ hr hE2)
    case goto f =>
      obtain ⟨b, r', rfl, hE1⟩ := k_1_spec hE
      simp only [k_okI, Bool.and_eq_true] at hI
      obtain ⟨hd, rfl⟩ := k_dc_spec hI.1
      obtain ⟨t, h1, h2⟩ := k_tg_spec hI.2
      have hj := hJ b L S m hE1
      rw [k_pc_of h1] at hj
      intro H locs ls hH hS hL hV
      exact lv_goto hx hb hd h2 (hj H locs ls hH hS hL hV)
    case ifCond cnd f =>
      obtain ⟨b, r', rfl, hE1⟩ := k_1_spec hE
      obtain ⟨a, S', rfl, hE2⟩ := k_un_spec hE1
      simp only [k_okI, Bool.and_eq_true] at hI
      obtain ⟨hd, rfl⟩ := k_dc_spec hI.1
      obtain ⟨t, h1, h2⟩ := k_tg_spec hI.2
      intro H locs ls hH hS hL hV
      obtain ⟨v1, v2⟩ := k_kV_tail hV
      have v1 : inR a := v1
      have hj : J b L S' m → W p E.1 e R s mm args below meth c H locs cells slots Qf (F0 mm t ls (S'.map (rv ad))) := fun q => by
        have := hJ b L S' m q
        rw [k_pc_of h1] at this
        exact this H locs ls hH hS hL v2
      have hn : k_exec E.2.2.2.1 E.2.2.2.2 J (kCall E h) T r L S' m → W p E.1 e R s mm args below meth c H locs cells slots Qf (F0 mm (pc + 3) ls (S'.map (rv ad))) := fun q => ih _ _ _ _ hr q H locs ls hH hS hL v2
      cases cnd
      · exact lv_if_eq hx hb hd h2 (fun q => hj (hE2.1 ((k_eq v1 k_inR0).mp (by rw [k_zero]; exact q)))) (fun q => hn (hE2.2 (fun z => q (by rw [← k_zero]; exact (k_eq v1 k_inR0).mpr z))))
      · exact lv_if_ne hx hb hd h2 (fun q => hj (hE2.1 (fun z => q (by rw [← k_zero]; exact (k_eq v1 k_inR0).mpr z)))) (fun q => hn (hE2.2 ((k_eq v1 k_inR0).mp (by rw [k_zero]; exact q))))
      · exact lv_if_lt hx hb hd h2 (fun q => hj (hE2.1 ((k_lt v1 k_inR0).mp (by rw [k_zero]; exact q)))) (fun q => hn (hE2.2 (Int.not_lt.mp (fun z => q (by rw [← k_zero]; exact (k_lt v1 k_inR0).mpr z)))))
      · exact lv_if_ge hx hb hd h2 (fun q => hj (hE2.1 ((k_le k_inR0 v1).mp (by rw [k_zero]; exact q)))) (fun q => hn (hE2.2 (Int.not_le.mp (fun z => q (by rw [← k_zero]; exact (k_le k_inR0 v1).mpr z)))))
      · exact lv_if_gt hx hb hd h2 (fun q => hj (hE2.1 ((k_lt k_inR0 v1).mp (by rw [k_zero]; exact q)))) (fun q => hn (hE2.2 (Int.not_lt.mp (fun z => q (by rw [← k_zero]; exact (k_lt k_inR0 v1).mpr z)))))
      · exact lv_if_le hx hb hd h2 (fun q => hj (hE2.1 ((k_le v1 k_inR0).mp (by rw [k_zero]; exact q)))) (fun q => hn (hE2.2 (Int.not_le.mp (fun z => q (by rw [← k_zero]; exact (k_le v1 k_inR0).mpr z)))))
    case if_icmp cnd f =>
      obtain ⟨b, r', rfl, hE1⟩ := k_1_spec hE
      obtain ⟨a, z, S', rfl, hE2⟩ := k_bin_spec hE1
      simp only [k_okI, Bool.and_eq_true] at hI
      obtain ⟨hd, rfl⟩ := k_dc_spec hI.1
      obtain ⟨t, h1, h2⟩ := k_tg_spec hI.2
      intro H locs ls hH hS hL hV
      obtain ⟨v1, v2⟩ := k_kV_tail hV
      obtain ⟨v3, v4⟩ := k_kV_tail v2
      have v1 : inR z := v1
      have v3 : inR a := v3
      have hj : J b L S' m → W p E.1 e R s mm args below meth c H locs cells slots Qf (F0 mm t ls (S'.map (rv ad))) := fun q => by
        have := hJ b L S' m q
        rw [k_pc_of h1] at this
        exact this H locs ls hH hS hL v4
      have hn : k_exec E.2.2.2.1 E.2.2.2.2 J (kCall E h) T r L S' m → W p E.1 e R s mm args below meth c H locs cells slots Qf (F0 mm (pc + 3) ls (S'.map (rv ad))) := fun q => ih _ _ _ _ hr q H locs ls hH hS hL v4
      cases cnd
      · exact lv_icmp_eq hx hb hd h2 (fun q => hj (hE2.1 ((k_eq v3 v1).mp q))) (fun q => hn (hE2.2 (fun w => q ((k_eq v3 v1).mpr w))))
      · exact lv_icmp_ne hx hb hd h2 (fun q => hj (hE2.1 (fun w => q ((k_eq v3 v1).mpr w)))) (fun q => hn (hE2.2 ((k_eq v3 v1).mp q)))
      · exact lv_icmp_lt hx hb hd h2 (fun q => hj (hE2.1 ((k_lt v3 v1).mp q))) (fun q => hn (hE2.2 (Int.not_lt.mp (fun w => q ((k_lt v3 v1).mpr w)))))
      · exact lv_icmp_ge hx hb hd h2 (fun q => hj (hE2.1 ((k_le v1 v3).mp q))) (fun q => hn (hE2.2 (Int.not_le.mp (fun w => q ((k_le v1 v3).mpr w)))))
      · exact lv_icmp_gt hx hb hd h2 (fun q => hj (hE2.1 ((k_lt v1 v3).mp q))) (fun q => hn (hE2.2 (Int.not_lt.mp (fun w => q ((k_lt v1 v3).mpr w)))))
      · exact lv_icmp_le hx hb hd h2 (fun q => hj (hE2.1 ((k_le v3 v1).mp q))) (fun q => hn (hE2.2 (Int.not_le.mp (fun w => q ((k_le v3 v1).mpr w)))))
    case tableswitch d lo hi fs =>
      match x, hE, hI with
      | b :: bs, hE, hI =>
        obtain ⟨v, S', rfl, hE1⟩ := k_un_spec hE
        simp only [k_okI, Bool.and_eq_true, decide_eq_true_eq] at hI
        obtain ⟨hd, -⟩ := k_dc_spec hI.1
        obtain ⟨hI1, hI2, hI3⟩ := hI.2
        intro H locs ls hH hS hL hV
        obtain ⟨v1, v2⟩ := k_kV_tail hV
        have v1 : inR v := v1
        have hj : ∀ (b t : Nat), (M.2.2.2.2.map (fun z => z.1))[b]? = some t → J b L S' m → W p E.1 e R s mm args below meth c H locs cells slots Qf (F0 mm t ls (S'.map (rv ad))) := fun b t h1 q => by
          have := hJ b L S' m q
          rw [k_pc_of h1] at this
          exact this H locs ls hH hS hL v2
        by_cases ho : v < lo ∨ hi < v
        · obtain ⟨t, h1, h2⟩ := k_tg_spec hI1
          exact lv_tableOut hx hb hd (by rw [k_toInt_in v1]; exact ho) h2 (hj b t h1 (hE1.1 ho))
        · obtain ⟨b', f', g1, g2, g3⟩ := k_cases_spec hE1.2 hI2 (by omega) (by omega)
          obtain ⟨t, h1, h2⟩ := k_tg_spec g2
          exact lv_tableIn hx hb hd (by rw [k_toInt_in v1]; omega) (by rw [k_toInt_in v1]; omega) (by rw [k_toInt_in v1, ← Array.getElem?_toList]; exact g1) h2 (hj b' t h1 g3)
    case invokevirtual j =>
      obtain ⟨n, na, ci, r', rfl, hE1⟩ := k_3_spec hE
      obtain ⟨xs, S', rfl, hlen, hE2⟩ := k_pop_spec hE1
      simp only [k_okI, Bool.and_eq_true, decide_eq_true_eq] at hI
      obtain ⟨hd, rfl⟩ := k_dc_spec hI.1
      obtain ⟨⟨hcl, hI1⟩, hI2⟩ := hI.2
      obtain ⟨q, hq, hz⟩ := k_any hI1
      obtain ⟨q2, hq2, hz2⟩ := k_any hI2
      simp only [Bool.and_eq_true] at hz hz2
      rw [List.append_nil] at hE2
      cases hrev : xs.reverse with
      | nil => rw [hrev] at hE2; exact hE2.elim
      | cons v ys =>
        rw [hrev] at hE2
        match v, hE2 with
        | .inr (.inl o), hE =>
          obtain ⟨rs, hG, hE3⟩ := k_obj_spec hE
          obtain ⟨hs, hE4⟩ := k_if_spec hE3
          have hxs : xs = ys.reverse ++ [.inr (.inl o)] := by
            have := congrArg List.reverse hrev
            simpa using this
          subst hxs
          rw [List.append_assoc]
          exact k_stepV hX hd hcl ⟨q, hq, Nat.eq_of_beq_eq_true hz.1, Nat.eq_of_beq_eq_true hz.2.1, Nat.eq_of_beq_eq_true hz.2.2.1, Nat.eq_of_beq_eq_true hz.2.2.2⟩ ⟨q2, hq2, Nat.eq_of_beq_eq_true hz2.1, Nat.eq_of_beq_eq_true hz2.2.1, by simpa using hz2.2.2⟩ hG (by simpa using hlen) (Nat.le_of_ble_eq_true hs) hE4 (fun r m' hq => ih _ _ _ _ hr hq)
    case invokestatic j =>
      match x, hE, hI with
      | [], hE, hI =>
        simp only [k_okI, Bool.and_eq_true] at hI
        obtain ⟨hd, rfl⟩ := k_dc_spec hI.1
        obtain ⟨q, hq, hz⟩ := k_any hI.2
        simp only [Bool.and_eq_true] at hz
        match S, hE with
        | .inl n :: .inl dp :: .inr (.inl d) :: .inl sp :: .inr (.inl a) :: S, hE =>
          obtain ⟨na, hGa, hE1⟩ := k_wr_spec hE
          obtain ⟨nd, hGd, hz2, hE2⟩ := k_wr_spec hE1
          obtain ⟨hs, hE3⟩ := k_if_spec hE2
          exact k_stepCopy hX hd ⟨q, hq, Nat.eq_of_beq_eq_true hz.1, Nat.eq_of_beq_eq_true hz.2⟩ hGa hGd hz2 (Nat.le_of_ble_eq_true hs) (ih _ _ _ _ hr hE3)
      | [k], hE, hI =>
        simp only [k_okI, Bool.and_eq_true] at hI
        obtain ⟨hd, rfl⟩ := k_dc_spec hI.1
        obtain ⟨⟨qo, qi, qk, qp⟩, hq, hz⟩ := k_any hI.2
        simp only [Bool.and_eq_true] at hz
        have e1 := Nat.eq_of_beq_eq_true hz.1
        have e2 := Nat.eq_of_beq_eq_true hz.2.1
        have e3 := Nat.eq_of_beq_eq_true hz.2.2
        subst e1 e2 e3
        have hk := k_XR_ok _ hq
        simp only [k_xchk] at hk
        match qk, hk, hE with
        | 0, hk, hE =>
          obtain ⟨a, b, S', rfl, hE1⟩ := k_bin_spec hE
          obtain ⟨hs, hE2⟩ := k_if_spec hE1
          intro H locs ls hH hS hL hV
          obtain ⟨v1, v2⟩ := k_kV_tail hV
          obtain ⟨v3, v4⟩ := k_kV_tail v2
          have v1 : inR b := v1
          have v3 : inR a := v3
          refine va_mmax hx hb (by rw [hml]; exact hL.1.1.symm) hown (hts _ (k_at_in hk)) (hts _ k_xmax.1) (hts _ k_xmax.2.1) (hts _ k_xmax.2.2) (by omega) (by rw [k_sum_cat v4]; have := Nat.le_of_ble_eq_true hs; omega) hce hsl hd ?_
          have hm : (if Int32.ofInt a < Int32.ofInt b then Int32.ofInt b else Int32.ofInt a) = Int32.ofInt (max a b) := by
            by_cases hab : a < b
            · rw [if_pos ((k_lt v3 v1).mpr hab), show max a b = b by omega]
            · rw [if_neg (fun z => hab ((k_lt v3 v1).mp z)), show max a b = a by omega]
          rw [hm]
          exact ih _ _ _ _ hr hE2 H locs ls hH hS hL (k_kV_cons (show inR (max a b) by obtain ⟨_, _⟩ := v1; obtain ⟨_, _⟩ := v3; constructor <;> omega) v4)
        | 1, hk, hE =>
          obtain ⟨a, b, S', rfl, hE1⟩ := k_bin_spec hE
          obtain ⟨hs, hE2⟩ := k_if_spec hE1
          intro H locs ls hH hS hL hV
          obtain ⟨v1, v2⟩ := k_kV_tail hV
          obtain ⟨v3, v4⟩ := k_kV_tail v2
          have v1 : inR b := v1
          have v3 : inR a := v3
          refine va_mmin hx hb (by rw [hml]; exact hL.1.1.symm) hown (hts _ (k_at_in hk)) (hts _ k_xmin.1) (hts _ k_xmin.2.1) (hts _ k_xmin.2.2) (by omega) (by rw [k_sum_cat v4]; have := Nat.le_of_ble_eq_true hs; omega) hce hsl hd ?_
          have hm : (if Int32.ofInt b < Int32.ofInt a then Int32.ofInt b else Int32.ofInt a) = Int32.ofInt (min a b) := by
            by_cases hab : b < a
            · rw [if_pos ((k_lt v1 v3).mpr hab), show min a b = b by omega]
            · rw [if_neg (fun z => hab ((k_lt v1 v3).mp z)), show min a b = a by omega]
          rw [hm]
          exact ih _ _ _ _ hr hE2 H locs ls hH hS hL (k_kV_cons (show inR (min a b) by obtain ⟨_, _⟩ := v1; obtain ⟨_, _⟩ := v3; constructor <;> omega) v4)
        | 2, hk, hE =>
          obtain ⟨a, S', rfl, hE1⟩ := k_un_spec hE
          obtain ⟨hn, hE3⟩ := hE1
          obtain ⟨hs, hE2⟩ := k_if_spec hE3
          intro H locs ls hH hS hL hV
          obtain ⟨v1, v4⟩ := k_kV_tail hV
          have v1 : inR a := v1
          refine va_mabs hx hb (by rw [hml]; exact hL.1.1.symm) hown (hts _ (k_at_in hk)) (hts _ k_xabs.1) (hts _ k_xabs.2.1) (hts _ k_xabs.2.2) (by omega) (by rw [k_sum_cat v4]; have := Nat.le_of_ble_eq_true hs; omega) hce hsl hd ?_
          have hm : (if 0 ≤ Int32.ofInt a then Int32.ofInt a else 0 - Int32.ofInt a) = Int32.ofInt (max a (-a)) := by
            rw [← k_zero]
            by_cases hab : 0 ≤ a
            · rw [if_pos ((k_le k_inR0 v1).mpr hab), show max a (-a) = a by omega]
            · rw [if_neg (fun z => hab ((k_le k_inR0 v1).mp z)), ← Int32.ofInt_sub, show max a (-a) = 0 - a by omega]
          rw [hm]
          exact ih _ _ _ _ hr hE2 H locs ls hH hS hL (k_kV_cons (show inR (max a (-a)) by obtain ⟨_, _⟩ := v1; obtain ⟨_, _⟩ := hn; constructor <;> omega) v4)
        | k + 3, hk, hE =>
          exact hE.elim
      | n :: na :: xr, hE, hI =>
        have hE4 : k_pop na S [] (fun as S => k_if (Nat.ble (S.map k_cat).sum 8) (kCall E h n as m (fun rr m' => k_exec E.2.2.2.1 E.2.2.2.2 J (kCall E h) T r L (k_push rr S) m'))) := hE
        obtain ⟨xs, S', rfl, hlen, hE5⟩ := k_pop_spec hE4
        obtain ⟨hs, hE6⟩ := k_if_spec hE5
        simp only [k_okI, Bool.and_eq_true] at hI
        obtain ⟨hd, rfl⟩ := k_dc_spec hI.1
        obtain ⟨q, hq, hz⟩ := k_any hI.2.1
        obtain ⟨q2, hq2, hz2⟩ := k_any hI.2.2
        simp only [Bool.and_eq_true] at hz hz2
        rw [List.append_nil] at hE6
        have := k_stepS (xs := xs.reverse) (S' := S') (L := L) hX hd ⟨q, hq, Nat.eq_of_beq_eq_true hz.1, Nat.eq_of_beq_eq_true hz.2.1, Nat.eq_of_beq_eq_true hz.2.2.1, Nat.eq_of_beq_eq_true hz.2.2.2⟩ ⟨q2, hq2, Nat.eq_of_beq_eq_true hz2.1, Nat.eq_of_beq_eq_true hz2.2⟩ (by simpa using hlen) (Nat.le_of_ble_eq_true hs) hE6 (fun r m' hq => ih _ _ _ _ hr hq)
        rw [List.reverse_reverse] at this
        exact this
    case ireturn =>
      obtain ⟨hd, rfl⟩ := k_dc_spec hI
      obtain ⟨a, S', rfl, hE1⟩ := k_un_spec hE
      match S', hE1 with
      | [], hE =>
        intro H locs ls hH hS hL hV
        obtain ⟨v1, v2⟩ := k_kV_tail hV
        exact hret (some (.inl a)) m H locs ls pc hE hH hS ⟨v1, hd⟩
    case return_ =>
      obtain ⟨hd, rfl⟩ := k_dc_spec hI
      match S, hE with
      | [], hE =>
        intro H locs ls hH hS hL hV
        exact hret none m H locs ls pc hE hH hS hd
    all_goals exact hE.elim
end KS
