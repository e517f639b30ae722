/-! rules for the law's body -/
abbrev bX (X : Xv) : Bs := (X.1, X.2.1, X.2.2.1, RO0 X.2.2.2.2.2.1 X.2.2.2.2.2.2)
theorem c_L_cell (B : Bs) (G : Gr) (len : Nat) (xs : Int → Int) (hB : B.2.2.2 = RO0 len xs) (m : Mem) (k : Int) (h0 : 0 ≤ k) : kCall (bE B G) 1 M_L_cell.1 [vR 1005, vI k] m (cP (if k < (len : Int) then xs k else 0) m) := by
  refine kCall_of ok_L_cell rfl (Nat.le_of_ble_eq_true rfl) ?_
  refine kW_go ok_L_cell [] 10 ?_
  show k_go G B.2.2.2 _ _ _ _ _ _ _ _ _ _
  rw [hB]
  refine And.intro (fun h1 => ?_) (fun h1 => ⟨⟨h0, ?_⟩, ?_⟩)
  · have h1 : (len : Int) ≤ k := h1
    rw [if_neg (by omega)]
    exact ⟨rfl, rfl⟩
  · exact h1
  · have h1 : k < (len : Int) := h1
    rw [if_pos h1]
    exact ⟨rfl, rfl⟩
section LW
variable {B : Bs} {h : Nat} {M : Md} {p : Program} {e : Env} {R : Room} {s : State} {mm : MethodId} {args : Array Value} {below : List Frame} {meth : Method} {c : Code} {cells slots : Nat} {Qf : State → Prop} {ad0 : Nat → Nat} {n0 : Nat} {A : Nat → Prop} {G : Gr}
def okBs (M : Md) : Prop := (M.2.2.2.2.all (fun q => k_okB M.2.1 (M.2.2.2.2.map (fun z => z.1)) (MT M.1).2.1 q.1 q.2)) = true
theorem c_widen {cells' slots' pc : Nat} {L : KL} {S : List AV} {m : Mem} (h1 : cells ≤ cells') (h2 : slots ≤ slots') (kk : cW B M p e R s mm args below meth c cells' slots' Qf ad0 n0 A G pc L S m) : cW B M p e R s mm args below meth c cells slots Qf ad0 n0 A G pc L S m :=
  fun ad he hl hw H locs ls hH hS hL hV => W.widen h1 h2 (kk ad he hl hw H locs ls hH hS hL hV)
theorem l_blk_sound (hM : okBs M) (hX : cX B h M p R s mm args meth c ad0 n0 A) (hce : cells ≤ R.cells) (hsl : slots ≤ R.slots) {cuts : List Nat} :
    ∀ (f b : Nat) (L : KL) (S : List AV) (m : Mem), k_blk G B.2.2.2 (kCall (bE B G) h) (fun _ _ => False) M.2.2.2.2 cuts (fun b L S m => cW B M p e R s mm args below meth c cells slots Qf ad0 n0 A G (k_pc M b) L S m) f b L S m → cW B M p e R s mm args below meth c cells slots Qf ad0 n0 A G (k_pc M b) L S m := by
  intro f
  induction f with
  | zero => intro b L S m hB; exact hB.elim
  | succ f ih =>
    intro b L S m hB
    unfold k_blk at hB
    split at hB
    · exact hB
    · split at hB
      · rename_i q hq
        have hk : k_pc M b = q.1 := by unfold k_pc; rw [List.getD_eq_getElem?_getD, hq]; rfl
        rw [hk]
        intro ad he hl hw
        exact k_sound (E := bE B G) (cX_kX hX he hl hce hsl) (fun b L S m hq => ih b L S m hq ad he hl hw) q.2 q.1 L S m (List.all_eq_true.mp hM q (List.mem_of_getElem? hq)) hB
      · exact hB.elim
theorem l_go (hX : cX B h M p R s mm args meth c ad0 n0 A) (hM : okBs M) (hce : cells ≤ R.cells) (hsl : slots ≤ R.slots) (cuts : List Nat) (f b : Nat) {L : KL} {S : List AV} {m : Mem}
    (H : k_go G B.2.2.2 (kCall (bE B G) h) (fun _ _ => False) M.2.2.2.2 cuts (fun b L S m => cW B M p e R s mm args below meth c cells slots Qf ad0 n0 A G (k_pc M b) L S m) f b L S m) : cW B M p e R s mm args below meth c cells slots Qf ad0 n0 A G (k_pc M b) L S m := by
  unfold k_go at H
  split at H
  · rename_i q hq
    have hk : k_pc M b = q.1 := by unfold k_pc; rw [List.getD_eq_getElem?_getD, hq]; rfl
    rw [hk]
    intro ad he hl hw
    exact k_sound (E := bE B G) (cX_kX hX he hl hce hsl) (fun b L S m hq => l_blk_sound hM hX hce hsl f b L S m hq ad he hl hw) q.2 q.1 L S m (List.all_eq_true.mp hM q (List.mem_of_getElem? hq)) H
  · exact H.elim
theorem l_seg (hX : cX B h M p R s mm args meth c ad0 n0 A) (hM : okBs M) (hce : cells ≤ R.cells) (hsl : slots ≤ R.slots) (b : Nat) {b1 : Nat} {L L1 : KL} {S S1 : List AV} {m m1 : Mem}
    (H : ∃ q, M.2.2.2.2[b]? = some q ∧ k_exec G B.2.2.2 (fun b L S m => b = b1 ∧ L = L1 ∧ S = S1 ∧ m = m1) (kCall (bE B G) h) (fun _ _ => False) q.2 L S m)
    (kk : cW B M p e R s mm args below meth c cells slots Qf ad0 n0 A G (k_pc M b1) L1 S1 m1) : cW B M p e R s mm args below meth c cells slots Qf ad0 n0 A G (k_pc M b) L S m := by
  obtain ⟨q, hq, hE⟩ := H
  have hk : k_pc M b = q.1 := by unfold k_pc; rw [List.getD_eq_getElem?_getD, hq]; rfl
  rw [hk]
  intro ad he hl hw
  exact k_sound (E := bE B G) (cX_kX hX he hl hce hsl) (fun b L S m hz => by obtain ⟨rfl, rfl, rfl, rfl⟩ := hz; exact kk ad he hl hw) q.2 q.1 L S m (List.all_eq_true.mp hM q (List.mem_of_getElem? hq)) hE
end LW
section LW2
variable {X : Xv} {h : Nat} {M : Md} {p : Program} {e : Env} {R : Room} {s : State} {mm : MethodId} {args : Array Value} {below : List Frame} {meth : Method} {c : Code} {cells slots : Nat} {Qf : State → Prop} {ad0 : Nat → Nat} {n0 : Nat} {A : Nat → Prop}
set_option maxHeartbeats 4000000 in
set_option maxRecDepth 100000 in
/-- the law calls its told -/
theorem c_toldL (hX : cX (bX X) h M p R s mm args meth c ad0 n0 A) (hM2 : M.2.1 = 13) (hl : X.1.stackTraces = false) (hEx : kEx A s s.heap) {pc : Nat} {k j : Int} {L : KL} {S' : List AV} {m : Mem} (hk : inR k) (hj : inR j) (hso : 0 ≤ m 9 13 ∧ m 9 13 ≤ 6)
    (hd : decode (MT M.1).2.1 pc = .ok (.invokestatic 46, 3)) (hsum : Nat.ble (S'.map k_cat).sum 8 = true) (hh : 20 ≤ h) (hc1 : cells + 1 ≤ R.cells) (hs1 : slots + 6 ≤ R.slots)
    (kk : ∀ (r : Int) (m' : Mem), (tdOk m k j ∧ r = 0 ∧ m' = mset m 92 0 (m 10 (k * 5 + j))) ∨ (¬ tdOk m k j ∧ r = 1 ∧ m' = m) → cW (bX X) M p e R s mm args below meth c (cells + 1) (slots + 6) Qf ad0 n0 A (G0 (nC X) (nL X)) (pc + 3) L (vI r :: S') m') :
    cW (bX X) M p e R s mm args below meth c cells slots Qf ad0 n0 A (G0 (nC X) (nL X)) pc L (vR 92 :: vI j :: vI k :: vR 0 :: S') m := by
  intro ad he hlen2 hw H locs ls hH hS hL hV
  have hAo := cX_A hX he
  obtain ⟨hx, hb, hml, hown, hts, hfr, hlo, hK, hRo, h10, hA⟩ := hX
  have hVS : ∀ v ∈ S', kV v := fun v hv => hV v (by simp [hv])
  have hAd : ∀ q, kAd (eX X) ad q → A q := by rintro q ⟨o, h1, rfl⟩; exact hAo o h1
  rw [hM2] at hown
  have hcs : vx_CSW R s args "CopperBoardLaw" 46 yL_told cL_told 5 (some .int) [(0, 10, 13, 13)] (tcw :: TT) { frames := 9, cells := 1, slots := 6, locals := 400 } 1 6 4 := by
    have hG : GoodIn TT (tcw :: TT) := by
      intro w hw
      rcases List.mem_cons.mp hw with rfl | hw
      · exact ⟨k_at_in tcw_in, good_of_word (TT_good (k_at_in tcw_in))⟩
      · exact ⟨hw, good_of_word (TT_good hw)⟩
    refine ⟨⟨rfl, rfl, by show 9 + 1 ≤ R.frames; omega, by show 8 + (5 + 11) + 400 ≤ R.locals; omega, pay_in hts hG, List.mem_cons_self⟩, hts _ (k_at_in tcw_in), hts _ (k_at_in (p := 140) (by decide +kernel)), ⟨by decide, by decide⟩, fun sig h => ?_, hts _ (k_at_in (p := 1429) (by decide +kernel)), hts _ (k_at_in (p := 1430) (by decide +kernel))⟩
    have h2 : (parseMethodDescriptor yL_told.desc).map (fun d => d.parameters.length) = some 4 := by decide +kernel
    rw [h] at h2
    exact (Option.some.inj h2).symm
  have hrun := vx_runSW (As := [.ref (ad 0), .int (Int32.ofInt k), .int (Int32.ofInt j), .ref (ad 92)]) (rest := S'.map (rv ad)) (g := F0 mm pc ls ((vR 92 :: vI j :: vI k :: vR 0 :: S').map (rv ad))) (H := H) (locs := locs) (cells := cells) (slots := slots) (p := p) (l := X.1) (e := e) (below := below) (meth := meth) ⟨hx, hb, hml, hown, hts⟩ (c_ltold X hl m k j hk hj hso ad) hcs
    ⟨kEP_blind, fun U hU hW => ⟨rfl, by rw [hU]; exact kHp_self (E := eX X) hH, va_K.moved hW.alike hK, kRo_move (E := eX X) (kRo_ad (B := bX X) (G' := G0 (nC X) (nL X)) hRo he.2.1) hS hU hW hAd, hlen2, kEx_move hEx hS hU hW hAd⟩⟩
    rfl rfl hL.1.1 rfl (lv_room (by rw [k_sum_cat hVS]; exact Nat.le_of_ble_eq_true hsum)) hd ⟨hc1, hs1⟩
  intro T hT Xs
  obtain ⟨v, st₀, t, T', Lc, h0, X', hLc, e1, e2, ⟨⟨r, m', hv, hq2, hp⟩, hz, hk2⟩, stp⟩ := hrun T hT Xs
  have hv' : v = some (.int (Int32.ofInt r)) := by injection hv
  subst hv'
  rw [h0] at hz hk2
  have hsz : s.heap.size ≤ H.size := hS.1
  have hr : inR r := by
    rcases hq2 with ⟨-, rfl, -⟩ | ⟨-, rfl, -⟩ <;> constructor <;> omega
  have hloc : ∀ q ∈ locs ++ Lc, A q.base := by
    intro q hq
    rcases List.mem_append.mp hq with h | h
    · exact hS.2.2 q h
    · exact hAd _ (hLc q h)
  obtain ⟨t2, a1, b1⟩ := kk r m' hq2 ad he hlen2 hw T'.heap (locs ++ Lc) ls (kHp_up (E := eX X) (by rw [e1]; exact hp) hAd)
    ⟨Nat.le_trans hsz (by rw [e1]; exact hz), fun q g1 g2 => by rw [e1, hk2 q (Nat.lt_of_lt_of_le g1 hsz) (fun z => g2 (hAd q z))]; exact hS.2.1 q g1 g2, hloc⟩ hL (k_kV_cons hr hVS) T' rfl X'
  exact ⟨t2, stp t2 a1, b1⟩
/-- out[0] against the other's answer: alike -/
theorem c_lsame (hX : cX (bX X) h M p R s mm args meth c ad0 n0 A) {pc : Nat} {x0 x1 x2 x3 x4 x5 : Option AV} {b : Int} {m : Mem} (hm : m 92 0 = b)
    (d0 : decode (MT M.1).2.1 pc = .ok (.laload, 1)) (d1 : decode (MT M.1).2.1 (pc + 1) = .ok (.iload 6, 2)) (d3 : decode (MT M.1).2.1 (pc + 3) = .ok (.i2l, 1)) (d4 : decode (MT M.1).2.1 (pc + 4) = .ok (.lcmp, 1))
    (kk : cW (bX X) M p e R s mm args below meth c cells slots Qf ad0 n0 A (G0 (nC X) (nL X)) (pc + 5) [x0, x1, x2, x3, x4, x5, some (vI b)] [vI 0] m) :
    cW (bX X) M p e R s mm args below meth c cells slots Qf ad0 n0 A (G0 (nC X) (nL X)) pc [x0, x1, x2, x3, x4, x5, some (vI b)] [vI 0, vR 92] m := by
  intro ad he hlen2 hw H locs ls hH hS hL hV
  obtain ⟨hx, hb, hml, hown, hts, hfr, hlo, hK, hRo, h10, hA⟩ := hX
  have hG92 : (G0 (nC X) (nL X))[92]? = some (.inr (2, 1)) := rfl
  have he92 := k_wl_at (cA := (bX X).2.2.1) (ad := ad) (m := m) hG92
  unfold k_ent at he92
  have hbr : inR b := by rw [← hm]; exact hH.2.2 92 0
  obtain ⟨g1, g2⟩ := kLs_get (k := 6) hL rfl
  refine va_lald hx hb hK hH.1 92 2 he92 rfl (fun h => by rcases h with h | h <;> revert h <;> decide) d0 ?_
  refine lv_iload hx hb d1 g1 ?_
  refine lv_i2l hx hb d3 (k_i2l hbr) ?_
  refine W.lcmp hx hb d4 ?_
  have hz : lg_cmp (Int64.ofInt (m 92 ((((0 : Int32).toNatClampNeg : Nat)) : Int))) (Int64.ofInt b) = 0 := by
    rw [show ((((0 : Int32).toNatClampNeg : Nat)) : Int) = 0 by decide, hm]
    simp [lg_cmp]
  have := kk ad he hlen2 hw H locs ls hH hS hL (k_kV_cons k_inR0 (fun v hv => by cases hv))
  show W p X.1 e R s mm args below meth c H locs cells slots Qf (F0 mm (pc + 5) ls [.int (lg_cmp (Int64.ofInt (m 92 ((((0 : Int32).toNatClampNeg : Nat)) : Int))) (Int64.ofInt b))])
  rw [hz]
  exact this
end LW2
