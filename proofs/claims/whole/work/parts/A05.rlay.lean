/-! the reference lays a net -/
section CF
variable {w d l mv : Int} {F F' J : Int → Prop} {cs : Int → Int → Int} {be : Int}
theorem row_cF (h : ∀ y, inC w d l y → (F y ↔ F' y)) : ∀ {ks : List Int} {x dir C : Int}, inC w d l x → (row w d l mv F J cs be ks x dir C ↔ row w d l mv F' J cs be ks x dir C)
  | [], _, _, _, _ => Iff.rfl
  | k :: ks, x, dir, C, hx => by
    constructor
    · rintro ⟨a, b, e, f, g⟩
      exact ⟨a, (h x hx).mp b, e, f, (row_cF h (nx_in f).1).mp g⟩
    · rintro ⟨a, b, e, f, g⟩
      exact ⟨a, (h x hx).mpr b, e, f, (row_cF h (nx_in f).1).mpr g⟩
theorem Ls_cF (h : ∀ y, inC w d l y → (F y ↔ F' y)) {x dir C : Int} {q : Nat} (hx : inC w d l x) : Ls w d l mv F J cs be x dir C q ↔ Ls w d l mv F' J cs be x dir C q := by
  unfold Ls
  constructor
  · rintro ⟨⟨ks, e, r⟩, hm⟩
    exact ⟨⟨ks, e, (row_cF h hx).mp r⟩, fun ks' C' r' => hm ks' C' ((row_cF h hx).mpr r')⟩
  · rintro ⟨⟨ks, e, r⟩, hm⟩
    exact ⟨⟨ks, e, (row_cF h hx).mpr r⟩, fun ks' C' r' => hm ks' C' ((row_cF h hx).mp r')⟩
theorem lds_cF (h : ∀ y, inC w d l y → (F y ↔ F' y)) {x dir k : Int} (hx : inC w d l x) : lds w d l mv F J cs be x dir k ↔ lds w d l mv F' J cs be x dir k := by
  unfold lds
  constructor
  · rintro ⟨a, b, C, n, C', n', e, f, g⟩
    exact ⟨a, b, C, n, C', n', (Ls_cF h hx).mp e, (Ls_cF h (nx_in b).1).mp f, g⟩
  · rintro ⟨a, b, C, n, C', n', e, f, g⟩
    exact ⟨a, b, C, n, C', n', (Ls_cF h hx).mpr e, (Ls_cF h (nx_in b).1).mpr f, g⟩
theorem pth_cF (h : ∀ y, inC w d l y → (F y ↔ F' y)) : ∀ {ks : List Int} {x dir : Int}, inC w d l x → (pth w d l mv F J cs be ks x dir ↔ pth w d l mv F' J cs be ks x dir)
  | [], _, _, _ => Iff.rfl
  | k :: ks, x, dir, hx => by
    constructor
    · rintro ⟨a, b, e, f⟩
      exact ⟨a, (lds_cF h hx).mp b, fun j j0 j1 z => e j j0 j1 ((lds_cF h hx).mpr z), (pth_cF h (nx_in b.2.1).1).mp f⟩
    · rintro ⟨a, b, e, f⟩
      exact ⟨a, (lds_cF h hx).mpr b, fun j j0 j1 z => e j j0 j1 ((lds_cF h hx).mp z), (pth_cF h (nx_in b.2.1).1).mpr f⟩
end CF
theorem RR0_ref {w d l : Int} {c r r' : Mem} (h : ∀ o, 54 ≤ o → o ≤ 72 ∨ o = 88 → r' o = r o) (hw : RR0 w d l c r) : RR0 w d l c r' := by
  have e : ∀ o, 54 ≤ o → o ≤ 72 → r' o = r o := fun o h1 h2 => h o h1 (Or.inl h2)
  unfold RR0 RRs RRn dimM fld at hw ⊢
  rw [e 54 (by decide) (by decide), e 55 (by decide) (by decide), e 56 (by decide) (by decide), e 57 (by decide) (by decide), e 58 (by decide) (by decide), e 59 (by decide) (by decide), e 60 (by decide) (by decide), e 61 (by decide) (by decide), e 62 (by decide) (by decide), e 63 (by decide) (by decide), e 64 (by decide) (by decide), e 65 (by decide) (by decide), e 66 (by decide) (by decide), e 67 (by decide) (by decide), e 68 (by decide) (by decide), e 69 (by decide) (by decide), e 70 (by decide) (by decide), e 71 (by decide) (by decide), e 72 (by decide) (by decide), h 88 (by decide) (Or.inr rfl)]
  exact hw
theorem RWf_rsm {w d l mv st vi be : Int} {ex : Int → Int} {n n' : Int} {m m' : Mem} (h : RWf w d l mv st vi be ex n m) (hr : rsm n' m m') : RWf w d l mv st vi be ex n m' := by
  have e : ∀ o, 55 ≤ o → o ≤ 64 ∨ o = 81 → m' o = m o := fun o h1 h2 => hr.1 o (by omega) (by omega) (by omega) (by omega) (by omega) (by omega) (by omega) (by omega) (by omega) (by omega) (by omega)
  unfold RWf at h ⊢
  rw [hr.2.2.1 41 (by decide), e 56 (by decide) (by decide), e 57 (by decide) (by decide), e 58 (by decide) (by decide), e 61 (by decide) (by decide), e 81 (by decide) (by decide)]
  exact h
theorem cntT_rsm {n : Int} {m m' : Mem} (hr : rsm n m m') : cntT m' = cntT m := by
  funext o
  unfold cntT
  rw [hr.2.2.1 28 (by decide), hr.2.2.1 29 (by decide), hr.2.2.1 30 (by decide)]
/-- the state of classes, nets, pins, moves and copper -/
def WM (w d l : Int) (c : Mem) : Prop := WFs c ∧ WFp w d l c ∧ (∀ n : Int, (0 ≤ n ∧ n < 8) → WFn w d l c n) ∧ ∀ x : Int, inC w d l x → (0 ≤ c 16 x ∧ c 16 x < 256) ∧ (0 ≤ c 17 x ∧ c 17 x < 256)
theorem WM_t {w d l n : Int} {c c' : Mem} (h : WM w d l c) (ht : tsame w d l n c c') (hW : WFn w d l c' n) (h17 : ∀ x, inC w d l x → 0 ≤ c' 17 x ∧ c' 17 x < 256) : WM w d l c' := by
  obtain ⟨h1, h2, h3, h4⟩ := h
  refine ⟨WFs_c ht.1 h1, WFp_c ht.1 h2, fun n' hn' => ?_, fun x hx => ⟨by rw [ht.1 16 (by decide) (by decide)]; exact (h4 x hx).1, h17 x hx⟩⟩
  by_cases hne : n' = n
  · rw [hne]; exact hW
  · exact WFn_other hn' hne ht (h3 n' hn')
theorem WM_rmT {w d l n : Int} {c : Mem} (h : WM w d l c) (hn : 0 ≤ n ∧ n < 8) : WM w d l (rmT (w * d * l) n c) :=
  WM_t h (rmT_tsame hn (fun x hx => (h.2.2.2 x hx).2)) (rmT_WFn hn (h.2.2.1 n hn)) (fun x hx => rmT_17b hx (h.2.2.2 x hx).2)
set_option maxRecDepth 100000 in
set_option maxHeartbeats 2000000 in
theorem c_X12_layNet (X : Xv) (c m : Mem) {w d l mv st vi be : Int} {ex : Int → Int} {n : Int} (hD : okD w d l) (hM : WM w d l c) (hR : RR0 w d l c m) (hn : 0 ≤ n ∧ n < c 9 14) (hRW : RWf w d l mv st vi be ex n m) (hqn : cntT m n) : kCall (eX X) 8 M_X12_layNet.1 [vR 54, vI n] m (fun r m' => (c 13 n = 0 ∧ r = some (vI (-1)) ∧ m' = m) ∨ (1 ≤ c 13 n ∧ ∃ (res : Option Int) (c' : Mem), LRw w d l (w * d * l) n mv (frT w d l (cntT m) (rmT (w * d * l) n c) n 0) (csF st vi ex) be (c 13 n - 1).toNat 1 (rmT (w * d * l) n c) 0 res c' ∧ r = some (vI (ansR res)) ∧ rsm n m m' ∧ tsame w d l n c c' ∧ WM w d l c' ∧ SVn w d l c m' n ∧ ((res = none ∧ RR0 w d l c m') ∨ (res ≠ none ∧ RR0 w d l c' m')))) := by
  obtain ⟨hWs, hWp, hWn, hWb⟩ := id hM
  have hn8 : 0 ≤ n ∧ n < 8 := by have := hWs.2.1; omega
  have hnb : 0 ≤ n ∧ n < ((8 : Nat) : Int) := hn8
  have hcs := RWf_cs hRW
  have hmv := RWf_mv hRW
  have hpins := hR.1.2.2.2.2.1 n hn8
  have e63 : m 63 n = c 13 n := hpins.2.1
  have hP4 := (hWp.1 n hn8).1
  refine kCall_ofT ok_X12_layNet rfl (Nat.le_of_ble_eq_true rfl) (fun T hT => ?_)
  by_cases hp0 : c 13 n = 0
  · refine kW_go ok_X12_layNet [] 20 ?_
    exact ⟨hnb, And.intro (fun h => absurd (show m 63 n = 0 from by rw [e63]; exact hp0) h) (fun _ => hT _ _ (Or.inl ⟨hp0, rfl, rfl⟩))⟩
  have hp1 : 1 ≤ c 13 n := by omega
  obtain ⟨P, hP⟩ : ∃ P, c 13 n = P := ⟨_, rfl⟩
  rw [hP] at hp1 hP4 e63 hpins
  obtain ⟨c1, hc1⟩ : ∃ c1, rmT (w * d * l) n c = c1 := ⟨_, rfl⟩
  have ht1 : tsame w d l n c c1 := by rw [← hc1]; exact rmT_tsame hn8 (fun x hx => (hWb x hx).2)
  have hM1 : WM w d l c1 := by rw [← hc1]; exact WM_rmT hM hn8
  have hrow1 : ∀ x, inC w d l x → c1 19 (n * (w * d * l) + x) = 0 := fun x hx => by rw [← hc1, rmT_row hx, if_pos rfl]
  have hb1 : ∀ x, inC w d l x → bt (c1 17 x) n.toNat = false := fun x hx => by
    cases hb : bt (c1 17 x) n.toNat with
    | false => rfl
    | true => exact absurd (hrow1 x hx) (((hM1.2.2.1 n hn8).1 x hx).2.2.1.mp hb)
  obtain ⟨F, hF⟩ : ∃ F, F = frT w d l (cntT m) c1 n 0 := ⟨_, rfl⟩
  rw [hP, hc1, ← hF] at hT
  have hpin : ∀ p : Int, (0 ≤ p ∧ p < P) → inC w d l (c 14 (n * 4 + p)) := fun p hp => hWp.2.1 n p hn8 (by rw [hP]; exact hp)
  have hpin0 : inC w d l (c 14 (n * 4)) := by have := hpin 0 (by omega); rwa [show n * 4 + 0 = n * 4 by omega] at this
  -- the pins, one by one
  have loop : ∀ (j : Nat) (p s : Int) (cj mj : Mem) (x4 : Option AV), p + j = P → 1 ≤ p → (0 ≤ s ∧ s ≤ (p - 1) * 200000) → RR0 w d l cj mj → tsame w d l n c cj → WM w d l cj → TJ w d l n cj → ownF w d l (w * d * l) n F cj → SVn w d l c mj n → rsm n m mj → (p = 1 → mj 68 n = 0) → (∀ x, inC w d l x → (F x ↔ frT w d l (cntT m) cj n 0 x)) →
      (∀ res cc, LRw w d l (w * d * l) n mv F (csF st vi ex) be j p cj s res cc → LRw w d l (w * d * l) n mv F (csF st vi ex) be (P - 1).toNat 1 c1 0 res cc) → kW (eX X) 7 M_X12_layNet T 2 [some (vR 54), some (vI n), some (vI s), some (vI p), x4] [] mj := by
    intro j
    induction j with
    | zero =>
      intro p s cj mj x4 hpj h1 hs hRj htj hMj hTJ hOj hSj hrj hp1' hFj hres
      have e63' : mj 63 n = P := by rw [hrj.1 63 (by decide) (by decide) (by decide) (by decide) (by decide) (by decide) (by decide) (by decide) (by decide) (by decide) (by decide)]; exact e63
      refine kW_go ok_X12_layNet [] 20 ?_
      refine ⟨hnb, And.intro (fun _ => hT _ _ (Or.inr ⟨hp1, some s, cj, hres _ _ ⟨rfl, rfl⟩, rfl, hrj, htj, hMj, hSj, Or.inr ⟨(by intro z; cases z), hRj⟩⟩)) (fun h => ?_)⟩
      have h : p < mj 63 n := h
      omega
    | succ j ih =>
      intro p s cj mj x4 hpj h1 hs hRj htj hMj hTJ hOj hSj hrj hp1' hFj hres
      have e63' : mj 63 n = P := by rw [hrj.1 63 (by decide) (by decide) (by decide) (by decide) (by decide) (by decide) (by decide) (by decide) (by decide) (by decide) (by decide)]; exact e63
      have e64 : mj 64 = m 64 := hrj.1 64 (by decide) (by decide) (by decide) (by decide) (by decide) (by decide) (by decide) (by decide) (by decide) (by decide) (by decide)
      have c14 : cj 14 = c 14 := htj.1 14 (by decide) (by decide)
      obtain ⟨x, hx⟩ : ∃ x, c 14 (n * 4 + p) = x := ⟨_, rfl⟩
      have hxi : inC w d l x := by rw [← hx]; exact hpin p (by omega)
      have hgx := (cR_geo hD hxi).1
      have hg0 := (cR_geo hD hpin0).1
      have hk := RRn_k.mp (hRj.2 n hn8)
      have hwle := okL_le hD hk.1.1.1
      have htle := okL_le hD hk.1.2.2.1.1
      have hw0 := hk.1.1.1.1
      have ht0 := hk.1.2.2.1.1.1
      have q0 : m 64 (4 * n) = cR w d (c 14 (n * 4)) := by have := hpins.2.2 0 (by omega); rwa [show 4 * n + 0 = 4 * n by omega, show n * 4 + 0 = n * 4 by omega] at this
      have qp : m 64 (4 * n + p) = cR w d x := by rw [← hx]; exact hpins.2.2 p (by omega)
      have hcx : cj 14 (n * 4 + p) = x := by rw [c14]; exact hx
      have hca : inC w d l (cj 14 (n * 4)) := by rw [c14]; exact hpin0
      have hi4 : 0 ≤ 4 * n ∧ 4 * n < ((32 : Nat) : Int) := by omega
      have hi4p : 0 ≤ 4 * n + p ∧ 4 * n + p < ((32 : Nat) : Int) := by omega
      refine kW_go ok_X12_layNet [3, 5] 20 ?_
      show (0 ≤ n ∧ n < ((8 : Nat) : Int)) ∧ (mj 63 n ≤ p → _) ∧ (p < mj 63 n → inR (4 * n) ∧ (0 ≤ 4 * n ∧ 4 * n < ((32 : Nat) : Int)) ∧ kCall (eX X) 7 M_X12_join.1 [vR 54, vI n, vI (mj 64 (4 * n))] mj _)
      rw [e63', e64, q0]
      refine ⟨hnb, fun h => absurd h (by omega), fun _ => ⟨by constructor <;> omega, hi4, ?_⟩⟩
      refine kCall_mono (c_X12_join X mj n (cR w d (c 14 (n * 4))) hn8 hg0 ⟨hw0, by omega⟩ ⟨ht0, by omega⟩ (fun i hi => ⟨(LT_val hD hk.1.1 hi).1, (LT_val hD hk.1.1 hi).2.1⟩) (fun i hi => ⟨(LT_val hD hk.1.2.2.1 hi).1, (LT_val hD hk.1.2.2.1 hi).2.1⟩)) (Nat.le_of_ble_eq_true rfl) ?_
      rintro _ m2 ⟨rfl, f2, h78⟩
      have hR2 : RR0 w d l cj m2 := RR0_ref (fun o h1 h2 => f2 o (by omega)) hRj
      have hr2 : rsm n m m2 := rsm_tr hrj ⟨fun o _ _ _ _ _ _ _ _ h _ _ => f2 o h, fun o ho => f2 o (by omega), fun i _ => by rw [f2 54 (by decide)], fun i _ => by rw [f2 68 (by decide)], fun i _ => by rw [f2 69 (by decide), f2 70 (by decide)]; exact ⟨rfl, rfl⟩, fun i _ => by rw [f2 72 (by decide)]⟩
      have hS2 : SVn w d l c m2 n := by unfold SVn at hSj ⊢; rw [f2 54 (by decide), f2 73 (by decide), f2 74 (by decide)]; exact hSj
      have e642 : m2 64 = m 64 := by rw [f2 64 (by decide)]; exact e64
      have hjo : ∀ y, inC w d l y → (m2 78 (cR w d y) ≠ 0 ↔ joi w d l (w * d * l) n cj y) := fun y hy => by
        rw [(h78 _ (cR_geo hD hy).1).2, ← c14]
        exact joi_R hD hk.1 hca hy
      have hi324 : 0 ≤ cR w d x ∧ cR w d x < ((324 : Nat) : Int) := hgx
      show inR (4 * n) ∧ inR (4 * n + p) ∧ (0 ≤ 4 * n + p ∧ 4 * n + p < ((32 : Nat) : Int)) ∧ (0 ≤ m2 64 (4 * n + p) ∧ m2 64 (4 * n + p) < ((324 : Nat) : Int)) ∧ (m2 78 (m2 64 (4 * n + p)) = 0 → kW (eX X) 7 M_X12_layNet T 3 [some (vR 54), some (vI n), some (vI s), some (vI p), x4] [] m2) ∧ (¬ m2 78 (m2 64 (4 * n + p)) = 0 → kW (eX X) 7 M_X12_layNet T 5 [some (vR 54), some (vI n), some (vI s), some (vI p), x4] [] m2)
      rw [e642, qp]
      refine ⟨by constructor <;> omega, by constructor <;> omega, hi4p, hi324, fun hj0 => ?_, fun hj1 => ?_⟩
      · -- a row must be laid
        have hnj : ¬ joi w d l (w * d * l) n cj x := fun z => (hjo x hxi).mpr z hj0
        have hWsj := hMj.1
        have hG2 := RR0_RelG hWsj hR2
        have hct : cntT m2 = cntT m := cntT_rsm hr2
        have hRW2 := RWf_rsm hRW hr2
        have hJF : ∀ y, joi w d l (w * d * l) n cj y → frT w d l (cntT m2) cj n 0 y := fun y hy => by
          rw [hct, ← hFj y (joi_in hca hy)]
          exact ownF_joi hca hOj hy
        have h682 : m2 68 n = mj 68 n := by rw [f2 68 (by decide)]
        refine kW_go ok_X12_layNet [4] 20 ?_
        show inR (4 * n) ∧ inR (4 * n + p) ∧ (0 ≤ 4 * n + p ∧ 4 * n + p < ((32 : Nat) : Int)) ∧ kCall (eX X) 7 M_X12_go.1 [vR 54, vI n, vI (m2 64 (4 * n + p))] m2 _
        rw [e642, qp]
        refine ⟨by constructor <;> omega, by constructor <;> omega, hi4p, ?_⟩
        refine kCall_mono (c_X12_go X cj m2 hD (WFs_srt hWsj) hG2 (by rw [htj.1 9 (by decide) (by decide)]; exact hn) hRW2 hjo hJF x hxi (by omega)) (Nat.le_of_ble_eq_true rfl) ?_
        have hcF : ∀ y, inC w d l y → (frT w d l (cntT m2) cj n 0 y ↔ F y) := fun y hy => by rw [hct]; exact (hFj y hy).symm
        rintro _ m3 (⟨hno, rfl, f3⟩ | ⟨C, q, ks, hL, hpth, rfl, hC, f3⟩)
        · -- it can't
          refine And.intro (fun h => absurd rfl h) (fun _ => ?_)
          have hR3 : RR0 w d l cj m3 := RR0_ref (fun o h1 h2 => f3 o (by omega) (by omega)) hR2
          have hS3 : SVn w d l c m3 n := by unfold SVn at hS2 ⊢; rw [f3 54 (by decide) (by decide), f3 73 (by decide) (by decide), f3 74 (by decide) (by decide)]; exact hS2
          refine kCall_mono (c_X12_putBackR X c cj m3 hD hn8 hR3 htj hS3 (hWn n hn8)) (Nat.le_of_ble_eq_true rfl) ?_
          rintro _ m4 ⟨rfl, hR4, hr4, e54, e73, e74⟩
          have hr3 : rsm n m2 m3 := ⟨fun o _ _ _ _ _ _ _ _ _ h h' => f3 o h h', fun o ho => f3 o (by omega) (by omega), fun i _ => by rw [f3 54 (by decide) (by decide)], fun i _ => by rw [f3 68 (by decide) (by decide)], fun i _ => by rw [f3 69 (by decide) (by decide), f3 70 (by decide) (by decide)]; exact ⟨rfl, rfl⟩, fun i _ => by rw [f3 72 (by decide) (by decide)]⟩
          refine hT _ _ (Or.inr ⟨hp1, none, cj, hres _ _ (Or.inr (Or.inl ⟨by rw [hcx]; exact hnj, fun ks C hr => ?_, rfl, rfl⟩)), rfl, rsm_tr (rsm_tr hr2 hr3) hr4, htj, hMj, by unfold SVn at hS3 ⊢; rw [e54, e73, e74]; exact hS3, Or.inl ⟨rfl, hR4⟩⟩)
          rw [hcx] at hr
          exact hno ks C ((row_cF hcF hxi).mpr hr)
        · -- it can
          refine And.intro (fun _ => ?_) (fun h => absurd h (by omega))
          have hL' := (Ls_cF hcF hxi).mp hL
          have hpth' := (pth_cF hcF hxi).mp hpth
          obtain ⟨hrow, hlen⟩ := pth_row hpth' hL'
          have hok := row_okm (by omega) hrow
          have hnd := Ls_nodup hcs.1 hcs.2 (by rw [hlen]; exact hL') hrow
          have hsh := Ls_short hcs.1 hcs.2 hD hxi hL'
          have hE := TJ_noE hTJ hrow
          have hk2 := RRn_k.mp (hR2.2 n hn8)
          obtain ⟨s1, s2, s3, s4, s5, s6, s7, s8⟩ := path_step hD hn8 ks x cj m2 hxi hok hnd hE hk2.1 (hMj.2.2.1 n hn8) (fun z hz => (hMj.2.2.2 z hz).2) (by rw [htj.1 9 (by decide) (by decide)]; exact hn.2) (by omega)
          obtain ⟨ck, hck⟩ : ∃ ck, adP w d l (w * d * l) n ks x cj = ck := ⟨_, rfl⟩
          obtain ⟨mk, hmk⟩ : ∃ mk, adR w d l n ks x m2 = mk := ⟨_, rfl⟩
          rw [hck] at s1 s2 s3 s4
          rw [hmk] at s1 s5 s6 s7 s8 f3
          have htk : tsame w d l n c ck := tsame_tr htj s4
          have hMk : WM w d l ck := WM_t hMj s4 s2 s3
          have hCH : CHn w d ck mk n := by
            have e13 : ck 13 n = P := by rw [htk.1 13 (by decide) (by decide)]; exact hP
            unfold CHn
            rw [e13]
            refine ⟨fun h => by omega, fun h2 => ?_⟩
            have hp1e : p = 1 := by omega
            have hz := hp1' hp1e
            rw [← h682] at hz
            rw [s6, hz, htk.1 14 (by decide) (by decide)]
            have hx1 : c 14 (n * 4 + 1) = x := by rw [← hx, hp1e]
            rw [hx1]
            rw [hz] at s7
            have g : ∀ i : Int, (0 ≤ i ∧ i < (ks.length : Int)) → mk 69 (2400 * n + i) = cR w d ((x :: vis w d l ks x).getD i.toNat 0) ∧ mk 70 (2400 * n + i) = cR w d ((x :: vis w d l ks x).getD (i.toNat + 1) 0) := by
              intro i hi
              have := s7 i.toNat (by omega)
              rw [Int.toNat_of_nonneg hi.1, show 2400 * n + 0 + i = 2400 * n + i by omega] at this
              exact this
            have hvl := vis_len (w := w) (d := d) (l := l) ks x
            have hget : ∀ i : Nat, i < (x :: vis w d l ks x).length → (x :: vis w d l ks x).getD i 0 ∈ x :: vis w d l ks x := fun i hi => by
              rw [List.getD_eq_getElem?_getD, List.getElem?_eq_getElem hi]
              exact List.getElem_mem hi
            have hinj : ∀ a b : Nat, a < (x :: vis w d l ks x).length → b < (x :: vis w d l ks x).length → cR w d ((x :: vis w d l ks x).getD a 0) = cR w d ((x :: vis w d l ks x).getD b 0) → a = b := by
              intro a b ha hb he
              have := cR_inj hD (okm_in hxi hok (hget a ha)) (okm_in hxi hok (hget b hb)) he
              exact (List.getD_inj ha hb hnd).mp this
            have hlen1 : (x :: vis w d l ks x).length = ks.length + 1 := by simp [hvl]
            refine ⟨fun h0 => ?_, fun i h0 h1 => ?_, fun i j hij he => ?_, fun i hi he => ?_⟩
            · have := (g 0 (by omega)).1
              simp only [this]
              rfl
            · have a := (g i (by omega)).2
              have b := (g (i + 1) (by omega)).1
              simp only [a, b, show (i + 1).toNat = i.toNat + 1 by omega]
            · have a := (g i (by omega)).1
              have b := (g j (by omega)).1
              simp only [a, b] at he
              have := hinj _ _ (by omega) (by omega) he
              omega
            · have a := (g i (by omega)).1
              have b := (g (0 + (ks.length : Int) - 1) (by omega)).2
              simp only [a, b] at he
              have := hinj _ _ (by omega) (by omega) he
              omega
          have hRk : RR0 w d l ck mk := RR0_rsm hD hn8 s4 (rsm_of s5) hR2 (RRn_k.mpr ⟨s1, hCH⟩)
          have hR3 : RR0 w d l ck m3 := RR0_ref (fun o h1 h2 => f3 o (by omega) (by omega)) hRk
          have hr3 : rsm n m2 m3 := rsm_tr (rsm_of s5) ⟨fun o _ _ _ _ _ _ _ _ _ h h' => f3 o h h', fun o ho => f3 o (by omega) (by omega), fun i _ => by rw [f3 54 (by decide) (by decide)], fun i _ => by rw [f3 68 (by decide) (by decide)], fun i _ => by rw [f3 69 (by decide) (by decide), f3 70 (by decide) (by decide)]; exact ⟨rfl, rfl⟩, fun i _ => by rw [f3 72 (by decide) (by decide)]⟩
          have hS3 : SVn w d l c m3 n := by
            unfold SVn at hS2 ⊢
            rw [f3 54 (by decide) (by decide), f3 73 (by decide) (by decide), f3 74 (by decide) (by decide), s5.1 54 (by decide) (by decide) (by decide) (by decide), s5.1 73 (by decide) (by decide) (by decide) (by decide), s5.1 74 (by decide) (by decide) (by decide) (by decide)]
            exact hS2
          have hJF' : ∀ y, joi w d l (w * d * l) n cj y → F y := fun y hy => ownF_joi hca hOj hy
          have hOk : ownF w d l (w * d * l) n F ck := by rw [← hck]; exact ownF_adP hD rfl (by omega) hJF' hxi hOj hrow
          have hTk : TJ w d l n ck := by rw [← hck]; exact (TJ_adP hD (by omega) hca hTJ hxi hrow).1
          have ht1k : tsame w d l n c1 ck := tsame_tr (tsame_sy ht1) htk
          refine kW_go ok_X12_layNet [2] 20 ?_
          refine ⟨by constructor <;> omega, by constructor <;> omega, ih (p + 1) (s + C) ck m3 _ (by omega) (by omega) (by omega) hR3 htk hMk hTk hOk hS3 (rsm_tr hr2 hr3) (fun h => by omega) (fun y hy => ?_) (fun res cc h => hres res cc (Or.inr (Or.inr ⟨by rw [hcx]; exact hnj, C, q, ks, by rw [hcx]; exact hL', by rw [hcx]; exact hpth', by rw [hcx, hck]; exact h⟩)))⟩
          refine frT_own ht1k (fun z hz => by rw [hF]) hb1 (fun z hz hbz => ?_) hy
          exact own_17 hD hn8 s1 s2 hOk hz hbz
      · refine kW_go ok_X12_layNet [2] 20 ?_
        refine ⟨by constructor <;> omega, ih (p + 1) s cj m2 x4 (by omega) (by omega) (by omega) hR2 htj hMj hTJ hOj hS2 hr2 (fun h => by omega) hFj (fun res cc h => hres res cc (Or.inl ⟨by rw [hcx]; exact (hjo x hxi).mp hj1, h⟩))⟩
  refine kW_go ok_X12_layNet [2] 20 ?_
  refine ⟨hnb, And.intro (fun _ => ?_) (fun h => absurd (show m 63 n = 0 from h) (by omega))⟩
  refine kCall_mono (c_X12_takeOffR X c m hD hn8 hR (hWn n hn8) (fun x hx => (hWb x hx).2)) (Nat.le_of_ble_eq_true rfl) ?_
  rintro _ m1 ⟨rfl, hR1, hS1, hr1, h68⟩
  rw [hc1] at hR1
  have hp0T : pinT c1 n (c1 14 (n * 4)) := ⟨0, by rw [ht1.1 13 (by decide) (by decide), hP]; omega, by rw [show n * 4 + 0 = n * 4 by omega]⟩
  refine loop (P - 1).toNat 1 0 c1 m1 none (by omega) (by omega) (by omega) hR1 ht1 hM1 (fun z k hz hk hne hb => ?_) ?_ hS1 hr1 (fun _ => h68) (fun x _ => by rw [hF]) (fun _ _ h => h)
  · rw [hrow1 z hz, bt_zero] at hb
    cases hb
  · rw [hF]
    exact ownF_0 hD (RRn_k.mp (hR1.2 n hn8)).1 (hM1.2.2.1 n hn8) hp0T (by rw [ht1.1 14 (by decide) (by decide)]; exact hpin0) hrow1
