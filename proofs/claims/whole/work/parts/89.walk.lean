/-! the router: the first move that loses nothing, and the walk -/
theorem Ls_shortN {w d l mv be : Int} {F J : Int → Prop} {cs : Int → Int → Int} {N : Nat} (hcs : ∀ k y, 0 ≤ cs k y) (hbe : 0 ≤ be) (hN : w * d * l = (N : Int)) {x dir C : Int} {n : Nat} (hx : inC w d l x) (h : Ls w d l mv F J cs be x dir C n) : n < N := by
  obtain ⟨ks, rfl, hr⟩ := h.1
  have h1 := Ls_nodup hcs hbe h hr
  have h2 := pigeon N _ h1 (fun y hy => by
    have : inC w d l y := by
      rcases List.mem_cons.mp hy with rfl | hy
      · exact hx
      · exact vis_in hr hy
    obtain ⟨a, b⟩ := this
    omega)
  simp only [List.length_cons, vis_len] at h2
  omega
section FIRST
variable {w d l L mv st vi be : Int} {ex : Int → Int} {F J : Int → Prop}
/-- a least row from here, its key told, and no more than the wanted one's -/
def okS (w d l L mv st vi be : Int) (ex : Int → Int) (F J : Int → Prop) (S wd : Int) (m : Mem) (x a C : Int) (n : Nat) : Prop := inC w d l x ∧ (0 ≤ a ∧ a < L) ∧ Ls w d l mv F J (csF st vi ex) be x (dO L a) C n ∧ m 34 (x * L + a) = 2048 * C + n ∧ m 34 (x * L + a) ≤ m 34 wd
theorem Ls_lane {m : Mem} (h : RCf w d l L mv st vi be ex m) {y a k C : Int} {n : Nat} {cs : Int → Int → Int} : Ls w d l mv F J cs be y (dr (dO L a) k) C n ↔ Ls w d l mv F J cs be y (dO L (lb L a k)) C n := by
  unfold Ls
  simp only [row_lane h]
/-- a state's key is its least row's -/
theorem SP_key {S wd : Int} {m c : Mem} {N : Nat} (hn : w * d * l = (N : Int)) (hS : S = (N : Int) * L) (hD : okD w d l) (hR : RCf w d l L mv st vi be ex c) (hP : SP w d l L mv st vi be ex F J S wd m) {y b C : Int} {n : Nat} (hy : inC w d l y) (hb : 0 ≤ b ∧ b < L) (hL : Ls w d l mv F J (csF st vi ex) be y (dO L b) C n) (hlt : 2048 * C + n < m 34 wd ∨ y * L + b = wd) : m 34 (y * L + b) = 2048 * C + n := by
  have hL15 : L = 1 ∨ L = 5 := hR.2.1.elim (fun z => Or.inl z.1) Or.inr
  have hst := st_in hn hL15 hy hb
  rw [← hS] at hst
  have hc := csF_in hR
  obtain ⟨⟨ks, e1, r1⟩, hmin⟩ := hL
  have hK : rwK w d l L mv st vi be ex F J (y * L + b) (2048 * C + n) := ⟨y, b, ks, C, rfl, hy, hb, r1, by rw [e1]⟩
  have hnn := Ls_short hc.1 hc.2 hD hy ⟨⟨ks, e1, r1⟩, hmin⟩
  obtain ⟨-, K', hK', hb'⟩ := rwK_bound hD hR hK
  -- any row's key is no less
  have hge : ∀ K, rwK w d l L mv st vi be ex F J (y * L + b) K → 2048 * C + n ≤ K := by
    rintro K ⟨x', a', ks', C', q1, q2, q3, q4, q5⟩
    obtain ⟨rfl, rfl⟩ := st_inj hL15 hb q3 q1
    have := hmin ks' C' q4
    unfold lx at this
    omega
  have hle : m 34 (y * L + b) ≤ 2048 * C + n := by
    rcases hlt with h | h
    · exact hP.2.1 _ _ hst hK h
    · rw [h] at hK ⊢
      exact hP.2.2.2 _ hK
  have := hge K' hK'
  rcases hP.1 _ hst with z | ⟨z, -⟩
  · omega
  · have := hge _ z
    omega
theorem SP_lds {S wd : Int} {m c : Mem} {N : Nat} (hn : w * d * l = (N : Int)) (hS : S = (N : Int) * L) (hD : okD w d l) (hR : RCf w d l L mv st vi be ex c) (hP : SP w d l L mv st vi be ex F J S wd m) (hJF : ∀ x, J x → F x) {x a C : Int} {n : Nat} (hO : okS w d l L mv st vi be ex F J S wd m x a C n) (hnJ : ¬ J x) {k : Int} (hk : 0 ≤ k ∧ k < mv) : lds w d l mv F J (csF st vi ex) be x (dO L a) k ↔ (nx w d l x k ≠ -1 ∧ F (nx w d l x k) ∧ m 34 (nx w d l x k * L + lb L a k) ≠ 2147483647 ∧ m 34 (nx w d l x k * L + lb L a k) + we L st vi be ex a k (nx w d l x k) = m 34 (x * L + a)) := by
  have hL15 : L = 1 ∨ L = 5 := hR.2.1.elim (fun z => Or.inl z.1) Or.inr
  have hc := csF_in hR
  obtain ⟨o1, o2, o3, o4, o5⟩ := hO
  have hwe : we L st vi be ex a k (nx w d l x k) = 2048 * wt (csF st vi ex) be (dO L a) k (nx w d l x k) + 1 := rfl
  have hb := lb_in hR o2 hk.1
  have hn3 := Ls_short hc.1 hc.2 hD o1 o3
  constructor
  · rintro ⟨-, h2, C1, n1, C2, n2, h3, h4, h5, h6⟩
    obtain ⟨rfl, rfl⟩ := Ls_one o3 h3
    have hyi := (nx_in h2).1
    have hwi := we_in hR hyi (a := a) (k := k)
    rw [Ls_lane hR] at h4
    have hkey := SP_key hn hS hD hR hP hyi hb h4 (Or.inl (by omega))
    have hF : F (nx w d l x k) := by
      obtain ⟨⟨ks, -, hr⟩, -⟩ := h4
      cases ks with
      | nil => exact hJF _ hr.1
      | cons k' ks => exact hr.2.1
    refine ⟨h2, hF, ?_, by omega⟩
    have hst := st_in hn hL15 o1 o2
    rw [← hS] at hst
    obtain ⟨⟨ks, e1, r1⟩, hmin⟩ := o3
    obtain ⟨-, K', ⟨x', a', ks', C', q1, q2, q3, q4, q5⟩, hb'⟩ := rwK_bound hD hR (⟨x, a, ks, C, rfl, o1, o2, r1, rfl⟩ : rwK w d l L mv st vi be ex F J (x * L + a) (2048 * C + (ks.length : Int)))
    obtain ⟨rfl, rfl⟩ := st_inj hL15 o2 q3 q1
    have := hmin ks' C' q4
    unfold lx at this
    omega
  · rintro ⟨h2, hF, h3, h4⟩
    have hyi := (nx_in h2).1
    have hwi := we_in hR hyi (a := a) (k := k)
    have hst := st_in hn hL15 hyi hb
    rw [← hS] at hst
    rcases hP.1 _ hst with z | ⟨⟨x', a', ks', C', q1, q2, q3, q4, q5⟩, -⟩
    · exact absurd z h3
    · obtain ⟨rfl, rfl⟩ := st_inj hL15 hb q3 q1
      rw [← row_lane hR] at q4
      obtain ⟨k0, ks0, -, hr0⟩ := Ls_notJ o3 hnJ
      have hFx := hr0.2.1
      have hcons : ∀ {ks : List Int} {C3 : Int}, row w d l mv F J (csF st vi ex) be ks (nx w d l x k) (dr (dO L a) k) C3 → lx C n (C3 + wt (csF st vi ex) be (dO L a) k (nx w d l x k)) (ks.length + 1) := by
        intro ks C3 hr
        exact o3.2 (k :: ks) _ ⟨hnJ, hFx, hk, h2, by rw [show C3 + wt (csF st vi ex) be (dO L a) k (nx w d l x k) - wt (csF st vi ex) be (dO L a) k (nx w d l x k) = C3 by omega]; exact hr⟩
      have h5 := hcons q4
      unfold lx at h5
      refine ⟨hk, h2, C, n, C', ks'.length, o3, ⟨⟨ks', rfl, q4⟩, fun ks3 C3 h3 => ?_⟩, by omega, by omega⟩
      have h6 := hcons h3
      unfold lx at h6 ⊢
      omega
end FIRST
