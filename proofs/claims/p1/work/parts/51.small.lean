/-! told, net, count, slow, end, panel -/
def cntC (m : Mem) (a : Int) : Int := if a = 0 then m 9 13 else if a = 1 then m 9 14 else if a = 2 then m 6 3 else if a = 3 then m 1 0 else if a = 4 then m 1 1 else if a = 5 then m 1 2 else -1
def cntR (m : Mem) (a : Int) : Int := if a = 0 then m 54 13 else if a = 1 then m 54 26 else if a = 2 then m 54 5 else if a = 3 then m 54 1 else if a = 4 then m 54 2 else if a = 5 then m 54 3 else -1
theorem c_X11_count (X : Xv) (m : Mem) (a : Int) : kCall (eX X) 1 M_X11_count.1 [vR 0, vI a] m (cP (cntC m a) m) := by
  refine kCall_of ok_X11_count rfl (Nat.le_of_ble_eq_true rfl) ?_
  refine kW_go ok_X11_count [] 10 ?_
  refine ⟨fun h => ?_, fun h => ?_, fun h => ?_, fun h => ?_, fun h => ?_, fun h => ?_, fun h => ?_, trivial⟩
  · have h : a < 0 ∨ 5 < a := h
    have e : cntC m a = -1 := by unfold cntC; rw [if_neg (by omega), if_neg (by omega), if_neg (by omega), if_neg (by omega), if_neg (by omega), if_neg (by omega)]
    rw [e]; exact ⟨rfl, rfl⟩
  · have h : a = 0 := h
    subst h; exact ⟨rfl, rfl⟩
  · have h : a = 1 := h
    subst h; exact ⟨rfl, rfl⟩
  · have h : a = 2 := h
    subst h; exact ⟨rfl, rfl⟩
  · have h : a = 3 := h
    subst h; exact ⟨rfl, rfl⟩
  · have h : a = 4 := h
    subst h; exact ⟨rfl, rfl⟩
  · have h : a = 5 := h
    subst h; exact ⟨rfl, rfl⟩
theorem c_X12_count (X : Xv) (m : Mem) (a : Int) : kCall (eX X) 1 M_X12_count.1 [vR 54, vI a] m (cP (cntR m a) m) := by
  refine kCall_of ok_X12_count rfl (Nat.le_of_ble_eq_true rfl) ?_
  refine kW_go ok_X12_count [] 10 ?_
  refine ⟨fun h => ?_, fun h => ?_, fun h => ?_, fun h => ?_, fun h => ?_, fun h => ?_, fun h => ?_, trivial⟩
  · have h : a < 0 ∨ 5 < a := h
    have e : cntR m a = -1 := by unfold cntR; rw [if_neg (by omega), if_neg (by omega), if_neg (by omega), if_neg (by omega), if_neg (by omega), if_neg (by omega)]
    rw [e]; exact ⟨rfl, rfl⟩
  · have h : a = 0 := h
    subst h; exact ⟨rfl, rfl⟩
  · have h : a = 1 := h
    subst h; exact ⟨rfl, rfl⟩
  · have h : a = 2 := h
    subst h; exact ⟨rfl, rfl⟩
  · have h : a = 3 := h
    subst h; exact ⟨rfl, rfl⟩
  · have h : a = 4 := h
    subst h; exact ⟨rfl, rfl⟩
  · have h : a = 5 := h
    subst h; exact ⟨rfl, rfl⟩
theorem f_X12_told (X : Xv) (m : Mem) (h : noR m) (a b : Int) : kCall (eX X) 5 M_X12_told.1 [vR 54, vI a, vI b] m (cP 0 (fset m 54 0 1)) := by
  refine kCall_of ok_X12_told rfl (Nat.le_of_ble_eq_true rfl) ?_
  refine kW_go ok_X12_told [] 20 ?_
  show inR (m 54 13 - 1) ∧ _
  refine ⟨by rw [h.1]; constructor <;> omega, ?_⟩
  refine kCall_mono (c_X12_in _ m a 0 (m 54 13 - 1)) (Nat.le_of_ble_eq_true rfl) ?_
  rintro _ m ⟨rfl, rfl⟩
  rw [h.1, b2i_f (by omega)]
  refine And.intro (fun _ => ?_) (fun h => absurd rfl h)
  exact And.intro (fun h => absurd rfl h) (fun _ => ⟨rfl, rfl⟩)
theorem c_X12_thrown (X : Xv) (m : Mem) : kCall (eX X) 1 M_X12_thrown.1 [vR 54] m (cP (m 54 0) m) := by
  refine kCall_of ok_X12_thrown rfl (Nat.le_of_ble_eq_true rfl) ?_
  refine kW_go ok_X12_thrown [] 20 ?_
  exact ⟨rfl, rfl⟩
theorem f_X11_net (X : Xv) (m : Mem) (h : noN m) (a : Int) : kCall (eX X) 5 M_X11_net.1 [vR 0, vI a] m (cP (-1) m) := by
  refine kCall_of ok_X11_net rfl (Nat.le_of_ble_eq_true rfl) ?_
  refine kW_go ok_X11_net [] 20 ?_
  refine And.intro (fun _ => ⟨rfl, rfl⟩) (fun h1 => And.intro (fun _ => ⟨rfl, rfl⟩) (fun h2 => ?_))
  have h2 : a < m 9 13 := h2
  have := h.1
  omega
theorem f_X12_net (X : Xv) (m : Mem) (h : noR m) (a : Int) : kCall (eX X) 5 M_X12_net.1 [vR 54, vI a] m (cP (-1) m) := by
  refine kCall_of ok_X12_net rfl (Nat.le_of_ble_eq_true rfl) ?_
  refine kW_go ok_X12_net [] 20 ?_
  show inR (m 54 13 - 1) ∧ _
  refine ⟨by rw [h.1]; constructor <;> omega, ?_⟩
  refine kCall_mono (c_X12_in _ m a 0 (m 54 13 - 1)) (Nat.le_of_ble_eq_true rfl) ?_
  rintro _ m ⟨rfl, rfl⟩
  rw [h.1, b2i_f (by omega)]
  exact And.intro (fun _ => ⟨rfl, rfl⟩) (fun h => absurd rfl h)
theorem c_X11_end (X : Xv) (m : Mem) (a : Int) : kCall (eX X) 1 M_X11_end.1 [vR 0, vI a] m (fun r m' => r = some (vI (b2i (0 ≤ a ∧ a ≤ m 6 3))) ∧ m' = if 0 ≤ a ∧ a ≤ m 6 3 then fset m 6 3 a else m) := by
  refine kCall_of ok_X11_end rfl (Nat.le_of_ble_eq_true rfl) ?_
  refine kW_go ok_X11_end [] 20 ?_
  refine And.intro (fun h1 => ?_) (fun h1 => And.intro (fun h2 => ?_) (fun h2 => ?_))
  · rw [b2i_f (by omega), if_neg (by omega)]; exact ⟨Or.inl rfl, rfl, rfl⟩
  · have h2 : a ≤ m 6 3 := h2
    rw [b2i_t (by omega), if_pos (by omega)]; exact ⟨Or.inr rfl, rfl, rfl⟩
  · have h2 : m 6 3 < a := h2
    rw [b2i_f (by omega), if_neg (by omega)]; exact ⟨Or.inl rfl, rfl, rfl⟩
theorem c_X12_end (X : Xv) (m : Mem) (a : Int) : kCall (eX X) 1 M_X12_end.1 [vR 54, vI a] m (fun r m' => r = some (vI (b2i (0 ≤ a ∧ a ≤ m 54 5))) ∧ m' = if 0 ≤ a ∧ a ≤ m 54 5 then fset m 54 5 a else m) := by
  refine kCall_of ok_X12_end rfl (Nat.le_of_ble_eq_true rfl) ?_
  refine kW_go ok_X12_end [] 20 ?_
  refine And.intro (fun h1 => ?_) (fun h1 => And.intro (fun h2 => ?_) (fun h2 => ?_))
  · rw [b2i_f (by omega), if_neg (by omega)]; exact ⟨Or.inl rfl, rfl, rfl⟩
  · have h2 : a ≤ m 54 5 := h2
    rw [b2i_t (by omega), if_pos (by omega)]; exact ⟨Or.inr rfl, rfl, rfl⟩
  · have h2 : m 54 5 < a := h2
    rw [b2i_f (by omega), if_neg (by omega)]; exact ⟨Or.inl rfl, rfl, rfl⟩
/-- a method's contract out of its body, what is asked of the end kept closed -/
theorem kCall_ofT {E : Ev} {h n : Nat} {M : Md} {as : List AV} {m : Mem} {Q : Option AV → Mem → Prop} (hM : k_okM M) (hn : M.1 = n) (hlen : as.length ≤ M.2.2.1)
    (H : ∀ T : Option AV → Mem → Prop, (∀ r m', k_T M.2.2.2.1 Q r m' → T r m') → kW E h M T 0 (as.map some ++ List.replicate (M.2.2.1 - as.length) none) [] m) : kCall E (h + 1) n as m Q :=
  kCall_of hM hn hlen (H _ (fun _ _ h => h))
/-- what DELAY may be told -/
def slowOk (l a b : Int) : Prop := (a = -1 ∨ (0 ≤ a ∧ a < l)) ∧ (0 ≤ b ∧ b ≤ 99)
theorem c_X11_slow (X : Xv) (m : Mem) {w d l : Int} (hD : okD w d l) (hG : gridC m w d l) (hl : l = (nL X : Int)) (a b : Int) : kCall (eX X) 3 M_X11_slow.1 [vR 0, vI a, vI b] m (fun r m' => (slowOk l a b ∧ r = some (vI 1) ∧ m' = mset m 47 (a + 1) b) ∨ (¬ slowOk l a b ∧ r = some (vI 0) ∧ m' = m)) := by
  have hlr := hD.2.2
  have g2 : m 1 2 = l := hG.2.2.1
  refine kCall_ofT ok_X11_slow rfl (Nat.le_of_ble_eq_true rfl) (fun T hT => ?_)
  have hno : ¬ slowOk l a b → kW (eX X) 2 M_X11_slow T 2 [some (vR 0), some (vI a), some (vI b)] [] m := by
    intro h
    refine kW_go ok_X11_slow [] 20 ?_
    exact hT _ _ ⟨Or.inl rfl, Or.inr ⟨h, rfl, rfl⟩⟩
  have hyes : (a = -1 ∨ (0 ≤ a ∧ a < l)) → kW (eX X) 2 M_X11_slow T 1 [some (vR 0), some (vI a), some (vI b)] [] m := by
    intro ha
    refine kW_go ok_X11_slow [2] 20 ?_
    refine And.intro (fun h1 => hno (fun h => by have := h.2; omega)) (fun h1 => And.intro (fun h2 => ?_) (fun h2 => hno (fun h => by have := h.2; omega)))
    refine ⟨by constructor <;> omega, ⟨by omega, ?_⟩, hT _ _ ⟨Or.inr rfl, Or.inl ⟨⟨ha, h1, h2⟩, rfl, rfl⟩⟩⟩
    show a + 1 < ((nL X + 1 : Nat) : Int)
    omega
  refine kW_go ok_X11_slow [1, 2] 20 ?_
  refine And.intro (fun h1 => hyes (Or.inl h1)) (fun h1 => ?_)
  refine kCall_mono (c_X11_isLayer X m a) (Nat.le_of_ble_eq_true rfl) ?_
  rintro _ m ⟨rfl, rfl⟩
  rw [g2]
  refine And.intro (fun h2 => hno (fun h => ?_)) (fun h2 => hyes (Or.inr (b2i_n.mp h2)))
  rcases h.1 with h3 | h3
  · exact h1 h3
  · exact b2i_0.mp h2 h3
theorem c_X12_slow (X : Xv) (m : Mem) {w d l : Int} (hl1 : 1 ≤ l ∧ l ≤ 4) (g2 : m 54 3 = l) (a b : Int) : kCall (eX X) 3 M_X12_slow.1 [vR 54, vI a, vI b] m (fun r m' => (slowOk l a b ∧ r = some (vI 1) ∧ m' = mset m 88 (if a = -1 then 4 else a) b) ∨ (¬ slowOk l a b ∧ r = some (vI 0) ∧ m' = m)) := by
  refine kCall_ofT ok_X12_slow rfl (Nat.le_of_ble_eq_true rfl) (fun T hT => ?_)
  have hno : ¬ slowOk l a b → kW (eX X) 2 M_X12_slow T 2 [some (vR 54), some (vI a), some (vI b)] [] m := by
    intro h
    refine kW_go ok_X12_slow [] 20 ?_
    exact hT _ _ ⟨Or.inl rfl, Or.inr ⟨h, rfl, rfl⟩⟩
  have hyes : (a = -1 ∨ (0 ≤ a ∧ a < l)) → kW (eX X) 2 M_X12_slow T 1 [some (vR 54), some (vI a), some (vI b)] [] m := by
    intro ha
    refine kW_go ok_X12_slow [2] 20 ?_
    refine kCall_mono (c_X12_in _ m b 0 99) (Nat.le_of_ble_eq_true rfl) ?_
    rintro _ m ⟨rfl, rfl⟩
    refine And.intro (fun h2 => ?_) (fun h2 => hno (fun h => b2i_0.mp h2 h.2))
    have h2 := b2i_n.mp h2
    refine And.intro (fun h3 => ?_) (fun h3 => ?_)
    · refine ⟨⟨by omega, ?_⟩, hT _ _ ⟨Or.inr rfl, Or.inl ⟨⟨ha, h2⟩, rfl, ?_⟩⟩⟩
      · show a < ((5 : Nat) : Int)
        omega
      · rw [if_neg h3]
    · refine ⟨⟨by omega, by decide⟩, hT _ _ ⟨Or.inr rfl, Or.inl ⟨⟨ha, h2⟩, rfl, ?_⟩⟩⟩
      rw [if_pos h3]
  refine kW_go ok_X12_slow [1, 2] 20 ?_
  refine And.intro (fun h1 => hyes (Or.inl h1)) (fun h1 => ?_)
  show inR (m 54 3 - 1) ∧ _
  refine ⟨by rw [g2]; constructor <;> omega, ?_⟩
  refine kCall_mono (c_X12_in _ m a 0 (m 54 3 - 1)) (Nat.le_of_ble_eq_true rfl) ?_
  rintro _ m ⟨rfl, rfl⟩
  rw [g2]
  refine And.intro (fun h2 => hno (fun h => ?_)) (fun h2 => hyes (Or.inr (by have := b2i_n.mp h2; omega)))
  rcases h.1 with h3 | h3
  · exact h1 h3
  · exact b2i_0.mp h2 (by omega)
/-! PANEL -/
/-- how many boards of one size stand in a row -/
def fit (r s b : Int) : Int := if r < s then 0 else (r + b) / (s + b)
theorem fit_in {r s b : Int} (hr : r ≤ 200) (hs : 2 ≤ s ∧ s ≤ 9) (hb : 0 ≤ b ∧ b ≤ 9) : 0 ≤ fit r s b ∧ fit r s b ≤ 105 := by
  unfold fit
  split
  · omega
  · refine ⟨Int.ediv_nonneg (by omega) (by omega), ?_⟩
    exact Int.le_trans (Int.ediv_le_ediv (by omega) (show r + b ≤ 209 by omega)) (by
      have : (209 : Int) / (s + b) ≤ 209 / 2 := by
        rcases hs with ⟨h1, h2⟩
        rcases hb with ⟨h3, h4⟩
        have : s + b = 2 ∨ s + b = 3 ∨ s + b = 4 ∨ s + b = 5 ∨ s + b = 6 ∨ s + b = 7 ∨ s + b = 8 ∨ s + b = 9 ∨ s + b = 10 ∨ s + b = 11 ∨ s + b = 12 ∨ s + b = 13 ∨ s + b = 14 ∨ s + b = 15 ∨ s + b = 16 ∨ s + b = 17 ∨ s + b = 18 := by omega
        rcases this with h | h | h | h | h | h | h | h | h | h | h | h | h | h | h | h | h <;> rw [h] <;> decide
      omega)
theorem c_X11_fitting (E : Ev) (m : Mem) (r s b : Int) (hr : -1000 ≤ r ∧ r ≤ 200) (hs : 2 ≤ s ∧ s ≤ 9) (hb : 0 ≤ b ∧ b ≤ 9) : kCall E 1 M_X11_fitting.1 [vI r, vI s, vI b] m (cP (fit r s b) m) := by
  refine kCall_of ok_X11_fitting rfl (Nat.le_of_ble_eq_true rfl) ?_
  refine kW_go ok_X11_fitting [] 20 ?_
  refine ⟨by constructor <;> omega, And.intro (fun h1 => absurd h1 (by omega)) (fun h1 => And.intro (fun h2 => ?_) (fun h2 => ?_))⟩
  · have e : (r + b).tdiv (s + b) = (r + b) / (s + b) := Int.tdiv_eq_ediv_of_nonneg (by omega)
    have f := fit_in (r := r) hr.2 hs hb
    unfold fit at f ⊢
    rw [if_neg (by omega)] at f ⊢
    refine ⟨by constructor <;> omega, by omega, ?_⟩
    rw [e]
    exact ⟨by constructor <;> omega, rfl, rfl⟩
  · unfold fit
    rw [if_pos h2]
    exact ⟨rfl, rfl⟩
theorem c_X12_room (E : Ev) (m : Mem) (r s b : Int) (hr : 0 ≤ r ∧ r ≤ 200) (hs : 2 ≤ s ∧ s ≤ 9) (hb : 0 ≤ b ∧ b ≤ 9) : kCall E 1 M_X12_room.1 [vI r, vI s, vI b] m (cP (fit r s b) m) := by
  refine kCall_of ok_X12_room rfl (Nat.le_of_ble_eq_true rfl) ?_
  refine kW_go ok_X12_room [] 20 ?_
  have e : (r + b).tdiv (s + b) = (r + b) / (s + b) := Int.tdiv_eq_ediv_of_nonneg (by omega)
  have e2 : fit r s b = (r + b) / (s + b) := by
    unfold fit
    split
    · exact (Int.ediv_eq_zero_of_lt (by omega) (by omega)).symm
    · rfl
  have f := fit_in (r := r) hr.2 hs hb
  rw [e2] at f ⊢
  refine ⟨by constructor <;> omega, by constructor <;> omega, by omega, ?_⟩
  rw [e]
  exact ⟨by constructor <;> omega, rfl, rfl⟩
/-- the first of the greatest of v 0 .. v (k - 1), and where -/
def spl (v : Int → Int) : Nat → Int × Int
  | 0 => (-1, 0)
  | k + 1 => if (spl v k).1 < v k then (v k, (k : Int)) else spl v k
theorem spl_cong {v v' : Int → Int} {n : Nat} (h : ∀ k : Int, 0 ≤ k → k < n → v k = v' k) : spl v n = spl v' n := by
  induction n with
  | zero => rfl
  | succ n ih =>
    show (if (spl v n).1 < v n then (v n, (n : Int)) else spl v n) = _
    rw [ih (fun k h0 h1 => h k h0 (by omega)), h n (by omega) (by omega)]
    rfl
/-- boards in a SPLIT by so many columns -/
def splV (w d sw sd b : Int) (k : Int) : Int := k * fit sd d b + fit (sw - k * (w + b)) d b * fit sd w b
def panA (w d sw sd b a : Int) : Int :=
  if a = 0 then max (fit sw w b * fit sd d b) (fit sw d b * fit sd w b)
  else if a = 1 then (if fit sw w b * fit sd d b < fit sw d b * fit sd w b then 1 else 0)
  else if a = 2 then (spl (splV w d sw sd b) ((fit sw w b).toNat + 1)).1 else (spl (splV w d sw sd b) ((fit sw w b).toNat + 1)).2
def panOk (sw sd b a : Int) : Prop := (1 ≤ sw ∧ sw ≤ 200) ∧ (1 ≤ sd ∧ sd ≤ 200) ∧ (0 ≤ b ∧ b ≤ 9) ∧ (0 ≤ a ∧ a ≤ 3)
theorem spl_in {v : Int → Int} {B : Int} {n : Nat} (h : ∀ k : Int, 0 ≤ k → k < n → 0 ≤ v k ∧ v k ≤ B) (hB : 0 ≤ B) : -1 ≤ (spl v n).1 ∧ (spl v n).1 ≤ B ∧ 0 ≤ (spl v n).2 ∧ (spl v n).2 ≤ n := by
  induction n with
  | zero =>
    show (-1 : Int) ≤ -1 ∧ (-1 : Int) ≤ B ∧ (0 : Int) ≤ 0 ∧ (0 : Int) ≤ ((0 : Nat) : Int)
    omega
  | succ n ih =>
    have h1 := ih (fun k h0 h1 => h k h0 (by omega))
    have h2 := h n (by omega) (by omega)
    have e : spl v (n + 1) = if (spl v n).1 < v n then (v n, (n : Int)) else spl v n := rfl
    rw [e]
    split
    · show -1 ≤ v n ∧ v n ≤ B ∧ 0 ≤ (n : Int) ∧ (n : Int) ≤ ((n + 1 : Nat) : Int)
      omega
    · exact ⟨h1.1, h1.2.1, h1.2.2.1, by have := h1.2.2.2; omega⟩
section PAN
variable {w d sw sd b : Int} (hw : 2 ≤ w ∧ w ≤ 9) (hd : 2 ≤ d ∧ d ≤ 9) (hsw : 1 ≤ sw ∧ sw ≤ 200) (hsd : 1 ≤ sd ∧ sd ≤ 200) (hb : 0 ≤ b ∧ b ≤ 9)
theorem fit_row (hw : 2 ≤ w ∧ w ≤ 9) (hsw : 1 ≤ sw ∧ sw ≤ 200) (hb : 0 ≤ b ∧ b ≤ 9) {k : Int} (h0 : 0 ≤ k) (h1 : k ≤ fit sw w b) : 0 ≤ k * (w + b) ∧ k * (w + b) ≤ 209 := by
  refine ⟨Int.mul_nonneg h0 (by omega), ?_⟩
  unfold fit at h1
  split at h1
  · have : k = 0 := by omega
    subst this
    omega
  · have h2 := Int.mul_le_mul_of_nonneg_right h1 (show 0 ≤ w + b by omega)
    have h3 := Int.ediv_mul_le (sw + b) (show w + b ≠ 0 by omega)
    omega
end PAN
theorem splV_in {w d sw sd b k : Int} (hw : 2 ≤ w ∧ w ≤ 9) (hd : 2 ≤ d ∧ d ≤ 9) (hsw : 1 ≤ sw ∧ sw ≤ 200) (hsd : 1 ≤ sd ∧ sd ≤ 200) (hb : 0 ≤ b ∧ b ≤ 9) (h0 : 0 ≤ k) (h1 : k ≤ fit sw w b) : (0 ≤ k * fit sd d b ∧ k * fit sd d b ≤ 11025) ∧ (0 ≤ fit (sw - k * (w + b)) d b * fit sd w b ∧ fit (sw - k * (w + b)) d b * fit sd w b ≤ 11025) ∧ 0 ≤ splV w d sw sd b k ∧ splV w d sw sd b k ≤ 22050 := by
  have f1 := fit_in (r := sw) hsw.2 hw hb
  have f2 := fit_in (r := sd) hsd.2 hd hb
  have f3 := fit_in (r := sd) hsd.2 hw hb
  have f5 := fit_row hw hsw hb h0 h1
  have f4 := fit_in (r := sw - k * (w + b)) (by omega) hd hb
  have e1 := mb (a := k) (b := fit sd d b) (A := 105) (B := 105) (by omega) f2
  have e2 := mb (a := fit (sw - k * (w + b)) d b) (b := fit sd w b) (A := 105) (B := 105) f4 f3
  unfold splV
  omega
theorem c_X11_splitSheet (X : Xv) (m : Mem) {w d l : Int} (hD : okD w d l) (hG : gridC m w d l) (sw sd b t : Int) (hsw : 1 ≤ sw ∧ sw ≤ 200) (hsd : 1 ≤ sd ∧ sd ≤ 200) (hb : 0 ≤ b ∧ b ≤ 9) : kCall (eX X) 2 M_X11_splitSheet.1 [vR 0, vI sw, vI sd, vI b, vI t] m (cP (if t = 0 then (spl (splV w d sw sd b) ((fit sw w b).toNat + 1)).2 else (spl (splV w d sw sd b) ((fit sw w b).toNat + 1)).1) m) := by
  have hw := hD.1
  have hd := hD.2.1
  have g0 := hG.1
  have g1 := hG.2.1
  subst g0 g1
  refine kCall_ofT ok_X11_splitSheet rfl (Nat.le_of_ble_eq_true rfl) (fun T hT => ?_)
  have fc := fit_in (r := sw) hsw.2 hw hb
  have hin : ∀ n : Nat, n ≤ (fit sw (m 1 0) b).toNat + 1 → -1 ≤ (spl (splV (m 1 0) (m 1 1) sw sd b) n).1 ∧ (spl (splV (m 1 0) (m 1 1) sw sd b) n).1 ≤ 22050 ∧ 0 ≤ (spl (splV (m 1 0) (m 1 1) sw sd b) n).2 ∧ (spl (splV (m 1 0) (m 1 1) sw sd b) n).2 ≤ n := by
    intro n hn
    refine spl_in (fun k h0 h1 => (splV_in hw hd hsw hsd hb h0 ?_).2.2) (by decide)
    omega
  have loop : ∀ (j n : Nat) (x11 x12 : Option AV), n + j = (fit sw (m 1 0) b).toNat + 1 → kW (eX X) 1 M_X11_splitSheet T 1 [some (vR 0), some (vI sw), some (vI sd), some (vI b), some (vI t), some (vI (fit sd (m 1 1) b)), some (vI (fit sd (m 1 0) b)), some (vI (fit sw (m 1 0) b)), some (vI (spl (splV (m 1 0) (m 1 1) sw sd b) n).1), some (vI (spl (splV (m 1 0) (m 1 1) sw sd b) n).2), some (vI (n : Int)), x11, x12] [] m := by
    intro j
    induction j with
    | zero =>
      intro n x11 x12 hn
      refine kW_go ok_X11_splitSheet [1] 20 ?_
      have hn : n = (fit sw (m 1 0) b).toNat + 1 := by omega
      subst hn
      refine And.intro (fun h1 => And.intro (fun h2 => ?_) (fun h2 => ?_)) (fun h1 => absurd h1 (by omega))
      · have h2 : t = 0 := h2
        exact hT _ _ ⟨by rw [if_pos h2], rfl⟩
      · have h2 : ¬ t = 0 := h2
        exact hT _ _ ⟨by rw [if_neg h2], rfl⟩
    | succ j ih =>
      intro n x11 x12 hn
      have hk : (n : Int) ≤ fit sw (m 1 0) b := by omega
      obtain ⟨e1, e2, e3⟩ := splV_in hw hd hsw hsd hb (k := (n : Int)) (by omega) hk
      have e4 := fit_row hw hsw hb (k := (n : Int)) (by omega) hk
      refine kW_go ok_X11_splitSheet [1] 20 ?_
      refine And.intro (fun h1 => absurd hk (by show ¬ (n : Int) ≤ fit sw (m 1 0) b; exact Int.not_le.mpr h1)) (fun h1 => ?_)
      refine ⟨show inR (m 1 0 + b) by constructor <;> omega, show inR ((n : Int) * (m 1 0 + b)) by constructor <;> omega, show inR (sw - (n : Int) * (m 1 0 + b)) by constructor <;> omega, by constructor <;> omega, ?_⟩
      refine kCall_mono (c_X11_fitting _ m (sw - (n : Int) * (m 1 0 + b)) (m 1 1) b (by omega) hd hb) (Nat.le_of_ble_eq_true rfl) ?_
      rintro _ m ⟨rfl, rfl⟩
      refine ⟨by constructor <;> omega, by constructor <;> omega, ?_⟩
      have hs : spl (splV (m 1 0) (m 1 1) sw sd b) (n + 1) = if (spl (splV (m 1 0) (m 1 1) sw sd b) n).1 < splV (m 1 0) (m 1 1) sw sd b n then (splV (m 1 0) (m 1 1) sw sd b n, (n : Int)) else spl (splV (m 1 0) (m 1 1) sw sd b) n := rfl
      refine And.intro (fun h2 => ?_) (fun h2 => ?_)
      · have h2 : splV (m 1 0) (m 1 1) sw sd b n ≤ (spl (splV (m 1 0) (m 1 1) sw sd b) n).1 := h2
        have := ih (n + 1) (some (vI (sw - (n : Int) * (m 1 0 + b)))) (some (vI (splV (m 1 0) (m 1 1) sw sd b n))) (by omega)
        rw [hs, if_neg (by omega)] at this
        exact ⟨by constructor <;> omega, this⟩
      · have h2 : (spl (splV (m 1 0) (m 1 1) sw sd b) n).1 < splV (m 1 0) (m 1 1) sw sd b n := h2
        have := ih (n + 1) (some (vI (sw - (n : Int) * (m 1 0 + b)))) (some (vI (splV (m 1 0) (m 1 1) sw sd b n))) (by omega)
        rw [hs, if_pos h2] at this
        exact ⟨by constructor <;> omega, this⟩
  refine kW_go ok_X11_splitSheet [1] 20 ?_
  refine kCall_mono (c_X11_fitting _ m sd (m 1 1) b (by omega) hd hb) (Nat.le_of_ble_eq_true rfl) ?_
  rintro _ m ⟨rfl, rfl⟩
  refine kCall_mono (c_X11_fitting _ m sd (m 1 0) b (by omega) hw hb) (Nat.le_of_ble_eq_true rfl) ?_
  rintro _ m ⟨rfl, rfl⟩
  refine kCall_mono (c_X11_fitting _ m sw (m 1 0) b (by omega) hw hb) (Nat.le_of_ble_eq_true rfl) ?_
  rintro _ m ⟨rfl, rfl⟩
  exact loop ((fit sw (m 1 0) b).toNat + 1) 0 none none (by omega)
theorem c_X11_panel (X : Xv) (m : Mem) {w d l : Int} (hD : okD w d l) (hG : gridC m w d l) (sw sd b a : Int) : kCall (eX X) 3 M_X11_panel.1 [vR 0, vI sw, vI sd, vI b, vI a] m (fun r m' => ((panOk sw sd b a ∧ r = some (vI (panA w d sw sd b a))) ∨ (¬ panOk sw sd b a ∧ r = some (vI (-1)))) ∧ m' = m) := by
  have hw := hD.1
  have hd := hD.2.1
  refine kCall_ofT ok_X11_panel rfl (Nat.le_of_ble_eq_true rfl) (fun T hT => ?_)
  have hno : ¬ panOk sw sd b a → T (some (vI (-1))) m := fun h => hT _ _ ⟨Or.inr ⟨h, rfl⟩, rfl⟩
  have hyes : panOk sw sd b a → T (some (vI (panA w d sw sd b a))) m := fun h => hT _ _ ⟨Or.inl ⟨h, rfl⟩, rfl⟩
  refine kW_go ok_X11_panel [] 20 ?_
  refine And.intro (fun h1 => hno (fun h => by have := h.1; omega)) (fun h1 => And.intro (fun h2 => hno (fun h => by have := h.1; omega)) (fun h2 => And.intro (fun h3 => hno (fun h => by have := h.2.1; omega)) (fun h3 => And.intro (fun h4 => ?_) (fun h4 => hno (fun h => by have := h.2.1; omega)))))
  refine And.intro (fun h5 => hno (fun h => by have := h.2.2.1; omega)) (fun h5 => And.intro (fun h6 => hno (fun h => by have := h.2.2.1; omega)) (fun h6 => And.intro (fun h7 => hno (fun h => by have := h.2.2.2; omega)) (fun h7 => And.intro (fun h8 => ?_) (fun h8 => hno (fun h => by have := h.2.2.2; omega)))))
  have hok : panOk sw sd b a := ⟨⟨h1, h2⟩, ⟨h3, h4⟩, ⟨h5, h6⟩, h7, h8⟩
  have hyes := hyes hok
  have hb : 0 ≤ b ∧ b ≤ 9 := ⟨h5, h6⟩
  have f1 := fit_in (r := sw) h2 hw hb
  have f2 := fit_in (r := sd) h4 hd hb
  have f3 := fit_in (r := sw) h2 hd hb
  have f4 := fit_in (r := sd) h4 hw hb
  have e1 := mb f1 f2
  have e2 := mb f3 f4
  unfold panA at hyes
  refine And.intro (fun h9 => ?_) (fun h9 => ?_)
  · have g0 := hG.1
    have g1 := hG.2.1
    subst g0 g1
    refine kCall_mono (c_X11_fitting _ m sw (m 1 0) b (by omega) hw hb) (Nat.le_of_ble_eq_true rfl) ?_
    rintro _ m ⟨rfl, rfl⟩
    refine kCall_mono (c_X11_fitting _ m sd (m 1 1) b (by omega) hd hb) (Nat.le_of_ble_eq_true rfl) ?_
    rintro _ m ⟨rfl, rfl⟩
    refine ⟨by constructor <;> omega, ?_⟩
    refine kCall_mono (c_X11_fitting _ m sw (m 1 1) b (by omega) hd hb) (Nat.le_of_ble_eq_true rfl) ?_
    rintro _ m ⟨rfl, rfl⟩
    refine kCall_mono (c_X11_fitting _ m sd (m 1 0) b (by omega) hw hb) (Nat.le_of_ble_eq_true rfl) ?_
    rintro _ m ⟨rfl, rfl⟩
    refine ⟨by constructor <;> omega, And.intro (fun h10 => ?_) (fun h10 => ?_)⟩
    · have h10 : ¬ a = 0 := h10
      rw [if_neg h10, if_pos (by omega)] at hyes
      refine And.intro (fun h11 => ?_) (fun h11 => ?_)
      · rw [if_neg (Int.not_lt.mpr h11)] at hyes
        exact hyes
      · rw [if_pos h11] at hyes
        exact hyes
    · have h10 : a = 0 := h10
      rw [if_pos h10] at hyes
      exact hyes
  · rw [if_neg (by omega), if_neg (by omega)] at hyes
    refine And.intro (fun h10 => ?_) (fun h10 => ?_)
    · have h10 : ¬ a = 2 := h10
      rw [if_neg h10] at hyes
      refine kCall_mono (c_X11_splitSheet X m hD hG sw sd b 0 ⟨h1, h2⟩ ⟨h3, h4⟩ hb) (Nat.le_of_ble_eq_true rfl) ?_
      rintro _ m ⟨rfl, rfl⟩
      rw [if_pos rfl]
      exact hyes
    · have h10 : a = 2 := h10
      rw [if_pos h10] at hyes
      refine kCall_mono (c_X11_splitSheet X m hD hG sw sd b 1 ⟨h1, h2⟩ ⟨h3, h4⟩ hb) (Nat.le_of_ble_eq_true rfl) ?_
      rintro _ m ⟨rfl, rfl⟩
      rw [if_neg (by decide)]
      exact hyes
theorem c_X12_panel (X : Xv) (m : Mem) {w d l : Int} (hD : okD w d l) (g0 : m 54 1 = w) (g1 : m 54 2 = d) (sw sd b a : Int) : kCall (eX X) 3 M_X12_panel.1 [vR 54, vI sw, vI sd, vI b, vI a] m (fun r m' => ((panOk sw sd b a ∧ r = some (vI (panA w d sw sd b a))) ∨ (¬ panOk sw sd b a ∧ r = some (vI (-1)))) ∧ m' = m) := by
  have hw := hD.1
  have hd := hD.2.1
  subst g0 g1
  refine kCall_ofT ok_X12_panel rfl (Nat.le_of_ble_eq_true rfl) (fun T hT => ?_)
  have hno : ¬ panOk sw sd b a → T (some (vI (-1))) m := fun h => hT _ _ ⟨Or.inr ⟨h, rfl⟩, rfl⟩
  have hyes : panOk sw sd b a → T (some (vI (panA (m 54 1) (m 54 2) sw sd b a))) m := fun h => hT _ _ ⟨Or.inl ⟨h, rfl⟩, rfl⟩
  refine kW_go ok_X12_panel [7] 30 ?_
  refine kCall_mono (c_X12_in _ m sw 1 200) (Nat.le_of_ble_eq_true rfl) ?_
  rintro _ m ⟨rfl, rfl⟩
  refine And.intro (fun h1 => hno (fun h => b2i_0.mp h1 h.1)) (fun h1 => ?_)
  refine kCall_mono (c_X12_in _ m sd 1 200) (Nat.le_of_ble_eq_true rfl) ?_
  rintro _ m ⟨rfl, rfl⟩
  refine And.intro (fun h2 => hno (fun h => b2i_0.mp h2 h.2.1)) (fun h2 => ?_)
  refine kCall_mono (c_X12_in _ m b 0 9) (Nat.le_of_ble_eq_true rfl) ?_
  rintro _ m ⟨rfl, rfl⟩
  refine And.intro (fun h3 => hno (fun h => b2i_0.mp h3 h.2.2.1)) (fun h3 => ?_)
  refine kCall_mono (c_X12_in _ m a 0 3) (Nat.le_of_ble_eq_true rfl) ?_
  rintro _ m ⟨rfl, rfl⟩
  refine And.intro (fun h4 => ?_) (fun h4 => hno (fun h => b2i_0.mp h4 h.2.2.2))
  have hsw := b2i_n.mp h1
  have hsd := b2i_n.mp h2
  have hb := b2i_n.mp h3
  have ha := b2i_n.mp h4
  have hyes := hyes ⟨hsw, hsd, hb, ha⟩
  have f1 := fit_in (r := sw) hsw.2 hw hb
  have f2 := fit_in (r := sd) hsd.2 hd hb
  have f3 := fit_in (r := sw) hsw.2 hd hb
  have f4 := fit_in (r := sd) hsd.2 hw hb
  have e1 := mb f1 f2
  have e2 := mb f3 f4
  unfold panA at hyes
  refine kCall_mono (c_X12_room _ m sd (m 54 2) b (by omega) hd hb) (Nat.le_of_ble_eq_true rfl) ?_
  rintro _ m ⟨rfl, rfl⟩
  refine kCall_mono (c_X12_room _ m sd (m 54 1) b (by omega) hw hb) (Nat.le_of_ble_eq_true rfl) ?_
  rintro _ m ⟨rfl, rfl⟩
  refine kCall_mono (c_X12_room _ m sw (m 54 1) b (by omega) hw hb) (Nat.le_of_ble_eq_true rfl) ?_
  rintro _ m ⟨rfl, rfl⟩
  refine ⟨by constructor <;> omega, ?_⟩
  refine kCall_mono (c_X12_room _ m sw (m 54 2) b (by omega) hd hb) (Nat.le_of_ble_eq_true rfl) ?_
  rintro _ m ⟨rfl, rfl⟩
  refine ⟨by constructor <;> omega, And.intro (fun h5 => ?_) (fun h5 => ?_)⟩
  · have h5 : 2 ≤ a := h5
    rw [if_neg (by omega), if_neg (by omega)] at hyes
    have hin : ∀ n : Nat, n ≤ (fit sw (m 54 1) b).toNat + 1 → -1 ≤ (spl (splV (m 54 1) (m 54 2) sw sd b) n).1 ∧ (spl (splV (m 54 1) (m 54 2) sw sd b) n).1 ≤ 22050 ∧ 0 ≤ (spl (splV (m 54 1) (m 54 2) sw sd b) n).2 ∧ (spl (splV (m 54 1) (m 54 2) sw sd b) n).2 ≤ n := by
      intro n hn
      refine spl_in (fun k h0 h1 => (splV_in hw hd hsw hsd hb h0 ?_).2.2) (by decide)
      omega
    have loop : ∀ (j n : Nat) (x13 x14 : Option AV), n + j = (fit sw (m 54 1) b).toNat + 1 → kW (eX X) 2 M_X12_panel T 7 [some (vR 54), some (vI sw), some (vI sd), some (vI b), some (vI a), some (vI (fit sd (m 54 2) b)), some (vI (fit sd (m 54 1) b)), some (vI (fit sw (m 54 1) b)), some (vI (fit sw (m 54 1) b * fit sd (m 54 2) b)), some (vI (fit sw (m 54 2) b * fit sd (m 54 1) b)), some (vI (spl (splV (m 54 1) (m 54 2) sw sd b) n).1), some (vI (spl (splV (m 54 1) (m 54 2) sw sd b) n).2), some (vI (n : Int)), x13, x14] [] m := by
      intro j
      induction j with
      | zero =>
        intro n x13 x14 hn
        refine kW_go ok_X12_panel [7] 20 ?_
        have hn : n = (fit sw (m 54 1) b).toNat + 1 := by omega
        subst hn
        refine And.intro (fun h1 => And.intro (fun h2 => ?_) (fun h2 => ?_)) (fun h1 => absurd h1 (by omega))
        · have h2 : ¬ a = 2 := h2
          rw [if_neg h2] at hyes
          exact hyes
        · have h2 : a = 2 := h2
          rw [if_pos h2] at hyes
          exact hyes
      | succ j ih =>
        intro n x13 x14 hn
        have hk : (n : Int) ≤ fit sw (m 54 1) b := by omega
        obtain ⟨e1, e2, e3⟩ := splV_in hw hd hsw hsd hb (k := (n : Int)) (by omega) hk
        have e4 := fit_row hw hsw hb (k := (n : Int)) (by omega) hk
        have hs : spl (splV (m 54 1) (m 54 2) sw sd b) (n + 1) = if (spl (splV (m 54 1) (m 54 2) sw sd b) n).1 < splV (m 54 1) (m 54 2) sw sd b n then (splV (m 54 1) (m 54 2) sw sd b n, (n : Int)) else spl (splV (m 54 1) (m 54 2) sw sd b) n := rfl
        refine kW_go ok_X12_panel [7] 20 ?_
        refine And.intro (fun h1 => absurd hk (by show ¬ (n : Int) ≤ fit sw (m 54 1) b; exact Int.not_le.mpr h1)) (fun h1 => ?_)
        refine ⟨show inR (m 54 1 + b) by constructor <;> omega, show inR ((n : Int) * (m 54 1 + b)) by constructor <;> omega, show inR (sw - (n : Int) * (m 54 1 + b)) by constructor <;> omega, by constructor <;> omega, And.intro (fun h6 => ?_) (fun h6 => ?_)⟩
        · have h6 : sw - (n : Int) * (m 54 1 + b) ≤ 0 := h6
          have ez : fit (sw - (n : Int) * (m 54 1 + b)) (m 54 2) b = 0 := by unfold fit; rw [if_pos (by omega)]
          have ev : splV (m 54 1) (m 54 2) sw sd b n = (n : Int) * fit sd (m 54 2) b + 0 := by unfold splV; rw [ez, Int.zero_mul]
          refine ⟨by constructor <;> omega, ?_⟩
          refine And.intro (fun h2 => ?_) (fun h2 => ?_)
          · have h2 : (n : Int) * fit sd (m 54 2) b + 0 ≤ (spl (splV (m 54 1) (m 54 2) sw sd b) n).1 := h2
            have := ih (n + 1) (some (vI (sw - (n : Int) * (m 54 1 + b)))) (some (vI ((n : Int) * fit sd (m 54 2) b + 0))) (by omega)
            rw [hs, if_neg (by omega)] at this
            exact ⟨by constructor <;> omega, this⟩
          · have h2 : (spl (splV (m 54 1) (m 54 2) sw sd b) n).1 < (n : Int) * fit sd (m 54 2) b + 0 := h2
            have := ih (n + 1) (some (vI (sw - (n : Int) * (m 54 1 + b)))) (some (vI ((n : Int) * fit sd (m 54 2) b + 0))) (by omega)
            rw [hs, if_pos (by omega), ev] at this
            exact ⟨by constructor <;> omega, this⟩
        · refine kCall_mono (c_X12_room _ m (sw - (n : Int) * (m 54 1 + b)) (m 54 2) b (by have h6 : 0 < sw - (n : Int) * (m 54 1 + b) := h6; omega) hd hb) (Nat.le_of_ble_eq_true rfl) ?_
          rintro _ m ⟨rfl, rfl⟩
          refine ⟨by constructor <;> omega, by constructor <;> omega, ?_⟩
          refine And.intro (fun h2 => ?_) (fun h2 => ?_)
          · have h2 : splV (m 54 1) (m 54 2) sw sd b n ≤ (spl (splV (m 54 1) (m 54 2) sw sd b) n).1 := h2
            have := ih (n + 1) (some (vI (sw - (n : Int) * (m 54 1 + b)))) (some (vI (splV (m 54 1) (m 54 2) sw sd b n))) (by omega)
            rw [hs, if_neg (by omega)] at this
            exact ⟨by constructor <;> omega, this⟩
          · have h2 : (spl (splV (m 54 1) (m 54 2) sw sd b) n).1 < splV (m 54 1) (m 54 2) sw sd b n := h2
            have := ih (n + 1) (some (vI (sw - (n : Int) * (m 54 1 + b)))) (some (vI (splV (m 54 1) (m 54 2) sw sd b n))) (by omega)
            rw [hs, if_pos h2] at this
            exact ⟨by constructor <;> omega, this⟩
    exact loop ((fit sw (m 54 1) b).toNat + 1) 0 none none (by omega)
  · have h5 : a < 2 := h5
    refine And.intro (fun h6 => ?_) (fun h6 => ?_)
    · have h6 : ¬ a = 1 := h6
      rw [if_pos (by omega)] at hyes
      exact hyes
    · have h6 : a = 1 := h6
      rw [if_neg (by omega), if_pos h6] at hyes
      refine And.intro (fun h11 => ?_) (fun h11 => ?_)
      · rw [if_neg (Int.not_lt.mpr h11)] at hyes
        exact hyes
      · rw [if_pos h11] at hyes
        exact hyes
