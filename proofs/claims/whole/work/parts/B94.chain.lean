/-! STRETCH: a path laid is a chain -/
theorem CH_path {w d l x : Int} (hD : okD w d l) {ks : List Int} (hxi : inC w d l x) (hok : okm w d l ks x) (hnd : (x :: vis w d l ks x).Nodup) {f t : Int → Int} (g : ∀ i : Int, (0 ≤ i ∧ i < (ks.length : Int)) → f i = cR w d ((x :: vis w d l ks x).getD i.toNat 0) ∧ t i = cR w d ((x :: vis w d l ks x).getD (i.toNat + 1) 0)) : CH f t (ks.length : Int) (cR w d x) := by
  have hvl := vis_len (w := w) (d := d) (l := l) ks x
  have hget : ∀ i : Nat, i < (x :: vis w d l ks x).length → (x :: vis w d l ks x).getD i 0 ∈ x :: vis w d l ks x := fun i hi => by
    rw [List.getD_eq_getElem?_getD, List.getElem?_eq_getElem hi]
    exact List.getElem_mem hi
  have hinj : ∀ a b : Nat, a < (x :: vis w d l ks x).length → b < (x :: vis w d l ks x).length → cR w d ((x :: vis w d l ks x).getD a 0) = cR w d ((x :: vis w d l ks x).getD b 0) → a = b := by
    intro a b ha hb he
    have := cR_inj hD (okm_in hxi hok (hget a ha)) (okm_in hxi hok (hget b hb)) he
    exact (List.getD_inj ha hb hnd).mp this
  have hlen1 : (x :: vis w d l ks x).length = ks.length + 1 := by simp [hvl]
  refine ⟨fun h0 => ?_, fun i h0 h1 => ?_, fun i j hij he => ?_, fun i hi he => ?_⟩
  · have := (g 0 (by omega)).1
    rw [this]
    rfl
  · have a := (g i (by omega)).2
    have b := (g (i + 1) (by omega)).1
    rw [a, b, show (i + 1).toNat = i.toNat + 1 by omega]
  · have a := (g i (by omega)).1
    have b := (g j (by omega)).1
    rw [a, b] at he
    have := hinj _ _ (by omega) (by omega) he
    omega
  · have a := (g i (by omega)).1
    have b := (g ((ks.length : Int) - 1) (by omega)).2
    rw [a, b] at he
    have := hinj _ _ (by omega) (by omega) he
    omega
