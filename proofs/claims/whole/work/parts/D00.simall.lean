/-! all 42 methods, call after call -/
theorem LT_0 {w d l : Int} {f t row : Int → Int} {q : Int} (hq : q = 0) (h : ∀ x, inC w d l x → row x = 0) : LT w d l f t q row := by
  subst hq
  refine ⟨⟨by omega, fun i hi => by omega, fun i j hi => by omega⟩, fun x k hx hk hne => ?_⟩
  rw [h x hx, bt_zero]
  constructor
  · intro h; cases h
  · rintro ⟨i, hi, -⟩; omega
theorem Inv_0 {X : Xv} {w d l : Int} {m : Mem} (hD : okD w d l) (hN : w * d * l = (nC X : Int)) (hl : l = (nL X : Int)) (h : initM w d l m) : Inv X w d l m := by
  obtain ⟨⟨hG, b6, b6z, bz, b41, b47, -⟩, r1, r2, r3, rz, rzz, r88, -⟩ := h
  have z : ∀ o, 7 ≤ o → o < 54 → o ≠ 41 → o ≠ 47 → ∀ i, m o i = 0 := fun o a b c e i => bz o a b c e i
  have zz : ∀ o, 55 ≤ o → o < 92 → o ≠ 88 → ∀ i, m o i = 0 := rzz
  have e13 : m 9 13 = 0 := z 9 (by decide) (by decide) (by decide) (by decide) 13
  have e14 : m 9 14 = 0 := z 9 (by decide) (by decide) (by decide) (by decide) 14
  have hll := hD.2.2
  have hp : ∀ n x, ¬ pinT m n x := by
    rintro n x ⟨p, hp, -⟩
    rw [z 13 (by decide) (by decide) (by decide) (by decide) n] at hp
    omega
  have hWn : ∀ n : Int, (0 ≤ n ∧ n < 8) → WFn w d l m n := by
    intro n hn
    have z18 : ∀ i, m 18 i = 0 := z 18 (by decide) (by decide) (by decide) (by decide)
    have z19 : ∀ i, m 19 i = 0 := z 19 (by decide) (by decide) (by decide) (by decide)
    refine ⟨fun x hx => ⟨?_, fun k hk hne => ?_, ?_, ?_⟩, fun _ x hx => ⟨z18 _, z19 _⟩⟩
    · rw [z18, z19]; omega
    · rw [z18, z19]; exact ⟨bt_zero _, bt_zero _⟩
    · rw [z19, z 17 (by decide) (by decide) (by decide) (by decide) x, bt_zero]
      exact ⟨fun h => Bool.noConfusion h, fun h => absurd rfl h⟩
    · rw [z18, z 16 (by decide) (by decide) (by decide) (by decide) x, bt_zero]
      exact ⟨fun h => Bool.noConfusion h, fun h => h.elim (fun h => absurd rfl h) (fun h => absurd h (hp n x))⟩
  have hWF : WF w d l m := by
    refine ⟨⟨by omega, by omega, fun s hs => by omega, fun n hn => by omega, fun n _ => ?_⟩, ⟨fun n _ => ⟨?_, fun _ => z 13 (by decide) (by decide) (by decide) (by decide) n⟩, fun n p _ hp => ?_, fun n p n' p' _ hp => ?_⟩, hWn, fun x _ => ?_, fun x => Or.inl (z 15 (by decide) (by decide) (by decide) (by decide) x), ⟨?_, fun i hi => ?_⟩, fun j hj => ?_⟩
    · rw [z 12 (by decide) (by decide) (by decide) (by decide) n]; omega
    · rw [z 13 (by decide) (by decide) (by decide) (by decide) n]; omega
    · rw [z 13 (by decide) (by decide) (by decide) (by decide) n] at hp; omega
    · rw [z 13 (by decide) (by decide) (by decide) (by decide) n] at hp; omega
    · rw [z 16 (by decide) (by decide) (by decide) (by decide) x, z 17 (by decide) (by decide) (by decide) (by decide) x]; omega
    · rw [b6z 3 (by decide)]; omega
    · rw [b6z 3 (by decide)] at hi; omega
    · obtain ⟨c1, c2⟩ := b47 (by decide)
      by_cases e : j = 0
      · rw [e, c1]; omega
      · rw [c2 j (by omega) (by omega)]; omega
  have hRRs : RRs w d l m m := by
    obtain ⟨c1, c2⟩ := b47 (by decide)
    refine ⟨⟨r1, r2, r3, hD⟩, ⟨?_, fun i hi => ?_⟩, ⟨?_, fun s hs => ?_⟩, ⟨?_, fun n hn => ?_⟩, fun n hn => ⟨?_, ?_, fun p hp => ?_⟩, ⟨fun x hx => ?_, fun j => Or.inl (zz 71 (by decide) (by decide) (by decide) j)⟩, ?_, fun k hk => ?_⟩
    · rw [rz 5 (by decide) (by decide) (by decide), b6z 3 (by decide)]
    · rw [b6z 3 (by decide)] at hi; omega
    · rw [rz 13 (by decide) (by decide) (by decide), e13]
    · omega
    · rw [rz 26 (by decide) (by decide) (by decide), e14]
    · omega
    · rw [zz 62 (by decide) (by decide) (by decide), z 12 (by decide) (by decide) (by decide) (by decide)]
    · rw [zz 63 (by decide) (by decide) (by decide), z 13 (by decide) (by decide) (by decide) (by decide)]
    · rw [z 13 (by decide) (by decide) (by decide) (by decide) n] at hp; omega
    · rw [zz 71 (by decide) (by decide) (by decide), z 15 (by decide) (by decide) (by decide) (by decide)]
    · rw [r88.2.2.2.2, c1]
    · rw [c2 (k + 1) (by omega) (by omega)]
      have : k = 0 ∨ k = 1 ∨ k = 2 ∨ k = 3 := by omega
      rcases this with rfl | rfl | rfl | rfl
      · exact r88.1
      · exact r88.2.1
      · exact r88.2.2.1
      · exact r88.2.2.2.1
  have hRRn : ∀ n : Int, (0 ≤ n ∧ n < 8) → RRn w d l m m n := by
    intro n hn
    have z65 : m 65 n = 0 := zz 65 (by decide) (by decide) (by decide) n
    have z68 : m 68 n = 0 := zz 68 (by decide) (by decide) (by decide) n
    have z72 : ∀ j, m 72 j = 0 := zz 72 (by decide) (by decide) (by decide)
    refine ⟨LT_0 z65 (fun x _ => z 18 (by decide) (by decide) (by decide) (by decide) _), fun i hi => by omega, LT_0 z68 (fun x _ => z 19 (by decide) (by decide) (by decide) (by decide) _), ⟨fun _ => z68, fun h => ?_⟩, fun x _ => ?_, fun j _ _ => z72 _⟩
    · rw [z 13 (by decide) (by decide) (by decide) (by decide) n] at h; omega
    · rw [z72, z 16 (by decide) (by decide) (by decide) (by decide) x, z 17 (by decide) (by decide) (by decide) (by decide) x, bt_zero, bt_zero, bt_zero]
      exact ⟨by omega, Iff.rfl, Iff.rfl⟩
  have hMK : MK w d l m := by
    intro k hk
    obtain ⟨c7, c8, c9, c10⟩ := b41 (by decide)
    rw [c7 k hk, c8 k hk, c9 k hk, c10 k hk]
    simp only [decide_eq_true_eq]
    by_cases hq : (k : Int) < w * d * l ∧ k < 24
    · have hg := hG.2.2.2.2.2 (k : Int) ⟨by omega, hq.1⟩
      rw [hg.1, hg.2.1]
      have hm : (k : Int) < min (w * d * l) 24 := by omega
      exact ⟨⟨fun h => ⟨hq, h.2⟩, fun h => ⟨hm, h.2⟩⟩, ⟨fun h => ⟨hq, h.2⟩, fun h => ⟨hm, h.2⟩⟩, ⟨fun h => ⟨hq, h.2⟩, fun h => ⟨hm, h.2⟩⟩, ⟨fun h => ⟨hq, h.2⟩, fun h => ⟨hm, h.2⟩⟩⟩
    · have hm : ¬ (k : Int) < min (w * d * l) 24 := by omega
      exact ⟨⟨fun h => absurd h.1 hm, fun h => absurd h.1 hq⟩, ⟨fun h => absurd h.1 hm, fun h => absurd h.1 hq⟩, ⟨fun h => absurd h.1 hm, fun h => absurd h.1 hq⟩, ⟨fun h => absurd h.1 hm, fun h => absurd h.1 hq⟩⟩
  exact ⟨⟨hD, hN, hG⟩, hl, hWF, ⟨hRRs, hRRn, rz 28 (by decide) (by decide) (by decide), rz 30 (by decide) (by decide) (by decide)⟩, ⟨b6, hMK⟩, fun y _ => z 31 (by decide) (by decide) (by decide) (by decide) y⟩
theorem sim_all (T : Nat) : SimOK T := by
  intro X w d l hD hN hl hxs
  refine ⟨fun _ m => Inv X w d l m, ?_, fun m hm => Inv_0 hD hN hl hm⟩
  intro t m _ hI
  have h13 := hI.2.2.1.1.1
  exact ⟨h13, hI, fun a b c d e _ _ _ _ _ => pair_feed X m hI a b c d e, fun a _ => pair_end X m hI a, pair_fault X m hI, pair_sort X m hI, fun k j _ _ m1 h1 => pair_told X m hI k j m1 h1, fun a _ => pair_net X m hI a, fun a b c d _ _ _ _ => pair_pin X m hI a b c d, fun a b c d e _ _ _ _ he => pair_keep X m hI a b c d e he, fun a b c d e f _ _ _ _ _ _ => pair_wire X m hI a b c d e f, fun a b c d _ _ _ _ => pair_hole X m hI a b c d, fun a b c _ _ _ => pair_copper X m hI a b c, fun a b c d _ _ _ _ => pair_free X m hI a b c d, fun a _ => pair_lay X m hI a, fun a b _ hb => pair_cost X m hI a b hb, fun a _ => pair_rip X m hI a, fun a b _ _ => pair_rank X m hI a b, pair_order X m hI, fun a b _ _ => pair_press X m hI a b, fun a b _ _ => pair_cut X m hI a b, fun a _ => pair_bars X m hI a, fun a ha => pair_together X m hI a ha, fun a b _ _ => pair_about X m hI a b, fun a b _ _ => pair_stretch X m hI a b, fun a _ => pair_span X m hI a, fun a b ha _ => pair_equal X m hI a b ha, fun a b c _ _ _ => pair_plane X m hI a b c, fun a b _ _ => pair_spokes X m hI a b, fun a b c _ _ _ => pair_back X m hI a b c, fun a b c _ _ _ => pair_wander X m hI a b c, fun a b _ _ => pair_worst X m hI a b, fun a b c d e _ _ _ _ _ => pair_late X m hI a b c d e, fun a _ => pair_netlist X m hI a, fun a _ => pair_test X m hI a, fun a b _ _ => pair_slow X m hI a b, fun a _ => pair_delay X m hI a, fun a b c _ _ _ => pair_pair X m hI a b c, fun a b c _ _ _ => pair_beside X m hI a b c, fun a _ => pair_why X m hI a, pair_steady X m hI, fun a b c d _ _ _ _ => pair_panel X m hI a b c d, fun a _ => pair_unwire X m hI a, fun a _ => pair_count X m hI a⟩
