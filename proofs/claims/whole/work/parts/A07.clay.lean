/-! the class lays a net, and tries its cost -/
theorem joi_cg {w d l N n : Int} {c c' : Mem} (h4 : c' 14 = c 14) (h8 : c' 18 = c 18) (h9 : c' 19 = c 19) : joi w d l N n c' = joi w d l N n c := by
  funext x
  unfold joi stJ mvB
  rw [h4, h8, h9]
theorem LRw_cong {w d l N n mv : Int} {F : Int → Prop} {cs : Int → Int → Int} {be : Int} : ∀ {j : Nat} {p : Int} {c c2 : Mem} {s : Int} {r : Option Int} {c1 : Mem}, c2 14 = c 14 → c2 17 = c 17 → c2 18 = c 18 → c2 19 = c 19 → LRw w d l N n mv F cs be j p c s r c1 → ∃ c3, LRw w d l N n mv F cs be j p c2 s r c3 ∧ c3 17 = c1 17 ∧ c3 19 = c1 19 ∧ ∀ o, o ≠ 17 → o ≠ 19 → c3 o = c2 o ∧ c1 o = c o
  | 0, p, c, c2, s, r, c1, h4, h7, h8, h9, h => by
    obtain ⟨rfl, rfl⟩ := h
    exact ⟨c2, ⟨rfl, rfl⟩, h7, h9, fun _ _ _ => ⟨rfl, rfl⟩⟩
  | j + 1, p, c, c2, s, r, c1, h4, h7, h8, h9, h => by
    have ej : joi w d l N n c2 = joi w d l N n c := joi_cg h4 h8 h9
    rcases h with ⟨a1, a2⟩ | ⟨a1, a2, a3, a4⟩ | ⟨a1, C, q, ks, a2, a3, a4⟩
    · obtain ⟨c3, b1, b2⟩ := LRw_cong h4 h7 h8 h9 a2
      exact ⟨c3, Or.inl ⟨by rw [ej, h4]; exact a1, b1⟩, b2⟩
    · subst a4
      exact ⟨c2, Or.inr (Or.inl ⟨by rw [ej, h4]; exact a1, by rw [ej, h4]; exact a2, a3, rfl⟩), h7, h9, fun _ _ _ => ⟨rfl, rfl⟩⟩
    · have hcg := adP_cong (w := w) (d := d) (l := l) (N := N) (n := n) ks (c 14 (n * 4 + p)) h9 h7
      have hne : ∀ (M : Mem) o, o ≠ 17 → o ≠ 19 → adP w d l N n ks (c 14 (n * 4 + p)) M o = M o := fun M o h1 h2 => adP_ne h2 h1 _ _ _
      obtain ⟨c3, b1, b2, b3, b4⟩ := LRw_cong (c2 := adP w d l N n ks (c 14 (n * 4 + p)) c2) (by rw [hne _ 14 (by decide) (by decide), hne _ 14 (by decide) (by decide)]; exact h4) hcg.2 (by rw [hne _ 18 (by decide) (by decide), hne _ 18 (by decide) (by decide)]; exact h8) hcg.1 a4
      refine ⟨c3, Or.inr (Or.inr ⟨by rw [ej, h4]; exact a1, C, q, ks, by rw [ej, h4]; exact a2, by rw [ej, h4]; exact a3, by rw [h4]; exact b1⟩), b2, b3, fun o h1 h2 => ?_⟩
      rw [(b4 o h1 h2).1, (b4 o h1 h2).2, hne _ o h1 h2, hne _ o h1 h2]
      exact ⟨rfl, rfl⟩
theorem LRw_ne {w d l N n mv : Int} {F : Int → Prop} {cs : Int → Int → Int} {be : Int} : ∀ {j : Nat} {p : Int} {c : Mem} {s : Int} {r : Option Int} {c1 : Mem}, LRw w d l N n mv F cs be j p c s r c1 → ∀ o, o ≠ 17 → o ≠ 19 → c1 o = c o := by
  intro j p c s r c1 h o h1 h2
  obtain ⟨c3, -, -, -, b⟩ := LRw_cong rfl rfl rfl rfl h
  exact (b o h1 h2).2
/-- nothing is written off the board -/
theorem adP_out {w d l n : Int} (hn : 0 ≤ n ∧ n < 8) : ∀ {ks : List Int} {x : Int} {c : Mem}, inC w d l x → okm w d l ks x → (∀ j, ¬ (0 ≤ j ∧ j < w * d * l * 8) → adP w d l (w * d * l) n ks x c 19 j = c 19 j) ∧ ∀ j, ¬ inC w d l j → adP w d l (w * d * l) n ks x c 17 j = c 17 j
  | [], _, _, _, _ => ⟨fun _ _ => rfl, fun _ _ => rfl⟩
  | k :: ks, x, c, hx, hok => by
    obtain ⟨o1, o2, o3⟩ := hok
    have hyi := (nx_in o2).1
    have hself := nx_self o1 o2
    obtain ⟨h1, h2⟩ := adP_out hn (ks := ks) (x := nx w d l x k) (c := jn 19 17 (n * (w * d * l)) n x k (nx w d l x k) c) hyi o3
    have hb : ∀ z, inC w d l z → 0 ≤ n * (w * d * l) + z ∧ n * (w * d * l) + z < w * d * l * 8 := by
      intro z hz
      obtain ⟨z1, z2⟩ := hz
      have := Int.mul_nonneg hn.1 (show 0 ≤ w * d * l by omega)
      have h7 : n * (w * d * l) ≤ 7 * (w * d * l) := Int.mul_le_mul_of_nonneg_right (by omega) (by omega)
      omega
    have hbx := hb x hx
    have hby := hb _ hyi
    refine ⟨fun j hj => ?_, fun j hj => ?_⟩
    · show adP w d l (w * d * l) n ks (nx w d l x k) (jn 19 17 (n * (w * d * l)) n x k (nx w d l x k) c) 19 j = c 19 j
      rw [h1 j hj, jn_19 (fun z => hself z.symm), if_neg (fun z => hj (by rw [z]; exact hby)), if_neg (fun z => hj (by rw [z]; exact hbx))]
    · show adP w d l (w * d * l) n ks (nx w d l x k) (jn 19 17 (n * (w * d * l)) n x k (nx w d l x k) c) 17 j = c 17 j
      rw [h2 j hj, jn_17 (fun z => hself z.symm), if_neg (fun z => hj (by rw [z]; exact hyi)), if_neg (fun z => hj (by rw [z]; exact hx))]
theorem LRw_out {w d l n mv : Int} {F : Int → Prop} {cs : Int → Int → Int} {be : Int} (hn : 0 ≤ n ∧ n < 8) (hmv : mv ≤ 6) : ∀ {j : Nat} {p : Int} {c : Mem} {s : Int} {r : Option Int} {c1 : Mem}, (∀ q, (p ≤ q ∧ q < p + j) → inC w d l (c 14 (n * 4 + q))) → LRw w d l (w * d * l) n mv F cs be j p c s r c1 → (∀ i, ¬ (0 ≤ i ∧ i < w * d * l * 8) → c1 19 i = c 19 i) ∧ ∀ i, ¬ inC w d l i → c1 17 i = c 17 i
  | 0, p, c, s, r, c1, _, h => by rw [h.2]; exact ⟨fun _ _ => rfl, fun _ _ => rfl⟩
  | j + 1, p, c, s, r, c1, hp, h => by
    rcases h with ⟨a1, a2⟩ | ⟨a1, a2, a3, a4⟩ | ⟨a1, C, q, ks, a2, a3, a4⟩
    · exact LRw_out hn hmv (fun q hq => hp q (by omega)) a2
    · rw [a4]; exact ⟨fun _ _ => rfl, fun _ _ => rfl⟩
    · have e14 : adP w d l (w * d * l) n ks (c 14 (n * 4 + p)) c 14 = c 14 := adP_ne (by decide) (by decide) _ _ _
      have hxi := hp p (by omega)
      have hok := row_okm hmv (pth_row a3 a2).1
      obtain ⟨h1, h2⟩ := LRw_out hn hmv (fun q hq => by rw [e14]; exact hp q (by omega)) a4
      obtain ⟨g1, g2⟩ := adP_out (n := n) hn (c := c) hxi hok
      exact ⟨fun i hi => by rw [h1 i hi, g1 i hi], fun i hi => by rw [h2 i hi, g2 i hi]⟩
/-- the free cells behind a look and a mark with no net gone, as when the net's own traces are gone -/
theorem free_rm {w d l : Int} {X : Xv} {c m : Mem} {n : Int} (hD : okD w d l) (hn : w * d * l = (nC X : Int)) (hs : srt c) (hnn : 0 ≤ n ∧ n < c 9 14) {x : Int} (hx : inC w d l x) : frT w d l (qC n 0 0) c n 0 x ↔ frT w d l (fun _ => True) (rmT (w * d * l) n c) n 0 x := by
  have ha := hs.1
  refine frT_rm (by omega) ha.2 (fun z => z.elim (fun z => z.2 rfl) (fun z => z.1 rfl)) (fun o ho hon => ⟨fun _ => trivial, fun _ => Or.inr ⟨hon, bt_zero _⟩⟩) hx
theorem stG_stR {w d l v : Int} {m : Mem} {F : Int → Prop} (hF : ∀ x, inC w d l x → (m 27 x ≠ 0 ↔ F x)) {a b : Int} : stG w d l m v a b ↔ stR w d l F v a b := by
  constructor
  · rintro ⟨k, hk, rfl, hne, hf⟩
    exact ⟨k, hk, rfl, hne, (hF _ (nx_in hne).1).mp hf⟩
  · rintro ⟨k, hk, rfl, hne, hf⟩
    exact ⟨k, hk, rfl, hne, (hF _ (nx_in hne).1).mpr hf⟩
theorem jnP_R {w d l v n : Int} {m : Mem} {F : Int → Prop} (hF : ∀ x, inC w d l x → (m 27 x ≠ 0 ↔ F x)) : jnP w d l m n v ↔ ∀ p : Int, (0 ≤ p ∧ p < m 13 n) → Rch (stR w d l F v) (m 14 (n * 4)) (m 14 (n * 4 + p)) := by
  unfold jnP
  constructor
  · intro h p hp
    exact Rch_mono (fun a b => (stG_stR hF).mp) (h p hp)
  · intro h p hp
    exact Rch_mono (fun a b => (stG_stR hF).mpr) (h p hp)
