/-! the law's loop (written by wip/whole/genlaw2.py) -/
/-- a call of the class and the same call of the reference: they answer alike, and leave I -/
abbrev kPair (X : Xv) (n1 n2 : Nat) (as : List AV) (m : Mem) (I : Mem → Prop) : Prop := kCall (eX X) 900 n1 (vR 0 :: as) m (fun r m1 => ∃ z, r = some (vI z) ∧ kCall (eX X) 900 n2 (vR 54 :: as) m1 (fun r2 m2 => r2 = some (vI z) ∧ I m2))
/-- all that the law asks of an invariant I (of the number of calls so far) -/
def LawOK (X : Xv) (T : Nat) (I : Nat → Mem → Prop) : Prop := ∀ (t : Nat) (m : Mem), t < T → I t m →
  (0 ≤ m 9 13 ∧ m 9 13 ≤ 6) ∧ I (t + 1) m ∧
  (∀ a b c d e, inR a → inR b → inR c → inR d → inR e → kPair X 130 184 [vI a, vI b, vI c, vI d, vI e] m (I (t + 1))) ∧
    (∀ a, inR a → kPair X 131 185 [vI a] m (I (t + 1))) ∧
    kPair X 132 195 [] m (I (t + 1)) ∧
    kPair X 133 196 [] m (I (t + 1)) ∧
    (∀ k j, inR k → inR j → ∀ m1, ((tdOk m k j ∧ m1 = mset m 92 0 (m 10 (k * 5 + j))) ∨ (¬ tdOk m k j ∧ m1 = m)) → kCall (eX X) 900 197 [vR 54, vI k, vI j] m1 (fun r m2 => ∃ b, r = some (vI b) ∧ kCall (eX X) 900 182 [vR 54] m2 (fun r3 m3 => ∃ u, r3 = some (vI u) ∧ ((tdOk m k j ∧ u = 0 ∧ m3 92 0 = b) ∨ (¬ tdOk m k j ∧ u = 1)) ∧ I (t + 1) m3))) ∧
    (∀ a, inR a → kPair X 135 205 [vI a] m (I (t + 1))) ∧
    (∀ a b c d, inR a → inR b → inR c → inR d → kPair X 136 207 [vI a, vI b, vI c, vI d] m (I (t + 1))) ∧
    (∀ a b c d e, inR a → inR b → inR c → inR d → inR e → kPair X 137 208 [vI a, vI b, vI c, vI d, vI e] m (I (t + 1))) ∧
    (∀ a b c d e f, inR a → inR b → inR c → inR d → inR e → inR f → kPair X 138 211 [vI a, vI b, vI c, vI d, vI e, vI f] m (I (t + 1))) ∧
    (∀ a b c d, inR a → inR b → inR c → inR d → kPair X 139 212 [vI a, vI b, vI c, vI d] m (I (t + 1))) ∧
    (∀ a b c, inR a → inR b → inR c → kPair X 140 214 [vI a, vI b, vI c] m (I (t + 1))) ∧
    (∀ a b c d, inR a → inR b → inR c → inR d → kPair X 141 219 [vI a, vI b, vI c, vI d] m (I (t + 1))) ∧
    (∀ a, inR a → kPair X 142 237 [vI a] m (I (t + 1))) ∧
    (∀ a b, inR a → (b = 0 ∨ b = 1) → kPair X 143 239 [vI a, vI b] m (I (t + 1))) ∧
    (∀ a, inR a → kPair X 144 240 [vI a] m (I (t + 1))) ∧
    (∀ a b, inR a → inR b → kPair X 145 241 [vI a, vI b] m (I (t + 1))) ∧
    kPair X 146 242 [] m (I (t + 1)) ∧
    (∀ a b, inR a → inR b → kPair X 147 249 [vI a, vI b] m (I (t + 1))) ∧
    (∀ a b, inR a → inR b → kPair X 148 254 [vI a, vI b] m (I (t + 1))) ∧
    (∀ a, inR a → kPair X 149 256 [vI a] m (I (t + 1))) ∧
    (∀ a, inR a → kPair X 150 260 [vI a] m (I (t + 1))) ∧
    (∀ a b, inR a → inR b → kPair X 151 262 [vI a, vI b] m (I (t + 1))) ∧
    (∀ a b, inR a → inR b → kPair X 152 268 [vI a, vI b] m (I (t + 1))) ∧
    (∀ a, inR a → kPair X 153 269 [vI a] m (I (t + 1))) ∧
    (∀ a b, inR a → inR b → kPair X 154 270 [vI a, vI b] m (I (t + 1))) ∧
    (∀ a b c, inR a → inR b → inR c → kPair X 155 274 [vI a, vI b, vI c] m (I (t + 1))) ∧
    (∀ a b, inR a → inR b → kPair X 156 275 [vI a, vI b] m (I (t + 1))) ∧
    (∀ a b c, inR a → inR b → inR c → kPair X 157 276 [vI a, vI b, vI c] m (I (t + 1))) ∧
    (∀ a b c, inR a → inR b → inR c → kPair X 158 280 [vI a, vI b, vI c] m (I (t + 1))) ∧
    (∀ a b, inR a → inR b → kPair X 159 281 [vI a, vI b] m (I (t + 1))) ∧
    (∀ a b c d e, inR a → inR b → inR c → inR d → inR e → kPair X 160 285 [vI a, vI b, vI c, vI d, vI e] m (I (t + 1))) ∧
    (∀ a, inR a → kPair X 161 290 [vI a] m (I (t + 1))) ∧
    (∀ a, inR a → kPair X 162 292 [vI a] m (I (t + 1))) ∧
    (∀ a b, inR a → inR b → kPair X 163 293 [vI a, vI b] m (I (t + 1))) ∧
    (∀ a, inR a → kPair X 164 296 [vI a] m (I (t + 1))) ∧
    (∀ a b c, inR a → inR b → inR c → kPair X 165 298 [vI a, vI b, vI c] m (I (t + 1))) ∧
    (∀ a b c, inR a → inR b → inR c → kPair X 166 305 [vI a, vI b, vI c] m (I (t + 1))) ∧
    (∀ a, inR a → kPair X 167 308 [vI a] m (I (t + 1))) ∧
    kPair X 168 310 [] m (I (t + 1)) ∧
    (∀ a b c d, inR a → inR b → inR c → inR d → kPair X 169 312 [vI a, vI b, vI c, vI d] m (I (t + 1))) ∧
    (∀ a, inR a → kPair X 170 313 [vI a] m (I (t + 1))) ∧
    (∀ a, inR a → kPair X 171 314 [vI a] m (I (t + 1)))
set_option maxHeartbeats 16000000 in
set_option maxRecDepth 100000 in
theorem law_loop (X : Xv) (hl : X.1.stackTraces = false) {I : Nat → Mem → Prop} (hlen : X.2.2.2.2.2.1 ≤ 3587) {T : Nat} (hT : X.2.2.2.2.2.1 ≤ 9 + 7 * T) (hI : LawOK X T I) (hxs : ∀ i, inR (X.2.2.2.2.2.2 i))
    {p : Program} {e : Env} {s : State} {mm : MethodId} {args : Array Value} {below : List Frame} {meth : Method} {c : Code} {Qf : State → Prop} {ad0 : Nat → Nat} {n0 : Nat} {A : Nat → Prop}
    (hX : cX (bX X) 2000 M_law p room_1 s mm args meth c ad0 n0 A) (hEx : kEx A s s.heap)
    (hfin : ∀ (ce sl : Nat) (L : KL) (m : Mem), ce ≤ 600002 → sl ≤ 7302198 → cW (bX X) M_law p e room_1 s mm args below meth c ce sl Qf ad0 n0 A (G0 (nC X) (nL X)) (k_pc M_law 67) L [] m) :
    ∀ (k t : Nat) (m : Mem) (x5 x6 : Option AV), t + k = 520 → I t m → cW (bX X) M_law p e room_1 s mm args below meth c (100 + t) (200000 + 6 * t) Qf ad0 n0 A (G0 (nC X) (nL X)) (k_pc M_law 10) [some (vR 1005), some (vR 0), some (vR 54), some (vR 92), some (vI (3 + 7 * (t : Int))), x5, x6] [] m := by
  intro k
  induction k with
  | zero =>
    intro t m x5 x6 ht hIt
    refine l_go hX ok_law (by show 100 + t ≤ 600002; omega) (by show 200000 + 6 * t ≤ 7302198; omega) [10, 16, 19, 66, 67] 14 10 ?_
    refine ⟨by constructor <;> omega, And.intro (fun _ => hfin _ _ _ _ (by omega) (by omega)) (fun hle => ?_)⟩
    have hle : 3 + 7 * (t : Int) ≤ (X.2.2.2.2.2.1 : Int) - 7 := hle
    omega
  | succ k ih =>
    intro t m x5 x6 ht hIt
    have hnext : ∀ (ce sl : Nat) (m' : Mem) (y5 y6 : Option AV), ce ≤ 100 + t + 1 → sl ≤ 200000 + 6 * t + 6 → I (t + 1) m' → cW (bX X) M_law p e room_1 s mm args below meth c ce sl Qf ad0 n0 A (G0 (nC X) (nL X)) (k_pc M_law 66) [some (vR 1005), some (vR 0), some (vR 54), some (vR 92), some (vI (3 + 7 * (t : Int))), y5, y6] [] m' := by
      intro ce sl m' y5 y6 h1 h2 h3
      refine c_widen h1 h2 ?_
      refine l_go hX ok_law (by show 100 + t + 1 ≤ 600002; omega) (by show 200000 + 6 * t + 6 ≤ 7302198; omega) [10, 16, 19, 66, 67] 14 66 ?_
      refine ⟨by constructor <;> omega, ?_⟩
      have := ih (t + 1) m' y5 y6 (by omega) h3
      rw [show 3 + 7 * ((t + 1 : Nat) : Int) = 3 + 7 * (t : Int) + 7 by omega] at this
      exact this
    refine l_go hX ok_law (by show 100 + t ≤ 600002; omega) (by show 200000 + 6 * t ≤ 7302198; omega) [10, 16, 19, 66, 67, 11, 12, 13, 14, 15, 25, 26, 27, 28, 29, 30, 31, 32, 33, 38, 39, 40, 41, 42, 43, 44, 45, 46, 47, 48, 49, 50, 51, 52, 53, 54, 55, 56, 57, 58, 59, 60, 61, 62, 63, 64, 65] 14 10 ?_
    refine ⟨by constructor <;> omega, And.intro (fun _ => hfin _ _ _ _ (by omega) (by omega)) (fun hle => ?_)⟩
    have hle : 3 + 7 * (t : Int) ≤ (X.2.2.2.2.2.1 : Int) - 7 := hle
    obtain ⟨hso, hd, h0, h1, h2, h3, h4, h5, h6, h7, h8, h9, h10, h11, h12, h13, h14, h15, h16, h17, h18, h19, h20, h21, h22, h23, h24, h25, h26, h27, h28, h29, h30, h31, h32, h33, h34, h35, h36, h37, h38, h39, h40, h41⟩ := hI t m (by omega) hIt
    have hn : ∀ (m' : Mem) (y5 y6 : Option AV), I (t + 1) m' → cW (bX X) M_law p e room_1 s mm args below meth c (100 + t) (200000 + 6 * t) Qf ad0 n0 A (G0 (nC X) (nL X)) (k_pc M_law 66) [some (vR 1005), some (vR 0), some (vR 54), some (vR 92), some (vI (3 + 7 * (t : Int))), y5, y6] [] m' := fun m' y5 y6 h => hnext _ _ m' y5 y6 (by omega) (by omega) h
    have hc0 : cW (bX X) M_law p e room_1 s mm args below meth c (100 + t) (200000 + 6 * t) Qf ad0 n0 A (G0 (nC X) (nL X)) (k_pc M_law 11) [some (vR 1005), some (vR 0), some (vR 54), some (vR 92), some (vI (3 + 7 * (t : Int))), x5, x6] [] m := by
      refine l_go hX ok_law (by show 100 + t ≤ 600002; omega) (by show 200000 + 6 * t ≤ 7302198; omega) [10, 16, 19, 66, 67] 14 11 ?_
      refine ⟨by constructor <;> omega, ⟨by omega, by omega⟩, by constructor <;> omega, ⟨by omega, by omega⟩, by constructor <;> omega, ⟨by omega, by omega⟩, by constructor <;> omega, ⟨by omega, by omega⟩, by constructor <;> omega, ⟨by omega, by omega⟩, ?_⟩
      refine kCall_mono (h0 _ _ _ _ _ (hxs _) (hxs _) (hxs _) (hxs _) (hxs _)) (Nat.le_of_ble_eq_true rfl) ?_
      rintro _ m1 ⟨z, rfl, h2⟩
      refine ⟨by constructor <;> omega, ⟨by omega, by omega⟩, by constructor <;> omega, ⟨by omega, by omega⟩, by constructor <;> omega, ⟨by omega, by omega⟩, by constructor <;> omega, ⟨by omega, by omega⟩, by constructor <;> omega, ⟨by omega, by omega⟩, ?_⟩
      refine kCall_mono h2 (Nat.le_of_ble_eq_true rfl) ?_
      rintro _ m2 ⟨rfl, hI2⟩
      exact And.intro (fun _ => hn m2 _ _ hI2) (fun h => absurd rfl h)

    have hc1 : cW (bX X) M_law p e room_1 s mm args below meth c (100 + t) (200000 + 6 * t) Qf ad0 n0 A (G0 (nC X) (nL X)) (k_pc M_law 12) [some (vR 1005), some (vR 0), some (vR 54), some (vR 92), some (vI (3 + 7 * (t : Int))), x5, x6] [] m := by
      refine l_go hX ok_law (by show 100 + t ≤ 600002; omega) (by show 200000 + 6 * t ≤ 7302198; omega) [10, 16, 19, 66, 67] 14 12 ?_
      refine ⟨by constructor <;> omega, ⟨by omega, by omega⟩, ?_⟩
      refine kCall_mono (h1 _ (hxs _)) (Nat.le_of_ble_eq_true rfl) ?_
      rintro _ m1 ⟨z, rfl, h2⟩
      refine ⟨by constructor <;> omega, ⟨by omega, by omega⟩, ?_⟩
      refine kCall_mono h2 (Nat.le_of_ble_eq_true rfl) ?_
      rintro _ m2 ⟨rfl, hI2⟩
      exact And.intro (fun _ => hn m2 _ _ hI2) (fun h => absurd rfl h)

    have hc2 : cW (bX X) M_law p e room_1 s mm args below meth c (100 + t) (200000 + 6 * t) Qf ad0 n0 A (G0 (nC X) (nL X)) (k_pc M_law 13) [some (vR 1005), some (vR 0), some (vR 54), some (vR 92), some (vI (3 + 7 * (t : Int))), x5, x6] [] m := by
      refine l_go hX ok_law (by show 100 + t ≤ 600002; omega) (by show 200000 + 6 * t ≤ 7302198; omega) [10, 16, 19, 66, 67] 14 13 ?_
      refine kCall_mono h2 (Nat.le_of_ble_eq_true rfl) ?_
      rintro _ m1 ⟨z, rfl, h2⟩
      refine kCall_mono h2 (Nat.le_of_ble_eq_true rfl) ?_
      rintro _ m2 ⟨rfl, hI2⟩
      exact And.intro (fun _ => hn m2 _ _ hI2) (fun h => absurd rfl h)

    have hc3 : cW (bX X) M_law p e room_1 s mm args below meth c (100 + t) (200000 + 6 * t) Qf ad0 n0 A (G0 (nC X) (nL X)) (k_pc M_law 14) [some (vR 1005), some (vR 0), some (vR 54), some (vR 92), some (vI (3 + 7 * (t : Int))), x5, x6] [] m := by
      refine l_go hX ok_law (by show 100 + t ≤ 600002; omega) (by show 200000 + 6 * t ≤ 7302198; omega) [10, 16, 19, 66, 67] 14 14 ?_
      refine kCall_mono h3 (Nat.le_of_ble_eq_true rfl) ?_
      rintro _ m1 ⟨z, rfl, h2⟩
      refine kCall_mono h2 (Nat.le_of_ble_eq_true rfl) ?_
      rintro _ m2 ⟨rfl, hI2⟩
      exact And.intro (fun _ => hn m2 _ _ hI2) (fun h => absurd rfl h)

    have hc4 : cW (bX X) M_law p e room_1 s mm args below meth c (100 + t) (200000 + 6 * t) Qf ad0 n0 A (G0 (nC X) (nL X)) (k_pc M_law 15) [some (vR 1005), some (vR 0), some (vR 54), some (vR 92), some (vI (3 + 7 * (t : Int))), x5, x6] [] m := by
      have htold : cW (bX X) M_law p e room_1 s mm args below meth c (100 + t) (200000 + 6 * t) Qf ad0 n0 A (G0 (nC X) (nL X)) (k_pc M_law 16) [some (vR 1005), some (vR 0), some (vR 54), some (vR 92), some (vI (3 + 7 * (t : Int))), x5, x6] [vR 92, vI (X.2.2.2.2.2.2 (3 + 7 * (t : Int) + 2)), vI (X.2.2.2.2.2.2 (3 + 7 * (t : Int) + 1)), vR 0] m := by
        refine c_toldL hX rfl hl hEx (hxs _) (hxs _) hso (by decide +kernel) rfl (by decide) (by show 100 + t + 1 ≤ 600002; omega) (by show 200000 + 6 * t + 6 ≤ 7302198; omega) (fun r m1 hr => ?_)
        refine l_go hX ok_law (by show 100 + t + 1 ≤ 600002; omega) (by show 200000 + 6 * t + 6 ≤ 7302198; omega) [10, 16, 19, 66, 67] 14 17 ?_
        refine ⟨by constructor <;> omega, ⟨by omega, by omega⟩, by constructor <;> omega, ⟨by omega, by omega⟩, ?_⟩
        refine kCall_mono (h4 _ _ (hxs _) (hxs _) m1 (by rcases hr with ⟨a, -, b⟩ | ⟨a, -, b⟩; exact Or.inl ⟨a, b⟩; exact Or.inr ⟨a, b⟩)) (Nat.le_of_ble_eq_true rfl) ?_
        rintro _ m2 ⟨b, rfl, h3⟩
        refine kCall_mono h3 (Nat.le_of_ble_eq_true rfl) ?_
        rintro _ m3 ⟨u, rfl, hu, hI3⟩
        have hur : u = r := by
          rcases hr with ⟨a, r0, -⟩ | ⟨a, r0, -⟩
          · rcases hu with ⟨-, u0, -⟩ | ⟨a', -⟩
            · omega
            · exact absurd a a'
          · rcases hu with ⟨a', -⟩ | ⟨-, u0⟩
            · exact absurd a' a
            · omega
        have hlast : cW (bX X) M_law p e room_1 s mm args below meth c (100 + t + 1) (200000 + 6 * t + 6) Qf ad0 n0 A (G0 (nC X) (nL X)) (k_pc M_law 24) [some (vR 1005), some (vR 0), some (vR 54), some (vR 92), some (vI (3 + 7 * (t : Int))), some (vI r), some (vI b)] [] m3 := by
          refine l_go hX ok_law (by show 100 + t + 1 ≤ 600002; omega) (by show 200000 + 6 * t + 6 ≤ 7302198; omega) [10, 16, 19, 66, 67] 14 24 ?_
          exact hnext _ _ m3 _ _ (Nat.le_refl _) (Nat.le_refl _) hI3
        refine And.intro (fun _ => And.intro (fun h0 => ?_) (fun h0 => ?_)) (fun h => absurd hur h)
        · exact hnext _ _ m3 _ _ (Nat.le_refl _) (Nat.le_refl _) hI3
        · have h0 : r = 0 := h0
          have hb : m3 92 0 = b := by
            rcases hu with ⟨-, -, hb⟩ | ⟨-, u1⟩
            · exact hb
            · omega
          have hcmp : cW (bX X) M_law p e room_1 s mm args below meth c (100 + t + 1) (200000 + 6 * t + 6) Qf ad0 n0 A (G0 (nC X) (nL X)) (k_pc M_law 19) [some (vR 1005), some (vR 0), some (vR 54), some (vR 92), some (vI (3 + 7 * (t : Int))), some (vI r), some (vI b)] [vI 0, vR 92] m3 := by
            refine c_lsame hX hb (by decide +kernel) (by decide +kernel) (by decide +kernel) (by decide +kernel) ?_
            refine l_go hX ok_law (by show 100 + t + 1 ≤ 600002; omega) (by show 200000 + 6 * t + 6 ≤ 7302198; omega) [10, 16, 19, 66, 67] 14 23 ?_
            exact And.intro (fun _ => hnext _ _ m3 _ _ (Nat.le_refl _) (Nat.le_refl _) hI3) (fun h => absurd rfl h)
          exact hcmp
      refine l_go hX ok_law (by show 100 + t ≤ 600002; omega) (by show 200000 + 6 * t ≤ 7302198; omega) [10, 16, 19, 66, 67] 14 15 ?_
      exact ⟨by constructor <;> omega, ⟨by omega, by omega⟩, by constructor <;> omega, ⟨by omega, by omega⟩, htold⟩

    have hc5 : cW (bX X) M_law p e room_1 s mm args below meth c (100 + t) (200000 + 6 * t) Qf ad0 n0 A (G0 (nC X) (nL X)) (k_pc M_law 25) [some (vR 1005), some (vR 0), some (vR 54), some (vR 92), some (vI (3 + 7 * (t : Int))), x5, x6] [] m := by
      refine l_go hX ok_law (by show 100 + t ≤ 600002; omega) (by show 200000 + 6 * t ≤ 7302198; omega) [10, 16, 19, 66, 67] 14 25 ?_
      refine ⟨by constructor <;> omega, ⟨by omega, by omega⟩, ?_⟩
      refine kCall_mono (h5 _ (hxs _)) (Nat.le_of_ble_eq_true rfl) ?_
      rintro _ m1 ⟨z, rfl, h2⟩
      refine ⟨by constructor <;> omega, ⟨by omega, by omega⟩, ?_⟩
      refine kCall_mono h2 (Nat.le_of_ble_eq_true rfl) ?_
      rintro _ m2 ⟨rfl, hI2⟩
      exact And.intro (fun _ => hn m2 _ _ hI2) (fun h => absurd rfl h)

    have hc6 : cW (bX X) M_law p e room_1 s mm args below meth c (100 + t) (200000 + 6 * t) Qf ad0 n0 A (G0 (nC X) (nL X)) (k_pc M_law 26) [some (vR 1005), some (vR 0), some (vR 54), some (vR 92), some (vI (3 + 7 * (t : Int))), x5, x6] [] m := by
      refine l_go hX ok_law (by show 100 + t ≤ 600002; omega) (by show 200000 + 6 * t ≤ 7302198; omega) [10, 16, 19, 66, 67] 14 26 ?_
      refine ⟨by constructor <;> omega, ⟨by omega, by omega⟩, by constructor <;> omega, ⟨by omega, by omega⟩, by constructor <;> omega, ⟨by omega, by omega⟩, by constructor <;> omega, ⟨by omega, by omega⟩, ?_⟩
      refine kCall_mono (h6 _ _ _ _ (hxs _) (hxs _) (hxs _) (hxs _)) (Nat.le_of_ble_eq_true rfl) ?_
      rintro _ m1 ⟨z, rfl, h2⟩
      refine ⟨by constructor <;> omega, ⟨by omega, by omega⟩, by constructor <;> omega, ⟨by omega, by omega⟩, by constructor <;> omega, ⟨by omega, by omega⟩, by constructor <;> omega, ⟨by omega, by omega⟩, ?_⟩
      refine kCall_mono h2 (Nat.le_of_ble_eq_true rfl) ?_
      rintro _ m2 ⟨rfl, hI2⟩
      exact And.intro (fun _ => hn m2 _ _ hI2) (fun h => absurd rfl h)

    have hc7 : cW (bX X) M_law p e room_1 s mm args below meth c (100 + t) (200000 + 6 * t) Qf ad0 n0 A (G0 (nC X) (nL X)) (k_pc M_law 27) [some (vR 1005), some (vR 0), some (vR 54), some (vR 92), some (vI (3 + 7 * (t : Int))), x5, x6] [] m := by
      refine l_go hX ok_law (by show 100 + t ≤ 600002; omega) (by show 200000 + 6 * t ≤ 7302198; omega) [10, 16, 19, 66, 67] 14 27 ?_
      refine ⟨by constructor <;> omega, ⟨by omega, by omega⟩, by constructor <;> omega, ⟨by omega, by omega⟩, by constructor <;> omega, ⟨by omega, by omega⟩, by constructor <;> omega, ⟨by omega, by omega⟩, by constructor <;> omega, ⟨by omega, by omega⟩, ?_⟩
      refine kCall_mono (h7 _ _ _ _ _ (hxs _) (hxs _) (hxs _) (hxs _) (hxs _)) (Nat.le_of_ble_eq_true rfl) ?_
      rintro _ m1 ⟨z, rfl, h2⟩
      refine ⟨by constructor <;> omega, ⟨by omega, by omega⟩, by constructor <;> omega, ⟨by omega, by omega⟩, by constructor <;> omega, ⟨by omega, by omega⟩, by constructor <;> omega, ⟨by omega, by omega⟩, by constructor <;> omega, ⟨by omega, by omega⟩, ?_⟩
      refine kCall_mono h2 (Nat.le_of_ble_eq_true rfl) ?_
      rintro _ m2 ⟨rfl, hI2⟩
      exact And.intro (fun _ => hn m2 _ _ hI2) (fun h => absurd rfl h)

    have hc8 : cW (bX X) M_law p e room_1 s mm args below meth c (100 + t) (200000 + 6 * t) Qf ad0 n0 A (G0 (nC X) (nL X)) (k_pc M_law 28) [some (vR 1005), some (vR 0), some (vR 54), some (vR 92), some (vI (3 + 7 * (t : Int))), x5, x6] [] m := by
      refine l_go hX ok_law (by show 100 + t ≤ 600002; omega) (by show 200000 + 6 * t ≤ 7302198; omega) [10, 16, 19, 66, 67] 14 28 ?_
      refine ⟨by constructor <;> omega, ⟨by omega, by omega⟩, by constructor <;> omega, ⟨by omega, by omega⟩, by constructor <;> omega, ⟨by omega, by omega⟩, by constructor <;> omega, ⟨by omega, by omega⟩, by constructor <;> omega, ⟨by omega, by omega⟩, by constructor <;> omega, ⟨by omega, by omega⟩, ?_⟩
      refine kCall_mono (h8 _ _ _ _ _ _ (hxs _) (hxs _) (hxs _) (hxs _) (hxs _) (hxs _)) (Nat.le_of_ble_eq_true rfl) ?_
      rintro _ m1 ⟨z, rfl, h2⟩
      refine ⟨by constructor <;> omega, ⟨by omega, by omega⟩, by constructor <;> omega, ⟨by omega, by omega⟩, by constructor <;> omega, ⟨by omega, by omega⟩, by constructor <;> omega, ⟨by omega, by omega⟩, by constructor <;> omega, ⟨by omega, by omega⟩, by constructor <;> omega, ⟨by omega, by omega⟩, ?_⟩
      refine kCall_mono h2 (Nat.le_of_ble_eq_true rfl) ?_
      rintro _ m2 ⟨rfl, hI2⟩
      exact And.intro (fun _ => hn m2 _ _ hI2) (fun h => absurd rfl h)

    have hc9 : cW (bX X) M_law p e room_1 s mm args below meth c (100 + t) (200000 + 6 * t) Qf ad0 n0 A (G0 (nC X) (nL X)) (k_pc M_law 29) [some (vR 1005), some (vR 0), some (vR 54), some (vR 92), some (vI (3 + 7 * (t : Int))), x5, x6] [] m := by
      refine l_go hX ok_law (by show 100 + t ≤ 600002; omega) (by show 200000 + 6 * t ≤ 7302198; omega) [10, 16, 19, 66, 67] 14 29 ?_
      refine ⟨by constructor <;> omega, ⟨by omega, by omega⟩, by constructor <;> omega, ⟨by omega, by omega⟩, by constructor <;> omega, ⟨by omega, by omega⟩, by constructor <;> omega, ⟨by omega, by omega⟩, ?_⟩
      refine kCall_mono (h9 _ _ _ _ (hxs _) (hxs _) (hxs _) (hxs _)) (Nat.le_of_ble_eq_true rfl) ?_
      rintro _ m1 ⟨z, rfl, h2⟩
      refine ⟨by constructor <;> omega, ⟨by omega, by omega⟩, by constructor <;> omega, ⟨by omega, by omega⟩, by constructor <;> omega, ⟨by omega, by omega⟩, by constructor <;> omega, ⟨by omega, by omega⟩, ?_⟩
      refine kCall_mono h2 (Nat.le_of_ble_eq_true rfl) ?_
      rintro _ m2 ⟨rfl, hI2⟩
      exact And.intro (fun _ => hn m2 _ _ hI2) (fun h => absurd rfl h)

    have hc10 : cW (bX X) M_law p e room_1 s mm args below meth c (100 + t) (200000 + 6 * t) Qf ad0 n0 A (G0 (nC X) (nL X)) (k_pc M_law 30) [some (vR 1005), some (vR 0), some (vR 54), some (vR 92), some (vI (3 + 7 * (t : Int))), x5, x6] [] m := by
      refine l_go hX ok_law (by show 100 + t ≤ 600002; omega) (by show 200000 + 6 * t ≤ 7302198; omega) [10, 16, 19, 66, 67] 14 30 ?_
      refine ⟨by constructor <;> omega, ⟨by omega, by omega⟩, by constructor <;> omega, ⟨by omega, by omega⟩, by constructor <;> omega, ⟨by omega, by omega⟩, ?_⟩
      refine kCall_mono (h10 _ _ _ (hxs _) (hxs _) (hxs _)) (Nat.le_of_ble_eq_true rfl) ?_
      rintro _ m1 ⟨z, rfl, h2⟩
      refine ⟨by constructor <;> omega, ⟨by omega, by omega⟩, by constructor <;> omega, ⟨by omega, by omega⟩, by constructor <;> omega, ⟨by omega, by omega⟩, ?_⟩
      refine kCall_mono h2 (Nat.le_of_ble_eq_true rfl) ?_
      rintro _ m2 ⟨rfl, hI2⟩
      exact And.intro (fun _ => hn m2 _ _ hI2) (fun h => absurd rfl h)

    have hc11 : cW (bX X) M_law p e room_1 s mm args below meth c (100 + t) (200000 + 6 * t) Qf ad0 n0 A (G0 (nC X) (nL X)) (k_pc M_law 31) [some (vR 1005), some (vR 0), some (vR 54), some (vR 92), some (vI (3 + 7 * (t : Int))), x5, x6] [] m := by
      refine l_go hX ok_law (by show 100 + t ≤ 600002; omega) (by show 200000 + 6 * t ≤ 7302198; omega) [10, 16, 19, 66, 67] 14 31 ?_
      refine ⟨by constructor <;> omega, ⟨by omega, by omega⟩, by constructor <;> omega, ⟨by omega, by omega⟩, by constructor <;> omega, ⟨by omega, by omega⟩, by constructor <;> omega, ⟨by omega, by omega⟩, ?_⟩
      refine kCall_mono (h11 _ _ _ _ (hxs _) (hxs _) (hxs _) (hxs _)) (Nat.le_of_ble_eq_true rfl) ?_
      rintro _ m1 ⟨z, rfl, h2⟩
      refine ⟨by constructor <;> omega, ⟨by omega, by omega⟩, by constructor <;> omega, ⟨by omega, by omega⟩, by constructor <;> omega, ⟨by omega, by omega⟩, by constructor <;> omega, ⟨by omega, by omega⟩, ?_⟩
      refine kCall_mono h2 (Nat.le_of_ble_eq_true rfl) ?_
      rintro _ m2 ⟨rfl, hI2⟩
      exact And.intro (fun _ => hn m2 _ _ hI2) (fun h => absurd rfl h)

    have hc12 : cW (bX X) M_law p e room_1 s mm args below meth c (100 + t) (200000 + 6 * t) Qf ad0 n0 A (G0 (nC X) (nL X)) (k_pc M_law 32) [some (vR 1005), some (vR 0), some (vR 54), some (vR 92), some (vI (3 + 7 * (t : Int))), x5, x6] [] m := by
      refine l_go hX ok_law (by show 100 + t ≤ 600002; omega) (by show 200000 + 6 * t ≤ 7302198; omega) [10, 16, 19, 66, 67] 14 32 ?_
      refine ⟨by constructor <;> omega, ⟨by omega, by omega⟩, ?_⟩
      refine kCall_mono (h12 _ (hxs _)) (Nat.le_of_ble_eq_true rfl) ?_
      rintro _ m1 ⟨z, rfl, h2⟩
      refine ⟨by constructor <;> omega, ⟨by omega, by omega⟩, ?_⟩
      refine kCall_mono h2 (Nat.le_of_ble_eq_true rfl) ?_
      rintro _ m2 ⟨rfl, hI2⟩
      exact And.intro (fun _ => hn m2 _ _ hI2) (fun h => absurd rfl h)

    have hc13 : cW (bX X) M_law p e room_1 s mm args below meth c (100 + t) (200000 + 6 * t) Qf ad0 n0 A (G0 (nC X) (nL X)) (k_pc M_law 33) [some (vR 1005), some (vR 0), some (vR 54), some (vR 92), some (vI (3 + 7 * (t : Int))), x5, x6] [] m := by
      refine l_go hX ok_law (by show 100 + t ≤ 600002; omega) (by show 200000 + 6 * t ≤ 7302198; omega) [10, 16, 19, 66, 67] 14 33 ?_
      refine ⟨by constructor <;> omega, ⟨by omega, by omega⟩, by constructor <;> omega, ⟨by omega, by omega⟩, And.intro (fun g0 => ?_) (fun g0 => ?_)⟩
      · refine kCall_mono (h13 _ 0 (hxs _) (Or.inl rfl)) (Nat.le_of_ble_eq_true rfl) ?_
        rintro _ m1 ⟨z, rfl, h2⟩
        refine ⟨by constructor <;> omega, ⟨by omega, by omega⟩, by constructor <;> omega, ⟨by omega, by omega⟩, And.intro (fun g1 => ?_) (fun g1 => absurd g0 g1)⟩
        refine kCall_mono h2 (Nat.le_of_ble_eq_true rfl) ?_
        rintro _ m2 ⟨rfl, hI2⟩
        exact And.intro (fun _ => hn m2 _ _ hI2) (fun h => absurd rfl h)
      · refine kCall_mono (h13 _ 1 (hxs _) (Or.inr rfl)) (Nat.le_of_ble_eq_true rfl) ?_
        rintro _ m1 ⟨z, rfl, h2⟩
        refine ⟨by constructor <;> omega, ⟨by omega, by omega⟩, by constructor <;> omega, ⟨by omega, by omega⟩, And.intro (fun g1 => absurd g1 g0) (fun g1 => ?_)⟩
        refine kCall_mono h2 (Nat.le_of_ble_eq_true rfl) ?_
        rintro _ m2 ⟨rfl, hI2⟩
        exact And.intro (fun _ => hn m2 _ _ hI2) (fun h => absurd rfl h)

    have hc14 : cW (bX X) M_law p e room_1 s mm args below meth c (100 + t) (200000 + 6 * t) Qf ad0 n0 A (G0 (nC X) (nL X)) (k_pc M_law 38) [some (vR 1005), some (vR 0), some (vR 54), some (vR 92), some (vI (3 + 7 * (t : Int))), x5, x6] [] m := by
      refine l_go hX ok_law (by show 100 + t ≤ 600002; omega) (by show 200000 + 6 * t ≤ 7302198; omega) [10, 16, 19, 66, 67] 14 38 ?_
      refine ⟨by constructor <;> omega, ⟨by omega, by omega⟩, ?_⟩
      refine kCall_mono (h14 _ (hxs _)) (Nat.le_of_ble_eq_true rfl) ?_
      rintro _ m1 ⟨z, rfl, h2⟩
      refine ⟨by constructor <;> omega, ⟨by omega, by omega⟩, ?_⟩
      refine kCall_mono h2 (Nat.le_of_ble_eq_true rfl) ?_
      rintro _ m2 ⟨rfl, hI2⟩
      exact And.intro (fun _ => hn m2 _ _ hI2) (fun h => absurd rfl h)

    have hc15 : cW (bX X) M_law p e room_1 s mm args below meth c (100 + t) (200000 + 6 * t) Qf ad0 n0 A (G0 (nC X) (nL X)) (k_pc M_law 39) [some (vR 1005), some (vR 0), some (vR 54), some (vR 92), some (vI (3 + 7 * (t : Int))), x5, x6] [] m := by
      refine l_go hX ok_law (by show 100 + t ≤ 600002; omega) (by show 200000 + 6 * t ≤ 7302198; omega) [10, 16, 19, 66, 67] 14 39 ?_
      refine ⟨by constructor <;> omega, ⟨by omega, by omega⟩, by constructor <;> omega, ⟨by omega, by omega⟩, ?_⟩
      refine kCall_mono (h15 _ _ (hxs _) (hxs _)) (Nat.le_of_ble_eq_true rfl) ?_
      rintro _ m1 ⟨z, rfl, h2⟩
      refine ⟨by constructor <;> omega, ⟨by omega, by omega⟩, by constructor <;> omega, ⟨by omega, by omega⟩, ?_⟩
      refine kCall_mono h2 (Nat.le_of_ble_eq_true rfl) ?_
      rintro _ m2 ⟨rfl, hI2⟩
      exact And.intro (fun _ => hn m2 _ _ hI2) (fun h => absurd rfl h)

    have hc16 : cW (bX X) M_law p e room_1 s mm args below meth c (100 + t) (200000 + 6 * t) Qf ad0 n0 A (G0 (nC X) (nL X)) (k_pc M_law 40) [some (vR 1005), some (vR 0), some (vR 54), some (vR 92), some (vI (3 + 7 * (t : Int))), x5, x6] [] m := by
      refine l_go hX ok_law (by show 100 + t ≤ 600002; omega) (by show 200000 + 6 * t ≤ 7302198; omega) [10, 16, 19, 66, 67] 14 40 ?_
      refine kCall_mono h16 (Nat.le_of_ble_eq_true rfl) ?_
      rintro _ m1 ⟨z, rfl, h2⟩
      refine kCall_mono h2 (Nat.le_of_ble_eq_true rfl) ?_
      rintro _ m2 ⟨rfl, hI2⟩
      exact And.intro (fun _ => hn m2 _ _ hI2) (fun h => absurd rfl h)

    have hc17 : cW (bX X) M_law p e room_1 s mm args below meth c (100 + t) (200000 + 6 * t) Qf ad0 n0 A (G0 (nC X) (nL X)) (k_pc M_law 41) [some (vR 1005), some (vR 0), some (vR 54), some (vR 92), some (vI (3 + 7 * (t : Int))), x5, x6] [] m := by
      refine l_go hX ok_law (by show 100 + t ≤ 600002; omega) (by show 200000 + 6 * t ≤ 7302198; omega) [10, 16, 19, 66, 67] 14 41 ?_
      refine ⟨by constructor <;> omega, ⟨by omega, by omega⟩, by constructor <;> omega, ⟨by omega, by omega⟩, ?_⟩
      refine kCall_mono (h17 _ _ (hxs _) (hxs _)) (Nat.le_of_ble_eq_true rfl) ?_
      rintro _ m1 ⟨z, rfl, h2⟩
      refine ⟨by constructor <;> omega, ⟨by omega, by omega⟩, by constructor <;> omega, ⟨by omega, by omega⟩, ?_⟩
      refine kCall_mono h2 (Nat.le_of_ble_eq_true rfl) ?_
      rintro _ m2 ⟨rfl, hI2⟩
      exact And.intro (fun _ => hn m2 _ _ hI2) (fun h => absurd rfl h)

    have hc18 : cW (bX X) M_law p e room_1 s mm args below meth c (100 + t) (200000 + 6 * t) Qf ad0 n0 A (G0 (nC X) (nL X)) (k_pc M_law 42) [some (vR 1005), some (vR 0), some (vR 54), some (vR 92), some (vI (3 + 7 * (t : Int))), x5, x6] [] m := by
      refine l_go hX ok_law (by show 100 + t ≤ 600002; omega) (by show 200000 + 6 * t ≤ 7302198; omega) [10, 16, 19, 66, 67] 14 42 ?_
      refine ⟨by constructor <;> omega, ⟨by omega, by omega⟩, by constructor <;> omega, ⟨by omega, by omega⟩, ?_⟩
      refine kCall_mono (h18 _ _ (hxs _) (hxs _)) (Nat.le_of_ble_eq_true rfl) ?_
      rintro _ m1 ⟨z, rfl, h2⟩
      refine ⟨by constructor <;> omega, ⟨by omega, by omega⟩, by constructor <;> omega, ⟨by omega, by omega⟩, ?_⟩
      refine kCall_mono h2 (Nat.le_of_ble_eq_true rfl) ?_
      rintro _ m2 ⟨rfl, hI2⟩
      exact And.intro (fun _ => hn m2 _ _ hI2) (fun h => absurd rfl h)

    have hc19 : cW (bX X) M_law p e room_1 s mm args below meth c (100 + t) (200000 + 6 * t) Qf ad0 n0 A (G0 (nC X) (nL X)) (k_pc M_law 43) [some (vR 1005), some (vR 0), some (vR 54), some (vR 92), some (vI (3 + 7 * (t : Int))), x5, x6] [] m := by
      refine l_go hX ok_law (by show 100 + t ≤ 600002; omega) (by show 200000 + 6 * t ≤ 7302198; omega) [10, 16, 19, 66, 67] 14 43 ?_
      refine ⟨by constructor <;> omega, ⟨by omega, by omega⟩, ?_⟩
      refine kCall_mono (h19 _ (hxs _)) (Nat.le_of_ble_eq_true rfl) ?_
      rintro _ m1 ⟨z, rfl, h2⟩
      refine ⟨by constructor <;> omega, ⟨by omega, by omega⟩, ?_⟩
      refine kCall_mono h2 (Nat.le_of_ble_eq_true rfl) ?_
      rintro _ m2 ⟨rfl, hI2⟩
      exact And.intro (fun _ => hn m2 _ _ hI2) (fun h => absurd rfl h)

    have hc20 : cW (bX X) M_law p e room_1 s mm args below meth c (100 + t) (200000 + 6 * t) Qf ad0 n0 A (G0 (nC X) (nL X)) (k_pc M_law 44) [some (vR 1005), some (vR 0), some (vR 54), some (vR 92), some (vI (3 + 7 * (t : Int))), x5, x6] [] m := by
      refine l_go hX ok_law (by show 100 + t ≤ 600002; omega) (by show 200000 + 6 * t ≤ 7302198; omega) [10, 16, 19, 66, 67] 14 44 ?_
      refine ⟨by constructor <;> omega, ⟨by omega, by omega⟩, ?_⟩
      refine kCall_mono (h20 _ (hxs _)) (Nat.le_of_ble_eq_true rfl) ?_
      rintro _ m1 ⟨z, rfl, h2⟩
      refine ⟨by constructor <;> omega, ⟨by omega, by omega⟩, ?_⟩
      refine kCall_mono h2 (Nat.le_of_ble_eq_true rfl) ?_
      rintro _ m2 ⟨rfl, hI2⟩
      exact And.intro (fun _ => hn m2 _ _ hI2) (fun h => absurd rfl h)

    have hc21 : cW (bX X) M_law p e room_1 s mm args below meth c (100 + t) (200000 + 6 * t) Qf ad0 n0 A (G0 (nC X) (nL X)) (k_pc M_law 45) [some (vR 1005), some (vR 0), some (vR 54), some (vR 92), some (vI (3 + 7 * (t : Int))), x5, x6] [] m := by
      refine l_go hX ok_law (by show 100 + t ≤ 600002; omega) (by show 200000 + 6 * t ≤ 7302198; omega) [10, 16, 19, 66, 67] 14 45 ?_
      refine ⟨by constructor <;> omega, ⟨by omega, by omega⟩, by constructor <;> omega, ⟨by omega, by omega⟩, ?_⟩
      refine kCall_mono (h21 _ _ (hxs _) (hxs _)) (Nat.le_of_ble_eq_true rfl) ?_
      rintro _ m1 ⟨z, rfl, h2⟩
      refine ⟨by constructor <;> omega, ⟨by omega, by omega⟩, by constructor <;> omega, ⟨by omega, by omega⟩, ?_⟩
      refine kCall_mono h2 (Nat.le_of_ble_eq_true rfl) ?_
      rintro _ m2 ⟨rfl, hI2⟩
      exact And.intro (fun _ => hn m2 _ _ hI2) (fun h => absurd rfl h)

    have hc22 : cW (bX X) M_law p e room_1 s mm args below meth c (100 + t) (200000 + 6 * t) Qf ad0 n0 A (G0 (nC X) (nL X)) (k_pc M_law 46) [some (vR 1005), some (vR 0), some (vR 54), some (vR 92), some (vI (3 + 7 * (t : Int))), x5, x6] [] m := by
      refine l_go hX ok_law (by show 100 + t ≤ 600002; omega) (by show 200000 + 6 * t ≤ 7302198; omega) [10, 16, 19, 66, 67] 14 46 ?_
      refine ⟨by constructor <;> omega, ⟨by omega, by omega⟩, by constructor <;> omega, ⟨by omega, by omega⟩, ?_⟩
      refine kCall_mono (h22 _ _ (hxs _) (hxs _)) (Nat.le_of_ble_eq_true rfl) ?_
      rintro _ m1 ⟨z, rfl, h2⟩
      refine ⟨by constructor <;> omega, ⟨by omega, by omega⟩, by constructor <;> omega, ⟨by omega, by omega⟩, ?_⟩
      refine kCall_mono h2 (Nat.le_of_ble_eq_true rfl) ?_
      rintro _ m2 ⟨rfl, hI2⟩
      exact And.intro (fun _ => hn m2 _ _ hI2) (fun h => absurd rfl h)

    have hc23 : cW (bX X) M_law p e room_1 s mm args below meth c (100 + t) (200000 + 6 * t) Qf ad0 n0 A (G0 (nC X) (nL X)) (k_pc M_law 47) [some (vR 1005), some (vR 0), some (vR 54), some (vR 92), some (vI (3 + 7 * (t : Int))), x5, x6] [] m := by
      refine l_go hX ok_law (by show 100 + t ≤ 600002; omega) (by show 200000 + 6 * t ≤ 7302198; omega) [10, 16, 19, 66, 67] 14 47 ?_
      refine ⟨by constructor <;> omega, ⟨by omega, by omega⟩, ?_⟩
      refine kCall_mono (h23 _ (hxs _)) (Nat.le_of_ble_eq_true rfl) ?_
      rintro _ m1 ⟨z, rfl, h2⟩
      refine ⟨by constructor <;> omega, ⟨by omega, by omega⟩, ?_⟩
      refine kCall_mono h2 (Nat.le_of_ble_eq_true rfl) ?_
      rintro _ m2 ⟨rfl, hI2⟩
      exact And.intro (fun _ => hn m2 _ _ hI2) (fun h => absurd rfl h)

    have hc24 : cW (bX X) M_law p e room_1 s mm args below meth c (100 + t) (200000 + 6 * t) Qf ad0 n0 A (G0 (nC X) (nL X)) (k_pc M_law 48) [some (vR 1005), some (vR 0), some (vR 54), some (vR 92), some (vI (3 + 7 * (t : Int))), x5, x6] [] m := by
      refine l_go hX ok_law (by show 100 + t ≤ 600002; omega) (by show 200000 + 6 * t ≤ 7302198; omega) [10, 16, 19, 66, 67] 14 48 ?_
      refine ⟨by constructor <;> omega, ⟨by omega, by omega⟩, by constructor <;> omega, ⟨by omega, by omega⟩, ?_⟩
      refine kCall_mono (h24 _ _ (hxs _) (hxs _)) (Nat.le_of_ble_eq_true rfl) ?_
      rintro _ m1 ⟨z, rfl, h2⟩
      refine ⟨by constructor <;> omega, ⟨by omega, by omega⟩, by constructor <;> omega, ⟨by omega, by omega⟩, ?_⟩
      refine kCall_mono h2 (Nat.le_of_ble_eq_true rfl) ?_
      rintro _ m2 ⟨rfl, hI2⟩
      exact And.intro (fun _ => hn m2 _ _ hI2) (fun h => absurd rfl h)

    have hc25 : cW (bX X) M_law p e room_1 s mm args below meth c (100 + t) (200000 + 6 * t) Qf ad0 n0 A (G0 (nC X) (nL X)) (k_pc M_law 49) [some (vR 1005), some (vR 0), some (vR 54), some (vR 92), some (vI (3 + 7 * (t : Int))), x5, x6] [] m := by
      refine l_go hX ok_law (by show 100 + t ≤ 600002; omega) (by show 200000 + 6 * t ≤ 7302198; omega) [10, 16, 19, 66, 67] 14 49 ?_
      refine ⟨by constructor <;> omega, ⟨by omega, by omega⟩, by constructor <;> omega, ⟨by omega, by omega⟩, by constructor <;> omega, ⟨by omega, by omega⟩, ?_⟩
      refine kCall_mono (h25 _ _ _ (hxs _) (hxs _) (hxs _)) (Nat.le_of_ble_eq_true rfl) ?_
      rintro _ m1 ⟨z, rfl, h2⟩
      refine ⟨by constructor <;> omega, ⟨by omega, by omega⟩, by constructor <;> omega, ⟨by omega, by omega⟩, by constructor <;> omega, ⟨by omega, by omega⟩, ?_⟩
      refine kCall_mono h2 (Nat.le_of_ble_eq_true rfl) ?_
      rintro _ m2 ⟨rfl, hI2⟩
      exact And.intro (fun _ => hn m2 _ _ hI2) (fun h => absurd rfl h)

    have hc26 : cW (bX X) M_law p e room_1 s mm args below meth c (100 + t) (200000 + 6 * t) Qf ad0 n0 A (G0 (nC X) (nL X)) (k_pc M_law 50) [some (vR 1005), some (vR 0), some (vR 54), some (vR 92), some (vI (3 + 7 * (t : Int))), x5, x6] [] m := by
      refine l_go hX ok_law (by show 100 + t ≤ 600002; omega) (by show 200000 + 6 * t ≤ 7302198; omega) [10, 16, 19, 66, 67] 14 50 ?_
      refine ⟨by constructor <;> omega, ⟨by omega, by omega⟩, by constructor <;> omega, ⟨by omega, by omega⟩, ?_⟩
      refine kCall_mono (h26 _ _ (hxs _) (hxs _)) (Nat.le_of_ble_eq_true rfl) ?_
      rintro _ m1 ⟨z, rfl, h2⟩
      refine ⟨by constructor <;> omega, ⟨by omega, by omega⟩, by constructor <;> omega, ⟨by omega, by omega⟩, ?_⟩
      refine kCall_mono h2 (Nat.le_of_ble_eq_true rfl) ?_
      rintro _ m2 ⟨rfl, hI2⟩
      exact And.intro (fun _ => hn m2 _ _ hI2) (fun h => absurd rfl h)

    have hc27 : cW (bX X) M_law p e room_1 s mm args below meth c (100 + t) (200000 + 6 * t) Qf ad0 n0 A (G0 (nC X) (nL X)) (k_pc M_law 51) [some (vR 1005), some (vR 0), some (vR 54), some (vR 92), some (vI (3 + 7 * (t : Int))), x5, x6] [] m := by
      refine l_go hX ok_law (by show 100 + t ≤ 600002; omega) (by show 200000 + 6 * t ≤ 7302198; omega) [10, 16, 19, 66, 67] 14 51 ?_
      refine ⟨by constructor <;> omega, ⟨by omega, by omega⟩, by constructor <;> omega, ⟨by omega, by omega⟩, by constructor <;> omega, ⟨by omega, by omega⟩, ?_⟩
      refine kCall_mono (h27 _ _ _ (hxs _) (hxs _) (hxs _)) (Nat.le_of_ble_eq_true rfl) ?_
      rintro _ m1 ⟨z, rfl, h2⟩
      refine ⟨by constructor <;> omega, ⟨by omega, by omega⟩, by constructor <;> omega, ⟨by omega, by omega⟩, by constructor <;> omega, ⟨by omega, by omega⟩, ?_⟩
      refine kCall_mono h2 (Nat.le_of_ble_eq_true rfl) ?_
      rintro _ m2 ⟨rfl, hI2⟩
      exact And.intro (fun _ => hn m2 _ _ hI2) (fun h => absurd rfl h)

    have hc28 : cW (bX X) M_law p e room_1 s mm args below meth c (100 + t) (200000 + 6 * t) Qf ad0 n0 A (G0 (nC X) (nL X)) (k_pc M_law 52) [some (vR 1005), some (vR 0), some (vR 54), some (vR 92), some (vI (3 + 7 * (t : Int))), x5, x6] [] m := by
      refine l_go hX ok_law (by show 100 + t ≤ 600002; omega) (by show 200000 + 6 * t ≤ 7302198; omega) [10, 16, 19, 66, 67] 14 52 ?_
      refine ⟨by constructor <;> omega, ⟨by omega, by omega⟩, by constructor <;> omega, ⟨by omega, by omega⟩, by constructor <;> omega, ⟨by omega, by omega⟩, ?_⟩
      refine kCall_mono (h28 _ _ _ (hxs _) (hxs _) (hxs _)) (Nat.le_of_ble_eq_true rfl) ?_
      rintro _ m1 ⟨z, rfl, h2⟩
      refine ⟨by constructor <;> omega, ⟨by omega, by omega⟩, by constructor <;> omega, ⟨by omega, by omega⟩, by constructor <;> omega, ⟨by omega, by omega⟩, ?_⟩
      refine kCall_mono h2 (Nat.le_of_ble_eq_true rfl) ?_
      rintro _ m2 ⟨rfl, hI2⟩
      exact And.intro (fun _ => hn m2 _ _ hI2) (fun h => absurd rfl h)

    have hc29 : cW (bX X) M_law p e room_1 s mm args below meth c (100 + t) (200000 + 6 * t) Qf ad0 n0 A (G0 (nC X) (nL X)) (k_pc M_law 53) [some (vR 1005), some (vR 0), some (vR 54), some (vR 92), some (vI (3 + 7 * (t : Int))), x5, x6] [] m := by
      refine l_go hX ok_law (by show 100 + t ≤ 600002; omega) (by show 200000 + 6 * t ≤ 7302198; omega) [10, 16, 19, 66, 67] 14 53 ?_
      refine ⟨by constructor <;> omega, ⟨by omega, by omega⟩, by constructor <;> omega, ⟨by omega, by omega⟩, ?_⟩
      refine kCall_mono (h29 _ _ (hxs _) (hxs _)) (Nat.le_of_ble_eq_true rfl) ?_
      rintro _ m1 ⟨z, rfl, h2⟩
      refine ⟨by constructor <;> omega, ⟨by omega, by omega⟩, by constructor <;> omega, ⟨by omega, by omega⟩, ?_⟩
      refine kCall_mono h2 (Nat.le_of_ble_eq_true rfl) ?_
      rintro _ m2 ⟨rfl, hI2⟩
      exact And.intro (fun _ => hn m2 _ _ hI2) (fun h => absurd rfl h)

    have hc30 : cW (bX X) M_law p e room_1 s mm args below meth c (100 + t) (200000 + 6 * t) Qf ad0 n0 A (G0 (nC X) (nL X)) (k_pc M_law 54) [some (vR 1005), some (vR 0), some (vR 54), some (vR 92), some (vI (3 + 7 * (t : Int))), x5, x6] [] m := by
      refine l_go hX ok_law (by show 100 + t ≤ 600002; omega) (by show 200000 + 6 * t ≤ 7302198; omega) [10, 16, 19, 66, 67] 14 54 ?_
      refine ⟨by constructor <;> omega, ⟨by omega, by omega⟩, by constructor <;> omega, ⟨by omega, by omega⟩, by constructor <;> omega, ⟨by omega, by omega⟩, by constructor <;> omega, ⟨by omega, by omega⟩, by constructor <;> omega, ⟨by omega, by omega⟩, ?_⟩
      refine kCall_mono (h30 _ _ _ _ _ (hxs _) (hxs _) (hxs _) (hxs _) (hxs _)) (Nat.le_of_ble_eq_true rfl) ?_
      rintro _ m1 ⟨z, rfl, h2⟩
      refine ⟨by constructor <;> omega, ⟨by omega, by omega⟩, by constructor <;> omega, ⟨by omega, by omega⟩, by constructor <;> omega, ⟨by omega, by omega⟩, by constructor <;> omega, ⟨by omega, by omega⟩, by constructor <;> omega, ⟨by omega, by omega⟩, ?_⟩
      refine kCall_mono h2 (Nat.le_of_ble_eq_true rfl) ?_
      rintro _ m2 ⟨rfl, hI2⟩
      exact And.intro (fun _ => hn m2 _ _ hI2) (fun h => absurd rfl h)

    have hc31 : cW (bX X) M_law p e room_1 s mm args below meth c (100 + t) (200000 + 6 * t) Qf ad0 n0 A (G0 (nC X) (nL X)) (k_pc M_law 55) [some (vR 1005), some (vR 0), some (vR 54), some (vR 92), some (vI (3 + 7 * (t : Int))), x5, x6] [] m := by
      refine l_go hX ok_law (by show 100 + t ≤ 600002; omega) (by show 200000 + 6 * t ≤ 7302198; omega) [10, 16, 19, 66, 67] 14 55 ?_
      refine ⟨by constructor <;> omega, ⟨by omega, by omega⟩, ?_⟩
      refine kCall_mono (h31 _ (hxs _)) (Nat.le_of_ble_eq_true rfl) ?_
      rintro _ m1 ⟨z, rfl, h2⟩
      refine ⟨by constructor <;> omega, ⟨by omega, by omega⟩, ?_⟩
      refine kCall_mono h2 (Nat.le_of_ble_eq_true rfl) ?_
      rintro _ m2 ⟨rfl, hI2⟩
      exact And.intro (fun _ => hn m2 _ _ hI2) (fun h => absurd rfl h)

    have hc32 : cW (bX X) M_law p e room_1 s mm args below meth c (100 + t) (200000 + 6 * t) Qf ad0 n0 A (G0 (nC X) (nL X)) (k_pc M_law 56) [some (vR 1005), some (vR 0), some (vR 54), some (vR 92), some (vI (3 + 7 * (t : Int))), x5, x6] [] m := by
      refine l_go hX ok_law (by show 100 + t ≤ 600002; omega) (by show 200000 + 6 * t ≤ 7302198; omega) [10, 16, 19, 66, 67] 14 56 ?_
      refine ⟨by constructor <;> omega, ⟨by omega, by omega⟩, ?_⟩
      refine kCall_mono (h32 _ (hxs _)) (Nat.le_of_ble_eq_true rfl) ?_
      rintro _ m1 ⟨z, rfl, h2⟩
      refine ⟨by constructor <;> omega, ⟨by omega, by omega⟩, ?_⟩
      refine kCall_mono h2 (Nat.le_of_ble_eq_true rfl) ?_
      rintro _ m2 ⟨rfl, hI2⟩
      exact And.intro (fun _ => hn m2 _ _ hI2) (fun h => absurd rfl h)

    have hc33 : cW (bX X) M_law p e room_1 s mm args below meth c (100 + t) (200000 + 6 * t) Qf ad0 n0 A (G0 (nC X) (nL X)) (k_pc M_law 57) [some (vR 1005), some (vR 0), some (vR 54), some (vR 92), some (vI (3 + 7 * (t : Int))), x5, x6] [] m := by
      refine l_go hX ok_law (by show 100 + t ≤ 600002; omega) (by show 200000 + 6 * t ≤ 7302198; omega) [10, 16, 19, 66, 67] 14 57 ?_
      refine ⟨by constructor <;> omega, ⟨by omega, by omega⟩, by constructor <;> omega, ⟨by omega, by omega⟩, ?_⟩
      refine kCall_mono (h33 _ _ (hxs _) (hxs _)) (Nat.le_of_ble_eq_true rfl) ?_
      rintro _ m1 ⟨z, rfl, h2⟩
      refine ⟨by constructor <;> omega, ⟨by omega, by omega⟩, by constructor <;> omega, ⟨by omega, by omega⟩, ?_⟩
      refine kCall_mono h2 (Nat.le_of_ble_eq_true rfl) ?_
      rintro _ m2 ⟨rfl, hI2⟩
      exact And.intro (fun _ => hn m2 _ _ hI2) (fun h => absurd rfl h)

    have hc34 : cW (bX X) M_law p e room_1 s mm args below meth c (100 + t) (200000 + 6 * t) Qf ad0 n0 A (G0 (nC X) (nL X)) (k_pc M_law 58) [some (vR 1005), some (vR 0), some (vR 54), some (vR 92), some (vI (3 + 7 * (t : Int))), x5, x6] [] m := by
      refine l_go hX ok_law (by show 100 + t ≤ 600002; omega) (by show 200000 + 6 * t ≤ 7302198; omega) [10, 16, 19, 66, 67] 14 58 ?_
      refine ⟨by constructor <;> omega, ⟨by omega, by omega⟩, ?_⟩
      refine kCall_mono (h34 _ (hxs _)) (Nat.le_of_ble_eq_true rfl) ?_
      rintro _ m1 ⟨z, rfl, h2⟩
      refine ⟨by constructor <;> omega, ⟨by omega, by omega⟩, ?_⟩
      refine kCall_mono h2 (Nat.le_of_ble_eq_true rfl) ?_
      rintro _ m2 ⟨rfl, hI2⟩
      exact And.intro (fun _ => hn m2 _ _ hI2) (fun h => absurd rfl h)

    have hc35 : cW (bX X) M_law p e room_1 s mm args below meth c (100 + t) (200000 + 6 * t) Qf ad0 n0 A (G0 (nC X) (nL X)) (k_pc M_law 59) [some (vR 1005), some (vR 0), some (vR 54), some (vR 92), some (vI (3 + 7 * (t : Int))), x5, x6] [] m := by
      refine l_go hX ok_law (by show 100 + t ≤ 600002; omega) (by show 200000 + 6 * t ≤ 7302198; omega) [10, 16, 19, 66, 67] 14 59 ?_
      refine ⟨by constructor <;> omega, ⟨by omega, by omega⟩, by constructor <;> omega, ⟨by omega, by omega⟩, by constructor <;> omega, ⟨by omega, by omega⟩, ?_⟩
      refine kCall_mono (h35 _ _ _ (hxs _) (hxs _) (hxs _)) (Nat.le_of_ble_eq_true rfl) ?_
      rintro _ m1 ⟨z, rfl, h2⟩
      refine ⟨by constructor <;> omega, ⟨by omega, by omega⟩, by constructor <;> omega, ⟨by omega, by omega⟩, by constructor <;> omega, ⟨by omega, by omega⟩, ?_⟩
      refine kCall_mono h2 (Nat.le_of_ble_eq_true rfl) ?_
      rintro _ m2 ⟨rfl, hI2⟩
      exact And.intro (fun _ => hn m2 _ _ hI2) (fun h => absurd rfl h)

    have hc36 : cW (bX X) M_law p e room_1 s mm args below meth c (100 + t) (200000 + 6 * t) Qf ad0 n0 A (G0 (nC X) (nL X)) (k_pc M_law 60) [some (vR 1005), some (vR 0), some (vR 54), some (vR 92), some (vI (3 + 7 * (t : Int))), x5, x6] [] m := by
      refine l_go hX ok_law (by show 100 + t ≤ 600002; omega) (by show 200000 + 6 * t ≤ 7302198; omega) [10, 16, 19, 66, 67] 14 60 ?_
      refine ⟨by constructor <;> omega, ⟨by omega, by omega⟩, by constructor <;> omega, ⟨by omega, by omega⟩, by constructor <;> omega, ⟨by omega, by omega⟩, ?_⟩
      refine kCall_mono (h36 _ _ _ (hxs _) (hxs _) (hxs _)) (Nat.le_of_ble_eq_true rfl) ?_
      rintro _ m1 ⟨z, rfl, h2⟩
      refine ⟨by constructor <;> omega, ⟨by omega, by omega⟩, by constructor <;> omega, ⟨by omega, by omega⟩, by constructor <;> omega, ⟨by omega, by omega⟩, ?_⟩
      refine kCall_mono h2 (Nat.le_of_ble_eq_true rfl) ?_
      rintro _ m2 ⟨rfl, hI2⟩
      exact And.intro (fun _ => hn m2 _ _ hI2) (fun h => absurd rfl h)

    have hc37 : cW (bX X) M_law p e room_1 s mm args below meth c (100 + t) (200000 + 6 * t) Qf ad0 n0 A (G0 (nC X) (nL X)) (k_pc M_law 61) [some (vR 1005), some (vR 0), some (vR 54), some (vR 92), some (vI (3 + 7 * (t : Int))), x5, x6] [] m := by
      refine l_go hX ok_law (by show 100 + t ≤ 600002; omega) (by show 200000 + 6 * t ≤ 7302198; omega) [10, 16, 19, 66, 67] 14 61 ?_
      refine ⟨by constructor <;> omega, ⟨by omega, by omega⟩, ?_⟩
      refine kCall_mono (h37 _ (hxs _)) (Nat.le_of_ble_eq_true rfl) ?_
      rintro _ m1 ⟨z, rfl, h2⟩
      refine ⟨by constructor <;> omega, ⟨by omega, by omega⟩, ?_⟩
      refine kCall_mono h2 (Nat.le_of_ble_eq_true rfl) ?_
      rintro _ m2 ⟨rfl, hI2⟩
      exact And.intro (fun _ => hn m2 _ _ hI2) (fun h => absurd rfl h)

    have hc38 : cW (bX X) M_law p e room_1 s mm args below meth c (100 + t) (200000 + 6 * t) Qf ad0 n0 A (G0 (nC X) (nL X)) (k_pc M_law 62) [some (vR 1005), some (vR 0), some (vR 54), some (vR 92), some (vI (3 + 7 * (t : Int))), x5, x6] [] m := by
      refine l_go hX ok_law (by show 100 + t ≤ 600002; omega) (by show 200000 + 6 * t ≤ 7302198; omega) [10, 16, 19, 66, 67] 14 62 ?_
      refine kCall_mono h38 (Nat.le_of_ble_eq_true rfl) ?_
      rintro _ m1 ⟨z, rfl, h2⟩
      refine kCall_mono h2 (Nat.le_of_ble_eq_true rfl) ?_
      rintro _ m2 ⟨rfl, hI2⟩
      exact And.intro (fun _ => hn m2 _ _ hI2) (fun h => absurd rfl h)

    have hc39 : cW (bX X) M_law p e room_1 s mm args below meth c (100 + t) (200000 + 6 * t) Qf ad0 n0 A (G0 (nC X) (nL X)) (k_pc M_law 63) [some (vR 1005), some (vR 0), some (vR 54), some (vR 92), some (vI (3 + 7 * (t : Int))), x5, x6] [] m := by
      refine l_go hX ok_law (by show 100 + t ≤ 600002; omega) (by show 200000 + 6 * t ≤ 7302198; omega) [10, 16, 19, 66, 67] 14 63 ?_
      refine ⟨by constructor <;> omega, ⟨by omega, by omega⟩, by constructor <;> omega, ⟨by omega, by omega⟩, by constructor <;> omega, ⟨by omega, by omega⟩, by constructor <;> omega, ⟨by omega, by omega⟩, ?_⟩
      refine kCall_mono (h39 _ _ _ _ (hxs _) (hxs _) (hxs _) (hxs _)) (Nat.le_of_ble_eq_true rfl) ?_
      rintro _ m1 ⟨z, rfl, h2⟩
      refine ⟨by constructor <;> omega, ⟨by omega, by omega⟩, by constructor <;> omega, ⟨by omega, by omega⟩, by constructor <;> omega, ⟨by omega, by omega⟩, by constructor <;> omega, ⟨by omega, by omega⟩, ?_⟩
      refine kCall_mono h2 (Nat.le_of_ble_eq_true rfl) ?_
      rintro _ m2 ⟨rfl, hI2⟩
      exact And.intro (fun _ => hn m2 _ _ hI2) (fun h => absurd rfl h)

    have hc40 : cW (bX X) M_law p e room_1 s mm args below meth c (100 + t) (200000 + 6 * t) Qf ad0 n0 A (G0 (nC X) (nL X)) (k_pc M_law 64) [some (vR 1005), some (vR 0), some (vR 54), some (vR 92), some (vI (3 + 7 * (t : Int))), x5, x6] [] m := by
      refine l_go hX ok_law (by show 100 + t ≤ 600002; omega) (by show 200000 + 6 * t ≤ 7302198; omega) [10, 16, 19, 66, 67] 14 64 ?_
      refine ⟨by constructor <;> omega, ⟨by omega, by omega⟩, ?_⟩
      refine kCall_mono (h40 _ (hxs _)) (Nat.le_of_ble_eq_true rfl) ?_
      rintro _ m1 ⟨z, rfl, h2⟩
      refine ⟨by constructor <;> omega, ⟨by omega, by omega⟩, ?_⟩
      refine kCall_mono h2 (Nat.le_of_ble_eq_true rfl) ?_
      rintro _ m2 ⟨rfl, hI2⟩
      exact And.intro (fun _ => hn m2 _ _ hI2) (fun h => absurd rfl h)

    have hc41 : cW (bX X) M_law p e room_1 s mm args below meth c (100 + t) (200000 + 6 * t) Qf ad0 n0 A (G0 (nC X) (nL X)) (k_pc M_law 65) [some (vR 1005), some (vR 0), some (vR 54), some (vR 92), some (vI (3 + 7 * (t : Int))), x5, x6] [] m := by
      refine l_go hX ok_law (by show 100 + t ≤ 600002; omega) (by show 200000 + 6 * t ≤ 7302198; omega) [10, 16, 19, 66, 67] 14 65 ?_
      refine ⟨by constructor <;> omega, ⟨by omega, by omega⟩, ?_⟩
      refine kCall_mono (h41 _ (hxs _)) (Nat.le_of_ble_eq_true rfl) ?_
      rintro _ m1 ⟨z, rfl, h2⟩
      refine ⟨by constructor <;> omega, ⟨by omega, by omega⟩, ?_⟩
      refine kCall_mono h2 (Nat.le_of_ble_eq_true rfl) ?_
      rintro _ m2 ⟨rfl, hI2⟩
      exact And.intro (fun _ => hn m2 _ _ hI2) (fun h => absurd rfl h)

    exact ⟨⟨by omega, by omega⟩, fun _ => hn m _ _ hd, fun _ => hc0, fun _ => hc1, fun _ => hc2, fun _ => hc3, fun _ => hc4, fun _ => hc5, fun _ => hc6, fun _ => hc7, fun _ => hc8, fun _ => hc9, fun _ => hc10, fun _ => hc11, fun _ => hc12, fun _ => hc13, fun _ => hc14, fun _ => hc15, fun _ => hc16, fun _ => hc17, fun _ => hc18, fun _ => hc19, fun _ => hc20, fun _ => hc21, fun _ => hc22, fun _ => hc23, fun _ => hc24, fun _ => hc25, fun _ => hc26, fun _ => hc27, fun _ => hc28, fun _ => hc29, fun _ => hc30, fun _ => hc31, fun _ => hc32, fun _ => hc33, fun _ => hc34, fun _ => hc35, fun _ => hc36, fun _ => hc37, fun _ => hc38, fun _ => hc39, fun _ => hc40, fun _ => hc41, trivial⟩
