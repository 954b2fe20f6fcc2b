/-! Part 77: packing: the reference takes a box -/
def rMark (S : tb_St) (D : Nat → Bool) : Prop := ∀ x, x < 224 → (S 57 x = 0 ↔ D x = false)
def alR (A B : Nat → Int32) (c x : Nat) : Bool := decide (A x = A c ∧ B x = B c)
theorem ix8 {k j : Nat} (hk : k < 224) (hj : j < 8) : tb_ix ((8 : Int32) * nI k + nI j) 1792 = some (8 * k + j) := by
  rw [show (8 : Int32) = nI 8 from rfl, n_mul (by omega) (by omega) (by omega), n_add (by omega), n_ix (by omega) (by omega)]
theorem r_part0 {d c : Nat} {S : tb_St} (hc : c < 224) : tb_cI (d + 1) mX8_part [.int (nI c), .int 0] S = some (nI (c / 28), S) := by
  refine MX8_part ?_
  rw [if_neg (by decide), show (28 : Int32) = nI 28 from rfl, n_div (by omega) (by omega)]
theorem r_part1 {d c : Nat} {S : tb_St} (hc : c < 224) : tb_cI (d + 1) mX8_part [.int (nI c), .int 1] S = some (nI (c / 4 % 7), S) := by
  refine MX8_part ?_
  rw [if_pos (by decide), if_neg (by decide), show (4 : Int32) = nI 4 from rfl, n_div (by omega) (by omega), show (7 : Int32) = nI 7 from rfl, n_rem (by omega) (by omega)]
theorem r_part2 {d c : Nat} {S : tb_St} (hc : c < 224) : tb_cI (d + 1) mX8_part [.int (nI c), .int 2] S = some (nI (c % 4), S) := by
  refine MX8_part ?_
  rw [if_pos (by decide), if_pos (by decide), show (4 : Int32) = nI 4 from rfl, n_rem (by omega) (by omega)]
theorem r_take {d c k : Nat} {S : tb_St} {D : Nat → Bool} (hc : c < 224) (hM : rMark S D) (hD : D c = false) (h3 : S 45 14 = nI k) (hk : k ≤ c) :
    ∃ S', (∀ r, (∀ w2 w3 w4 w5 w6 w7 w8 w9 w10 w11 : Value, tb_E (d + 2) mX8_packs tb_dV 7 [.ref 45, .int (nI (c + 1)), w2, w3, w4, w5, w6, w7, w8, w9, w10, w11] [] tb_S S' = some r) → ∀ w2 w3 w4 w5 w6 w7 w8 w9 w10 w11 : Value, tb_E (d + 2) mX8_packs tb_dV 7 [.ref 45, .int (nI c), w2, w3, w4, w5, w6, w7, w8, w9, w10, w11] [] tb_S S = some r) ∧
      (∀ q i, q ≠ 57 → q ≠ 58 → ¬ (q = 45 ∧ i = 14) → S' q i = S q i) ∧ S' 45 14 = nI (k + 1) ∧ rMark S' (fun x => D x || decide (¬ inBB x (boxOf (fun x => !D x && alR (S 55) (S 56) c x) c) = 0)) ∧
      (∀ i, i < 8 * k → S' 58 i = S 58 i) ∧ (∀ j, j < 6 → S' 58 (8 * k + j) = nI (figM (boxOf (fun x => !D x && alR (S 55) (S 56) c x) c) j)) ∧ S' 58 (8 * k + 6) = S 55 c ∧ S' 58 (8 * k + 7) = S 56 c := by
  have hG : ∀ x, x < 224 → goR S c x = (fun x => !D x && alR (S 55) (S 56) c x) x := by
    intro x hx
    show goR S c x = (!D x && alR (S 55) (S 56) c x)
    unfold goR alR
    cases e : D x
    · have := (hM x hx).mpr e
      simp [this]
    · have : ¬ S 57 x = 0 := fun z => by have := (hM x hx).mp z; rw [e] at this; cases this
      simp [this]
  rw [← boxOf_cg hG hc]
  have hbf := boxOf_fig (G := goR S c) hc
  have l1 := bxH_le (G := goR S c) (a := c / 28) (e := c / 4 % 7) (show c % 4 ≤ 3 by omega)
  have l2 := bxD_le (G := goR S c) (a := c / 28) (h := c % 4) (show c / 4 % 7 ≤ 6 by omega)
  have l3 := bxA_le (G := goR S c) (e := c / 4 % 7) (h := c % 4) (show c / 28 ≤ 7 by omega)
  obtain ⟨b0, f0, f1, f2, f3, f4, f5⟩ := hbf
  generalize hla : bxA (goR S c) (c / 28) (c / 4 % 7) (c % 4) = la at *
  generalize hle : bxD (goR S c) (c / 28) (c / 4 % 7) (c % 4) = le at *
  generalize hlh : bxH (goR S c) (c / 28) (c / 4 % 7) (c % 4) = lh at *
  generalize hU : tb_up (tb_up (tb_up (tb_up (tb_up (tb_up (tb_up (tb_up (tb_up S 58 (8 * k + 0) (nI (c / 28))) 58 (8 * k + 1) (nI la)) 58 (8 * k + 2) (nI (c / 4 % 7))) 58 (8 * k + 3) (nI le)) 58 (8 * k + 4) (nI (c % 4))) 58 (8 * k + 5) (nI lh)) 58 (8 * k + 6) (S 55 c)) 58 (8 * k + 7) (S 56 c)) 45 14 (nI (k + 1)) = U
  have uq : ∀ q i, q ≠ 58 → ¬ (q = 45 ∧ i = 14) → U q i = S q i := fun q i h1 h2 => by
    subst hU
    rw [up_rd, if_neg h2, up_ne h1, up_ne h1, up_ne h1, up_ne h1, up_ne h1, up_ne h1, up_ne h1, up_ne h1]
  have u58 : ∀ i, U 58 i = if i = 8 * k + 7 then S 56 c else if i = 8 * k + 6 then S 55 c else if i = 8 * k + 5 then nI lh else if i = 8 * k + 4 then nI (c % 4) else if i = 8 * k + 3 then nI le else if i = 8 * k + 2 then nI (c / 4 % 7) else if i = 8 * k + 1 then nI la else if i = 8 * k + 0 then nI (c / 28) else S 58 i := by
    intro i
    subst hU
    simp [up_rd]
  obtain ⟨V, v1, v2, v3⟩ := r_m274 (d := d + 2) (e := c / 4 % 7) (h := c % 4) (x1 := nI c) (w2 := .int (nI (c / 28))) (w8 := .int (8 * nI k)) l3.2 l2.2 l1.2 l1.1 l2.1 (la + 1 - c / 28) (c / 28) U (by omega)
  refine ⟨V, fun r hr w2 w3 w4 w5 w6 w7 w8 w9 w10 w11 => BX8_packs_7 ?_, fun q i h1 h2 h4 => by rw [v2 q h1]; exact uq q i h2 h4, by rw [v2 45 (by omega)]; subst hU; simp [up_rd], fun x hx => ?_, fun i hi => ?_, fun j hj => ?_, ?_, ?_⟩
  · have hix := n_ix hc (show 224 ≤ 2 ^ 31 by omega)
    rw [if_neg (end224 hc), hix]
    simp only [Option.bind_some]
    rw [if_pos ((hM c hc).mpr hD), r_part0 hc]
    simp only [Option.bind_some]
    rw [r_part1 hc]
    simp only [Option.bind_some]
    rw [r_part2 hc]
    simp only [Option.bind_some]
    refine r_p55 hc (by omega) (by omega) (3 - c % 4) (c % 4) (by omega) ?_
    have hlh' : ext (fun y => hrsB (goR S c) 1 y (c / 28) (c / 4 % 7)) (3 - c % 4) (c % 4) = lh := hlh
    rw [hlh']
    refine r_p87 (n := lh + 1 - c % 4) hc (by omega) l1.2 (by omega) (6 - c / 4 % 7) (c / 4 % 7) (by omega) ?_
    have hle' : ext (fun y => hrsB (goR S c) (lh + 1 - c % 4) (c % 4) (c / 28) y) (6 - c / 4 % 7) (c / 4 % 7) = le := by rw [← hlh]; exact hle
    rw [hle']
    refine r_p122 (n := lh + 1 - c % 4) (m := le + 1 - c / 4 % 7) hc l1.2 (by omega) l2.2 (by omega) (7 - c / 28) (c / 28) (by omega) ?_
    have hla' : ext (fun y => dysB (goR S c) (le + 1 - c / 4 % 7) (c / 4 % 7) (lh + 1 - c % 4) (c % 4) y) (7 - c / 28) (c / 28) = la := by rw [← hle, ← hlh]; exact hla
    rw [hla']
    refine BX8_packs_158 ?_
    have i0 : tb_ix ((8 : Int32) * nI k) 1792 = some (8 * k + 0) := by
      rw [show (8 : Int32) = nI 8 from rfl, n_mul (by omega) (by omega) (by omega), n_ix (by omega) (by omega), Nat.add_zero]
    have i1 : tb_ix ((8 : Int32) * nI k + 1) 1792 = some (8 * k + 1) := ix8 (j := 1) (by omega) (by omega)
    have i2 : tb_ix ((8 : Int32) * nI k + 2) 1792 = some (8 * k + 2) := ix8 (j := 2) (by omega) (by omega)
    have i3 : tb_ix ((8 : Int32) * nI k + 3) 1792 = some (8 * k + 3) := ix8 (j := 3) (by omega) (by omega)
    have i4 : tb_ix ((8 : Int32) * nI k + 4) 1792 = some (8 * k + 4) := ix8 (j := 4) (by omega) (by omega)
    have i5 : tb_ix ((8 : Int32) * nI k + 5) 1792 = some (8 * k + 5) := ix8 (j := 5) (by omega) (by omega)
    have i6 : tb_ix ((8 : Int32) * nI k + 6) 1792 = some (8 * k + 6) := ix8 (j := 6) (by omega) (by omega)
    have i7 : tb_ix ((8 : Int32) * nI k + 7) 1792 = some (8 * k + 7) := ix8 (j := 7) (by omega) (by omega)
    rw [h3, i0, i1, i2, i3, i4, i5, i6, i7, hix]
    simp only [Option.bind_some, n_inc]
    rw [hU]
    exact v1 r (fun w3 w4 w5 w6 w7 w8 w9 w10 w11 => by rw [n_inc]; exact hr _ _ _ _ _ _ _ _ _ _) _ _
  · rw [v3 x, uq 57 x (by omega) (by omega)]
    have hin : ((c / 28 ≤ x / 28 ∧ x / 28 ≤ la) ∧ (c / 4 % 7 ≤ x / 4 % 7 ∧ x / 4 % 7 ≤ le) ∧ c % 4 ≤ x % 4 ∧ x % 4 ≤ lh) ↔ inB x (boxOf (goR S c) c) := by
      unfold inB
      rw [f0, f1, f2, f3, f4, f5]
      constructor
      · rintro ⟨⟨a1, a2⟩, ⟨a3, a4⟩, a5, a6⟩; exact ⟨a1, a2, a3, a4, a5, a6⟩
      · rintro ⟨a1, a2, a3, a4, a5, a6⟩; exact ⟨⟨a1, a2⟩, ⟨a3, a4⟩, a5, a6⟩
    by_cases e : inB x (boxOf (goR S c) c)
    · rw [if_pos (hin.mpr e)]
      simp [inBB_01.mpr e]
    · rw [if_neg (fun z => e (hin.mp z)), hM x hx]
      have : decide (¬ inBB x (boxOf (goR S c) c) = 0) = false := by
        rw [decide_eq_false_iff_not]
        exact fun z => e (inBB_01.mp z)
      simp only [this, Bool.or_false]
  · rw [v2 58 (by omega), u58]
    simp only [show ¬ i = 8 * k + 7 by omega, show ¬ i = 8 * k + 6 by omega, show ¬ i = 8 * k + 5 by omega, show ¬ i = 8 * k + 4 by omega, show ¬ i = 8 * k + 3 by omega, show ¬ i = 8 * k + 2 by omega, show ¬ i = 8 * k + 1 by omega, show ¬ i = 8 * k + 0 by omega, if_false]
  · rw [v2 58 (by omega), u58]
    obtain rfl | rfl | rfl | rfl | rfl | rfl : j = 0 ∨ j = 1 ∨ j = 2 ∨ j = 3 ∨ j = 4 ∨ j = 5 := by omega
    · rw [f0]; simp
    · rw [f1]; simp
    · rw [f2]; simp
    · rw [f3]; simp
    · rw [f4]; simp
    · rw [f5]; simp
  · rw [v2 58 (by omega), u58]
    simp
  · rw [v2 58 (by omega), u58]
    simp
