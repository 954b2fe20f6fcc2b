/-! Part 73: packing: both take the cases of the box away -/
theorem c_keepL {d m : Nat} {w : Int32} (hm : m ≤ 999999) : ∀ g x (S : tb_St), x + g = 224 → ∃ S', tb_E (d + 2) mX0_keep tb_dV 42 [.ref 28, .int (nI m), .int w, .int (nI x)] [] tb_S S = some S' ∧ (∀ q, q ≠ 29 → S' q = S q) ∧ ∀ j, j < 224 → S' 29 j = if x ≤ j ∧ S 29 j = w ∧ ¬ inBB j m = 0 then -1 else S 29 j := by
  intro g
  induction g with
  | zero =>
    intro x S hx
    refine ⟨S, BX0_keep_42 ?_, fun _ _ => rfl, fun j hj => by rw [if_neg (fun z => by have := z.1; omega)]⟩
    obtain rfl : x = 224 := by omega
    rw [if_pos (show (224 : Int32) ≤ nI 224 by decide)]
  | succ g ih =>
    intro x S hx
    have hix := n_ix (show x < 224 by omega) (show 224 ≤ 2 ^ 31 by omega)
    by_cases e : S 29 x = w
    · by_cases e2 : inBB x m = 0
      · obtain ⟨V, v1, v2, v3⟩ := ih (x + 1) S (by omega)
        refine ⟨V, BX0_keep_42 ?_, v2, fun j hj => ?_⟩
        · rw [if_neg (end224 (by omega)), hix]
          simp only [Option.bind_some, n_inc]
          rw [if_neg (fun z => z e), c_isIn (by omega) hm]
          simp only [Option.bind_some]
          rw [if_pos e2]
          exact v1
        · rw [v3 j hj]
          by_cases q : j = x
          · rw [if_neg (fun z => by have := z.1; omega), if_neg (fun z => z.2.2 (by rw [q]; exact e2))]
          · by_cases p : x + 1 ≤ j ∧ S 29 j = w ∧ ¬ inBB j m = 0
            · rw [if_pos p, if_pos ⟨by have := p.1; omega, p.2⟩]
            · rw [if_neg p, if_neg (fun z => p ⟨by have := z.1; omega, z.2⟩)]
      · obtain ⟨V, v1, v2, v3⟩ := ih (x + 1) (tb_up S 29 x (-1)) (by omega)
        refine ⟨V, BX0_keep_42 ?_, fun q hq => by rw [v2 q hq, up_ne hq], fun j hj => ?_⟩
        · rw [if_neg (end224 (by omega)), hix]
          simp only [Option.bind_some, n_inc]
          rw [if_neg (fun z => z e), c_isIn (by omega) hm]
          simp only [Option.bind_some]
          rw [if_neg e2]
          exact v1
        · rw [v3 j hj, up_rd]
          by_cases q : j = x
          · rw [if_neg (fun z => by have := z.1; omega), if_pos ⟨rfl, q⟩, if_pos ⟨by omega, by rw [q]; exact e, by rw [q]; exact e2⟩]
          · rw [if_neg (show ¬ (29 = 29 ∧ j = x) from fun z => q z.2)]
            by_cases p : x + 1 ≤ j ∧ S 29 j = w ∧ ¬ inBB j m = 0
            · rw [if_pos p, if_pos ⟨by have := p.1; omega, p.2⟩]
            · rw [if_neg p, if_neg (fun z => p ⟨by have := z.1; omega, z.2⟩)]
    · obtain ⟨V, v1, v2, v3⟩ := ih (x + 1) S (by omega)
      refine ⟨V, BX0_keep_42 ?_, v2, fun j hj => ?_⟩
      · rw [if_neg (end224 (by omega)), hix]
        simp only [Option.bind_some, n_inc]
        rw [if_pos e]
        exact v1
      · rw [v3 j hj]
        by_cases q : j = x
        · rw [if_neg (fun z => by have := z.1; omega), if_neg (fun z => e (by rw [← q]; exact z.2.1))]
        · by_cases p : x + 1 ≤ j ∧ S 29 j = w ∧ ¬ inBB j m = 0
          · rw [if_pos p, if_pos ⟨by have := p.1; omega, p.2⟩]
          · rw [if_neg p, if_neg (fun z => p ⟨by have := z.1; omega, z.2⟩)]
section Mark
variable {d e h la le lh : Nat} {x1 : Int32} {w2 w8 : Value}
theorem r_m295 (hla : la ≤ 7) (hle : le ≤ 6) (hlh : lh ≤ 3) {a y : Nat} (ha : a ≤ la) (hy : y ≤ le) : ∀ n x (S : tb_St), x + n = lh + 1 → ∃ S', (∀ r, (∀ w11 : Value, tb_E d mX8_packs tb_dV 284 [.ref 45, .int x1, w2, .int (nI e), .int (nI h), .int (nI la), .int (nI le), .int (nI lh), w8, .int (nI a), .int (nI (y + 1)), w11] [] tb_S S' = some r) → tb_E d mX8_packs tb_dV 295 [.ref 45, .int x1, w2, .int (nI e), .int (nI h), .int (nI la), .int (nI le), .int (nI lh), w8, .int (nI a), .int (nI y), .int (nI x)] [] tb_S S = some r) ∧ (∀ q, q ≠ 57 → S' q = S q) ∧ ∀ j, S' 57 j = if 28 * a + 4 * y + x ≤ j ∧ j ≤ 28 * a + 4 * y + lh then 1 else S 57 j := by
  intro n
  induction n with
  | zero =>
    intro x S hx
    refine ⟨S, fun r hr => BX8_packs_295 ?_, fun _ _ => rfl, fun j => by rw [if_neg (by omega)]⟩
    rw [if_pos ((n_lt (by omega) (by omega)).mpr (by omega)), n_inc]
    exact hr _
  | succ n ih =>
    intro x S hx
    obtain ⟨V, v1, v2, v3⟩ := ih (x + 1) (tb_up S 57 (28 * a + 4 * y + x) 1) (by omega)
    refine ⟨V, fun r hr => BX8_packs_295 ?_, fun q hq => by rw [v2 q hq, up_ne hq], fun j => ?_⟩
    · rw [if_neg (fun z => by have := (n_lt (by omega) (by omega)).mp z; omega), cell_i (by omega) (by omega) (by omega), n_ix (by omega) (by omega)]
      simp only [Option.bind_some, n_inc]
      exact v1 r hr
    · rw [v3 j, up_rd]
      by_cases p : j = 28 * a + 4 * y + x
      · rw [if_neg (by omega), if_pos ⟨rfl, p⟩, if_pos (by omega)]
      · rw [if_neg (show ¬ (57 = 57 ∧ j = 28 * a + 4 * y + x) from fun z => p z.2)]
        by_cases p2 : 28 * a + 4 * y + (x + 1) ≤ j ∧ j ≤ 28 * a + 4 * y + lh
        · rw [if_pos p2, if_pos (by omega)]
        · rw [if_neg p2, if_neg (by omega)]
theorem r_m284 (hla : la ≤ 7) (hle : le ≤ 6) (hlh : lh ≤ 3) (hh : h ≤ lh) {a : Nat} (ha : a ≤ la) : ∀ n y (S : tb_St), y + n = le + 1 → ∃ S', (∀ r, (∀ w10 w11 : Value, tb_E d mX8_packs tb_dV 274 [.ref 45, .int x1, w2, .int (nI e), .int (nI h), .int (nI la), .int (nI le), .int (nI lh), w8, .int (nI (a + 1)), w10, w11] [] tb_S S' = some r) → ∀ w11 : Value, tb_E d mX8_packs tb_dV 284 [.ref 45, .int x1, w2, .int (nI e), .int (nI h), .int (nI la), .int (nI le), .int (nI lh), w8, .int (nI a), .int (nI y), w11] [] tb_S S = some r) ∧ (∀ q, q ≠ 57 → S' q = S q) ∧ ∀ j, S' 57 j = if j / 28 = a ∧ (y ≤ j / 4 % 7 ∧ j / 4 % 7 ≤ le) ∧ h ≤ j % 4 ∧ j % 4 ≤ lh then 1 else S 57 j := by
  intro n
  induction n with
  | zero =>
    intro y S hx
    refine ⟨S, fun r hr w11 => BX8_packs_284 ?_, fun _ _ => rfl, fun j => by rw [if_neg (by omega)]⟩
    rw [if_pos ((n_lt (by omega) (by omega)).mpr (by omega)), n_inc]
    exact hr _ _
  | succ n ih =>
    intro y S hx
    obtain ⟨U, u1, u2, u3⟩ := r_m295 (d := d) (e := e) (h := h) (x1 := x1) (w2 := w2) (w8 := w8) hla hle hlh ha (show y ≤ le by omega) (lh + 1 - h) h S (by omega)
    obtain ⟨V, v1, v2, v3⟩ := ih (y + 1) U (by omega)
    refine ⟨V, fun r hr w11 => BX8_packs_284 ?_, fun q hq => by rw [v2 q hq, u2 q hq], fun j => ?_⟩
    · rw [if_neg (fun z => by have := (n_lt (by omega) (by omega)).mp z; omega)]
      exact u1 r (v1 r hr)
    · rw [v3 j, u3 j]
      by_cases p : 28 * a + 4 * y + h ≤ j ∧ j ≤ 28 * a + 4 * y + lh
      · have e1 : j / 28 = a := by omega
        have e2 : j / 4 % 7 = y := by omega
        have e3 : j % 4 = j - (28 * a + 4 * y) := by omega
        rw [if_pos p, if_neg (by omega), if_pos (by omega)]
      · rw [if_neg p]
        by_cases p2 : j / 28 = a ∧ (y + 1 ≤ j / 4 % 7 ∧ j / 4 % 7 ≤ le) ∧ h ≤ j % 4 ∧ j % 4 ≤ lh
        · rw [if_pos p2, if_pos (by omega)]
        · rw [if_neg p2, if_neg]
          rintro ⟨q1, ⟨q2, q3⟩, q4, q5⟩
          by_cases q6 : j / 4 % 7 = y
          · have : j = 28 * a + 4 * y + j % 4 := by omega
            omega
          · exact p2 ⟨q1, ⟨by omega, q3⟩, q4, q5⟩
theorem r_m274 (hla : la ≤ 7) (hle : le ≤ 6) (hlh : lh ≤ 3) (hh : h ≤ lh) (he : e ≤ le) : ∀ n z (S : tb_St), z + n = la + 1 → ∃ S', (∀ r, (∀ w3 w4 w5 w6 w7 w8 w9 w10 w11 : Value, tb_E d mX8_packs tb_dV 7 [.ref 45, .int (x1 + 1), w2, w3, w4, w5, w6, w7, w8, w9, w10, w11] [] tb_S S' = some r) → ∀ w10 w11 : Value, tb_E d mX8_packs tb_dV 274 [.ref 45, .int x1, w2, .int (nI e), .int (nI h), .int (nI la), .int (nI le), .int (nI lh), w8, .int (nI z), w10, w11] [] tb_S S = some r) ∧ (∀ q, q ≠ 57 → S' q = S q) ∧ ∀ j, S' 57 j = if (z ≤ j / 28 ∧ j / 28 ≤ la) ∧ (e ≤ j / 4 % 7 ∧ j / 4 % 7 ≤ le) ∧ h ≤ j % 4 ∧ j % 4 ≤ lh then 1 else S 57 j := by
  intro n
  induction n with
  | zero =>
    intro z S hx
    refine ⟨S, fun r hr w10 w11 => BX8_packs_274 ?_, fun _ _ => rfl, fun j => by rw [if_neg (by omega)]⟩
    rw [if_pos ((n_lt (by omega) (by omega)).mpr (by omega))]
    exact hr _ _ _ _ _ _ _ _ _
  | succ n ih =>
    intro z S hx
    obtain ⟨U, u1, u2, u3⟩ := r_m284 (d := d) (e := e) (h := h) (x1 := x1) (w2 := w2) (w8 := w8) hla hle hlh hh (show z ≤ la by omega) (le + 1 - e) e S (by omega)
    obtain ⟨V, v1, v2, v3⟩ := ih (z + 1) U (by omega)
    refine ⟨V, fun r hr w10 w11 => BX8_packs_274 ?_, fun q hq => by rw [v2 q hq, u2 q hq], fun j => ?_⟩
    · rw [if_neg (fun z => by have := (n_lt (by omega) (by omega)).mp z; omega)]
      exact u1 r (v1 r hr) _
    · rw [v3 j, u3 j]
      by_cases p : j / 28 = z ∧ (e ≤ j / 4 % 7 ∧ j / 4 % 7 ≤ le) ∧ h ≤ j % 4 ∧ j % 4 ≤ lh
      · rw [if_pos p, if_neg (by omega), if_pos (by omega)]
      · rw [if_neg p]
        by_cases p2 : (z + 1 ≤ j / 28 ∧ j / 28 ≤ la) ∧ (e ≤ j / 4 % 7 ∧ j / 4 % 7 ≤ le) ∧ h ≤ j % 4 ∧ j % 4 ≤ lh
        · rw [if_pos p2, if_pos (by omega)]
        · rw [if_neg p2, if_neg]
          rintro ⟨⟨q0, q1⟩, q2⟩
          by_cases q6 : j / 28 = z
          · exact p ⟨q6, q2⟩
          · exact p2 ⟨⟨by omega, q1⟩, q2⟩
end Mark
