/-! Part 41: cases in boxes -/
theorem c_isIn {d c m : Nat} {S : tb_St} (hc : c < 224) (hm : m ≤ 999999) : tb_cI (d + 2) mX7_isInBox [.int (nI c), .int (nI m)] S = some (inBB c m, S) := by
  refine MX7_isInBox ?_
  have ha : ∀ {d}, tb_cI (d + 1) mX7_ageOf [.int (nI c)] S = some (nI (c / 28), S) := fun {d} => by
    refine MX7_ageOf ?_
    rw [show (28 : Int32) = nI 28 from rfl, n_div (by omega) (by omega)]
  have hd : ∀ {d}, tb_cI (d + 1) mX7_dayOf [.int (nI c)] S = some (nI (c / 4 % 7), S) := fun {d} => by
    refine MX7_dayOf ?_
    rw [show (4 : Int32) = nI 4 from rfl, n_div (by omega) (by omega), show (7 : Int32) = nI 7 from rfl, n_rem (by omega) (by omega)]
  have hh : ∀ {d}, tb_cI (d + 1) mX7_hourOf [.int (nI c)] S = some (nI (c % 4), S) := fun {d} => by
    refine MX7_hourOf ?_
    rw [show (4 : Int32) = nI 4 from rfl, n_rem (by omega) (by omega)]
  simp only [ha, hd, hh, Option.bind_some]
  rw [show (100000 : Int32) = nI 100000 from rfl, show (10000 : Int32) = nI 10000 from rfl, show (1000 : Int32) = nI 1000 from rfl, show (100 : Int32) = nI 100 from rfl, show (10 : Int32) = nI 10 from rfl]
  rw [n_div (by omega) (by omega), n_div (by omega) (by omega), n_div (by omega) (by omega), n_div (by omega) (by omega), n_div (by omega) (by omega), n_rem (by omega) (by omega), n_rem (by omega) (by omega), n_rem (by omega) (by omega), n_rem (by omega) (by omega), n_rem (by omega) (by omega)]
  have g0 : m / 100000 = figM m 0 := by unfold figM; omega
  have g1 : m / 10000 % 10 = figM m 1 := rfl
  have g2 : m / 1000 % 10 = figM m 2 := rfl
  have g3 : m / 100 % 10 = figM m 3 := rfl
  have g4 : m / 10 % 10 = figM m 4 := rfl
  have g5 : m % 10 = figM m 5 := by unfold figM; simp
  rw [g0, g1, g2, g3, g4, g5]
  have l0 := fig_lt m 0
  have l1 := fig_lt m 1
  have l2 := fig_lt m 2
  have l3 := fig_lt m 3
  have l4 := fig_lt m 4
  have l5 := fig_lt m 5
  have k0 : c / 28 < 8 := by omega
  have k1 : c / 4 % 7 < 7 := by omega
  have k2 : c % 4 < 4 := by omega
  unfold inBB inB
  clear g0 g1 g2 g3 g4 g5 ha hd hh
  generalize figM m 0 = f0 at *
  generalize figM m 1 = f1 at *
  generalize figM m 2 = f2 at *
  generalize figM m 3 = f3 at *
  generalize figM m 4 = f4 at *
  generalize figM m 5 = f5 at *
  generalize c / 28 = z0 at *
  generalize c / 4 % 7 = z1 at *
  generalize c % 4 = z2 at *
  clear hm hc
  by_cases q0 : z0 < f0
  · rw [if_pos ((n_lt (by omega) (by omega)).mpr q0), if_neg (by omega)]
  rw [if_neg (fun z => q0 ((n_lt (by omega) (by omega)).mp z))]
  by_cases q1 : f1 < z0
  · rw [if_pos ((n_lt (by omega) (by omega)).mpr q1), if_neg (by omega)]
  rw [if_neg (fun z => q1 ((n_lt (by omega) (by omega)).mp z))]
  by_cases q2 : z1 < f2
  · rw [if_pos ((n_lt (by omega) (by omega)).mpr q2), if_neg (by omega)]
  rw [if_neg (fun z => q2 ((n_lt (by omega) (by omega)).mp z))]
  by_cases q3 : f3 < z1
  · rw [if_pos ((n_lt (by omega) (by omega)).mpr q3), if_neg (by omega)]
  rw [if_neg (fun z => q3 ((n_lt (by omega) (by omega)).mp z))]
  by_cases q4 : z2 < f4
  · rw [if_pos ((n_lt (by omega) (by omega)).mpr q4), if_neg (by omega)]
  rw [if_neg (fun z => q4 ((n_lt (by omega) (by omega)).mp z))]
  by_cases q5 : f5 < z2
  · rw [if_pos ((n_lt (by omega) (by omega)).mpr q5), if_neg (by omega)]
  rw [if_neg (fun z => q5 ((n_lt (by omega) (by omega)).mp z)), if_pos (by omega)]
theorem r_part {d c : Nat} {S : tb_St} (hc : c < 224) : tb_cI (d + 1) mX8_part [.int (nI c), .int (nI 0)] S = some (nI (c / 28), S) ∧ tb_cI (d + 1) mX8_part [.int (nI c), .int (nI 1)] S = some (nI (c / 4 % 7), S) ∧ tb_cI (d + 1) mX8_part [.int (nI c), .int (nI 2)] S = some (nI (c % 4), S) := by
  refine ⟨MX8_part ?_, MX8_part ?_, MX8_part ?_⟩
  · rw [if_neg (by decide +kernel), show (28 : Int32) = nI 28 from rfl, n_div (by omega) (by omega)]
  · rw [if_pos (by decide +kernel), if_neg (by decide +kernel), show (4 : Int32) = nI 4 from rfl, n_div (by omega) (by omega), show (7 : Int32) = nI 7 from rfl, n_rem (by omega) (by omega)]
  · rw [if_pos (by decide +kernel), if_pos (by decide +kernel), show (4 : Int32) = nI 4 from rfl, n_rem (by omega) (by omega)]
theorem r_isIn {d c m : Nat} {S : tb_St} (hc : c < 224) (hm : m ≤ 999999) : tb_cI (d + 2) mX8_isIn [.int (nI c), .int (nI m)] S = some (inBB c m, S) := by
  refine MX8_isIn ?_
  have hl := fun k => fig_lt m k
  have hl0 := hl 0
  have hl1 := hl 1
  have hl2 := hl 2
  have hl3 := hl 3
  have hl4 := hl 4
  have hl5 := hl 5
  have f : ∀ {d} (k : Nat), k ≤ 5 → tb_cI (d + 1) mX8_figure [.int (nI m), .int (nI k)] S = some (nI (figM m k), S) := fun {d} k hk => r_fig (by omega) hk
  have p0 : ∀ {d}, tb_cI (d + 1) mX8_part [.int (nI c), .int (nI 0)] S = some (nI (c / 28), S) := (r_part hc).1
  have p1 : ∀ {d}, tb_cI (d + 1) mX8_part [.int (nI c), .int (nI 1)] S = some (nI (c / 4 % 7), S) := (r_part hc).2.1
  have p2 : ∀ {d}, tb_cI (d + 1) mX8_part [.int (nI c), .int (nI 2)] S = some (nI (c % 4), S) := (r_part hc).2.2
  rw [show (0 : Int32) = nI 0 from rfl]
  refine BX8_isIn_2 ?_
  rw [if_neg (by decide +kernel), p0]
  simp only [Option.bind_some]
  rw [show (2 : Int32) * nI 0 = nI 0 from by decide +kernel, show nI 0 + (1 : Int32) = nI 1 from rfl, f 0 (by omega)]
  simp only [Option.bind_some]
  rw [f 1 (by omega)]
  simp only [Option.bind_some]
  rw [s_within]
  simp only [Option.bind_some, b2_0]
  by_cases q0 : figM m 0 ≤ c / 28 ∧ c / 28 ≤ figM m 1
  · rw [if_pos (fun z => z ⟨(n_le (by omega) (by omega)).mpr q0.1, (n_le (by omega) (by omega)).mpr q0.2⟩)]
    refine BX8_isIn_2 ?_
    rw [if_neg (by decide +kernel), p1]
    simp only [Option.bind_some]
    rw [show (2 : Int32) * nI 1 = nI 2 from by decide +kernel, show nI 2 + (1 : Int32) = nI 3 from by decide +kernel, show nI 1 + (1 : Int32) = nI 2 from by decide +kernel, f 2 (by omega)]
    simp only [Option.bind_some]
    rw [f 3 (by omega)]
    simp only [Option.bind_some]
    rw [s_within]
    simp only [Option.bind_some, b2_0]
    by_cases q1 : figM m 2 ≤ c / 4 % 7 ∧ c / 4 % 7 ≤ figM m 3
    · rw [if_pos (fun z => z ⟨(n_le (by omega) (by omega)).mpr q1.1, (n_le (by omega) (by omega)).mpr q1.2⟩)]
      refine BX8_isIn_2 ?_
      rw [if_neg (by decide +kernel), p2]
      simp only [Option.bind_some]
      rw [show (2 : Int32) * nI 2 = nI 4 from by decide +kernel, show nI 4 + (1 : Int32) = nI 5 from by decide +kernel, show nI 2 + (1 : Int32) = nI 3 from by decide +kernel, f 4 (by omega)]
      simp only [Option.bind_some]
      rw [f 5 (by omega)]
      simp only [Option.bind_some]
      rw [s_within]
      simp only [Option.bind_some, b2_0]
      by_cases q2 : figM m 4 ≤ c % 4 ∧ c % 4 ≤ figM m 5
      · rw [if_pos (fun z => z ⟨(n_le (by omega) (by omega)).mpr q2.1, (n_le (by omega) (by omega)).mpr q2.2⟩)]
        refine BX8_isIn_2 ?_
        rw [if_pos (by decide +kernel)]
        unfold inBB
        rw [if_pos ⟨q0.1, q0.2, q1.1, q1.2, q2.1, q2.2⟩]
      · rw [if_neg (fun z => z (fun z => q2 ⟨(n_le (by omega) (by omega)).mp z.1, (n_le (by omega) (by omega)).mp z.2⟩))]
        unfold inBB
        rw [if_neg (fun z => q2 ⟨z.2.2.2.2.1, z.2.2.2.2.2⟩)]
    · rw [if_neg (fun z => z (fun z => q1 ⟨(n_le (by omega) (by omega)).mp z.1, (n_le (by omega) (by omega)).mp z.2⟩))]
      unfold inBB
      rw [if_neg (fun z => q1 ⟨z.2.2.1, z.2.2.2.1⟩)]
  · rw [if_neg (fun z => z (fun z => q0 ⟨(n_le (by omega) (by omega)).mp z.1, (n_le (by omega) (by omega)).mp z.2⟩))]
    unfold inBB
    rw [if_neg (fun z => q0 ⟨z.1, z.2.1⟩)]
