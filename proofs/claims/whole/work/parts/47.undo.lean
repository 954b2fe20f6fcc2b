/-! Part 47: pairs: image, undo -/
theorem p_image : tb_PI mX7_image mX8_image [] := by
  intro S hJ
  obtain ⟨n, hT⟩ := hJ.1
  obtain ⟨m, hm, p1, p2, hp⟩ := hJ.2.2.1
  obtain ⟨hn, e1, e2, hw⟩ := id hT
  obtain ⟨A, a1, a2, a3, -⟩ := c_copyTi (d := 98) hn n 0 (tb_up S 13 7 (nI n)) (by omega) (by simp [up_rd])
  have A10 : A 10 2 = nI m := by rw [a2 10 (by omega)]; simp [up_rd, p1]
  obtain ⟨B, b1, b2', b3, -⟩ := c_copyPi (d := 98) hm m 0 (tb_up A 21 2 (nI m)) (by omega) (by simp [up_rd])
  have hA : tb_cV 99 mX5_copyFrom [.ref 13, .ref 2] S = some A := MX5_copyFrom (d := 98) (by rw [e1]; exact a1)
  have hB : tb_cV 99 mX1_copyFrom [.ref 21, .ref 10] A = some B := MX1_copyFrom (d := 98) (by rw [A10]; exact b1)
  have B2 : B 2 7 = nI n := by rw [b2' 2 (by omega), up_ne (by omega), a2 2 (by omega), up_ne (by omega)]; exact e1
  generalize hU : tb_up B 1 4 1 = U
  have Uq : ∀ q, q ≠ 1 → q < 13 ∨ 23 < q → U q = S q := fun q h1 h2 => by
    rw [← hU, up_ne h1, b2' q (by omega), up_ne (by omega), a2 q (by omega), up_ne (by omega)]
  have U13 : U 13 7 = nI n := by rw [← hU, up_ne (by omega), b2' 13 (by omega), up_ne (by omega), a2 13 (by omega)]; simp [up_rd]
  have U14 : ∀ k, k < 7 → ∀ t, t < n → U (14 + k) t = S (3 + k) t := fun k hk t ht => by
    rw [← hU, up_ne (by omega), b2' _ (by omega), up_ne (by omega), a3 k hk t (by omega) ht, up_ne (by omega)]
  have U21 : U 21 2 = nI m := by rw [← hU, up_ne (by omega), b2' 21 (by omega)]; simp [up_rd]
  have U22 : ∀ k, k < 2 → ∀ t, t < m → U (22 + k) t = S (11 + k) t := fun k hk t ht => by
    rw [← hU, up_ne (by omega), b3 k hk t (by omega) ht, up_ne (by omega), a2 _ (by omega), up_ne (by omega)]
  have U1 : U 1 4 = 1 := by rw [← hU]; simp [up_rd]
  have U45 : U 45 = S 45 := Uq 45 (by omega) (by omega)
  obtain ⟨C, c1, c2, c3, -⟩ := r_im1 (d := 99) 24 0 (tb_up (tb_up (tb_up U 45 32 (1 : Int32)) 45 33 (nI n)) 45 34 (nI m)) (by omega)
  obtain ⟨D, d1, d2, d3, d4⟩ := r_im2 (d := 99) 8 0 C (by omega)
  have Dq : ∀ q, q ≠ 45 → q ≠ 63 → D q = U q := fun q h1 h2 => by
    rw [d2 q h2, c2 q h2, up_ne h1, up_ne h1, up_ne h1]
  have D45 : ∀ f, D 45 f = if f = 34 then nI m else if f = 33 then nI n else if f = 32 then 1 else S 45 f := fun f => by
    rw [d2 45 (by omega), c2 45 (by omega)]
    simp only [up_rd, true_and, U45]
  have D63 : ∀ k, k < 7 → ∀ t, t < 24 → D 63 (24 * k + t) = S (46 + k) t := fun k hk t ht => by
    rw [d4 _ (by omega), c3 k hk t (by omega) ht, up_ne (by omega), up_ne (by omega), up_ne (by omega), Uq _ (by omega) (by omega)]
  have D63p : ∀ t, t < 8 → D 63 (168 + t) = S 53 t ∧ D 63 (176 + t) = S 54 t := fun t ht => by
    obtain ⟨k1, k2⟩ := d3 t (by omega) ht
    rw [k1, k2, c2 53 (by omega), c2 54 (by omega)]
    simp (disch := omega) only [up_ne, Uq]
    exact ⟨trivial, trivial⟩
  have DS : ∀ q, q ≠ 45 → q ≠ 63 → q ≠ 1 → q < 13 ∨ 23 < q → D q = S q := fun q h1 h2 h3 h4 => by rw [Dq q h1 h2, Uq q h3 h4]
  refine ⟨nI n, U, D, MX7_image ?_, Uq 0 (by omega) (by omega), MX8_image ?_, DS 0 (by omega) (by omega) (by omega) (by omega), ?_⟩
  · simp only [hA, hB, Option.bind_some]
    rw [B2, hU]
  · have h0 : C 45 0 = nI n := by rw [c2 45 (by omega)]; simp [up_rd, U45, e2]
    rw [h0] at d1
    have := c1 _ d1
    rw [U45, e2, p2]
    exact this
  · refine ⟨⟨n, ?_⟩, Or.inr ⟨?_, ?_, ⟨n, ?_⟩, ⟨m, hm, ?_, ?_, fun k hk => ?_⟩⟩, ?_, ?_, ?_, ?_, fun q hq => ?_, ?_⟩
    · rw [D45]
      simp (disch := omega) only [DS, if_false]
      simpa using hT
    · rw [Dq 1 (by omega) (by omega)]; exact U1
    · rw [D45]; simp
    · refine ⟨hn, ?_, ?_, fun t ht => ⟨?_, ?_⟩⟩
      · rw [Dq 13 (by omega) (by omega)]; exact U13
      · rw [D45]; simp
      · obtain ⟨w1, w2, w3, w4, w5, w6, w7⟩ := (hw t ht).1
        have g0 := D63 0 (by omega) t (by omega)
        have g1 := D63 1 (by omega) t (by omega)
        have g2 := D63 2 (by omega) t (by omega)
        have g3 := D63 3 (by omega) t (by omega)
        have g4 := D63 4 (by omega) t (by omega)
        have g5 := D63 5 (by omega) t (by omega)
        have g6 := D63 6 (by omega) t (by omega)
        simp only [Nat.mul_zero, Nat.zero_add, Nat.mul_one, Nat.reduceMul, Nat.reduceAdd] at g0 g1 g2 g3 g4 g5 g6
        dsimp only
        rw [g0, g1, g2, g3, g4, g5, g6, Dq 14 (by omega) (by omega), Dq 15 (by omega) (by omega), Dq 16 (by omega) (by omega), Dq 17 (by omega) (by omega), Dq 18 (by omega) (by omega), Dq 19 (by omega) (by omega), Dq 20 (by omega) (by omega)]
        exact ⟨w1.trans (U14 0 (by omega) t ht).symm, w2.trans (U14 1 (by omega) t ht).symm, w3.trans (U14 3 (by omega) t ht).symm, w4.trans (U14 4 (by omega) t ht).symm, w5.trans (U14 2 (by omega) t ht).symm, w6.trans (U14 5 (by omega) t ht).symm, w7.trans (U14 6 (by omega) t ht).symm⟩
      · rw [Dq 14 (by omega) (by omega), Dq 15 (by omega) (by omega), Dq 16 (by omega) (by omega), Dq 17 (by omega) (by omega), Dq 18 (by omega) (by omega), Dq 19 (by omega) (by omega)]
        exact wfT_congr (fun a ha => ⟨U14 0 (by omega) a (by omega), U14 1 (by omega) a (by omega), U14 2 (by omega) a (by omega), U14 3 (by omega) a (by omega), U14 4 (by omega) a (by omega), U14 5 (by omega) a (by omega)⟩) (hw t ht).2
    · rw [Dq 21 (by omega) (by omega)]; exact U21
    · rw [D45]; simp
    · obtain ⟨k1, k2, k3⟩ := hp k hk
      dsimp only
      rw [(D63p k (by omega)).1, (D63p k (by omega)).2, Dq 22 (by omega) (by omega), Dq 23 (by omega) (by omega)]
      have u0 := U22 0 (by omega) k hk
      have u1 := U22 1 (by omega) k hk
      simp only [Nat.add_zero, Nat.reduceAdd] at u0 u1
      rw [u0, u1]
      exact ⟨k1, k2, k3⟩
    · rw [D45]
      simp (disch := omega) only [DS, if_false]
      simpa using hJ.2.2.1
    · rw [D45]
      simp (disch := omega) only [DS, if_false]
      simpa using hJ.2.2.2.1
    · rw [D45]
      simp (disch := omega) only [DS, if_false]
      simpa using hJ.2.2.2.2.1
    · rw [D45]
      simp (disch := omega) only [DS, if_false]
      simpa using hJ.2.2.2.2.2.1
    · have h := hJ.2.2.2.2.2.2.1 q hq
      rw [DS 44 (by omega) (by omega) (by omega) (by omega), DS 64 (by omega) (by omega) (by omega) (by omega), DS (40 + q) (by omega) (by omega) (by omega) (by omega), DS 65 (by omega) (by omega) (by omega) (by omega)]
      exact h
    · rw [D45]
      simpa using hJ.2.2.2.2.2.2.2
theorem p_undo : tb_PI mX7_undo mX8_undo [] := by
  intro S hJ
  rcases hJ.2.1 with ⟨h0, h1⟩ | ⟨h0, h1, ⟨n, hI⟩, m, hm, q1, q2, hq⟩
  · refine ⟨-3, S, S, MX7_undo ?_, rfl, MX8_undo ?_, rfl, hJ⟩
    · rw [h0, if_neg (by decide)]
    · rw [h1, if_neg (by decide)]
  · obtain ⟨hn, e1, e2, hw⟩ := id hI
    obtain ⟨A, a1, a2, a3, -⟩ := c_copyTu (d := 98) hn n 0 (tb_up S 2 7 (nI n)) (by omega) (by simp [up_rd])
    have A21 : A 21 2 = nI m := by rw [a2 21 (by omega), up_ne (by omega)]; exact q1
    obtain ⟨B, b1, b2', b3, -⟩ := c_copyPu (d := 98) hm m 0 (tb_up A 10 2 (nI m)) (by omega) (by simp [up_rd])
    have hA : tb_cV 99 mX5_copyFrom [.ref 2, .ref 13] S = some A := MX5_copyFrom_2 (d := 98) (by rw [e1]; exact a1)
    have hB : tb_cV 99 mX1_copyFrom [.ref 10, .ref 21] A = some B := MX1_copyFrom_2 (d := 98) (by rw [A21]; exact b1)
    have Bq : ∀ q, q < 2 ∨ (12 < q) → B q = S q := fun q h2 => by
      rw [b2' q (by omega), up_ne (by omega), a2 q (by omega), up_ne (by omega)]
    have B2 : B 2 7 = nI n := by rw [b2' 2 (by omega), up_ne (by omega), a2 2 (by omega)]; simp [up_rd]
    have B3 : ∀ k, k < 7 → ∀ t, t < n → B (3 + k) t = S (14 + k) t := fun k hk t ht => by
      rw [b2' _ (by omega), up_ne (by omega), a3 k hk t (by omega) ht, up_ne (by omega)]
    have B10 : B 10 2 = nI m := by rw [b2' 10 (by omega)]; simp [up_rd]
    have B11 : ∀ k, k < 2 → ∀ t, t < m → B (11 + k) t = S (22 + k) t := fun k hk t ht => by
      rw [b3 k hk t (by omega) ht, up_ne (by omega), a2 _ (by omega), up_ne (by omega)]
    have B45 : B 45 = S 45 := Bq 45 (by omega)
    obtain ⟨C, c1, c2, c3, -⟩ := r_un1 (d := 99) 24 0 (tb_up (tb_up B 45 0 (nI n)) 45 8 (nI m)) (by omega)
    obtain ⟨D, d1, d2, d3, d4⟩ := r_un2 (d := 99) 8 0 C (by omega)
    have Dq : ∀ q, q ≠ 45 → q < 46 ∨ 54 < q → D q = B q := fun q g1 g2 => by
      rw [d2 q (by omega), c2 q (by omega), up_ne g1, up_ne g1]
    have D45 : ∀ f, D 45 f = if f = 8 then nI m else if f = 0 then nI n else S 45 f := fun f => by
      rw [d2 45 (by omega), c2 45 (by omega)]
      simp only [up_rd, true_and, B45]
    have D46 : ∀ k, k < 7 → ∀ t, t < 24 → D (46 + k) t = S 63 (24 * k + t) := fun k hk t ht => by
      rw [d2 _ (by omega), c3 k hk t (by omega) ht, up_ne (by omega), up_ne (by omega), Bq 63 (by omega)]
    have D53 : ∀ t, t < 8 → D 53 t = S 63 (168 + t) ∧ D 54 t = S 63 (176 + t) := fun t ht => by
      obtain ⟨k1, k2⟩ := d3 t (by omega) ht
      rw [k1, k2, c2 63 (by omega)]
      simp (disch := omega) only [up_ne, Bq]
      exact ⟨trivial, trivial⟩
    have DS : ∀ q, q ≠ 45 → q < 2 ∨ (12 < q ∧ q < 46) ∨ 54 < q → D q = S q := fun q g1 g2 => by rw [Dq q g1 (by omega), Bq q (by omega)]
    refine ⟨nI n, B, D, MX7_undo ?_, Bq 0 (by omega), MX8_undo ?_, DS 0 (by omega) (by omega), ?_⟩
    · rw [h0, if_pos (by decide)]
      simp only [hA, hB, Option.bind_some]
      rw [B2]
    · have hc0 : C 45 0 = nI n := by rw [c2 45 (by omega)]; simp [up_rd]
      rw [hc0] at d1
      have := c1 _ d1
      rw [B45, h1, if_pos (by decide), e2, q2]
      exact this
    · refine ⟨⟨n, ?_⟩, Or.inr ⟨?_, ?_, ⟨n, ?_⟩, ?_⟩, ⟨m, hm, ?_, ?_, fun k hk => ?_⟩, ?_, ?_, ?_, fun q hq => ?_, ?_⟩
      · refine ⟨hn, ?_, ?_, fun t ht => ⟨?_, ?_⟩⟩
        · rw [Dq 2 (by omega) (by omega)]; exact B2
        · rw [D45]; simp
        · obtain ⟨w1, w2, w3, w4, w5, w6, w7⟩ := (hw t ht).1
          have g0 := D46 0 (by omega) t (by omega)
          have g1 := D46 1 (by omega) t (by omega)
          have g2 := D46 2 (by omega) t (by omega)
          have g3 := D46 3 (by omega) t (by omega)
          have g4 := D46 4 (by omega) t (by omega)
          have g5 := D46 5 (by omega) t (by omega)
          have g6 := D46 6 (by omega) t (by omega)
          simp only [Nat.mul_zero, Nat.zero_add, Nat.mul_one, Nat.reduceMul, Nat.reduceAdd, Nat.add_zero] at g0 g1 g2 g3 g4 g5 g6
          rw [g0, g1, g2, g3, g4, g5, g6, Dq 3 (by omega) (by omega), Dq 4 (by omega) (by omega), Dq 5 (by omega) (by omega), Dq 6 (by omega) (by omega), Dq 7 (by omega) (by omega), Dq 8 (by omega) (by omega), Dq 9 (by omega) (by omega)]
          exact ⟨w1.trans (B3 0 (by omega) t ht).symm, w2.trans (B3 1 (by omega) t ht).symm, w3.trans (B3 3 (by omega) t ht).symm, w4.trans (B3 4 (by omega) t ht).symm, w5.trans (B3 2 (by omega) t ht).symm, w6.trans (B3 5 (by omega) t ht).symm, w7.trans (B3 6 (by omega) t ht).symm⟩
        · rw [Dq 3 (by omega) (by omega), Dq 4 (by omega) (by omega), Dq 5 (by omega) (by omega), Dq 6 (by omega) (by omega), Dq 7 (by omega) (by omega), Dq 8 (by omega) (by omega)]
          exact wfT_congr (fun a ha => ⟨B3 0 (by omega) a (by omega), B3 1 (by omega) a (by omega), B3 2 (by omega) a (by omega), B3 3 (by omega) a (by omega), B3 4 (by omega) a (by omega), B3 5 (by omega) a (by omega)⟩) (hw t ht).2
      · rw [DS 1 (by omega) (by omega)]; exact h0
      · rw [D45]; simpa using h1
      · rw [D45]
        simp (disch := omega) only [DS, if_false]
        simpa using hI
      · rw [D45]
        simp (disch := omega) only [DS, if_false]
        exact ⟨m, hm, q1, by simpa using q2, hq⟩
      · rw [Dq 10 (by omega) (by omega)]; exact B10
      · rw [D45]; simp
      · obtain ⟨k1, k2, k3⟩ := hq k hk
        rw [(D53 k (by omega)).1, (D53 k (by omega)).2, Dq 11 (by omega) (by omega), Dq 12 (by omega) (by omega)]
        have u0 := B11 0 (by omega) k hk
        have u1 := B11 1 (by omega) k hk
        simp only [Nat.add_zero, Nat.reduceAdd] at u0 u1
        rw [u0, u1]
        exact ⟨k1, k2, k3⟩
      · rw [D45]
        simp (disch := omega) only [DS, if_false]
        simpa using hJ.2.2.2.1
      · rw [D45]
        simp (disch := omega) only [DS, if_false]
        simpa using hJ.2.2.2.2.1
      · rw [D45]
        simp (disch := omega) only [DS, if_false]
        simpa using hJ.2.2.2.2.2.1
      · have h := hJ.2.2.2.2.2.2.1 q hq
        rw [DS 44 (by omega) (by omega), DS 64 (by omega) (by omega), DS (40 + q) (by omega) (by omega), DS 65 (by omega) (by omega)]
        exact h
      · rw [D45]
        simpa using hJ.2.2.2.2.2.2.2
