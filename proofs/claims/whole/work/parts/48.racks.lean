/-! Part 48: pairs: rack, put, get -/
theorem c_rhas {d : Nat} {x : Int32} {S : tb_St} : tb_cI (d + 1) mX3_has [.ref 38, .int x] S = some (b2 (0 ≤ x ∧ x < 4), S) := by
  refine MX3_has ?_
  unfold b2
  repeat' split
  all_goals (first | rfl | (exfalso; grind))
theorem r_isRack {d : Nat} {x : Int32} {S : tb_St} : tb_cI (d + 2) mX8_isRack [.int x] S = some (b2 (0 ≤ x ∧ x ≤ 3), S) := by
  refine MX8_isRack ?_
  rw [s_within]
  simp [b2_01]
theorem rack_or (x : Int32) : (∃ q, q < 4 ∧ x = nI q) ∨ (¬ (0 ≤ x ∧ x < 4) ∧ ¬ (0 ≤ x ∧ x ≤ 3)) := by
  by_cases h : 0 ≤ x ∧ x < 4
  · exact Or.inl (n_of_lt (n := 4) h.1 h.2 (by omega))
  · exact Or.inr ⟨h, fun z => h ⟨z.1, by have := z.2; grind⟩⟩
theorem rack_in {q : Nat} (h : q < 4) : (0 ≤ nI q ∧ nI q < 4) ∧ (0 ≤ nI q ∧ nI q ≤ 3) :=
  ⟨⟨n_nn (by omega), (n_lt (b := 4) (by omega) (by omega)).mpr h⟩, ⟨n_nn (by omega), (n_le (b := 3) (by omega) (by omega)).mpr (by omega)⟩⟩
theorem c_holds {d q : Nat} {S : tb_St} (h : q < 4) : tb_cI (d + 2) mX3_holds [.ref 38, .int (nI q)] S = some (b2 (¬ S 44 q = -1), S) := by
  refine MX3_holds ?_
  rw [c_rhas, b2_t (rack_in h).1]
  simp only [Option.bind_some, one0, if_false]
  rw [n_ix h (by omega)]
  simp only [Option.bind_some]
  by_cases e : S 44 q = -1
  · rw [if_pos e, b2_f (fun z => z e)]
  · rw [if_neg e, b2_t e]
theorem c_hasPl {d q : Nat} {x : Int32} {S : tb_St} (h : q < 4) : tb_cI (d + 2) mX3_hasPlace [.ref 38, .int (nI q), .int x] S = some (b2 (0 ≤ x ∧ x < S 44 q), S) := by
  refine MX3_hasPlace ?_
  rw [c_rhas, b2_t (rack_in h).1]
  simp only [Option.bind_some, one0, if_false]
  by_cases h0 : x < 0
  · rw [if_pos h0, b2_f (fun z => by have := z.1; grind)]
  · rw [if_neg h0, n_ix h (by omega)]
    simp only [Option.bind_some]
    by_cases h1 : S 44 q ≤ x
    · rw [if_pos h1, b2_f (fun z => by have := z.2; grind)]
    · rw [if_neg h1, b2_t ⟨by grind, by grind⟩]
theorem c_hasPlN {d : Nat} {x y : Int32} {S : tb_St} (h : ¬ (0 ≤ y ∧ y < 4)) : tb_cI (d + 2) mX3_hasPlace [.ref 38, .int y, .int x] S = some (0, S) := by
  refine MX3_hasPlace ?_
  rw [c_rhas, b2_f h]
  simp only [Option.bind_some, if_true]
theorem c_store {d q i n : Nat} {v : Int32} {S : tb_St} (h : q < 4) (hl : S 44 q = nI n) (hn : n ≤ 70) (hi : i < n) : tb_cV (d + 3) mX3_store [.ref 38, .int (nI q), .int (nI i), .int v] S = some (tb_up S (40 + q) i v) := by
  refine MX3_store ?_
  rw [c_hasPl h, hl, b2_t ⟨n_nn (by omega), (n_lt (by omega) (by omega)).mpr hi⟩]
  simp only [Option.bind_some, one0, if_false]
  rw [n_ix h (by omega), n_ix (by omega) (by omega)]
  rfl
theorem c_at {d q i n : Nat} {S : tb_St} (h : q < 4) (hl : S 44 q = nI n) (hn : n ≤ 70) (hi : i < n) : tb_cI (d + 3) mX3_at [.ref 38, .int (nI q), .int (nI i)] S = some (S (40 + q) i, S) := by
  refine MX3_at ?_
  rw [c_hasPl h, hl, b2_t ⟨n_nn (by omega), (n_lt (by omega) (by omega)).mpr hi⟩]
  simp only [Option.bind_some, one0, if_false]
  rw [n_ix h (by omega), n_ix (by omega) (by omega)]
  rfl
/-- the index of a rack's place in the reference -/
theorem r_rix {q i : Nat} (h : q < 4) (hi : i < 70) : tb_ix (((70 : Int32) * nI q) + nI i) 280 = some (70 * q + i) := by
  rw [show (70 : Int32) = nI 70 from rfl, n_mul (by omega) (by omega) (by omega), n_add (by omega)]
  exact n_ix (by omega) (by omega)
theorem n_m2 {n : Nat} (hn : n ≤ 70) (x : Int32) : (0 ≤ x ∧ x ≤ nI (n + 1) - 2) ↔ (0 ≤ x ∧ x < nI n) := by
  have e : nI (n + 1) - 2 = nI n - 1 := by rw [← n_inc]; grind
  rw [e]
  exact n_pred (by omega) x
theorem tb_J.rack {S S' : tb_St} (hJ : tb_J S) (h0 : ∀ q, q ≠ 40 → q ≠ 41 → q ≠ 42 → q ≠ 43 → q ≠ 44 → q ≠ 64 → q ≠ 65 → S' q = S q) (hR : ∀ q, q < 4 → jRack (S' 44 q) (S' 64 q) (S' (40 + q)) (fun k => S' 65 (70 * q + k))) : tb_J S' := by
  have p : ∀ q, q < 40 → S' q = S q := fun q hq => h0 q (by omega) (by omega) (by omega) (by omega) (by omega) (by omega) (by omega)
  have p' : ∀ q, 44 < q → q < 64 → S' q = S q := fun q h1 h2 => h0 q (by omega) (by omega) (by omega) (by omega) (by omega) (by omega) (by omega)
  refine ⟨?_, ?_, ?_, ?_, ?_, ?_, hR, ?_⟩
  · simp (disch := omega) only [p, p']; exact hJ.1
  · simp (disch := omega) only [p, p']; exact hJ.2.1
  · simp (disch := omega) only [p, p']; exact hJ.2.2.1
  · simp (disch := omega) only [p, p']; exact hJ.2.2.2.1
  · simp (disch := omega) only [p, p']; exact hJ.2.2.2.2.1
  · simp (disch := omega) only [p, p']; exact hJ.2.2.2.2.2.1
  · rw [p' 45 (by omega) (by omega)]; exact hJ.2.2.2.2.2.2.2
theorem p_put : ∀ a b c : Int32, tb_PI mX7_put mX8_put [.int a, .int b, .int c] := by
  intro a b c S hJ
  rcases rack_or a with ⟨q, hq, rfl⟩ | ⟨h1, h2⟩
  · rcases hJ.2.2.2.2.2.2.1 q hq with ⟨e1, e2⟩ | ⟨n, hn, e1, e2, hk⟩
    · refine ⟨-11, S, S, MX7_put ?_, rfl, MX8_put ?_, rfl, hJ⟩
      · simp only [c_rhas, b2_t (rack_in hq).1, c_holds hq, b2_f (show ¬ ¬ S 44 q = -1 from fun z => z e1), Option.bind_some, one0, not_false_eq_true, not_true_eq_false, if_true, if_false]
      · simp only [r_isRack, b2_t (rack_in hq).2, Option.bind_some, one0, not_false_eq_true, if_true, n_ix hq (show 4 ≤ 2 ^ 31 by omega), e2, not_true_eq_false, if_false]
    · have hne : ¬ nI n = -1 := n_ne_neg (by omega) (by decide)
      have hne2 : ¬ S 64 q = 0 := by rw [e2, show (0 : Int32) = nI 0 from rfl, n_eq (by omega) (by omega)]; omega
      rcases term_or (n := n) (by omega) b with ⟨i, hi, rfl⟩ | hx
      · refine ⟨1, tb_up S (40 + q) i c, tb_up (tb_up S (40 + q) i c) 65 (70 * q + i) c, MX7_put ?_, by simp (disch := omega) [up_ne], MX8_put ?_, by simp (disch := omega) [up_ne], ?_⟩
        · simp only [c_rhas, b2_t (rack_in hq).1, c_holds hq, b2_t hne, c_hasPl hq, e1, b2_t (show 0 ≤ nI i ∧ nI i < nI n from ⟨n_nn (by omega), (n_lt (by omega) (by omega)).mpr hi⟩), c_store hq e1 hn hi, Option.bind_some, one0, not_false_eq_true, if_true]
        · have e64 : tb_up S (40 + q) i c 64 = S 64 := up_ne (by omega)
          simp only [r_isRack, b2_t (rack_in hq).2, Option.bind_some, one0, not_false_eq_true, if_true, n_ix hq (show 4 ≤ 2 ^ 31 by omega), e64, hne2]
          rw [s_within, e2, b2_t ((n_m2 hn _).mpr ⟨n_nn (by omega), (n_lt (by omega) (by omega)).mpr hi⟩)]
          simp only [Option.bind_some, one0, not_false_eq_true, if_true]
          rw [r_rix hq (by omega)]
          rfl
        · refine hJ.rack (fun p h40 h41 h42 h43 h44 h64 h65 => by rw [up_ne h65, up_ne (by omega)]) (fun p hp => ?_)
          have h := hJ.2.2.2.2.2.2.1 p hp
          rw [up_ne (by omega), up_ne (by omega), up_ne (by omega), up_ne (by omega), up_ne (show 40 + p ≠ 65 by omega)]
          by_cases e : p = q
          · subst e
            refine Or.inr ⟨n, hn, e1, e2, fun k hk2 => ?_⟩
            simp only [up_rd, true_and]
            by_cases ek : k = i
            · subst ek
              simp
            · rw [if_neg (by omega), if_neg ek, if_neg (by omega)]
              exact hk k hk2
          · rcases h with ⟨g1, g2⟩ | ⟨n', hn', g1, g2, g3⟩
            · exact Or.inl ⟨g1, g2⟩
            · refine Or.inr ⟨n', hn', g1, g2, fun k hk2 => ?_⟩
              have g4 := g3 k hk2
              simp only [up_rd]
              rw [if_neg (by omega), if_neg (by omega), if_neg (by omega)]
              exact g4
      · refine ⟨-13, S, S, MX7_put ?_, rfl, MX8_put ?_, rfl, hJ⟩
        · simp only [c_rhas, b2_t (rack_in hq).1, c_holds hq, b2_t hne, c_hasPl hq, e1, b2_f hx, Option.bind_some, one0, not_false_eq_true, not_true_eq_false, if_true, if_false]
        · simp only [r_isRack, b2_t (rack_in hq).2, Option.bind_some, one0, not_false_eq_true, if_true, n_ix hq (show 4 ≤ 2 ^ 31 by omega), hne2]
          rw [s_within, e2, b2_f (fun z => hx ((n_m2 hn _).mp z))]
          simp only [Option.bind_some, not_true_eq_false, if_false]
  · refine ⟨-1, S, S, MX7_put ?_, rfl, MX8_put ?_, rfl, hJ⟩
    · simp only [c_rhas, b2_f h1, Option.bind_some, not_true_eq_false, if_false]
    · simp only [r_isRack, b2_f h2, Option.bind_some, not_true_eq_false, if_false]
theorem p_get : ∀ a b : Int32, tb_PL mX7_get mX8_get [.int a, .int b] := by
  intro a b S hJ
  rcases rack_or a with ⟨q, hq, rfl⟩ | ⟨h1, h2⟩
  · rcases hJ.2.2.2.2.2.2.1 q hq with ⟨e1, e2⟩ | ⟨n, hn, e1, e2, hk⟩
    · have hx : ¬ (0 ≤ b ∧ b < -1) := fun z => by have := z.1; have := z.2; grind
      have hy : ¬ (0 ≤ b ∧ b ≤ (0 : Int32) - 2) := fun z => by have := z.1; have := z.2; grind
      refine ⟨(-9223372036854775808 : Int64), S, S, MX7_get ?_, rfl, MX8_get ?_, rfl, hJ⟩
      · simp only [c_hasPl hq, e1, b2_f hx, Option.bind_some, if_true]
      · simp only [r_isRack, b2_t (rack_in hq).2, Option.bind_some, one0, if_false, n_ix hq (show 4 ≤ 2 ^ 31 by omega), e2, s_within, b2_f hy, if_true]
    · rcases term_or (n := n) (by omega) b with ⟨i, hi, rfl⟩ | hx
      · refine ⟨(S (40 + q) i).toInt64, S, S, MX7_get ?_, rfl, MX8_get ?_, rfl, hJ⟩
        · simp only [c_hasPl hq, e1, b2_t (show 0 ≤ nI i ∧ nI i < nI n from ⟨n_nn (by omega), (n_lt (by omega) (by omega)).mpr hi⟩), c_at hq e1 hn hi, Option.bind_some, one0, if_false]
        · simp only [r_isRack, b2_t (rack_in hq).2, Option.bind_some, one0, if_false, n_ix hq (show 4 ≤ 2 ^ 31 by omega), e2, s_within]
          rw [b2_t ((n_m2 hn _).mpr ⟨n_nn (by omega), (n_lt (by omega) (by omega)).mpr hi⟩)]
          simp only [Option.bind_some, one0, if_false]
          rw [r_rix hq (by omega)]
          simp only [Option.bind_some]
          rw [show S 65 (70 * q + i) = S (40 + q) i from hk i hi]
      · refine ⟨(-9223372036854775808 : Int64), S, S, MX7_get ?_, rfl, MX8_get ?_, rfl, hJ⟩
        · simp only [c_hasPl hq, e1, b2_f hx, Option.bind_some, if_true]
        · simp only [r_isRack, b2_t (rack_in hq).2, Option.bind_some, one0, if_false, n_ix hq (show 4 ≤ 2 ^ 31 by omega), e2, s_within]
          rw [b2_f (fun z => hx ((n_m2 hn _).mp z))]
          simp only [Option.bind_some, if_true]
  · refine ⟨(-9223372036854775808 : Int64), S, S, MX7_get ?_, rfl, MX8_get ?_, rfl, hJ⟩
    · simp only [c_hasPlN h1, Option.bind_some, if_true]
    · simp only [r_isRack, b2_f h2, Option.bind_some, if_true]
theorem c_renewL {d q n : Nat} (h : q < 4) (hn : n ≤ 70) : ∀ (g i : Nat) (S : tb_St), i + g = n → ∃ S', tb_E d mX3_renew tb_dV 28 [.ref 38, .int (nI q), .int (nI n), .int (nI i)] [] tb_S S = some S' ∧ (∀ p, p ≠ 40 + q → S' p = S p) ∧ (∀ t, i ≤ t → t < n → S' (40 + q) t = 0) ∧ ∀ t, t < i → S' (40 + q) t = S (40 + q) t := by
  intro g
  induction g with
  | zero =>
    intro i S hi
    refine ⟨S, BX3_renew_28 ?_, fun _ _ => rfl, fun t h1 h2 => by omega, fun _ _ => rfl⟩
    rw [if_pos (by rw [n_le (by omega) (by omega)]; omega)]
  | succ g ih =>
    intro i S hi
    obtain ⟨S', h1, h2, h3, h4⟩ := ih (i + 1) (tb_up S (40 + q) i 0) (by omega)
    refine ⟨S', BX3_renew_28 ?_, fun p hp => ?_, fun t g1 g2 => ?_, fun t g1 => ?_⟩
    · rw [if_neg (by rw [n_le (by omega) (by omega)]; omega), n_ix h (by omega), n_ix (by omega) (by omega)]
      simp only [Option.bind_some, n_inc]
      exact h1
    · rw [h2 p hp, up_ne hp]
    · by_cases e : t = i
      · subst e
        rw [h4 t (by omega)]
        simp [up_rd]
      · exact h3 t (by omega) g2
    · rw [h4 t (by omega), up_rd, if_neg (by omega)]
theorem r_rackL {d q : Nat} (h : q < 4) : ∀ (g i : Nat) (w : Value) (S : tb_St), i + g = 70 → ∃ S', tb_E d mX8_rack tb_dI 36 [.ref 45, .int (nI q), w, .int (nI i)] [] tb_S S = some (1, S') ∧ (∀ p, p ≠ 65 → S' p = S p) ∧ (∀ t, i ≤ t → t < 70 → S' 65 (70 * q + t) = 0) ∧ ∀ x, x < 70 * q + i ∨ 70 * q + 70 ≤ x → S' 65 x = S 65 x := by
  intro g
  induction g with
  | zero =>
    intro i w S hi
    refine ⟨S, BX8_rack_36 ?_, fun _ _ => rfl, fun t h1 h2 => by omega, fun _ _ => rfl⟩
    rw [if_pos (by rw [show (70 : Int32) = nI 70 from rfl, n_le (by omega) (by omega)]; omega)]
  | succ g ih =>
    intro i w S hi
    obtain ⟨S', h1, h2, h3, h4⟩ := ih (i + 1) w (tb_up S 65 (70 * q + i) 0) (by omega)
    refine ⟨S', BX8_rack_36 ?_, fun p hp => ?_, fun t g1 g2 => ?_, fun x g1 => ?_⟩
    · rw [if_neg (by rw [show (70 : Int32) = nI 70 from rfl, n_le (by omega) (by omega)]; omega), r_rix h (by omega)]
      simp only [Option.bind_some, n_inc]
      exact h1
    · rw [h2 p hp, up_ne hp]
    · by_cases e : t = i
      · subst e
        rw [h4 _ (Or.inl (by omega))]
        simp [up_rd]
      · exact h3 t (by omega) g2
    · rw [h4 x (by omega), up_rd, if_neg (by omega)]
theorem p_rack : ∀ a b : Int32, tb_PI mX7_rack mX8_rack [.int a, .int b] := by
  intro a b S hJ
  rcases rack_or a with ⟨q, hq, rfl⟩ | ⟨h1, h2⟩
  · by_cases h70 : b ≤ 70
    · by_cases h0 : 0 ≤ b
      · obtain ⟨n, hn, rfl⟩ := n_of_le (n := 70) h0 h70 (by omega)
        obtain ⟨A, a1, a2, a3, -⟩ := c_renewL (d := 98) hq hn n 0 (tb_up S 44 q (nI n)) (by omega)
        obtain ⟨B, b1, b2', b3, b4⟩ := r_rackL (d := 99) hq 70 0 (.int (nI n)) (tb_up A 64 q (nI (n + 1))) (by omega)
        have hren : tb_cV 99 mX3_renew [.ref 38, .int (nI q), .int (nI n)] S = some A := by
          refine MX3_renew (d := 98) ?_
          rw [c_rhas, b2_t (rack_in hq).1]
          simp only [Option.bind_some, one0, if_false]
          rw [if_neg (n_nlt (by omega)), if_pos h70, n_ix hq (by omega)]
          exact a1
        refine ⟨1, A, B, MX7_rack ?_, ?_, MX8_rack ?_, ?_, ?_⟩
        · simp only [c_rhas, b2_t (rack_in hq).1, Option.bind_some, one0, not_false_eq_true, if_true, h70, h0, hren]
        · rw [a2 0 (by omega), up_ne (by omega)]
        · simp only [r_isRack, b2_t (rack_in hq).2, Option.bind_some, one0, not_false_eq_true, if_true, h70, h0, n_ix hq (show 4 ≤ 2 ^ 31 by omega), n_inc]
          exact b1
        · rw [b2' 0 (by omega), up_ne (by omega), a2 0 (by omega), up_ne (by omega)]
        · refine hJ.rack (fun p h40 h41 h42 h43 h44 h64 h65 => by rw [b2' p h65, up_ne h64, a2 p (by omega), up_ne h44]) (fun p hp => ?_)
          have e44 : B 44 = upd (S 44) q (nI n) := by rw [b2' 44 (by omega), up_ne (by omega), a2 44 (by omega), up_eq]
          have e64 : B 64 = upd (S 64) q (nI (n + 1)) := by rw [b2' 64 (by omega), up_eq, a2 64 (by omega), up_ne (by omega)]
          have e40 : B (40 + p) = A (40 + p) := by rw [b2' _ (by omega), up_ne (by omega)]
          have eA : ∀ x, (x < 70 * q ∨ 70 * q + 70 ≤ x) → B 65 x = S 65 x := fun x hx => by rw [b4 x (by omega), up_ne (by omega), a2 65 (by omega), up_ne (by omega)]
          rw [e44, e64, e40]
          by_cases e : p = q
          · subst e
            refine Or.inr ⟨n, hn, by simp [upd], by simp [upd], fun k hk2 => ?_⟩
            rw [a3 k (by omega) hk2]
            exact b3 k (by omega) (by omega)
          · have g0 := hJ.2.2.2.2.2.2.1 p hp
            rw [a2 (40 + p) (by omega), up_ne (by omega)]
            have u1 : upd (S 44) q (nI n) p = S 44 p := by unfold upd; rw [if_neg e]
            have u2 : upd (S 64) q (nI (n + 1)) p = S 64 p := by unfold upd; rw [if_neg e]
            rw [u1, u2]
            rcases g0 with ⟨g1, g2⟩ | ⟨n', hn', g1, g2, g3⟩
            · exact Or.inl ⟨g1, g2⟩
            · exact Or.inr ⟨n', hn', g1, g2, fun k hk2 => by dsimp only; rw [eA _ (by omega)]; exact g3 k hk2⟩
      · refine ⟨-14, S, S, MX7_rack ?_, rfl, MX8_rack ?_, rfl, hJ⟩
        · simp only [c_rhas, b2_t (rack_in hq).1, Option.bind_some, one0, not_false_eq_true, if_true, h70, h0, if_false]
        · simp only [r_isRack, b2_t (rack_in hq).2, Option.bind_some, one0, not_false_eq_true, if_true, h70, h0, if_false]
    · refine ⟨-2, S, S, MX7_rack ?_, rfl, MX8_rack ?_, rfl, hJ⟩
      · simp only [c_rhas, b2_t (rack_in hq).1, Option.bind_some, one0, not_false_eq_true, if_true, h70, if_false]
      · simp only [r_isRack, b2_t (rack_in hq).2, Option.bind_some, one0, not_false_eq_true, if_true, h70, if_false]
  · refine ⟨-1, S, S, MX7_rack ?_, rfl, MX8_rack ?_, rfl, hJ⟩
    · simp only [c_rhas, b2_f h1, Option.bind_some, not_true_eq_false, if_false]
    · simp only [r_isRack, b2_f h2, Option.bind_some, not_true_eq_false, if_false]
