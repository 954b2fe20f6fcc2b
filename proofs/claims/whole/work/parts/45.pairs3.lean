/-! Part 45: pairs: taken, feed, clear, way, paper, paid, count -/
theorem c_kindAbove {d : Nat} {x : Int32} {S : tb_St} : tb_cI (d + 1) mX7_kindAbove [.int x] S = some (if x = 6 then 2 else if x = 7 then 3 else -1, S) := by
  refine MX7_kindAbove ?_
  by_cases h6 : x = 6
  · simp [h6]
  by_cases h7 : x = 7
  · simp [h7]
  simp [h6, h7]
theorem wfT_kind {K F B O T Z : Nat → Int32} {t : Nat} (w : wfT K F B O T Z t) : ∃ k, k < 8 ∧ K t = nI k := by
  rcases w with w | w | w | w | ⟨w | w | w | w, -⟩
  · exact ⟨0, by omega, w.1⟩
  · exact ⟨1, by omega, w.1⟩
  · exact ⟨2, by omega, w.1⟩
  · exact ⟨6, by omega, w.1⟩
  · exact ⟨3, by omega, w⟩
  · exact ⟨4, by omega, w⟩
  · exact ⟨5, by omega, w⟩
  · exact ⟨7, by omega, w⟩
theorem p_taken : ∀ a b : Int32, tb_PI mX7_taken mX8_taken [.int a, .int b] := by
  intro a b S hJ
  obtain ⟨n, hT⟩ := hJ.1
  rcases term_or (n := n) (by have := hT.1; omega) a with ⟨t, ht, rfl⟩ | hx
  · have hn := hT.1
    have h24 : tb_ix (nI t) 24 = some t := n_ix (by omega) (by omega)
    have h96 : tb_ix (nI t) 96 = some t := n_ix (by omega) (by omega)
    obtain ⟨w1, w2, w3, w4, w5, w6, w7⟩ := (hT.2.2.2 t ht).1
    by_cases hb : 0 ≤ b ∧ b ≤ 7
    · have g0 : ¬ b < 0 := by have := hb.1; grind
      have g8 : b < 8 := by have := hb.2; grind
      have h67 : ∀ (s : Int32) (w2 w3 : Value), tb_E 99 mX8_taken tb_dI 67 [.ref 45, .int (nI t), w2, w3] [.int s] tb_S S = some (if s = 0 then -12 else S 8 t, S) := by
        intro s w2 w3
        refine BX8_taken_67 ?_
        rw [h96]
        simp only [Option.bind_some, w6]
        split <;> rfl
      have h46 : ∀ (w3 : Value), tb_E 99 mX8_taken tb_dI 46 [.ref 45, .int (nI t), .int b, w3] [] tb_S S = some (if b = 3 ∧ S 3 t = 7 then S 8 t else -12, S) := by
        intro w3
        refine BX8_taken_46 ?_
        simp only [h67, h96, Option.bind_some, w1, one0, if_false, eq_self, if_true]
        by_cases h3 : b = 3
        · rw [if_neg (fun z => z h3)]
          by_cases h7 : S 3 t = 7
          · rw [if_neg (fun z => z h7), if_pos ⟨h3, h7⟩]
          · rw [if_pos h7, if_neg (fun z => h7 z.2)]
        · rw [if_pos h3, if_neg (fun z => h3 z.1)]
      refine ⟨if S 3 t = b ∨ (b = 2 ∧ S 3 t = 6) ∨ (b = 3 ∧ S 3 t = 7) then S 8 t else -12, S, S, MX7_taken ?_, rfl, MX8_taken ?_, rfl, hJ⟩
      · simp only [c_hasY hT.1 hT.2.1 ht, h24, Option.bind_some, one0, if_false, g0, g8, if_true, c_kindAbove]
        by_cases e : S 3 t = b
        · rw [if_pos e, if_pos (Or.inl e)]
        · rw [if_neg e]
          by_cases e6 : S 3 t = 6
          · rw [if_pos e6]
            by_cases h2 : b = 2
            · rw [if_neg (fun z => z h2.symm), if_pos (Or.inr (Or.inl ⟨h2, e6⟩))]
            · rw [if_pos (fun z => h2 z.symm), if_neg]
              rintro (z | z | z)
              · exact e z
              · exact h2 z.1
              · rw [e6] at z; exact absurd z.2 (by decide)
          · rw [if_neg e6]
            by_cases e7 : S 3 t = 7
            · rw [if_pos e7]
              by_cases h3 : b = 3
              · rw [if_neg (fun z => z h3.symm), if_pos (Or.inr (Or.inr ⟨h3, e7⟩))]
              · rw [if_pos (fun z => h3 z.symm), if_neg]
                rintro (z | z | z)
                · exact e z
                · exact e6 z.2
                · exact h3 z.1
            · rw [if_neg e7, if_pos (fun z => by rw [← z] at hb; exact absurd hb.1 (by decide)), if_neg]
              rintro (z | z | z)
              · exact e z
              · exact e6 z.2
              · exact e7 z.2
      · simp only [r_termY hT.1 hT.2.2.1 ht, s_within, b2_t hb, h96, Option.bind_some, one0, not_false_eq_true, if_true, if_false, w1, h67, h46]
        by_cases e : S 3 t = b
        · rw [if_pos e, if_pos (Or.inl e)]
        · rw [if_neg e]
          by_cases h2 : b = 2
          · rw [if_neg (fun z => z h2)]
            by_cases e6 : S 3 t = 6
            · rw [if_pos e6, if_pos (Or.inr (Or.inl ⟨h2, e6⟩))]
            · rw [if_neg e6, if_neg (fun z => by rw [h2] at z; exact absurd z.1 (by decide)), if_neg]
              rintro (z | z | z)
              · exact e z
              · exact e6 z.2
              · rw [h2] at z; exact absurd z.1 (by decide)
          · rw [if_pos h2]
            by_cases e3 : b = 3 ∧ S 3 t = 7
            · rw [if_pos e3, if_pos (Or.inr (Or.inr e3))]
            · rw [if_neg e3, if_neg]
              rintro (z | z | z)
              · exact e z
              · exact h2 z.1
              · exact e3 z
    · refine ⟨-1, S, S, MX7_taken ?_, rfl, MX8_taken ?_, rfl, hJ⟩
      · simp only [c_hasY hT.1 hT.2.1 ht, Option.bind_some, one0, if_false]
        by_cases g0 : b < 0
        · rw [if_pos g0]
        · rw [if_neg g0, if_neg (fun z => hb ⟨by grind, by grind⟩)]
      · simp only [r_termY hT.1 hT.2.2.1 ht, s_within, b2_f hb, Option.bind_some, one0, not_true_eq_false, if_false]
  · refine ⟨-1, S, S, MX7_taken ?_, rfl, MX8_taken ?_, rfl, hJ⟩
    · simp only [c_hasN hT.2.1 hx, Option.bind_some, if_true]
    · simp only [r_termN hT.1 hT.2.2.1 hx, Option.bind_some, if_true]
theorem p_feed : ∀ a : Int32, tb_PI mX7_feed mX8_feed [.int a] := by
  intro a S hJ
  by_cases ha : 1 ≤ a ∧ a ≤ 127
  · obtain ⟨n, hn, e1, e2, hk⟩ := hJ.2.2.2.1
    have g1 : ¬ a < 1 := by have := ha.1; grind
    by_cases h60 : n < 60
    · refine ⟨nI (n + 1), tb_up (tb_up S 33 n a) 32 2 (nI (n + 1)), tb_up (tb_up (tb_up (tb_up S 33 n a) 32 2 (nI (n + 1))) 45 21 (nI (n + 1))) 59 n a, MX7_feed ?_, by simp [up_ne], MX8_feed ?_, by simp [up_ne], ?_⟩
      · have hc : tb_cI 99 mX4_append [.ref 32, .int a] S = some (nI (n + 1), tb_up (tb_up S 33 n a) 32 2 (nI (n + 1))) := by
          refine MX4_append (d := 98) ?_
          rw [e1, if_pos (by rw [show (60 : Int32) = nI 60 from rfl, n_lt (by omega) (by omega)]; omega), n_ix (by omega) (by omega)]
          simp only [Option.bind_some, n_inc]
        rw [if_neg g1, if_pos ha.2, hc]
        rfl
      · have e3 : (tb_up (tb_up S 33 n a) 32 2 (nI (n + 1))) 45 21 = nI n := by simp [up_rd, e2]
        rw [s_within]
        simp only [Option.bind_some, b2_t ha, one0, not_false_eq_true, if_true, e3]
        rw [if_pos (by rw [show (60 : Int32) = nI 60 from rfl, n_eq (by omega) (by omega)]; omega), n_ix (by omega) (by omega)]
        simp only [Option.bind_some, n_inc]
      · refine ⟨?_, ?_, ?_, ?_, ?_, ?_, ?_, ?_⟩
        · have h := hJ.1
          simpa (disch := omega) [up_rd, up_ne] using h
        · have h := hJ.2.1
          simpa (disch := omega) [up_rd, up_ne] using h
        · have h := hJ.2.2.1
          simpa (disch := omega) [up_rd, up_ne] using h
        · refine ⟨n + 1, by omega, by simp [up_rd], by simp [up_rd], fun k hk2 => ?_⟩
          by_cases e : k = n
          · subst e; simp [up_rd]
          · have h := hk k (by omega)
            simpa [up_rd, e] using h
        · have h := hJ.2.2.2.2.1
          simpa (disch := omega) [up_rd, up_ne] using h
        · have h := hJ.2.2.2.2.2.1
          simpa (disch := omega) [up_rd, up_ne] using h
        · intro q hq
          have h := hJ.2.2.2.2.2.2.1 q hq
          simpa (disch := omega) only [up_ne] using h
        · have h := hJ.2.2.2.2.2.2.2
          simpa (disch := omega) [up_rd, up_ne] using h
    · have h60' : n = 60 := by omega
      subst h60'
      refine ⟨-4, S, S, MX7_feed ?_, rfl, MX8_feed ?_, rfl, hJ⟩
      · have hc : tb_cI 99 mX4_append [.ref 32, .int a] S = some (-4, S) := by
          refine MX4_append (d := 98) ?_
          rw [e1, if_neg (by decide +kernel)]
        rw [if_neg g1, if_pos ha.2, hc]
        rfl
      · rw [s_within]
        simp only [Option.bind_some, b2_t ha, one0, not_false_eq_true, if_true, e2]
        rw [if_neg (by decide +kernel)]
  · refine ⟨-2, S, S, MX7_feed ?_, rfl, MX8_feed ?_, rfl, hJ⟩
    · by_cases g1 : a < 1
      · rw [if_pos g1]
      · rw [if_neg g1, if_neg (fun z => ha ⟨by grind, z⟩)]
    · rw [s_within]
      simp only [Option.bind_some, b2_f ha, not_true_eq_false, if_false]
theorem p_clear : tb_PI mX7_clear mX8_clear [] := by
  intro S hJ
  obtain ⟨n, hn, e1, e2, hk⟩ := hJ.2.2.2.1
  refine ⟨nI n, tb_up S 32 2 0, tb_up (tb_up S 32 2 0) 45 21 0, MX7_clear ?_, by simp [up_ne], MX8_clear ?_, by simp [up_ne], ?_⟩
  · have hc : tb_cI 99 mX4_wipe [.ref 32] S = some (nI n, tb_up S 32 2 0) := by
      refine MX4_wipe (d := 98) ?_
      rw [e1]
    rw [hc]
    rfl
  · have e3 : (tb_up S 32 2 0) 45 21 = nI n := by simp [up_rd, e2]
    rw [e3]
  · refine ⟨?_, ?_, ?_, ?_, ?_, ?_, ?_, ?_⟩
    · have h := hJ.1
      simpa (disch := omega) [up_rd, up_ne] using h
    · have h := hJ.2.1
      simpa (disch := omega) [up_rd, up_ne] using h
    · have h := hJ.2.2.1
      simpa (disch := omega) [up_rd, up_ne] using h
    · exact ⟨0, by omega, by simp [up_rd]; rfl, by simp [up_rd]; rfl, fun k hk2 => by omega⟩
    · have h := hJ.2.2.2.2.1
      simpa (disch := omega) [up_rd, up_ne] using h
    · have h := hJ.2.2.2.2.2.1
      simpa (disch := omega) [up_rd, up_ne] using h
    · intro q hq
      have h := hJ.2.2.2.2.2.2.1 q hq
      simpa (disch := omega) only [up_ne] using h
    · have h := hJ.2.2.2.2.2.2.2
      simpa (disch := omega) [up_rd, up_ne] using h
theorem p_way : ∀ a : Int32, tb_PI mX7_way mX8_way [.int a] := by
  intro a S hJ
  obtain ⟨n, hn, e1, e2, hk⟩ := hJ.2.2.2.2.1
  by_cases h1 : a = -1
  · refine ⟨nI n, S, S, MX7_way ?_, rfl, MX8_way ?_, rfl, hJ⟩
    · rw [if_neg (fun z => z h1), e1]
    · rw [if_neg (fun z => z h1), e2]
  · rcases term_or (n := n) (by omega) a with ⟨t, ht, rfl⟩ | hx
    · refine ⟨S 34 t, S, S, MX7_way ?_, rfl, MX8_way ?_, rfl, hJ⟩
      · rw [if_pos h1, if_neg (n_nlt (by omega)), e1, if_neg (by rw [n_le (by omega) (by omega)]; omega), n_ix (by omega) (by omega)]
        rfl
      · rw [if_pos h1, s_within, e2, b2_t ((n_pred (by omega) _).mpr ⟨n_nn (by omega), (n_lt (by omega) (by omega)).mpr ht⟩)]
        simp only [Option.bind_some, one0, if_false]
        rw [n_ix (by omega) (by omega)]
        simp only [Option.bind_some, hk t ht]
    · refine ⟨-1, S, S, MX7_way ?_, rfl, MX8_way ?_, rfl, hJ⟩
      · rw [if_pos h1]
        by_cases g0 : a < 0
        · rw [if_pos g0]
        · rw [if_neg g0, e1, if_pos (by grind)]
      · rw [if_pos h1, s_within, e2, b2_f (fun z => hx ((n_pred (by omega) _).mp z))]
        simp only [Option.bind_some, if_true]
theorem p_paper : ∀ a : Int32, tb_PI mX7_paper mX8_paper [.int a] := by
  intro a S hJ
  obtain ⟨n, hn, e1, e2, hk⟩ := hJ.2.2.2.2.2.1
  rcases term_or (n := n) (by omega) a with ⟨t, ht, rfl⟩ | hx
  · refine ⟨S 37 t, S, S, MX7_paper ?_, rfl, MX8_paper ?_, rfl, hJ⟩
    · rw [if_neg (n_nlt (by omega)), e1, if_neg (by rw [n_le (by omega) (by omega)]; omega), n_ix (by omega) (by omega)]
      rfl
    · rw [s_within, e2, b2_t ((n_pred (by omega) _).mpr ⟨n_nn (by omega), (n_lt (by omega) (by omega)).mpr ht⟩)]
      simp only [Option.bind_some, one0, if_false]
      rw [n_ix (by omega) (by omega)]
      simp only [Option.bind_some, hk t ht]
  · refine ⟨-1, S, S, MX7_paper ?_, rfl, MX8_paper ?_, rfl, hJ⟩
    · by_cases g0 : a < 0
      · rw [if_pos g0]
      · rw [if_neg g0, e1, if_pos (by grind)]
    · rw [s_within, e2, b2_f (fun z => hx ((n_pred (by omega) _).mp z))]
      simp only [Option.bind_some, if_true]
theorem p_paid : ∀ a b : Int32, tb_PI mX7_paid mX8_paid [.int a, .int b] := by
  intro a b S hJ
  obtain ⟨n, hn, e1, e2, hk⟩ := hJ.2.2.1
  by_cases h1 : a = -1
  · refine ⟨0, tb_up S 10 2 0, tb_up (tb_up S 10 2 0) 45 8 0, MX7_paid ?_, by simp [up_ne], MX8_paid ?_, by simp [up_ne], ?_⟩
    · have hc : tb_cV 99 mX1_forget [.ref 10] S = some (tb_up S 10 2 0) := MX1_forget (d := 98) rfl
      rw [if_neg (fun z => z h1), hc]
      rfl
    · rw [if_neg (fun z => z h1)]
    · refine ⟨?_, ?_, ?_, ?_, ?_, ?_, ?_, ?_⟩
      · have h := hJ.1
        simpa (disch := omega) [up_rd, up_ne] using h
      · have h := hJ.2.1
        simpa (disch := omega) [up_rd, up_ne] using h
      · exact ⟨0, by omega, by simp [up_rd]; rfl, by simp [up_rd]; rfl, fun k hk2 => by omega⟩
      · have h := hJ.2.2.2.1
        simpa (disch := omega) [up_rd, up_ne] using h
      · have h := hJ.2.2.2.2.1
        simpa (disch := omega) [up_rd, up_ne] using h
      · have h := hJ.2.2.2.2.2.1
        simpa (disch := omega) [up_rd, up_ne] using h
      · intro q hq
        have h := hJ.2.2.2.2.2.2.1 q hq
        simpa (disch := omega) only [up_ne] using h
      · have h := hJ.2.2.2.2.2.2.2
        simpa (disch := omega) [up_rd, up_ne] using h
  · by_cases hc : 0 ≤ a ∧ a ≤ 223
    · by_cases hb : -1 ≤ b ∧ b ≤ 99
      · have hnote : ∀ f : Int32, tb_cI 99 mX1_note [.ref 10, .int a, .int f] S = some (if n < 8 then (nI (n + 1), tb_up (tb_up (tb_up S 11 n a) 12 n f) 10 2 (nI (n + 1))) else (-4, S)) := by
          intro f
          refine MX1_note (d := 98) ?_
          rw [e1]
          by_cases h8 : n < 8
          · rw [if_pos (by rw [show (8 : Int32) = nI 8 from rfl, n_lt (by omega) (by omega)]; omega), n_ix (by omega) (by omega), if_pos h8]
            simp only [Option.bind_some, n_inc]
          · rw [if_neg (by rw [show (8 : Int32) = nI 8 from rfl, n_lt (by omega) (by omega)]; omega), if_neg h8]
        have h38 : tb_E 99 mX7_paid tb_dI 38 [.ref 1, .int a, .int b] [] tb_S S = some (if n < 8 then (nI (n + 1), tb_up (tb_up (tb_up S 11 n a) 12 n (if b = -1 then -5 else b)) 10 2 (nI (n + 1))) else (-4, S)) := by
          refine BX7_paid_38 ?_
          by_cases hb1 : b = -1
          · rw [if_neg (fun z => z hb1), hnote, if_pos hb1]
            rfl
          · rw [if_pos hb1, hnote, if_neg hb1]
            rfl
        have hC : tb_cI 100 mX7_paid [.ref 1, .int a, .int b] S = some (if n < 8 then (nI (n + 1), tb_up (tb_up (tb_up S 11 n a) 12 n (if b = -1 then -5 else b)) 10 2 (nI (n + 1))) else (-4, S)) := by
          refine MX7_paid ?_
          rw [if_pos h1, s_isCase]
          simp only [Option.bind_some, b2_t hc, one0, not_false_eq_true, if_true]
          by_cases hb1 : b = -1
          · rw [if_pos hb1, h38]
          · have hb2 : 0 ≤ b ∧ b ≤ 99 := ⟨by have := hb.1; grind, hb.2⟩
            rw [if_neg hb1, s_isFee]
            simp only [Option.bind_some, b2_t hb2, one0, not_false_eq_true, if_true]
            rw [h38]
        by_cases h8 : n < 8
        · rw [if_pos h8] at hC
          generalize hf : (if b = -1 then (-5 : Int32) else b) = f at hC
          refine ⟨_, _, tb_up (tb_up (tb_up (tb_up (tb_up (tb_up S 11 n a) 12 n f) 10 2 (nI (n + 1))) 53 n a) 54 n b) 45 8 (nI (n + 1)), hC, by simp [up_ne], MX8_paid ?_, by simp [up_ne], ?_⟩
          · have e3 : (tb_up (tb_up (tb_up S 11 n a) 12 n f) 10 2 (nI (n + 1))) 45 8 = nI n := by simp [up_rd, e2]
            rw [if_pos h1, s_isCaseR]
            simp only [Option.bind_some, b2_t hc, one0, not_false_eq_true, if_true]
            rw [s_within]
            simp only [Option.bind_some, b2_t hb, one0, not_false_eq_true, if_true, e3]
            rw [if_pos (by rw [show (8 : Int32) = nI 8 from rfl, n_eq (by omega) (by omega)]; omega), n_ix (by omega) (by omega)]
            simp only [Option.bind_some, n_inc]
          · refine ⟨?_, ?_, ?_, ?_, ?_, ?_, ?_, ?_⟩
            · have h := hJ.1
              simpa (disch := omega) [up_rd, up_ne] using h
            · have h := hJ.2.1
              simpa (disch := omega) [up_rd, up_ne] using h
            · refine ⟨n + 1, by omega, by simp [up_rd], by simp [up_rd], fun k hk2 => ?_⟩
              by_cases e : k = n
              · subst e
                obtain ⟨c, q1, q2⟩ := n_of_le (n := 223) hc.1 hc.2 (by omega)
                refine ⟨by simp [up_rd], ⟨c, by omega, by simp [up_rd]; exact q2⟩, ?_⟩
                by_cases hb1 : b = -1
                · rw [if_pos hb1] at hf
                  exact Or.inl ⟨by simp [up_rd, hf], by simp [up_rd, hb1]⟩
                · rw [if_neg hb1] at hf
                  subst hf
                  have hf1 : feeOK b := feeI ⟨by have := hb.1; grind, hb.2⟩
                  exact Or.inr ⟨by simpa [up_rd] using hf1, by simp [up_rd]⟩
              · have h := hk k (by omega)
                simpa [up_rd, e] using h
            · have h := hJ.2.2.2.1
              simpa (disch := omega) [up_rd, up_ne] using h
            · have h := hJ.2.2.2.2.1
              simpa (disch := omega) [up_rd, up_ne] using h
            · have h := hJ.2.2.2.2.2.1
              simpa (disch := omega) [up_rd, up_ne] using h
            · intro q hq
              have h := hJ.2.2.2.2.2.2.1 q hq
              simpa (disch := omega) only [up_ne] using h
            · have h := hJ.2.2.2.2.2.2.2
              simpa (disch := omega) [up_rd, up_ne] using h
        · rw [if_neg h8] at hC
          refine ⟨_, _, S, hC, rfl, MX8_paid ?_, rfl, hJ⟩
          rw [if_pos h1, s_isCaseR]
          simp only [Option.bind_some, b2_t hc, one0, not_false_eq_true, if_true]
          rw [s_within]
          simp only [Option.bind_some, b2_t hb, one0, not_false_eq_true, if_true, e2]
          rw [if_neg (by rw [show (8 : Int32) = nI 8 from rfl, n_eq (by omega) (by omega)]; omega)]
      · refine ⟨-2, S, S, MX7_paid ?_, rfl, MX8_paid ?_, rfl, hJ⟩
        · have hb1 : ¬ b = -1 := fun z => hb (by rw [z]; decide)
          have hb2 : ¬ (0 ≤ b ∧ b ≤ 99) := fun z => hb ⟨by grind, z.2⟩
          rw [if_pos h1, s_isCase]
          simp only [Option.bind_some, b2_t hc, one0, not_false_eq_true, if_true]
          rw [if_neg hb1, s_isFee]
          simp only [Option.bind_some, b2_f hb2, not_true_eq_false, if_false]
        · rw [if_pos h1, s_isCaseR]
          simp only [Option.bind_some, b2_t hc, one0, not_false_eq_true, if_true]
          rw [s_within]
          simp only [Option.bind_some, b2_f hb, not_true_eq_false, if_false]
    · refine ⟨-1, S, S, MX7_paid ?_, rfl, MX8_paid ?_, rfl, hJ⟩
      · rw [if_pos h1, s_isCase]
        simp only [Option.bind_some, b2_f hc, not_true_eq_false, if_false]
      · rw [if_pos h1, s_isCaseR]
        simp only [Option.bind_some, b2_f hc, not_true_eq_false, if_false]
