/-! Part 58: would, till, fits -/
theorem r_wsay {d n t c fl v : Nat} {S T : tb_St} (hT : jTS n S) (ht : t < n) (hfl : fl < n) (h3 : S 3 fl = 0) (hv : v ≤ 99) (hk : tb_Kp S T) (h19 : S 45 19 = -1) (hc : c < 224) : ∃ T', tb_cI (d + 28) mX8_wouldSay [.ref 45, .int (nI fl), .int (nI v), .int (nI t), .int (nI c)] T = some (wouldV S (nI fl) (nI v) t c, T') ∧ tb_Kp T T' ∧ ∀ q, q ≠ 45 → T' q = T q := by
  have hn := hT.1
  have hp : ∀ q, 46 ≤ q → q ≤ 50 → T q = S q := fun q h1 h2 => hk.p q (by
    obtain rfl | rfl | rfl | rfl | rfl : q = 46 ∨ q = 47 ∨ q = 48 ∨ q = 49 ∨ q = 50 := by omega
    all_goals rfl)
  generalize hU : tb_up (tb_up (tb_up T 45 17 (-1)) 45 19 (nI fl)) 45 20 (nI v) = U
  have u19 : U 45 19 = nI fl := by subst hU; simp [up_rd]
  have u20 : U 45 20 = nI v := by subst hU; simp [up_rd]
  have u17 : U 45 17 = -1 := by subst hU; simp [up_rd]
  have uq : ∀ q, q ≠ 45 → U q = T q := fun q h => by subst hU; rw [up_ne h, up_ne h, up_ne h]
  obtain ⟨w, h⟩ := r_askw (d := d) (c := c) hT ht (T := U) (fun q h1 h2 => by rw [uq q (by omega)]; exact hp q h1 h2) u17 (Or.inl (Or.inr ⟨v, hv, u20⟩)) (fun t ht z => by
    rw [u19, n_eq (by omega) (by omega)] at z
    rw [z]; exact h3) hc
  rw [u19, u20] at h
  refine ⟨tb_up (tb_up U 45 16 w) 45 19 (-1), MX8_wouldSay ?_, ?_, fun q hq => by rw [up_ne hq, up_ne hq, uq q hq]⟩
  · rw [hU, h]
    simp only [Option.bind_some]
  · refine ⟨fun q hq => ?_, by rw [up_ne (by omega), up_ne (by omega), uq 32 (by omega)], by rw [up_ne (by omega), up_ne (by omega), uq 32 (by omega)], fun f hf => ?_⟩
    · have : q ≠ 45 := by
        rintro rfl
        revert hq
        decide
      rw [up_ne this, up_ne this, uq q this]
    · subst hU
      by_cases e : f = 19
      · rw [e, up_rd, if_pos ⟨rfl, rfl⟩, hk.f 19 rfl, h19]
      · have e16 : f ≠ 16 := by rintro rfl; revert hf; decide
        have e17 : f ≠ 17 := by rintro rfl; revert hf; decide
        have e20 : f ≠ 20 := by rintro rfl; revert hf; decide
        simp [up_rd, e, e16, e17, e20]
theorem c_isFlatY {d n fl : Nat} {S : tb_St} (hT : jTS n S) (h : fl < n) (h3 : S 3 fl = 0) : tb_cI (d + 2) mX7_isFlat [.ref 1, .int (nI fl)] S = some (1, S) := by
  have hn := hT.1
  refine MX7_isFlat ?_
  rw [c_hasY hn hT.2.1 h]
  simp only [Option.bind_some, one0, if_false, n_ix (show fl < 24 by omega) (show 24 ≤ 2 ^ 31 by omega), h3, not_true_eq_false]
theorem c_isFlatN {d n : Nat} {x : Int32} {S : tb_St} (hT : jTS n S) (h : ∀ fl, fl < n → x = nI fl → ¬ S 3 fl = 0) : tb_cI (d + 2) mX7_isFlat [.ref 1, .int x] S = some (0, S) := by
  have hn := hT.1
  refine MX7_isFlat ?_
  rcases term_or (n := n) (by omega) x with ⟨t, ht, rfl⟩ | hx
  · rw [c_hasY hn hT.2.1 ht]
    simp only [Option.bind_some, one0, if_false, n_ix (show t < 24 by omega) (show 24 ≤ 2 ^ 31 by omega), h t ht rfl, not_false_eq_true, if_true]
  · rw [c_hasN hT.2.1 hx]
    simp only [Option.bind_some, if_true]
theorem r_isFlatY {d n fl : Nat} {S T : tb_St} (hT : jTS n S) (hk : tb_Kp S T) (h : fl < n) (h3 : S 3 fl = 0) : tb_cI (d + 3) mX8_isFlat [.ref 45, .int (nI fl)] T = some (1, T) := by
  have hn := hT.1
  refine MX8_isFlat ?_
  rw [r_termY hn (by rw [hk.f 0 rfl]; exact hT.2.2.1) h]
  simp only [Option.bind_some, one0, if_false, n_ix (show fl < 96 by omega) (show 96 ≤ 2 ^ 31 by omega)]
  rw [hk.p 46 rfl, (hT.2.2.2 fl h).1.1, h3]
  simp
theorem r_isFlatN {d n : Nat} {x : Int32} {S T : tb_St} (hT : jTS n S) (hk : tb_Kp S T) (h : ∀ fl, fl < n → x = nI fl → ¬ S 3 fl = 0) : tb_cI (d + 3) mX8_isFlat [.ref 45, .int x] T = some (0, T) := by
  have hn := hT.1
  refine MX8_isFlat ?_
  rcases term_or (n := n) (by omega) x with ⟨t, ht, rfl⟩ | hx
  · rw [r_termY hn (by rw [hk.f 0 rfl]; exact hT.2.2.1) ht]
    simp only [Option.bind_some, one0, if_false, n_ix (show t < 96 by omega) (show 96 ≤ 2 ^ 31 by omega)]
    rw [hk.p 46 rfl, (hT.2.2.2 t ht).1.1, if_pos (h t ht rfl)]
  · rw [r_termN hn (by rw [hk.f 0 rfl]; exact hT.2.2.1) hx]
    simp only [Option.bind_some, if_true]
theorem flat_or {n : Nat} (S : tb_St) (hn : n ≤ 24) (x : Int32) : (∃ fl, fl < n ∧ x = nI fl ∧ S 3 fl = 0) ∨ ∀ fl, fl < n → x = nI fl → ¬ S 3 fl = 0 := by
  by_cases h : ∃ fl, fl < n ∧ x = nI fl ∧ S 3 fl = 0
  · exact Or.inl h
  · exact Or.inr (fun fl h1 h2 h3 => h ⟨fl, h1, h2, h3⟩)
theorem sup_tr {S S' : tb_St} {n t : Nat} {a b : Int32} (h : TR S n t S') : TR S n t (tb_up (tb_up S' 24 6 a) 24 7 b) := by
  obtain ⟨h1, h2, h3, h4, h5, h6⟩ := h
  refine ⟨h1.keep (fun q hq => by rw [up_ne (by omega), up_ne (by omega)]), ?_, h3, h4, ?_, ?_⟩
  · rw [up_rd, if_neg (by omega), up_rd, if_neg (by omega)]; exact h2
  · rw [up_ne (by omega), up_ne (by omega), up_ne (by omega), up_ne (by omega)]; exact h5
  · rw [up_rd, if_neg (by omega), up_rd, if_neg (by omega)]; exact h6
theorem p_would : ∀ a b c e : Int32, tb_PI mX7_would mX8_would [.int a, .int b, .int c, .int e] := by
  intro a b c e
  refine tb_PI_ask (fun S hJ => ?_)
  obtain ⟨n, hT⟩ := hJ.1
  have hn := hT.1
  have hT' : jTS n S := hT
  have hj := hJ.2.2.2.2.2.2.2
  rcases flat_or S hn a with ⟨fl, hfl, rfl, h3⟩ | hfl
  · rcases term_or (n := n) (by omega) c with ⟨t, ht, rfl⟩ | hx
    · rcases case_or e with ⟨k, hk, rfl⟩ | hy
      · by_cases hf : 0 ≤ b ∧ b ≤ 99
        · obtain ⟨v, hv, rfl⟩ := feeI hf
          refine ⟨wouldV S (nI fl) (nI v) t k, ?_, fun T hJT hkp => ?_⟩
          · obtain ⟨S', h1, h2, h3', h4⟩ := c_open (d := 95) hT' ht
            have hs : ∀ u, u < n → nI u = tb_up (tb_up S' 24 6 (nI fl)) 24 7 (nI v) 24 6 → S 3 u = 0 := by
              intro u hu z
              rw [up_rd, if_neg (by omega), up_rd, if_pos ⟨rfl, rfl⟩, n_eq (by omega) (by omega)] at z
              rw [z]; exact h3
            obtain ⟨S'', g1, g2, g4⟩ := c_askw (d := 94) (c := k) hT' ht (sup_tr (a := nI fl) (b := nI v) h2) hs hk
            refine ⟨S'', MX7_would ?_, kp_of (fun q q1 q2 q3 q4 => by rw [g4 q q4, up_ne q1, up_ne q1, h4 q q1 q2 q3])⟩
            rw [c_isFlatY hT' hfl h3]
            simp only [Option.bind_some, one0, if_false]
            rw [c_hasY hn hT.2.1 ht]
            simp only [Option.bind_some, one0, if_false]
            rw [s_isCase, b2_t (case_b hk)]
            simp only [Option.bind_some, one0, not_false_eq_true, if_true]
            rw [s_isFee, b2_t hf]
            simp only [Option.bind_some, one0, not_false_eq_true, if_true, h1]
            have hsup : tb_cV (98 + 1) mX6_suppose [.ref 24, .int (nI fl), .int (nI v)] S' = some (tb_up (tb_up S' 24 6 (nI fl)) 24 7 (nI v)) := MX6_suppose rfl
            rw [hsup]
            simp only [Option.bind_some]
            rw [g1]
            simp only [Option.bind_some]
            simp [up_rd]
          · obtain ⟨T', g1, g2, g3⟩ := r_wsay (d := 71) hT' ht hfl h3 hv hkp hj hk
            refine ⟨T', MX8_would ?_, g2⟩
            rw [r_isFlatY hT' hkp hfl h3]
            simp only [Option.bind_some, one0, if_false]
            rw [r_termY hn (by rw [hkp.f 0 rfl]; exact hT.2.2.1) ht]
            simp only [Option.bind_some, one0, if_false]
            rw [s_isCaseR, b2_t (case_b hk)]
            simp only [Option.bind_some, one0, not_false_eq_true, if_true]
            rw [s_within, b2_t hf]
            simp only [Option.bind_some, one0, if_false, g1]
        · refine ⟨-2, ⟨S, MX7_would ?_, tb_Kp.refl⟩, fun T hJT hkp => ⟨T, MX8_would ?_, tb_Kp.refl⟩⟩
          · rw [c_isFlatY hT' hfl h3]
            simp only [Option.bind_some, one0, if_false]
            rw [c_hasY hn hT.2.1 ht]
            simp only [Option.bind_some, one0, if_false]
            rw [s_isCase, b2_t (case_b hk)]
            simp only [Option.bind_some, one0, not_false_eq_true, if_true]
            rw [s_isFee, b2_f hf]
            simp only [Option.bind_some, not_true_eq_false, if_false]
          · rw [r_isFlatY hT' hkp hfl h3]
            simp only [Option.bind_some, one0, if_false]
            rw [r_termY hn (by rw [hkp.f 0 rfl]; exact hT.2.2.1) ht]
            simp only [Option.bind_some, one0, if_false]
            rw [s_isCaseR, b2_t (case_b hk)]
            simp only [Option.bind_some, one0, not_false_eq_true, if_true]
            rw [s_within, b2_f hf]
            simp only [Option.bind_some, if_true]
      · refine ⟨-1, ⟨S, MX7_would ?_, tb_Kp.refl⟩, fun T hJT hkp => ⟨T, MX8_would ?_, tb_Kp.refl⟩⟩
        · rw [c_isFlatY hT' hfl h3]
          simp only [Option.bind_some, one0, if_false]
          rw [c_hasY hn hT.2.1 ht]
          simp only [Option.bind_some, one0, if_false]
          rw [s_isCase, b2_f hy]
          simp only [Option.bind_some, not_true_eq_false, if_false]
        · rw [r_isFlatY hT' hkp hfl h3]
          simp only [Option.bind_some, one0, if_false]
          rw [r_termY hn (by rw [hkp.f 0 rfl]; exact hT.2.2.1) ht]
          simp only [Option.bind_some, one0, if_false]
          rw [s_isCaseR, b2_f hy]
          simp only [Option.bind_some, not_true_eq_false, if_false]
    · refine ⟨-1, ⟨S, MX7_would ?_, tb_Kp.refl⟩, fun T hJT hkp => ⟨T, MX8_would ?_, tb_Kp.refl⟩⟩
      · rw [c_isFlatY hT' hfl h3]
        simp only [Option.bind_some, one0, if_false]
        rw [c_hasN hT.2.1 hx]
        simp only [Option.bind_some, if_true]
      · rw [r_isFlatY hT' hkp hfl h3]
        simp only [Option.bind_some, one0, if_false]
        rw [r_termN hn (by rw [hkp.f 0 rfl]; exact hT.2.2.1) hx]
        simp only [Option.bind_some, if_true]
  · refine ⟨-1, ⟨S, MX7_would ?_, tb_Kp.refl⟩, fun T hJT hkp => ⟨T, MX8_would ?_, tb_Kp.refl⟩⟩
    · rw [c_isFlatN hT' hfl]
      simp only [Option.bind_some, if_true]
    · rw [r_isFlatN hT' hkp hfl]
      simp only [Option.bind_some, if_true]
