/-! Part 79f: pairs: part, gap, diff -/
noncomputable def figW (m : Nat) (w : Int32) : Int32 := if 0 ≤ w ∧ w < 6 then nI (figM m w.toNatClampNeg) else -1
noncomputable def rfW (m : Nat) (a b : Int32) (ms : Nat) (w : Int32) : Int32 := if 0 ≤ w ∧ w < 6 then nI (figM m w.toNatClampNeg) else if w = 6 ∧ 6 ≤ ms then a else if w = 7 ∧ 7 ≤ ms then b else -1
theorem c_bhas {d : Nat} {x : Int32} {S : tb_St} : tb_cI (d + 1) mX0_has [.ref 28, .int x] S = some (b2 (0 ≤ x ∧ x < S 28 3), S) := by
  refine MX0_has ?_
  unfold b2
  repeat' split
  all_goals (first | rfl | (exfalso; grind))
section Tell
variable {d : Nat} {S : tb_St} {L : List (Nat × Nat)} {M A B : Nat → Int32}
theorem c_hasB (hP : PKc L M S) (x : Int32) : tb_cI (d + 1) mX0_has [.ref 28, .int x] S = some (b2 (0 ≤ x ∧ x < nI L.length), S) := by
  rw [c_bhas, hP.1]
theorem in_b {k n : Nat} (hk : k < n) (hn : n ≤ 224) : 0 ≤ nI k ∧ nI k < nI n := ⟨n_nn (by omega), (n_lt (by omega) (by omega)).mpr hk⟩
theorem c_tellM (hP : PKc L M S) (w : Int32) : tb_cI (d + 1) mX0_tell [.ref 28, .int (-1), .int w] S = some (nI L.length, S) := by
  refine MX0_tell ?_
  rw [if_neg (fun z => z rfl), hP.1]
theorem c_tellO {x : Int32} (hP : PKc L M S) (h1 : ¬ x = -1) (h2 : ¬ (0 ≤ x ∧ x < nI L.length)) (w : Int32) : tb_cI (d + 2) mX0_tell [.ref 28, .int x, .int w] S = some (-1, S) := by
  refine MX0_tell ?_
  rw [if_pos h1, c_hasB hP, b2_f h2]
  simp only [Option.bind_some, if_true]
theorem c_tellI {k : Nat} {x : Nat × Nat} (hP : PKc L M S) (hl : L.length ≤ 224) (hx : L[k]? = some x) (hm : x.2 ≤ 999999) (w : Int32) : tb_cI (d + 2) mX0_tell [.ref 28, .int (nI k), .int w] S = some (figW x.2 w, S) := by
  have hk : k < L.length := (List.getElem?_eq_some_iff.mp hx).1
  refine MX0_tell ?_
  rw [if_pos (neg1 (by omega)), c_hasB hP, b2_t (in_b hk hl)]
  simp only [Option.bind_some, one0, if_false]
  unfold figW
  by_cases h0 : w < 0
  · rw [if_pos h0, if_neg (fun z => by have := z.1; grind)]
  · rw [if_neg h0]
    by_cases h6 : (6 : Int32) ≤ w
    · rw [if_pos h6, if_neg (fun z => by have := z.2; grind)]
    · rw [if_neg h6]
      have hw : 0 ≤ w ∧ w < nI 6 := ⟨by grind, by show w < 6; grind⟩
      obtain ⟨f, hf, rfl⟩ := n_of_lt (n := 6) hw.1 hw.2 (by omega)
      rw [if_pos (show 0 ≤ nI f ∧ nI f < 6 from hw), n_ix (show k < 224 by omega) (by omega), nI_clamp (by omega)]
      simp only [Option.bind_some]
      rw [(hP.2 k x hx).1, c_fig (by omega) (by omega)]
      rfl
theorem r_foundM (hP : PKr L A B S) (w y : Int32) : tb_cI (d + 1) mX8_found [.ref 45, .int (-1), .int w, .int y] S = some (nI L.length, S) := by
  refine MX8_found ?_
  rw [if_neg (fun z => z rfl), hP.1]
theorem r_foundO {x : Int32} (hP : PKr L A B S) (hl : L.length ≤ 224) (h1 : ¬ x = -1) (h2 : ¬ (0 ≤ x ∧ x < nI L.length)) (w y : Int32) : tb_cI (d + 2) mX8_found [.ref 45, .int x, .int w, .int y] S = some (-1, S) := by
  refine MX8_found ?_
  rw [if_pos h1, s_within, hP.1, b2_f (fun z => h2 ((n_pred (by omega) x).mp z))]
  simp only [Option.bind_some, if_true]
theorem r_foundI {k ms : Nat} {x : Nat × Nat} {y : Int32} (hP : PKr L A B S) (hl : L.length ≤ 224) (hx : L[k]? = some x) (hy : y = nI ms) (hms : 5 ≤ ms ∧ ms ≤ 7) (w : Int32) : tb_cI (d + 2) mX8_found [.ref 45, .int (nI k), .int w, .int y] S = some (rfW x.2 (A x.1) (B x.1) ms w, S) := by
  have hk : k < L.length := (List.getElem?_eq_some_iff.mp hx).1
  subst hy
  refine MX8_found ?_
  rw [if_pos (neg1 (by omega)), s_within, hP.1, b2_t ((n_pred (by omega) _).mpr (in_b hk hl))]
  simp only [Option.bind_some, one0, if_false]
  rw [s_within]
  simp only [Option.bind_some]
  by_cases hw : 0 ≤ w ∧ w ≤ nI ms
  · obtain ⟨f, hf, rfl⟩ := n_of_le (n := ms) hw.1 hw.2 (by omega)
    rw [b2_t hw, ix8 (by omega) (by omega)]
    simp only [one0, if_false, Option.bind_some]
    obtain ⟨g1, g2, g3⟩ := hP.2 k x hx
    unfold rfW
    by_cases h6 : f < 6
    · rw [if_pos ⟨hw.1, (n_lt (b := 6) (by omega) (by omega)).mpr h6⟩, g1 f h6, nI_clamp (by omega)]
    · rw [if_neg (fun z => h6 ((n_lt (b := 6) (by omega) (by omega)).mp z.2))]
      by_cases e6 : f = 6
      · subst e6
        rw [if_pos ⟨rfl, hf⟩, g2]
      · obtain rfl : f = 7 := by omega
        rw [if_neg (fun z => absurd z.1 (by decide)), if_pos ⟨rfl, hf⟩, g3]
  · rw [b2_f hw]
    simp only [if_true]
    unfold rfW
    have e5 : nI 5 ≤ nI ms := (n_le (by omega) (by omega)).mpr (by omega)
    have e5' : (5 : Int32) ≤ nI ms := e5
    rw [if_neg (fun z => hw ⟨z.1, by have := z.2; grind⟩), if_neg (fun z => hw ⟨by rw [z.1]; decide, by rw [z.1]; exact (n_le (a := 6) (by omega) (by omega)).mpr z.2⟩), if_neg (fun z => hw ⟨by rw [z.1]; decide, by rw [z.1]; exact (n_le (a := 7) (by omega) (by omega)).mpr z.2⟩)]
end Tell
theorem i_or {n : Nat} (hn : n < 2 ^ 31) (x : Int32) : x = -1 ∨ (∃ k, k < n ∧ x = nI k) ∨ (¬ x = -1 ∧ ¬ (0 ≤ x ∧ x < nI n)) := by
  rcases term_or hn x with h | h
  · exact Or.inr (Or.inl h)
  · by_cases e : x = -1
    · exact Or.inl e
    · exact Or.inr (Or.inr ⟨e, h⟩)
theorem rfW_6 {m : Nat} {a b w : Int32} (h : ¬ w = 6) : rfW m a b 6 w = figW m w := by
  unfold rfW figW
  by_cases e : 0 ≤ w ∧ w < 6
  · rw [if_pos e, if_pos e]
  · rw [if_neg e, if_neg e, if_neg (fun z => h z.1), if_neg (fun z => by omega)]
theorem rfW_66 {m : Nat} {a b : Int32} : rfW m a b 6 6 = a := by
  unfold rfW
  rw [if_neg (fun z => absurd z.2 (by decide)), if_pos ⟨rfl, by omega⟩]
theorem rfW_5 {m : Nat} {a b w : Int32} : rfW m a b 5 w = figW m w := by
  unfold rfW figW
  by_cases e : 0 ≤ w ∧ w < 6
  · rw [if_pos e, if_pos e]
  · rw [if_neg e, if_neg e, if_neg (fun z => by omega), if_neg (fun z => by omega)]
theorem rfW_7 {m : Nat} {a b w : Int32} (h : ¬ w = 6) (h7 : ¬ w = 7) : rfW m a b 7 w = figW m w := by
  unfold rfW figW
  by_cases e : 0 ≤ w ∧ w < 6
  · rw [if_pos e, if_pos e]
  · rw [if_neg e, if_neg e, if_neg (fun z => h z.1), if_neg (fun z => h7 z.1)]
theorem rfW_76 {m : Nat} {a b : Int32} : rfW m a b 7 6 = a := by
  unfold rfW
  rw [if_neg (fun z => absurd z.2 (by decide)), if_pos ⟨rfl, by omega⟩]
theorem rfW_77 {m : Nat} {a b : Int32} : rfW m a b 7 7 = b := by
  unfold rfW
  rw [if_neg (fun z => absurd z.2 (by decide)), if_neg (fun z => absurd z.1 (by decide)), if_pos ⟨rfl, by omega⟩]
theorem p_part : ∀ a b c : Int32, tb_PI mX7_part mX8_part_ [.int a, .int b, .int c] := by
  intro a b c
  refine tb_PI_ask (fun S hJ => ?_)
  obtain ⟨n, hT⟩ := hJ.1
  have hn := hT.1
  have hT' : jTS n S := hT
  have hj := hJ.2.2.2.2.2.2.2
  rcases term_or (n := n) (by omega) a with ⟨t, ht, rfl⟩ | hx
  · obtain ⟨U, u1, u2, u3⟩ := c_boxFees (d := 93) hT' ht
    have hl : (pkM (feeM S t)).length ≤ 224 := pkM_len
    have cF : ∀ r, ((if ¬ c = (6 : Int32) then (tb_cI 99 mX0_tell [.ref 28, .int b, .int c] U).bind fun q51 => some (q51.1, q51.2) else (tb_cI 99 mX0_has [.ref 28, .int b] U).bind fun q29 => (if q29.1 = 0 then (tb_cI 99 mX0_tell [.ref 28, .int b, .int c] (q29.2)).bind fun q51 => some (q51.1, q51.2) else (tb_ix b 224).bind fun j43 => some ((q29.2) 31 j43, q29.2))) = some r) → tb_cI 100 mX7_part [.ref 1, .int (nI t), .int b, .int c] S = some r := by
      intro r hr
      refine MX7_part ?_
      rw [c_hasY hn hT.2.1 ht]
      simp only [Option.bind_some, one0, not_false_eq_true, if_true]
      rw [u1]
      exact hr
    have rF : ∀ T, tb_Kp S T → ∃ T', (∀ r, (tb_cI 99 mX8_found [.ref 45, .int b, .int c, .int (6 : Int32)] T').bind (fun q => some (q.1, q.2)) = some r → tb_cI 100 mX8_part_ [.ref 45, .int (nI t), .int b, .int c] T = some r) ∧ tb_Kp T T' ∧ PKr (pkM (feeM S t)) (sayV S t) (sayV S t) T' := by
      intro T hk
      obtain ⟨T', t1, t2, t3⟩ := r_fees (d := 70) hT' ht hj hk
      refine ⟨T', fun r hr => MX8_part_ ?_, t2, t3⟩
      rw [r_termY hn (by rw [hk.f 0 rfl]; exact hT.2.2.1) ht]
      simp only [Option.bind_some, one0, not_false_eq_true, if_true]
      rw [t1]
      exact hr
    rcases i_or (n := (pkM (feeM S t)).length) (by omega) b with rfl | ⟨k, hk, rfl⟩ | ⟨h1, h2⟩
    · refine ⟨nI (pkM (feeM S t)).length, ⟨U, cF _ ?_, kp_of8 u2⟩, fun T hJT hk => ?_⟩
      · by_cases e : c = 6
        · rw [if_neg (fun z => z e), c_hasB u3, b2_f (fun z => absurd z.1 (by decide))]
          simp only [Option.bind_some, if_true]
          rw [c_tellM u3]
          rfl
        · rw [if_pos e, c_tellM u3]
          rfl
      · obtain ⟨T', t1, t2, t3⟩ := rF T hk
        exact ⟨T', t1 _ (by rw [r_foundM t3]; rfl), t2⟩
    · have hx : (pkM (feeM S t))[k]? = some ((pkM (feeM S t))[k]) := List.getElem?_eq_getElem hk
      generalize (pkM (feeM S t))[k] = x at hx
      obtain ⟨m1, m2, m3⟩ := pkM_mem hx
      refine ⟨rfW x.2 (sayV S t x.1) (sayV S t x.1) 6 c, ⟨U, cF _ ?_, kp_of8 u2⟩, fun T hJT hk2 => ?_⟩
      · by_cases e : c = 6
        · rw [if_neg (fun z => z e), c_hasB u3, b2_t (in_b hk hl)]
          simp only [Option.bind_some, one0, if_false]
          rw [n_ix (show k < 224 by omega) (by omega)]
          simp only [Option.bind_some]
          rw [(u3.2 k x hx).2, e, rfW_66, fee_v m2]
        · rw [if_pos e, c_tellI u3 hl hx m3, rfW_6 e]
          rfl
      · obtain ⟨T', t1, t2, t3⟩ := rF T hk2
        exact ⟨T', t1 _ (by rw [r_foundI t3 hl hx (ms := 6) (y := 6) rfl (by omega)]; rfl), t2⟩
    · refine ⟨-1, ⟨U, cF _ ?_, kp_of8 u2⟩, fun T hJT hk => ?_⟩
      · by_cases e : c = 6
        · rw [if_neg (fun z => z e), c_hasB u3, b2_f h2]
          simp only [Option.bind_some, if_true]
          rw [c_tellO u3 h1 h2]
          rfl
        · rw [if_pos e, c_tellO u3 h1 h2]
          rfl
      · obtain ⟨T', t1, t2, t3⟩ := rF T hk
        exact ⟨T', t1 _ (by rw [r_foundO t3 hl h1 h2]; rfl), t2⟩
  · refine ⟨-1, ⟨S, MX7_part ?_, tb_Kp.refl⟩, fun T hJT hk => ⟨T, MX8_part_ ?_, tb_Kp.refl⟩⟩
    · rw [c_hasN hT.2.1 hx]
      simp only [Option.bind_some, not_true_eq_false, if_false]
    · rw [r_termN hn (by rw [hk.f 0 rfl]; exact hT.2.2.1) hx]
      simp only [Option.bind_some, not_true_eq_false, if_false]
theorem p_gap : ∀ a b c : Int32, tb_PI mX7_gap mX8_gap [.int a, .int b, .int c] := by
  intro a b c
  refine tb_PI_ask (fun S hJ => ?_)
  obtain ⟨n, hT⟩ := hJ.1
  have hn := hT.1
  have hT' : jTS n S := hT
  have hj := hJ.2.2.2.2.2.2.2
  rcases term_or (n := n) (by omega) a with ⟨t, ht, rfl⟩ | hx
  · obtain ⟨U, u1, u2, u3⟩ := c_boxGaps (d := 93) hT' ht
    have hl : (pkM (gapM S t)).length ≤ 224 := pkM_len
    have cF : ∀ r, ((tb_cI 99 mX0_tell [.ref 28, .int b, .int c] U).bind fun q51 => some (q51.1, q51.2)) = some r → tb_cI 100 mX7_gap [.ref 1, .int (nI t), .int b, .int c] S = some r := by
      intro r hr
      refine MX7_gap ?_
      rw [c_hasY hn hT.2.1 ht]
      simp only [Option.bind_some, one0, not_false_eq_true, if_true]
      rw [u1]
      exact hr
    have rF : ∀ T, tb_Kp S T → ∃ T', (∀ r, (tb_cI 99 mX8_found [.ref 45, .int b, .int c, .int (5 : Int32)] T').bind (fun q => some (q.1, q.2)) = some r → tb_cI 100 mX8_gap [.ref 45, .int (nI t), .int b, .int c] T = some r) ∧ tb_Kp T T' ∧ PKr (pkM (gapM S t)) (sayV S t) (sayV S t) T' := by
      intro T hk
      obtain ⟨T', t1, t2, t3⟩ := r_gaps (d := 70) hT' ht hj hk
      refine ⟨T', fun r hr => MX8_gap ?_, t2, t3⟩
      rw [r_termY hn (by rw [hk.f 0 rfl]; exact hT.2.2.1) ht]
      simp only [Option.bind_some, one0, not_false_eq_true, if_true]
      rw [t1]
      exact hr
    rcases i_or (n := (pkM (gapM S t)).length) (by omega) b with rfl | ⟨k, hk, rfl⟩ | ⟨h1, h2⟩
    · refine ⟨nI (pkM (gapM S t)).length, ⟨U, cF _ ?_, kp_of8 u2⟩, fun T hJT hk => ?_⟩
      · rw [c_tellM u3]
        rfl
      · obtain ⟨T', t1, t2, t3⟩ := rF T hk
        exact ⟨T', t1 _ (by rw [r_foundM t3]; rfl), t2⟩
    · have hx : (pkM (gapM S t))[k]? = some ((pkM (gapM S t))[k]) := List.getElem?_eq_getElem hk
      generalize (pkM (gapM S t))[k] = x at hx
      obtain ⟨m1, m2, m3⟩ := pkM_mem hx
      refine ⟨rfW x.2 (sayV S t x.1) (sayV S t x.1) 5 c, ⟨U, cF _ ?_, kp_of8 u2⟩, fun T hJT hk2 => ?_⟩
      · rw [c_tellI u3 hl hx m3, rfW_5]
        rfl
      · obtain ⟨T', t1, t2, t3⟩ := rF T hk2
        exact ⟨T', t1 _ (by rw [r_foundI t3 hl hx (ms := 5) (y := 5) rfl (by omega)]; rfl), t2⟩
    · refine ⟨-1, ⟨U, cF _ ?_, kp_of8 u2⟩, fun T hJT hk => ?_⟩
      · rw [c_tellO u3 h1 h2]
        rfl
      · obtain ⟨T', t1, t2, t3⟩ := rF T hk
        exact ⟨T', t1 _ (by rw [r_foundO t3 hl h1 h2]; rfl), t2⟩
  · refine ⟨-1, ⟨S, MX7_gap ?_, tb_Kp.refl⟩, fun T hJT hk => ⟨T, MX8_gap ?_, tb_Kp.refl⟩⟩
    · rw [c_hasN hT.2.1 hx]
      simp only [Option.bind_some, not_true_eq_false, if_false]
    · rw [r_termN hn (by rw [hk.f 0 rfl]; exact hT.2.2.1) hx]
      simp only [Option.bind_some, not_true_eq_false, if_false]
theorem p_diff : ∀ a b c e : Int32, tb_PI mX7_diff mX8_diff [.int a, .int b, .int c, .int e] := by
  intro a a' b c
  refine tb_PI_ask (fun S hJ => ?_)
  obtain ⟨n, hT⟩ := hJ.1
  have hn := hT.1
  have hT' : jTS n S := hT
  have hj := hJ.2.2.2.2.2.2.2
  rcases term_or (n := n) (by omega) a with ⟨t, ht, rfl⟩ | hx
  · rcases term_or (n := n) (by omega) a' with ⟨u, hu, rfl⟩ | hx
    · obtain ⟨U, u1, u2, u3⟩ := c_boxDiffs (d := 93) hT' ht hu
      have hl : (pkM (diffM S t u)).length ≤ 224 := pkM_len
      have cF : ∀ r, ((if ¬ c = (6 : Int32) then tb_E 99 mX7_diff tb_dI 61 [.ref 1, .int (nI t), .int (nI u), .int b, .int c] [] tb_S U else (tb_cI 99 mX0_has [.ref 28, .int b] U).bind fun q42 => (if q42.1 = 0 then tb_E 99 mX7_diff tb_dI 61 [.ref 1, .int (nI t), .int (nI u), .int b, .int c] [] tb_S (q42.2) else (tb_ix b 224).bind fun j56 => (tb_cI 99 mX7_firstOfPair [.int ((q42.2) 31 j56)] (q42.2)).bind fun q57 => some (q57.1, q57.2))) = some r) → tb_cI 100 mX7_diff [.ref 1, .int (nI t), .int (nI u), .int b, .int c] S = some r := by
        intro r hr
        refine MX7_diff ?_
        rw [c_hasY hn hT.2.1 ht]
        simp only [Option.bind_some, one0, if_false]
        rw [c_hasY hn hT.2.1 hu]
        simp only [Option.bind_some, one0, not_false_eq_true, if_true]
        rw [u1]
        exact hr
      have rF : ∀ T, tb_Kp S T → ∃ T', (∀ r, (tb_cI 99 mX8_found [.ref 45, .int b, .int c, .int (7 : Int32)] T').bind (fun q => some (q.1, q.2)) = some r → tb_cI 100 mX8_diff [.ref 45, .int (nI t), .int (nI u), .int b, .int c] T = some r) ∧ tb_Kp T T' ∧ PKr (pkM (diffM S t u)) (sayV S t) (sayV S u) T' := by
        intro T hk
        obtain ⟨T', t1, t2, t3⟩ := r_diffs (d := 70) hT' ht hu hj hk
        refine ⟨T', fun r hr => MX8_diff ?_, t2, t3⟩
        rw [r_termY hn (by rw [hk.f 0 rfl]; exact hT.2.2.1) ht]
        simp only [Option.bind_some, one0, if_false]
        rw [r_termY hn (by rw [hk.f 0 rfl]; exact hT.2.2.1) hu]
        simp only [Option.bind_some, one0, not_false_eq_true, if_true]
        rw [t1]
        exact hr
      -- outside: the same answer by all three ways
      have cO : ∀ v, ¬ (0 ≤ b ∧ b < nI (pkM (diffM S t u)).length) → tb_cI 99 mX0_tell [.ref 28, .int b, .int c] U = some (v, U) → tb_cI 100 mX7_diff [.ref 1, .int (nI t), .int (nI u), .int b, .int c] S = some (v, U) := by
        intro v hb hv
        have h61 : tb_E 99 mX7_diff tb_dI 61 [.ref 1, .int (nI t), .int (nI u), .int b, .int c] [] tb_S U = some (v, U) := by
          refine BX7_diff_61 ?_
          by_cases e : c = 7
          · rw [if_neg (fun z => z e), c_hasB u3, b2_f hb]
            simp only [Option.bind_some, if_true]
            rw [hv]
            rfl
          · rw [if_pos e, hv]
            rfl
        refine cF _ ?_
        by_cases e : c = 6
        · rw [if_neg (fun z => z e), c_hasB u3, b2_f hb]
          simp only [Option.bind_some, if_true]
          exact h61
        · rw [if_pos e]
          exact h61
      rcases i_or (n := (pkM (diffM S t u)).length) (by omega) b with rfl | ⟨k, hk, rfl⟩ | ⟨h1, h2⟩
      · refine ⟨nI (pkM (diffM S t u)).length, ⟨U, cO _ (fun z => absurd z.1 (by decide)) (c_tellM u3 c), kp_of8 u2⟩, fun T hJT hk => ?_⟩
        obtain ⟨T', t1, t2, t3⟩ := rF T hk
        exact ⟨T', t1 _ (by rw [r_foundM t3]; rfl), t2⟩
      · have hx : (pkM (diffM S t u))[k]? = some ((pkM (diffM S t u))[k]) := List.getElem?_eq_getElem hk
        generalize (pkM (diffM S t u))[k] = x at hx
        obtain ⟨m1, m2, m3⟩ := pkM_mem hx
        have hp := diff_v hT' ht hu m2
        have vt := say_val (c := x.1) hT' ht
        have vu := say_val (c := x.1) hT' hu
        refine ⟨rfW x.2 (sayV S t x.1) (sayV S u x.1) 7 c, ⟨U, cF _ ?_, kp_of8 u2⟩, fun T hJT hk2 => ?_⟩
        · by_cases e : c = 6
          · rw [if_neg (fun z => z e), c_hasB u3, b2_t (in_b hk hl)]
            simp only [Option.bind_some, one0, if_false]
            rw [n_ix (show k < 224 by omega) (by omega)]
            simp only [Option.bind_some]
            rw [(u3.2 k x hx).2, hp, c_first vt vu, e, rfW_76]
            rfl
          · rw [if_pos e]
            refine BX7_diff_61 ?_
            by_cases e7 : c = 7
            · rw [if_neg (fun z => z e7), c_hasB u3, b2_t (in_b hk hl)]
              simp only [Option.bind_some, one0, if_false]
              rw [n_ix (show k < 224 by omega) (by omega)]
              simp only [Option.bind_some]
              rw [(u3.2 k x hx).2, hp, c_second vt vu, e7, rfW_77]
              rfl
            · rw [if_pos e7, c_tellI u3 hl hx m3, rfW_7 e e7]
              rfl
        · obtain ⟨T', t1, t2, t3⟩ := rF T hk2
          exact ⟨T', t1 _ (by rw [r_foundI t3 hl hx (ms := 7) (y := 7) rfl (by omega)]; rfl), t2⟩
      · refine ⟨-1, ⟨U, cO _ h2 (c_tellO u3 h1 h2 c), kp_of8 u2⟩, fun T hJT hk => ?_⟩
        obtain ⟨T', t1, t2, t3⟩ := rF T hk
        exact ⟨T', t1 _ (by rw [r_foundO t3 hl h1 h2]; rfl), t2⟩
    · refine ⟨-1, ⟨S, MX7_diff ?_, tb_Kp.refl⟩, fun T hJT hk => ⟨T, MX8_diff ?_, tb_Kp.refl⟩⟩
      · rw [c_hasY hn hT.2.1 ht]
        simp only [Option.bind_some, one0, if_false]
        rw [c_hasN hT.2.1 hx]
        simp only [Option.bind_some, not_true_eq_false, if_false]
      · rw [r_termY hn (by rw [hk.f 0 rfl]; exact hT.2.2.1) ht]
        simp only [Option.bind_some, one0, if_false]
        rw [r_termN hn (by rw [hk.f 0 rfl]; exact hT.2.2.1) hx]
        simp only [Option.bind_some, not_true_eq_false, if_false]
  · refine ⟨-1, ⟨S, MX7_diff ?_, tb_Kp.refl⟩, fun T hJT hk => ⟨T, MX8_diff ?_, tb_Kp.refl⟩⟩
    · rw [c_hasN hT.2.1 hx]
      simp only [Option.bind_some, if_true]
    · rw [r_termN hn (by rw [hk.f 0 rfl]; exact hT.2.2.1) hx]
      simp only [Option.bind_some, if_true]
