/-! X7_inLowestTerms () -/
theorem BX7_inLowestTerms_0 {d : Nat} {x0 x1 : Int32} {w2 : Value} {S : tb_St} {r : Int32 × tb_St} (h : (tb_E d mX7_inLowestTerms tb_dI 4 [.int x0, .int x1, .int (224 : Int32)] [] tb_S S) = some r) : tb_E d mX7_inLowestTerms tb_dI 0 [.int x0, .int x1, w2] [] tb_S S = some r := by
  refine x_sipush (pc' := 3) (w := (224 : Int32)) dX7_inLowestTerms_0 rfl k_si_224 ?_
  refine x_istore_n (pc' := 4) (ls' := [.int x0, .int x1, .int (224 : Int32)]) dX7_inLowestTerms_3 rfl rfl rfl ?_
  exact h
theorem MX7_inLowestTerms {d : Nat} {x0 : Int32} {x1 : Int32} {S : tb_St} {r : Int32 × tb_St} (h : (tb_E d mX7_inLowestTerms tb_dI 4 [.int x0, .int x1, .int (224 : Int32)] [] tb_S S) = some r) : tb_cI (d + 1) mX7_inLowestTerms [.int x0, .int x1] S = some r := tb_enI rfl rfl (BX7_inLowestTerms_0 h)
theorem BX7_inLowestTerms_4 {d : Nat} {x0 x1 x2 : Int32} {S : tb_St} {r : Int32 × tb_St} (h : ((if x2 ≤ (1 : Int32) then some (x0, S) else if x2 = 0 then none else (if ¬ tb_rem x1 x2 = 0 then tb_E d mX7_inLowestTerms tb_dI 4 [.int x0, .int x1, .int (x2 + (-1 : Int32))] [] tb_S S else if x2 = 0 then none else (if ¬ tb_rem (224 : Int32) x2 = 0 then tb_E d mX7_inLowestTerms tb_dI 4 [.int x0, .int x1, .int (x2 + (-1 : Int32))] [] tb_S S else if x2 = 0 then none else some (x0 / x2, S))))) = some r) : tb_E d mX7_inLowestTerms tb_dI 4 [.int x0, .int x1, .int x2] [] tb_S S = some r := by
  refine x_iload_n (pc' := 5) dX7_inLowestTerms_4 rfl rfl ?_
  refine x_iconst (pc' := 6) (w := (1 : Int32)) dX7_inLowestTerms_5 rfl k_ic_1 ?_
  by_cases c6 : x2 ≤ (1 : Int32)
  · replace h := (if_pos c6).symm.trans h
    refine x_icmp_le_t (pc' := 33) dX7_inLowestTerms_6 (by decide) c6 ?_
    refine x_iload_n (pc' := 34) dX7_inLowestTerms_33 rfl rfl ?_
    exact x_iret dX7_inLowestTerms_34 rfl ((tb_dI_ok _ _).trans h)
  · replace h := (if_neg c6).symm.trans h
    refine x_icmp_le_f (pc' := 9) dX7_inLowestTerms_6 (by decide) rfl c6 ?_
    refine x_iload_n (pc' := 10) dX7_inLowestTerms_9 rfl rfl ?_
    refine x_iload_n (pc' := 11) dX7_inLowestTerms_10 rfl rfl ?_
    by_cases c11 : x2 = 0
    · replace h := (if_pos c11).symm.trans h
      cases h
    · replace h := (if_neg c11).symm.trans h
      refine x_irem (pc' := 12) dX7_inLowestTerms_11 rfl c11 ?_
      by_cases c12 : ¬ tb_rem x1 x2 = 0
      · replace h := (if_pos c12).symm.trans h
        refine x_if_ne_t (pc' := 27) dX7_inLowestTerms_12 (by decide) c12 ?_
        refine x_iinc (pc' := 30) (w := (-1 : Int32)) (ls' := [.int x0, .int x1, .int (x2 + (-1 : Int32))]) dX7_inLowestTerms_27 rfl rfl k_ic_m1 rfl ?_
        refine x_goto (pc' := 4) dX7_inLowestTerms_30 (by decide) ?_
        exact h
      · replace h := (if_neg c12).symm.trans h
        refine x_if_ne_f (pc' := 15) dX7_inLowestTerms_12 (by decide) rfl c12 ?_
        refine x_sipush (pc' := 18) (w := (224 : Int32)) dX7_inLowestTerms_15 rfl k_si_224 ?_
        refine x_iload_n (pc' := 19) dX7_inLowestTerms_18 rfl rfl ?_
        by_cases c19 : x2 = 0
        · replace h := (if_pos c19).symm.trans h
          cases h
        · replace h := (if_neg c19).symm.trans h
          refine x_irem (pc' := 20) dX7_inLowestTerms_19 rfl c19 ?_
          by_cases c20 : ¬ tb_rem (224 : Int32) x2 = 0
          · replace h := (if_pos c20).symm.trans h
            refine x_if_ne_t (pc' := 27) dX7_inLowestTerms_20 (by decide) c20 ?_
            refine x_iinc (pc' := 30) (w := (-1 : Int32)) (ls' := [.int x0, .int x1, .int (x2 + (-1 : Int32))]) dX7_inLowestTerms_27 rfl rfl k_ic_m1 rfl ?_
            refine x_goto (pc' := 4) dX7_inLowestTerms_30 (by decide) ?_
            exact h
          · replace h := (if_neg c20).symm.trans h
            refine x_if_ne_f (pc' := 23) dX7_inLowestTerms_20 (by decide) rfl c20 ?_
            refine x_iload_n (pc' := 24) dX7_inLowestTerms_23 rfl rfl ?_
            refine x_iload_n (pc' := 25) dX7_inLowestTerms_24 rfl rfl ?_
            by_cases c25 : x2 = 0
            · replace h := (if_pos c25).symm.trans h
              cases h
            · replace h := (if_neg c25).symm.trans h
              refine x_idiv (pc' := 26) dX7_inLowestTerms_25 rfl c25 ?_
              exact x_iret dX7_inLowestTerms_26 rfl ((tb_dI_ok _ _).trans h)
/-! X8_tells (45, 55) -/
theorem BX8_tells_0 {d : Nat} {x1 : Int32} {w3 : Value} {S : tb_St} {r : tb_St} (h : (tb_E d mX8_tells tb_dV 2 [.ref 45, .int x1, .ref 55, .int (0 : Int32)] [] tb_S S) = some r) : tb_E d mX8_tells tb_dV 0 [.ref 45, .int x1, .ref 55, w3] [] tb_S S = some r := by
  refine x_iconst (pc' := 1) (w := (0 : Int32)) dX8_tells_0 rfl k_ic_0 ?_
  refine x_istore_n (pc' := 2) (ls' := [.ref 45, .int x1, .ref 55, .int (0 : Int32)]) dX8_tells_1 rfl rfl rfl ?_
  exact h
theorem MX8_tells {d : Nat} {x1 : Int32} {S : tb_St} {r : tb_St} (h : (tb_E d mX8_tells tb_dV 2 [.ref 45, .int x1, .ref 55, .int (0 : Int32)] [] tb_S S) = some r) : tb_cV (d + 1) mX8_tells [.ref 45, .int x1, .ref 55] S = some r := tb_enV rfl rfl (BX8_tells_0 h)
theorem BX8_tells_2 {d : Nat} {x1 x3 : Int32} {S : tb_St} {r : tb_St} (h : ((if (224 : Int32) ≤ x3 then some S else (tb_cI d mX8_sayOf [.ref 45, .int x1, .int x3] S).bind fun q14 => (tb_ix x3 224).bind fun j17 => tb_E d mX8_tells tb_dV 2 [.ref 45, .int x1, .ref 55, .int (x3 + (1 : Int32))] [] tb_S (tb_up (q14.2) 55 j17 (q14.1)))) = some r) : tb_E d mX8_tells tb_dV 2 [.ref 45, .int x1, .ref 55, .int x3] [] tb_S S = some r := by
  refine x_iload_n (pc' := 3) dX8_tells_2 rfl rfl ?_
  refine x_sipush (pc' := 6) (w := (224 : Int32)) dX8_tells_3 rfl k_si_224 ?_
  by_cases c6 : (224 : Int32) ≤ x3
  · replace h := (if_pos c6).symm.trans h
    refine x_icmp_ge_t (pc' := 24) dX8_tells_6 (by decide) c6 ?_
    exact x_vret dX8_tells_24 rfl ((tb_dV_ok _).trans h)
  · replace h := (if_neg c6).symm.trans h
    refine x_icmp_ge_f (pc' := 9) dX8_tells_6 (by decide) rfl c6 ?_
    refine x_aload_n (pc' := 10) dX8_tells_9 rfl rfl ?_
    refine x_iload_n (pc' := 11) dX8_tells_10 rfl rfl ?_
    refine x_aload_n (pc' := 12) dX8_tells_11 rfl rfl ?_
    refine x_iload_n (pc' := 13) dX8_tells_12 rfl rfl ?_
    refine x_iload_n (pc' := 14) dX8_tells_13 rfl rfl ?_
    obtain ⟨q14, hq14, h⟩ := Option.bind_eq_some_iff.mp h
    refine x_virtI (pc' := 17) (o := 45) (as := [.int x1, .int x3]) (rest := [.int x3, .ref 55]) dX8_tells_14 rfl lm_8_207 rfl rfl rfl sh_45 rfl hq14 ?_
    obtain ⟨j17, hj17, h⟩ := Option.bind_eq_some_iff.mp h
    refine x_iastore (pc' := 18) dX8_tells_17 rfl sh_55 hj17 ?_
    refine x_iinc (pc' := 21) (w := (1 : Int32)) (ls' := [.ref 45, .int x1, .ref 55, .int (x3 + (1 : Int32))]) dX8_tells_18 rfl rfl k_ic_1 rfl ?_
    refine x_goto (pc' := 2) dX8_tells_21 (by decide) ?_
    exact h
/-! X7_earned (1,) -/
theorem BX7_earned_0 {d : Nat} {x1 : Int32} {w2 w3 : Value} {S : tb_St} {r : Int32 × tb_St} (h : ((tb_cV d mX6_unfold [.ref 24, .int x1] S).bind fun q5 => tb_E d mX7_earned tb_dI 12 [.ref 1, .int x1, .int (0 : Int32), .int (0 : Int32)] [] tb_S q5) = some r) : tb_E d mX7_earned tb_dI 0 [.ref 1, .int x1, w2, w3] [] tb_S S = some r := by
  refine x_aload_n (pc' := 1) dX7_earned_0 rfl rfl ?_
  refine x_getR (pc' := 4) dX7_earned_1 rfl lf_7_40 rfl sh_1 rfl ?_
  refine x_iload_n (pc' := 5) dX7_earned_4 rfl rfl ?_
  obtain ⟨q5, hq5, h⟩ := Option.bind_eq_some_iff.mp h
  refine x_virtV (pc' := 8) (o := 24) (as := [.int x1]) (rest := []) dX7_earned_5 rfl lm_7_152 rfl rfl rfl sh_24 rfl hq5 ?_
  refine x_iconst (pc' := 9) (w := (0 : Int32)) dX7_earned_8 rfl k_ic_0 ?_
  refine x_istore_n (pc' := 10) (ls' := [.ref 1, .int x1, .int (0 : Int32), w3]) dX7_earned_9 rfl rfl rfl ?_
  refine x_iconst (pc' := 11) (w := (0 : Int32)) dX7_earned_10 rfl k_ic_0 ?_
  refine x_istore_n (pc' := 12) (ls' := [.ref 1, .int x1, .int (0 : Int32), .int (0 : Int32)]) dX7_earned_11 rfl rfl rfl ?_
  exact h
theorem MX7_earned {d : Nat} {x1 : Int32} {S : tb_St} {r : Int32 × tb_St} (h : ((tb_cV d mX6_unfold [.ref 24, .int x1] S).bind fun q5 => tb_E d mX7_earned tb_dI 12 [.ref 1, .int x1, .int (0 : Int32), .int (0 : Int32)] [] tb_S q5) = some r) : tb_cI (d + 1) mX7_earned [.ref 1, .int x1] S = some r := tb_enI rfl rfl (BX7_earned_0 h)
theorem BX7_earned_12 {d : Nat} {x2 x3 : Int32} {w1 : Value} {S : tb_St} {r : Int32 × tb_St} (h : ((if (224 : Int32) ≤ x3 then some (x2, S) else (tb_cI d mX6_answer [.ref 24, .int x3] S).bind fun q26 => tb_E d mX7_earned tb_dI 12 [.ref 1, w1, .int (x2 + (tb_max (0 : Int32) (q26.1))), .int (x3 + (1 : Int32))] [] tb_S (q26.2))) = some r) : tb_E d mX7_earned tb_dI 12 [.ref 1, w1, .int x2, .int x3] [] tb_S S = some r := by
  refine x_iload_n (pc' := 13) dX7_earned_12 rfl rfl ?_
  refine x_sipush (pc' := 16) (w := (224 : Int32)) dX7_earned_13 rfl k_si_224 ?_
  by_cases c16 : (224 : Int32) ≤ x3
  · replace h := (if_pos c16).symm.trans h
    refine x_icmp_ge_t (pc' := 40) dX7_earned_16 (by decide) c16 ?_
    refine x_iload_n (pc' := 41) dX7_earned_40 rfl rfl ?_
    exact x_iret dX7_earned_41 rfl ((tb_dI_ok _ _).trans h)
  · replace h := (if_neg c16).symm.trans h
    refine x_icmp_ge_f (pc' := 19) dX7_earned_16 (by decide) rfl c16 ?_
    refine x_iload_n (pc' := 20) dX7_earned_19 rfl rfl ?_
    refine x_iconst (pc' := 21) (w := (0 : Int32)) dX7_earned_20 rfl k_ic_0 ?_
    refine x_aload_n (pc' := 22) dX7_earned_21 rfl rfl ?_
    refine x_getR (pc' := 25) dX7_earned_22 rfl lf_7_40 rfl sh_1 rfl ?_
    refine x_iload_n (pc' := 26) dX7_earned_25 rfl rfl ?_
    obtain ⟨q26, hq26, h⟩ := Option.bind_eq_some_iff.mp h
    refine x_virtI (pc' := 29) (o := 24) (as := [.int x3]) (rest := [.int (0 : Int32), .int x2]) dX7_earned_26 rfl lm_7_155 rfl rfl rfl sh_24 rfl hq26 ?_
    refine x_mm (pc' := 32) (w := tb_max (0 : Int32) (q26.1)) dX7_earned_29 rfl ln_7_228 lx_7_228 rfl rfl ?_
    refine x_iadd (pc' := 33) dX7_earned_32 rfl ?_
    refine x_istore_n (pc' := 34) (ls' := [.ref 1, w1, .int (x2 + (tb_max (0 : Int32) (q26.1))), .int x3]) dX7_earned_33 rfl rfl rfl ?_
    refine x_iinc (pc' := 37) (w := (1 : Int32)) (ls' := [.ref 1, w1, .int (x2 + (tb_max (0 : Int32) (q26.1))), .int (x3 + (1 : Int32))]) dX7_earned_34 rfl rfl k_ic_1 rfl ?_
    refine x_goto (pc' := 12) dX7_earned_37 (by decide) ?_
    exact h
/-! X7_covered (1,) -/
theorem BX7_covered_0 {d : Nat} {x1 : Int32} {w2 w3 : Value} {S : tb_St} {r : Int32 × tb_St} (h : ((tb_cV d mX6_unfold [.ref 24, .int x1] S).bind fun q5 => tb_E d mX7_covered tb_dI 12 [.ref 1, .int x1, .int (0 : Int32), .int (0 : Int32)] [] tb_S q5) = some r) : tb_E d mX7_covered tb_dI 0 [.ref 1, .int x1, w2, w3] [] tb_S S = some r := by
  refine x_aload_n (pc' := 1) dX7_covered_0 rfl rfl ?_
  refine x_getR (pc' := 4) dX7_covered_1 rfl lf_7_40 rfl sh_1 rfl ?_
  refine x_iload_n (pc' := 5) dX7_covered_4 rfl rfl ?_
  obtain ⟨q5, hq5, h⟩ := Option.bind_eq_some_iff.mp h
  refine x_virtV (pc' := 8) (o := 24) (as := [.int x1]) (rest := []) dX7_covered_5 rfl lm_7_152 rfl rfl rfl sh_24 rfl hq5 ?_
  refine x_iconst (pc' := 9) (w := (0 : Int32)) dX7_covered_8 rfl k_ic_0 ?_
  refine x_istore_n (pc' := 10) (ls' := [.ref 1, .int x1, .int (0 : Int32), w3]) dX7_covered_9 rfl rfl rfl ?_
  refine x_iconst (pc' := 11) (w := (0 : Int32)) dX7_covered_10 rfl k_ic_0 ?_
  refine x_istore_n (pc' := 12) (ls' := [.ref 1, .int x1, .int (0 : Int32), .int (0 : Int32)]) dX7_covered_11 rfl rfl rfl ?_
  exact h
theorem MX7_covered {d : Nat} {x1 : Int32} {S : tb_St} {r : Int32 × tb_St} (h : ((tb_cV d mX6_unfold [.ref 24, .int x1] S).bind fun q5 => tb_E d mX7_covered tb_dI 12 [.ref 1, .int x1, .int (0 : Int32), .int (0 : Int32)] [] tb_S q5) = some r) : tb_cI (d + 1) mX7_covered [.ref 1, .int x1] S = some r := tb_enI rfl rfl (BX7_covered_0 h)
theorem BX7_covered_12 {d : Nat} {x2 x3 : Int32} {w1 : Value} {S : tb_St} {r : Int32 × tb_St} (h : ((if (224 : Int32) ≤ x3 then some (x2, S) else (tb_cI d mX6_answer [.ref 24, .int x3] S).bind fun q24 => (if q24.1 = (-5 : Int32) then tb_E d mX7_covered tb_dI 12 [.ref 1, w1, .int x2, .int (x3 + (1 : Int32))] [] tb_S (q24.2) else tb_E d mX7_covered tb_dI 12 [.ref 1, w1, .int (x2 + (1 : Int32)), .int (x3 + (1 : Int32))] [] tb_S (q24.2)))) = some r) : tb_E d mX7_covered tb_dI 12 [.ref 1, w1, .int x2, .int x3] [] tb_S S = some r := by
  refine x_iload_n (pc' := 13) dX7_covered_12 rfl rfl ?_
  refine x_sipush (pc' := 16) (w := (224 : Int32)) dX7_covered_13 rfl k_si_224 ?_
  by_cases c16 : (224 : Int32) ≤ x3
  · replace h := (if_pos c16).symm.trans h
    refine x_icmp_ge_t (pc' := 41) dX7_covered_16 (by decide) c16 ?_
    refine x_iload_n (pc' := 42) dX7_covered_41 rfl rfl ?_
    exact x_iret dX7_covered_42 rfl ((tb_dI_ok _ _).trans h)
  · replace h := (if_neg c16).symm.trans h
    refine x_icmp_ge_f (pc' := 19) dX7_covered_16 (by decide) rfl c16 ?_
    refine x_aload_n (pc' := 20) dX7_covered_19 rfl rfl ?_
    refine x_getR (pc' := 23) dX7_covered_20 rfl lf_7_40 rfl sh_1 rfl ?_
    refine x_iload_n (pc' := 24) dX7_covered_23 rfl rfl ?_
    obtain ⟨q24, hq24, h⟩ := Option.bind_eq_some_iff.mp h
    refine x_virtI (pc' := 27) (o := 24) (as := [.int x3]) (rest := []) dX7_covered_24 rfl lm_7_155 rfl rfl rfl sh_24 rfl hq24 ?_
    refine x_bipush (pc' := 29) (w := (-5 : Int32)) dX7_covered_27 rfl k_bi_m5 ?_
    by_cases c29 : q24.1 = (-5 : Int32)
    · replace h := (if_pos c29).symm.trans h
      refine x_icmp_eq_t (pc' := 35) dX7_covered_29 (by decide) c29 ?_
      refine x_iinc (pc' := 38) (w := (1 : Int32)) (ls' := [.ref 1, w1, .int x2, .int (x3 + (1 : Int32))]) dX7_covered_35 rfl rfl k_ic_1 rfl ?_
      refine x_goto (pc' := 12) dX7_covered_38 (by decide) ?_
      exact h
    · replace h := (if_neg c29).symm.trans h
      refine x_icmp_eq_f (pc' := 32) dX7_covered_29 (by decide) rfl c29 ?_
      refine x_iinc (pc' := 35) (w := (1 : Int32)) (ls' := [.ref 1, w1, .int (x2 + (1 : Int32)), .int x3]) dX7_covered_32 rfl rfl k_ic_1 rfl ?_
      refine x_iinc (pc' := 38) (w := (1 : Int32)) (ls' := [.ref 1, w1, .int (x2 + (1 : Int32)), .int (x3 + (1 : Int32))]) dX7_covered_35 rfl rfl k_ic_1 rfl ?_
      refine x_goto (pc' := 12) dX7_covered_38 (by decide) ?_
      exact h
/-! X8_sayOf (45,) -/
theorem BX8_sayOf_0 {d : Nat} {x1 x2 : Int32} {S : tb_St} {r : Int32 × tb_St} (h : ((tb_cI d mX8_said [.ref 45, .int x1, .int x2] (tb_up S 45 16 (0 : Int32))).bind fun q8 => some (q8.1, q8.2)) = some r) : tb_E d mX8_sayOf tb_dI 0 [.ref 45, .int x1, .int x2] [] tb_S S = some r := by
  refine x_aload_n (pc' := 1) dX8_sayOf_0 rfl rfl ?_
  refine x_iconst (pc' := 2) (w := (0 : Int32)) dX8_sayOf_1 rfl k_ic_0 ?_
  refine x_putI (pc' := 5) dX8_sayOf_2 rfl lf_8_188 (Or.inl rfl) sh_45 ?_
  refine x_aload_n (pc' := 6) dX8_sayOf_5 rfl rfl ?_
  refine x_iload_n (pc' := 7) dX8_sayOf_6 rfl rfl ?_
  refine x_iload_n (pc' := 8) dX8_sayOf_7 rfl rfl ?_
  obtain ⟨q8, hq8, h⟩ := Option.bind_eq_some_iff.mp h
  refine x_virtI (pc' := 11) (o := 45) (as := [.int x1, .int x2]) (rest := []) dX8_sayOf_8 rfl lm_8_191 rfl rfl rfl sh_45 rfl hq8 ?_
  exact x_iret dX8_sayOf_11 rfl ((tb_dI_ok _ _).trans h)
theorem MX8_sayOf {d : Nat} {x1 : Int32} {x2 : Int32} {S : tb_St} {r : Int32 × tb_St} (h : ((tb_cI d mX8_said [.ref 45, .int x1, .int x2] (tb_up S 45 16 (0 : Int32))).bind fun q8 => some (q8.1, q8.2)) = some r) : tb_cI (d + 1) mX8_sayOf [.ref 45, .int x1, .int x2] S = some r := tb_enI rfl rfl (BX8_sayOf_0 h)
/-! X8_isCase () -/
theorem BX8_isCase_0 {d : Nat} {x0 : Int32} {S : tb_St} {r : Int32 × tb_St} (h : ((tb_cI d mX8_within [.int x0, .int (0 : Int32), .int (223 : Int32)] S).bind fun q5 => (if q5.1 = 0 ∨ q5.1 = 1 then some (q5.1, q5.2) else none)) = some r) : tb_E d mX8_isCase tb_dI 0 [.int x0] [] tb_S S = some r := by
  refine x_iload_n (pc' := 1) dX8_isCase_0 rfl rfl ?_
  refine x_iconst (pc' := 2) (w := (0 : Int32)) dX8_isCase_1 rfl k_ic_0 ?_
  refine x_sipush (pc' := 5) (w := (223 : Int32)) dX8_isCase_2 rfl k_si_223 ?_
  obtain ⟨q5, hq5, h⟩ := Option.bind_eq_some_iff.mp h
  refine x_statI (pc' := 8) (as := [.int x0, .int (0 : Int32), .int (223 : Int32)]) (rest := []) dX8_isCase_5 rfl lm_8_80 (by decide) rfl rfl rfl rfl hq5 ?_
  by_cases c8 : q5.1 = 0 ∨ q5.1 = 1
  · replace h := (if_pos c8).symm.trans h
    exact x_zret dX8_isCase_8 rfl c8 ((tb_dI_ok _ _).trans h)
  · replace h := (if_neg c8).symm.trans h
    cases h
theorem MX8_isCase {d : Nat} {x0 : Int32} {S : tb_St} {r : Int32 × tb_St} (h : ((tb_cI d mX8_within [.int x0, .int (0 : Int32), .int (223 : Int32)] S).bind fun q5 => (if q5.1 = 0 ∨ q5.1 = 1 then some (q5.1, q5.2) else none)) = some r) : tb_cI (d + 1) mX8_isCase [.int x0] S = some r := tb_enI rfl rfl (BX8_isCase_0 h)
/-! X6_answer (24,) -/
theorem BX6_answer_0 {d : Nat} {x1 : Int32} {w2 : Value} {S : tb_St} {r : Int32 × tb_St} (h : (tb_E d mX6_answer tb_dI 7 [.ref 24, .int x1, .int ((S 24 4) - (1 : Int32))] [] tb_S S) = some r) : tb_E d mX6_answer tb_dI 0 [.ref 24, .int x1, w2] [] tb_S S = some r := by
  refine x_aload_n (pc' := 1) dX6_answer_0 rfl rfl ?_
  refine x_getI (pc' := 4) (v := S 24 4) dX6_answer_1 rfl lf_6_21 rfl sh_24 rfl ?_
  refine x_iconst (pc' := 5) (w := (1 : Int32)) dX6_answer_4 rfl k_ic_1 ?_
  refine x_isub (pc' := 6) dX6_answer_5 rfl ?_
  refine x_istore_n (pc' := 7) (ls' := [.ref 24, .int x1, .int ((S 24 4) - (1 : Int32))]) dX6_answer_6 rfl rfl rfl ?_
  exact h
theorem MX6_answer {d : Nat} {x1 : Int32} {S : tb_St} {r : Int32 × tb_St} (h : (tb_E d mX6_answer tb_dI 7 [.ref 24, .int x1, .int ((S 24 4) - (1 : Int32))] [] tb_S S) = some r) : tb_cI (d + 1) mX6_answer [.ref 24, .int x1] S = some r := tb_enI rfl rfl (BX6_answer_0 h)
theorem BX6_answer_7 {d : Nat} {x1 x2 : Int32} {S : tb_St} {r : Int32 × tb_St} (h : ((if x2 < 0 then (tb_cI d mX6_saidAt [.ref 24, .int (0 : Int32)] S).bind fun q44 => some (q44.1, q44.2) else (if ¬ x2 = S 24 5 then (tb_cI d mX6_answerAt [.ref 24, .int x2, .int x1] S).bind fun q32 => (tb_ix x2 40).bind fun j35 => tb_E d mX6_answer tb_dI 7 [.ref 24, .int x1, .int (x2 + (-1 : Int32))] [] tb_S (tb_up (q32.2) 27 j35 (q32.1)) else (tb_ix x2 40).bind fun j35 => tb_E d mX6_answer tb_dI 7 [.ref 24, .int x1, .int (x2 + (-1 : Int32))] [] tb_S (tb_up S 27 j35 (-5 : Int32))))) = some r) : tb_E d mX6_answer tb_dI 7 [.ref 24, .int x1, .int x2] [] tb_S S = some r := by
  refine x_iload_n (pc' := 8) dX6_answer_7 rfl rfl ?_
  by_cases c8 : x2 < 0
  · replace h := (if_pos c8).symm.trans h
    refine x_if_lt_t (pc' := 42) dX6_answer_8 (by decide) c8 ?_
    refine x_aload_n (pc' := 43) dX6_answer_42 rfl rfl ?_
    refine x_iconst (pc' := 44) (w := (0 : Int32)) dX6_answer_43 rfl k_ic_0 ?_
    obtain ⟨q44, hq44, h⟩ := Option.bind_eq_some_iff.mp h
    refine x_virtI (pc' := 47) (o := 24) (as := [.int (0 : Int32)]) (rest := []) dX6_answer_44 rfl lm_6_67 rfl rfl rfl sh_24 rfl hq44 ?_
    exact x_iret dX6_answer_47 rfl ((tb_dI_ok _ _).trans h)
  · replace h := (if_neg c8).symm.trans h
    refine x_if_lt_f (pc' := 11) dX6_answer_8 (by decide) rfl c8 ?_
    refine x_aload_n (pc' := 12) dX6_answer_11 rfl rfl ?_
    refine x_getR (pc' := 15) dX6_answer_12 rfl lf_6_18 rfl sh_24 rfl ?_
    refine x_iload_n (pc' := 16) dX6_answer_15 rfl rfl ?_
    refine x_iload_n (pc' := 17) dX6_answer_16 rfl rfl ?_
    refine x_aload_n (pc' := 18) dX6_answer_17 rfl rfl ?_
    refine x_getI (pc' := 21) (v := S 24 5) dX6_answer_18 rfl lf_6_25 rfl sh_24 rfl ?_
    by_cases c21 : ¬ x2 = S 24 5
    · replace h := (if_pos c21).symm.trans h
      refine x_icmp_ne_t (pc' := 29) dX6_answer_21 (by decide) c21 ?_
      refine x_aload_n (pc' := 30) dX6_answer_29 rfl rfl ?_
      refine x_iload_n (pc' := 31) dX6_answer_30 rfl rfl ?_
      refine x_iload_n (pc' := 32) dX6_answer_31 rfl rfl ?_
      obtain ⟨q32, hq32, h⟩ := Option.bind_eq_some_iff.mp h
      refine x_virtI (pc' := 35) (o := 24) (as := [.int x2, .int x1]) (rest := [.int x2, .ref 27]) dX6_answer_32 rfl lm_6_64 rfl rfl rfl sh_24 rfl hq32 ?_
      obtain ⟨j35, hj35, h⟩ := Option.bind_eq_some_iff.mp h
      refine x_iastore (pc' := 36) dX6_answer_35 rfl sh_27 hj35 ?_
      refine x_iinc (pc' := 39) (w := (-1 : Int32)) (ls' := [.ref 24, .int x1, .int (x2 + (-1 : Int32))]) dX6_answer_36 rfl rfl k_ic_m1 rfl ?_
      refine x_goto (pc' := 7) dX6_answer_39 (by decide) ?_
      exact h
    · replace h := (if_neg c21).symm.trans h
      refine x_icmp_ne_f (pc' := 24) dX6_answer_21 (by decide) rfl c21 ?_
      refine x_bipush (pc' := 26) (w := (-5 : Int32)) dX6_answer_24 rfl k_bi_m5 ?_
      refine x_goto (pc' := 35) dX6_answer_26 (by decide) ?_
      obtain ⟨j35, hj35, h⟩ := Option.bind_eq_some_iff.mp h
      refine x_iastore (pc' := 36) dX6_answer_35 rfl sh_27 hj35 ?_
      refine x_iinc (pc' := 39) (w := (-1 : Int32)) (ls' := [.ref 24, .int x1, .int (x2 + (-1 : Int32))]) dX6_answer_36 rfl rfl k_ic_m1 rfl ?_
      refine x_goto (pc' := 7) dX6_answer_39 (by decide) ?_
      exact h
/-! X6_unfold (24,) -/
theorem BX6_unfold_0 {d : Nat} {x1 : Int32} {w2 w3 w4 w5 : Value} {S : tb_St} {r : tb_St} (h : ((tb_cI d mX5_sizeOf [.ref 2, .int x1] S).bind fun q6 => (tb_cV d mX6_setPlace [.ref 24, .int (0 : Int32), .int x1] (tb_up (tb_up (tb_up (q6.2) 24 4 (tb_min (q6.1) (40 : Int32))) 24 5 (-1 : Int32)) 24 6 (-1 : Int32))).bind fun q30 => tb_E d mX6_unfold tb_dV 35 [.ref 24, .int x1, .int (0 : Int32), w3, w4, w5] [] tb_S q30) = some r) : tb_E d mX6_unfold tb_dV 0 [.ref 24, .int x1, w2, w3, w4, w5] [] tb_S S = some r := by
  refine x_aload_n (pc' := 1) dX6_unfold_0 rfl rfl ?_
  refine x_aload_n (pc' := 2) dX6_unfold_1 rfl rfl ?_
  refine x_getR (pc' := 5) dX6_unfold_2 rfl lf_6_34 rfl sh_24 rfl ?_
  refine x_iload_n (pc' := 6) dX6_unfold_5 rfl rfl ?_
  obtain ⟨q6, hq6, h⟩ := Option.bind_eq_some_iff.mp h
  refine x_virtI (pc' := 9) (o := 2) (as := [.int x1]) (rest := [.ref 24]) dX6_unfold_6 rfl lm_6_38 rfl rfl rfl sh_2 rfl hq6 ?_
  refine x_bipush (pc' := 11) (w := (40 : Int32)) dX6_unfold_9 rfl k_bi_40 ?_
  refine x_mm (pc' := 14) (w := tb_min (q6.1) (40 : Int32)) dX6_unfold_11 rfl ln_6_44 lx_6_44 rfl rfl ?_
  refine x_putI (pc' := 17) dX6_unfold_14 rfl lf_6_21 (Or.inl rfl) sh_24 ?_
  refine x_aload_n (pc' := 18) dX6_unfold_17 rfl rfl ?_
  refine x_iconst (pc' := 19) (w := (-1 : Int32)) dX6_unfold_18 rfl k_ic_m1 ?_
  refine x_putI (pc' := 22) dX6_unfold_19 rfl lf_6_25 (Or.inl rfl) sh_24 ?_
  refine x_aload_n (pc' := 23) dX6_unfold_22 rfl rfl ?_
  refine x_iconst (pc' := 24) (w := (-1 : Int32)) dX6_unfold_23 rfl k_ic_m1 ?_
  refine x_putI (pc' := 27) dX6_unfold_24 rfl lf_6_28 (Or.inl rfl) sh_24 ?_
  refine x_aload_n (pc' := 28) dX6_unfold_27 rfl rfl ?_
  refine x_iconst (pc' := 29) (w := (0 : Int32)) dX6_unfold_28 rfl k_ic_0 ?_
  refine x_iload_n (pc' := 30) dX6_unfold_29 rfl rfl ?_
  obtain ⟨q30, hq30, h⟩ := Option.bind_eq_some_iff.mp h
  refine x_virtV (pc' := 33) (o := 24) (as := [.int (0 : Int32), .int x1]) (rest := []) dX6_unfold_30 rfl lm_6_50 rfl rfl rfl sh_24 rfl hq30 ?_
  refine x_iconst (pc' := 34) (w := (0 : Int32)) dX6_unfold_33 rfl k_ic_0 ?_
  refine x_istore_n (pc' := 35) (ls' := [.ref 24, .int x1, .int (0 : Int32), w3, w4, w5]) dX6_unfold_34 rfl rfl rfl ?_
  exact h
theorem MX6_unfold {d : Nat} {x1 : Int32} {S : tb_St} {r : tb_St} (h : ((tb_cI d mX5_sizeOf [.ref 2, .int x1] S).bind fun q6 => (tb_cV d mX6_setPlace [.ref 24, .int (0 : Int32), .int x1] (tb_up (tb_up (tb_up (q6.2) 24 4 (tb_min (q6.1) (40 : Int32))) 24 5 (-1 : Int32)) 24 6 (-1 : Int32))).bind fun q30 => tb_E d mX6_unfold tb_dV 35 [.ref 24, .int x1, .int (0 : Int32), tb_jk, tb_jk, tb_jk] [] tb_S q30) = some r) : tb_cV (d + 1) mX6_unfold [.ref 24, .int x1] S = some r := tb_enV rfl rfl (BX6_unfold_0 h)
theorem BX6_unfold_35 {d : Nat} {x2 : Int32} {w1 w3 w4 w5 : Value} {S : tb_St} {r : tb_St} (h : ((if S 24 4 ≤ x2 then some S else (tb_ix x2 40).bind fun j48 => (tb_cI d mX5_has [.ref 2, .int (S 25 j48)] S).bind fun q55 => (if q55.1 = 0 then tb_E d mX6_unfold tb_dV 75 [.ref 24, w1, .int x2, .int (S 25 j48), w4, w5] [.int (-5 : Int32)] tb_S (q55.2) else (tb_ix (S 25 j48) 24).bind fun j69 => tb_E d mX6_unfold tb_dV 75 [.ref 24, w1, .int x2, .int (S 25 j48), w4, w5] [.int ((q55.2) 6 j69)] tb_S (q55.2)))) = some r) : tb_E d mX6_unfold tb_dV 35 [.ref 24, w1, .int x2, w3, w4, w5] [] tb_S S = some r := by
  refine x_iload_n (pc' := 36) dX6_unfold_35 rfl rfl ?_
  refine x_aload_n (pc' := 37) dX6_unfold_36 rfl rfl ?_
  refine x_getI (pc' := 40) (v := S 24 4) dX6_unfold_37 rfl lf_6_21 rfl sh_24 rfl ?_
  by_cases c40 : S 24 4 ≤ x2
  · replace h := (if_pos c40).symm.trans h
    refine x_icmp_ge_t (pc' := 150) dX6_unfold_40 (by decide) c40 ?_
    exact x_vret dX6_unfold_150 rfl ((tb_dV_ok _).trans h)
  · replace h := (if_neg c40).symm.trans h
    refine x_icmp_ge_f (pc' := 43) dX6_unfold_40 (by decide) rfl c40 ?_
    refine x_aload_n (pc' := 44) dX6_unfold_43 rfl rfl ?_
    refine x_getR (pc' := 47) dX6_unfold_44 rfl lf_6_9 rfl sh_24 rfl ?_
    refine x_iload_n (pc' := 48) dX6_unfold_47 rfl rfl ?_
    obtain ⟨j48, hj48, h⟩ := Option.bind_eq_some_iff.mp h
    refine x_iaload (pc' := 49) (v := S 25 j48) dX6_unfold_48 rfl sh_25 hj48 rfl ?_
    refine x_istore_n (pc' := 50) (ls' := [.ref 24, w1, .int x2, .int (S 25 j48), w4, w5]) dX6_unfold_49 rfl rfl rfl ?_
    refine x_aload_n (pc' := 51) dX6_unfold_50 rfl rfl ?_
    refine x_getR (pc' := 54) dX6_unfold_51 rfl lf_6_34 rfl sh_24 rfl ?_
    refine x_iload_n (pc' := 55) dX6_unfold_54 rfl rfl ?_
    obtain ⟨q55, hq55, h⟩ := Option.bind_eq_some_iff.mp h
    refine x_virtI (pc' := 58) (o := 2) (as := [.int (S 25 j48)]) (rest := []) dX6_unfold_55 rfl lm_6_54 rfl rfl rfl sh_2 rfl hq55 ?_
    by_cases c58 : q55.1 = 0
    · replace h := (if_pos c58).symm.trans h
      refine x_if_eq_t (pc' := 73) dX6_unfold_58 (by decide) c58 ?_
      refine x_bipush (pc' := 75) (w := (-5 : Int32)) dX6_unfold_73 rfl k_bi_m5 ?_
      exact h
    · replace h := (if_neg c58).symm.trans h
      refine x_if_eq_f (pc' := 61) dX6_unfold_58 (by decide) rfl c58 ?_
      refine x_aload_n (pc' := 62) dX6_unfold_61 rfl rfl ?_
      refine x_getR (pc' := 65) dX6_unfold_62 rfl lf_6_34 rfl sh_24 rfl ?_
      refine x_getR (pc' := 68) dX6_unfold_65 rfl lf_6_58 rfl sh_2 rfl ?_
      refine x_iload_n (pc' := 69) dX6_unfold_68 rfl rfl ?_
      obtain ⟨j69, hj69, h⟩ := Option.bind_eq_some_iff.mp h
      refine x_iaload (pc' := 70) (v := (q55.2) 6 j69) dX6_unfold_69 rfl sh_6 hj69 rfl ?_
      refine x_goto (pc' := 75) dX6_unfold_70 (by decide) ?_
      exact h
theorem BX6_unfold_75 {d : Nat} {x2 x3 s0 : Int32} {w1 w4 w5 : Value} {S : tb_St} {r : tb_St} (h : ((tb_cI d mX5_has [.ref 2, .int x3] S).bind fun q82 => (if q82.1 = 0 then tb_E d mX6_unfold tb_dV 102 [.ref 24, w1, .int x2, .int x3, .int s0, w5] [.int (-5 : Int32)] tb_S (q82.2) else (tb_ix x3 24).bind fun j96 => tb_E d mX6_unfold tb_dV 102 [.ref 24, w1, .int x2, .int x3, .int s0, w5] [.int ((q82.2) 7 j96)] tb_S (q82.2))) = some r) : tb_E d mX6_unfold tb_dV 75 [.ref 24, w1, .int x2, .int x3, w4, w5] [.int s0] tb_S S = some r := by
  refine x_istore (pc' := 77) (ls' := [.ref 24, w1, .int x2, .int x3, .int s0, w5]) dX6_unfold_75 rfl rfl rfl ?_
  refine x_aload_n (pc' := 78) dX6_unfold_77 rfl rfl ?_
  refine x_getR (pc' := 81) dX6_unfold_78 rfl lf_6_34 rfl sh_24 rfl ?_
  refine x_iload_n (pc' := 82) dX6_unfold_81 rfl rfl ?_
  obtain ⟨q82, hq82, h⟩ := Option.bind_eq_some_iff.mp h
  refine x_virtI (pc' := 85) (o := 2) (as := [.int x3]) (rest := []) dX6_unfold_82 rfl lm_6_54 rfl rfl rfl sh_2 rfl hq82 ?_
  by_cases c85 : q82.1 = 0
  · replace h := (if_pos c85).symm.trans h
    refine x_if_eq_t (pc' := 100) dX6_unfold_85 (by decide) c85 ?_
    refine x_bipush (pc' := 102) (w := (-5 : Int32)) dX6_unfold_100 rfl k_bi_m5 ?_
    exact h
  · replace h := (if_neg c85).symm.trans h
    refine x_if_eq_f (pc' := 88) dX6_unfold_85 (by decide) rfl c85 ?_
    refine x_aload_n (pc' := 89) dX6_unfold_88 rfl rfl ?_
    refine x_getR (pc' := 92) dX6_unfold_89 rfl lf_6_34 rfl sh_24 rfl ?_
    refine x_getR (pc' := 95) dX6_unfold_92 rfl lf_6_61 rfl sh_2 rfl ?_
    refine x_iload_n (pc' := 96) dX6_unfold_95 rfl rfl ?_
    obtain ⟨j96, hj96, h⟩ := Option.bind_eq_some_iff.mp h
    refine x_iaload (pc' := 97) (v := (q82.2) 7 j96) dX6_unfold_96 rfl sh_7 hj96 rfl ?_
    refine x_goto (pc' := 102) dX6_unfold_97 (by decide) ?_
    exact h
theorem BX6_unfold_102 {d : Nat} {x2 x4 s0 : Int32} {w1 w3 w5 : Value} {S : tb_St} {r : tb_St} (h : ((tb_cI d mX5_sizeOf [.ref 2, .int x4] S).bind fun q118 => (tb_ix x2 40).bind fun j122 => (tb_cV d mX6_setPlace [.ref 24, .int (x2 + (1 : Int32)), .int x4] (tb_up (q118.2) 26 j122 ((x2 + (1 : Int32)) + (q118.1)))).bind fun q129 => (tb_ix x2 40).bind fun j138 => (tb_cV d mX6_setPlace [.ref 24, .int (q129 26 j138), .int s0] q129).bind fun q141 => tb_E d mX6_unfold tb_dV 35 [.ref 24, w1, .int (x2 + (1 : Int32)), w3, .int x4, .int s0] [] tb_S q141) = some r) : tb_E d mX6_unfold tb_dV 102 [.ref 24, w1, .int x2, w3, .int x4, w5] [.int s0] tb_S S = some r := by
  refine x_istore (pc' := 104) (ls' := [.ref 24, w1, .int x2, w3, .int x4, .int s0]) dX6_unfold_102 rfl rfl rfl ?_
  refine x_aload_n (pc' := 105) dX6_unfold_104 rfl rfl ?_
  refine x_getR (pc' := 108) dX6_unfold_105 rfl lf_6_15 rfl sh_24 rfl ?_
  refine x_iload_n (pc' := 109) dX6_unfold_108 rfl rfl ?_
  refine x_iload_n (pc' := 110) dX6_unfold_109 rfl rfl ?_
  refine x_iconst (pc' := 111) (w := (1 : Int32)) dX6_unfold_110 rfl k_ic_1 ?_
  refine x_iadd (pc' := 112) dX6_unfold_111 rfl ?_
  refine x_aload_n (pc' := 113) dX6_unfold_112 rfl rfl ?_
  refine x_getR (pc' := 116) dX6_unfold_113 rfl lf_6_34 rfl sh_24 rfl ?_
  refine x_iload (pc' := 118) dX6_unfold_116 rfl rfl ?_
  obtain ⟨q118, hq118, h⟩ := Option.bind_eq_some_iff.mp h
  refine x_virtI (pc' := 121) (o := 2) (as := [.int x4]) (rest := [.int (x2 + (1 : Int32)), .int x2, .ref 26]) dX6_unfold_118 rfl lm_6_38 rfl rfl rfl sh_2 rfl hq118 ?_
  refine x_iadd (pc' := 122) dX6_unfold_121 rfl ?_
  obtain ⟨j122, hj122, h⟩ := Option.bind_eq_some_iff.mp h
  refine x_iastore (pc' := 123) dX6_unfold_122 rfl sh_26 hj122 ?_
  refine x_aload_n (pc' := 124) dX6_unfold_123 rfl rfl ?_
  refine x_iload_n (pc' := 125) dX6_unfold_124 rfl rfl ?_
  refine x_iconst (pc' := 126) (w := (1 : Int32)) dX6_unfold_125 rfl k_ic_1 ?_
  refine x_iadd (pc' := 127) dX6_unfold_126 rfl ?_
  refine x_iload (pc' := 129) dX6_unfold_127 rfl rfl ?_
  obtain ⟨q129, hq129, h⟩ := Option.bind_eq_some_iff.mp h
  refine x_virtV (pc' := 132) (o := 24) (as := [.int (x2 + (1 : Int32)), .int x4]) (rest := []) dX6_unfold_129 rfl lm_6_50 rfl rfl rfl sh_24 rfl hq129 ?_
  refine x_aload_n (pc' := 133) dX6_unfold_132 rfl rfl ?_
  refine x_aload_n (pc' := 134) dX6_unfold_133 rfl rfl ?_
  refine x_getR (pc' := 137) dX6_unfold_134 rfl lf_6_15 rfl sh_24 rfl ?_
  refine x_iload_n (pc' := 138) dX6_unfold_137 rfl rfl ?_
  obtain ⟨j138, hj138, h⟩ := Option.bind_eq_some_iff.mp h
  refine x_iaload (pc' := 139) (v := q129 26 j138) dX6_unfold_138 rfl sh_26 hj138 rfl ?_
  refine x_iload (pc' := 141) dX6_unfold_139 rfl rfl ?_
  obtain ⟨q141, hq141, h⟩ := Option.bind_eq_some_iff.mp h
  refine x_virtV (pc' := 144) (o := 24) (as := [.int (q129 26 j138), .int s0]) (rest := []) dX6_unfold_141 rfl lm_6_50 rfl rfl rfl sh_24 rfl hq141 ?_
  refine x_iinc (pc' := 147) (w := (1 : Int32)) (ls' := [.ref 24, w1, .int (x2 + (1 : Int32)), w3, .int x4, .int s0]) dX6_unfold_144 rfl rfl k_ic_1 rfl ?_
  refine x_goto (pc' := 35) dX6_unfold_147 (by decide) ?_
  exact h
/-! X7_isCase () -/
theorem BX7_isCase_0 {d : Nat} {x0 : Int32} {S : tb_St} {r : Int32 × tb_St} (h : ((if x0 < 0 then some ((0 : Int32), S) else (if (224 : Int32) ≤ x0 then some ((0 : Int32), S) else some ((1 : Int32), S)))) = some r) : tb_E d mX7_isCase tb_dI 0 [.int x0] [] tb_S S = some r := by
  refine x_iload_n (pc' := 1) dX7_isCase_0 rfl rfl ?_
  by_cases c1 : x0 < 0
  · replace h := (if_pos c1).symm.trans h
    refine x_if_lt_t (pc' := 15) dX7_isCase_1 (by decide) c1 ?_
    refine x_iconst (pc' := 16) (w := (0 : Int32)) dX7_isCase_15 rfl k_ic_0 ?_
    exact x_zret dX7_isCase_16 rfl (Or.inl rfl) ((tb_dI_ok _ _).trans h)
  · replace h := (if_neg c1).symm.trans h
    refine x_if_lt_f (pc' := 4) dX7_isCase_1 (by decide) rfl c1 ?_
    refine x_iload_n (pc' := 5) dX7_isCase_4 rfl rfl ?_
    refine x_sipush (pc' := 8) (w := (224 : Int32)) dX7_isCase_5 rfl k_si_224 ?_
    by_cases c8 : (224 : Int32) ≤ x0
    · replace h := (if_pos c8).symm.trans h
      refine x_icmp_ge_t (pc' := 15) dX7_isCase_8 (by decide) c8 ?_
      refine x_iconst (pc' := 16) (w := (0 : Int32)) dX7_isCase_15 rfl k_ic_0 ?_
      exact x_zret dX7_isCase_16 rfl (Or.inl rfl) ((tb_dI_ok _ _).trans h)
    · replace h := (if_neg c8).symm.trans h
      refine x_icmp_ge_f (pc' := 11) dX7_isCase_8 (by decide) rfl c8 ?_
      refine x_iconst (pc' := 12) (w := (1 : Int32)) dX7_isCase_11 rfl k_ic_1 ?_
      refine x_goto (pc' := 16) dX7_isCase_12 (by decide) ?_
      exact x_zret dX7_isCase_16 rfl (Or.inr rfl) ((tb_dI_ok _ _).trans h)
theorem MX7_isCase {d : Nat} {x0 : Int32} {S : tb_St} {r : Int32 × tb_St} (h : ((if x0 < 0 then some ((0 : Int32), S) else (if (224 : Int32) ≤ x0 then some ((0 : Int32), S) else some ((1 : Int32), S)))) = some r) : tb_cI (d + 1) mX7_isCase [.int x0] S = some r := tb_enI rfl rfl (BX7_isCase_0 h)
/-! X8_spells (45,) -/
theorem BX8_spells_0 {d : Nat} {x1 : Int32} {w2 w3 : Value} {S : tb_St} {r : tb_St} (h : ((tb_ix x1 96).bind fun j5 => (if ¬ S 46 j5 = 0 then (if ¬ S 46 j5 = (1 : Int32) then (tb_cI d mX8_letterOf [.int (S 46 j5)] S).bind fun q36 => (tb_cV d mX8_writes [.ref 45, .int (q36.1)] (q36.2)).bind fun q39 => tb_E d mX8_spells tb_dV 44 [.ref 45, .int x1, .int (S 46 j5), .int (0 : Int32)] [] tb_S q39 else (tb_cV d mX8_writes [.ref 45, .int (45 : Int32)] S).bind fun q30 => some q30) else (tb_ix x1 96).bind fun j17 => (tb_cV d mX8_writesNumber [.ref 45, .int (S 47 j17)] S).bind fun q18 => some q18)) = some r) : tb_E d mX8_spells tb_dV 0 [.ref 45, .int x1, w2, w3] [] tb_S S = some r := by
  refine x_aload_n (pc' := 1) dX8_spells_0 rfl rfl ?_
  refine x_getR (pc' := 4) dX8_spells_1 rfl lf_8_9 rfl sh_45 rfl ?_
  refine x_iload_n (pc' := 5) dX8_spells_4 rfl rfl ?_
  obtain ⟨j5, hj5, h⟩ := Option.bind_eq_some_iff.mp h
  refine x_iaload (pc' := 6) (v := S 46 j5) dX8_spells_5 rfl sh_46 hj5 rfl ?_
  refine x_istore_n (pc' := 7) (ls' := [.ref 45, .int x1, .int (S 46 j5), w3]) dX8_spells_6 rfl rfl rfl ?_
  refine x_iload_n (pc' := 8) dX8_spells_7 rfl rfl ?_
  by_cases c8 : ¬ S 46 j5 = 0
  · replace h := (if_pos c8).symm.trans h
    refine x_if_ne_t (pc' := 22) dX8_spells_8 (by decide) c8 ?_
    refine x_iload_n (pc' := 23) dX8_spells_22 rfl rfl ?_
    refine x_iconst (pc' := 24) (w := (1 : Int32)) dX8_spells_23 rfl k_ic_1 ?_
    by_cases c24 : ¬ S 46 j5 = (1 : Int32)
    · replace h := (if_pos c24).symm.trans h
      refine x_icmp_ne_t (pc' := 34) dX8_spells_24 (by decide) c24 ?_
      refine x_aload_n (pc' := 35) dX8_spells_34 rfl rfl ?_
      refine x_iload_n (pc' := 36) dX8_spells_35 rfl rfl ?_
      obtain ⟨q36, hq36, h⟩ := Option.bind_eq_some_iff.mp h
      refine x_statI (pc' := 39) (as := [.int (S 46 j5)]) (rest := [.ref 45]) dX8_spells_36 rfl lm_8_182 (by decide) rfl rfl rfl rfl hq36 ?_
      obtain ⟨q39, hq39, h⟩ := Option.bind_eq_some_iff.mp h
      refine x_virtV (pc' := 42) (o := 45) (as := [.int (q36.1)]) (rest := []) dX8_spells_39 rfl lm_8_175 rfl rfl rfl sh_45 rfl hq39 ?_
      refine x_iconst (pc' := 43) (w := (0 : Int32)) dX8_spells_42 rfl k_ic_0 ?_
      refine x_istore_n (pc' := 44) (ls' := [.ref 45, .int x1, .int (S 46 j5), .int (0 : Int32)]) dX8_spells_43 rfl rfl rfl ?_
      exact h
    · replace h := (if_neg c24).symm.trans h
      refine x_icmp_ne_f (pc' := 27) dX8_spells_24 (by decide) rfl c24 ?_
      refine x_aload_n (pc' := 28) dX8_spells_27 rfl rfl ?_
      refine x_bipush (pc' := 30) (w := (45 : Int32)) dX8_spells_28 rfl k_bi_45 ?_
      obtain ⟨q30, hq30, h⟩ := Option.bind_eq_some_iff.mp h
      refine x_virtV (pc' := 33) (o := 45) (as := [.int (45 : Int32)]) (rest := []) dX8_spells_30 rfl lm_8_175 rfl rfl rfl sh_45 rfl hq30 ?_
      exact x_vret dX8_spells_33 rfl ((tb_dV_ok _).trans h)
  · replace h := (if_neg c8).symm.trans h
    refine x_if_ne_f (pc' := 11) dX8_spells_8 (by decide) rfl c8 ?_
    refine x_aload_n (pc' := 12) dX8_spells_11 rfl rfl ?_
    refine x_aload_n (pc' := 13) dX8_spells_12 rfl rfl ?_
    refine x_getR (pc' := 16) dX8_spells_13 rfl lf_8_15 rfl sh_45 rfl ?_
    refine x_iload_n (pc' := 17) dX8_spells_16 rfl rfl ?_
    obtain ⟨j17, hj17, h⟩ := Option.bind_eq_some_iff.mp h
    refine x_iaload (pc' := 18) (v := S 47 j17) dX8_spells_17 rfl sh_47 hj17 rfl ?_
    obtain ⟨q18, hq18, h⟩ := Option.bind_eq_some_iff.mp h
    refine x_virtV (pc' := 21) (o := 45) (as := [.int (S 47 j17)]) (rest := []) dX8_spells_18 rfl lm_8_179 rfl rfl rfl sh_45 rfl hq18 ?_
    exact x_vret dX8_spells_21 rfl ((tb_dV_ok _).trans h)
theorem MX8_spells {d : Nat} {x1 : Int32} {S : tb_St} {r : tb_St} (h : ((tb_ix x1 96).bind fun j5 => (if ¬ S 46 j5 = 0 then (if ¬ S 46 j5 = (1 : Int32) then (tb_cI d mX8_letterOf [.int (S 46 j5)] S).bind fun q36 => (tb_cV d mX8_writes [.ref 45, .int (q36.1)] (q36.2)).bind fun q39 => tb_E d mX8_spells tb_dV 44 [.ref 45, .int x1, .int (S 46 j5), .int (0 : Int32)] [] tb_S q39 else (tb_cV d mX8_writes [.ref 45, .int (45 : Int32)] S).bind fun q30 => some q30) else (tb_ix x1 96).bind fun j17 => (tb_cV d mX8_writesNumber [.ref 45, .int (S 47 j17)] S).bind fun q18 => some q18)) = some r) : tb_cV (d + 1) mX8_spells [.ref 45, .int x1] S = some r := tb_enV rfl rfl (BX8_spells_0 h)
theorem BX8_spells_44 {d : Nat} {x1 x2 x3 : Int32} {S : tb_St} {r : tb_St} (h : ((if (6 : Int32) ≤ x3 then tb_E d mX8_spells tb_dV 80 [.ref 45, .int x1, .int x2, .int x3] [] tb_S S else (tb_cI d mX8_ofOne [.int x2] S).bind fun q51 => (if q51.1 = 0 then tb_E d mX8_spells tb_dV 80 [.ref 45, .int x1, .int x2, .int x3] [] tb_S (q51.2) else (tb_ix x1 96).bind fun j65 => (tb_cI d mX8_figure [.int ((q51.2) 50 j65), .int x3] (q51.2)).bind fun q67 => (tb_cV d mX8_writes [.ref 45, .int ((48 : Int32) + (q67.1))] (q67.2)).bind fun q71 => tb_E d mX8_spells tb_dV 44 [.ref 45, .int x1, .int x2, .int (x3 + (1 : Int32))] [] tb_S q71))) = some r) : tb_E d mX8_spells tb_dV 44 [.ref 45, .int x1, .int x2, .int x3] [] tb_S S = some r := by
  refine x_iload_n (pc' := 45) dX8_spells_44 rfl rfl ?_
  refine x_bipush (pc' := 47) (w := (6 : Int32)) dX8_spells_45 rfl k_bi_6 ?_
  by_cases c47 : (6 : Int32) ≤ x3
  · replace h := (if_pos c47).symm.trans h
    refine x_icmp_ge_t (pc' := 80) dX8_spells_47 (by decide) c47 ?_
    exact h
  · replace h := (if_neg c47).symm.trans h
    refine x_icmp_ge_f (pc' := 50) dX8_spells_47 (by decide) rfl c47 ?_
    refine x_iload_n (pc' := 51) dX8_spells_50 rfl rfl ?_
    obtain ⟨q51, hq51, h⟩ := Option.bind_eq_some_iff.mp h
    refine x_statI (pc' := 54) (as := [.int x2]) (rest := []) dX8_spells_51 rfl lm_8_157 (by decide) rfl rfl rfl rfl hq51 ?_
    by_cases c54 : q51.1 = 0
    · replace h := (if_pos c54).symm.trans h
      refine x_if_eq_t (pc' := 80) dX8_spells_54 (by decide) c54 ?_
      exact h
    · replace h := (if_neg c54).symm.trans h
      refine x_if_eq_f (pc' := 57) dX8_spells_54 (by decide) rfl c54 ?_
      refine x_aload_n (pc' := 58) dX8_spells_57 rfl rfl ?_
      refine x_bipush (pc' := 60) (w := (48 : Int32)) dX8_spells_58 rfl k_bi_48 ?_
      refine x_aload_n (pc' := 61) dX8_spells_60 rfl rfl ?_
      refine x_getR (pc' := 64) dX8_spells_61 rfl lf_8_24 rfl sh_45 rfl ?_
      refine x_iload_n (pc' := 65) dX8_spells_64 rfl rfl ?_
      obtain ⟨j65, hj65, h⟩ := Option.bind_eq_some_iff.mp h
      refine x_iaload (pc' := 66) (v := (q51.2) 50 j65) dX8_spells_65 rfl sh_50 hj65 rfl ?_
      refine x_iload_n (pc' := 67) dX8_spells_66 rfl rfl ?_
      obtain ⟨q67, hq67, h⟩ := Option.bind_eq_some_iff.mp h
      refine x_statI (pc' := 70) (as := [.int ((q51.2) 50 j65), .int x3]) (rest := [.int (48 : Int32), .ref 45]) dX8_spells_67 rfl lm_8_85 (by decide) rfl rfl rfl rfl hq67 ?_
      refine x_iadd (pc' := 71) dX8_spells_70 rfl ?_
      obtain ⟨q71, hq71, h⟩ := Option.bind_eq_some_iff.mp h
      refine x_virtV (pc' := 74) (o := 45) (as := [.int ((48 : Int32) + (q67.1))]) (rest := []) dX8_spells_71 rfl lm_8_175 rfl rfl rfl sh_45 rfl hq71 ?_
      refine x_iinc (pc' := 77) (w := (1 : Int32)) (ls' := [.ref 45, .int x1, .int x2, .int (x3 + (1 : Int32))]) dX8_spells_74 rfl rfl k_ic_1 rfl ?_
      refine x_goto (pc' := 44) dX8_spells_77 (by decide) ?_
      exact h
theorem BX8_spells_80 {d : Nat} {x1 x2 : Int32} {w3 : Value} {S : tb_St} {r : tb_St} (h : ((if ¬ x2 = (6 : Int32) then tb_E d mX8_spells tb_dV 102 [.ref 45, .int x1, .int x2, w3] [] tb_S S else (tb_cV d mX8_writes [.ref 45, .int (58 : Int32)] S).bind fun q89 => (tb_ix x1 96).bind fun j98 => (tb_cV d mX8_writesNumber [.ref 45, .int (q89 47 j98)] q89).bind fun q99 => tb_E d mX8_spells tb_dV 102 [.ref 45, .int x1, .int x2, w3] [] tb_S q99)) = some r) : tb_E d mX8_spells tb_dV 80 [.ref 45, .int x1, .int x2, w3] [] tb_S S = some r := by
  refine x_iload_n (pc' := 81) dX8_spells_80 rfl rfl ?_
  refine x_bipush (pc' := 83) (w := (6 : Int32)) dX8_spells_81 rfl k_bi_6 ?_
  by_cases c83 : ¬ x2 = (6 : Int32)
  · replace h := (if_pos c83).symm.trans h
    refine x_icmp_ne_t (pc' := 102) dX8_spells_83 (by decide) c83 ?_
    exact h
  · replace h := (if_neg c83).symm.trans h
    refine x_icmp_ne_f (pc' := 86) dX8_spells_83 (by decide) rfl c83 ?_
    refine x_aload_n (pc' := 87) dX8_spells_86 rfl rfl ?_
    refine x_bipush (pc' := 89) (w := (58 : Int32)) dX8_spells_87 rfl k_bi_58 ?_
    obtain ⟨q89, hq89, h⟩ := Option.bind_eq_some_iff.mp h
    refine x_virtV (pc' := 92) (o := 45) (as := [.int (58 : Int32)]) (rest := []) dX8_spells_89 rfl lm_8_175 rfl rfl rfl sh_45 rfl hq89 ?_
    refine x_aload_n (pc' := 93) dX8_spells_92 rfl rfl ?_
    refine x_aload_n (pc' := 94) dX8_spells_93 rfl rfl ?_
    refine x_getR (pc' := 97) dX8_spells_94 rfl lf_8_15 rfl sh_45 rfl ?_
    refine x_iload_n (pc' := 98) dX8_spells_97 rfl rfl ?_
    obtain ⟨j98, hj98, h⟩ := Option.bind_eq_some_iff.mp h
    refine x_iaload (pc' := 99) (v := q89 47 j98) dX8_spells_98 rfl sh_47 hj98 rfl ?_
    obtain ⟨q99, hq99, h⟩ := Option.bind_eq_some_iff.mp h
    refine x_virtV (pc' := 102) (o := 45) (as := [.int (q89 47 j98)]) (rest := []) dX8_spells_99 rfl lm_8_179 rfl rfl rfl sh_45 rfl hq99 ?_
    exact h
theorem BX8_spells_102 {d : Nat} {x1 x2 : Int32} {w3 : Value} {S : tb_St} {r : tb_St} (h : ((tb_cV d mX8_writes [.ref 45, .int (40 : Int32)] S).bind fun q105 => (tb_ix x1 96).bind fun j114 => (tb_cV d mX8_spells [.ref 45, .int (q105 48 j114)] q105).bind fun q115 => (tb_cI d mX8_ofTwo [.int x2] q115).bind fun q119 => (if q119.1 = 0 then (tb_cV d mX8_writes [.ref 45, .int (41 : Int32)] (q119.2)).bind fun q144 => some q144 else (tb_cV d mX8_writes [.ref 45, .int (44 : Int32)] (q119.2)).bind fun q128 => (tb_ix x1 96).bind fun j137 => (tb_cV d mX8_spells [.ref 45, .int (q128 49 j137)] q128).bind fun q138 => (tb_cV d mX8_writes [.ref 45, .int (41 : Int32)] q138).bind fun q144 => some q144)) = some r) : tb_E d mX8_spells tb_dV 102 [.ref 45, .int x1, .int x2, w3] [] tb_S S = some r := by
  refine x_aload_n (pc' := 103) dX8_spells_102 rfl rfl ?_
  refine x_bipush (pc' := 105) (w := (40 : Int32)) dX8_spells_103 rfl k_bi_40 ?_
  obtain ⟨q105, hq105, h⟩ := Option.bind_eq_some_iff.mp h
  refine x_virtV (pc' := 108) (o := 45) (as := [.int (40 : Int32)]) (rest := []) dX8_spells_105 rfl lm_8_175 rfl rfl rfl sh_45 rfl hq105 ?_
  refine x_aload_n (pc' := 109) dX8_spells_108 rfl rfl ?_
  refine x_aload_n (pc' := 110) dX8_spells_109 rfl rfl ?_
  refine x_getR (pc' := 113) dX8_spells_110 rfl lf_8_18 rfl sh_45 rfl ?_
  refine x_iload_n (pc' := 114) dX8_spells_113 rfl rfl ?_
  obtain ⟨j114, hj114, h⟩ := Option.bind_eq_some_iff.mp h
  refine x_iaload (pc' := 115) (v := q105 48 j114) dX8_spells_114 rfl sh_48 hj114 rfl ?_
  obtain ⟨q115, hq115, h⟩ := Option.bind_eq_some_iff.mp h
  refine x_virtV (pc' := 118) (o := 45) (as := [.int (q105 48 j114)]) (rest := []) dX8_spells_115 rfl lm_8_185 rfl rfl rfl sh_45 rfl hq115 ?_
  refine x_iload_n (pc' := 119) dX8_spells_118 rfl rfl ?_
  obtain ⟨q119, hq119, h⟩ := Option.bind_eq_some_iff.mp h
  refine x_statI (pc' := 122) (as := [.int x2]) (rest := []) dX8_spells_119 rfl lm_8_116 (by decide) rfl rfl rfl rfl hq119 ?_
  by_cases c122 : q119.1 = 0
  · replace h := (if_pos c122).symm.trans h
    refine x_if_eq_t (pc' := 141) dX8_spells_122 (by decide) c122 ?_
    refine x_aload_n (pc' := 142) dX8_spells_141 rfl rfl ?_
    refine x_bipush (pc' := 144) (w := (41 : Int32)) dX8_spells_142 rfl k_bi_41 ?_
    obtain ⟨q144, hq144, h⟩ := Option.bind_eq_some_iff.mp h
    refine x_virtV (pc' := 147) (o := 45) (as := [.int (41 : Int32)]) (rest := []) dX8_spells_144 rfl lm_8_175 rfl rfl rfl sh_45 rfl hq144 ?_
    exact x_vret dX8_spells_147 rfl ((tb_dV_ok _).trans h)
  · replace h := (if_neg c122).symm.trans h
    refine x_if_eq_f (pc' := 125) dX8_spells_122 (by decide) rfl c122 ?_
    refine x_aload_n (pc' := 126) dX8_spells_125 rfl rfl ?_
    refine x_bipush (pc' := 128) (w := (44 : Int32)) dX8_spells_126 rfl k_bi_44 ?_
    obtain ⟨q128, hq128, h⟩ := Option.bind_eq_some_iff.mp h
    refine x_virtV (pc' := 131) (o := 45) (as := [.int (44 : Int32)]) (rest := []) dX8_spells_128 rfl lm_8_175 rfl rfl rfl sh_45 rfl hq128 ?_
    refine x_aload_n (pc' := 132) dX8_spells_131 rfl rfl ?_
    refine x_aload_n (pc' := 133) dX8_spells_132 rfl rfl ?_
    refine x_getR (pc' := 136) dX8_spells_133 rfl lf_8_21 rfl sh_45 rfl ?_
    refine x_iload_n (pc' := 137) dX8_spells_136 rfl rfl ?_
    obtain ⟨j137, hj137, h⟩ := Option.bind_eq_some_iff.mp h
    refine x_iaload (pc' := 138) (v := q128 49 j137) dX8_spells_137 rfl sh_49 hj137 rfl ?_
    obtain ⟨q138, hq138, h⟩ := Option.bind_eq_some_iff.mp h
    refine x_virtV (pc' := 141) (o := 45) (as := [.int (q128 49 j137)]) (rest := []) dX8_spells_138 rfl lm_8_185 rfl rfl rfl sh_45 rfl hq138 ?_
    refine x_aload_n (pc' := 142) dX8_spells_141 rfl rfl ?_
    refine x_bipush (pc' := 144) (w := (41 : Int32)) dX8_spells_142 rfl k_bi_41 ?_
    obtain ⟨q144, hq144, h⟩ := Option.bind_eq_some_iff.mp h
    refine x_virtV (pc' := 147) (o := 45) (as := [.int (41 : Int32)]) (rest := []) dX8_spells_144 rfl lm_8_175 rfl rfl rfl sh_45 rfl hq144 ?_
    exact x_vret dX8_spells_147 rfl ((tb_dV_ok _).trans h)
/-! X2_write (36,) -/
theorem BX2_write_0 {d : Nat} {x1 : Int32} {S : tb_St} {r : Int32 × tb_St} (h : ((tb_cV d mX2_writeTerm [.ref 36, .int x1, .int (0 : Int32)] (tb_up S 36 2 (0 : Int32))).bind fun q8 => some (q8 36 2, q8)) = some r) : tb_E d mX2_write tb_dI 0 [.ref 36, .int x1] [] tb_S S = some r := by
  refine x_aload_n (pc' := 1) dX2_write_0 rfl rfl ?_
  refine x_iconst (pc' := 2) (w := (0 : Int32)) dX2_write_1 rfl k_ic_0 ?_
  refine x_putI (pc' := 5) dX2_write_2 rfl lf_2_15 (Or.inl rfl) sh_36 ?_
  refine x_aload_n (pc' := 6) dX2_write_5 rfl rfl ?_
  refine x_iload_n (pc' := 7) dX2_write_6 rfl rfl ?_
  refine x_iconst (pc' := 8) (w := (0 : Int32)) dX2_write_7 rfl k_ic_0 ?_
  obtain ⟨q8, hq8, h⟩ := Option.bind_eq_some_iff.mp h
  refine x_virtV (pc' := 11) (o := 36) (as := [.int x1, .int (0 : Int32)]) (rest := []) dX2_write_8 rfl lm_2_23 rfl rfl rfl sh_36 rfl hq8 ?_
  refine x_aload_n (pc' := 12) dX2_write_11 rfl rfl ?_
  refine x_getI (pc' := 15) (v := q8 36 2) dX2_write_12 rfl lf_2_15 rfl sh_36 rfl ?_
  exact x_iret dX2_write_15 rfl ((tb_dI_ok _ _).trans h)
theorem MX2_write {d : Nat} {x1 : Int32} {S : tb_St} {r : Int32 × tb_St} (h : ((tb_cV d mX2_writeTerm [.ref 36, .int x1, .int (0 : Int32)] (tb_up S 36 2 (0 : Int32))).bind fun q8 => some (q8 36 2, q8)) = some r) : tb_cI (d + 1) mX2_write [.ref 36, .int x1] S = some r := tb_enI rfl rfl (BX2_write_0 h)
/-! X7_kindAbove () -/
theorem BX7_kindAbove_0 {d : Nat} {x0 : Int32} {S : tb_St} {r : Int32 × tb_St} (h : ((if ¬ x0 = (6 : Int32) then (if ¬ x0 = (7 : Int32) then some ((-1 : Int32), S) else some ((3 : Int32), S)) else some ((2 : Int32), S))) = some r) : tb_E d mX7_kindAbove tb_dI 0 [.int x0] [] tb_S S = some r := by
  refine x_iload_n (pc' := 1) dX7_kindAbove_0 rfl rfl ?_
  refine x_bipush (pc' := 3) (w := (6 : Int32)) dX7_kindAbove_1 rfl k_bi_6 ?_
  by_cases c3 : ¬ x0 = (6 : Int32)
  · replace h := (if_pos c3).symm.trans h
    refine x_icmp_ne_t (pc' := 10) dX7_kindAbove_3 (by decide) c3 ?_
    refine x_iload_n (pc' := 11) dX7_kindAbove_10 rfl rfl ?_
    refine x_bipush (pc' := 13) (w := (7 : Int32)) dX7_kindAbove_11 rfl k_bi_7 ?_
    by_cases c13 : ¬ x0 = (7 : Int32)
    · replace h := (if_pos c13).symm.trans h
      refine x_icmp_ne_t (pc' := 20) dX7_kindAbove_13 (by decide) c13 ?_
      refine x_iconst (pc' := 21) (w := (-1 : Int32)) dX7_kindAbove_20 rfl k_ic_m1 ?_
      exact x_iret dX7_kindAbove_21 rfl ((tb_dI_ok _ _).trans h)
    · replace h := (if_neg c13).symm.trans h
      refine x_icmp_ne_f (pc' := 16) dX7_kindAbove_13 (by decide) rfl c13 ?_
      refine x_iconst (pc' := 17) (w := (3 : Int32)) dX7_kindAbove_16 rfl k_ic_3 ?_
      refine x_goto (pc' := 21) dX7_kindAbove_17 (by decide) ?_
      exact x_iret dX7_kindAbove_21 rfl ((tb_dI_ok _ _).trans h)
  · replace h := (if_neg c3).symm.trans h
    refine x_icmp_ne_f (pc' := 6) dX7_kindAbove_3 (by decide) rfl c3 ?_
    refine x_iconst (pc' := 7) (w := (2 : Int32)) dX7_kindAbove_6 rfl k_ic_2 ?_
    refine x_goto (pc' := 21) dX7_kindAbove_7 (by decide) ?_
    exact x_iret dX7_kindAbove_21 rfl ((tb_dI_ok _ _).trans h)
theorem MX7_kindAbove {d : Nat} {x0 : Int32} {S : tb_St} {r : Int32 × tb_St} (h : ((if ¬ x0 = (6 : Int32) then (if ¬ x0 = (7 : Int32) then some ((-1 : Int32), S) else some ((3 : Int32), S)) else some ((2 : Int32), S))) = some r) : tb_cI (d + 1) mX7_kindAbove [.int x0] S = some r := tb_enI rfl rfl (BX7_kindAbove_0 h)
/-! X8_term (45,) -/
theorem BX8_term_0 {d : Nat} {x1 : Int32} {w2 w3 w4 w5 w6 : Value} {S : tb_St} {r : Int32 × tb_St} (h : ((tb_cI d mX8_isFigure [.ref 45] S).bind fun q1 => (if q1.1 = 0 then (tb_cI d mX8_next [.ref 45] (q1.2)).bind fun q38 => (if ¬ q38.1 = (45 : Int32) then (tb_cI d mX8_next [.ref 45] (q38.2)).bind fun q71 => (if ¬ q71.1 = (35 : Int32) then (tb_cI d mX8_next [.ref 45] (q71.2)).bind fun q157 => (tb_cI d mX8_kindOf [.int (q157.1)] (q157.2)).bind fun q160 => (if 0 ≤ q160.1 then (tb_ix ((q160.2) 45 24) 9).bind fun j197 => (tb_cI d mX8_ofOne [.int (q160.1)] (tb_up (tb_up (tb_up (q160.2) 45 24 (((q160.2) 45 24) + (1 : Int32))) 60 j197 ((q160.2) 45 23)) 45 23 (((q160.2) 45 23) + (1 : Int32)))).bind fun q209 => (if q209.1 = 0 then tb_E d mX8_term tb_dI 224 [.ref 45, .int x1, .int (q160.1), w3, w4, w5, w6] [.int (-5 : Int32)] tb_S (q209.2) else (tb_cI d mX8_boxThere [.ref 45] (q209.2)).bind fun q216 => tb_E d mX8_term tb_dI 224 [.ref 45, .int x1, .int (q160.1), w3, w4, w5, w6] [.int (q216.1)] tb_S (q216.2)) else some ((-1 : Int32), tb_up (q160.2) 45 28 ((q160.2) 45 23))) else (tb_ix ((q71.2) 45 24) 9).bind fun j98 => (tb_cI d mX8_number [.ref 45] (tb_up (tb_up (tb_up (q71.2) 45 24 (((q71.2) 45 24) + (1 : Int32))) 60 j98 ((q71.2) 45 23)) 45 23 (((q71.2) 45 23) + (1 : Int32)))).bind fun q115 => (if 0 ≤ q115.1 then (tb_cI d mX8_isTerm [.ref 45, .int (q115.1)] (q115.2)).bind fun q127 => (if ¬ q127.1 = 0 then (tb_cI d mX8_ends [.ref 45, .int (q115.1)] (tb_up (q127.2) 45 24 (((q127.2) 45 24) - (1 : Int32)))).bind fun q152 => some (q152.1, q152.2) else some ((-1 : Int32), tb_up (q127.2) 45 28 (((q71.2) 45 23) + (1 : Int32)))) else some ((-1 : Int32), q115.2))) else (tb_cI d mX8_makes [.ref 45, .int (1 : Int32), .int (-5 : Int32), .int (-5 : Int32), .int (-5 : Int32), .int (-5 : Int32)] (tb_up (q38.2) 45 23 (((q38.2) 45 23) + (1 : Int32)))).bind fun q66 => some (q66.1, q66.2)) else (tb_cI d mX8_number [.ref 45] (q1.2)).bind fun q9 => (tb_cI d mX8_ends [.ref 45, .int (q9.1)] (q9.2)).bind fun q12 => (if 0 ≤ q12.1 then (tb_cI d mX8_makes [.ref 45, .int (0 : Int32), .int (q12.1), .int (-5 : Int32), .int (-5 : Int32), .int (-5 : Int32)] (q12.2)).bind fun q33 => some (q33.1, q33.2) else some ((-1 : Int32), q12.2)))) = some r) : tb_E d mX8_term tb_dI 0 [.ref 45, .int x1, w2, w3, w4, w5, w6] [] tb_S S = some r := by
  refine x_aload_n (pc' := 1) dX8_term_0 rfl rfl ?_
  obtain ⟨q1, hq1, h⟩ := Option.bind_eq_some_iff.mp h
  refine x_virtI (pc' := 4) (o := 45) (as := []) (rest := []) dX8_term_1 rfl lm_8_135 rfl rfl rfl sh_45 rfl hq1 ?_
  by_cases c4 : q1.1 = 0
  · replace h := (if_pos c4).symm.trans h
    refine x_if_eq_t (pc' := 37) dX8_term_4 (by decide) c4 ?_
    refine x_aload_n (pc' := 38) dX8_term_37 rfl rfl ?_
    obtain ⟨q38, hq38, h⟩ := Option.bind_eq_some_iff.mp h
    refine x_virtI (pc' := 41) (o := 45) (as := []) (rest := []) dX8_term_38 rfl lm_8_125 rfl rfl rfl sh_45 rfl hq38 ?_
    refine x_bipush (pc' := 43) (w := (45 : Int32)) dX8_term_41 rfl k_bi_45 ?_
    by_cases c43 : ¬ q38.1 = (45 : Int32)
    · replace h := (if_pos c43).symm.trans h
      refine x_icmp_ne_t (pc' := 70) dX8_term_43 (by decide) c43 ?_
      refine x_aload_n (pc' := 71) dX8_term_70 rfl rfl ?_
      obtain ⟨q71, hq71, h⟩ := Option.bind_eq_some_iff.mp h
      refine x_virtI (pc' := 74) (o := 45) (as := []) (rest := []) dX8_term_71 rfl lm_8_125 rfl rfl rfl sh_45 rfl hq71 ?_
      refine x_bipush (pc' := 76) (w := (35 : Int32)) dX8_term_74 rfl k_bi_35 ?_
      by_cases c76 : ¬ q71.1 = (35 : Int32)
      · replace h := (if_pos c76).symm.trans h
        refine x_icmp_ne_t (pc' := 156) dX8_term_76 (by decide) c76 ?_
        refine x_aload_n (pc' := 157) dX8_term_156 rfl rfl ?_
        obtain ⟨q157, hq157, h⟩ := Option.bind_eq_some_iff.mp h
        refine x_virtI (pc' := 160) (o := 45) (as := []) (rest := []) dX8_term_157 rfl lm_8_125 rfl rfl rfl sh_45 rfl hq157 ?_
        obtain ⟨q160, hq160, h⟩ := Option.bind_eq_some_iff.mp h
        refine x_statI (pc' := 163) (as := [.int (q157.1)]) (rest := []) dX8_term_160 rfl lm_8_154 (by decide) rfl rfl rfl rfl hq160 ?_
        refine x_istore_n (pc' := 164) (ls' := [.ref 45, .int x1, .int (q160.1), w3, w4, w5, w6]) dX8_term_163 rfl rfl rfl ?_
        refine x_iload_n (pc' := 165) dX8_term_164 rfl rfl ?_
        by_cases c165 : 0 ≤ q160.1
        · replace h := (if_pos c165).symm.trans h
          refine x_if_ge_t (pc' := 178) dX8_term_165 (by decide) c165 ?_
          refine x_aload_n (pc' := 179) dX8_term_178 rfl rfl ?_
          refine x_getR (pc' := 182) dX8_term_179 rfl lf_8_59 rfl sh_45 rfl ?_
          refine x_aload_n (pc' := 183) dX8_term_182 rfl rfl ?_
          refine x_dup (pc' := 184) dX8_term_183 rfl rfl ?_
          refine x_getI (pc' := 187) (v := (q160.2) 45 24) dX8_term_184 rfl lf_8_151 rfl sh_45 rfl ?_
          refine x_dup_x1 (pc' := 188) dX8_term_187 rfl rfl ?_
          refine x_iconst (pc' := 189) (w := (1 : Int32)) dX8_term_188 rfl k_ic_1 ?_
          refine x_iadd (pc' := 190) dX8_term_189 rfl ?_
          refine x_putI (pc' := 193) dX8_term_190 rfl lf_8_151 (Or.inl rfl) sh_45 ?_
          refine x_aload_n (pc' := 194) dX8_term_193 rfl rfl ?_
          refine x_getI (pc' := 197) (v := (q160.2) 45 23) dX8_term_194 rfl lf_8_122 rfl sh_45 rfl ?_
          obtain ⟨j197, hj197, h⟩ := Option.bind_eq_some_iff.mp h
          refine x_iastore (pc' := 198) dX8_term_197 rfl sh_60 hj197 ?_
          refine x_aload_n (pc' := 199) dX8_term_198 rfl rfl ?_
          refine x_dup (pc' := 200) dX8_term_199 rfl rfl ?_
          refine x_getI (pc' := 203) (v := (q160.2) 45 23) dX8_term_200 rfl lf_8_122 rfl sh_45 rfl ?_
          refine x_iconst (pc' := 204) (w := (1 : Int32)) dX8_term_203 rfl k_ic_1 ?_
          refine x_iadd (pc' := 205) dX8_term_204 rfl ?_
          refine x_putI (pc' := 208) dX8_term_205 rfl lf_8_122 (Or.inl rfl) sh_45 ?_
          refine x_iload_n (pc' := 209) dX8_term_208 rfl rfl ?_
          obtain ⟨q209, hq209, h⟩ := Option.bind_eq_some_iff.mp h
          refine x_statI (pc' := 212) (as := [.int (q160.1)]) (rest := []) dX8_term_209 rfl lm_8_157 (by decide) rfl rfl rfl rfl hq209 ?_
          by_cases c212 : q209.1 = 0
          · replace h := (if_pos c212).symm.trans h
            refine x_if_eq_t (pc' := 222) dX8_term_212 (by decide) c212 ?_
            refine x_bipush (pc' := 224) (w := (-5 : Int32)) dX8_term_222 rfl k_bi_m5 ?_
            exact h
          · replace h := (if_neg c212).symm.trans h
            refine x_if_eq_f (pc' := 215) dX8_term_212 (by decide) rfl c212 ?_
            refine x_aload_n (pc' := 216) dX8_term_215 rfl rfl ?_
            obtain ⟨q216, hq216, h⟩ := Option.bind_eq_some_iff.mp h
            refine x_virtI (pc' := 219) (o := 45) (as := []) (rest := []) dX8_term_216 rfl lm_8_160 rfl rfl rfl sh_45 rfl hq216 ?_
            refine x_goto (pc' := 224) dX8_term_219 (by decide) ?_
            exact h
        · replace h := (if_neg c165).symm.trans h
          refine x_if_ge_f (pc' := 168) dX8_term_165 (by decide) rfl c165 ?_
          refine x_aload_n (pc' := 169) dX8_term_168 rfl rfl ?_
          refine x_aload_n (pc' := 170) dX8_term_169 rfl rfl ?_
          refine x_getI (pc' := 173) (v := (q160.2) 45 23) dX8_term_170 rfl lf_8_122 rfl sh_45 rfl ?_
          refine x_putI (pc' := 176) dX8_term_173 rfl lf_8_132 (Or.inl rfl) sh_45 ?_
          refine x_iconst (pc' := 177) (w := (-1 : Int32)) dX8_term_176 rfl k_ic_m1 ?_
          exact x_iret dX8_term_177 rfl ((tb_dI_ok _ _).trans h)
      · replace h := (if_neg c76).symm.trans h
        refine x_icmp_ne_f (pc' := 79) dX8_term_76 (by decide) rfl c76 ?_
        refine x_aload_n (pc' := 80) dX8_term_79 rfl rfl ?_
        refine x_getR (pc' := 83) dX8_term_80 rfl lf_8_59 rfl sh_45 rfl ?_
        refine x_aload_n (pc' := 84) dX8_term_83 rfl rfl ?_
        refine x_dup (pc' := 85) dX8_term_84 rfl rfl ?_
        refine x_getI (pc' := 88) (v := (q71.2) 45 24) dX8_term_85 rfl lf_8_151 rfl sh_45 rfl ?_
        refine x_dup_x1 (pc' := 89) dX8_term_88 rfl rfl ?_
        refine x_iconst (pc' := 90) (w := (1 : Int32)) dX8_term_89 rfl k_ic_1 ?_
        refine x_iadd (pc' := 91) dX8_term_90 rfl ?_
        refine x_putI (pc' := 94) dX8_term_91 rfl lf_8_151 (Or.inl rfl) sh_45 ?_
        refine x_aload_n (pc' := 95) dX8_term_94 rfl rfl ?_
        refine x_getI (pc' := 98) (v := (q71.2) 45 23) dX8_term_95 rfl lf_8_122 rfl sh_45 rfl ?_
        obtain ⟨j98, hj98, h⟩ := Option.bind_eq_some_iff.mp h
        refine x_iastore (pc' := 99) dX8_term_98 rfl sh_60 hj98 ?_
        refine x_aload_n (pc' := 100) dX8_term_99 rfl rfl ?_
        refine x_dup (pc' := 101) dX8_term_100 rfl rfl ?_
        refine x_getI (pc' := 104) (v := (q71.2) 45 23) dX8_term_101 rfl lf_8_122 rfl sh_45 rfl ?_
        refine x_iconst (pc' := 105) (w := (1 : Int32)) dX8_term_104 rfl k_ic_1 ?_
        refine x_iadd (pc' := 106) dX8_term_105 rfl ?_
        refine x_putI (pc' := 109) dX8_term_106 rfl lf_8_122 (Or.inl rfl) sh_45 ?_
        refine x_aload_n (pc' := 110) dX8_term_109 rfl rfl ?_
        refine x_getI (pc' := 113) (v := ((q71.2) 45 23) + (1 : Int32)) dX8_term_110 rfl lf_8_122 rfl sh_45 rfl ?_
        refine x_istore_n (pc' := 114) (ls' := [.ref 45, .int x1, .int (((q71.2) 45 23) + (1 : Int32)), w3, w4, w5, w6]) dX8_term_113 rfl rfl rfl ?_
        refine x_aload_n (pc' := 115) dX8_term_114 rfl rfl ?_
        obtain ⟨q115, hq115, h⟩ := Option.bind_eq_some_iff.mp h
        refine x_virtI (pc' := 118) (o := 45) (as := []) (rest := []) dX8_term_115 rfl lm_8_142 rfl rfl rfl sh_45 rfl hq115 ?_
        refine x_istore_n (pc' := 119) (ls' := [.ref 45, .int x1, .int (((q71.2) 45 23) + (1 : Int32)), .int (q115.1), w4, w5, w6]) dX8_term_118 rfl rfl rfl ?_
        refine x_iload_n (pc' := 120) dX8_term_119 rfl rfl ?_
        by_cases c120 : 0 ≤ q115.1
        · replace h := (if_pos c120).symm.trans h
          refine x_if_ge_t (pc' := 125) dX8_term_120 (by decide) c120 ?_
          refine x_aload_n (pc' := 126) dX8_term_125 rfl rfl ?_
          refine x_iload_n (pc' := 127) dX8_term_126 rfl rfl ?_
          obtain ⟨q127, hq127, h⟩ := Option.bind_eq_some_iff.mp h
          refine x_virtI (pc' := 130) (o := 45) (as := [.int (q115.1)]) (rest := []) dX8_term_127 rfl lm_8_109 rfl rfl rfl sh_45 rfl hq127 ?_
          by_cases c130 : ¬ q127.1 = 0
          · replace h := (if_pos c130).symm.trans h
            refine x_if_ne_t (pc' := 140) dX8_term_130 (by decide) c130 ?_
            refine x_aload_n (pc' := 141) dX8_term_140 rfl rfl ?_
            refine x_dup (pc' := 142) dX8_term_141 rfl rfl ?_
            refine x_getI (pc' := 145) (v := (q127.2) 45 24) dX8_term_142 rfl lf_8_151 rfl sh_45 rfl ?_
            refine x_iconst (pc' := 146) (w := (1 : Int32)) dX8_term_145 rfl k_ic_1 ?_
            refine x_isub (pc' := 147) dX8_term_146 rfl ?_
            refine x_putI (pc' := 150) dX8_term_147 rfl lf_8_151 (Or.inl rfl) sh_45 ?_
            refine x_aload_n (pc' := 151) dX8_term_150 rfl rfl ?_
            refine x_iload_n (pc' := 152) dX8_term_151 rfl rfl ?_
            obtain ⟨q152, hq152, h⟩ := Option.bind_eq_some_iff.mp h
            refine x_virtI (pc' := 155) (o := 45) (as := [.int (q115.1)]) (rest := []) dX8_term_152 rfl lm_8_145 rfl rfl rfl sh_45 rfl hq152 ?_
            exact x_iret dX8_term_155 rfl ((tb_dI_ok _ _).trans h)
          · replace h := (if_neg c130).symm.trans h
            refine x_if_ne_f (pc' := 133) dX8_term_130 (by decide) rfl c130 ?_
            refine x_aload_n (pc' := 134) dX8_term_133 rfl rfl ?_
            refine x_iload_n (pc' := 135) dX8_term_134 rfl rfl ?_
            refine x_putI (pc' := 138) dX8_term_135 rfl lf_8_132 (Or.inl rfl) sh_45 ?_
            refine x_iconst (pc' := 139) (w := (-1 : Int32)) dX8_term_138 rfl k_ic_m1 ?_
            exact x_iret dX8_term_139 rfl ((tb_dI_ok _ _).trans h)
        · replace h := (if_neg c120).symm.trans h
          refine x_if_ge_f (pc' := 123) dX8_term_120 (by decide) rfl c120 ?_
          refine x_iconst (pc' := 124) (w := (-1 : Int32)) dX8_term_123 rfl k_ic_m1 ?_
          exact x_iret dX8_term_124 rfl ((tb_dI_ok _ _).trans h)
    · replace h := (if_neg c43).symm.trans h
      refine x_icmp_ne_f (pc' := 46) dX8_term_43 (by decide) rfl c43 ?_
      refine x_aload_n (pc' := 47) dX8_term_46 rfl rfl ?_
      refine x_dup (pc' := 48) dX8_term_47 rfl rfl ?_
      refine x_getI (pc' := 51) (v := (q38.2) 45 23) dX8_term_48 rfl lf_8_122 rfl sh_45 rfl ?_
      refine x_iconst (pc' := 52) (w := (1 : Int32)) dX8_term_51 rfl k_ic_1 ?_
      refine x_iadd (pc' := 53) dX8_term_52 rfl ?_
      refine x_putI (pc' := 56) dX8_term_53 rfl lf_8_122 (Or.inl rfl) sh_45 ?_
      refine x_aload_n (pc' := 57) dX8_term_56 rfl rfl ?_
      refine x_iconst (pc' := 58) (w := (1 : Int32)) dX8_term_57 rfl k_ic_1 ?_
      refine x_bipush (pc' := 60) (w := (-5 : Int32)) dX8_term_58 rfl k_bi_m5 ?_
      refine x_bipush (pc' := 62) (w := (-5 : Int32)) dX8_term_60 rfl k_bi_m5 ?_
      refine x_bipush (pc' := 64) (w := (-5 : Int32)) dX8_term_62 rfl k_bi_m5 ?_
      refine x_bipush (pc' := 66) (w := (-5 : Int32)) dX8_term_64 rfl k_bi_m5 ?_
      obtain ⟨q66, hq66, h⟩ := Option.bind_eq_some_iff.mp h
      refine x_virtI (pc' := 69) (o := 45) (as := [.int (1 : Int32), .int (-5 : Int32), .int (-5 : Int32), .int (-5 : Int32), .int (-5 : Int32)]) (rest := []) dX8_term_66 rfl lm_8_148 rfl rfl rfl sh_45 rfl hq66 ?_
      exact x_iret dX8_term_69 rfl ((tb_dI_ok _ _).trans h)
  · replace h := (if_neg c4).symm.trans h
    refine x_if_eq_f (pc' := 7) dX8_term_4 (by decide) rfl c4 ?_
    refine x_aload_n (pc' := 8) dX8_term_7 rfl rfl ?_
    refine x_aload_n (pc' := 9) dX8_term_8 rfl rfl ?_
    obtain ⟨q9, hq9, h⟩ := Option.bind_eq_some_iff.mp h
    refine x_virtI (pc' := 12) (o := 45) (as := []) (rest := [.ref 45]) dX8_term_9 rfl lm_8_142 rfl rfl rfl sh_45 rfl hq9 ?_
    obtain ⟨q12, hq12, h⟩ := Option.bind_eq_some_iff.mp h
    refine x_virtI (pc' := 15) (o := 45) (as := [.int (q9.1)]) (rest := []) dX8_term_12 rfl lm_8_145 rfl rfl rfl sh_45 rfl hq12 ?_
    refine x_istore_n (pc' := 16) (ls' := [.ref 45, .int x1, .int (q12.1), w3, w4, w5, w6]) dX8_term_15 rfl rfl rfl ?_
    refine x_iload_n (pc' := 17) dX8_term_16 rfl rfl ?_
    by_cases c17 : 0 ≤ q12.1
    · replace h := (if_pos c17).symm.trans h
      refine x_if_ge_t (pc' := 24) dX8_term_17 (by decide) c17 ?_
      refine x_aload_n (pc' := 25) dX8_term_24 rfl rfl ?_
      refine x_iconst (pc' := 26) (w := (0 : Int32)) dX8_term_25 rfl k_ic_0 ?_
      refine x_iload_n (pc' := 27) dX8_term_26 rfl rfl ?_
      refine x_bipush (pc' := 29) (w := (-5 : Int32)) dX8_term_27 rfl k_bi_m5 ?_
      refine x_bipush (pc' := 31) (w := (-5 : Int32)) dX8_term_29 rfl k_bi_m5 ?_
      refine x_bipush (pc' := 33) (w := (-5 : Int32)) dX8_term_31 rfl k_bi_m5 ?_
      obtain ⟨q33, hq33, h⟩ := Option.bind_eq_some_iff.mp h
      refine x_virtI (pc' := 36) (o := 45) (as := [.int (0 : Int32), .int (q12.1), .int (-5 : Int32), .int (-5 : Int32), .int (-5 : Int32)]) (rest := []) dX8_term_33 rfl lm_8_148 rfl rfl rfl sh_45 rfl hq33 ?_
      exact x_iret dX8_term_36 rfl ((tb_dI_ok _ _).trans h)
    · replace h := (if_neg c17).symm.trans h
      refine x_if_ge_f (pc' := 20) dX8_term_17 (by decide) rfl c17 ?_
      refine x_iconst (pc' := 21) (w := (-1 : Int32)) dX8_term_20 rfl k_ic_m1 ?_
      refine x_goto (pc' := 36) dX8_term_21 (by decide) ?_
      exact x_iret dX8_term_36 rfl ((tb_dI_ok _ _).trans h)
theorem MX8_term {d : Nat} {x1 : Int32} {S : tb_St} {r : Int32 × tb_St} (h : ((tb_cI d mX8_isFigure [.ref 45] S).bind fun q1 => (if q1.1 = 0 then (tb_cI d mX8_next [.ref 45] (q1.2)).bind fun q38 => (if ¬ q38.1 = (45 : Int32) then (tb_cI d mX8_next [.ref 45] (q38.2)).bind fun q71 => (if ¬ q71.1 = (35 : Int32) then (tb_cI d mX8_next [.ref 45] (q71.2)).bind fun q157 => (tb_cI d mX8_kindOf [.int (q157.1)] (q157.2)).bind fun q160 => (if 0 ≤ q160.1 then (tb_ix ((q160.2) 45 24) 9).bind fun j197 => (tb_cI d mX8_ofOne [.int (q160.1)] (tb_up (tb_up (tb_up (q160.2) 45 24 (((q160.2) 45 24) + (1 : Int32))) 60 j197 ((q160.2) 45 23)) 45 23 (((q160.2) 45 23) + (1 : Int32)))).bind fun q209 => (if q209.1 = 0 then tb_E d mX8_term tb_dI 224 [.ref 45, .int x1, .int (q160.1), tb_jk, tb_jk, tb_jk, tb_jk] [.int (-5 : Int32)] tb_S (q209.2) else (tb_cI d mX8_boxThere [.ref 45] (q209.2)).bind fun q216 => tb_E d mX8_term tb_dI 224 [.ref 45, .int x1, .int (q160.1), tb_jk, tb_jk, tb_jk, tb_jk] [.int (q216.1)] tb_S (q216.2)) else some ((-1 : Int32), tb_up (q160.2) 45 28 ((q160.2) 45 23))) else (tb_ix ((q71.2) 45 24) 9).bind fun j98 => (tb_cI d mX8_number [.ref 45] (tb_up (tb_up (tb_up (q71.2) 45 24 (((q71.2) 45 24) + (1 : Int32))) 60 j98 ((q71.2) 45 23)) 45 23 (((q71.2) 45 23) + (1 : Int32)))).bind fun q115 => (if 0 ≤ q115.1 then (tb_cI d mX8_isTerm [.ref 45, .int (q115.1)] (q115.2)).bind fun q127 => (if ¬ q127.1 = 0 then (tb_cI d mX8_ends [.ref 45, .int (q115.1)] (tb_up (q127.2) 45 24 (((q127.2) 45 24) - (1 : Int32)))).bind fun q152 => some (q152.1, q152.2) else some ((-1 : Int32), tb_up (q127.2) 45 28 (((q71.2) 45 23) + (1 : Int32)))) else some ((-1 : Int32), q115.2))) else (tb_cI d mX8_makes [.ref 45, .int (1 : Int32), .int (-5 : Int32), .int (-5 : Int32), .int (-5 : Int32), .int (-5 : Int32)] (tb_up (q38.2) 45 23 (((q38.2) 45 23) + (1 : Int32)))).bind fun q66 => some (q66.1, q66.2)) else (tb_cI d mX8_number [.ref 45] (q1.2)).bind fun q9 => (tb_cI d mX8_ends [.ref 45, .int (q9.1)] (q9.2)).bind fun q12 => (if 0 ≤ q12.1 then (tb_cI d mX8_makes [.ref 45, .int (0 : Int32), .int (q12.1), .int (-5 : Int32), .int (-5 : Int32), .int (-5 : Int32)] (q12.2)).bind fun q33 => some (q33.1, q33.2) else some ((-1 : Int32), q12.2)))) = some r) : tb_cI (d + 1) mX8_term [.ref 45, .int x1] S = some r := tb_enI rfl rfl (BX8_term_0 h)
theorem BX8_term_224 {d : Nat} {x1 x2 s0 : Int32} {w3 w4 w5 w6 : Value} {S : tb_St} {r : Int32 × tb_St} (h : ((if ¬ s0 = (-1 : Int32) then (if ¬ x2 = (6 : Int32) then tb_E d mX8_term tb_dI 270 [.ref 45, .int x1, .int x2, .int s0, .int (-5 : Int32), w5, w6] [] tb_S S else (tb_cI d mX8_is [.ref 45, .int (58 : Int32)] S).bind fun q245 => (if ¬ q245.1 = 0 then (tb_cI d mX8_number [.ref 45] (q245.2)).bind fun q255 => (tb_cI d mX8_ends [.ref 45, .int (q255.1)] (q255.2)).bind fun q258 => (if 0 ≤ q258.1 then tb_E d mX8_term tb_dI 270 [.ref 45, .int x1, .int x2, .int s0, .int (q258.1), w5, w6] [] tb_S (q258.2) else some ((-1 : Int32), q258.2)) else some ((-1 : Int32), q245.2))) else some ((-1 : Int32), S))) = some r) : tb_E d mX8_term tb_dI 224 [.ref 45, .int x1, .int x2, w3, w4, w5, w6] [.int s0] tb_S S = some r := by
  refine x_istore_n (pc' := 225) (ls' := [.ref 45, .int x1, .int x2, .int s0, w4, w5, w6]) dX8_term_224 rfl rfl rfl ?_
  refine x_iload_n (pc' := 226) dX8_term_225 rfl rfl ?_
  refine x_iconst (pc' := 227) (w := (-1 : Int32)) dX8_term_226 rfl k_ic_m1 ?_
  by_cases c227 : ¬ s0 = (-1 : Int32)
  · replace h := (if_pos c227).symm.trans h
    refine x_icmp_ne_t (pc' := 232) dX8_term_227 (by decide) c227 ?_
    refine x_bipush (pc' := 234) (w := (-5 : Int32)) dX8_term_232 rfl k_bi_m5 ?_
    refine x_istore (pc' := 236) (ls' := [.ref 45, .int x1, .int x2, .int s0, .int (-5 : Int32), w5, w6]) dX8_term_234 rfl rfl rfl ?_
    refine x_iload_n (pc' := 237) dX8_term_236 rfl rfl ?_
    refine x_bipush (pc' := 239) (w := (6 : Int32)) dX8_term_237 rfl k_bi_6 ?_
    by_cases c239 : ¬ x2 = (6 : Int32)
    · replace h := (if_pos c239).symm.trans h
      refine x_icmp_ne_t (pc' := 270) dX8_term_239 (by decide) c239 ?_
      exact h
    · replace h := (if_neg c239).symm.trans h
      refine x_icmp_ne_f (pc' := 242) dX8_term_239 (by decide) rfl c239 ?_
      refine x_aload_n (pc' := 243) dX8_term_242 rfl rfl ?_
      refine x_bipush (pc' := 245) (w := (58 : Int32)) dX8_term_243 rfl k_bi_58 ?_
      obtain ⟨q245, hq245, h⟩ := Option.bind_eq_some_iff.mp h
      refine x_virtI (pc' := 248) (o := 45) (as := [.int (58 : Int32)]) (rest := []) dX8_term_245 rfl lm_8_163 rfl rfl rfl sh_45 rfl hq245 ?_
      by_cases c248 : ¬ q245.1 = 0
      · replace h := (if_pos c248).symm.trans h
        refine x_if_ne_t (pc' := 253) dX8_term_248 (by decide) c248 ?_
        refine x_aload_n (pc' := 254) dX8_term_253 rfl rfl ?_
        refine x_aload_n (pc' := 255) dX8_term_254 rfl rfl ?_
        obtain ⟨q255, hq255, h⟩ := Option.bind_eq_some_iff.mp h
        refine x_virtI (pc' := 258) (o := 45) (as := []) (rest := [.ref 45]) dX8_term_255 rfl lm_8_142 rfl rfl rfl sh_45 rfl hq255 ?_
        obtain ⟨q258, hq258, h⟩ := Option.bind_eq_some_iff.mp h
        refine x_virtI (pc' := 261) (o := 45) (as := [.int (q255.1)]) (rest := []) dX8_term_258 rfl lm_8_145 rfl rfl rfl sh_45 rfl hq258 ?_
        refine x_istore (pc' := 263) (ls' := [.ref 45, .int x1, .int x2, .int s0, .int (q258.1), w5, w6]) dX8_term_261 rfl rfl rfl ?_
        refine x_iload (pc' := 265) dX8_term_263 rfl rfl ?_
        by_cases c265 : 0 ≤ q258.1
        · replace h := (if_pos c265).symm.trans h
          refine x_if_ge_t (pc' := 270) dX8_term_265 (by decide) c265 ?_
          exact h
        · replace h := (if_neg c265).symm.trans h
          refine x_if_ge_f (pc' := 268) dX8_term_265 (by decide) rfl c265 ?_
          refine x_iconst (pc' := 269) (w := (-1 : Int32)) dX8_term_268 rfl k_ic_m1 ?_
          exact x_iret dX8_term_269 rfl ((tb_dI_ok _ _).trans h)
      · replace h := (if_neg c248).symm.trans h
        refine x_if_ne_f (pc' := 251) dX8_term_248 (by decide) rfl c248 ?_
        refine x_iconst (pc' := 252) (w := (-1 : Int32)) dX8_term_251 rfl k_ic_m1 ?_
        exact x_iret dX8_term_252 rfl ((tb_dI_ok _ _).trans h)
  · replace h := (if_neg c227).symm.trans h
    refine x_icmp_ne_f (pc' := 230) dX8_term_227 (by decide) rfl c227 ?_
    refine x_iconst (pc' := 231) (w := (-1 : Int32)) dX8_term_230 rfl k_ic_m1 ?_
    exact x_iret dX8_term_231 rfl ((tb_dI_ok _ _).trans h)
theorem BX8_term_270 {d : Nat} {x1 x2 x3 x4 : Int32} {w5 w6 : Value} {S : tb_St} {r : Int32 × tb_St} (h : ((if ¬ x1 = (6 : Int32) then tb_E d mX8_term tb_dI 295 [.ref 45, .int x1, .int x2, .int x3, .int x4, w5, w6] [] tb_S S else (tb_cI d mX8_next [.ref 45] S).bind fun q277 => (if ¬ q277.1 = (40 : Int32) then tb_E d mX8_term tb_dI 295 [.ref 45, .int x1, .int x2, .int x3, .int x4, w5, w6] [] tb_S (q277.2) else some ((-1 : Int32), tb_up (q277.2) 45 28 ((q277.2) 45 23))))) = some r) : tb_E d mX8_term tb_dI 270 [.ref 45, .int x1, .int x2, .int x3, .int x4, w5, w6] [] tb_S S = some r := by
  refine x_iload_n (pc' := 271) dX8_term_270 rfl rfl ?_
  refine x_bipush (pc' := 273) (w := (6 : Int32)) dX8_term_271 rfl k_bi_6 ?_
  by_cases c273 : ¬ x1 = (6 : Int32)
  · replace h := (if_pos c273).symm.trans h
    refine x_icmp_ne_t (pc' := 295) dX8_term_273 (by decide) c273 ?_
    exact h
  · replace h := (if_neg c273).symm.trans h
    refine x_icmp_ne_f (pc' := 276) dX8_term_273 (by decide) rfl c273 ?_
    refine x_aload_n (pc' := 277) dX8_term_276 rfl rfl ?_
    obtain ⟨q277, hq277, h⟩ := Option.bind_eq_some_iff.mp h
    refine x_virtI (pc' := 280) (o := 45) (as := []) (rest := []) dX8_term_277 rfl lm_8_125 rfl rfl rfl sh_45 rfl hq277 ?_
    refine x_bipush (pc' := 282) (w := (40 : Int32)) dX8_term_280 rfl k_bi_40 ?_
    by_cases c282 : ¬ q277.1 = (40 : Int32)
    · replace h := (if_pos c282).symm.trans h
      refine x_icmp_ne_t (pc' := 295) dX8_term_282 (by decide) c282 ?_
      exact h
    · replace h := (if_neg c282).symm.trans h
      refine x_icmp_ne_f (pc' := 285) dX8_term_282 (by decide) rfl c282 ?_
      refine x_aload_n (pc' := 286) dX8_term_285 rfl rfl ?_
      refine x_aload_n (pc' := 287) dX8_term_286 rfl rfl ?_
      refine x_getI (pc' := 290) (v := (q277.2) 45 23) dX8_term_287 rfl lf_8_122 rfl sh_45 rfl ?_
      refine x_putI (pc' := 293) dX8_term_290 rfl lf_8_132 (Or.inl rfl) sh_45 ?_
      refine x_iconst (pc' := 294) (w := (-1 : Int32)) dX8_term_293 rfl k_ic_m1 ?_
      exact x_iret dX8_term_294 rfl ((tb_dI_ok _ _).trans h)
theorem BX8_term_295 {d : Nat} {x1 x2 x3 x4 : Int32} {w5 w6 : Value} {S : tb_St} {r : Int32 × tb_St} (h : ((tb_cI d mX8_is [.ref 45, .int (40 : Int32)] S).bind fun q298 => (if ¬ q298.1 = 0 then (tb_cI d mX8_term [.ref 45, .int (x1 + (1 : Int32))] (q298.2)).bind fun q310 => (if 0 ≤ q310.1 then (tb_cI d mX8_ofTwo [.int x2] (q310.2)).bind fun q327 => (if q327.1 = 0 then tb_E d mX8_term tb_dI 360 [.ref 45, .int x1, .int x2, .int x3, .int x4, .int (q310.1), .int (-5 : Int32)] [] tb_S (q327.2) else (tb_cI d mX8_is [.ref 45, .int (44 : Int32)] (q327.2)).bind fun q336 => (if ¬ q336.1 = 0 then (tb_cI d mX8_term [.ref 45, .int (x1 + (1 : Int32))] (q336.2)).bind fun q348 => (if 0 ≤ q348.1 then tb_E d mX8_term tb_dI 360 [.ref 45, .int x1, .int x2, .int x3, .int x4, .int (q310.1), .int (q348.1)] [] tb_S (q348.2) else some ((-1 : Int32), q348.2)) else some ((-1 : Int32), q336.2))) else some ((-1 : Int32), q310.2)) else some ((-1 : Int32), q298.2))) = some r) : tb_E d mX8_term tb_dI 295 [.ref 45, .int x1, .int x2, .int x3, .int x4, w5, w6] [] tb_S S = some r := by
  refine x_aload_n (pc' := 296) dX8_term_295 rfl rfl ?_
  refine x_bipush (pc' := 298) (w := (40 : Int32)) dX8_term_296 rfl k_bi_40 ?_
  obtain ⟨q298, hq298, h⟩ := Option.bind_eq_some_iff.mp h
  refine x_virtI (pc' := 301) (o := 45) (as := [.int (40 : Int32)]) (rest := []) dX8_term_298 rfl lm_8_163 rfl rfl rfl sh_45 rfl hq298 ?_
  by_cases c301 : ¬ q298.1 = 0
  · replace h := (if_pos c301).symm.trans h
    refine x_if_ne_t (pc' := 306) dX8_term_301 (by decide) c301 ?_
    refine x_aload_n (pc' := 307) dX8_term_306 rfl rfl ?_
    refine x_iload_n (pc' := 308) dX8_term_307 rfl rfl ?_
    refine x_iconst (pc' := 309) (w := (1 : Int32)) dX8_term_308 rfl k_ic_1 ?_
    refine x_iadd (pc' := 310) dX8_term_309 rfl ?_
    obtain ⟨q310, hq310, h⟩ := Option.bind_eq_some_iff.mp h
    refine x_virtI (pc' := 313) (o := 45) (as := [.int (x1 + (1 : Int32))]) (rest := []) dX8_term_310 rfl lm_8_166 rfl rfl rfl sh_45 rfl hq310 ?_
    refine x_istore (pc' := 315) (ls' := [.ref 45, .int x1, .int x2, .int x3, .int x4, .int (q310.1), w6]) dX8_term_313 rfl rfl rfl ?_
    refine x_iload (pc' := 317) dX8_term_315 rfl rfl ?_
    by_cases c317 : 0 ≤ q310.1
    · replace h := (if_pos c317).symm.trans h
      refine x_if_ge_t (pc' := 322) dX8_term_317 (by decide) c317 ?_
      refine x_bipush (pc' := 324) (w := (-5 : Int32)) dX8_term_322 rfl k_bi_m5 ?_
      refine x_istore (pc' := 326) (ls' := [.ref 45, .int x1, .int x2, .int x3, .int x4, .int (q310.1), .int (-5 : Int32)]) dX8_term_324 rfl rfl rfl ?_
      refine x_iload_n (pc' := 327) dX8_term_326 rfl rfl ?_
      obtain ⟨q327, hq327, h⟩ := Option.bind_eq_some_iff.mp h
      refine x_statI (pc' := 330) (as := [.int x2]) (rest := []) dX8_term_327 rfl lm_8_116 (by decide) rfl rfl rfl rfl hq327 ?_
      by_cases c330 : q327.1 = 0
      · replace h := (if_pos c330).symm.trans h
        refine x_if_eq_t (pc' := 360) dX8_term_330 (by decide) c330 ?_
        exact h
      · replace h := (if_neg c330).symm.trans h
        refine x_if_eq_f (pc' := 333) dX8_term_330 (by decide) rfl c330 ?_
        refine x_aload_n (pc' := 334) dX8_term_333 rfl rfl ?_
        refine x_bipush (pc' := 336) (w := (44 : Int32)) dX8_term_334 rfl k_bi_44 ?_
        obtain ⟨q336, hq336, h⟩ := Option.bind_eq_some_iff.mp h
        refine x_virtI (pc' := 339) (o := 45) (as := [.int (44 : Int32)]) (rest := []) dX8_term_336 rfl lm_8_163 rfl rfl rfl sh_45 rfl hq336 ?_
        by_cases c339 : ¬ q336.1 = 0
        · replace h := (if_pos c339).symm.trans h
          refine x_if_ne_t (pc' := 344) dX8_term_339 (by decide) c339 ?_
          refine x_aload_n (pc' := 345) dX8_term_344 rfl rfl ?_
          refine x_iload_n (pc' := 346) dX8_term_345 rfl rfl ?_
          refine x_iconst (pc' := 347) (w := (1 : Int32)) dX8_term_346 rfl k_ic_1 ?_
          refine x_iadd (pc' := 348) dX8_term_347 rfl ?_
          obtain ⟨q348, hq348, h⟩ := Option.bind_eq_some_iff.mp h
          refine x_virtI (pc' := 351) (o := 45) (as := [.int (x1 + (1 : Int32))]) (rest := []) dX8_term_348 rfl lm_8_166 rfl rfl rfl sh_45 rfl hq348 ?_
          refine x_istore (pc' := 353) (ls' := [.ref 45, .int x1, .int x2, .int x3, .int x4, .int (q310.1), .int (q348.1)]) dX8_term_351 rfl rfl rfl ?_
          refine x_iload (pc' := 355) dX8_term_353 rfl rfl ?_
          by_cases c355 : 0 ≤ q348.1
          · replace h := (if_pos c355).symm.trans h
            refine x_if_ge_t (pc' := 360) dX8_term_355 (by decide) c355 ?_
            exact h
          · replace h := (if_neg c355).symm.trans h
            refine x_if_ge_f (pc' := 358) dX8_term_355 (by decide) rfl c355 ?_
            refine x_iconst (pc' := 359) (w := (-1 : Int32)) dX8_term_358 rfl k_ic_m1 ?_
            exact x_iret dX8_term_359 rfl ((tb_dI_ok _ _).trans h)
        · replace h := (if_neg c339).symm.trans h
          refine x_if_ne_f (pc' := 342) dX8_term_339 (by decide) rfl c339 ?_
          refine x_iconst (pc' := 343) (w := (-1 : Int32)) dX8_term_342 rfl k_ic_m1 ?_
          exact x_iret dX8_term_343 rfl ((tb_dI_ok _ _).trans h)
    · replace h := (if_neg c317).symm.trans h
      refine x_if_ge_f (pc' := 320) dX8_term_317 (by decide) rfl c317 ?_
      refine x_iconst (pc' := 321) (w := (-1 : Int32)) dX8_term_320 rfl k_ic_m1 ?_
      exact x_iret dX8_term_321 rfl ((tb_dI_ok _ _).trans h)
  · replace h := (if_neg c301).symm.trans h
    refine x_if_ne_f (pc' := 304) dX8_term_301 (by decide) rfl c301 ?_
    refine x_iconst (pc' := 305) (w := (-1 : Int32)) dX8_term_304 rfl k_ic_m1 ?_
    exact x_iret dX8_term_305 rfl ((tb_dI_ok _ _).trans h)
theorem BX8_term_360 {d : Nat} {x2 x3 x4 x5 x6 : Int32} {w1 : Value} {S : tb_St} {r : Int32 × tb_St} (h : ((tb_cI d mX8_is [.ref 45, .int (41 : Int32)] S).bind fun q363 => (if ¬ q363.1 = 0 then (tb_cI d mX8_makes [.ref 45, .int x2, .int x4, .int x5, .int x6, .int x3] (tb_up (q363.2) 45 24 (((q363.2) 45 24) - (1 : Int32)))).bind fun q390 => some (q390.1, q390.2) else some ((-1 : Int32), q363.2))) = some r) : tb_E d mX8_term tb_dI 360 [.ref 45, w1, .int x2, .int x3, .int x4, .int x5, .int x6] [] tb_S S = some r := by
  refine x_aload_n (pc' := 361) dX8_term_360 rfl rfl ?_
  refine x_bipush (pc' := 363) (w := (41 : Int32)) dX8_term_361 rfl k_bi_41 ?_
  obtain ⟨q363, hq363, h⟩ := Option.bind_eq_some_iff.mp h
  refine x_virtI (pc' := 366) (o := 45) (as := [.int (41 : Int32)]) (rest := []) dX8_term_363 rfl lm_8_163 rfl rfl rfl sh_45 rfl hq363 ?_
  by_cases c366 : ¬ q363.1 = 0
  · replace h := (if_pos c366).symm.trans h
    refine x_if_ne_t (pc' := 371) dX8_term_366 (by decide) c366 ?_
    refine x_aload_n (pc' := 372) dX8_term_371 rfl rfl ?_
    refine x_dup (pc' := 373) dX8_term_372 rfl rfl ?_
    refine x_getI (pc' := 376) (v := (q363.2) 45 24) dX8_term_373 rfl lf_8_151 rfl sh_45 rfl ?_
    refine x_iconst (pc' := 377) (w := (1 : Int32)) dX8_term_376 rfl k_ic_1 ?_
    refine x_isub (pc' := 378) dX8_term_377 rfl ?_
    refine x_putI (pc' := 381) dX8_term_378 rfl lf_8_151 (Or.inl rfl) sh_45 ?_
    refine x_aload_n (pc' := 382) dX8_term_381 rfl rfl ?_
    refine x_iload_n (pc' := 383) dX8_term_382 rfl rfl ?_
    refine x_iload (pc' := 385) dX8_term_383 rfl rfl ?_
    refine x_iload (pc' := 387) dX8_term_385 rfl rfl ?_
    refine x_iload (pc' := 389) dX8_term_387 rfl rfl ?_
    refine x_iload_n (pc' := 390) dX8_term_389 rfl rfl ?_
    obtain ⟨q390, hq390, h⟩ := Option.bind_eq_some_iff.mp h
    refine x_virtI (pc' := 393) (o := 45) (as := [.int x2, .int x4, .int x5, .int x6, .int x3]) (rest := []) dX8_term_390 rfl lm_8_148 rfl rfl rfl sh_45 rfl hq390 ?_
    exact x_iret dX8_term_393 rfl ((tb_dI_ok _ _).trans h)
  · replace h := (if_neg c366).symm.trans h
    refine x_if_ne_f (pc' := 369) dX8_term_366 (by decide) rfl c366 ?_
    refine x_iconst (pc' := 370) (w := (-1 : Int32)) dX8_term_369 rfl k_ic_m1 ?_
    exact x_iret dX8_term_370 rfl ((tb_dI_ok _ _).trans h)
/-! X4_readAll (32,) -/
theorem BX4_readAll_0 {d : Nat} {w1 : Value} {S : tb_St} {r : Int32 × tb_St} (h : ((tb_cI d mX4_readTerm [.ref 32, .int (0 : Int32)] (tb_up (tb_up (tb_up (tb_up (tb_up S 32 5 (0 : Int32)) 32 6 (S 2 7)) 32 7 (-1 : Int32)) 32 8 (0 : Int32)) 32 10 (0 : Int32))).bind fun q33 => (if ¬ (q33.2) 32 7 = (-1 : Int32) then tb_E d mX4_readAll tb_dI 64 [.ref 32, .int (q33.1)] [] tb_S (q33.2) else (if (q33.2) 32 2 ≤ (q33.2) 32 5 then tb_E d mX4_readAll tb_dI 64 [.ref 32, .int (q33.1)] [] tb_S (q33.2) else (tb_cV d mX4_fail [.ref 32, .int ((q33.2) 32 5)] (q33.2)).bind fun q61 => tb_E d mX4_readAll tb_dI 64 [.ref 32, .int (q33.1)] [] tb_S q61))) = some r) : tb_E d mX4_readAll tb_dI 0 [.ref 32, w1] [] tb_S S = some r := by
  refine x_aload_n (pc' := 1) dX4_readAll_0 rfl rfl ?_
  refine x_iconst (pc' := 2) (w := (0 : Int32)) dX4_readAll_1 rfl k_ic_0 ?_
  refine x_putI (pc' := 5) dX4_readAll_2 rfl lf_4_25 (Or.inl rfl) sh_32 ?_
  refine x_aload_n (pc' := 6) dX4_readAll_5 rfl rfl ?_
  refine x_aload_n (pc' := 7) dX4_readAll_6 rfl rfl ?_
  refine x_getR (pc' := 10) dX4_readAll_7 rfl lf_4_44 rfl sh_32 rfl ?_
  refine x_getI (pc' := 13) (v := S 2 7) dX4_readAll_10 rfl lf_4_48 rfl sh_2 rfl ?_
  refine x_putI (pc' := 16) dX4_readAll_13 rfl lf_4_28 (Or.inl rfl) sh_32 ?_
  refine x_aload_n (pc' := 17) dX4_readAll_16 rfl rfl ?_
  refine x_iconst (pc' := 18) (w := (-1 : Int32)) dX4_readAll_17 rfl k_ic_m1 ?_
  refine x_putI (pc' := 21) dX4_readAll_18 rfl lf_4_31 (Or.inl rfl) sh_32 ?_
  refine x_aload_n (pc' := 22) dX4_readAll_21 rfl rfl ?_
  refine x_iconst (pc' := 23) (w := (0 : Int32)) dX4_readAll_22 rfl k_ic_0 ?_
  refine x_putI (pc' := 26) dX4_readAll_23 rfl lf_4_34 (Or.inr ⟨rfl, Or.inl rfl⟩) sh_32 ?_
  refine x_aload_n (pc' := 27) dX4_readAll_26 rfl rfl ?_
  refine x_iconst (pc' := 28) (w := (0 : Int32)) dX4_readAll_27 rfl k_ic_0 ?_
  refine x_putI (pc' := 31) dX4_readAll_28 rfl lf_4_41 (Or.inl rfl) sh_32 ?_
  refine x_aload_n (pc' := 32) dX4_readAll_31 rfl rfl ?_
  refine x_iconst (pc' := 33) (w := (0 : Int32)) dX4_readAll_32 rfl k_ic_0 ?_
  obtain ⟨q33, hq33, h⟩ := Option.bind_eq_some_iff.mp h
  refine x_virtI (pc' := 36) (o := 32) (as := [.int (0 : Int32)]) (rest := []) dX4_readAll_33 rfl lm_4_53 rfl rfl rfl sh_32 rfl hq33 ?_
  refine x_istore_n (pc' := 37) (ls' := [.ref 32, .int (q33.1)]) dX4_readAll_36 rfl rfl rfl ?_
  refine x_aload_n (pc' := 38) dX4_readAll_37 rfl rfl ?_
  refine x_getI (pc' := 41) (v := (q33.2) 32 7) dX4_readAll_38 rfl lf_4_31 rfl sh_32 rfl ?_
  refine x_iconst (pc' := 42) (w := (-1 : Int32)) dX4_readAll_41 rfl k_ic_m1 ?_
  by_cases c42 : ¬ (q33.2) 32 7 = (-1 : Int32)
  · replace h := (if_pos c42).symm.trans h
    refine x_icmp_ne_t (pc' := 64) dX4_readAll_42 (by decide) c42 ?_
    exact h
  · replace h := (if_neg c42).symm.trans h
    refine x_icmp_ne_f (pc' := 45) dX4_readAll_42 (by decide) rfl c42 ?_
    refine x_aload_n (pc' := 46) dX4_readAll_45 rfl rfl ?_
    refine x_getI (pc' := 49) (v := (q33.2) 32 5) dX4_readAll_46 rfl lf_4_25 rfl sh_32 rfl ?_
    refine x_aload_n (pc' := 50) dX4_readAll_49 rfl rfl ?_
    refine x_getI (pc' := 53) (v := (q33.2) 32 2) dX4_readAll_50 rfl lf_4_15 rfl sh_32 rfl ?_
    by_cases c53 : (q33.2) 32 2 ≤ (q33.2) 32 5
    · replace h := (if_pos c53).symm.trans h
      refine x_icmp_ge_t (pc' := 64) dX4_readAll_53 (by decide) c53 ?_
      exact h
    · replace h := (if_neg c53).symm.trans h
      refine x_icmp_ge_f (pc' := 56) dX4_readAll_53 (by decide) rfl c53 ?_
      refine x_aload_n (pc' := 57) dX4_readAll_56 rfl rfl ?_
      refine x_aload_n (pc' := 58) dX4_readAll_57 rfl rfl ?_
      refine x_getI (pc' := 61) (v := (q33.2) 32 5) dX4_readAll_58 rfl lf_4_25 rfl sh_32 rfl ?_
      obtain ⟨q61, hq61, h⟩ := Option.bind_eq_some_iff.mp h
      refine x_virtV (pc' := 64) (o := 32) (as := [.int ((q33.2) 32 5)]) (rest := []) dX4_readAll_61 rfl lm_4_57 rfl rfl rfl sh_32 rfl hq61 ?_
      exact h
theorem MX4_readAll {d : Nat} {S : tb_St} {r : Int32 × tb_St} (h : ((tb_cI d mX4_readTerm [.ref 32, .int (0 : Int32)] (tb_up (tb_up (tb_up (tb_up (tb_up S 32 5 (0 : Int32)) 32 6 (S 2 7)) 32 7 (-1 : Int32)) 32 8 (0 : Int32)) 32 10 (0 : Int32))).bind fun q33 => (if ¬ (q33.2) 32 7 = (-1 : Int32) then tb_E d mX4_readAll tb_dI 64 [.ref 32, .int (q33.1)] [] tb_S (q33.2) else (if (q33.2) 32 2 ≤ (q33.2) 32 5 then tb_E d mX4_readAll tb_dI 64 [.ref 32, .int (q33.1)] [] tb_S (q33.2) else (tb_cV d mX4_fail [.ref 32, .int ((q33.2) 32 5)] (q33.2)).bind fun q61 => tb_E d mX4_readAll tb_dI 64 [.ref 32, .int (q33.1)] [] tb_S q61))) = some r) : tb_cI (d + 1) mX4_readAll [.ref 32] S = some r := tb_enI rfl rfl (BX4_readAll_0 h)
theorem BX4_readAll_64 {d : Nat} {x1 : Int32} {S : tb_St} {r : Int32 × tb_St} (h : ((if ¬ S 32 7 = (-1 : Int32) then tb_E d mX4_readAll tb_dI 86 [.ref 32, .int x1] [] tb_S (tb_up S 32 2 (0 : Int32)) else (if ¬ S 32 8 = 0 then tb_E d mX4_readAll tb_dI 86 [.ref 32, .int x1] [] tb_S (tb_up S 32 2 (0 : Int32)) else some (x1, tb_up S 32 2 (0 : Int32))))) = some r) : tb_E d mX4_readAll tb_dI 64 [.ref 32, .int x1] [] tb_S S = some r := by
  refine x_aload_n (pc' := 65) dX4_readAll_64 rfl rfl ?_
  refine x_iconst (pc' := 66) (w := (0 : Int32)) dX4_readAll_65 rfl k_ic_0 ?_
  refine x_putI (pc' := 69) dX4_readAll_66 rfl lf_4_15 (Or.inl rfl) sh_32 ?_
  refine x_aload_n (pc' := 70) dX4_readAll_69 rfl rfl ?_
  refine x_getI (pc' := 73) (v := S 32 7) dX4_readAll_70 rfl lf_4_31 rfl sh_32 rfl ?_
  refine x_iconst (pc' := 74) (w := (-1 : Int32)) dX4_readAll_73 rfl k_ic_m1 ?_
  by_cases c74 : ¬ S 32 7 = (-1 : Int32)
  · replace h := (if_pos c74).symm.trans h
    refine x_icmp_ne_t (pc' := 86) dX4_readAll_74 (by decide) c74 ?_
    exact h
  · replace h := (if_neg c74).symm.trans h
    refine x_icmp_ne_f (pc' := 77) dX4_readAll_74 (by decide) rfl c74 ?_
    refine x_aload_n (pc' := 78) dX4_readAll_77 rfl rfl ?_
    refine x_getI (pc' := 81) (v := S 32 8) dX4_readAll_78 rfl lf_4_34 rfl sh_32 rfl ?_
    by_cases c81 : ¬ S 32 8 = 0
    · replace h := (if_pos c81).symm.trans h
      refine x_if_ne_t (pc' := 86) dX4_readAll_81 (by decide) c81 ?_
      exact h
    · replace h := (if_neg c81).symm.trans h
      refine x_if_ne_f (pc' := 84) dX4_readAll_81 (by decide) rfl c81 ?_
      refine x_iload_n (pc' := 85) dX4_readAll_84 rfl rfl ?_
      exact x_iret dX4_readAll_85 rfl ((tb_dI_ok _ _).trans h)
theorem BX4_readAll_86 {d : Nat} {w1 : Value} {S : tb_St} {r : Int32 × tb_St} (h : ((tb_cV d mX5_cutTo [.ref 2, .int (S 32 6)] S).bind fun q94 => (if ¬ q94 32 7 = (-1 : Int32) then some ((-100 : Int32) - (q94 32 7), q94) else some ((-4 : Int32), q94))) = some r) : tb_E d mX4_readAll tb_dI 86 [.ref 32, w1] [] tb_S S = some r := by
  refine x_aload_n (pc' := 87) dX4_readAll_86 rfl rfl ?_
  refine x_getR (pc' := 90) dX4_readAll_87 rfl lf_4_44 rfl sh_32 rfl ?_
  refine x_aload_n (pc' := 91) dX4_readAll_90 rfl rfl ?_
  refine x_getI (pc' := 94) (v := S 32 6) dX4_readAll_91 rfl lf_4_28 rfl sh_32 rfl ?_
  obtain ⟨q94, hq94, h⟩ := Option.bind_eq_some_iff.mp h
  refine x_virtV (pc' := 97) (o := 2) (as := [.int (S 32 6)]) (rest := []) dX4_readAll_94 rfl lm_4_61 rfl rfl rfl sh_2 rfl hq94 ?_
  refine x_aload_n (pc' := 98) dX4_readAll_97 rfl rfl ?_
  refine x_getI (pc' := 101) (v := q94 32 7) dX4_readAll_98 rfl lf_4_31 rfl sh_32 rfl ?_
  refine x_iconst (pc' := 102) (w := (-1 : Int32)) dX4_readAll_101 rfl k_ic_m1 ?_
  by_cases c102 : ¬ q94 32 7 = (-1 : Int32)
  · replace h := (if_pos c102).symm.trans h
    refine x_icmp_ne_t (pc' := 110) dX4_readAll_102 (by decide) c102 ?_
    refine x_bipush (pc' := 112) (w := (-100 : Int32)) dX4_readAll_110 rfl k_bi_m100 ?_
    refine x_aload_n (pc' := 113) dX4_readAll_112 rfl rfl ?_
    refine x_getI (pc' := 116) (v := q94 32 7) dX4_readAll_113 rfl lf_4_31 rfl sh_32 rfl ?_
    refine x_isub (pc' := 117) dX4_readAll_116 rfl ?_
    exact x_iret dX4_readAll_117 rfl ((tb_dI_ok _ _).trans h)
  · replace h := (if_neg c102).symm.trans h
    refine x_icmp_ne_f (pc' := 105) dX4_readAll_102 (by decide) rfl c102 ?_
    refine x_bipush (pc' := 107) (w := (-4 : Int32)) dX4_readAll_105 rfl k_bi_m4 ?_
    refine x_goto (pc' := 117) dX4_readAll_107 (by decide) ?_
    exact x_iret dX4_readAll_117 rfl ((tb_dI_ok _ _).trans h)
/-! X4_wipe (32,) -/
theorem BX4_wipe_0 {d : Nat} {w1 : Value} {S : tb_St} {r : Int32 × tb_St} (h : (some (S 32 2, tb_up S 32 2 (0 : Int32))) = some r) : tb_E d mX4_wipe tb_dI 0 [.ref 32, w1] [] tb_S S = some r := by
  refine x_aload_n (pc' := 1) dX4_wipe_0 rfl rfl ?_
  refine x_getI (pc' := 4) (v := S 32 2) dX4_wipe_1 rfl lf_4_15 rfl sh_32 rfl ?_
  refine x_istore_n (pc' := 5) (ls' := [.ref 32, .int (S 32 2)]) dX4_wipe_4 rfl rfl rfl ?_
  refine x_aload_n (pc' := 6) dX4_wipe_5 rfl rfl ?_
  refine x_iconst (pc' := 7) (w := (0 : Int32)) dX4_wipe_6 rfl k_ic_0 ?_
  refine x_putI (pc' := 10) dX4_wipe_7 rfl lf_4_15 (Or.inl rfl) sh_32 ?_
  refine x_iload_n (pc' := 11) dX4_wipe_10 rfl rfl ?_
  exact x_iret dX4_wipe_11 rfl ((tb_dI_ok _ _).trans h)
theorem MX4_wipe {d : Nat} {S : tb_St} {r : Int32 × tb_St} (h : (some (S 32 2, tb_up S 32 2 (0 : Int32))) = some r) : tb_cI (d + 1) mX4_wipe [.ref 32] S = some r := tb_enI rfl rfl (BX4_wipe_0 h)
/-! X4_append (32,) -/
theorem BX4_append_0 {d : Nat} {x1 : Int32} {S : tb_St} {r : Int32 × tb_St} (h : ((if S 32 2 < (60 : Int32) then (tb_ix (S 32 2) 60).bind fun j21 => some ((S 32 2) + (1 : Int32), tb_up (tb_up S 33 j21 x1) 32 2 ((S 32 2) + (1 : Int32))) else some ((-4 : Int32), S))) = some r) : tb_E d mX4_append tb_dI 0 [.ref 32, .int x1] [] tb_S S = some r := by
  refine x_aload_n (pc' := 1) dX4_append_0 rfl rfl ?_
  refine x_getI (pc' := 4) (v := S 32 2) dX4_append_1 rfl lf_4_15 rfl sh_32 rfl ?_
  refine x_bipush (pc' := 6) (w := (60 : Int32)) dX4_append_4 rfl k_bi_60 ?_
  by_cases c6 : S 32 2 < (60 : Int32)
  · replace h := (if_pos c6).symm.trans h
    refine x_icmp_lt_t (pc' := 12) dX4_append_6 (by decide) c6 ?_
    refine x_aload_n (pc' := 13) dX4_append_12 rfl rfl ?_
    refine x_getR (pc' := 16) dX4_append_13 rfl lf_4_9 rfl sh_32 rfl ?_
    refine x_aload_n (pc' := 17) dX4_append_16 rfl rfl ?_
    refine x_getI (pc' := 20) (v := S 32 2) dX4_append_17 rfl lf_4_15 rfl sh_32 rfl ?_
    refine x_iload_n (pc' := 21) dX4_append_20 rfl rfl ?_
    obtain ⟨j21, hj21, h⟩ := Option.bind_eq_some_iff.mp h
    refine x_iastore (pc' := 22) dX4_append_21 rfl sh_33 hj21 ?_
    refine x_aload_n (pc' := 23) dX4_append_22 rfl rfl ?_
    refine x_dup (pc' := 24) dX4_append_23 rfl rfl ?_
    refine x_getI (pc' := 27) (v := S 32 2) dX4_append_24 rfl lf_4_15 rfl sh_32 rfl ?_
    refine x_iconst (pc' := 28) (w := (1 : Int32)) dX4_append_27 rfl k_ic_1 ?_
    refine x_iadd (pc' := 29) dX4_append_28 rfl ?_
    refine x_putI (pc' := 32) dX4_append_29 rfl lf_4_15 (Or.inl rfl) sh_32 ?_
    refine x_aload_n (pc' := 33) dX4_append_32 rfl rfl ?_
    refine x_getI (pc' := 36) (v := (S 32 2) + (1 : Int32)) dX4_append_33 rfl lf_4_15 rfl sh_32 rfl ?_
    exact x_iret dX4_append_36 rfl ((tb_dI_ok _ _).trans h)
  · replace h := (if_neg c6).symm.trans h
    refine x_icmp_lt_f (pc' := 9) dX4_append_6 (by decide) rfl c6 ?_
    refine x_bipush (pc' := 11) (w := (-4 : Int32)) dX4_append_9 rfl k_bi_m4 ?_
    exact x_iret dX4_append_11 rfl ((tb_dI_ok _ _).trans h)
theorem MX4_append {d : Nat} {x1 : Int32} {S : tb_St} {r : Int32 × tb_St} (h : ((if S 32 2 < (60 : Int32) then (tb_ix (S 32 2) 60).bind fun j21 => some ((S 32 2) + (1 : Int32), tb_up (tb_up S 33 j21 x1) 32 2 ((S 32 2) + (1 : Int32))) else some ((-4 : Int32), S))) = some r) : tb_cI (d + 1) mX4_append [.ref 32, .int x1] S = some r := tb_enI rfl rfl (BX4_append_0 h)
/-! X5_cutTo (2,) -/
theorem BX5_cutTo_0 {d : Nat} {x1 : Int32} {S : tb_St} {r : tb_St} (h : ((if x1 < 0 then some S else (if S 2 7 ≤ x1 then some S else some (tb_up S 2 7 x1)))) = some r) : tb_E d mX5_cutTo tb_dV 0 [.ref 2, .int x1] [] tb_S S = some r := by
  refine x_iload_n (pc' := 1) dX5_cutTo_0 rfl rfl ?_
  by_cases c1 : x1 < 0
  · replace h := (if_pos c1).symm.trans h
    refine x_if_lt_t (pc' := 17) dX5_cutTo_1 (by decide) c1 ?_
    exact x_vret dX5_cutTo_17 rfl ((tb_dV_ok _).trans h)
  · replace h := (if_neg c1).symm.trans h
    refine x_if_lt_f (pc' := 4) dX5_cutTo_1 (by decide) rfl c1 ?_
    refine x_iload_n (pc' := 5) dX5_cutTo_4 rfl rfl ?_
    refine x_aload_n (pc' := 6) dX5_cutTo_5 rfl rfl ?_
    refine x_getI (pc' := 9) (v := S 2 7) dX5_cutTo_6 rfl lf_5_33 rfl sh_2 rfl ?_
    by_cases c9 : S 2 7 ≤ x1
    · replace h := (if_pos c9).symm.trans h
      refine x_icmp_ge_t (pc' := 17) dX5_cutTo_9 (by decide) c9 ?_
      exact x_vret dX5_cutTo_17 rfl ((tb_dV_ok _).trans h)
    · replace h := (if_neg c9).symm.trans h
      refine x_icmp_ge_f (pc' := 12) dX5_cutTo_9 (by decide) rfl c9 ?_
      refine x_aload_n (pc' := 13) dX5_cutTo_12 rfl rfl ?_
      refine x_iload_n (pc' := 14) dX5_cutTo_13 rfl rfl ?_
      refine x_putI (pc' := 17) dX5_cutTo_14 rfl lf_5_33 (Or.inl rfl) sh_2 ?_
      exact x_vret dX5_cutTo_17 rfl ((tb_dV_ok _).trans h)
theorem MX5_cutTo {d : Nat} {x1 : Int32} {S : tb_St} {r : tb_St} (h : ((if x1 < 0 then some S else (if S 2 7 ≤ x1 then some S else some (tb_up S 2 7 x1)))) = some r) : tb_cV (d + 1) mX5_cutTo [.ref 2, .int x1] S = some r := tb_enV rfl rfl (BX5_cutTo_0 h)
/-! X8_ofTwo () -/
theorem BX8_ofTwo_0 {d : Nat} {x0 : Int32} {S : tb_St} {r : Int32 × tb_St} (h : ((if x0 ≤ (2 : Int32) then some ((0 : Int32), S) else (if x0 = (6 : Int32) then some ((0 : Int32), S) else some ((1 : Int32), S)))) = some r) : tb_E d mX8_ofTwo tb_dI 0 [.int x0] [] tb_S S = some r := by
  refine x_iload_n (pc' := 1) dX8_ofTwo_0 rfl rfl ?_
  refine x_iconst (pc' := 2) (w := (2 : Int32)) dX8_ofTwo_1 rfl k_ic_2 ?_
  by_cases c2 : x0 ≤ (2 : Int32)
  · replace h := (if_pos c2).symm.trans h
    refine x_icmp_le_t (pc' := 15) dX8_ofTwo_2 (by decide) c2 ?_
    refine x_iconst (pc' := 16) (w := (0 : Int32)) dX8_ofTwo_15 rfl k_ic_0 ?_
    exact x_zret dX8_ofTwo_16 rfl (Or.inl rfl) ((tb_dI_ok _ _).trans h)
  · replace h := (if_neg c2).symm.trans h
    refine x_icmp_le_f (pc' := 5) dX8_ofTwo_2 (by decide) rfl c2 ?_
    refine x_iload_n (pc' := 6) dX8_ofTwo_5 rfl rfl ?_
    refine x_bipush (pc' := 8) (w := (6 : Int32)) dX8_ofTwo_6 rfl k_bi_6 ?_
    by_cases c8 : x0 = (6 : Int32)
    · replace h := (if_pos c8).symm.trans h
      refine x_icmp_eq_t (pc' := 15) dX8_ofTwo_8 (by decide) c8 ?_
      refine x_iconst (pc' := 16) (w := (0 : Int32)) dX8_ofTwo_15 rfl k_ic_0 ?_
      exact x_zret dX8_ofTwo_16 rfl (Or.inl rfl) ((tb_dI_ok _ _).trans h)
    · replace h := (if_neg c8).symm.trans h
      refine x_icmp_eq_f (pc' := 11) dX8_ofTwo_8 (by decide) rfl c8 ?_
      refine x_iconst (pc' := 12) (w := (1 : Int32)) dX8_ofTwo_11 rfl k_ic_1 ?_
      refine x_goto (pc' := 16) dX8_ofTwo_12 (by decide) ?_
      exact x_zret dX8_ofTwo_16 rfl (Or.inr rfl) ((tb_dI_ok _ _).trans h)
theorem MX8_ofTwo {d : Nat} {x0 : Int32} {S : tb_St} {r : Int32 × tb_St} (h : ((if x0 ≤ (2 : Int32) then some ((0 : Int32), S) else (if x0 = (6 : Int32) then some ((0 : Int32), S) else some ((1 : Int32), S)))) = some r) : tb_cI (d + 1) mX8_ofTwo [.int x0] S = some r := tb_enI rfl rfl (BX8_ofTwo_0 h)
/-! X7_isOfTwo () -/
theorem BX7_isOfTwo_0 {d : Nat} {x0 : Int32} {S : tb_St} {r : Int32 × tb_St} (h : ((if x0 = (3 : Int32) then some ((1 : Int32), S) else (if x0 = (4 : Int32) then some ((1 : Int32), S) else (if x0 = (5 : Int32) then some ((1 : Int32), S) else (if ¬ x0 = (7 : Int32) then some ((0 : Int32), S) else some ((1 : Int32), S)))))) = some r) : tb_E d mX7_isOfTwo tb_dI 0 [.int x0] [] tb_S S = some r := by
  refine x_iload_n (pc' := 1) dX7_isOfTwo_0 rfl rfl ?_
  refine x_iconst (pc' := 2) (w := (3 : Int32)) dX7_isOfTwo_1 rfl k_ic_3 ?_
  by_cases c2 : x0 = (3 : Int32)
  · replace h := (if_pos c2).symm.trans h
    refine x_icmp_eq_t (pc' := 21) dX7_isOfTwo_2 (by decide) c2 ?_
    refine x_iconst (pc' := 22) (w := (1 : Int32)) dX7_isOfTwo_21 rfl k_ic_1 ?_
    refine x_goto (pc' := 26) dX7_isOfTwo_22 (by decide) ?_
    exact x_zret dX7_isOfTwo_26 rfl (Or.inr rfl) ((tb_dI_ok _ _).trans h)
  · replace h := (if_neg c2).symm.trans h
    refine x_icmp_eq_f (pc' := 5) dX7_isOfTwo_2 (by decide) rfl c2 ?_
    refine x_iload_n (pc' := 6) dX7_isOfTwo_5 rfl rfl ?_
    refine x_iconst (pc' := 7) (w := (4 : Int32)) dX7_isOfTwo_6 rfl k_ic_4 ?_
    by_cases c7 : x0 = (4 : Int32)
    · replace h := (if_pos c7).symm.trans h
      refine x_icmp_eq_t (pc' := 21) dX7_isOfTwo_7 (by decide) c7 ?_
      refine x_iconst (pc' := 22) (w := (1 : Int32)) dX7_isOfTwo_21 rfl k_ic_1 ?_
      refine x_goto (pc' := 26) dX7_isOfTwo_22 (by decide) ?_
      exact x_zret dX7_isOfTwo_26 rfl (Or.inr rfl) ((tb_dI_ok _ _).trans h)
    · replace h := (if_neg c7).symm.trans h
      refine x_icmp_eq_f (pc' := 10) dX7_isOfTwo_7 (by decide) rfl c7 ?_
      refine x_iload_n (pc' := 11) dX7_isOfTwo_10 rfl rfl ?_
      refine x_iconst (pc' := 12) (w := (5 : Int32)) dX7_isOfTwo_11 rfl k_ic_5 ?_
      by_cases c12 : x0 = (5 : Int32)
      · replace h := (if_pos c12).symm.trans h
        refine x_icmp_eq_t (pc' := 21) dX7_isOfTwo_12 (by decide) c12 ?_
        refine x_iconst (pc' := 22) (w := (1 : Int32)) dX7_isOfTwo_21 rfl k_ic_1 ?_
        refine x_goto (pc' := 26) dX7_isOfTwo_22 (by decide) ?_
        exact x_zret dX7_isOfTwo_26 rfl (Or.inr rfl) ((tb_dI_ok _ _).trans h)
      · replace h := (if_neg c12).symm.trans h
        refine x_icmp_eq_f (pc' := 15) dX7_isOfTwo_12 (by decide) rfl c12 ?_
        refine x_iload_n (pc' := 16) dX7_isOfTwo_15 rfl rfl ?_
        refine x_bipush (pc' := 18) (w := (7 : Int32)) dX7_isOfTwo_16 rfl k_bi_7 ?_
        by_cases c18 : ¬ x0 = (7 : Int32)
        · replace h := (if_pos c18).symm.trans h
          refine x_icmp_ne_t (pc' := 25) dX7_isOfTwo_18 (by decide) c18 ?_
          refine x_iconst (pc' := 26) (w := (0 : Int32)) dX7_isOfTwo_25 rfl k_ic_0 ?_
          exact x_zret dX7_isOfTwo_26 rfl (Or.inl rfl) ((tb_dI_ok _ _).trans h)
        · replace h := (if_neg c18).symm.trans h
          refine x_icmp_ne_f (pc' := 21) dX7_isOfTwo_18 (by decide) rfl c18 ?_
          refine x_iconst (pc' := 22) (w := (1 : Int32)) dX7_isOfTwo_21 rfl k_ic_1 ?_
          refine x_goto (pc' := 26) dX7_isOfTwo_22 (by decide) ?_
          exact x_zret dX7_isOfTwo_26 rfl (Or.inr rfl) ((tb_dI_ok _ _).trans h)
theorem MX7_isOfTwo {d : Nat} {x0 : Int32} {S : tb_St} {r : Int32 × tb_St} (h : ((if x0 = (3 : Int32) then some ((1 : Int32), S) else (if x0 = (4 : Int32) then some ((1 : Int32), S) else (if x0 = (5 : Int32) then some ((1 : Int32), S) else (if ¬ x0 = (7 : Int32) then some ((0 : Int32), S) else some ((1 : Int32), S)))))) = some r) : tb_cI (d + 1) mX7_isOfTwo [.int x0] S = some r := tb_enI rfl rfl (BX7_isOfTwo_0 h)
/-! X8_isBox () -/
theorem BX8_isBox_0 {d : Nat} {x0 : Int32} {w1 : Value} {S : tb_St} {r : Int32 × tb_St} (h : ((tb_cI d mX8_within [.int x0, .int (0 : Int32), .int (999999 : Int32)] S).bind fun q4 => (if ¬ q4.1 = 0 then tb_E d mX8_isBox tb_dI 14 [.int x0, .int (0 : Int32)] [] tb_S (q4.2) else some ((0 : Int32), q4.2))) = some r) : tb_E d mX8_isBox tb_dI 0 [.int x0, w1] [] tb_S S = some r := by
  refine x_iload_n (pc' := 1) dX8_isBox_0 rfl rfl ?_
  refine x_iconst (pc' := 2) (w := (0 : Int32)) dX8_isBox_1 rfl k_ic_0 ?_
  refine x_ldc (pc' := 4) dX8_isBox_2 rfl lk_8_84 ?_
  obtain ⟨q4, hq4, h⟩ := Option.bind_eq_some_iff.mp h
  refine x_statI (pc' := 7) (as := [.int x0, .int (0 : Int32), .int (999999 : Int32)]) (rest := []) dX8_isBox_4 rfl lm_8_80 (by decide) rfl rfl rfl rfl hq4 ?_
  by_cases c7 : ¬ q4.1 = 0
  · replace h := (if_pos c7).symm.trans h
    refine x_if_ne_t (pc' := 12) dX8_isBox_7 (by decide) c7 ?_
    refine x_iconst (pc' := 13) (w := (0 : Int32)) dX8_isBox_12 rfl k_ic_0 ?_
    refine x_istore_n (pc' := 14) (ls' := [.int x0, .int (0 : Int32)]) dX8_isBox_13 rfl rfl rfl ?_
    exact h
  · replace h := (if_neg c7).symm.trans h
    refine x_if_ne_f (pc' := 10) dX8_isBox_7 (by decide) rfl c7 ?_
    refine x_iconst (pc' := 11) (w := (0 : Int32)) dX8_isBox_10 rfl k_ic_0 ?_
    exact x_zret dX8_isBox_11 rfl (Or.inl rfl) ((tb_dI_ok _ _).trans h)
theorem MX8_isBox {d : Nat} {x0 : Int32} {S : tb_St} {r : Int32 × tb_St} (h : ((tb_cI d mX8_within [.int x0, .int (0 : Int32), .int (999999 : Int32)] S).bind fun q4 => (if ¬ q4.1 = 0 then tb_E d mX8_isBox tb_dI 14 [.int x0, .int (0 : Int32)] [] tb_S (q4.2) else some ((0 : Int32), q4.2))) = some r) : tb_cI (d + 1) mX8_isBox [.int x0] S = some r := tb_enI rfl rfl (BX8_isBox_0 h)
theorem BX8_isBox_14 {d : Nat} {x0 x1 : Int32} {S : tb_St} {r : Int32 × tb_St} (h : ((if (6 : Int32) ≤ x1 then some ((1 : Int32), S) else (tb_cI d mX8_figure [.int x0, .int x1] S).bind fun q22 => (tb_cI d mX8_most [.int x1] (q22.2)).bind fun q26 => (if q26.1 < q22.1 then some ((0 : Int32), q26.2) else (if ¬ tb_rem x1 (2 : Int32) = (1 : Int32) then tb_E d mX8_isBox tb_dI 14 [.int x0, .int (x1 + (1 : Int32))] [] tb_S (q26.2) else (tb_cI d mX8_figure [.int x0, .int x1] (q26.2)).bind fun q41 => (tb_cI d mX8_figure [.int x0, .int (x1 - (1 : Int32))] (q41.2)).bind fun q48 => (if q48.1 ≤ q41.1 then tb_E d mX8_isBox tb_dI 14 [.int x0, .int (x1 + (1 : Int32))] [] tb_S (q48.2) else some ((0 : Int32), q48.2)))))) = some r) : tb_E d mX8_isBox tb_dI 14 [.int x0, .int x1] [] tb_S S = some r := by
  refine x_iload_n (pc' := 15) dX8_isBox_14 rfl rfl ?_
  refine x_bipush (pc' := 17) (w := (6 : Int32)) dX8_isBox_15 rfl k_bi_6 ?_
  by_cases c17 : (6 : Int32) ≤ x1
  · replace h := (if_pos c17).symm.trans h
    refine x_icmp_ge_t (pc' := 62) dX8_isBox_17 (by decide) c17 ?_
    refine x_iconst (pc' := 63) (w := (1 : Int32)) dX8_isBox_62 rfl k_ic_1 ?_
    exact x_zret dX8_isBox_63 rfl (Or.inr rfl) ((tb_dI_ok _ _).trans h)
  · replace h := (if_neg c17).symm.trans h
    refine x_icmp_ge_f (pc' := 20) dX8_isBox_17 (by decide) rfl c17 ?_
    refine x_iload_n (pc' := 21) dX8_isBox_20 rfl rfl ?_
    refine x_iload_n (pc' := 22) dX8_isBox_21 rfl rfl ?_
    obtain ⟨q22, hq22, h⟩ := Option.bind_eq_some_iff.mp h
    refine x_statI (pc' := 25) (as := [.int x0, .int x1]) (rest := []) dX8_isBox_22 rfl lm_8_85 (by decide) rfl rfl rfl rfl hq22 ?_
    refine x_iload_n (pc' := 26) dX8_isBox_25 rfl rfl ?_
    obtain ⟨q26, hq26, h⟩ := Option.bind_eq_some_iff.mp h
    refine x_statI (pc' := 29) (as := [.int x1]) (rest := [.int (q22.1)]) dX8_isBox_26 rfl lm_8_89 (by decide) rfl rfl rfl rfl hq26 ?_
    by_cases c29 : q26.1 < q22.1
    · replace h := (if_pos c29).symm.trans h
      refine x_icmp_gt_t (pc' := 54) dX8_isBox_29 (by decide) c29 ?_
      refine x_iconst (pc' := 55) (w := (0 : Int32)) dX8_isBox_54 rfl k_ic_0 ?_
      exact x_zret dX8_isBox_55 rfl (Or.inl rfl) ((tb_dI_ok _ _).trans h)
    · replace h := (if_neg c29).symm.trans h
      refine x_icmp_gt_f (pc' := 32) dX8_isBox_29 (by decide) rfl c29 ?_
      refine x_iload_n (pc' := 33) dX8_isBox_32 rfl rfl ?_
      refine x_iconst (pc' := 34) (w := (2 : Int32)) dX8_isBox_33 rfl k_ic_2 ?_
      refine x_irem (pc' := 35) dX8_isBox_34 rfl (by decide) ?_
      refine x_iconst (pc' := 36) (w := (1 : Int32)) dX8_isBox_35 rfl k_ic_1 ?_
      by_cases c36 : ¬ tb_rem x1 (2 : Int32) = (1 : Int32)
      · replace h := (if_pos c36).symm.trans h
        refine x_icmp_ne_t (pc' := 56) dX8_isBox_36 (by decide) c36 ?_
        refine x_iinc (pc' := 59) (w := (1 : Int32)) (ls' := [.int x0, .int (x1 + (1 : Int32))]) dX8_isBox_56 rfl rfl k_ic_1 rfl ?_
        refine x_goto (pc' := 14) dX8_isBox_59 (by decide) ?_
        exact h
      · replace h := (if_neg c36).symm.trans h
        refine x_icmp_ne_f (pc' := 39) dX8_isBox_36 (by decide) rfl c36 ?_
        refine x_iload_n (pc' := 40) dX8_isBox_39 rfl rfl ?_
        refine x_iload_n (pc' := 41) dX8_isBox_40 rfl rfl ?_
        obtain ⟨q41, hq41, h⟩ := Option.bind_eq_some_iff.mp h
        refine x_statI (pc' := 44) (as := [.int x0, .int x1]) (rest := []) dX8_isBox_41 rfl lm_8_85 (by decide) rfl rfl rfl rfl hq41 ?_
        refine x_iload_n (pc' := 45) dX8_isBox_44 rfl rfl ?_
        refine x_iload_n (pc' := 46) dX8_isBox_45 rfl rfl ?_
        refine x_iconst (pc' := 47) (w := (1 : Int32)) dX8_isBox_46 rfl k_ic_1 ?_
        refine x_isub (pc' := 48) dX8_isBox_47 rfl ?_
        obtain ⟨q48, hq48, h⟩ := Option.bind_eq_some_iff.mp h
        refine x_statI (pc' := 51) (as := [.int x0, .int (x1 - (1 : Int32))]) (rest := [.int (q41.1)]) dX8_isBox_48 rfl lm_8_85 (by decide) rfl rfl rfl rfl hq48 ?_
        by_cases c51 : q48.1 ≤ q41.1
        · replace h := (if_pos c51).symm.trans h
          refine x_icmp_ge_t (pc' := 56) dX8_isBox_51 (by decide) c51 ?_
          refine x_iinc (pc' := 59) (w := (1 : Int32)) (ls' := [.int x0, .int (x1 + (1 : Int32))]) dX8_isBox_56 rfl rfl k_ic_1 rfl ?_
          refine x_goto (pc' := 14) dX8_isBox_59 (by decide) ?_
          exact h
        · replace h := (if_neg c51).symm.trans h
          refine x_icmp_ge_f (pc' := 54) dX8_isBox_51 (by decide) rfl c51 ?_
          refine x_iconst (pc' := 55) (w := (0 : Int32)) dX8_isBox_54 rfl k_ic_0 ?_
          exact x_zret dX8_isBox_55 rfl (Or.inl rfl) ((tb_dI_ok _ _).trans h)
/-! X8_isTerm (45,) -/
theorem BX8_isTerm_0 {d : Nat} {x1 : Int32} {S : tb_St} {r : Int32 × tb_St} (h : ((tb_cI d mX8_within [.int x1, .int (0 : Int32), .int ((S 45 0) - (1 : Int32))] S).bind fun q8 => (if q8.1 = 0 ∨ q8.1 = 1 then some (q8.1, q8.2) else none)) = some r) : tb_E d mX8_isTerm tb_dI 0 [.ref 45, .int x1] [] tb_S S = some r := by
  refine x_iload_n (pc' := 1) dX8_isTerm_0 rfl rfl ?_
  refine x_iconst (pc' := 2) (w := (0 : Int32)) dX8_isTerm_1 rfl k_ic_0 ?_
  refine x_aload_n (pc' := 3) dX8_isTerm_2 rfl rfl ?_
  refine x_getI (pc' := 6) (v := S 45 0) dX8_isTerm_3 rfl lf_8_77 rfl sh_45 rfl ?_
  refine x_iconst (pc' := 7) (w := (1 : Int32)) dX8_isTerm_6 rfl k_ic_1 ?_
  refine x_isub (pc' := 8) dX8_isTerm_7 rfl ?_
  obtain ⟨q8, hq8, h⟩ := Option.bind_eq_some_iff.mp h
  refine x_statI (pc' := 11) (as := [.int x1, .int (0 : Int32), .int ((S 45 0) - (1 : Int32))]) (rest := []) dX8_isTerm_8 rfl lm_8_80 (by decide) rfl rfl rfl rfl hq8 ?_
  by_cases c11 : q8.1 = 0 ∨ q8.1 = 1
  · replace h := (if_pos c11).symm.trans h
    exact x_zret dX8_isTerm_11 rfl c11 ((tb_dI_ok _ _).trans h)
  · replace h := (if_neg c11).symm.trans h
    cases h
theorem MX8_isTerm {d : Nat} {x1 : Int32} {S : tb_St} {r : Int32 × tb_St} (h : ((tb_cI d mX8_within [.int x1, .int (0 : Int32), .int ((S 45 0) - (1 : Int32))] S).bind fun q8 => (if q8.1 = 0 ∨ q8.1 = 1 then some (q8.1, q8.2) else none)) = some r) : tb_cI (d + 1) mX8_isTerm [.ref 45, .int x1] S = some r := tb_enI rfl rfl (BX8_isTerm_0 h)
/-! X7_isBox () -/
theorem BX7_isBox_0 {d : Nat} {x0 : Int32} {w1 w2 w3 : Value} {S : tb_St} {r : Int32 × tb_St} (h : ((if x0 < 0 then some ((0 : Int32), S) else (if x0 ≤ (999999 : Int32) then tb_E d mX7_isBox tb_dI 17 [.int x0, .int (0 : Int32), .int (0 : Int32), w3] [] tb_S S else some ((0 : Int32), S)))) = some r) : tb_E d mX7_isBox tb_dI 0 [.int x0, w1, w2, w3] [] tb_S S = some r := by
  refine x_iload_n (pc' := 1) dX7_isBox_0 rfl rfl ?_
  by_cases c1 : x0 < 0
  · replace h := (if_pos c1).symm.trans h
    refine x_if_lt_t (pc' := 11) dX7_isBox_1 (by decide) c1 ?_
    refine x_iconst (pc' := 12) (w := (0 : Int32)) dX7_isBox_11 rfl k_ic_0 ?_
    exact x_zret dX7_isBox_12 rfl (Or.inl rfl) ((tb_dI_ok _ _).trans h)
  · replace h := (if_neg c1).symm.trans h
    refine x_if_lt_f (pc' := 4) dX7_isBox_1 (by decide) rfl c1 ?_
    refine x_iload_n (pc' := 5) dX7_isBox_4 rfl rfl ?_
    refine x_ldc_w (pc' := 8) dX7_isBox_5 rfl lk_7_274 ?_
    by_cases c8 : x0 ≤ (999999 : Int32)
    · replace h := (if_pos c8).symm.trans h
      refine x_icmp_le_t (pc' := 13) dX7_isBox_8 (by decide) c8 ?_
      refine x_iconst (pc' := 14) (w := (0 : Int32)) dX7_isBox_13 rfl k_ic_0 ?_
      refine x_istore_n (pc' := 15) (ls' := [.int x0, .int (0 : Int32), w2, w3]) dX7_isBox_14 rfl rfl rfl ?_
      refine x_iconst (pc' := 16) (w := (0 : Int32)) dX7_isBox_15 rfl k_ic_0 ?_
      refine x_istore_n (pc' := 17) (ls' := [.int x0, .int (0 : Int32), .int (0 : Int32), w3]) dX7_isBox_16 rfl rfl rfl ?_
      exact h
    · replace h := (if_neg c8).symm.trans h
      refine x_icmp_le_f (pc' := 11) dX7_isBox_8 (by decide) rfl c8 ?_
      refine x_iconst (pc' := 12) (w := (0 : Int32)) dX7_isBox_11 rfl k_ic_0 ?_
      exact x_zret dX7_isBox_12 rfl (Or.inl rfl) ((tb_dI_ok _ _).trans h)
theorem MX7_isBox {d : Nat} {x0 : Int32} {S : tb_St} {r : Int32 × tb_St} (h : ((if x0 < 0 then some ((0 : Int32), S) else (if x0 ≤ (999999 : Int32) then tb_E d mX7_isBox tb_dI 17 [.int x0, .int (0 : Int32), .int (0 : Int32), tb_jk] [] tb_S S else some ((0 : Int32), S)))) = some r) : tb_cI (d + 1) mX7_isBox [.int x0] S = some r := tb_enI rfl rfl (BX7_isBox_0 h)
theorem BX7_isBox_17 {d : Nat} {x0 x1 x2 : Int32} {w3 : Value} {S : tb_St} {r : Int32 × tb_St} (h : ((if (6 : Int32) ≤ x2 then some ((1 : Int32), S) else (tb_cI d mX7_figure [.int x0, .int x2] S).bind fun q25 => (tb_cI d mX7_canBe [.int (q25.1), .int x2, .int x1] (q25.2)).bind fun q32 => (if ¬ q32.1 = 0 then tb_E d mX7_isBox tb_dI 17 [.int x0, .int (q25.1), .int (x2 + (1 : Int32)), .int (q25.1)] [] tb_S (q32.2) else some ((0 : Int32), q32.2)))) = some r) : tb_E d mX7_isBox tb_dI 17 [.int x0, .int x1, .int x2, w3] [] tb_S S = some r := by
  refine x_iload_n (pc' := 18) dX7_isBox_17 rfl rfl ?_
  refine x_bipush (pc' := 20) (w := (6 : Int32)) dX7_isBox_18 rfl k_bi_6 ?_
  by_cases c20 : (6 : Int32) ≤ x2
  · replace h := (if_pos c20).symm.trans h
    refine x_icmp_ge_t (pc' := 48) dX7_isBox_20 (by decide) c20 ?_
    refine x_iconst (pc' := 49) (w := (1 : Int32)) dX7_isBox_48 rfl k_ic_1 ?_
    exact x_zret dX7_isBox_49 rfl (Or.inr rfl) ((tb_dI_ok _ _).trans h)
  · replace h := (if_neg c20).symm.trans h
    refine x_icmp_ge_f (pc' := 23) dX7_isBox_20 (by decide) rfl c20 ?_
    refine x_iload_n (pc' := 24) dX7_isBox_23 rfl rfl ?_
    refine x_iload_n (pc' := 25) dX7_isBox_24 rfl rfl ?_
    obtain ⟨q25, hq25, h⟩ := Option.bind_eq_some_iff.mp h
    refine x_statI (pc' := 28) (as := [.int x0, .int x2]) (rest := []) dX7_isBox_25 rfl lm_7_275 (by decide) rfl rfl rfl rfl hq25 ?_
    refine x_istore_n (pc' := 29) (ls' := [.int x0, .int x1, .int x2, .int (q25.1)]) dX7_isBox_28 rfl rfl rfl ?_
    refine x_iload_n (pc' := 30) dX7_isBox_29 rfl rfl ?_
    refine x_iload_n (pc' := 31) dX7_isBox_30 rfl rfl ?_
    refine x_iload_n (pc' := 32) dX7_isBox_31 rfl rfl ?_
    obtain ⟨q32, hq32, h⟩ := Option.bind_eq_some_iff.mp h
    refine x_statI (pc' := 35) (as := [.int (q25.1), .int x2, .int x1]) (rest := []) dX7_isBox_32 rfl lm_7_278 (by decide) rfl rfl rfl rfl hq32 ?_
    by_cases c35 : ¬ q32.1 = 0
    · replace h := (if_pos c35).symm.trans h
      refine x_if_ne_t (pc' := 40) dX7_isBox_35 (by decide) c35 ?_
      refine x_iload_n (pc' := 41) dX7_isBox_40 rfl rfl ?_
      refine x_istore_n (pc' := 42) (ls' := [.int x0, .int (q25.1), .int x2, .int (q25.1)]) dX7_isBox_41 rfl rfl rfl ?_
      refine x_iinc (pc' := 45) (w := (1 : Int32)) (ls' := [.int x0, .int (q25.1), .int (x2 + (1 : Int32)), .int (q25.1)]) dX7_isBox_42 rfl rfl k_ic_1 rfl ?_
      refine x_goto (pc' := 17) dX7_isBox_45 (by decide) ?_
      exact h
    · replace h := (if_neg c35).symm.trans h
      refine x_if_ne_f (pc' := 38) dX7_isBox_35 (by decide) rfl c35 ?_
      refine x_iconst (pc' := 39) (w := (0 : Int32)) dX7_isBox_38 rfl k_ic_0 ?_
      exact x_zret dX7_isBox_39 rfl (Or.inl rfl) ((tb_dI_ok _ _).trans h)
/-! X5_has (2,) -/
theorem BX5_has_0 {d : Nat} {x1 : Int32} {S : tb_St} {r : Int32 × tb_St} (h : ((if x1 < 0 then some ((0 : Int32), S) else (if S 2 7 ≤ x1 then some ((0 : Int32), S) else some ((1 : Int32), S)))) = some r) : tb_E d mX5_has tb_dI 0 [.ref 2, .int x1] [] tb_S S = some r := by
  refine x_iload_n (pc' := 1) dX5_has_0 rfl rfl ?_
  by_cases c1 : x1 < 0
  · replace h := (if_pos c1).symm.trans h
    refine x_if_lt_t (pc' := 16) dX5_has_1 (by decide) c1 ?_
    refine x_iconst (pc' := 17) (w := (0 : Int32)) dX5_has_16 rfl k_ic_0 ?_
    exact x_zret dX5_has_17 rfl (Or.inl rfl) ((tb_dI_ok _ _).trans h)
  · replace h := (if_neg c1).symm.trans h
    refine x_if_lt_f (pc' := 4) dX5_has_1 (by decide) rfl c1 ?_
    refine x_iload_n (pc' := 5) dX5_has_4 rfl rfl ?_
    refine x_aload_n (pc' := 6) dX5_has_5 rfl rfl ?_
    refine x_getI (pc' := 9) (v := S 2 7) dX5_has_6 rfl lf_5_33 rfl sh_2 rfl ?_
    by_cases c9 : S 2 7 ≤ x1
    · replace h := (if_pos c9).symm.trans h
      refine x_icmp_ge_t (pc' := 16) dX5_has_9 (by decide) c9 ?_
      refine x_iconst (pc' := 17) (w := (0 : Int32)) dX5_has_16 rfl k_ic_0 ?_
      exact x_zret dX5_has_17 rfl (Or.inl rfl) ((tb_dI_ok _ _).trans h)
    · replace h := (if_neg c9).symm.trans h
      refine x_icmp_ge_f (pc' := 12) dX5_has_9 (by decide) rfl c9 ?_
      refine x_iconst (pc' := 13) (w := (1 : Int32)) dX5_has_12 rfl k_ic_1 ?_
      refine x_goto (pc' := 17) dX5_has_13 (by decide) ?_
      exact x_zret dX5_has_17 rfl (Or.inr rfl) ((tb_dI_ok _ _).trans h)
theorem MX5_has {d : Nat} {x1 : Int32} {S : tb_St} {r : Int32 × tb_St} (h : ((if x1 < 0 then some ((0 : Int32), S) else (if S 2 7 ≤ x1 then some ((0 : Int32), S) else some ((1 : Int32), S)))) = some r) : tb_cI (d + 1) mX5_has [.ref 2, .int x1] S = some r := tb_enI rfl rfl (BX5_has_0 h)
/-! X8_adds (45,) -/
theorem BX8_adds_0 {d : Nat} {x1 x2 x3 x4 x5 : Int32} {S : tb_St} {r : Int32 × tb_St} (h : ((if ¬ S 45 0 = (24 : Int32) then (tb_cV d mX8_lays [.ref 45, .int (S 45 0), .int x1, .int x2, .int x3, .int x4, .int x5] S).bind fun q24 => (tb_ix (q24 45 0) 96).bind fun j35 => (if q24 51 j35 ≤ (40 : Int32) then some (q24 45 0, tb_up q24 45 0 ((q24 45 0) + (1 : Int32))) else some ((-4 : Int32), q24)) else some ((-4 : Int32), S))) = some r) : tb_E d mX8_adds tb_dI 0 [.ref 45, .int x1, .int x2, .int x3, .int x4, .int x5] [] tb_S S = some r := by
  refine x_aload_n (pc' := 1) dX8_adds_0 rfl rfl ?_
  refine x_getI (pc' := 4) (v := S 45 0) dX8_adds_1 rfl lf_8_77 rfl sh_45 rfl ?_
  refine x_bipush (pc' := 6) (w := (24 : Int32)) dX8_adds_4 rfl k_bi_24 ?_
  by_cases c6 : ¬ S 45 0 = (24 : Int32)
  · replace h := (if_pos c6).symm.trans h
    refine x_icmp_ne_t (pc' := 12) dX8_adds_6 (by decide) c6 ?_
    refine x_aload_n (pc' := 13) dX8_adds_12 rfl rfl ?_
    refine x_aload_n (pc' := 14) dX8_adds_13 rfl rfl ?_
    refine x_getI (pc' := 17) (v := S 45 0) dX8_adds_14 rfl lf_8_77 rfl sh_45 rfl ?_
    refine x_iload_n (pc' := 18) dX8_adds_17 rfl rfl ?_
    refine x_iload_n (pc' := 19) dX8_adds_18 rfl rfl ?_
    refine x_iload_n (pc' := 20) dX8_adds_19 rfl rfl ?_
    refine x_iload (pc' := 22) dX8_adds_20 rfl rfl ?_
    refine x_iload (pc' := 24) dX8_adds_22 rfl rfl ?_
    obtain ⟨q24, hq24, h⟩ := Option.bind_eq_some_iff.mp h
    refine x_virtV (pc' := 27) (o := 45) (as := [.int (S 45 0), .int x1, .int x2, .int x3, .int x4, .int x5]) (rest := []) dX8_adds_24 rfl lm_8_101 rfl rfl rfl sh_45 rfl hq24 ?_
    refine x_aload_n (pc' := 28) dX8_adds_27 rfl rfl ?_
    refine x_getR (pc' := 31) dX8_adds_28 rfl lf_8_27 rfl sh_45 rfl ?_
    refine x_aload_n (pc' := 32) dX8_adds_31 rfl rfl ?_
    refine x_getI (pc' := 35) (v := q24 45 0) dX8_adds_32 rfl lf_8_77 rfl sh_45 rfl ?_
    obtain ⟨j35, hj35, h⟩ := Option.bind_eq_some_iff.mp h
    refine x_iaload (pc' := 36) (v := q24 51 j35) dX8_adds_35 rfl sh_51 hj35 rfl ?_
    refine x_bipush (pc' := 38) (w := (40 : Int32)) dX8_adds_36 rfl k_bi_40 ?_
    by_cases c38 : q24 51 j35 ≤ (40 : Int32)
    · replace h := (if_pos c38).symm.trans h
      refine x_icmp_le_t (pc' := 46) dX8_adds_38 (by decide) c38 ?_
      refine x_aload_n (pc' := 47) dX8_adds_46 rfl rfl ?_
      refine x_dup (pc' := 48) dX8_adds_47 rfl rfl ?_
      refine x_getI (pc' := 51) (v := q24 45 0) dX8_adds_48 rfl lf_8_77 rfl sh_45 rfl ?_
      refine x_dup_x1 (pc' := 52) dX8_adds_51 rfl rfl ?_
      refine x_iconst (pc' := 53) (w := (1 : Int32)) dX8_adds_52 rfl k_ic_1 ?_
      refine x_iadd (pc' := 54) dX8_adds_53 rfl ?_
      refine x_putI (pc' := 57) dX8_adds_54 rfl lf_8_77 (Or.inl rfl) sh_45 ?_
      exact x_iret dX8_adds_57 rfl ((tb_dI_ok _ _).trans h)
    · replace h := (if_neg c38).symm.trans h
      refine x_icmp_le_f (pc' := 41) dX8_adds_38 (by decide) rfl c38 ?_
      refine x_bipush (pc' := 43) (w := (-4 : Int32)) dX8_adds_41 rfl k_bi_m4 ?_
      refine x_goto (pc' := 57) dX8_adds_43 (by decide) ?_
      exact x_iret dX8_adds_57 rfl ((tb_dI_ok _ _).trans h)
  · replace h := (if_neg c6).symm.trans h
    refine x_icmp_ne_f (pc' := 9) dX8_adds_6 (by decide) rfl c6 ?_
    refine x_bipush (pc' := 11) (w := (-4 : Int32)) dX8_adds_9 rfl k_bi_m4 ?_
    exact x_iret dX8_adds_11 rfl ((tb_dI_ok _ _).trans h)
theorem MX8_adds {d : Nat} {x1 : Int32} {x2 : Int32} {x3 : Int32} {x4 : Int32} {x5 : Int32} {S : tb_St} {r : Int32 × tb_St} (h : ((if ¬ S 45 0 = (24 : Int32) then (tb_cV d mX8_lays [.ref 45, .int (S 45 0), .int x1, .int x2, .int x3, .int x4, .int x5] S).bind fun q24 => (tb_ix (q24 45 0) 96).bind fun j35 => (if q24 51 j35 ≤ (40 : Int32) then some (q24 45 0, tb_up q24 45 0 ((q24 45 0) + (1 : Int32))) else some ((-4 : Int32), q24)) else some ((-4 : Int32), S))) = some r) : tb_cI (d + 1) mX8_adds [.ref 45, .int x1, .int x2, .int x3, .int x4, .int x5] S = some r := tb_enI rfl rfl (BX8_adds_0 h)
/-! X8_within () -/
theorem BX8_within_0 {d : Nat} {x0 x1 x2 : Int32} {S : tb_St} {r : Int32 × tb_St} (h : ((if x0 < x1 then some ((0 : Int32), S) else (if x2 < x0 then some ((0 : Int32), S) else some ((1 : Int32), S)))) = some r) : tb_E d mX8_within tb_dI 0 [.int x0, .int x1, .int x2] [] tb_S S = some r := by
  refine x_iload_n (pc' := 1) dX8_within_0 rfl rfl ?_
  refine x_iload_n (pc' := 2) dX8_within_1 rfl rfl ?_
  by_cases c2 : x0 < x1
  · replace h := (if_pos c2).symm.trans h
    refine x_icmp_lt_t (pc' := 14) dX8_within_2 (by decide) c2 ?_
    refine x_iconst (pc' := 15) (w := (0 : Int32)) dX8_within_14 rfl k_ic_0 ?_
    exact x_zret dX8_within_15 rfl (Or.inl rfl) ((tb_dI_ok _ _).trans h)
  · replace h := (if_neg c2).symm.trans h
    refine x_icmp_lt_f (pc' := 5) dX8_within_2 (by decide) rfl c2 ?_
    refine x_iload_n (pc' := 6) dX8_within_5 rfl rfl ?_
    refine x_iload_n (pc' := 7) dX8_within_6 rfl rfl ?_
    by_cases c7 : x2 < x0
    · replace h := (if_pos c7).symm.trans h
      refine x_icmp_gt_t (pc' := 14) dX8_within_7 (by decide) c7 ?_
      refine x_iconst (pc' := 15) (w := (0 : Int32)) dX8_within_14 rfl k_ic_0 ?_
      exact x_zret dX8_within_15 rfl (Or.inl rfl) ((tb_dI_ok _ _).trans h)
    · replace h := (if_neg c7).symm.trans h
      refine x_icmp_gt_f (pc' := 10) dX8_within_7 (by decide) rfl c7 ?_
      refine x_iconst (pc' := 11) (w := (1 : Int32)) dX8_within_10 rfl k_ic_1 ?_
      refine x_goto (pc' := 15) dX8_within_11 (by decide) ?_
      exact x_zret dX8_within_15 rfl (Or.inr rfl) ((tb_dI_ok _ _).trans h)
theorem MX8_within {d : Nat} {x0 : Int32} {x1 : Int32} {x2 : Int32} {S : tb_St} {r : Int32 × tb_St} (h : ((if x0 < x1 then some ((0 : Int32), S) else (if x2 < x0 then some ((0 : Int32), S) else some ((1 : Int32), S)))) = some r) : tb_cI (d + 1) mX8_within [.int x0, .int x1, .int x2] S = some r := tb_enI rfl rfl (BX8_within_0 h)
/-! X5_add (2,) -/
theorem BX5_add_0 {d : Nat} {x1 x2 x3 x4 x5 : Int32} {w6 : Value} {S : tb_St} {r : Int32 × tb_St} (h : ((tb_cI d mX5_sizeOf [.ref 2, .int x4] S).bind fun q4 => (tb_cI d mX5_sizeOf [.ref 2, .int x5] (q4.2)).bind fun q11 => (if (24 : Int32) ≤ (q11.2) 2 7 then some ((-4 : Int32), q11.2) else (if ((1 : Int32) + (q4.1)) + (q11.1) ≤ (40 : Int32) then (tb_ix ((q11.2) 2 7) 24).bind fun j45 => (tb_ix ((q11.2) 2 7) 24).bind fun j55 => (tb_ix ((q11.2) 2 7) 24).bind fun j65 => (tb_ix ((q11.2) 2 7) 24).bind fun j76 => (tb_ix ((q11.2) 2 7) 24).bind fun j87 => (tb_ix ((q11.2) 2 7) 24).bind fun j98 => (tb_cI d mX5_depthOf [.ref 2, .int x4] (tb_up (tb_up (tb_up (tb_up (tb_up (tb_up (q11.2) 3 j45 x1) 4 j55 x2) 5 j65 x3) 6 j76 x4) 7 j87 x5) 8 j98 (((1 : Int32) + (q4.1)) + (q11.1)))).bind fun q111 => (tb_cI d mX5_depthOf [.ref 2, .int x5] (q111.2)).bind fun q117 => (tb_ix ((q11.2) 2 7) 24).bind fun j124 => some ((((q117.2) 2 7) + (1 : Int32)) - (1 : Int32), tb_up (tb_up (q117.2) 9 j124 ((1 : Int32) + (tb_max (q111.1) (q117.1)))) 2 7 (((q117.2) 2 7) + (1 : Int32))) else some ((-4 : Int32), q11.2)))) = some r) : tb_E d mX5_add tb_dI 0 [.ref 2, .int x1, .int x2, .int x3, .int x4, .int x5, w6] [] tb_S S = some r := by
  refine x_iconst (pc' := 1) (w := (1 : Int32)) dX5_add_0 rfl k_ic_1 ?_
  refine x_aload_n (pc' := 2) dX5_add_1 rfl rfl ?_
  refine x_iload (pc' := 4) dX5_add_2 rfl rfl ?_
  obtain ⟨q4, hq4, h⟩ := Option.bind_eq_some_iff.mp h
  refine x_virtI (pc' := 7) (o := 2) (as := [.int x4]) (rest := [.int (1 : Int32)]) dX5_add_4 rfl lm_5_37 rfl rfl rfl sh_2 rfl hq4 ?_
  refine x_iadd (pc' := 8) dX5_add_7 rfl ?_
  refine x_aload_n (pc' := 9) dX5_add_8 rfl rfl ?_
  refine x_iload (pc' := 11) dX5_add_9 rfl rfl ?_
  obtain ⟨q11, hq11, h⟩ := Option.bind_eq_some_iff.mp h
  refine x_virtI (pc' := 14) (o := 2) (as := [.int x5]) (rest := [.int ((1 : Int32) + (q4.1))]) dX5_add_11 rfl lm_5_37 rfl rfl rfl sh_2 rfl hq11 ?_
  refine x_iadd (pc' := 15) dX5_add_14 rfl ?_
  refine x_istore (pc' := 17) (ls' := [.ref 2, .int x1, .int x2, .int x3, .int x4, .int x5, .int (((1 : Int32) + (q4.1)) + (q11.1))]) dX5_add_15 rfl rfl rfl ?_
  refine x_aload_n (pc' := 18) dX5_add_17 rfl rfl ?_
  refine x_getI (pc' := 21) (v := (q11.2) 2 7) dX5_add_18 rfl lf_5_33 rfl sh_2 rfl ?_
  refine x_bipush (pc' := 23) (w := (24 : Int32)) dX5_add_21 rfl k_bi_24 ?_
  by_cases c23 : (24 : Int32) ≤ (q11.2) 2 7
  · replace h := (if_pos c23).symm.trans h
    refine x_icmp_ge_t (pc' := 33) dX5_add_23 (by decide) c23 ?_
    refine x_bipush (pc' := 35) (w := (-4 : Int32)) dX5_add_33 rfl k_bi_m4 ?_
    exact x_iret dX5_add_35 rfl ((tb_dI_ok _ _).trans h)
  · replace h := (if_neg c23).symm.trans h
    refine x_icmp_ge_f (pc' := 26) dX5_add_23 (by decide) rfl c23 ?_
    refine x_iload (pc' := 28) dX5_add_26 rfl rfl ?_
    refine x_bipush (pc' := 30) (w := (40 : Int32)) dX5_add_28 rfl k_bi_40 ?_
    by_cases c30 : ((1 : Int32) + (q4.1)) + (q11.1) ≤ (40 : Int32)
    · replace h := (if_pos c30).symm.trans h
      refine x_icmp_le_t (pc' := 36) dX5_add_30 (by decide) c30 ?_
      refine x_aload_n (pc' := 37) dX5_add_36 rfl rfl ?_
      refine x_getR (pc' := 40) dX5_add_37 rfl lf_5_9 rfl sh_2 rfl ?_
      refine x_aload_n (pc' := 41) dX5_add_40 rfl rfl ?_
      refine x_getI (pc' := 44) (v := (q11.2) 2 7) dX5_add_41 rfl lf_5_33 rfl sh_2 rfl ?_
      refine x_iload_n (pc' := 45) dX5_add_44 rfl rfl ?_
      obtain ⟨j45, hj45, h⟩ := Option.bind_eq_some_iff.mp h
      refine x_iastore (pc' := 46) dX5_add_45 rfl sh_3 hj45 ?_
      refine x_aload_n (pc' := 47) dX5_add_46 rfl rfl ?_
      refine x_getR (pc' := 50) dX5_add_47 rfl lf_5_15 rfl sh_2 rfl ?_
      refine x_aload_n (pc' := 51) dX5_add_50 rfl rfl ?_
      refine x_getI (pc' := 54) (v := (q11.2) 2 7) dX5_add_51 rfl lf_5_33 rfl sh_2 rfl ?_
      refine x_iload_n (pc' := 55) dX5_add_54 rfl rfl ?_
      obtain ⟨j55, hj55, h⟩ := Option.bind_eq_some_iff.mp h
      refine x_iastore (pc' := 56) dX5_add_55 rfl sh_4 hj55 ?_
      refine x_aload_n (pc' := 57) dX5_add_56 rfl rfl ?_
      refine x_getR (pc' := 60) dX5_add_57 rfl lf_5_18 rfl sh_2 rfl ?_
      refine x_aload_n (pc' := 61) dX5_add_60 rfl rfl ?_
      refine x_getI (pc' := 64) (v := (q11.2) 2 7) dX5_add_61 rfl lf_5_33 rfl sh_2 rfl ?_
      refine x_iload_n (pc' := 65) dX5_add_64 rfl rfl ?_
      obtain ⟨j65, hj65, h⟩ := Option.bind_eq_some_iff.mp h
      refine x_iastore (pc' := 66) dX5_add_65 rfl sh_5 hj65 ?_
      refine x_aload_n (pc' := 67) dX5_add_66 rfl rfl ?_
      refine x_getR (pc' := 70) dX5_add_67 rfl lf_5_21 rfl sh_2 rfl ?_
      refine x_aload_n (pc' := 71) dX5_add_70 rfl rfl ?_
      refine x_getI (pc' := 74) (v := (q11.2) 2 7) dX5_add_71 rfl lf_5_33 rfl sh_2 rfl ?_
      refine x_iload (pc' := 76) dX5_add_74 rfl rfl ?_
      obtain ⟨j76, hj76, h⟩ := Option.bind_eq_some_iff.mp h
      refine x_iastore (pc' := 77) dX5_add_76 rfl sh_6 hj76 ?_
      refine x_aload_n (pc' := 78) dX5_add_77 rfl rfl ?_
      refine x_getR (pc' := 81) dX5_add_78 rfl lf_5_24 rfl sh_2 rfl ?_
      refine x_aload_n (pc' := 82) dX5_add_81 rfl rfl ?_
      refine x_getI (pc' := 85) (v := (q11.2) 2 7) dX5_add_82 rfl lf_5_33 rfl sh_2 rfl ?_
      refine x_iload (pc' := 87) dX5_add_85 rfl rfl ?_
      obtain ⟨j87, hj87, h⟩ := Option.bind_eq_some_iff.mp h
      refine x_iastore (pc' := 88) dX5_add_87 rfl sh_7 hj87 ?_
      refine x_aload_n (pc' := 89) dX5_add_88 rfl rfl ?_
      refine x_getR (pc' := 92) dX5_add_89 rfl lf_5_27 rfl sh_2 rfl ?_
      refine x_aload_n (pc' := 93) dX5_add_92 rfl rfl ?_
      refine x_getI (pc' := 96) (v := (q11.2) 2 7) dX5_add_93 rfl lf_5_33 rfl sh_2 rfl ?_
      refine x_iload (pc' := 98) dX5_add_96 rfl rfl ?_
      obtain ⟨j98, hj98, h⟩ := Option.bind_eq_some_iff.mp h
      refine x_iastore (pc' := 99) dX5_add_98 rfl sh_8 hj98 ?_
      refine x_aload_n (pc' := 100) dX5_add_99 rfl rfl ?_
      refine x_getR (pc' := 103) dX5_add_100 rfl lf_5_30 rfl sh_2 rfl ?_
      refine x_aload_n (pc' := 104) dX5_add_103 rfl rfl ?_
      refine x_getI (pc' := 107) (v := (q11.2) 2 7) dX5_add_104 rfl lf_5_33 rfl sh_2 rfl ?_
      refine x_iconst (pc' := 108) (w := (1 : Int32)) dX5_add_107 rfl k_ic_1 ?_
      refine x_aload_n (pc' := 109) dX5_add_108 rfl rfl ?_
      refine x_iload (pc' := 111) dX5_add_109 rfl rfl ?_
      obtain ⟨q111, hq111, h⟩ := Option.bind_eq_some_iff.mp h
      refine x_virtI (pc' := 114) (o := 2) (as := [.int x4]) (rest := [.int (1 : Int32), .int ((q11.2) 2 7), .ref 9]) dX5_add_111 rfl lm_5_41 rfl rfl rfl sh_2 rfl hq111 ?_
      refine x_aload_n (pc' := 115) dX5_add_114 rfl rfl ?_
      refine x_iload (pc' := 117) dX5_add_115 rfl rfl ?_
      obtain ⟨q117, hq117, h⟩ := Option.bind_eq_some_iff.mp h
      refine x_virtI (pc' := 120) (o := 2) (as := [.int x5]) (rest := [.int (q111.1), .int (1 : Int32), .int ((q11.2) 2 7), .ref 9]) dX5_add_117 rfl lm_5_41 rfl rfl rfl sh_2 rfl hq117 ?_
      refine x_mm (pc' := 123) (w := tb_max (q111.1) (q117.1)) dX5_add_120 rfl ln_5_44 lx_5_44 rfl rfl ?_
      refine x_iadd (pc' := 124) dX5_add_123 rfl ?_
      obtain ⟨j124, hj124, h⟩ := Option.bind_eq_some_iff.mp h
      refine x_iastore (pc' := 125) dX5_add_124 rfl sh_9 hj124 ?_
      refine x_aload_n (pc' := 126) dX5_add_125 rfl rfl ?_
      refine x_dup (pc' := 127) dX5_add_126 rfl rfl ?_
      refine x_getI (pc' := 130) (v := (q117.2) 2 7) dX5_add_127 rfl lf_5_33 rfl sh_2 rfl ?_
      refine x_iconst (pc' := 131) (w := (1 : Int32)) dX5_add_130 rfl k_ic_1 ?_
      refine x_iadd (pc' := 132) dX5_add_131 rfl ?_
      refine x_putI (pc' := 135) dX5_add_132 rfl lf_5_33 (Or.inl rfl) sh_2 ?_
      refine x_aload_n (pc' := 136) dX5_add_135 rfl rfl ?_
      refine x_getI (pc' := 139) (v := ((q117.2) 2 7) + (1 : Int32)) dX5_add_136 rfl lf_5_33 rfl sh_2 rfl ?_
      refine x_iconst (pc' := 140) (w := (1 : Int32)) dX5_add_139 rfl k_ic_1 ?_
      refine x_isub (pc' := 141) dX5_add_140 rfl ?_
      exact x_iret dX5_add_141 rfl ((tb_dI_ok _ _).trans h)
    · replace h := (if_neg c30).symm.trans h
      refine x_icmp_le_f (pc' := 33) dX5_add_30 (by decide) rfl c30 ?_
      refine x_bipush (pc' := 35) (w := (-4 : Int32)) dX5_add_33 rfl k_bi_m4 ?_
      exact x_iret dX5_add_35 rfl ((tb_dI_ok _ _).trans h)
theorem MX5_add {d : Nat} {x1 : Int32} {x2 : Int32} {x3 : Int32} {x4 : Int32} {x5 : Int32} {S : tb_St} {r : Int32 × tb_St} (h : ((tb_cI d mX5_sizeOf [.ref 2, .int x4] S).bind fun q4 => (tb_cI d mX5_sizeOf [.ref 2, .int x5] (q4.2)).bind fun q11 => (if (24 : Int32) ≤ (q11.2) 2 7 then some ((-4 : Int32), q11.2) else (if ((1 : Int32) + (q4.1)) + (q11.1) ≤ (40 : Int32) then (tb_ix ((q11.2) 2 7) 24).bind fun j45 => (tb_ix ((q11.2) 2 7) 24).bind fun j55 => (tb_ix ((q11.2) 2 7) 24).bind fun j65 => (tb_ix ((q11.2) 2 7) 24).bind fun j76 => (tb_ix ((q11.2) 2 7) 24).bind fun j87 => (tb_ix ((q11.2) 2 7) 24).bind fun j98 => (tb_cI d mX5_depthOf [.ref 2, .int x4] (tb_up (tb_up (tb_up (tb_up (tb_up (tb_up (q11.2) 3 j45 x1) 4 j55 x2) 5 j65 x3) 6 j76 x4) 7 j87 x5) 8 j98 (((1 : Int32) + (q4.1)) + (q11.1)))).bind fun q111 => (tb_cI d mX5_depthOf [.ref 2, .int x5] (q111.2)).bind fun q117 => (tb_ix ((q11.2) 2 7) 24).bind fun j124 => some ((((q117.2) 2 7) + (1 : Int32)) - (1 : Int32), tb_up (tb_up (q117.2) 9 j124 ((1 : Int32) + (tb_max (q111.1) (q117.1)))) 2 7 (((q117.2) 2 7) + (1 : Int32))) else some ((-4 : Int32), q11.2)))) = some r) : tb_cI (d + 1) mX5_add [.ref 2, .int x1, .int x2, .int x3, .int x4, .int x5] S = some r := tb_enI rfl rfl (BX5_add_0 h)
/-! X7_isFee () -/
theorem BX7_isFee_0 {d : Nat} {x0 : Int32} {S : tb_St} {r : Int32 × tb_St} (h : ((if x0 < 0 then some ((0 : Int32), S) else (if (99 : Int32) < x0 then some ((0 : Int32), S) else some ((1 : Int32), S)))) = some r) : tb_E d mX7_isFee tb_dI 0 [.int x0] [] tb_S S = some r := by
  refine x_iload_n (pc' := 1) dX7_isFee_0 rfl rfl ?_
  by_cases c1 : x0 < 0
  · replace h := (if_pos c1).symm.trans h
    refine x_if_lt_t (pc' := 14) dX7_isFee_1 (by decide) c1 ?_
    refine x_iconst (pc' := 15) (w := (0 : Int32)) dX7_isFee_14 rfl k_ic_0 ?_
    exact x_zret dX7_isFee_15 rfl (Or.inl rfl) ((tb_dI_ok _ _).trans h)
  · replace h := (if_neg c1).symm.trans h
    refine x_if_lt_f (pc' := 4) dX7_isFee_1 (by decide) rfl c1 ?_
    refine x_iload_n (pc' := 5) dX7_isFee_4 rfl rfl ?_
    refine x_bipush (pc' := 7) (w := (99 : Int32)) dX7_isFee_5 rfl k_bi_99 ?_
    by_cases c7 : (99 : Int32) < x0
    · replace h := (if_pos c7).symm.trans h
      refine x_icmp_gt_t (pc' := 14) dX7_isFee_7 (by decide) c7 ?_
      refine x_iconst (pc' := 15) (w := (0 : Int32)) dX7_isFee_14 rfl k_ic_0 ?_
      exact x_zret dX7_isFee_15 rfl (Or.inl rfl) ((tb_dI_ok _ _).trans h)
    · replace h := (if_neg c7).symm.trans h
      refine x_icmp_gt_f (pc' := 10) dX7_isFee_7 (by decide) rfl c7 ?_
      refine x_iconst (pc' := 11) (w := (1 : Int32)) dX7_isFee_10 rfl k_ic_1 ?_
      refine x_goto (pc' := 15) dX7_isFee_11 (by decide) ?_
      exact x_zret dX7_isFee_15 rfl (Or.inr rfl) ((tb_dI_ok _ _).trans h)
theorem MX7_isFee {d : Nat} {x0 : Int32} {S : tb_St} {r : Int32 × tb_St} (h : ((if x0 < 0 then some ((0 : Int32), S) else (if (99 : Int32) < x0 then some ((0 : Int32), S) else some ((1 : Int32), S)))) = some r) : tb_cI (d + 1) mX7_isFee [.int x0] S = some r := tb_enI rfl rfl (BX7_isFee_0 h)
/-! X8_count (45,) -/
theorem BX8_count_0 {d : Nat} {x1 : Int32} {w2 w3 : Value} {S : tb_St} {r : Int32 × tb_St} (h : ((if x1 = (0 : Int32) then some (S 45 0, S) else (if x1 = (1 : Int32) then some (S 45 8, S) else (if x1 = (2 : Int32) then some (S 45 21, S) else (if x1 = (3 : Int32) then some (S 45 30, S) else (if x1 = (4 : Int32) then tb_E d mX8_count tb_dI 62 [.ref 45, .int x1, .int (0 : Int32), .int (0 : Int32)] [] tb_S S else (if x1 = (5 : Int32) then tb_E d mX8_count tb_dI 93 [.ref 45, .int x1, .int (0 : Int32), .int (0 : Int32)] [] tb_S S else some ((-2 : Int32), S)))))))) = some r) : tb_E d mX8_count tb_dI 0 [.ref 45, .int x1, w2, w3] [] tb_S S = some r := by
  refine x_iconst (pc' := 1) (w := (0 : Int32)) dX8_count_0 rfl k_ic_0 ?_
  refine x_istore_n (pc' := 2) (ls' := [.ref 45, .int x1, .int (0 : Int32), w3]) dX8_count_1 rfl rfl rfl ?_
  refine x_iload_n (pc' := 3) dX8_count_2 rfl rfl ?_
  by_cases c3_0 : x1 = (0 : Int32)
  · replace h := (if_pos c3_0).symm.trans h
    refine x_tsw_in (pc' := 40) (w := (0 : Int32)) (off := 37) dX8_count_3 c3_0 (by decide) (by decide) (by decide) (by decide) ?_
    refine x_aload_n (pc' := 41) dX8_count_40 rfl rfl ?_
    refine x_getI (pc' := 44) (v := S 45 0) dX8_count_41 rfl lf_8_77 rfl sh_45 rfl ?_
    exact x_iret dX8_count_44 rfl ((tb_dI_ok _ _).trans h)
  · replace h := (if_neg c3_0).symm.trans h
    by_cases c3_1 : x1 = (1 : Int32)
    · replace h := (if_pos c3_1).symm.trans h
      refine x_tsw_in (pc' := 45) (w := (1 : Int32)) (off := 42) dX8_count_3 c3_1 (by decide) (by decide) (by decide) (by decide) ?_
      refine x_aload_n (pc' := 46) dX8_count_45 rfl rfl ?_
      refine x_getI (pc' := 49) (v := S 45 8) dX8_count_46 rfl lf_8_258 rfl sh_45 rfl ?_
      exact x_iret dX8_count_49 rfl ((tb_dI_ok _ _).trans h)
    · replace h := (if_neg c3_1).symm.trans h
      by_cases c3_2 : x1 = (2 : Int32)
      · replace h := (if_pos c3_2).symm.trans h
        refine x_tsw_in (pc' := 50) (w := (2 : Int32)) (off := 47) dX8_count_3 c3_2 (by decide) (by decide) (by decide) (by decide) ?_
        refine x_aload_n (pc' := 51) dX8_count_50 rfl rfl ?_
        refine x_getI (pc' := 54) (v := S 45 21) dX8_count_51 rfl lf_8_119 rfl sh_45 rfl ?_
        exact x_iret dX8_count_54 rfl ((tb_dI_ok _ _).trans h)
      · replace h := (if_neg c3_2).symm.trans h
        by_cases c3_3 : x1 = (3 : Int32)
        · replace h := (if_pos c3_3).symm.trans h
          refine x_tsw_in (pc' := 55) (w := (3 : Int32)) (off := 52) dX8_count_3 c3_3 (by decide) (by decide) (by decide) (by decide) ?_
          refine x_aload_n (pc' := 56) dX8_count_55 rfl rfl ?_
          refine x_getI (pc' := 59) (v := S 45 30) dX8_count_56 rfl lf_8_172 rfl sh_45 rfl ?_
          exact x_iret dX8_count_59 rfl ((tb_dI_ok _ _).trans h)
        · replace h := (if_neg c3_3).symm.trans h
          by_cases c3_4 : x1 = (4 : Int32)
          · replace h := (if_pos c3_4).symm.trans h
            refine x_tsw_in (pc' := 60) (w := (4 : Int32)) (off := 57) dX8_count_3 c3_4 (by decide) (by decide) (by decide) (by decide) ?_
            refine x_iconst (pc' := 61) (w := (0 : Int32)) dX8_count_60 rfl k_ic_0 ?_
            refine x_istore_n (pc' := 62) (ls' := [.ref 45, .int x1, .int (0 : Int32), .int (0 : Int32)]) dX8_count_61 rfl rfl rfl ?_
            exact h
          · replace h := (if_neg c3_4).symm.trans h
            by_cases c3_5 : x1 = (5 : Int32)
            · replace h := (if_pos c3_5).symm.trans h
              refine x_tsw_in (pc' := 91) (w := (5 : Int32)) (off := 88) dX8_count_3 c3_5 (by decide) (by decide) (by decide) (by decide) ?_
              refine x_iconst (pc' := 92) (w := (0 : Int32)) dX8_count_91 rfl k_ic_0 ?_
              refine x_istore_n (pc' := 93) (ls' := [.ref 45, .int x1, .int (0 : Int32), .int (0 : Int32)]) dX8_count_92 rfl rfl rfl ?_
              exact h
            · replace h := (if_neg c3_5).symm.trans h
              refine x_tsw_out (pc' := 120) dX8_count_3 (fun k0 g1 g2 g3 => ?_) (by decide) ?_
              · obtain rfl | rfl | rfl | rfl | rfl | rfl : k0 = 0 ∨ k0 = 1 ∨ k0 = 2 ∨ k0 = 3 ∨ k0 = 4 ∨ k0 = 5 := by omega
                · exact absurd (Int32.toInt_inj.mp (g3.trans (by decide +kernel : (0 : Int) = (0 : Int32).toInt))) c3_0
                · exact absurd (Int32.toInt_inj.mp (g3.trans (by decide +kernel : (1 : Int) = (1 : Int32).toInt))) c3_1
                · exact absurd (Int32.toInt_inj.mp (g3.trans (by decide +kernel : (2 : Int) = (2 : Int32).toInt))) c3_2
                · exact absurd (Int32.toInt_inj.mp (g3.trans (by decide +kernel : (3 : Int) = (3 : Int32).toInt))) c3_3
                · exact absurd (Int32.toInt_inj.mp (g3.trans (by decide +kernel : (4 : Int) = (4 : Int32).toInt))) c3_4
                · exact absurd (Int32.toInt_inj.mp (g3.trans (by decide +kernel : (5 : Int) = (5 : Int32).toInt))) c3_5
              · refine x_bipush (pc' := 122) (w := (-2 : Int32)) dX8_count_120 rfl k_bi_m2 ?_
                exact x_iret dX8_count_122 rfl ((tb_dI_ok _ _).trans h)
theorem MX8_count {d : Nat} {x1 : Int32} {S : tb_St} {r : Int32 × tb_St} (h : ((if x1 = (0 : Int32) then some (S 45 0, S) else (if x1 = (1 : Int32) then some (S 45 8, S) else (if x1 = (2 : Int32) then some (S 45 21, S) else (if x1 = (3 : Int32) then some (S 45 30, S) else (if x1 = (4 : Int32) then tb_E d mX8_count tb_dI 62 [.ref 45, .int x1, .int (0 : Int32), .int (0 : Int32)] [] tb_S S else (if x1 = (5 : Int32) then tb_E d mX8_count tb_dI 93 [.ref 45, .int x1, .int (0 : Int32), .int (0 : Int32)] [] tb_S S else some ((-2 : Int32), S)))))))) = some r) : tb_cI (d + 1) mX8_count [.ref 45, .int x1] S = some r := tb_enI rfl rfl (BX8_count_0 h)
theorem BX8_count_62 {d : Nat} {x2 x3 : Int32} {w1 : Value} {S : tb_St} {r : Int32 × tb_St} (h : ((if S 45 0 ≤ x3 then some (x2, S) else (tb_ix x3 96).bind fun j75 => (if ¬ S 46 j75 = (2 : Int32) then tb_E d mX8_count tb_dI 62 [.ref 45, w1, .int x2, .int (x3 + (1 : Int32))] [] tb_S S else tb_E d mX8_count tb_dI 62 [.ref 45, w1, .int (x2 + (1 : Int32)), .int (x3 + (1 : Int32))] [] tb_S S))) = some r) : tb_E d mX8_count tb_dI 62 [.ref 45, w1, .int x2, .int x3] [] tb_S S = some r := by
  refine x_iload_n (pc' := 63) dX8_count_62 rfl rfl ?_
  refine x_aload_n (pc' := 64) dX8_count_63 rfl rfl ?_
  refine x_getI (pc' := 67) (v := S 45 0) dX8_count_64 rfl lf_8_77 rfl sh_45 rfl ?_
  by_cases c67 : S 45 0 ≤ x3
  · replace h := (if_pos c67).symm.trans h
    refine x_icmp_ge_t (pc' := 89) dX8_count_67 (by decide) c67 ?_
    refine x_iload_n (pc' := 90) dX8_count_89 rfl rfl ?_
    exact x_iret dX8_count_90 rfl ((tb_dI_ok _ _).trans h)
  · replace h := (if_neg c67).symm.trans h
    refine x_icmp_ge_f (pc' := 70) dX8_count_67 (by decide) rfl c67 ?_
    refine x_aload_n (pc' := 71) dX8_count_70 rfl rfl ?_
    refine x_getR (pc' := 74) dX8_count_71 rfl lf_8_9 rfl sh_45 rfl ?_
    refine x_iload_n (pc' := 75) dX8_count_74 rfl rfl ?_
    obtain ⟨j75, hj75, h⟩ := Option.bind_eq_some_iff.mp h
    refine x_iaload (pc' := 76) (v := S 46 j75) dX8_count_75 rfl sh_46 hj75 rfl ?_
    refine x_iconst (pc' := 77) (w := (2 : Int32)) dX8_count_76 rfl k_ic_2 ?_
    by_cases c77 : ¬ S 46 j75 = (2 : Int32)
    · replace h := (if_pos c77).symm.trans h
      refine x_icmp_ne_t (pc' := 83) dX8_count_77 (by decide) c77 ?_
      refine x_iinc (pc' := 86) (w := (1 : Int32)) (ls' := [.ref 45, w1, .int x2, .int (x3 + (1 : Int32))]) dX8_count_83 rfl rfl k_ic_1 rfl ?_
      refine x_goto (pc' := 62) dX8_count_86 (by decide) ?_
      exact h
    · replace h := (if_neg c77).symm.trans h
      refine x_icmp_ne_f (pc' := 80) dX8_count_77 (by decide) rfl c77 ?_
      refine x_iinc (pc' := 83) (w := (1 : Int32)) (ls' := [.ref 45, w1, .int (x2 + (1 : Int32)), .int x3]) dX8_count_80 rfl rfl k_ic_1 rfl ?_
      refine x_iinc (pc' := 86) (w := (1 : Int32)) (ls' := [.ref 45, w1, .int (x2 + (1 : Int32)), .int (x3 + (1 : Int32))]) dX8_count_83 rfl rfl k_ic_1 rfl ?_
      refine x_goto (pc' := 62) dX8_count_86 (by decide) ?_
      exact h
theorem BX8_count_93 {d : Nat} {x2 x3 : Int32} {w1 : Value} {S : tb_St} {r : Int32 × tb_St} (h : ((if S 45 0 ≤ x3 then some (x2, S) else (tb_ix x3 96).bind fun j107 => tb_E d mX8_count tb_dI 93 [.ref 45, w1, .int (tb_max x2 (S 51 j107)), .int (x3 + (1 : Int32))] [] tb_S S)) = some r) : tb_E d mX8_count tb_dI 93 [.ref 45, w1, .int x2, .int x3] [] tb_S S = some r := by
  refine x_iload_n (pc' := 94) dX8_count_93 rfl rfl ?_
  refine x_aload_n (pc' := 95) dX8_count_94 rfl rfl ?_
  refine x_getI (pc' := 98) (v := S 45 0) dX8_count_95 rfl lf_8_77 rfl sh_45 rfl ?_
  by_cases c98 : S 45 0 ≤ x3
  · replace h := (if_pos c98).symm.trans h
    refine x_icmp_ge_t (pc' := 118) dX8_count_98 (by decide) c98 ?_
    refine x_iload_n (pc' := 119) dX8_count_118 rfl rfl ?_
    exact x_iret dX8_count_119 rfl ((tb_dI_ok _ _).trans h)
  · replace h := (if_neg c98).symm.trans h
    refine x_icmp_ge_f (pc' := 101) dX8_count_98 (by decide) rfl c98 ?_
    refine x_iload_n (pc' := 102) dX8_count_101 rfl rfl ?_
    refine x_aload_n (pc' := 103) dX8_count_102 rfl rfl ?_
    refine x_getR (pc' := 106) dX8_count_103 rfl lf_8_27 rfl sh_45 rfl ?_
    refine x_iload_n (pc' := 107) dX8_count_106 rfl rfl ?_
    obtain ⟨j107, hj107, h⟩ := Option.bind_eq_some_iff.mp h
    refine x_iaload (pc' := 108) (v := S 51 j107) dX8_count_107 rfl sh_51 hj107 rfl ?_
    refine x_mm (pc' := 111) (w := tb_max x2 (S 51 j107)) dX8_count_108 rfl ln_8_96 lx_8_96 rfl rfl ?_
    refine x_istore_n (pc' := 112) (ls' := [.ref 45, w1, .int (tb_max x2 (S 51 j107)), .int x3]) dX8_count_111 rfl rfl rfl ?_
    refine x_iinc (pc' := 115) (w := (1 : Int32)) (ls' := [.ref 45, w1, .int (tb_max x2 (S 51 j107)), .int (x3 + (1 : Int32))]) dX8_count_112 rfl rfl k_ic_1 rfl ?_
    refine x_goto (pc' := 93) dX8_count_115 (by decide) ?_
    exact h
/-! X7_count (1,) -/
theorem BX7_count_0 {d : Nat} {x1 : Int32} {S : tb_St} {r : Int32 × tb_St} (h : ((if x1 = (0 : Int32) then some (S 2 7, S) else (if x1 = (1 : Int32) then some (S 10 2, S) else (if x1 = (2 : Int32) then some (S 32 2, S) else (if x1 = (3 : Int32) then some (S 36 2, S) else (if x1 = (4 : Int32) then (tb_cI d mX5_countOf [.ref 2, .int (2 : Int32)] S).bind fun q77 => some (q77.1, q77.2) else (if x1 = (5 : Int32) then (tb_cI d mX5_greatestSize [.ref 2] S).bind fun q85 => some (q85.1, q85.2) else some ((-2 : Int32), S)))))))) = some r) : tb_E d mX7_count tb_dI 0 [.ref 1, .int x1] [] tb_S S = some r := by
  refine x_iload_n (pc' := 1) dX7_count_0 rfl rfl ?_
  by_cases c1_0 : x1 = (0 : Int32)
  · replace h := (if_pos c1_0).symm.trans h
    refine x_tsw_in (pc' := 40) (w := (0 : Int32)) (off := 39) dX7_count_1 c1_0 (by decide) (by decide) (by decide) (by decide) ?_
    refine x_aload_n (pc' := 41) dX7_count_40 rfl rfl ?_
    refine x_getR (pc' := 44) dX7_count_41 rfl lf_7_12 rfl sh_1 rfl ?_
    refine x_getI (pc' := 47) (v := S 2 7) dX7_count_44 rfl lf_7_89 rfl sh_2 rfl ?_
    exact x_iret dX7_count_47 rfl ((tb_dI_ok _ _).trans h)
  · replace h := (if_neg c1_0).symm.trans h
    by_cases c1_1 : x1 = (1 : Int32)
    · replace h := (if_pos c1_1).symm.trans h
      refine x_tsw_in (pc' := 48) (w := (1 : Int32)) (off := 47) dX7_count_1 c1_1 (by decide) (by decide) (by decide) (by decide) ?_
      refine x_aload_n (pc' := 49) dX7_count_48 rfl rfl ?_
      refine x_getR (pc' := 52) dX7_count_49 rfl lf_7_21 rfl sh_1 rfl ?_
      refine x_getI (pc' := 55) (v := S 10 2) dX7_count_52 rfl lf_7_266 rfl sh_10 rfl ?_
      exact x_iret dX7_count_55 rfl ((tb_dI_ok _ _).trans h)
    · replace h := (if_neg c1_1).symm.trans h
      by_cases c1_2 : x1 = (2 : Int32)
      · replace h := (if_pos c1_2).symm.trans h
        refine x_tsw_in (pc' := 56) (w := (2 : Int32)) (off := 55) dX7_count_1 c1_2 (by decide) (by decide) (by decide) (by decide) ?_
        refine x_aload_n (pc' := 57) dX7_count_56 rfl rfl ?_
        refine x_getR (pc' := 60) dX7_count_57 rfl lf_7_54 rfl sh_1 rfl ?_
        refine x_getI (pc' := 63) (v := S 32 2) dX7_count_60 rfl lf_7_267 rfl sh_32 rfl ?_
        exact x_iret dX7_count_63 rfl ((tb_dI_ok _ _).trans h)
      · replace h := (if_neg c1_2).symm.trans h
        by_cases c1_3 : x1 = (3 : Int32)
        · replace h := (if_pos c1_3).symm.trans h
          refine x_tsw_in (pc' := 64) (w := (3 : Int32)) (off := 63) dX7_count_1 c1_3 (by decide) (by decide) (by decide) (by decide) ?_
          refine x_aload_n (pc' := 65) dX7_count_64 rfl rfl ?_
          refine x_getR (pc' := 68) dX7_count_65 rfl lf_7_61 rfl sh_1 rfl ?_
          refine x_getI (pc' := 71) (v := S 36 2) dX7_count_68 rfl lf_7_142 rfl sh_36 rfl ?_
          exact x_iret dX7_count_71 rfl ((tb_dI_ok _ _).trans h)
        · replace h := (if_neg c1_3).symm.trans h
          by_cases c1_4 : x1 = (4 : Int32)
          · replace h := (if_pos c1_4).symm.trans h
            refine x_tsw_in (pc' := 72) (w := (4 : Int32)) (off := 71) dX7_count_1 c1_4 (by decide) (by decide) (by decide) (by decide) ?_
            refine x_aload_n (pc' := 73) dX7_count_72 rfl rfl ?_
            refine x_getR (pc' := 76) dX7_count_73 rfl lf_7_12 rfl sh_1 rfl ?_
            refine x_iconst (pc' := 77) (w := (2 : Int32)) dX7_count_76 rfl k_ic_2 ?_
            obtain ⟨q77, hq77, h⟩ := Option.bind_eq_some_iff.mp h
            refine x_virtI (pc' := 80) (o := 2) (as := [.int (2 : Int32)]) (rest := []) dX7_count_77 rfl lm_7_268 rfl rfl rfl sh_2 rfl hq77 ?_
            exact x_iret dX7_count_80 rfl ((tb_dI_ok _ _).trans h)
          · replace h := (if_neg c1_4).symm.trans h
            by_cases c1_5 : x1 = (5 : Int32)
            · replace h := (if_pos c1_5).symm.trans h
              refine x_tsw_in (pc' := 81) (w := (5 : Int32)) (off := 80) dX7_count_1 c1_5 (by decide) (by decide) (by decide) (by decide) ?_
              refine x_aload_n (pc' := 82) dX7_count_81 rfl rfl ?_
              refine x_getR (pc' := 85) dX7_count_82 rfl lf_7_12 rfl sh_1 rfl ?_
              obtain ⟨q85, hq85, h⟩ := Option.bind_eq_some_iff.mp h
              refine x_virtI (pc' := 88) (o := 2) (as := []) (rest := []) dX7_count_85 rfl lm_7_271 rfl rfl rfl sh_2 rfl hq85 ?_
              exact x_iret dX7_count_88 rfl ((tb_dI_ok _ _).trans h)
            · replace h := (if_neg c1_5).symm.trans h
              refine x_tsw_out (pc' := 89) dX7_count_1 (fun k0 g1 g2 g3 => ?_) (by decide) ?_
              · obtain rfl | rfl | rfl | rfl | rfl | rfl : k0 = 0 ∨ k0 = 1 ∨ k0 = 2 ∨ k0 = 3 ∨ k0 = 4 ∨ k0 = 5 := by omega
                · exact absurd (Int32.toInt_inj.mp (g3.trans (by decide +kernel : (0 : Int) = (0 : Int32).toInt))) c1_0
                · exact absurd (Int32.toInt_inj.mp (g3.trans (by decide +kernel : (1 : Int) = (1 : Int32).toInt))) c1_1
                · exact absurd (Int32.toInt_inj.mp (g3.trans (by decide +kernel : (2 : Int) = (2 : Int32).toInt))) c1_2
                · exact absurd (Int32.toInt_inj.mp (g3.trans (by decide +kernel : (3 : Int) = (3 : Int32).toInt))) c1_3
                · exact absurd (Int32.toInt_inj.mp (g3.trans (by decide +kernel : (4 : Int) = (4 : Int32).toInt))) c1_4
                · exact absurd (Int32.toInt_inj.mp (g3.trans (by decide +kernel : (5 : Int) = (5 : Int32).toInt))) c1_5
              · refine x_bipush (pc' := 91) (w := (-2 : Int32)) dX7_count_89 rfl k_bi_m2 ?_
                exact x_iret dX7_count_91 rfl ((tb_dI_ok _ _).trans h)
theorem MX7_count {d : Nat} {x1 : Int32} {S : tb_St} {r : Int32 × tb_St} (h : ((if x1 = (0 : Int32) then some (S 2 7, S) else (if x1 = (1 : Int32) then some (S 10 2, S) else (if x1 = (2 : Int32) then some (S 32 2, S) else (if x1 = (3 : Int32) then some (S 36 2, S) else (if x1 = (4 : Int32) then (tb_cI d mX5_countOf [.ref 2, .int (2 : Int32)] S).bind fun q77 => some (q77.1, q77.2) else (if x1 = (5 : Int32) then (tb_cI d mX5_greatestSize [.ref 2] S).bind fun q85 => some (q85.1, q85.2) else some ((-2 : Int32), S)))))))) = some r) : tb_cI (d + 1) mX7_count [.ref 1, .int x1] S = some r := tb_enI rfl rfl (BX7_count_0 h)
/-! X8_undo (45,) -/
theorem BX8_undo_0 {d : Nat} {w1 : Value} {S : tb_St} {r : Int32 × tb_St} (h : ((if ¬ S 45 32 = 0 then tb_E d mX8_undo tb_dI 28 [.ref 45, .int (0 : Int32)] [] tb_S (tb_up (tb_up S 45 0 (S 45 33)) 45 8 (S 45 34)) else some ((-3 : Int32), S))) = some r) : tb_E d mX8_undo tb_dI 0 [.ref 45, w1] [] tb_S S = some r := by
  refine x_aload_n (pc' := 1) dX8_undo_0 rfl rfl ?_
  refine x_getI (pc' := 4) (v := S 45 32) dX8_undo_1 rfl lf_8_270 rfl sh_45 rfl ?_
  by_cases c4 : ¬ S 45 32 = 0
  · replace h := (if_pos c4).symm.trans h
    refine x_if_ne_t (pc' := 10) dX8_undo_4 (by decide) c4 ?_
    refine x_aload_n (pc' := 11) dX8_undo_10 rfl rfl ?_
    refine x_aload_n (pc' := 12) dX8_undo_11 rfl rfl ?_
    refine x_getI (pc' := 15) (v := S 45 33) dX8_undo_12 rfl lf_8_274 rfl sh_45 rfl ?_
    refine x_putI (pc' := 18) dX8_undo_15 rfl lf_8_77 (Or.inl rfl) sh_45 ?_
    refine x_aload_n (pc' := 19) dX8_undo_18 rfl rfl ?_
    refine x_aload_n (pc' := 20) dX8_undo_19 rfl rfl ?_
    refine x_getI (pc' := 23) (v := S 45 34) dX8_undo_20 rfl lf_8_277 rfl sh_45 rfl ?_
    refine x_putI (pc' := 26) dX8_undo_23 rfl lf_8_258 (Or.inl rfl) sh_45 ?_
    refine x_iconst (pc' := 27) (w := (0 : Int32)) dX8_undo_26 rfl k_ic_0 ?_
    refine x_istore_n (pc' := 28) (ls' := [.ref 45, .int (0 : Int32)]) dX8_undo_27 rfl rfl rfl ?_
    exact h
  · replace h := (if_neg c4).symm.trans h
    refine x_if_ne_f (pc' := 7) dX8_undo_4 (by decide) rfl c4 ?_
    refine x_bipush (pc' := 9) (w := (-3 : Int32)) dX8_undo_7 rfl k_bi_m3 ?_
    exact x_iret dX8_undo_9 rfl ((tb_dI_ok _ _).trans h)
theorem MX8_undo {d : Nat} {S : tb_St} {r : Int32 × tb_St} (h : ((if ¬ S 45 32 = 0 then tb_E d mX8_undo tb_dI 28 [.ref 45, .int (0 : Int32)] [] tb_S (tb_up (tb_up S 45 0 (S 45 33)) 45 8 (S 45 34)) else some ((-3 : Int32), S))) = some r) : tb_cI (d + 1) mX8_undo [.ref 45] S = some r := tb_enI rfl rfl (BX8_undo_0 h)
theorem BX8_undo_28 {d : Nat} {x1 : Int32} {S : tb_St} {r : Int32 × tb_St} (h : ((if (24 : Int32) ≤ x1 then tb_E d mX8_undo tb_dI 145 [.ref 45, .int (0 : Int32)] [] tb_S S else (tb_ix x1 184).bind fun j44 => (tb_ix x1 96).bind fun j45 => (tb_ix ((24 : Int32) + x1) 184).bind fun j59 => (tb_ix x1 96).bind fun j60 => (tb_ix ((48 : Int32) + x1) 184).bind fun j74 => (tb_ix x1 96).bind fun j75 => (tb_ix ((72 : Int32) + x1) 184).bind fun j89 => (tb_ix x1 96).bind fun j90 => (tb_ix ((96 : Int32) + x1) 184).bind fun j104 => (tb_ix x1 96).bind fun j105 => (tb_ix ((120 : Int32) + x1) 184).bind fun j119 => (tb_ix x1 96).bind fun j120 => (tb_ix ((144 : Int32) + x1) 184).bind fun j135 => (tb_ix x1 96).bind fun j136 => tb_E d mX8_undo tb_dI 28 [.ref 45, .int (x1 + (1 : Int32))] [] tb_S (tb_up (tb_up (tb_up (tb_up (tb_up (tb_up (tb_up S 46 j45 (S 63 j44)) 47 j60 (S 63 j59)) 48 j75 (S 63 j74)) 49 j90 (S 63 j89)) 50 j105 (S 63 j104)) 51 j120 (S 63 j119)) 52 j136 (S 63 j135)))) = some r) : tb_E d mX8_undo tb_dI 28 [.ref 45, .int x1] [] tb_S S = some r := by
  refine x_iload_n (pc' := 29) dX8_undo_28 rfl rfl ?_
  refine x_bipush (pc' := 31) (w := (24 : Int32)) dX8_undo_29 rfl k_bi_24 ?_
  by_cases c31 : (24 : Int32) ≤ x1
  · replace h := (if_pos c31).symm.trans h
    refine x_icmp_ge_t (pc' := 143) dX8_undo_31 (by decide) c31 ?_
    refine x_iconst (pc' := 144) (w := (0 : Int32)) dX8_undo_143 rfl k_ic_0 ?_
    refine x_istore_n (pc' := 145) (ls' := [.ref 45, .int (0 : Int32)]) dX8_undo_144 rfl rfl rfl ?_
    exact h
  · replace h := (if_neg c31).symm.trans h
    refine x_icmp_ge_f (pc' := 34) dX8_undo_31 (by decide) rfl c31 ?_
    refine x_aload_n (pc' := 35) dX8_undo_34 rfl rfl ?_
    refine x_getR (pc' := 38) dX8_undo_35 rfl lf_8_9 rfl sh_45 rfl ?_
    refine x_iload_n (pc' := 39) dX8_undo_38 rfl rfl ?_
    refine x_aload_n (pc' := 40) dX8_undo_39 rfl rfl ?_
    refine x_getR (pc' := 43) dX8_undo_40 rfl lf_8_68 rfl sh_45 rfl ?_
    refine x_iload_n (pc' := 44) dX8_undo_43 rfl rfl ?_
    obtain ⟨j44, hj44, h⟩ := Option.bind_eq_some_iff.mp h
    refine x_iaload (pc' := 45) (v := S 63 j44) dX8_undo_44 rfl sh_63 hj44 rfl ?_
    obtain ⟨j45, hj45, h⟩ := Option.bind_eq_some_iff.mp h
    refine x_iastore (pc' := 46) dX8_undo_45 rfl sh_46 hj45 ?_
    refine x_aload_n (pc' := 47) dX8_undo_46 rfl rfl ?_
    refine x_getR (pc' := 50) dX8_undo_47 rfl lf_8_15 rfl sh_45 rfl ?_
    refine x_iload_n (pc' := 51) dX8_undo_50 rfl rfl ?_
    refine x_aload_n (pc' := 52) dX8_undo_51 rfl rfl ?_
    refine x_getR (pc' := 55) dX8_undo_52 rfl lf_8_68 rfl sh_45 rfl ?_
    refine x_bipush (pc' := 57) (w := (24 : Int32)) dX8_undo_55 rfl k_bi_24 ?_
    refine x_iload_n (pc' := 58) dX8_undo_57 rfl rfl ?_
    refine x_iadd (pc' := 59) dX8_undo_58 rfl ?_
    obtain ⟨j59, hj59, h⟩ := Option.bind_eq_some_iff.mp h
    refine x_iaload (pc' := 60) (v := S 63 j59) dX8_undo_59 rfl sh_63 hj59 rfl ?_
    obtain ⟨j60, hj60, h⟩ := Option.bind_eq_some_iff.mp h
    refine x_iastore (pc' := 61) dX8_undo_60 rfl sh_47 hj60 ?_
    refine x_aload_n (pc' := 62) dX8_undo_61 rfl rfl ?_
    refine x_getR (pc' := 65) dX8_undo_62 rfl lf_8_18 rfl sh_45 rfl ?_
    refine x_iload_n (pc' := 66) dX8_undo_65 rfl rfl ?_
    refine x_aload_n (pc' := 67) dX8_undo_66 rfl rfl ?_
    refine x_getR (pc' := 70) dX8_undo_67 rfl lf_8_68 rfl sh_45 rfl ?_
    refine x_bipush (pc' := 72) (w := (48 : Int32)) dX8_undo_70 rfl k_bi_48 ?_
    refine x_iload_n (pc' := 73) dX8_undo_72 rfl rfl ?_
    refine x_iadd (pc' := 74) dX8_undo_73 rfl ?_
    obtain ⟨j74, hj74, h⟩ := Option.bind_eq_some_iff.mp h
    refine x_iaload (pc' := 75) (v := S 63 j74) dX8_undo_74 rfl sh_63 hj74 rfl ?_
    obtain ⟨j75, hj75, h⟩ := Option.bind_eq_some_iff.mp h
    refine x_iastore (pc' := 76) dX8_undo_75 rfl sh_48 hj75 ?_
    refine x_aload_n (pc' := 77) dX8_undo_76 rfl rfl ?_
    refine x_getR (pc' := 80) dX8_undo_77 rfl lf_8_21 rfl sh_45 rfl ?_
    refine x_iload_n (pc' := 81) dX8_undo_80 rfl rfl ?_
    refine x_aload_n (pc' := 82) dX8_undo_81 rfl rfl ?_
    refine x_getR (pc' := 85) dX8_undo_82 rfl lf_8_68 rfl sh_45 rfl ?_
    refine x_bipush (pc' := 87) (w := (72 : Int32)) dX8_undo_85 rfl k_bi_72 ?_
    refine x_iload_n (pc' := 88) dX8_undo_87 rfl rfl ?_
    refine x_iadd (pc' := 89) dX8_undo_88 rfl ?_
    obtain ⟨j89, hj89, h⟩ := Option.bind_eq_some_iff.mp h
    refine x_iaload (pc' := 90) (v := S 63 j89) dX8_undo_89 rfl sh_63 hj89 rfl ?_
    obtain ⟨j90, hj90, h⟩ := Option.bind_eq_some_iff.mp h
    refine x_iastore (pc' := 91) dX8_undo_90 rfl sh_49 hj90 ?_
    refine x_aload_n (pc' := 92) dX8_undo_91 rfl rfl ?_
    refine x_getR (pc' := 95) dX8_undo_92 rfl lf_8_24 rfl sh_45 rfl ?_
    refine x_iload_n (pc' := 96) dX8_undo_95 rfl rfl ?_
    refine x_aload_n (pc' := 97) dX8_undo_96 rfl rfl ?_
    refine x_getR (pc' := 100) dX8_undo_97 rfl lf_8_68 rfl sh_45 rfl ?_
    refine x_bipush (pc' := 102) (w := (96 : Int32)) dX8_undo_100 rfl k_bi_96 ?_
    refine x_iload_n (pc' := 103) dX8_undo_102 rfl rfl ?_
    refine x_iadd (pc' := 104) dX8_undo_103 rfl ?_
    obtain ⟨j104, hj104, h⟩ := Option.bind_eq_some_iff.mp h
    refine x_iaload (pc' := 105) (v := S 63 j104) dX8_undo_104 rfl sh_63 hj104 rfl ?_
    obtain ⟨j105, hj105, h⟩ := Option.bind_eq_some_iff.mp h
    refine x_iastore (pc' := 106) dX8_undo_105 rfl sh_50 hj105 ?_
    refine x_aload_n (pc' := 107) dX8_undo_106 rfl rfl ?_
    refine x_getR (pc' := 110) dX8_undo_107 rfl lf_8_27 rfl sh_45 rfl ?_
    refine x_iload_n (pc' := 111) dX8_undo_110 rfl rfl ?_
    refine x_aload_n (pc' := 112) dX8_undo_111 rfl rfl ?_
    refine x_getR (pc' := 115) dX8_undo_112 rfl lf_8_68 rfl sh_45 rfl ?_
    refine x_bipush (pc' := 117) (w := (120 : Int32)) dX8_undo_115 rfl k_bi_120 ?_
    refine x_iload_n (pc' := 118) dX8_undo_117 rfl rfl ?_
    refine x_iadd (pc' := 119) dX8_undo_118 rfl ?_
    obtain ⟨j119, hj119, h⟩ := Option.bind_eq_some_iff.mp h
    refine x_iaload (pc' := 120) (v := S 63 j119) dX8_undo_119 rfl sh_63 hj119 rfl ?_
    obtain ⟨j120, hj120, h⟩ := Option.bind_eq_some_iff.mp h
    refine x_iastore (pc' := 121) dX8_undo_120 rfl sh_51 hj120 ?_
    refine x_aload_n (pc' := 122) dX8_undo_121 rfl rfl ?_
    refine x_getR (pc' := 125) dX8_undo_122 rfl lf_8_30 rfl sh_45 rfl ?_
    refine x_iload_n (pc' := 126) dX8_undo_125 rfl rfl ?_
    refine x_aload_n (pc' := 127) dX8_undo_126 rfl rfl ?_
    refine x_getR (pc' := 130) dX8_undo_127 rfl lf_8_68 rfl sh_45 rfl ?_
    refine x_sipush (pc' := 133) (w := (144 : Int32)) dX8_undo_130 rfl k_si_144 ?_
    refine x_iload_n (pc' := 134) dX8_undo_133 rfl rfl ?_
    refine x_iadd (pc' := 135) dX8_undo_134 rfl ?_
    obtain ⟨j135, hj135, h⟩ := Option.bind_eq_some_iff.mp h
    refine x_iaload (pc' := 136) (v := S 63 j135) dX8_undo_135 rfl sh_63 hj135 rfl ?_
    obtain ⟨j136, hj136, h⟩ := Option.bind_eq_some_iff.mp h
    refine x_iastore (pc' := 137) dX8_undo_136 rfl sh_52 hj136 ?_
    refine x_iinc (pc' := 140) (w := (1 : Int32)) (ls' := [.ref 45, .int (x1 + (1 : Int32))]) dX8_undo_137 rfl rfl k_ic_1 rfl ?_
    refine x_goto (pc' := 28) dX8_undo_140 (by decide) ?_
    exact h
theorem BX8_undo_145 {d : Nat} {x1 : Int32} {S : tb_St} {r : Int32 × tb_St} (h : ((if (8 : Int32) ≤ x1 then some (S 45 0, S) else (tb_ix ((168 : Int32) + x1) 184).bind fun j165 => (tb_ix x1 8).bind fun j166 => (tb_ix ((176 : Int32) + x1) 184).bind fun j181 => (tb_ix x1 8).bind fun j182 => tb_E d mX8_undo tb_dI 145 [.ref 45, .int (x1 + (1 : Int32))] [] tb_S (tb_up (tb_up S 53 j166 (S 63 j165)) 54 j182 (S 63 j181)))) = some r) : tb_E d mX8_undo tb_dI 145 [.ref 45, .int x1] [] tb_S S = some r := by
  refine x_iload_n (pc' := 146) dX8_undo_145 rfl rfl ?_
  refine x_bipush (pc' := 148) (w := (8 : Int32)) dX8_undo_146 rfl k_bi_8 ?_
  by_cases c148 : (8 : Int32) ≤ x1
  · replace h := (if_pos c148).symm.trans h
    refine x_icmp_ge_t (pc' := 189) dX8_undo_148 (by decide) c148 ?_
    refine x_aload_n (pc' := 190) dX8_undo_189 rfl rfl ?_
    refine x_getI (pc' := 193) (v := S 45 0) dX8_undo_190 rfl lf_8_77 rfl sh_45 rfl ?_
    exact x_iret dX8_undo_193 rfl ((tb_dI_ok _ _).trans h)
  · replace h := (if_neg c148).symm.trans h
    refine x_icmp_ge_f (pc' := 151) dX8_undo_148 (by decide) rfl c148 ?_
    refine x_aload_n (pc' := 152) dX8_undo_151 rfl rfl ?_
    refine x_getR (pc' := 155) dX8_undo_152 rfl lf_8_33 rfl sh_45 rfl ?_
    refine x_iload_n (pc' := 156) dX8_undo_155 rfl rfl ?_
    refine x_aload_n (pc' := 157) dX8_undo_156 rfl rfl ?_
    refine x_getR (pc' := 160) dX8_undo_157 rfl lf_8_68 rfl sh_45 rfl ?_
    refine x_sipush (pc' := 163) (w := (168 : Int32)) dX8_undo_160 rfl k_si_168 ?_
    refine x_iload_n (pc' := 164) dX8_undo_163 rfl rfl ?_
    refine x_iadd (pc' := 165) dX8_undo_164 rfl ?_
    obtain ⟨j165, hj165, h⟩ := Option.bind_eq_some_iff.mp h
    refine x_iaload (pc' := 166) (v := S 63 j165) dX8_undo_165 rfl sh_63 hj165 rfl ?_
    obtain ⟨j166, hj166, h⟩ := Option.bind_eq_some_iff.mp h
    refine x_iastore (pc' := 167) dX8_undo_166 rfl sh_53 hj166 ?_
    refine x_aload_n (pc' := 168) dX8_undo_167 rfl rfl ?_
    refine x_getR (pc' := 171) dX8_undo_168 rfl lf_8_36 rfl sh_45 rfl ?_
    refine x_iload_n (pc' := 172) dX8_undo_171 rfl rfl ?_
    refine x_aload_n (pc' := 173) dX8_undo_172 rfl rfl ?_
    refine x_getR (pc' := 176) dX8_undo_173 rfl lf_8_68 rfl sh_45 rfl ?_
    refine x_sipush (pc' := 179) (w := (176 : Int32)) dX8_undo_176 rfl k_si_176 ?_
    refine x_iload_n (pc' := 180) dX8_undo_179 rfl rfl ?_
    refine x_iadd (pc' := 181) dX8_undo_180 rfl ?_
    obtain ⟨j181, hj181, h⟩ := Option.bind_eq_some_iff.mp h
    refine x_iaload (pc' := 182) (v := S 63 j181) dX8_undo_181 rfl sh_63 hj181 rfl ?_
    obtain ⟨j182, hj182, h⟩ := Option.bind_eq_some_iff.mp h
    refine x_iastore (pc' := 183) dX8_undo_182 rfl sh_54 hj182 ?_
    refine x_iinc (pc' := 186) (w := (1 : Int32)) (ls' := [.ref 45, .int (x1 + (1 : Int32))]) dX8_undo_183 rfl rfl k_ic_1 rfl ?_
    refine x_goto (pc' := 145) dX8_undo_186 (by decide) ?_
    exact h
/-! X7_undo (1,) -/
theorem BX7_undo_0 {d : Nat} {S : tb_St} {r : Int32 × tb_St} (h : ((if ¬ S 1 4 = 0 then (tb_cV d mX5_copyFrom [.ref 2, .ref 13] S).bind fun q18 => (tb_cV d mX1_copyFrom [.ref 10, .ref 21] q18).bind fun q29 => some (q29 2 7, q29) else some ((-3 : Int32), S))) = some r) : tb_E d mX7_undo tb_dI 0 [.ref 1] [] tb_S S = some r := by
  refine x_aload_n (pc' := 1) dX7_undo_0 rfl rfl ?_
  refine x_getI (pc' := 4) (v := S 1 4) dX7_undo_1 rfl lf_7_31 rfl sh_1 rfl ?_
  by_cases c4 : ¬ S 1 4 = 0
  · replace h := (if_pos c4).symm.trans h
    refine x_if_ne_t (pc' := 10) dX7_undo_4 (by decide) c4 ?_
    refine x_aload_n (pc' := 11) dX7_undo_10 rfl rfl ?_
    refine x_getR (pc' := 14) dX7_undo_11 rfl lf_7_12 rfl sh_1 rfl ?_
    refine x_aload_n (pc' := 15) dX7_undo_14 rfl rfl ?_
    refine x_getR (pc' := 18) dX7_undo_15 rfl lf_7_25 rfl sh_1 rfl ?_
    obtain ⟨q18, hq18, h⟩ := Option.bind_eq_some_iff.mp h
    refine x_virtV (pc' := 21) (o := 2) (as := [.ref 13]) (rest := []) dX7_undo_18 rfl lm_7_260 rfl rfl rfl sh_2 rfl hq18 ?_
    refine x_aload_n (pc' := 22) dX7_undo_21 rfl rfl ?_
    refine x_getR (pc' := 25) dX7_undo_22 rfl lf_7_21 rfl sh_1 rfl ?_
    refine x_aload_n (pc' := 26) dX7_undo_25 rfl rfl ?_
    refine x_getR (pc' := 29) dX7_undo_26 rfl lf_7_28 rfl sh_1 rfl ?_
    obtain ⟨q29, hq29, h⟩ := Option.bind_eq_some_iff.mp h
    refine x_virtV (pc' := 32) (o := 10) (as := [.ref 21]) (rest := []) dX7_undo_29 rfl lm_7_263 rfl rfl rfl sh_10 rfl hq29 ?_
    refine x_aload_n (pc' := 33) dX7_undo_32 rfl rfl ?_
    refine x_getR (pc' := 36) dX7_undo_33 rfl lf_7_12 rfl sh_1 rfl ?_
    refine x_getI (pc' := 39) (v := q29 2 7) dX7_undo_36 rfl lf_7_89 rfl sh_2 rfl ?_
    exact x_iret dX7_undo_39 rfl ((tb_dI_ok _ _).trans h)
  · replace h := (if_neg c4).symm.trans h
    refine x_if_ne_f (pc' := 7) dX7_undo_4 (by decide) rfl c4 ?_
    refine x_bipush (pc' := 9) (w := (-3 : Int32)) dX7_undo_7 rfl k_bi_m3 ?_
    exact x_iret dX7_undo_9 rfl ((tb_dI_ok _ _).trans h)
theorem MX7_undo {d : Nat} {S : tb_St} {r : Int32 × tb_St} (h : ((if ¬ S 1 4 = 0 then (tb_cV d mX5_copyFrom [.ref 2, .ref 13] S).bind fun q18 => (tb_cV d mX1_copyFrom [.ref 10, .ref 21] q18).bind fun q29 => some (q29 2 7, q29) else some ((-3 : Int32), S))) = some r) : tb_cI (d + 1) mX7_undo [.ref 1] S = some r := tb_enI rfl rfl (BX7_undo_0 h)
/-! X8_image (45,) -/
theorem BX8_image_0 {d : Nat} {w1 : Value} {S : tb_St} {r : Int32 × tb_St} (h : (tb_E d mX8_image tb_dI 23 [.ref 45, .int (0 : Int32)] [] tb_S (tb_up (tb_up (tb_up S 45 32 (1 : Int32)) 45 33 (S 45 0)) 45 34 (S 45 8))) = some r) : tb_E d mX8_image tb_dI 0 [.ref 45, w1] [] tb_S S = some r := by
  refine x_aload_n (pc' := 1) dX8_image_0 rfl rfl ?_
  refine x_iconst (pc' := 2) (w := (1 : Int32)) dX8_image_1 rfl k_ic_1 ?_
  refine x_putI (pc' := 5) dX8_image_2 rfl lf_8_270 (Or.inr ⟨rfl, Or.inr rfl⟩) sh_45 ?_
  refine x_aload_n (pc' := 6) dX8_image_5 rfl rfl ?_
  refine x_aload_n (pc' := 7) dX8_image_6 rfl rfl ?_
  refine x_getI (pc' := 10) (v := S 45 0) dX8_image_7 rfl lf_8_77 rfl sh_45 rfl ?_
  refine x_putI (pc' := 13) dX8_image_10 rfl lf_8_274 (Or.inl rfl) sh_45 ?_
  refine x_aload_n (pc' := 14) dX8_image_13 rfl rfl ?_
  refine x_aload_n (pc' := 15) dX8_image_14 rfl rfl ?_
  refine x_getI (pc' := 18) (v := S 45 8) dX8_image_15 rfl lf_8_258 rfl sh_45 rfl ?_
  refine x_putI (pc' := 21) dX8_image_18 rfl lf_8_277 (Or.inl rfl) sh_45 ?_
  refine x_iconst (pc' := 22) (w := (0 : Int32)) dX8_image_21 rfl k_ic_0 ?_
  refine x_istore_n (pc' := 23) (ls' := [.ref 45, .int (0 : Int32)]) dX8_image_22 rfl rfl rfl ?_
  exact h
theorem MX8_image {d : Nat} {S : tb_St} {r : Int32 × tb_St} (h : (tb_E d mX8_image tb_dI 23 [.ref 45, .int (0 : Int32)] [] tb_S (tb_up (tb_up (tb_up S 45 32 (1 : Int32)) 45 33 (S 45 0)) 45 34 (S 45 8))) = some r) : tb_cI (d + 1) mX8_image [.ref 45] S = some r := tb_enI rfl rfl (BX8_image_0 h)
theorem BX8_image_23 {d : Nat} {x1 : Int32} {S : tb_St} {r : Int32 × tb_St} (h : ((if (24 : Int32) ≤ x1 then tb_E d mX8_image tb_dI 140 [.ref 45, .int (0 : Int32)] [] tb_S S else (tb_ix x1 96).bind fun j39 => (tb_ix x1 184).bind fun j40 => (tb_ix x1 96).bind fun j54 => (tb_ix ((24 : Int32) + x1) 184).bind fun j55 => (tb_ix x1 96).bind fun j69 => (tb_ix ((48 : Int32) + x1) 184).bind fun j70 => (tb_ix x1 96).bind fun j84 => (tb_ix ((72 : Int32) + x1) 184).bind fun j85 => (tb_ix x1 96).bind fun j99 => (tb_ix ((96 : Int32) + x1) 184).bind fun j100 => (tb_ix x1 96).bind fun j114 => (tb_ix ((120 : Int32) + x1) 184).bind fun j115 => (tb_ix x1 96).bind fun j130 => (tb_ix ((144 : Int32) + x1) 184).bind fun j131 => tb_E d mX8_image tb_dI 23 [.ref 45, .int (x1 + (1 : Int32))] [] tb_S (tb_up (tb_up (tb_up (tb_up (tb_up (tb_up (tb_up S 63 j40 (S 46 j39)) 63 j55 (S 47 j54)) 63 j70 (S 48 j69)) 63 j85 (S 49 j84)) 63 j100 (S 50 j99)) 63 j115 (S 51 j114)) 63 j131 (S 52 j130)))) = some r) : tb_E d mX8_image tb_dI 23 [.ref 45, .int x1] [] tb_S S = some r := by
  refine x_iload_n (pc' := 24) dX8_image_23 rfl rfl ?_
  refine x_bipush (pc' := 26) (w := (24 : Int32)) dX8_image_24 rfl k_bi_24 ?_
  by_cases c26 : (24 : Int32) ≤ x1
  · replace h := (if_pos c26).symm.trans h
    refine x_icmp_ge_t (pc' := 138) dX8_image_26 (by decide) c26 ?_
    refine x_iconst (pc' := 139) (w := (0 : Int32)) dX8_image_138 rfl k_ic_0 ?_
    refine x_istore_n (pc' := 140) (ls' := [.ref 45, .int (0 : Int32)]) dX8_image_139 rfl rfl rfl ?_
    exact h
  · replace h := (if_neg c26).symm.trans h
    refine x_icmp_ge_f (pc' := 29) dX8_image_26 (by decide) rfl c26 ?_
    refine x_aload_n (pc' := 30) dX8_image_29 rfl rfl ?_
    refine x_getR (pc' := 33) dX8_image_30 rfl lf_8_68 rfl sh_45 rfl ?_
    refine x_iload_n (pc' := 34) dX8_image_33 rfl rfl ?_
    refine x_aload_n (pc' := 35) dX8_image_34 rfl rfl ?_
    refine x_getR (pc' := 38) dX8_image_35 rfl lf_8_9 rfl sh_45 rfl ?_
    refine x_iload_n (pc' := 39) dX8_image_38 rfl rfl ?_
    obtain ⟨j39, hj39, h⟩ := Option.bind_eq_some_iff.mp h
    refine x_iaload (pc' := 40) (v := S 46 j39) dX8_image_39 rfl sh_46 hj39 rfl ?_
    obtain ⟨j40, hj40, h⟩ := Option.bind_eq_some_iff.mp h
    refine x_iastore (pc' := 41) dX8_image_40 rfl sh_63 hj40 ?_
    refine x_aload_n (pc' := 42) dX8_image_41 rfl rfl ?_
    refine x_getR (pc' := 45) dX8_image_42 rfl lf_8_68 rfl sh_45 rfl ?_
    refine x_bipush (pc' := 47) (w := (24 : Int32)) dX8_image_45 rfl k_bi_24 ?_
    refine x_iload_n (pc' := 48) dX8_image_47 rfl rfl ?_
    refine x_iadd (pc' := 49) dX8_image_48 rfl ?_
    refine x_aload_n (pc' := 50) dX8_image_49 rfl rfl ?_
    refine x_getR (pc' := 53) dX8_image_50 rfl lf_8_15 rfl sh_45 rfl ?_
    refine x_iload_n (pc' := 54) dX8_image_53 rfl rfl ?_
    obtain ⟨j54, hj54, h⟩ := Option.bind_eq_some_iff.mp h
    refine x_iaload (pc' := 55) (v := S 47 j54) dX8_image_54 rfl sh_47 hj54 rfl ?_
    obtain ⟨j55, hj55, h⟩ := Option.bind_eq_some_iff.mp h
    refine x_iastore (pc' := 56) dX8_image_55 rfl sh_63 hj55 ?_
    refine x_aload_n (pc' := 57) dX8_image_56 rfl rfl ?_
    refine x_getR (pc' := 60) dX8_image_57 rfl lf_8_68 rfl sh_45 rfl ?_
    refine x_bipush (pc' := 62) (w := (48 : Int32)) dX8_image_60 rfl k_bi_48 ?_
    refine x_iload_n (pc' := 63) dX8_image_62 rfl rfl ?_
    refine x_iadd (pc' := 64) dX8_image_63 rfl ?_
    refine x_aload_n (pc' := 65) dX8_image_64 rfl rfl ?_
    refine x_getR (pc' := 68) dX8_image_65 rfl lf_8_18 rfl sh_45 rfl ?_
    refine x_iload_n (pc' := 69) dX8_image_68 rfl rfl ?_
    obtain ⟨j69, hj69, h⟩ := Option.bind_eq_some_iff.mp h
    refine x_iaload (pc' := 70) (v := S 48 j69) dX8_image_69 rfl sh_48 hj69 rfl ?_
    obtain ⟨j70, hj70, h⟩ := Option.bind_eq_some_iff.mp h
    refine x_iastore (pc' := 71) dX8_image_70 rfl sh_63 hj70 ?_
    refine x_aload_n (pc' := 72) dX8_image_71 rfl rfl ?_
    refine x_getR (pc' := 75) dX8_image_72 rfl lf_8_68 rfl sh_45 rfl ?_
    refine x_bipush (pc' := 77) (w := (72 : Int32)) dX8_image_75 rfl k_bi_72 ?_
    refine x_iload_n (pc' := 78) dX8_image_77 rfl rfl ?_
    refine x_iadd (pc' := 79) dX8_image_78 rfl ?_
    refine x_aload_n (pc' := 80) dX8_image_79 rfl rfl ?_
    refine x_getR (pc' := 83) dX8_image_80 rfl lf_8_21 rfl sh_45 rfl ?_
    refine x_iload_n (pc' := 84) dX8_image_83 rfl rfl ?_
    obtain ⟨j84, hj84, h⟩ := Option.bind_eq_some_iff.mp h
    refine x_iaload (pc' := 85) (v := S 49 j84) dX8_image_84 rfl sh_49 hj84 rfl ?_
    obtain ⟨j85, hj85, h⟩ := Option.bind_eq_some_iff.mp h
    refine x_iastore (pc' := 86) dX8_image_85 rfl sh_63 hj85 ?_
    refine x_aload_n (pc' := 87) dX8_image_86 rfl rfl ?_
    refine x_getR (pc' := 90) dX8_image_87 rfl lf_8_68 rfl sh_45 rfl ?_
    refine x_bipush (pc' := 92) (w := (96 : Int32)) dX8_image_90 rfl k_bi_96 ?_
    refine x_iload_n (pc' := 93) dX8_image_92 rfl rfl ?_
    refine x_iadd (pc' := 94) dX8_image_93 rfl ?_
    refine x_aload_n (pc' := 95) dX8_image_94 rfl rfl ?_
    refine x_getR (pc' := 98) dX8_image_95 rfl lf_8_24 rfl sh_45 rfl ?_
    refine x_iload_n (pc' := 99) dX8_image_98 rfl rfl ?_
    obtain ⟨j99, hj99, h⟩ := Option.bind_eq_some_iff.mp h
    refine x_iaload (pc' := 100) (v := S 50 j99) dX8_image_99 rfl sh_50 hj99 rfl ?_
    obtain ⟨j100, hj100, h⟩ := Option.bind_eq_some_iff.mp h
    refine x_iastore (pc' := 101) dX8_image_100 rfl sh_63 hj100 ?_
    refine x_aload_n (pc' := 102) dX8_image_101 rfl rfl ?_
    refine x_getR (pc' := 105) dX8_image_102 rfl lf_8_68 rfl sh_45 rfl ?_
    refine x_bipush (pc' := 107) (w := (120 : Int32)) dX8_image_105 rfl k_bi_120 ?_
    refine x_iload_n (pc' := 108) dX8_image_107 rfl rfl ?_
    refine x_iadd (pc' := 109) dX8_image_108 rfl ?_
    refine x_aload_n (pc' := 110) dX8_image_109 rfl rfl ?_
    refine x_getR (pc' := 113) dX8_image_110 rfl lf_8_27 rfl sh_45 rfl ?_
    refine x_iload_n (pc' := 114) dX8_image_113 rfl rfl ?_
    obtain ⟨j114, hj114, h⟩ := Option.bind_eq_some_iff.mp h
    refine x_iaload (pc' := 115) (v := S 51 j114) dX8_image_114 rfl sh_51 hj114 rfl ?_
    obtain ⟨j115, hj115, h⟩ := Option.bind_eq_some_iff.mp h
    refine x_iastore (pc' := 116) dX8_image_115 rfl sh_63 hj115 ?_
    refine x_aload_n (pc' := 117) dX8_image_116 rfl rfl ?_
    refine x_getR (pc' := 120) dX8_image_117 rfl lf_8_68 rfl sh_45 rfl ?_
    refine x_sipush (pc' := 123) (w := (144 : Int32)) dX8_image_120 rfl k_si_144 ?_
    refine x_iload_n (pc' := 124) dX8_image_123 rfl rfl ?_
    refine x_iadd (pc' := 125) dX8_image_124 rfl ?_
    refine x_aload_n (pc' := 126) dX8_image_125 rfl rfl ?_
    refine x_getR (pc' := 129) dX8_image_126 rfl lf_8_30 rfl sh_45 rfl ?_
    refine x_iload_n (pc' := 130) dX8_image_129 rfl rfl ?_
    obtain ⟨j130, hj130, h⟩ := Option.bind_eq_some_iff.mp h
    refine x_iaload (pc' := 131) (v := S 52 j130) dX8_image_130 rfl sh_52 hj130 rfl ?_
    obtain ⟨j131, hj131, h⟩ := Option.bind_eq_some_iff.mp h
    refine x_iastore (pc' := 132) dX8_image_131 rfl sh_63 hj131 ?_
    refine x_iinc (pc' := 135) (w := (1 : Int32)) (ls' := [.ref 45, .int (x1 + (1 : Int32))]) dX8_image_132 rfl rfl k_ic_1 rfl ?_
    refine x_goto (pc' := 23) dX8_image_135 (by decide) ?_
    exact h
theorem BX8_image_140 {d : Nat} {x1 : Int32} {S : tb_St} {r : Int32 × tb_St} (h : ((if (8 : Int32) ≤ x1 then some (S 45 0, S) else (tb_ix x1 8).bind fun j160 => (tb_ix ((168 : Int32) + x1) 184).bind fun j161 => (tb_ix x1 8).bind fun j176 => (tb_ix ((176 : Int32) + x1) 184).bind fun j177 => tb_E d mX8_image tb_dI 140 [.ref 45, .int (x1 + (1 : Int32))] [] tb_S (tb_up (tb_up S 63 j161 (S 53 j160)) 63 j177 (S 54 j176)))) = some r) : tb_E d mX8_image tb_dI 140 [.ref 45, .int x1] [] tb_S S = some r := by
  refine x_iload_n (pc' := 141) dX8_image_140 rfl rfl ?_
  refine x_bipush (pc' := 143) (w := (8 : Int32)) dX8_image_141 rfl k_bi_8 ?_
  by_cases c143 : (8 : Int32) ≤ x1
  · replace h := (if_pos c143).symm.trans h
    refine x_icmp_ge_t (pc' := 184) dX8_image_143 (by decide) c143 ?_
    refine x_aload_n (pc' := 185) dX8_image_184 rfl rfl ?_
    refine x_getI (pc' := 188) (v := S 45 0) dX8_image_185 rfl lf_8_77 rfl sh_45 rfl ?_
    exact x_iret dX8_image_188 rfl ((tb_dI_ok _ _).trans h)
  · replace h := (if_neg c143).symm.trans h
    refine x_icmp_ge_f (pc' := 146) dX8_image_143 (by decide) rfl c143 ?_
    refine x_aload_n (pc' := 147) dX8_image_146 rfl rfl ?_
    refine x_getR (pc' := 150) dX8_image_147 rfl lf_8_68 rfl sh_45 rfl ?_
    refine x_sipush (pc' := 153) (w := (168 : Int32)) dX8_image_150 rfl k_si_168 ?_
    refine x_iload_n (pc' := 154) dX8_image_153 rfl rfl ?_
    refine x_iadd (pc' := 155) dX8_image_154 rfl ?_
    refine x_aload_n (pc' := 156) dX8_image_155 rfl rfl ?_
    refine x_getR (pc' := 159) dX8_image_156 rfl lf_8_33 rfl sh_45 rfl ?_
    refine x_iload_n (pc' := 160) dX8_image_159 rfl rfl ?_
    obtain ⟨j160, hj160, h⟩ := Option.bind_eq_some_iff.mp h
    refine x_iaload (pc' := 161) (v := S 53 j160) dX8_image_160 rfl sh_53 hj160 rfl ?_
    obtain ⟨j161, hj161, h⟩ := Option.bind_eq_some_iff.mp h
    refine x_iastore (pc' := 162) dX8_image_161 rfl sh_63 hj161 ?_
    refine x_aload_n (pc' := 163) dX8_image_162 rfl rfl ?_
    refine x_getR (pc' := 166) dX8_image_163 rfl lf_8_68 rfl sh_45 rfl ?_
    refine x_sipush (pc' := 169) (w := (176 : Int32)) dX8_image_166 rfl k_si_176 ?_
    refine x_iload_n (pc' := 170) dX8_image_169 rfl rfl ?_
    refine x_iadd (pc' := 171) dX8_image_170 rfl ?_
    refine x_aload_n (pc' := 172) dX8_image_171 rfl rfl ?_
    refine x_getR (pc' := 175) dX8_image_172 rfl lf_8_36 rfl sh_45 rfl ?_
    refine x_iload_n (pc' := 176) dX8_image_175 rfl rfl ?_
    obtain ⟨j176, hj176, h⟩ := Option.bind_eq_some_iff.mp h
    refine x_iaload (pc' := 177) (v := S 54 j176) dX8_image_176 rfl sh_54 hj176 rfl ?_
    obtain ⟨j177, hj177, h⟩ := Option.bind_eq_some_iff.mp h
    refine x_iastore (pc' := 178) dX8_image_177 rfl sh_63 hj177 ?_
    refine x_iinc (pc' := 181) (w := (1 : Int32)) (ls' := [.ref 45, .int (x1 + (1 : Int32))]) dX8_image_178 rfl rfl k_ic_1 rfl ?_
    refine x_goto (pc' := 140) dX8_image_181 (by decide) ?_
    exact h
/-! X7_image (1,) -/
theorem BX7_image_0 {d : Nat} {S : tb_St} {r : Int32 × tb_St} (h : ((tb_cV d mX5_copyFrom [.ref 13, .ref 2] S).bind fun q8 => (tb_cV d mX1_copyFrom [.ref 21, .ref 10] q8).bind fun q19 => some (q19 2 7, tb_up q19 1 4 (1 : Int32))) = some r) : tb_E d mX7_image tb_dI 0 [.ref 1] [] tb_S S = some r := by
  refine x_aload_n (pc' := 1) dX7_image_0 rfl rfl ?_
  refine x_getR (pc' := 4) dX7_image_1 rfl lf_7_25 rfl sh_1 rfl ?_
  refine x_aload_n (pc' := 5) dX7_image_4 rfl rfl ?_
  refine x_getR (pc' := 8) dX7_image_5 rfl lf_7_12 rfl sh_1 rfl ?_
  obtain ⟨q8, hq8, h⟩ := Option.bind_eq_some_iff.mp h
  refine x_virtV (pc' := 11) (o := 13) (as := [.ref 2]) (rest := []) dX7_image_8 rfl lm_7_260 rfl rfl rfl sh_13 rfl hq8 ?_
  refine x_aload_n (pc' := 12) dX7_image_11 rfl rfl ?_
  refine x_getR (pc' := 15) dX7_image_12 rfl lf_7_28 rfl sh_1 rfl ?_
  refine x_aload_n (pc' := 16) dX7_image_15 rfl rfl ?_
  refine x_getR (pc' := 19) dX7_image_16 rfl lf_7_21 rfl sh_1 rfl ?_
  obtain ⟨q19, hq19, h⟩ := Option.bind_eq_some_iff.mp h
  refine x_virtV (pc' := 22) (o := 21) (as := [.ref 10]) (rest := []) dX7_image_19 rfl lm_7_263 rfl rfl rfl sh_21 rfl hq19 ?_
  refine x_aload_n (pc' := 23) dX7_image_22 rfl rfl ?_
  refine x_iconst (pc' := 24) (w := (1 : Int32)) dX7_image_23 rfl k_ic_1 ?_
  refine x_putI (pc' := 27) dX7_image_24 rfl lf_7_31 (Or.inr ⟨rfl, Or.inr rfl⟩) sh_1 ?_
  refine x_aload_n (pc' := 28) dX7_image_27 rfl rfl ?_
  refine x_getR (pc' := 31) dX7_image_28 rfl lf_7_12 rfl sh_1 rfl ?_
  refine x_getI (pc' := 34) (v := q19 2 7) dX7_image_31 rfl lf_7_89 rfl sh_2 rfl ?_
  exact x_iret dX7_image_34 rfl ((tb_dI_ok _ _).trans h)
theorem MX7_image {d : Nat} {S : tb_St} {r : Int32 × tb_St} (h : ((tb_cV d mX5_copyFrom [.ref 13, .ref 2] S).bind fun q8 => (tb_cV d mX1_copyFrom [.ref 21, .ref 10] q8).bind fun q19 => some (q19 2 7, tb_up q19 1 4 (1 : Int32))) = some r) : tb_cI (d + 1) mX7_image [.ref 1] S = some r := tb_enI rfl rfl (BX7_image_0 h)
/-! X8_judge (45,) -/
theorem BX8_judge_0 {d : Nat} {x1 x2 : Int32} {w3 w4 w5 w6 w7 : Value} {S : tb_St} {r : Int32 × tb_St} (h : ((tb_cI d mX8_isRack [.int x1] S).bind fun q1 => (if q1.1 = 0 then some ((-1 : Int32), q1.2) else (tb_cI d mX8_isTerm [.ref 45, .int x2] (q1.2)).bind fun q9 => (if ¬ q9.1 = 0 then (tb_ix x1 4).bind fun j22 => (if ¬ (q9.2) 64 j22 = 0 then (tb_ix x1 4).bind fun j34 => tb_E d mX8_judge tb_dI 41 [.ref 45, .int x1, .int x2, .int (((q9.2) 64 j34) - (1 : Int32)), .int (0 : Int32), w5, w6, w7] [] tb_S (q9.2) else some ((-11 : Int32), q9.2)) else some ((-1 : Int32), q9.2)))) = some r) : tb_E d mX8_judge tb_dI 0 [.ref 45, .int x1, .int x2, w3, w4, w5, w6, w7] [] tb_S S = some r := by
  refine x_iload_n (pc' := 1) dX8_judge_0 rfl rfl ?_
  obtain ⟨q1, hq1, h⟩ := Option.bind_eq_some_iff.mp h
  refine x_statI (pc' := 4) (as := [.int x1]) (rest := []) dX8_judge_1 rfl lm_8_264 (by decide) rfl rfl rfl rfl hq1 ?_
  by_cases c4 : q1.1 = 0
  · replace h := (if_pos c4).symm.trans h
    refine x_if_eq_t (pc' := 15) dX8_judge_4 (by decide) c4 ?_
    refine x_iconst (pc' := 16) (w := (-1 : Int32)) dX8_judge_15 rfl k_ic_m1 ?_
    exact x_iret dX8_judge_16 rfl ((tb_dI_ok _ _).trans h)
  · replace h := (if_neg c4).symm.trans h
    refine x_if_eq_f (pc' := 7) dX8_judge_4 (by decide) rfl c4 ?_
    refine x_aload_n (pc' := 8) dX8_judge_7 rfl rfl ?_
    refine x_iload_n (pc' := 9) dX8_judge_8 rfl rfl ?_
    obtain ⟨q9, hq9, h⟩ := Option.bind_eq_some_iff.mp h
    refine x_virtI (pc' := 12) (o := 45) (as := [.int x2]) (rest := []) dX8_judge_9 rfl lm_8_109 rfl rfl rfl sh_45 rfl hq9 ?_
    by_cases c12 : ¬ q9.1 = 0
    · replace h := (if_pos c12).symm.trans h
      refine x_if_ne_t (pc' := 17) dX8_judge_12 (by decide) c12 ?_
      refine x_aload_n (pc' := 18) dX8_judge_17 rfl rfl ?_
      refine x_getR (pc' := 21) dX8_judge_18 rfl lf_8_71 rfl sh_45 rfl ?_
      refine x_iload_n (pc' := 22) dX8_judge_21 rfl rfl ?_
      obtain ⟨j22, hj22, h⟩ := Option.bind_eq_some_iff.mp h
      refine x_iaload (pc' := 23) (v := (q9.2) 64 j22) dX8_judge_22 rfl sh_64 hj22 rfl ?_
      by_cases c23 : ¬ (q9.2) 64 j22 = 0
      · replace h := (if_pos c23).symm.trans h
        refine x_if_ne_t (pc' := 29) dX8_judge_23 (by decide) c23 ?_
        refine x_aload_n (pc' := 30) dX8_judge_29 rfl rfl ?_
        refine x_getR (pc' := 33) dX8_judge_30 rfl lf_8_71 rfl sh_45 rfl ?_
        refine x_iload_n (pc' := 34) dX8_judge_33 rfl rfl ?_
        obtain ⟨j34, hj34, h⟩ := Option.bind_eq_some_iff.mp h
        refine x_iaload (pc' := 35) (v := (q9.2) 64 j34) dX8_judge_34 rfl sh_64 hj34 rfl ?_
        refine x_iconst (pc' := 36) (w := (1 : Int32)) dX8_judge_35 rfl k_ic_1 ?_
        refine x_isub (pc' := 37) dX8_judge_36 rfl ?_
        refine x_istore_n (pc' := 38) (ls' := [.ref 45, .int x1, .int x2, .int (((q9.2) 64 j34) - (1 : Int32)), w4, w5, w6, w7]) dX8_judge_37 rfl rfl rfl ?_
        refine x_iconst (pc' := 39) (w := (0 : Int32)) dX8_judge_38 rfl k_ic_0 ?_
        refine x_istore (pc' := 41) (ls' := [.ref 45, .int x1, .int x2, .int (((q9.2) 64 j34) - (1 : Int32)), .int (0 : Int32), w5, w6, w7]) dX8_judge_39 rfl rfl rfl ?_
        exact h
      · replace h := (if_neg c23).symm.trans h
        refine x_if_ne_f (pc' := 26) dX8_judge_23 (by decide) rfl c23 ?_
        refine x_bipush (pc' := 28) (w := (-11 : Int32)) dX8_judge_26 rfl k_bi_m11 ?_
        exact x_iret dX8_judge_28 rfl ((tb_dI_ok _ _).trans h)
    · replace h := (if_neg c12).symm.trans h
      refine x_if_ne_f (pc' := 15) dX8_judge_12 (by decide) rfl c12 ?_
      refine x_iconst (pc' := 16) (w := (-1 : Int32)) dX8_judge_15 rfl k_ic_m1 ?_
      exact x_iret dX8_judge_16 rfl ((tb_dI_ok _ _).trans h)
theorem MX8_judge {d : Nat} {x1 : Int32} {x2 : Int32} {S : tb_St} {r : Int32 × tb_St} (h : ((tb_cI d mX8_isRack [.int x1] S).bind fun q1 => (if q1.1 = 0 then some ((-1 : Int32), q1.2) else (tb_cI d mX8_isTerm [.ref 45, .int x2] (q1.2)).bind fun q9 => (if ¬ q9.1 = 0 then (tb_ix x1 4).bind fun j22 => (if ¬ (q9.2) 64 j22 = 0 then (tb_ix x1 4).bind fun j34 => tb_E d mX8_judge tb_dI 41 [.ref 45, .int x1, .int x2, .int (((q9.2) 64 j34) - (1 : Int32)), .int (0 : Int32), tb_jk, tb_jk, tb_jk] [] tb_S (q9.2) else some ((-11 : Int32), q9.2)) else some ((-1 : Int32), q9.2)))) = some r) : tb_cI (d + 1) mX8_judge [.ref 45, .int x1, .int x2] S = some r := tb_enI rfl rfl (BX8_judge_0 h)
theorem BX8_judge_41 {d : Nat} {x1 x2 x3 x4 : Int32} {w5 w6 w7 : Value} {S : tb_St} {r : Int32 × tb_St} (h : ((if x3 ≤ x4 then (if tb_rem x3 (7 : Int32) = 0 then tb_E d mX8_judge tb_dI 175 [.ref 45, .int x1, .int x2, .int x3, .int (0 : Int32), w5, w6, w7] [] tb_S (tb_up S 45 17 (-1 : Int32)) else some (((10 : Int32) * (x3 / (7 : Int32))) + (tb_rem x3 (7 : Int32)), S)) else (tb_ix (((70 : Int32) * x1) + x4) 280).bind fun j65 => (if ¬ tb_rem x4 (7 : Int32) = (6 : Int32) then (if ¬ tb_rem (tb_rem x4 (7 : Int32)) (2 : Int32) = (1 : Int32) then (tb_cI d mX8_most [.int (tb_rem x4 (7 : Int32))] S).bind fun q116 => (tb_cI d mX8_within [.int (S 65 j65), .int (0 : Int32), .int (q116.1)] (q116.2)).bind fun q119 => tb_E d mX8_judge tb_dI 122 [.ref 45, .int x1, .int x2, .int x3, .int x4, .int (tb_rem x4 (7 : Int32)), .int (S 65 j65), w7] [.int (q119.1)] tb_S (q119.2) else (tb_ix ((((70 : Int32) * x1) + x4) - (1 : Int32)) 280).bind fun j109 => (tb_cI d mX8_most [.int (tb_rem x4 (7 : Int32))] S).bind fun q116 => (tb_cI d mX8_within [.int (S 65 j65), .int (S 65 j109), .int (q116.1)] (q116.2)).bind fun q119 => tb_E d mX8_judge tb_dI 122 [.ref 45, .int x1, .int x2, .int x3, .int x4, .int (tb_rem x4 (7 : Int32)), .int (S 65 j65), w7] [.int (q119.1)] tb_S (q119.2)) else (tb_cI d mX8_within [.int (S 65 j65), .int (0 : Int32), .int (99 : Int32)] S).bind fun q80 => tb_E d mX8_judge tb_dI 122 [.ref 45, .int x1, .int x2, .int x3, .int x4, .int (tb_rem x4 (7 : Int32)), .int (S 65 j65), w7] [.int (q80.1)] tb_S (q80.2)))) = some r) : tb_E d mX8_judge tb_dI 41 [.ref 45, .int x1, .int x2, .int x3, .int x4, w5, w6, w7] [] tb_S S = some r := by
  refine x_iload (pc' := 43) dX8_judge_41 rfl rfl ?_
  refine x_iload_n (pc' := 44) dX8_judge_43 rfl rfl ?_
  by_cases c44 : x3 ≤ x4
  · replace h := (if_pos c44).symm.trans h
    refine x_icmp_ge_t (pc' := 147) dX8_judge_44 (by decide) c44 ?_
    refine x_iload_n (pc' := 148) dX8_judge_147 rfl rfl ?_
    refine x_bipush (pc' := 150) (w := (7 : Int32)) dX8_judge_148 rfl k_bi_7 ?_
    refine x_irem (pc' := 151) dX8_judge_150 rfl (by decide) ?_
    by_cases c151 : tb_rem x3 (7 : Int32) = 0
    · replace h := (if_pos c151).symm.trans h
      refine x_if_eq_t (pc' := 167) dX8_judge_151 (by decide) c151 ?_
      refine x_aload_n (pc' := 168) dX8_judge_167 rfl rfl ?_
      refine x_iconst (pc' := 169) (w := (-1 : Int32)) dX8_judge_168 rfl k_ic_m1 ?_
      refine x_putI (pc' := 172) dX8_judge_169 rfl lf_8_194 (Or.inl rfl) sh_45 ?_
      refine x_iconst (pc' := 173) (w := (0 : Int32)) dX8_judge_172 rfl k_ic_0 ?_
      refine x_istore (pc' := 175) (ls' := [.ref 45, .int x1, .int x2, .int x3, .int (0 : Int32), w5, w6, w7]) dX8_judge_173 rfl rfl rfl ?_
      exact h
    · replace h := (if_neg c151).symm.trans h
      refine x_if_eq_f (pc' := 154) dX8_judge_151 (by decide) rfl c151 ?_
      refine x_bipush (pc' := 156) (w := (10 : Int32)) dX8_judge_154 rfl k_bi_10 ?_
      refine x_iload_n (pc' := 157) dX8_judge_156 rfl rfl ?_
      refine x_bipush (pc' := 159) (w := (7 : Int32)) dX8_judge_157 rfl k_bi_7 ?_
      refine x_idiv (pc' := 160) dX8_judge_159 rfl (by decide) ?_
      refine x_imul (pc' := 161) dX8_judge_160 rfl ?_
      refine x_iload_n (pc' := 162) dX8_judge_161 rfl rfl ?_
      refine x_bipush (pc' := 164) (w := (7 : Int32)) dX8_judge_162 rfl k_bi_7 ?_
      refine x_irem (pc' := 165) dX8_judge_164 rfl (by decide) ?_
      refine x_iadd (pc' := 166) dX8_judge_165 rfl ?_
      exact x_iret dX8_judge_166 rfl ((tb_dI_ok _ _).trans h)
  · replace h := (if_neg c44).symm.trans h
    refine x_icmp_ge_f (pc' := 47) dX8_judge_44 (by decide) rfl c44 ?_
    refine x_iload (pc' := 49) dX8_judge_47 rfl rfl ?_
    refine x_bipush (pc' := 51) (w := (7 : Int32)) dX8_judge_49 rfl k_bi_7 ?_
    refine x_irem (pc' := 52) dX8_judge_51 rfl (by decide) ?_
    refine x_istore (pc' := 54) (ls' := [.ref 45, .int x1, .int x2, .int x3, .int x4, .int (tb_rem x4 (7 : Int32)), w6, w7]) dX8_judge_52 rfl rfl rfl ?_
    refine x_aload_n (pc' := 55) dX8_judge_54 rfl rfl ?_
    refine x_getR (pc' := 58) dX8_judge_55 rfl lf_8_74 rfl sh_45 rfl ?_
    refine x_bipush (pc' := 60) (w := (70 : Int32)) dX8_judge_58 rfl k_bi_70 ?_
    refine x_iload_n (pc' := 61) dX8_judge_60 rfl rfl ?_
    refine x_imul (pc' := 62) dX8_judge_61 rfl ?_
    refine x_iload (pc' := 64) dX8_judge_62 rfl rfl ?_
    refine x_iadd (pc' := 65) dX8_judge_64 rfl ?_
    obtain ⟨j65, hj65, h⟩ := Option.bind_eq_some_iff.mp h
    refine x_iaload (pc' := 66) (v := S 65 j65) dX8_judge_65 rfl sh_65 hj65 rfl ?_
    refine x_istore (pc' := 68) (ls' := [.ref 45, .int x1, .int x2, .int x3, .int x4, .int (tb_rem x4 (7 : Int32)), .int (S 65 j65), w7]) dX8_judge_66 rfl rfl rfl ?_
    refine x_iload (pc' := 70) dX8_judge_68 rfl rfl ?_
    refine x_bipush (pc' := 72) (w := (6 : Int32)) dX8_judge_70 rfl k_bi_6 ?_
    by_cases c72 : ¬ tb_rem x4 (7 : Int32) = (6 : Int32)
    · replace h := (if_pos c72).symm.trans h
      refine x_icmp_ne_t (pc' := 86) dX8_judge_72 (by decide) c72 ?_
      refine x_iload (pc' := 88) dX8_judge_86 rfl rfl ?_
      refine x_iload (pc' := 90) dX8_judge_88 rfl rfl ?_
      refine x_iconst (pc' := 91) (w := (2 : Int32)) dX8_judge_90 rfl k_ic_2 ?_
      refine x_irem (pc' := 92) dX8_judge_91 rfl (by decide) ?_
      refine x_iconst (pc' := 93) (w := (1 : Int32)) dX8_judge_92 rfl k_ic_1 ?_
      by_cases c93 : ¬ tb_rem (tb_rem x4 (7 : Int32)) (2 : Int32) = (1 : Int32)
      · replace h := (if_pos c93).symm.trans h
        refine x_icmp_ne_t (pc' := 113) dX8_judge_93 (by decide) c93 ?_
        refine x_iconst (pc' := 114) (w := (0 : Int32)) dX8_judge_113 rfl k_ic_0 ?_
        refine x_iload (pc' := 116) dX8_judge_114 rfl rfl ?_
        obtain ⟨q116, hq116, h⟩ := Option.bind_eq_some_iff.mp h
        refine x_statI (pc' := 119) (as := [.int (tb_rem x4 (7 : Int32))]) (rest := [.int (0 : Int32), .int (S 65 j65)]) dX8_judge_116 rfl lm_8_89 (by decide) rfl rfl rfl rfl hq116 ?_
        obtain ⟨q119, hq119, h⟩ := Option.bind_eq_some_iff.mp h
        refine x_statI (pc' := 122) (as := [.int (S 65 j65), .int (0 : Int32), .int (q116.1)]) (rest := []) dX8_judge_119 rfl lm_8_80 (by decide) rfl rfl rfl rfl hq119 ?_
        exact h
      · replace h := (if_neg c93).symm.trans h
        refine x_icmp_ne_f (pc' := 96) dX8_judge_93 (by decide) rfl c93 ?_
        refine x_aload_n (pc' := 97) dX8_judge_96 rfl rfl ?_
        refine x_getR (pc' := 100) dX8_judge_97 rfl lf_8_74 rfl sh_45 rfl ?_
        refine x_bipush (pc' := 102) (w := (70 : Int32)) dX8_judge_100 rfl k_bi_70 ?_
        refine x_iload_n (pc' := 103) dX8_judge_102 rfl rfl ?_
        refine x_imul (pc' := 104) dX8_judge_103 rfl ?_
        refine x_iload (pc' := 106) dX8_judge_104 rfl rfl ?_
        refine x_iadd (pc' := 107) dX8_judge_106 rfl ?_
        refine x_iconst (pc' := 108) (w := (1 : Int32)) dX8_judge_107 rfl k_ic_1 ?_
        refine x_isub (pc' := 109) dX8_judge_108 rfl ?_
        obtain ⟨j109, hj109, h⟩ := Option.bind_eq_some_iff.mp h
        refine x_iaload (pc' := 110) (v := S 65 j109) dX8_judge_109 rfl sh_65 hj109 rfl ?_
        refine x_goto (pc' := 114) dX8_judge_110 (by decide) ?_
        refine x_iload (pc' := 116) dX8_judge_114 rfl rfl ?_
        obtain ⟨q116, hq116, h⟩ := Option.bind_eq_some_iff.mp h
        refine x_statI (pc' := 119) (as := [.int (tb_rem x4 (7 : Int32))]) (rest := [.int (S 65 j109), .int (S 65 j65)]) dX8_judge_116 rfl lm_8_89 (by decide) rfl rfl rfl rfl hq116 ?_
        obtain ⟨q119, hq119, h⟩ := Option.bind_eq_some_iff.mp h
        refine x_statI (pc' := 122) (as := [.int (S 65 j65), .int (S 65 j109), .int (q116.1)]) (rest := []) dX8_judge_119 rfl lm_8_80 (by decide) rfl rfl rfl rfl hq119 ?_
        exact h
    · replace h := (if_neg c72).symm.trans h
      refine x_icmp_ne_f (pc' := 75) dX8_judge_72 (by decide) rfl c72 ?_
      refine x_iload (pc' := 77) dX8_judge_75 rfl rfl ?_
      refine x_iconst (pc' := 78) (w := (0 : Int32)) dX8_judge_77 rfl k_ic_0 ?_
      refine x_bipush (pc' := 80) (w := (99 : Int32)) dX8_judge_78 rfl k_bi_99 ?_
      obtain ⟨q80, hq80, h⟩ := Option.bind_eq_some_iff.mp h
      refine x_statI (pc' := 83) (as := [.int (S 65 j65), .int (0 : Int32), .int (99 : Int32)]) (rest := []) dX8_judge_80 rfl lm_8_80 (by decide) rfl rfl rfl rfl hq80 ?_
      refine x_goto (pc' := 122) dX8_judge_83 (by decide) ?_
      exact h
theorem BX8_judge_122 {d : Nat} {x1 x2 x3 x4 x5 s0 : Int32} {w6 w7 : Value} {S : tb_St} {r : Int32 × tb_St} (h : ((if ¬ s0 = 0 then tb_E d mX8_judge tb_dI 41 [.ref 45, .int x1, .int x2, .int x3, .int (x4 + (1 : Int32)), .int x5, w6, .int s0] [] tb_S S else some (((10 : Int32) * (x4 / (7 : Int32))) + x5, S))) = some r) : tb_E d mX8_judge tb_dI 122 [.ref 45, .int x1, .int x2, .int x3, .int x4, .int x5, w6, w7] [.int s0] tb_S S = some r := by
  refine x_istore (pc' := 124) (ls' := [.ref 45, .int x1, .int x2, .int x3, .int x4, .int x5, w6, .int s0]) dX8_judge_122 rfl rfl rfl ?_
  refine x_iload (pc' := 126) dX8_judge_124 rfl rfl ?_
  by_cases c126 : ¬ s0 = 0
  · replace h := (if_pos c126).symm.trans h
    refine x_if_ne_t (pc' := 141) dX8_judge_126 (by decide) c126 ?_
    refine x_iinc (pc' := 144) (w := (1 : Int32)) (ls' := [.ref 45, .int x1, .int x2, .int x3, .int (x4 + (1 : Int32)), .int x5, w6, .int s0]) dX8_judge_141 rfl rfl k_ic_1 rfl ?_
    refine x_goto (pc' := 41) dX8_judge_144 (by decide) ?_
    exact h
  · replace h := (if_neg c126).symm.trans h
    refine x_if_ne_f (pc' := 129) dX8_judge_126 (by decide) rfl c126 ?_
    refine x_bipush (pc' := 131) (w := (10 : Int32)) dX8_judge_129 rfl k_bi_10 ?_
    refine x_iload (pc' := 133) dX8_judge_131 rfl rfl ?_
    refine x_bipush (pc' := 135) (w := (7 : Int32)) dX8_judge_133 rfl k_bi_7 ?_
    refine x_idiv (pc' := 136) dX8_judge_135 rfl (by decide) ?_
    refine x_imul (pc' := 137) dX8_judge_136 rfl ?_
    refine x_iload (pc' := 139) dX8_judge_137 rfl rfl ?_
    refine x_iadd (pc' := 140) dX8_judge_139 rfl ?_
    exact x_iret dX8_judge_140 rfl ((tb_dI_ok _ _).trans h)
theorem BX8_judge_175 {d : Nat} {x1 x2 x3 x4 : Int32} {w5 w6 w7 : Value} {S : tb_St} {r : Int32 × tb_St} (h : ((if (224 : Int32) ≤ x4 then some ((-5 : Int32), S) else (tb_cI d mX8_tellsOf [.ref 45, .int x1, .int (x3 / (7 : Int32)), .int x4] S).bind fun q191 => (tb_cI d mX8_sayOf [.ref 45, .int x2, .int x4] (q191.2)).bind fun q198 => (if q191.1 = q198.1 then tb_E d mX8_judge tb_dI 175 [.ref 45, .int x1, .int x2, .int x3, .int (x4 + (1 : Int32)), w5, w6, w7] [] tb_S (q198.2) else some ((500 : Int32) + x4, q198.2)))) = some r) : tb_E d mX8_judge tb_dI 175 [.ref 45, .int x1, .int x2, .int x3, .int x4, w5, w6, w7] [] tb_S S = some r := by
  refine x_iload (pc' := 177) dX8_judge_175 rfl rfl ?_
  refine x_sipush (pc' := 180) (w := (224 : Int32)) dX8_judge_177 rfl k_si_224 ?_
  by_cases c180 : (224 : Int32) ≤ x4
  · replace h := (if_pos c180).symm.trans h
    refine x_icmp_ge_t (pc' := 217) dX8_judge_180 (by decide) c180 ?_
    refine x_bipush (pc' := 219) (w := (-5 : Int32)) dX8_judge_217 rfl k_bi_m5 ?_
    exact x_iret dX8_judge_219 rfl ((tb_dI_ok _ _).trans h)
  · replace h := (if_neg c180).symm.trans h
    refine x_icmp_ge_f (pc' := 183) dX8_judge_180 (by decide) rfl c180 ?_
    refine x_aload_n (pc' := 184) dX8_judge_183 rfl rfl ?_
    refine x_iload_n (pc' := 185) dX8_judge_184 rfl rfl ?_
    refine x_iload_n (pc' := 186) dX8_judge_185 rfl rfl ?_
    refine x_bipush (pc' := 188) (w := (7 : Int32)) dX8_judge_186 rfl k_bi_7 ?_
    refine x_idiv (pc' := 189) dX8_judge_188 rfl (by decide) ?_
    refine x_iload (pc' := 191) dX8_judge_189 rfl rfl ?_
    obtain ⟨q191, hq191, h⟩ := Option.bind_eq_some_iff.mp h
    refine x_virtI (pc' := 194) (o := 45) (as := [.int x1, .int (x3 / (7 : Int32)), .int x4]) (rest := []) dX8_judge_191 rfl lm_8_267 rfl rfl rfl sh_45 rfl hq191 ?_
    refine x_aload_n (pc' := 195) dX8_judge_194 rfl rfl ?_
    refine x_iload_n (pc' := 196) dX8_judge_195 rfl rfl ?_
    refine x_iload (pc' := 198) dX8_judge_196 rfl rfl ?_
    obtain ⟨q198, hq198, h⟩ := Option.bind_eq_some_iff.mp h
    refine x_virtI (pc' := 201) (o := 45) (as := [.int x2, .int x4]) (rest := [.int (q191.1)]) dX8_judge_198 rfl lm_8_207 rfl rfl rfl sh_45 rfl hq198 ?_
    by_cases c201 : q191.1 = q198.1
    · replace h := (if_pos c201).symm.trans h
      refine x_icmp_eq_t (pc' := 211) dX8_judge_201 (by decide) c201 ?_
      refine x_iinc (pc' := 214) (w := (1 : Int32)) (ls' := [.ref 45, .int x1, .int x2, .int x3, .int (x4 + (1 : Int32)), w5, w6, w7]) dX8_judge_211 rfl rfl k_ic_1 rfl ?_
      refine x_goto (pc' := 175) dX8_judge_214 (by decide) ?_
      exact h
    · replace h := (if_neg c201).symm.trans h
      refine x_icmp_eq_f (pc' := 204) dX8_judge_201 (by decide) rfl c201 ?_
      refine x_sipush (pc' := 207) (w := (500 : Int32)) dX8_judge_204 rfl k_si_500 ?_
      refine x_iload (pc' := 209) dX8_judge_207 rfl rfl ?_
      refine x_iadd (pc' := 210) dX8_judge_209 rfl ?_
      exact x_iret dX8_judge_210 rfl ((tb_dI_ok _ _).trans h)
/-! X7_judge (1,) -/
theorem BX7_judge_0 {d : Nat} {x1 x2 : Int32} {w3 w4 : Value} {S : tb_St} {r : Int32 × tb_St} (h : ((tb_cI d mX3_has [.ref 38, .int x1] S).bind fun q5 => (if q5.1 = 0 then some ((-1 : Int32), q5.2) else (tb_cI d mX5_has [.ref 2, .int x2] (q5.2)).bind fun q16 => (if ¬ q16.1 = 0 then (tb_cI d mX3_holds [.ref 38, .int x1] (q16.2)).bind fun q29 => (if ¬ q29.1 = 0 then (tb_cI d mX3_flaw [.ref 38, .int x1] (q29.2)).bind fun q43 => (if q43.1 = (-1 : Int32) then (tb_cV d mX6_unfold [.ref 24, .int x2] (q43.2)).bind fun q59 => tb_E d mX7_judge tb_dI 65 [.ref 1, .int x1, .int x2, .int (q43.1), .int (0 : Int32)] [] tb_S q59 else some (q43.1, q43.2)) else some ((-11 : Int32), q29.2)) else some ((-1 : Int32), q16.2)))) = some r) : tb_E d mX7_judge tb_dI 0 [.ref 1, .int x1, .int x2, w3, w4] [] tb_S S = some r := by
  refine x_aload_n (pc' := 1) dX7_judge_0 rfl rfl ?_
  refine x_getR (pc' := 4) dX7_judge_1 rfl lf_7_68 rfl sh_1 rfl ?_
  refine x_iload_n (pc' := 5) dX7_judge_4 rfl rfl ?_
  obtain ⟨q5, hq5, h⟩ := Option.bind_eq_some_iff.mp h
  refine x_virtI (pc' := 8) (o := 38) (as := [.int x1]) (rest := []) dX7_judge_5 rfl lm_7_233 rfl rfl rfl sh_38 rfl hq5 ?_
  by_cases c8 : q5.1 = 0
  · replace h := (if_pos c8).symm.trans h
    refine x_if_eq_t (pc' := 22) dX7_judge_8 (by decide) c8 ?_
    refine x_iconst (pc' := 23) (w := (-1 : Int32)) dX7_judge_22 rfl k_ic_m1 ?_
    exact x_iret dX7_judge_23 rfl ((tb_dI_ok _ _).trans h)
  · replace h := (if_neg c8).symm.trans h
    refine x_if_eq_f (pc' := 11) dX7_judge_8 (by decide) rfl c8 ?_
    refine x_aload_n (pc' := 12) dX7_judge_11 rfl rfl ?_
    refine x_getR (pc' := 15) dX7_judge_12 rfl lf_7_12 rfl sh_1 rfl ?_
    refine x_iload_n (pc' := 16) dX7_judge_15 rfl rfl ?_
    obtain ⟨q16, hq16, h⟩ := Option.bind_eq_some_iff.mp h
    refine x_virtI (pc' := 19) (o := 2) (as := [.int x2]) (rest := []) dX7_judge_16 rfl lm_7_80 rfl rfl rfl sh_2 rfl hq16 ?_
    by_cases c19 : ¬ q16.1 = 0
    · replace h := (if_pos c19).symm.trans h
      refine x_if_ne_t (pc' := 24) dX7_judge_19 (by decide) c19 ?_
      refine x_aload_n (pc' := 25) dX7_judge_24 rfl rfl ?_
      refine x_getR (pc' := 28) dX7_judge_25 rfl lf_7_68 rfl sh_1 rfl ?_
      refine x_iload_n (pc' := 29) dX7_judge_28 rfl rfl ?_
      obtain ⟨q29, hq29, h⟩ := Option.bind_eq_some_iff.mp h
      refine x_virtI (pc' := 32) (o := 38) (as := [.int x1]) (rest := []) dX7_judge_29 rfl lm_7_237 rfl rfl rfl sh_38 rfl hq29 ?_
      by_cases c32 : ¬ q29.1 = 0
      · replace h := (if_pos c32).symm.trans h
        refine x_if_ne_t (pc' := 38) dX7_judge_32 (by decide) c32 ?_
        refine x_aload_n (pc' := 39) dX7_judge_38 rfl rfl ?_
        refine x_getR (pc' := 42) dX7_judge_39 rfl lf_7_68 rfl sh_1 rfl ?_
        refine x_iload_n (pc' := 43) dX7_judge_42 rfl rfl ?_
        obtain ⟨q43, hq43, h⟩ := Option.bind_eq_some_iff.mp h
        refine x_virtI (pc' := 46) (o := 38) (as := [.int x1]) (rest := []) dX7_judge_43 rfl lm_7_255 rfl rfl rfl sh_38 rfl hq43 ?_
        refine x_istore_n (pc' := 47) (ls' := [.ref 1, .int x1, .int x2, .int (q43.1), w4]) dX7_judge_46 rfl rfl rfl ?_
        refine x_iload_n (pc' := 48) dX7_judge_47 rfl rfl ?_
        refine x_iconst (pc' := 49) (w := (-1 : Int32)) dX7_judge_48 rfl k_ic_m1 ?_
        by_cases c49 : q43.1 = (-1 : Int32)
        · replace h := (if_pos c49).symm.trans h
          refine x_icmp_eq_t (pc' := 54) dX7_judge_49 (by decide) c49 ?_
          refine x_aload_n (pc' := 55) dX7_judge_54 rfl rfl ?_
          refine x_getR (pc' := 58) dX7_judge_55 rfl lf_7_40 rfl sh_1 rfl ?_
          refine x_iload_n (pc' := 59) dX7_judge_58 rfl rfl ?_
          obtain ⟨q59, hq59, h⟩ := Option.bind_eq_some_iff.mp h
          refine x_virtV (pc' := 62) (o := 24) (as := [.int x2]) (rest := []) dX7_judge_59 rfl lm_7_152 rfl rfl rfl sh_24 rfl hq59 ?_
          refine x_iconst (pc' := 63) (w := (0 : Int32)) dX7_judge_62 rfl k_ic_0 ?_
          refine x_istore (pc' := 65) (ls' := [.ref 1, .int x1, .int x2, .int (q43.1), .int (0 : Int32)]) dX7_judge_63 rfl rfl rfl ?_
          exact h
        · replace h := (if_neg c49).symm.trans h
          refine x_icmp_eq_f (pc' := 52) dX7_judge_49 (by decide) rfl c49 ?_
          refine x_iload_n (pc' := 53) dX7_judge_52 rfl rfl ?_
          exact x_iret dX7_judge_53 rfl ((tb_dI_ok _ _).trans h)
      · replace h := (if_neg c32).symm.trans h
        refine x_if_ne_f (pc' := 35) dX7_judge_32 (by decide) rfl c32 ?_
        refine x_bipush (pc' := 37) (w := (-11 : Int32)) dX7_judge_35 rfl k_bi_m11 ?_
        exact x_iret dX7_judge_37 rfl ((tb_dI_ok _ _).trans h)
    · replace h := (if_neg c19).symm.trans h
      refine x_if_ne_f (pc' := 22) dX7_judge_19 (by decide) rfl c19 ?_
      refine x_iconst (pc' := 23) (w := (-1 : Int32)) dX7_judge_22 rfl k_ic_m1 ?_
      exact x_iret dX7_judge_23 rfl ((tb_dI_ok _ _).trans h)
theorem MX7_judge {d : Nat} {x1 : Int32} {x2 : Int32} {S : tb_St} {r : Int32 × tb_St} (h : ((tb_cI d mX3_has [.ref 38, .int x1] S).bind fun q5 => (if q5.1 = 0 then some ((-1 : Int32), q5.2) else (tb_cI d mX5_has [.ref 2, .int x2] (q5.2)).bind fun q16 => (if ¬ q16.1 = 0 then (tb_cI d mX3_holds [.ref 38, .int x1] (q16.2)).bind fun q29 => (if ¬ q29.1 = 0 then (tb_cI d mX3_flaw [.ref 38, .int x1] (q29.2)).bind fun q43 => (if q43.1 = (-1 : Int32) then (tb_cV d mX6_unfold [.ref 24, .int x2] (q43.2)).bind fun q59 => tb_E d mX7_judge tb_dI 65 [.ref 1, .int x1, .int x2, .int (q43.1), .int (0 : Int32)] [] tb_S q59 else some (q43.1, q43.2)) else some ((-11 : Int32), q29.2)) else some ((-1 : Int32), q16.2)))) = some r) : tb_cI (d + 1) mX7_judge [.ref 1, .int x1, .int x2] S = some r := tb_enI rfl rfl (BX7_judge_0 h)
theorem BX7_judge_65 {d : Nat} {x1 x4 : Int32} {w2 w3 : Value} {S : tb_St} {r : Int32 × tb_St} (h : ((if (224 : Int32) ≤ x4 then some ((-5 : Int32), S) else (tb_cI d mX3_answer [.ref 38, .int x1, .int x4] S).bind fun q80 => (tb_cI d mX6_answer [.ref 24, .int x4] (q80.2)).bind fun q89 => (if q80.1 = q89.1 then tb_E d mX7_judge tb_dI 65 [.ref 1, .int x1, w2, w3, .int (x4 + (1 : Int32))] [] tb_S (q89.2) else some ((500 : Int32) + x4, q89.2)))) = some r) : tb_E d mX7_judge tb_dI 65 [.ref 1, .int x1, w2, w3, .int x4] [] tb_S S = some r := by
  refine x_iload (pc' := 67) dX7_judge_65 rfl rfl ?_
  refine x_sipush (pc' := 70) (w := (224 : Int32)) dX7_judge_67 rfl k_si_224 ?_
  by_cases c70 : (224 : Int32) ≤ x4
  · replace h := (if_pos c70).symm.trans h
    refine x_icmp_ge_t (pc' := 108) dX7_judge_70 (by decide) c70 ?_
    refine x_bipush (pc' := 110) (w := (-5 : Int32)) dX7_judge_108 rfl k_bi_m5 ?_
    exact x_iret dX7_judge_110 rfl ((tb_dI_ok _ _).trans h)
  · replace h := (if_neg c70).symm.trans h
    refine x_icmp_ge_f (pc' := 73) dX7_judge_70 (by decide) rfl c70 ?_
    refine x_aload_n (pc' := 74) dX7_judge_73 rfl rfl ?_
    refine x_getR (pc' := 77) dX7_judge_74 rfl lf_7_68 rfl sh_1 rfl ?_
    refine x_iload_n (pc' := 78) dX7_judge_77 rfl rfl ?_
    refine x_iload (pc' := 80) dX7_judge_78 rfl rfl ?_
    obtain ⟨q80, hq80, h⟩ := Option.bind_eq_some_iff.mp h
    refine x_virtI (pc' := 83) (o := 38) (as := [.int x1, .int x4]) (rest := []) dX7_judge_80 rfl lm_7_258 rfl rfl rfl sh_38 rfl hq80 ?_
    refine x_aload_n (pc' := 84) dX7_judge_83 rfl rfl ?_
    refine x_getR (pc' := 87) dX7_judge_84 rfl lf_7_40 rfl sh_1 rfl ?_
    refine x_iload (pc' := 89) dX7_judge_87 rfl rfl ?_
    obtain ⟨q89, hq89, h⟩ := Option.bind_eq_some_iff.mp h
    refine x_virtI (pc' := 92) (o := 24) (as := [.int x4]) (rest := [.int (q80.1)]) dX7_judge_89 rfl lm_7_155 rfl rfl rfl sh_24 rfl hq89 ?_
    by_cases c92 : q80.1 = q89.1
    · replace h := (if_pos c92).symm.trans h
      refine x_icmp_eq_t (pc' := 102) dX7_judge_92 (by decide) c92 ?_
      refine x_iinc (pc' := 105) (w := (1 : Int32)) (ls' := [.ref 1, .int x1, w2, w3, .int (x4 + (1 : Int32))]) dX7_judge_102 rfl rfl k_ic_1 rfl ?_
      refine x_goto (pc' := 65) dX7_judge_105 (by decide) ?_
      exact h
    · replace h := (if_neg c92).symm.trans h
      refine x_icmp_eq_f (pc' := 95) dX7_judge_92 (by decide) rfl c92 ?_
      refine x_sipush (pc' := 98) (w := (500 : Int32)) dX7_judge_95 rfl k_si_500 ?_
      refine x_iload (pc' := 100) dX7_judge_98 rfl rfl ?_
      refine x_iadd (pc' := 101) dX7_judge_100 rfl ?_
      exact x_iret dX7_judge_101 rfl ((tb_dI_ok _ _).trans h)
/-! X8_lay (45,) -/
theorem BX8_lay_0 {d : Nat} {x1 x2 x3 : Int32} {w4 w5 : Value} {S : tb_St} {r : Int32 × tb_St} (h : ((tb_cI d mX8_isTerm [.ref 45, .int x1] S).bind fun q2 => (if q2.1 = 0 then some ((-1 : Int32), q2.2) else (tb_cI d mX8_isRack [.int x2] (q2.2)).bind fun q9 => (if ¬ q9.1 = 0 then (tb_ix x2 4).bind fun j22 => (if ¬ (q9.2) 64 j22 = 0 then (tb_cV d mX8_finds [.ref 45, .int x1, .int x1, .int (0 : Int32)] (q9.2)).bind fun q33 => tb_E d mX8_lay tb_dI 39 [.ref 45, .int x1, .int x2, .int x3, .int (0 : Int32), w5] [] tb_S q33 else some ((-11 : Int32), q9.2)) else some ((-1 : Int32), q9.2)))) = some r) : tb_E d mX8_lay tb_dI 0 [.ref 45, .int x1, .int x2, .int x3, w4, w5] [] tb_S S = some r := by
  refine x_aload_n (pc' := 1) dX8_lay_0 rfl rfl ?_
  refine x_iload_n (pc' := 2) dX8_lay_1 rfl rfl ?_
  obtain ⟨q2, hq2, h⟩ := Option.bind_eq_some_iff.mp h
  refine x_virtI (pc' := 5) (o := 45) (as := [.int x1]) (rest := []) dX8_lay_2 rfl lm_8_109 rfl rfl rfl sh_45 rfl hq2 ?_
  by_cases c5 : q2.1 = 0
  · replace h := (if_pos c5).symm.trans h
    refine x_if_eq_t (pc' := 15) dX8_lay_5 (by decide) c5 ?_
    refine x_iconst (pc' := 16) (w := (-1 : Int32)) dX8_lay_15 rfl k_ic_m1 ?_
    exact x_iret dX8_lay_16 rfl ((tb_dI_ok _ _).trans h)
  · replace h := (if_neg c5).symm.trans h
    refine x_if_eq_f (pc' := 8) dX8_lay_5 (by decide) rfl c5 ?_
    refine x_iload_n (pc' := 9) dX8_lay_8 rfl rfl ?_
    obtain ⟨q9, hq9, h⟩ := Option.bind_eq_some_iff.mp h
    refine x_statI (pc' := 12) (as := [.int x2]) (rest := []) dX8_lay_9 rfl lm_8_264 (by decide) rfl rfl rfl rfl hq9 ?_
    by_cases c12 : ¬ q9.1 = 0
    · replace h := (if_pos c12).symm.trans h
      refine x_if_ne_t (pc' := 17) dX8_lay_12 (by decide) c12 ?_
      refine x_aload_n (pc' := 18) dX8_lay_17 rfl rfl ?_
      refine x_getR (pc' := 21) dX8_lay_18 rfl lf_8_71 rfl sh_45 rfl ?_
      refine x_iload_n (pc' := 22) dX8_lay_21 rfl rfl ?_
      obtain ⟨j22, hj22, h⟩ := Option.bind_eq_some_iff.mp h
      refine x_iaload (pc' := 23) (v := (q9.2) 64 j22) dX8_lay_22 rfl sh_64 hj22 rfl ?_
      by_cases c23 : ¬ (q9.2) 64 j22 = 0
      · replace h := (if_pos c23).symm.trans h
        refine x_if_ne_t (pc' := 29) dX8_lay_23 (by decide) c23 ?_
        refine x_aload_n (pc' := 30) dX8_lay_29 rfl rfl ?_
        refine x_iload_n (pc' := 31) dX8_lay_30 rfl rfl ?_
        refine x_iload_n (pc' := 32) dX8_lay_31 rfl rfl ?_
        refine x_iconst (pc' := 33) (w := (0 : Int32)) dX8_lay_32 rfl k_ic_0 ?_
        obtain ⟨q33, hq33, h⟩ := Option.bind_eq_some_iff.mp h
        refine x_virtV (pc' := 36) (o := 45) (as := [.int x1, .int x1, .int (0 : Int32)]) (rest := []) dX8_lay_33 rfl lm_8_235 rfl rfl rfl sh_45 rfl hq33 ?_
        refine x_iconst (pc' := 37) (w := (0 : Int32)) dX8_lay_36 rfl k_ic_0 ?_
        refine x_istore (pc' := 39) (ls' := [.ref 45, .int x1, .int x2, .int x3, .int (0 : Int32), w5]) dX8_lay_37 rfl rfl rfl ?_
        exact h
      · replace h := (if_neg c23).symm.trans h
        refine x_if_ne_f (pc' := 26) dX8_lay_23 (by decide) rfl c23 ?_
        refine x_bipush (pc' := 28) (w := (-11 : Int32)) dX8_lay_26 rfl k_bi_m11 ?_
        exact x_iret dX8_lay_28 rfl ((tb_dI_ok _ _).trans h)
    · replace h := (if_neg c12).symm.trans h
      refine x_if_ne_f (pc' := 15) dX8_lay_12 (by decide) rfl c12 ?_
      refine x_iconst (pc' := 16) (w := (-1 : Int32)) dX8_lay_15 rfl k_ic_m1 ?_
      exact x_iret dX8_lay_16 rfl ((tb_dI_ok _ _).trans h)
theorem MX8_lay {d : Nat} {x1 : Int32} {x2 : Int32} {x3 : Int32} {S : tb_St} {r : Int32 × tb_St} (h : ((tb_cI d mX8_isTerm [.ref 45, .int x1] S).bind fun q2 => (if q2.1 = 0 then some ((-1 : Int32), q2.2) else (tb_cI d mX8_isRack [.int x2] (q2.2)).bind fun q9 => (if ¬ q9.1 = 0 then (tb_ix x2 4).bind fun j22 => (if ¬ (q9.2) 64 j22 = 0 then (tb_cV d mX8_finds [.ref 45, .int x1, .int x1, .int (0 : Int32)] (q9.2)).bind fun q33 => tb_E d mX8_lay tb_dI 39 [.ref 45, .int x1, .int x2, .int x3, .int (0 : Int32), tb_jk] [] tb_S q33 else some ((-11 : Int32), q9.2)) else some ((-1 : Int32), q9.2)))) = some r) : tb_cI (d + 1) mX8_lay [.ref 45, .int x1, .int x2, .int x3] S = some r := tb_enI rfl rfl (BX8_lay_0 h)
theorem BX8_lay_39 {d : Nat} {x2 x3 x4 : Int32} {w1 w5 : Value} {S : tb_St} {r : Int32 × tb_St} (h : ((if (7 : Int32) * (S 45 14) ≤ x4 then some ((7 : Int32) * (S 45 14), S) else (if x3 < 0 then some ((-13 : Int32), S) else (if x3 + x4 < 0 then some ((-13 : Int32), S) else (tb_ix x2 4).bind fun j73 => (if x3 + x4 ≤ (S 64 j73) - (2 : Int32) then (tb_ix (((8 : Int32) * (x4 / (7 : Int32))) + (tb_rem x4 (7 : Int32))) 1792).bind fun j111 => (tb_ix (((70 : Int32) * x2) + (x3 + x4)) 280).bind fun j112 => tb_E d mX8_lay tb_dI 39 [.ref 45, w1, .int x2, .int x3, .int (x4 + (1 : Int32)), .int (x3 + x4)] [] tb_S (tb_up S 65 j112 (S 58 j111)) else some ((-13 : Int32), S)))))) = some r) : tb_E d mX8_lay tb_dI 39 [.ref 45, w1, .int x2, .int x3, .int x4, w5] [] tb_S S = some r := by
  refine x_iload (pc' := 41) dX8_lay_39 rfl rfl ?_
  refine x_bipush (pc' := 43) (w := (7 : Int32)) dX8_lay_41 rfl k_bi_7 ?_
  refine x_aload_n (pc' := 44) dX8_lay_43 rfl rfl ?_
  refine x_getI (pc' := 47) (v := S 45 14) dX8_lay_44 rfl lf_8_225 rfl sh_45 rfl ?_
  refine x_imul (pc' := 48) dX8_lay_47 rfl ?_
  by_cases c48 : (7 : Int32) * (S 45 14) ≤ x4
  · replace h := (if_pos c48).symm.trans h
    refine x_icmp_ge_t (pc' := 119) dX8_lay_48 (by decide) c48 ?_
    refine x_bipush (pc' := 121) (w := (7 : Int32)) dX8_lay_119 rfl k_bi_7 ?_
    refine x_aload_n (pc' := 122) dX8_lay_121 rfl rfl ?_
    refine x_getI (pc' := 125) (v := S 45 14) dX8_lay_122 rfl lf_8_225 rfl sh_45 rfl ?_
    refine x_imul (pc' := 126) dX8_lay_125 rfl ?_
    exact x_iret dX8_lay_126 rfl ((tb_dI_ok _ _).trans h)
  · replace h := (if_neg c48).symm.trans h
    refine x_icmp_ge_f (pc' := 51) dX8_lay_48 (by decide) rfl c48 ?_
    refine x_iload_n (pc' := 52) dX8_lay_51 rfl rfl ?_
    refine x_iload (pc' := 54) dX8_lay_52 rfl rfl ?_
    refine x_iadd (pc' := 55) dX8_lay_54 rfl ?_
    refine x_istore (pc' := 57) (ls' := [.ref 45, w1, .int x2, .int x3, .int x4, .int (x3 + x4)]) dX8_lay_55 rfl rfl rfl ?_
    refine x_iload_n (pc' := 58) dX8_lay_57 rfl rfl ?_
    by_cases c58 : x3 < 0
    · replace h := (if_pos c58).symm.trans h
      refine x_if_lt_t (pc' := 79) dX8_lay_58 (by decide) c58 ?_
      refine x_bipush (pc' := 81) (w := (-13 : Int32)) dX8_lay_79 rfl k_bi_m13 ?_
      exact x_iret dX8_lay_81 rfl ((tb_dI_ok _ _).trans h)
    · replace h := (if_neg c58).symm.trans h
      refine x_if_lt_f (pc' := 61) dX8_lay_58 (by decide) rfl c58 ?_
      refine x_iload (pc' := 63) dX8_lay_61 rfl rfl ?_
      by_cases c63 : x3 + x4 < 0
      · replace h := (if_pos c63).symm.trans h
        refine x_if_lt_t (pc' := 79) dX8_lay_63 (by decide) c63 ?_
        refine x_bipush (pc' := 81) (w := (-13 : Int32)) dX8_lay_79 rfl k_bi_m13 ?_
        exact x_iret dX8_lay_81 rfl ((tb_dI_ok _ _).trans h)
      · replace h := (if_neg c63).symm.trans h
        refine x_if_lt_f (pc' := 66) dX8_lay_63 (by decide) rfl c63 ?_
        refine x_iload (pc' := 68) dX8_lay_66 rfl rfl ?_
        refine x_aload_n (pc' := 69) dX8_lay_68 rfl rfl ?_
        refine x_getR (pc' := 72) dX8_lay_69 rfl lf_8_71 rfl sh_45 rfl ?_
        refine x_iload_n (pc' := 73) dX8_lay_72 rfl rfl ?_
        obtain ⟨j73, hj73, h⟩ := Option.bind_eq_some_iff.mp h
        refine x_iaload (pc' := 74) (v := S 64 j73) dX8_lay_73 rfl sh_64 hj73 rfl ?_
        refine x_iconst (pc' := 75) (w := (2 : Int32)) dX8_lay_74 rfl k_ic_2 ?_
        refine x_isub (pc' := 76) dX8_lay_75 rfl ?_
        by_cases c76 : x3 + x4 ≤ (S 64 j73) - (2 : Int32)
        · replace h := (if_pos c76).symm.trans h
          refine x_icmp_le_t (pc' := 82) dX8_lay_76 (by decide) c76 ?_
          refine x_aload_n (pc' := 83) dX8_lay_82 rfl rfl ?_
          refine x_getR (pc' := 86) dX8_lay_83 rfl lf_8_74 rfl sh_45 rfl ?_
          refine x_bipush (pc' := 88) (w := (70 : Int32)) dX8_lay_86 rfl k_bi_70 ?_
          refine x_iload_n (pc' := 89) dX8_lay_88 rfl rfl ?_
          refine x_imul (pc' := 90) dX8_lay_89 rfl ?_
          refine x_iload (pc' := 92) dX8_lay_90 rfl rfl ?_
          refine x_iadd (pc' := 93) dX8_lay_92 rfl ?_
          refine x_aload_n (pc' := 94) dX8_lay_93 rfl rfl ?_
          refine x_getR (pc' := 97) dX8_lay_94 rfl lf_8_49 rfl sh_45 rfl ?_
          refine x_bipush (pc' := 99) (w := (8 : Int32)) dX8_lay_97 rfl k_bi_8 ?_
          refine x_iload (pc' := 101) dX8_lay_99 rfl rfl ?_
          refine x_bipush (pc' := 103) (w := (7 : Int32)) dX8_lay_101 rfl k_bi_7 ?_
          refine x_idiv (pc' := 104) dX8_lay_103 rfl (by decide) ?_
          refine x_imul (pc' := 105) dX8_lay_104 rfl ?_
          refine x_iload (pc' := 107) dX8_lay_105 rfl rfl ?_
          refine x_bipush (pc' := 109) (w := (7 : Int32)) dX8_lay_107 rfl k_bi_7 ?_
          refine x_irem (pc' := 110) dX8_lay_109 rfl (by decide) ?_
          refine x_iadd (pc' := 111) dX8_lay_110 rfl ?_
          obtain ⟨j111, hj111, h⟩ := Option.bind_eq_some_iff.mp h
          refine x_iaload (pc' := 112) (v := S 58 j111) dX8_lay_111 rfl sh_58 hj111 rfl ?_
          obtain ⟨j112, hj112, h⟩ := Option.bind_eq_some_iff.mp h
          refine x_iastore (pc' := 113) dX8_lay_112 rfl sh_65 hj112 ?_
          refine x_iinc (pc' := 116) (w := (1 : Int32)) (ls' := [.ref 45, w1, .int x2, .int x3, .int (x4 + (1 : Int32)), .int (x3 + x4)]) dX8_lay_113 rfl rfl k_ic_1 rfl ?_
          refine x_goto (pc' := 39) dX8_lay_116 (by decide) ?_
          exact h
        · replace h := (if_neg c76).symm.trans h
          refine x_icmp_le_f (pc' := 79) dX8_lay_76 (by decide) rfl c76 ?_
          refine x_bipush (pc' := 81) (w := (-13 : Int32)) dX8_lay_79 rfl k_bi_m13 ?_
          exact x_iret dX8_lay_81 rfl ((tb_dI_ok _ _).trans h)
/-! X7_lay (1,) -/
theorem BX7_lay_0 {d : Nat} {x1 x2 x3 : Int32} {w4 w5 : Value} {S : tb_St} {r : Int32 × tb_St} (h : ((tb_cI d mX5_has [.ref 2, .int x1] S).bind fun q5 => (if q5.1 = 0 then some ((-1 : Int32), q5.2) else (tb_cI d mX3_has [.ref 38, .int x2] (q5.2)).bind fun q16 => (if ¬ q16.1 = 0 then (tb_cI d mX3_holds [.ref 38, .int x2] (q16.2)).bind fun q29 => (if ¬ q29.1 = 0 then (tb_cV d mX7_boxFees [.ref 1, .int x1] (q29.2)).bind fun q40 => tb_E d mX7_lay tb_dI 58 [.ref 1, .int x1, .int x2, .int x3, .int ((7 : Int32) * (q40 28 3)), .int (0 : Int32)] [] tb_S q40 else some ((-11 : Int32), q29.2)) else some ((-1 : Int32), q16.2)))) = some r) : tb_E d mX7_lay tb_dI 0 [.ref 1, .int x1, .int x2, .int x3, w4, w5] [] tb_S S = some r := by
  refine x_aload_n (pc' := 1) dX7_lay_0 rfl rfl ?_
  refine x_getR (pc' := 4) dX7_lay_1 rfl lf_7_12 rfl sh_1 rfl ?_
  refine x_iload_n (pc' := 5) dX7_lay_4 rfl rfl ?_
  obtain ⟨q5, hq5, h⟩ := Option.bind_eq_some_iff.mp h
  refine x_virtI (pc' := 8) (o := 2) (as := [.int x1]) (rest := []) dX7_lay_5 rfl lm_7_80 rfl rfl rfl sh_2 rfl hq5 ?_
  by_cases c8 : q5.1 = 0
  · replace h := (if_pos c8).symm.trans h
    refine x_if_eq_t (pc' := 22) dX7_lay_8 (by decide) c8 ?_
    refine x_iconst (pc' := 23) (w := (-1 : Int32)) dX7_lay_22 rfl k_ic_m1 ?_
    exact x_iret dX7_lay_23 rfl ((tb_dI_ok _ _).trans h)
  · replace h := (if_neg c8).symm.trans h
    refine x_if_eq_f (pc' := 11) dX7_lay_8 (by decide) rfl c8 ?_
    refine x_aload_n (pc' := 12) dX7_lay_11 rfl rfl ?_
    refine x_getR (pc' := 15) dX7_lay_12 rfl lf_7_68 rfl sh_1 rfl ?_
    refine x_iload_n (pc' := 16) dX7_lay_15 rfl rfl ?_
    obtain ⟨q16, hq16, h⟩ := Option.bind_eq_some_iff.mp h
    refine x_virtI (pc' := 19) (o := 38) (as := [.int x2]) (rest := []) dX7_lay_16 rfl lm_7_233 rfl rfl rfl sh_38 rfl hq16 ?_
    by_cases c19 : ¬ q16.1 = 0
    · replace h := (if_pos c19).symm.trans h
      refine x_if_ne_t (pc' := 24) dX7_lay_19 (by decide) c19 ?_
      refine x_aload_n (pc' := 25) dX7_lay_24 rfl rfl ?_
      refine x_getR (pc' := 28) dX7_lay_25 rfl lf_7_68 rfl sh_1 rfl ?_
      refine x_iload_n (pc' := 29) dX7_lay_28 rfl rfl ?_
      obtain ⟨q29, hq29, h⟩ := Option.bind_eq_some_iff.mp h
      refine x_virtI (pc' := 32) (o := 38) (as := [.int x2]) (rest := []) dX7_lay_29 rfl lm_7_237 rfl rfl rfl sh_38 rfl hq29 ?_
      by_cases c32 : ¬ q29.1 = 0
      · replace h := (if_pos c32).symm.trans h
        refine x_if_ne_t (pc' := 38) dX7_lay_32 (by decide) c32 ?_
        refine x_aload_n (pc' := 39) dX7_lay_38 rfl rfl ?_
        refine x_iload_n (pc' := 40) dX7_lay_39 rfl rfl ?_
        obtain ⟨q40, hq40, h⟩ := Option.bind_eq_some_iff.mp h
        refine x_virtV (pc' := 43) (o := 1) (as := [.int x1]) (rest := []) dX7_lay_40 rfl lm_7_170 rfl rfl rfl sh_1 rfl hq40 ?_
        refine x_bipush (pc' := 45) (w := (7 : Int32)) dX7_lay_43 rfl k_bi_7 ?_
        refine x_aload_n (pc' := 46) dX7_lay_45 rfl rfl ?_
        refine x_getR (pc' := 49) dX7_lay_46 rfl lf_7_47 rfl sh_1 rfl ?_
        refine x_getI (pc' := 52) (v := q40 28 3) dX7_lay_49 rfl lf_7_251 rfl sh_28 rfl ?_
        refine x_imul (pc' := 53) dX7_lay_52 rfl ?_
        refine x_istore (pc' := 55) (ls' := [.ref 1, .int x1, .int x2, .int x3, .int ((7 : Int32) * (q40 28 3)), w5]) dX7_lay_53 rfl rfl rfl ?_
        refine x_iconst (pc' := 56) (w := (0 : Int32)) dX7_lay_55 rfl k_ic_0 ?_
        refine x_istore (pc' := 58) (ls' := [.ref 1, .int x1, .int x2, .int x3, .int ((7 : Int32) * (q40 28 3)), .int (0 : Int32)]) dX7_lay_56 rfl rfl rfl ?_
        exact h
      · replace h := (if_neg c32).symm.trans h
        refine x_if_ne_f (pc' := 35) dX7_lay_32 (by decide) rfl c32 ?_
        refine x_bipush (pc' := 37) (w := (-11 : Int32)) dX7_lay_35 rfl k_bi_m11 ?_
        exact x_iret dX7_lay_37 rfl ((tb_dI_ok _ _).trans h)
    · replace h := (if_neg c19).symm.trans h
      refine x_if_ne_f (pc' := 22) dX7_lay_19 (by decide) rfl c19 ?_
      refine x_iconst (pc' := 23) (w := (-1 : Int32)) dX7_lay_22 rfl k_ic_m1 ?_
      exact x_iret dX7_lay_23 rfl ((tb_dI_ok _ _).trans h)
theorem MX7_lay {d : Nat} {x1 : Int32} {x2 : Int32} {x3 : Int32} {S : tb_St} {r : Int32 × tb_St} (h : ((tb_cI d mX5_has [.ref 2, .int x1] S).bind fun q5 => (if q5.1 = 0 then some ((-1 : Int32), q5.2) else (tb_cI d mX3_has [.ref 38, .int x2] (q5.2)).bind fun q16 => (if ¬ q16.1 = 0 then (tb_cI d mX3_holds [.ref 38, .int x2] (q16.2)).bind fun q29 => (if ¬ q29.1 = 0 then (tb_cV d mX7_boxFees [.ref 1, .int x1] (q29.2)).bind fun q40 => tb_E d mX7_lay tb_dI 58 [.ref 1, .int x1, .int x2, .int x3, .int ((7 : Int32) * (q40 28 3)), .int (0 : Int32)] [] tb_S q40 else some ((-11 : Int32), q29.2)) else some ((-1 : Int32), q16.2)))) = some r) : tb_cI (d + 1) mX7_lay [.ref 1, .int x1, .int x2, .int x3] S = some r := tb_enI rfl rfl (BX7_lay_0 h)
theorem BX7_lay_58 {d : Nat} {x2 x3 x4 x5 : Int32} {w1 : Value} {S : tb_St} {r : Int32 × tb_St} (h : ((if x4 ≤ x5 then some (x4, S) else (tb_cI d mX3_hasPlace [.ref 38, .int x2, .int (x3 + x5)] S).bind fun q74 => (if ¬ q74.1 = 0 then (tb_cI d mX7_partNumber [.ref 1, .int (x5 / (7 : Int32)), .int (tb_rem x5 (7 : Int32))] (q74.2)).bind fun q103 => (tb_cV d mX3_store [.ref 38, .int x2, .int (x3 + x5), .int (q103.1)] (q103.2)).bind fun q106 => tb_E d mX7_lay tb_dI 58 [.ref 1, w1, .int x2, .int x3, .int x4, .int (x5 + (1 : Int32))] [] tb_S q106 else some ((-13 : Int32), q74.2)))) = some r) : tb_E d mX7_lay tb_dI 58 [.ref 1, w1, .int x2, .int x3, .int x4, .int x5] [] tb_S S = some r := by
  refine x_iload (pc' := 60) dX7_lay_58 rfl rfl ?_
  refine x_iload (pc' := 62) dX7_lay_60 rfl rfl ?_
  by_cases c62 : x4 ≤ x5
  · replace h := (if_pos c62).symm.trans h
    refine x_icmp_ge_t (pc' := 115) dX7_lay_62 (by decide) c62 ?_
    refine x_iload (pc' := 117) dX7_lay_115 rfl rfl ?_
    exact x_iret dX7_lay_117 rfl ((tb_dI_ok _ _).trans h)
  · replace h := (if_neg c62).symm.trans h
    refine x_icmp_ge_f (pc' := 65) dX7_lay_62 (by decide) rfl c62 ?_
    refine x_aload_n (pc' := 66) dX7_lay_65 rfl rfl ?_
    refine x_getR (pc' := 69) dX7_lay_66 rfl lf_7_68 rfl sh_1 rfl ?_
    refine x_iload_n (pc' := 70) dX7_lay_69 rfl rfl ?_
    refine x_iload_n (pc' := 71) dX7_lay_70 rfl rfl ?_
    refine x_iload (pc' := 73) dX7_lay_71 rfl rfl ?_
    refine x_iadd (pc' := 74) dX7_lay_73 rfl ?_
    obtain ⟨q74, hq74, h⟩ := Option.bind_eq_some_iff.mp h
    refine x_virtI (pc' := 77) (o := 38) (as := [.int x2, .int (x3 + x5)]) (rest := []) dX7_lay_74 rfl lm_7_240 rfl rfl rfl sh_38 rfl hq74 ?_
    by_cases c77 : ¬ q74.1 = 0
    · replace h := (if_pos c77).symm.trans h
      refine x_if_ne_t (pc' := 83) dX7_lay_77 (by decide) c77 ?_
      refine x_aload_n (pc' := 84) dX7_lay_83 rfl rfl ?_
      refine x_getR (pc' := 87) dX7_lay_84 rfl lf_7_68 rfl sh_1 rfl ?_
      refine x_iload_n (pc' := 88) dX7_lay_87 rfl rfl ?_
      refine x_iload_n (pc' := 89) dX7_lay_88 rfl rfl ?_
      refine x_iload (pc' := 91) dX7_lay_89 rfl rfl ?_
      refine x_iadd (pc' := 92) dX7_lay_91 rfl ?_
      refine x_aload_n (pc' := 93) dX7_lay_92 rfl rfl ?_
      refine x_iload (pc' := 95) dX7_lay_93 rfl rfl ?_
      refine x_bipush (pc' := 97) (w := (7 : Int32)) dX7_lay_95 rfl k_bi_7 ?_
      refine x_idiv (pc' := 98) dX7_lay_97 rfl (by decide) ?_
      refine x_iload (pc' := 100) dX7_lay_98 rfl rfl ?_
      refine x_bipush (pc' := 102) (w := (7 : Int32)) dX7_lay_100 rfl k_bi_7 ?_
      refine x_irem (pc' := 103) dX7_lay_102 rfl (by decide) ?_
      obtain ⟨q103, hq103, h⟩ := Option.bind_eq_some_iff.mp h
      refine x_virtI (pc' := 106) (o := 1) (as := [.int (x5 / (7 : Int32)), .int (tb_rem x5 (7 : Int32))]) (rest := [.int (x3 + x5), .int x2, .ref 38]) dX7_lay_103 rfl lm_7_252 rfl rfl rfl sh_1 rfl hq103 ?_
      obtain ⟨q106, hq106, h⟩ := Option.bind_eq_some_iff.mp h
      refine x_virtV (pc' := 109) (o := 38) (as := [.int x2, .int (x3 + x5), .int (q103.1)]) (rest := []) dX7_lay_106 rfl lm_7_244 rfl rfl rfl sh_38 rfl hq106 ?_
      refine x_iinc (pc' := 112) (w := (1 : Int32)) (ls' := [.ref 1, w1, .int x2, .int x3, .int x4, .int (x5 + (1 : Int32))]) dX7_lay_109 rfl rfl k_ic_1 rfl ?_
      refine x_goto (pc' := 58) dX7_lay_112 (by decide) ?_
      exact h
    · replace h := (if_neg c77).symm.trans h
      refine x_if_ne_f (pc' := 80) dX7_lay_77 (by decide) rfl c77 ?_
      refine x_bipush (pc' := 82) (w := (-13 : Int32)) dX7_lay_80 rfl k_bi_m13 ?_
      exact x_iret dX7_lay_82 rfl ((tb_dI_ok _ _).trans h)
/-! X8_get (45,) -/
theorem BX8_get_0 {d : Nat} {x1 x2 : Int32} {S : tb_St} {r : Int64 × tb_St} (h : ((tb_cI d mX8_isRack [.int x1] S).bind fun q1 => (if q1.1 = 0 then some ((-9223372036854775808 : Int64), q1.2) else (tb_ix x1 4).bind fun j14 => (tb_cI d mX8_within [.int x2, .int (0 : Int32), .int (((q1.2) 64 j14) - (2 : Int32))] (q1.2)).bind fun q17 => (if q17.1 = 0 then some ((-9223372036854775808 : Int64), q17.2) else (tb_ix (((70 : Int32) * x1) + x2) 280).bind fun j33 => some (((q17.2) 65 j33).toInt64, q17.2)))) = some r) : tb_E d mX8_get tb_dL 0 [.ref 45, .int x1, .int x2] [] tb_S S = some r := by
  refine x_iload_n (pc' := 1) dX8_get_0 rfl rfl ?_
  obtain ⟨q1, hq1, h⟩ := Option.bind_eq_some_iff.mp h
  refine x_statI (pc' := 4) (as := [.int x1]) (rest := []) dX8_get_1 rfl lm_8_264 (by decide) rfl rfl rfl rfl hq1 ?_
  by_cases c4 : q1.1 = 0
  · replace h := (if_pos c4).symm.trans h
    refine x_if_eq_t (pc' := 38) dX8_get_4 (by decide) c4 ?_
    refine x_ldc2_w (pc' := 41) dX8_get_38 rfl ll_8_217 ?_
    exact x_lret dX8_get_41 rfl ((tb_dL_ok _ _).trans h)
  · replace h := (if_neg c4).symm.trans h
    refine x_if_eq_f (pc' := 7) dX8_get_4 (by decide) rfl c4 ?_
    refine x_iload_n (pc' := 8) dX8_get_7 rfl rfl ?_
    refine x_iconst (pc' := 9) (w := (0 : Int32)) dX8_get_8 rfl k_ic_0 ?_
    refine x_aload_n (pc' := 10) dX8_get_9 rfl rfl ?_
    refine x_getR (pc' := 13) dX8_get_10 rfl lf_8_71 rfl sh_45 rfl ?_
    refine x_iload_n (pc' := 14) dX8_get_13 rfl rfl ?_
    obtain ⟨j14, hj14, h⟩ := Option.bind_eq_some_iff.mp h
    refine x_iaload (pc' := 15) (v := (q1.2) 64 j14) dX8_get_14 rfl sh_64 hj14 rfl ?_
    refine x_iconst (pc' := 16) (w := (2 : Int32)) dX8_get_15 rfl k_ic_2 ?_
    refine x_isub (pc' := 17) dX8_get_16 rfl ?_
    obtain ⟨q17, hq17, h⟩ := Option.bind_eq_some_iff.mp h
    refine x_statI (pc' := 20) (as := [.int x2, .int (0 : Int32), .int (((q1.2) 64 j14) - (2 : Int32))]) (rest := []) dX8_get_17 rfl lm_8_80 (by decide) rfl rfl rfl rfl hq17 ?_
    by_cases c20 : q17.1 = 0
    · replace h := (if_pos c20).symm.trans h
      refine x_if_eq_t (pc' := 38) dX8_get_20 (by decide) c20 ?_
      refine x_ldc2_w (pc' := 41) dX8_get_38 rfl ll_8_217 ?_
      exact x_lret dX8_get_41 rfl ((tb_dL_ok _ _).trans h)
    · replace h := (if_neg c20).symm.trans h
      refine x_if_eq_f (pc' := 23) dX8_get_20 (by decide) rfl c20 ?_
      refine x_aload_n (pc' := 24) dX8_get_23 rfl rfl ?_
      refine x_getR (pc' := 27) dX8_get_24 rfl lf_8_74 rfl sh_45 rfl ?_
      refine x_bipush (pc' := 29) (w := (70 : Int32)) dX8_get_27 rfl k_bi_70 ?_
      refine x_iload_n (pc' := 30) dX8_get_29 rfl rfl ?_
      refine x_imul (pc' := 31) dX8_get_30 rfl ?_
      refine x_iload_n (pc' := 32) dX8_get_31 rfl rfl ?_
      refine x_iadd (pc' := 33) dX8_get_32 rfl ?_
      obtain ⟨j33, hj33, h⟩ := Option.bind_eq_some_iff.mp h
      refine x_iaload (pc' := 34) (v := (q17.2) 65 j33) dX8_get_33 rfl sh_65 hj33 rfl ?_
      refine x_i2l (pc' := 35) dX8_get_34 rfl ?_
      refine x_goto (pc' := 41) dX8_get_35 (by decide) ?_
      exact x_lret dX8_get_41 rfl ((tb_dL_ok _ _).trans h)
theorem MX8_get {d : Nat} {x1 : Int32} {x2 : Int32} {S : tb_St} {r : Int64 × tb_St} (h : ((tb_cI d mX8_isRack [.int x1] S).bind fun q1 => (if q1.1 = 0 then some ((-9223372036854775808 : Int64), q1.2) else (tb_ix x1 4).bind fun j14 => (tb_cI d mX8_within [.int x2, .int (0 : Int32), .int (((q1.2) 64 j14) - (2 : Int32))] (q1.2)).bind fun q17 => (if q17.1 = 0 then some ((-9223372036854775808 : Int64), q17.2) else (tb_ix (((70 : Int32) * x1) + x2) 280).bind fun j33 => some (((q17.2) 65 j33).toInt64, q17.2)))) = some r) : tb_cL (d + 1) mX8_get [.ref 45, .int x1, .int x2] S = some r := tb_enL rfl rfl (BX8_get_0 h)
/-! X7_get (1,) -/
theorem BX7_get_0 {d : Nat} {x1 x2 : Int32} {S : tb_St} {r : Int64 × tb_St} (h : ((tb_cI d mX3_hasPlace [.ref 38, .int x1, .int x2] S).bind fun q6 => (if q6.1 = 0 then some ((-9223372036854775808 : Int64), q6.2) else (tb_cI d mX3_at [.ref 38, .int x1, .int x2] (q6.2)).bind fun q18 => some ((q18.1).toInt64, q18.2))) = some r) : tb_E d mX7_get tb_dL 0 [.ref 1, .int x1, .int x2] [] tb_S S = some r := by
  refine x_aload_n (pc' := 1) dX7_get_0 rfl rfl ?_
  refine x_getR (pc' := 4) dX7_get_1 rfl lf_7_68 rfl sh_1 rfl ?_
  refine x_iload_n (pc' := 5) dX7_get_4 rfl rfl ?_
  refine x_iload_n (pc' := 6) dX7_get_5 rfl rfl ?_
  obtain ⟨q6, hq6, h⟩ := Option.bind_eq_some_iff.mp h
  refine x_virtI (pc' := 9) (o := 38) (as := [.int x1, .int x2]) (rest := []) dX7_get_6 rfl lm_7_240 rfl rfl rfl sh_38 rfl hq6 ?_
  by_cases c9 : q6.1 = 0
  · replace h := (if_pos c9).symm.trans h
    refine x_if_eq_t (pc' := 25) dX7_get_9 (by decide) c9 ?_
    refine x_ldc2_w (pc' := 28) dX7_get_25 rfl ll_7_164 ?_
    exact x_lret dX7_get_28 rfl ((tb_dL_ok _ _).trans h)
  · replace h := (if_neg c9).symm.trans h
    refine x_if_eq_f (pc' := 12) dX7_get_9 (by decide) rfl c9 ?_
    refine x_aload_n (pc' := 13) dX7_get_12 rfl rfl ?_
    refine x_getR (pc' := 16) dX7_get_13 rfl lf_7_68 rfl sh_1 rfl ?_
    refine x_iload_n (pc' := 17) dX7_get_16 rfl rfl ?_
    refine x_iload_n (pc' := 18) dX7_get_17 rfl rfl ?_
    obtain ⟨q18, hq18, h⟩ := Option.bind_eq_some_iff.mp h
    refine x_virtI (pc' := 21) (o := 38) (as := [.int x1, .int x2]) (rest := []) dX7_get_18 rfl lm_7_248 rfl rfl rfl sh_38 rfl hq18 ?_
    refine x_i2l (pc' := 22) dX7_get_21 rfl ?_
    refine x_goto (pc' := 28) dX7_get_22 (by decide) ?_
    exact x_lret dX7_get_28 rfl ((tb_dL_ok _ _).trans h)
theorem MX7_get {d : Nat} {x1 : Int32} {x2 : Int32} {S : tb_St} {r : Int64 × tb_St} (h : ((tb_cI d mX3_hasPlace [.ref 38, .int x1, .int x2] S).bind fun q6 => (if q6.1 = 0 then some ((-9223372036854775808 : Int64), q6.2) else (tb_cI d mX3_at [.ref 38, .int x1, .int x2] (q6.2)).bind fun q18 => some ((q18.1).toInt64, q18.2))) = some r) : tb_cL (d + 1) mX7_get [.ref 1, .int x1, .int x2] S = some r := tb_enL rfl rfl (BX7_get_0 h)
/-! X8_put (45,) -/
theorem BX8_put_0 {d : Nat} {x1 x2 x3 : Int32} {S : tb_St} {r : Int32 × tb_St} (h : ((tb_cI d mX8_isRack [.int x1] S).bind fun q1 => (if ¬ q1.1 = 0 then (tb_ix x1 4).bind fun j14 => (if ¬ (q1.2) 64 j14 = 0 then (tb_ix x1 4).bind fun j28 => (tb_cI d mX8_within [.int x2, .int (0 : Int32), .int (((q1.2) 64 j28) - (2 : Int32))] (q1.2)).bind fun q31 => (if ¬ q31.1 = 0 then (tb_ix (((70 : Int32) * x1) + x2) 280).bind fun j51 => some ((1 : Int32), tb_up (q31.2) 65 j51 x3) else some ((-13 : Int32), q31.2)) else some ((-11 : Int32), q1.2)) else some ((-1 : Int32), q1.2))) = some r) : tb_E d mX8_put tb_dI 0 [.ref 45, .int x1, .int x2, .int x3] [] tb_S S = some r := by
  refine x_iload_n (pc' := 1) dX8_put_0 rfl rfl ?_
  obtain ⟨q1, hq1, h⟩ := Option.bind_eq_some_iff.mp h
  refine x_statI (pc' := 4) (as := [.int x1]) (rest := []) dX8_put_1 rfl lm_8_264 (by decide) rfl rfl rfl rfl hq1 ?_
  by_cases c4 : ¬ q1.1 = 0
  · replace h := (if_pos c4).symm.trans h
    refine x_if_ne_t (pc' := 9) dX8_put_4 (by decide) c4 ?_
    refine x_aload_n (pc' := 10) dX8_put_9 rfl rfl ?_
    refine x_getR (pc' := 13) dX8_put_10 rfl lf_8_71 rfl sh_45 rfl ?_
    refine x_iload_n (pc' := 14) dX8_put_13 rfl rfl ?_
    obtain ⟨j14, hj14, h⟩ := Option.bind_eq_some_iff.mp h
    refine x_iaload (pc' := 15) (v := (q1.2) 64 j14) dX8_put_14 rfl sh_64 hj14 rfl ?_
    by_cases c15 : ¬ (q1.2) 64 j14 = 0
    · replace h := (if_pos c15).symm.trans h
      refine x_if_ne_t (pc' := 21) dX8_put_15 (by decide) c15 ?_
      refine x_iload_n (pc' := 22) dX8_put_21 rfl rfl ?_
      refine x_iconst (pc' := 23) (w := (0 : Int32)) dX8_put_22 rfl k_ic_0 ?_
      refine x_aload_n (pc' := 24) dX8_put_23 rfl rfl ?_
      refine x_getR (pc' := 27) dX8_put_24 rfl lf_8_71 rfl sh_45 rfl ?_
      refine x_iload_n (pc' := 28) dX8_put_27 rfl rfl ?_
      obtain ⟨j28, hj28, h⟩ := Option.bind_eq_some_iff.mp h
      refine x_iaload (pc' := 29) (v := (q1.2) 64 j28) dX8_put_28 rfl sh_64 hj28 rfl ?_
      refine x_iconst (pc' := 30) (w := (2 : Int32)) dX8_put_29 rfl k_ic_2 ?_
      refine x_isub (pc' := 31) dX8_put_30 rfl ?_
      obtain ⟨q31, hq31, h⟩ := Option.bind_eq_some_iff.mp h
      refine x_statI (pc' := 34) (as := [.int x2, .int (0 : Int32), .int (((q1.2) 64 j28) - (2 : Int32))]) (rest := []) dX8_put_31 rfl lm_8_80 (by decide) rfl rfl rfl rfl hq31 ?_
      by_cases c34 : ¬ q31.1 = 0
      · replace h := (if_pos c34).symm.trans h
        refine x_if_ne_t (pc' := 40) dX8_put_34 (by decide) c34 ?_
        refine x_aload_n (pc' := 41) dX8_put_40 rfl rfl ?_
        refine x_getR (pc' := 44) dX8_put_41 rfl lf_8_74 rfl sh_45 rfl ?_
        refine x_bipush (pc' := 46) (w := (70 : Int32)) dX8_put_44 rfl k_bi_70 ?_
        refine x_iload_n (pc' := 47) dX8_put_46 rfl rfl ?_
        refine x_imul (pc' := 48) dX8_put_47 rfl ?_
        refine x_iload_n (pc' := 49) dX8_put_48 rfl rfl ?_
        refine x_iadd (pc' := 50) dX8_put_49 rfl ?_
        refine x_iload_n (pc' := 51) dX8_put_50 rfl rfl ?_
        obtain ⟨j51, hj51, h⟩ := Option.bind_eq_some_iff.mp h
        refine x_iastore (pc' := 52) dX8_put_51 rfl sh_65 hj51 ?_
        refine x_iconst (pc' := 53) (w := (1 : Int32)) dX8_put_52 rfl k_ic_1 ?_
        exact x_iret dX8_put_53 rfl ((tb_dI_ok _ _).trans h)
      · replace h := (if_neg c34).symm.trans h
        refine x_if_ne_f (pc' := 37) dX8_put_34 (by decide) rfl c34 ?_
        refine x_bipush (pc' := 39) (w := (-13 : Int32)) dX8_put_37 rfl k_bi_m13 ?_
        exact x_iret dX8_put_39 rfl ((tb_dI_ok _ _).trans h)
    · replace h := (if_neg c15).symm.trans h
      refine x_if_ne_f (pc' := 18) dX8_put_15 (by decide) rfl c15 ?_
      refine x_bipush (pc' := 20) (w := (-11 : Int32)) dX8_put_18 rfl k_bi_m11 ?_
      exact x_iret dX8_put_20 rfl ((tb_dI_ok _ _).trans h)
  · replace h := (if_neg c4).symm.trans h
    refine x_if_ne_f (pc' := 7) dX8_put_4 (by decide) rfl c4 ?_
    refine x_iconst (pc' := 8) (w := (-1 : Int32)) dX8_put_7 rfl k_ic_m1 ?_
    exact x_iret dX8_put_8 rfl ((tb_dI_ok _ _).trans h)
theorem MX8_put {d : Nat} {x1 : Int32} {x2 : Int32} {x3 : Int32} {S : tb_St} {r : Int32 × tb_St} (h : ((tb_cI d mX8_isRack [.int x1] S).bind fun q1 => (if ¬ q1.1 = 0 then (tb_ix x1 4).bind fun j14 => (if ¬ (q1.2) 64 j14 = 0 then (tb_ix x1 4).bind fun j28 => (tb_cI d mX8_within [.int x2, .int (0 : Int32), .int (((q1.2) 64 j28) - (2 : Int32))] (q1.2)).bind fun q31 => (if ¬ q31.1 = 0 then (tb_ix (((70 : Int32) * x1) + x2) 280).bind fun j51 => some ((1 : Int32), tb_up (q31.2) 65 j51 x3) else some ((-13 : Int32), q31.2)) else some ((-11 : Int32), q1.2)) else some ((-1 : Int32), q1.2))) = some r) : tb_cI (d + 1) mX8_put [.ref 45, .int x1, .int x2, .int x3] S = some r := tb_enI rfl rfl (BX8_put_0 h)
