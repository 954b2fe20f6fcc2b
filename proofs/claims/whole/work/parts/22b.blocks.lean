/-! X8_is (45,) -/
theorem BX8_is_0 {d : Nat} {x1 : Int32} {S : tb_St} {r : Int32 × tb_St} (h : ((tb_cI d mX8_next [.ref 45] S).bind fun q1 => (if q1.1 = x1 then some ((1 : Int32), tb_up (q1.2) 45 23 (((q1.2) 45 23) + (1 : Int32))) else (tb_cI d mX8_wrong [.ref 45, .int ((q1.2) 45 23)] (q1.2)).bind fun q13 => (if q13.1 = 0 ∨ q13.1 = 1 then some (q13.1, q13.2) else none))) = some r) : tb_E d mX8_is tb_dI 0 [.ref 45, .int x1] [] tb_S S = some r := by
  refine x_aload_n (pc' := 1) dX8_is_0 rfl rfl ?_
  obtain ⟨q1, hq1, h⟩ := Option.bind_eq_some_iff.mp h
  refine x_virtI (pc' := 4) (o := 45) (as := []) (rest := []) dX8_is_1 rfl lm_8_125 rfl rfl rfl sh_45 rfl hq1 ?_
  refine x_iload_n (pc' := 5) dX8_is_4 rfl rfl ?_
  by_cases c5 : q1.1 = x1
  · replace h := (if_pos c5).symm.trans h
    refine x_icmp_eq_t (pc' := 17) dX8_is_5 (by decide) c5 ?_
    refine x_aload_n (pc' := 18) dX8_is_17 rfl rfl ?_
    refine x_dup (pc' := 19) dX8_is_18 rfl rfl ?_
    refine x_getI (pc' := 22) (v := (q1.2) 45 23) dX8_is_19 rfl lf_8_122 rfl sh_45 rfl ?_
    refine x_iconst (pc' := 23) (w := (1 : Int32)) dX8_is_22 rfl k_ic_1 ?_
    refine x_iadd (pc' := 24) dX8_is_23 rfl ?_
    refine x_putI (pc' := 27) dX8_is_24 rfl lf_8_122 (Or.inl rfl) sh_45 ?_
    refine x_iconst (pc' := 28) (w := (1 : Int32)) dX8_is_27 rfl k_ic_1 ?_
    exact x_zret dX8_is_28 rfl (Or.inr rfl) ((tb_dI_ok _ _).trans h)
  · replace h := (if_neg c5).symm.trans h
    refine x_icmp_eq_f (pc' := 8) dX8_is_5 (by decide) rfl c5 ?_
    refine x_aload_n (pc' := 9) dX8_is_8 rfl rfl ?_
    refine x_aload_n (pc' := 10) dX8_is_9 rfl rfl ?_
    refine x_getI (pc' := 13) (v := (q1.2) 45 23) dX8_is_10 rfl lf_8_122 rfl sh_45 rfl ?_
    obtain ⟨q13, hq13, h⟩ := Option.bind_eq_some_iff.mp h
    refine x_virtI (pc' := 16) (o := 45) (as := [.int ((q1.2) 45 23)]) (rest := []) dX8_is_13 rfl lm_8_129 rfl rfl rfl sh_45 rfl hq13 ?_
    by_cases c16 : q13.1 = 0 ∨ q13.1 = 1
    · replace h := (if_pos c16).symm.trans h
      exact x_zret dX8_is_16 rfl c16 ((tb_dI_ok _ _).trans h)
    · replace h := (if_neg c16).symm.trans h
      cases h
theorem MX8_is {d : Nat} {x1 : Int32} {S : tb_St} {r : Int32 × tb_St} (h : ((tb_cI d mX8_next [.ref 45] S).bind fun q1 => (if q1.1 = x1 then some ((1 : Int32), tb_up (q1.2) 45 23 (((q1.2) 45 23) + (1 : Int32))) else (tb_cI d mX8_wrong [.ref 45, .int ((q1.2) 45 23)] (q1.2)).bind fun q13 => (if q13.1 = 0 ∨ q13.1 = 1 then some (q13.1, q13.2) else none))) = some r) : tb_cI (d + 1) mX8_is [.ref 45, .int x1] S = some r := tb_enI rfl rfl (BX8_is_0 h)
/-! X8_makes (45,) -/
theorem BX8_makes_0 {d : Nat} {x1 x2 x3 x4 x5 : Int32} {S : tb_St} {r : Int32 × tb_St} (h : ((tb_cV d mX8_lays [.ref 45, .int ((S 45 0) + (S 45 29)), .int x1, .int x2, .int x3, .int x4, .int x5] S).bind fun q17 => some (((q17 45 0) + ((q17 45 29) + (1 : Int32))) - (1 : Int32), tb_up q17 45 29 ((q17 45 29) + (1 : Int32)))) = some r) : tb_E d mX8_makes tb_dI 0 [.ref 45, .int x1, .int x2, .int x3, .int x4, .int x5] [] tb_S S = some r := by
  refine x_aload_n (pc' := 1) dX8_makes_0 rfl rfl ?_
  refine x_aload_n (pc' := 2) dX8_makes_1 rfl rfl ?_
  refine x_getI (pc' := 5) (v := S 45 0) dX8_makes_2 rfl lf_8_77 rfl sh_45 rfl ?_
  refine x_aload_n (pc' := 6) dX8_makes_5 rfl rfl ?_
  refine x_getI (pc' := 9) (v := S 45 29) dX8_makes_6 rfl lf_8_139 rfl sh_45 rfl ?_
  refine x_iadd (pc' := 10) dX8_makes_9 rfl ?_
  refine x_iload_n (pc' := 11) dX8_makes_10 rfl rfl ?_
  refine x_iload_n (pc' := 12) dX8_makes_11 rfl rfl ?_
  refine x_iload_n (pc' := 13) dX8_makes_12 rfl rfl ?_
  refine x_iload (pc' := 15) dX8_makes_13 rfl rfl ?_
  refine x_iload (pc' := 17) dX8_makes_15 rfl rfl ?_
  obtain ⟨q17, hq17, h⟩ := Option.bind_eq_some_iff.mp h
  refine x_virtV (pc' := 20) (o := 45) (as := [.int ((S 45 0) + (S 45 29)), .int x1, .int x2, .int x3, .int x4, .int x5]) (rest := []) dX8_makes_17 rfl lm_8_101 rfl rfl rfl sh_45 rfl hq17 ?_
  refine x_aload_n (pc' := 21) dX8_makes_20 rfl rfl ?_
  refine x_dup (pc' := 22) dX8_makes_21 rfl rfl ?_
  refine x_getI (pc' := 25) (v := q17 45 29) dX8_makes_22 rfl lf_8_139 rfl sh_45 rfl ?_
  refine x_iconst (pc' := 26) (w := (1 : Int32)) dX8_makes_25 rfl k_ic_1 ?_
  refine x_iadd (pc' := 27) dX8_makes_26 rfl ?_
  refine x_putI (pc' := 30) dX8_makes_27 rfl lf_8_139 (Or.inl rfl) sh_45 ?_
  refine x_aload_n (pc' := 31) dX8_makes_30 rfl rfl ?_
  refine x_getI (pc' := 34) (v := q17 45 0) dX8_makes_31 rfl lf_8_77 rfl sh_45 rfl ?_
  refine x_aload_n (pc' := 35) dX8_makes_34 rfl rfl ?_
  refine x_getI (pc' := 38) (v := (q17 45 29) + (1 : Int32)) dX8_makes_35 rfl lf_8_139 rfl sh_45 rfl ?_
  refine x_iadd (pc' := 39) dX8_makes_38 rfl ?_
  refine x_iconst (pc' := 40) (w := (1 : Int32)) dX8_makes_39 rfl k_ic_1 ?_
  refine x_isub (pc' := 41) dX8_makes_40 rfl ?_
  exact x_iret dX8_makes_41 rfl ((tb_dI_ok _ _).trans h)
theorem MX8_makes {d : Nat} {x1 : Int32} {x2 : Int32} {x3 : Int32} {x4 : Int32} {x5 : Int32} {S : tb_St} {r : Int32 × tb_St} (h : ((tb_cV d mX8_lays [.ref 45, .int ((S 45 0) + (S 45 29)), .int x1, .int x2, .int x3, .int x4, .int x5] S).bind fun q17 => some (((q17 45 0) + ((q17 45 29) + (1 : Int32))) - (1 : Int32), tb_up q17 45 29 ((q17 45 29) + (1 : Int32)))) = some r) : tb_cI (d + 1) mX8_makes [.ref 45, .int x1, .int x2, .int x3, .int x4, .int x5] S = some r := tb_enI rfl rfl (BX8_makes_0 h)
/-! X8_ends (45,) -/
theorem BX8_ends_0 {d : Nat} {x1 : Int32} {S : tb_St} {r : Int32 × tb_St} (h : ((if x1 < 0 then some (x1, S) else (tb_cI d mX8_isFigure [.ref 45] S).bind fun q5 => (if ¬ q5.1 = 0 then some ((-1 : Int32), tb_up (q5.2) 45 28 ((q5.2) 45 23)) else some (x1, q5.2)))) = some r) : tb_E d mX8_ends tb_dI 0 [.ref 45, .int x1] [] tb_S S = some r := by
  refine x_iload_n (pc' := 1) dX8_ends_0 rfl rfl ?_
  by_cases c1 : x1 < 0
  · replace h := (if_pos c1).symm.trans h
    refine x_if_lt_t (pc' := 11) dX8_ends_1 (by decide) c1 ?_
    refine x_iload_n (pc' := 12) dX8_ends_11 rfl rfl ?_
    exact x_iret dX8_ends_12 rfl ((tb_dI_ok _ _).trans h)
  · replace h := (if_neg c1).symm.trans h
    refine x_if_lt_f (pc' := 4) dX8_ends_1 (by decide) rfl c1 ?_
    refine x_aload_n (pc' := 5) dX8_ends_4 rfl rfl ?_
    obtain ⟨q5, hq5, h⟩ := Option.bind_eq_some_iff.mp h
    refine x_virtI (pc' := 8) (o := 45) (as := []) (rest := []) dX8_ends_5 rfl lm_8_135 rfl rfl rfl sh_45 rfl hq5 ?_
    by_cases c8 : ¬ q5.1 = 0
    · replace h := (if_pos c8).symm.trans h
      refine x_if_ne_t (pc' := 13) dX8_ends_8 (by decide) c8 ?_
      refine x_aload_n (pc' := 14) dX8_ends_13 rfl rfl ?_
      refine x_aload_n (pc' := 15) dX8_ends_14 rfl rfl ?_
      refine x_getI (pc' := 18) (v := (q5.2) 45 23) dX8_ends_15 rfl lf_8_122 rfl sh_45 rfl ?_
      refine x_putI (pc' := 21) dX8_ends_18 rfl lf_8_132 (Or.inl rfl) sh_45 ?_
      refine x_iconst (pc' := 22) (w := (-1 : Int32)) dX8_ends_21 rfl k_ic_m1 ?_
      exact x_iret dX8_ends_22 rfl ((tb_dI_ok _ _).trans h)
    · replace h := (if_neg c8).symm.trans h
      refine x_if_ne_f (pc' := 11) dX8_ends_8 (by decide) rfl c8 ?_
      refine x_iload_n (pc' := 12) dX8_ends_11 rfl rfl ?_
      exact x_iret dX8_ends_12 rfl ((tb_dI_ok _ _).trans h)
theorem MX8_ends {d : Nat} {x1 : Int32} {S : tb_St} {r : Int32 × tb_St} (h : ((if x1 < 0 then some (x1, S) else (tb_cI d mX8_isFigure [.ref 45] S).bind fun q5 => (if ¬ q5.1 = 0 then some ((-1 : Int32), tb_up (q5.2) 45 28 ((q5.2) 45 23)) else some (x1, q5.2)))) = some r) : tb_cI (d + 1) mX8_ends [.ref 45, .int x1] S = some r := tb_enI rfl rfl (BX8_ends_0 h)
/-! X8_number (45,) -/
theorem BX8_number_0 {d : Nat} {w1 : Value} {S : tb_St} {r : Int32 × tb_St} (h : ((tb_cI d mX8_isFigure [.ref 45] S).bind fun q1 => (if ¬ q1.1 = 0 then (tb_cI d mX8_next [.ref 45] (q1.2)).bind fun q18 => (tb_cI d mX8_isFigure [.ref 45] (tb_up (q18.2) 45 23 (((q18.2) 45 23) + (1 : Int32)))).bind fun q36 => (if ¬ q36.1 = 0 then (tb_cI d mX8_next [.ref 45] (q36.2)).bind fun q49 => some ((((10 : Int32) * ((q18.1) - (48 : Int32))) + (q49.1)) - (48 : Int32), tb_up (q49.2) 45 23 (((q49.2) 45 23) + (1 : Int32))) else some ((q18.1) - (48 : Int32), q36.2)) else some ((-1 : Int32), tb_up (q1.2) 45 28 ((q1.2) 45 23)))) = some r) : tb_E d mX8_number tb_dI 0 [.ref 45, w1] [] tb_S S = some r := by
  refine x_aload_n (pc' := 1) dX8_number_0 rfl rfl ?_
  obtain ⟨q1, hq1, h⟩ := Option.bind_eq_some_iff.mp h
  refine x_virtI (pc' := 4) (o := 45) (as := []) (rest := []) dX8_number_1 rfl lm_8_135 rfl rfl rfl sh_45 rfl hq1 ?_
  by_cases c4 : ¬ q1.1 = 0
  · replace h := (if_pos c4).symm.trans h
    refine x_if_ne_t (pc' := 17) dX8_number_4 (by decide) c4 ?_
    refine x_aload_n (pc' := 18) dX8_number_17 rfl rfl ?_
    obtain ⟨q18, hq18, h⟩ := Option.bind_eq_some_iff.mp h
    refine x_virtI (pc' := 21) (o := 45) (as := []) (rest := []) dX8_number_18 rfl lm_8_125 rfl rfl rfl sh_45 rfl hq18 ?_
    refine x_bipush (pc' := 23) (w := (48 : Int32)) dX8_number_21 rfl k_bi_48 ?_
    refine x_isub (pc' := 24) dX8_number_23 rfl ?_
    refine x_istore_n (pc' := 25) (ls' := [.ref 45, .int ((q18.1) - (48 : Int32))]) dX8_number_24 rfl rfl rfl ?_
    refine x_aload_n (pc' := 26) dX8_number_25 rfl rfl ?_
    refine x_dup (pc' := 27) dX8_number_26 rfl rfl ?_
    refine x_getI (pc' := 30) (v := (q18.2) 45 23) dX8_number_27 rfl lf_8_122 rfl sh_45 rfl ?_
    refine x_iconst (pc' := 31) (w := (1 : Int32)) dX8_number_30 rfl k_ic_1 ?_
    refine x_iadd (pc' := 32) dX8_number_31 rfl ?_
    refine x_putI (pc' := 35) dX8_number_32 rfl lf_8_122 (Or.inl rfl) sh_45 ?_
    refine x_aload_n (pc' := 36) dX8_number_35 rfl rfl ?_
    obtain ⟨q36, hq36, h⟩ := Option.bind_eq_some_iff.mp h
    refine x_virtI (pc' := 39) (o := 45) (as := []) (rest := []) dX8_number_36 rfl lm_8_135 rfl rfl rfl sh_45 rfl hq36 ?_
    by_cases c39 : ¬ q36.1 = 0
    · replace h := (if_pos c39).symm.trans h
      refine x_if_ne_t (pc' := 44) dX8_number_39 (by decide) c39 ?_
      refine x_bipush (pc' := 46) (w := (10 : Int32)) dX8_number_44 rfl k_bi_10 ?_
      refine x_iload_n (pc' := 47) dX8_number_46 rfl rfl ?_
      refine x_imul (pc' := 48) dX8_number_47 rfl ?_
      refine x_aload_n (pc' := 49) dX8_number_48 rfl rfl ?_
      obtain ⟨q49, hq49, h⟩ := Option.bind_eq_some_iff.mp h
      refine x_virtI (pc' := 52) (o := 45) (as := []) (rest := [.int ((10 : Int32) * ((q18.1) - (48 : Int32)))]) dX8_number_49 rfl lm_8_125 rfl rfl rfl sh_45 rfl hq49 ?_
      refine x_iadd (pc' := 53) dX8_number_52 rfl ?_
      refine x_bipush (pc' := 55) (w := (48 : Int32)) dX8_number_53 rfl k_bi_48 ?_
      refine x_isub (pc' := 56) dX8_number_55 rfl ?_
      refine x_istore_n (pc' := 57) (ls' := [.ref 45, .int ((((10 : Int32) * ((q18.1) - (48 : Int32))) + (q49.1)) - (48 : Int32))]) dX8_number_56 rfl rfl rfl ?_
      refine x_aload_n (pc' := 58) dX8_number_57 rfl rfl ?_
      refine x_dup (pc' := 59) dX8_number_58 rfl rfl ?_
      refine x_getI (pc' := 62) (v := (q49.2) 45 23) dX8_number_59 rfl lf_8_122 rfl sh_45 rfl ?_
      refine x_iconst (pc' := 63) (w := (1 : Int32)) dX8_number_62 rfl k_ic_1 ?_
      refine x_iadd (pc' := 64) dX8_number_63 rfl ?_
      refine x_putI (pc' := 67) dX8_number_64 rfl lf_8_122 (Or.inl rfl) sh_45 ?_
      refine x_iload_n (pc' := 68) dX8_number_67 rfl rfl ?_
      exact x_iret dX8_number_68 rfl ((tb_dI_ok _ _).trans h)
    · replace h := (if_neg c39).symm.trans h
      refine x_if_ne_f (pc' := 42) dX8_number_39 (by decide) rfl c39 ?_
      refine x_iload_n (pc' := 43) dX8_number_42 rfl rfl ?_
      exact x_iret dX8_number_43 rfl ((tb_dI_ok _ _).trans h)
  · replace h := (if_neg c4).symm.trans h
    refine x_if_ne_f (pc' := 7) dX8_number_4 (by decide) rfl c4 ?_
    refine x_aload_n (pc' := 8) dX8_number_7 rfl rfl ?_
    refine x_aload_n (pc' := 9) dX8_number_8 rfl rfl ?_
    refine x_getI (pc' := 12) (v := (q1.2) 45 23) dX8_number_9 rfl lf_8_122 rfl sh_45 rfl ?_
    refine x_putI (pc' := 15) dX8_number_12 rfl lf_8_132 (Or.inl rfl) sh_45 ?_
    refine x_iconst (pc' := 16) (w := (-1 : Int32)) dX8_number_15 rfl k_ic_m1 ?_
    exact x_iret dX8_number_16 rfl ((tb_dI_ok _ _).trans h)
theorem MX8_number {d : Nat} {S : tb_St} {r : Int32 × tb_St} (h : ((tb_cI d mX8_isFigure [.ref 45] S).bind fun q1 => (if ¬ q1.1 = 0 then (tb_cI d mX8_next [.ref 45] (q1.2)).bind fun q18 => (tb_cI d mX8_isFigure [.ref 45] (tb_up (q18.2) 45 23 (((q18.2) 45 23) + (1 : Int32)))).bind fun q36 => (if ¬ q36.1 = 0 then (tb_cI d mX8_next [.ref 45] (q36.2)).bind fun q49 => some ((((10 : Int32) * ((q18.1) - (48 : Int32))) + (q49.1)) - (48 : Int32), tb_up (q49.2) 45 23 (((q49.2) 45 23) + (1 : Int32))) else some ((q18.1) - (48 : Int32), q36.2)) else some ((-1 : Int32), tb_up (q1.2) 45 28 ((q1.2) 45 23)))) = some r) : tb_cI (d + 1) mX8_number [.ref 45] S = some r := tb_enI rfl rfl (BX8_number_0 h)
/-! X8_boxThere (45,) -/
theorem BX8_boxThere_0 {d : Nat} {w1 w2 w3 w4 : Value} {S : tb_St} {r : Int32 × tb_St} (h : (tb_E d mX8_boxThere tb_dI 6 [.ref 45, .int (0 : Int32), .int (0 : Int32), .int (0 : Int32), w4] [] tb_S S) = some r) : tb_E d mX8_boxThere tb_dI 0 [.ref 45, w1, w2, w3, w4] [] tb_S S = some r := by
  refine x_iconst (pc' := 1) (w := (0 : Int32)) dX8_boxThere_0 rfl k_ic_0 ?_
  refine x_istore_n (pc' := 2) (ls' := [.ref 45, .int (0 : Int32), w2, w3, w4]) dX8_boxThere_1 rfl rfl rfl ?_
  refine x_iconst (pc' := 3) (w := (0 : Int32)) dX8_boxThere_2 rfl k_ic_0 ?_
  refine x_istore_n (pc' := 4) (ls' := [.ref 45, .int (0 : Int32), .int (0 : Int32), w3, w4]) dX8_boxThere_3 rfl rfl rfl ?_
  refine x_iconst (pc' := 5) (w := (0 : Int32)) dX8_boxThere_4 rfl k_ic_0 ?_
  refine x_istore_n (pc' := 6) (ls' := [.ref 45, .int (0 : Int32), .int (0 : Int32), .int (0 : Int32), w4]) dX8_boxThere_5 rfl rfl rfl ?_
  exact h
theorem MX8_boxThere {d : Nat} {S : tb_St} {r : Int32 × tb_St} (h : (tb_E d mX8_boxThere tb_dI 6 [.ref 45, .int (0 : Int32), .int (0 : Int32), .int (0 : Int32), tb_jk] [] tb_S S) = some r) : tb_cI (d + 1) mX8_boxThere [.ref 45] S = some r := tb_enI rfl rfl (BX8_boxThere_0 h)
theorem BX8_boxThere_6 {d : Nat} {x1 x2 x3 : Int32} {w4 : Value} {S : tb_St} {r : Int32 × tb_St} (h : ((if (6 : Int32) ≤ x3 then some (x1, S) else (tb_cI d mX8_next [.ref 45] S).bind fun q13 => (tb_cI d mX8_isFigure [.ref 45] (q13.2)).bind fun q22 => (if q22.1 = 0 then some ((-1 : Int32), tb_up (q22.2) 45 28 ((q22.2) 45 23)) else (tb_cI d mX8_most [.int x3] (q22.2)).bind fun q31 => (if q31.1 < (q13.1) - (48 : Int32) then some ((-1 : Int32), tb_up (q31.2) 45 28 ((q31.2) 45 23)) else (if ¬ tb_rem x3 (2 : Int32) = (1 : Int32) then tb_E d mX8_boxThere tb_dI 60 [.ref 45, .int x1, .int x2, .int x3, .int ((q13.1) - (48 : Int32))] [] tb_S (q31.2) else (if x2 ≤ (q13.1) - (48 : Int32) then tb_E d mX8_boxThere tb_dI 60 [.ref 45, .int x1, .int x2, .int x3, .int ((q13.1) - (48 : Int32))] [] tb_S (q31.2) else some ((-1 : Int32), tb_up (q31.2) 45 28 ((q31.2) 45 23)))))))) = some r) : tb_E d mX8_boxThere tb_dI 6 [.ref 45, .int x1, .int x2, .int x3, w4] [] tb_S S = some r := by
  refine x_iload_n (pc' := 7) dX8_boxThere_6 rfl rfl ?_
  refine x_bipush (pc' := 9) (w := (6 : Int32)) dX8_boxThere_7 rfl k_bi_6 ?_
  by_cases c9 : (6 : Int32) ≤ x3
  · replace h := (if_pos c9).symm.trans h
    refine x_icmp_ge_t (pc' := 87) dX8_boxThere_9 (by decide) c9 ?_
    refine x_iload_n (pc' := 88) dX8_boxThere_87 rfl rfl ?_
    exact x_iret dX8_boxThere_88 rfl ((tb_dI_ok _ _).trans h)
  · replace h := (if_neg c9).symm.trans h
    refine x_icmp_ge_f (pc' := 12) dX8_boxThere_9 (by decide) rfl c9 ?_
    refine x_aload_n (pc' := 13) dX8_boxThere_12 rfl rfl ?_
    obtain ⟨q13, hq13, h⟩ := Option.bind_eq_some_iff.mp h
    refine x_virtI (pc' := 16) (o := 45) (as := []) (rest := []) dX8_boxThere_13 rfl lm_8_125 rfl rfl rfl sh_45 rfl hq13 ?_
    refine x_bipush (pc' := 18) (w := (48 : Int32)) dX8_boxThere_16 rfl k_bi_48 ?_
    refine x_isub (pc' := 19) dX8_boxThere_18 rfl ?_
    refine x_istore (pc' := 21) (ls' := [.ref 45, .int x1, .int x2, .int x3, .int ((q13.1) - (48 : Int32))]) dX8_boxThere_19 rfl rfl rfl ?_
    refine x_aload_n (pc' := 22) dX8_boxThere_21 rfl rfl ?_
    obtain ⟨q22, hq22, h⟩ := Option.bind_eq_some_iff.mp h
    refine x_virtI (pc' := 25) (o := 45) (as := []) (rest := []) dX8_boxThere_22 rfl lm_8_135 rfl rfl rfl sh_45 rfl hq22 ?_
    by_cases c25 : q22.1 = 0
    · replace h := (if_pos c25).symm.trans h
      refine x_if_eq_t (pc' := 50) dX8_boxThere_25 (by decide) c25 ?_
      refine x_aload_n (pc' := 51) dX8_boxThere_50 rfl rfl ?_
      refine x_aload_n (pc' := 52) dX8_boxThere_51 rfl rfl ?_
      refine x_getI (pc' := 55) (v := (q22.2) 45 23) dX8_boxThere_52 rfl lf_8_122 rfl sh_45 rfl ?_
      refine x_putI (pc' := 58) dX8_boxThere_55 rfl lf_8_132 (Or.inl rfl) sh_45 ?_
      refine x_iconst (pc' := 59) (w := (-1 : Int32)) dX8_boxThere_58 rfl k_ic_m1 ?_
      exact x_iret dX8_boxThere_59 rfl ((tb_dI_ok _ _).trans h)
    · replace h := (if_neg c25).symm.trans h
      refine x_if_eq_f (pc' := 28) dX8_boxThere_25 (by decide) rfl c25 ?_
      refine x_iload (pc' := 30) dX8_boxThere_28 rfl rfl ?_
      refine x_iload_n (pc' := 31) dX8_boxThere_30 rfl rfl ?_
      obtain ⟨q31, hq31, h⟩ := Option.bind_eq_some_iff.mp h
      refine x_statI (pc' := 34) (as := [.int x3]) (rest := [.int ((q13.1) - (48 : Int32))]) dX8_boxThere_31 rfl lm_8_89 (by decide) rfl rfl rfl rfl hq31 ?_
      by_cases c34 : q31.1 < (q13.1) - (48 : Int32)
      · replace h := (if_pos c34).symm.trans h
        refine x_icmp_gt_t (pc' := 50) dX8_boxThere_34 (by decide) c34 ?_
        refine x_aload_n (pc' := 51) dX8_boxThere_50 rfl rfl ?_
        refine x_aload_n (pc' := 52) dX8_boxThere_51 rfl rfl ?_
        refine x_getI (pc' := 55) (v := (q31.2) 45 23) dX8_boxThere_52 rfl lf_8_122 rfl sh_45 rfl ?_
        refine x_putI (pc' := 58) dX8_boxThere_55 rfl lf_8_132 (Or.inl rfl) sh_45 ?_
        refine x_iconst (pc' := 59) (w := (-1 : Int32)) dX8_boxThere_58 rfl k_ic_m1 ?_
        exact x_iret dX8_boxThere_59 rfl ((tb_dI_ok _ _).trans h)
      · replace h := (if_neg c34).symm.trans h
        refine x_icmp_gt_f (pc' := 37) dX8_boxThere_34 (by decide) rfl c34 ?_
        refine x_iload_n (pc' := 38) dX8_boxThere_37 rfl rfl ?_
        refine x_iconst (pc' := 39) (w := (2 : Int32)) dX8_boxThere_38 rfl k_ic_2 ?_
        refine x_irem (pc' := 40) dX8_boxThere_39 rfl (by decide) ?_
        refine x_iconst (pc' := 41) (w := (1 : Int32)) dX8_boxThere_40 rfl k_ic_1 ?_
        by_cases c41 : ¬ tb_rem x3 (2 : Int32) = (1 : Int32)
        · replace h := (if_pos c41).symm.trans h
          refine x_icmp_ne_t (pc' := 60) dX8_boxThere_41 (by decide) c41 ?_
          exact h
        · replace h := (if_neg c41).symm.trans h
          refine x_icmp_ne_f (pc' := 44) dX8_boxThere_41 (by decide) rfl c41 ?_
          refine x_iload (pc' := 46) dX8_boxThere_44 rfl rfl ?_
          refine x_iload_n (pc' := 47) dX8_boxThere_46 rfl rfl ?_
          by_cases c47 : x2 ≤ (q13.1) - (48 : Int32)
          · replace h := (if_pos c47).symm.trans h
            refine x_icmp_ge_t (pc' := 60) dX8_boxThere_47 (by decide) c47 ?_
            exact h
          · replace h := (if_neg c47).symm.trans h
            refine x_icmp_ge_f (pc' := 50) dX8_boxThere_47 (by decide) rfl c47 ?_
            refine x_aload_n (pc' := 51) dX8_boxThere_50 rfl rfl ?_
            refine x_aload_n (pc' := 52) dX8_boxThere_51 rfl rfl ?_
            refine x_getI (pc' := 55) (v := (q31.2) 45 23) dX8_boxThere_52 rfl lf_8_122 rfl sh_45 rfl ?_
            refine x_putI (pc' := 58) dX8_boxThere_55 rfl lf_8_132 (Or.inl rfl) sh_45 ?_
            refine x_iconst (pc' := 59) (w := (-1 : Int32)) dX8_boxThere_58 rfl k_ic_m1 ?_
            exact x_iret dX8_boxThere_59 rfl ((tb_dI_ok _ _).trans h)
theorem BX8_boxThere_60 {d : Nat} {x1 x3 x4 : Int32} {w2 : Value} {S : tb_St} {r : Int32 × tb_St} (h : (tb_E d mX8_boxThere tb_dI 6 [.ref 45, .int (((10 : Int32) * x1) + x4), .int x4, .int (x3 + (1 : Int32)), .int x4] [] tb_S (tb_up S 45 23 ((S 45 23) + (1 : Int32)))) = some r) : tb_E d mX8_boxThere tb_dI 60 [.ref 45, .int x1, w2, .int x3, .int x4] [] tb_S S = some r := by
  refine x_iload (pc' := 62) dX8_boxThere_60 rfl rfl ?_
  refine x_istore_n (pc' := 63) (ls' := [.ref 45, .int x1, .int x4, .int x3, .int x4]) dX8_boxThere_62 rfl rfl rfl ?_
  refine x_bipush (pc' := 65) (w := (10 : Int32)) dX8_boxThere_63 rfl k_bi_10 ?_
  refine x_iload_n (pc' := 66) dX8_boxThere_65 rfl rfl ?_
  refine x_imul (pc' := 67) dX8_boxThere_66 rfl ?_
  refine x_iload (pc' := 69) dX8_boxThere_67 rfl rfl ?_
  refine x_iadd (pc' := 70) dX8_boxThere_69 rfl ?_
  refine x_istore_n (pc' := 71) (ls' := [.ref 45, .int (((10 : Int32) * x1) + x4), .int x4, .int x3, .int x4]) dX8_boxThere_70 rfl rfl rfl ?_
  refine x_aload_n (pc' := 72) dX8_boxThere_71 rfl rfl ?_
  refine x_dup (pc' := 73) dX8_boxThere_72 rfl rfl ?_
  refine x_getI (pc' := 76) (v := S 45 23) dX8_boxThere_73 rfl lf_8_122 rfl sh_45 rfl ?_
  refine x_iconst (pc' := 77) (w := (1 : Int32)) dX8_boxThere_76 rfl k_ic_1 ?_
  refine x_iadd (pc' := 78) dX8_boxThere_77 rfl ?_
  refine x_putI (pc' := 81) dX8_boxThere_78 rfl lf_8_122 (Or.inl rfl) sh_45 ?_
  refine x_iinc (pc' := 84) (w := (1 : Int32)) (ls' := [.ref 45, .int (((10 : Int32) * x1) + x4), .int x4, .int (x3 + (1 : Int32)), .int x4]) dX8_boxThere_81 rfl rfl k_ic_1 rfl ?_
  refine x_goto (pc' := 6) dX8_boxThere_84 (by decide) ?_
  exact h
/-! X8_ofOne () -/
theorem BX8_ofOne_0 {d : Nat} {x0 : Int32} {S : tb_St} {r : Int32 × tb_St} (h : ((if x0 = (2 : Int32) then some ((1 : Int32), S) else (if ¬ x0 = (6 : Int32) then some ((0 : Int32), S) else some ((1 : Int32), S)))) = some r) : tb_E d mX8_ofOne tb_dI 0 [.int x0] [] tb_S S = some r := by
  refine x_iload_n (pc' := 1) dX8_ofOne_0 rfl rfl ?_
  refine x_iconst (pc' := 2) (w := (2 : Int32)) dX8_ofOne_1 rfl k_ic_2 ?_
  by_cases c2 : x0 = (2 : Int32)
  · replace h := (if_pos c2).symm.trans h
    refine x_icmp_eq_t (pc' := 11) dX8_ofOne_2 (by decide) c2 ?_
    refine x_iconst (pc' := 12) (w := (1 : Int32)) dX8_ofOne_11 rfl k_ic_1 ?_
    refine x_goto (pc' := 16) dX8_ofOne_12 (by decide) ?_
    exact x_zret dX8_ofOne_16 rfl (Or.inr rfl) ((tb_dI_ok _ _).trans h)
  · replace h := (if_neg c2).symm.trans h
    refine x_icmp_eq_f (pc' := 5) dX8_ofOne_2 (by decide) rfl c2 ?_
    refine x_iload_n (pc' := 6) dX8_ofOne_5 rfl rfl ?_
    refine x_bipush (pc' := 8) (w := (6 : Int32)) dX8_ofOne_6 rfl k_bi_6 ?_
    by_cases c8 : ¬ x0 = (6 : Int32)
    · replace h := (if_pos c8).symm.trans h
      refine x_icmp_ne_t (pc' := 15) dX8_ofOne_8 (by decide) c8 ?_
      refine x_iconst (pc' := 16) (w := (0 : Int32)) dX8_ofOne_15 rfl k_ic_0 ?_
      exact x_zret dX8_ofOne_16 rfl (Or.inl rfl) ((tb_dI_ok _ _).trans h)
    · replace h := (if_neg c8).symm.trans h
      refine x_icmp_ne_f (pc' := 11) dX8_ofOne_8 (by decide) rfl c8 ?_
      refine x_iconst (pc' := 12) (w := (1 : Int32)) dX8_ofOne_11 rfl k_ic_1 ?_
      refine x_goto (pc' := 16) dX8_ofOne_12 (by decide) ?_
      exact x_zret dX8_ofOne_16 rfl (Or.inr rfl) ((tb_dI_ok _ _).trans h)
theorem MX8_ofOne {d : Nat} {x0 : Int32} {S : tb_St} {r : Int32 × tb_St} (h : ((if x0 = (2 : Int32) then some ((1 : Int32), S) else (if ¬ x0 = (6 : Int32) then some ((0 : Int32), S) else some ((1 : Int32), S)))) = some r) : tb_cI (d + 1) mX8_ofOne [.int x0] S = some r := tb_enI rfl rfl (BX8_ofOne_0 h)
/-! X8_kindOf () -/
theorem BX8_kindOf_0 {d : Nat} {x0 : Int32} {S : tb_St} {r : Int32 × tb_St} (h : ((if x0 = (33 : Int32) then some ((7 : Int32), S) else (if x0 = (43 : Int32) then some ((4 : Int32), S) else (if x0 = (47 : Int32) then some ((3 : Int32), S) else (if x0 = (60 : Int32) then some ((5 : Int32), S) else (if x0 = (63 : Int32) then some ((2 : Int32), S) else (if x0 = (94 : Int32) then some ((6 : Int32), S) else some ((-1 : Int32), S)))))))) = some r) : tb_E d mX8_kindOf tb_dI 0 [.int x0] [] tb_S S = some r := by
  refine x_iload_n (pc' := 1) dX8_kindOf_0 rfl rfl ?_
  by_cases c1_33 : x0 = (33 : Int32)
  · replace h := (if_pos c1_33).symm.trans h
    refine x_lsw (pc' := 71) dX8_kindOf_1 (by decide) (off := 70) ?_ (by decide) ?_
    · show Op.lookupswitch.offset [(33, 70), (43, 66), (47, 64), (60, 68), (63, 59), (94, 61)] (73) (x0).toInt = _
      rw [c1_33]
      decide +kernel
    · refine x_bipush (pc' := 73) (w := (7 : Int32)) dX8_kindOf_71 rfl k_bi_7 ?_
      exact x_iret dX8_kindOf_73 rfl ((tb_dI_ok _ _).trans h)
  · replace h := (if_neg c1_33).symm.trans h
    by_cases c1_43 : x0 = (43 : Int32)
    · replace h := (if_pos c1_43).symm.trans h
      refine x_lsw (pc' := 67) dX8_kindOf_1 (by decide) (off := 66) ?_ (by decide) ?_
      · show Op.lookupswitch.offset [(33, 70), (43, 66), (47, 64), (60, 68), (63, 59), (94, 61)] (73) (x0).toInt = _
        rw [lv_osw (k := (33 : Int32)) c1_33 (by decide +kernel)]
        rw [c1_43]
        decide +kernel
      · refine x_iconst (pc' := 68) (w := (4 : Int32)) dX8_kindOf_67 rfl k_ic_4 ?_
        exact x_iret dX8_kindOf_68 rfl ((tb_dI_ok _ _).trans h)
    · replace h := (if_neg c1_43).symm.trans h
      by_cases c1_47 : x0 = (47 : Int32)
      · replace h := (if_pos c1_47).symm.trans h
        refine x_lsw (pc' := 65) dX8_kindOf_1 (by decide) (off := 64) ?_ (by decide) ?_
        · show Op.lookupswitch.offset [(33, 70), (43, 66), (47, 64), (60, 68), (63, 59), (94, 61)] (73) (x0).toInt = _
          rw [lv_osw (k := (33 : Int32)) c1_33 (by decide +kernel)]
          rw [lv_osw (k := (43 : Int32)) c1_43 (by decide +kernel)]
          rw [c1_47]
          decide +kernel
        · refine x_iconst (pc' := 66) (w := (3 : Int32)) dX8_kindOf_65 rfl k_ic_3 ?_
          exact x_iret dX8_kindOf_66 rfl ((tb_dI_ok _ _).trans h)
      · replace h := (if_neg c1_47).symm.trans h
        by_cases c1_60 : x0 = (60 : Int32)
        · replace h := (if_pos c1_60).symm.trans h
          refine x_lsw (pc' := 69) dX8_kindOf_1 (by decide) (off := 68) ?_ (by decide) ?_
          · show Op.lookupswitch.offset [(33, 70), (43, 66), (47, 64), (60, 68), (63, 59), (94, 61)] (73) (x0).toInt = _
            rw [lv_osw (k := (33 : Int32)) c1_33 (by decide +kernel)]
            rw [lv_osw (k := (43 : Int32)) c1_43 (by decide +kernel)]
            rw [lv_osw (k := (47 : Int32)) c1_47 (by decide +kernel)]
            rw [c1_60]
            decide +kernel
          · refine x_iconst (pc' := 70) (w := (5 : Int32)) dX8_kindOf_69 rfl k_ic_5 ?_
            exact x_iret dX8_kindOf_70 rfl ((tb_dI_ok _ _).trans h)
        · replace h := (if_neg c1_60).symm.trans h
          by_cases c1_63 : x0 = (63 : Int32)
          · replace h := (if_pos c1_63).symm.trans h
            refine x_lsw (pc' := 60) dX8_kindOf_1 (by decide) (off := 59) ?_ (by decide) ?_
            · show Op.lookupswitch.offset [(33, 70), (43, 66), (47, 64), (60, 68), (63, 59), (94, 61)] (73) (x0).toInt = _
              rw [lv_osw (k := (33 : Int32)) c1_33 (by decide +kernel)]
              rw [lv_osw (k := (43 : Int32)) c1_43 (by decide +kernel)]
              rw [lv_osw (k := (47 : Int32)) c1_47 (by decide +kernel)]
              rw [lv_osw (k := (60 : Int32)) c1_60 (by decide +kernel)]
              rw [c1_63]
              decide +kernel
            · refine x_iconst (pc' := 61) (w := (2 : Int32)) dX8_kindOf_60 rfl k_ic_2 ?_
              exact x_iret dX8_kindOf_61 rfl ((tb_dI_ok _ _).trans h)
          · replace h := (if_neg c1_63).symm.trans h
            by_cases c1_94 : x0 = (94 : Int32)
            · replace h := (if_pos c1_94).symm.trans h
              refine x_lsw (pc' := 62) dX8_kindOf_1 (by decide) (off := 61) ?_ (by decide) ?_
              · show Op.lookupswitch.offset [(33, 70), (43, 66), (47, 64), (60, 68), (63, 59), (94, 61)] (73) (x0).toInt = _
                rw [lv_osw (k := (33 : Int32)) c1_33 (by decide +kernel)]
                rw [lv_osw (k := (43 : Int32)) c1_43 (by decide +kernel)]
                rw [lv_osw (k := (47 : Int32)) c1_47 (by decide +kernel)]
                rw [lv_osw (k := (60 : Int32)) c1_60 (by decide +kernel)]
                rw [lv_osw (k := (63 : Int32)) c1_63 (by decide +kernel)]
                rw [c1_94]
                decide +kernel
              · refine x_bipush (pc' := 64) (w := (6 : Int32)) dX8_kindOf_62 rfl k_bi_6 ?_
                exact x_iret dX8_kindOf_64 rfl ((tb_dI_ok _ _).trans h)
            · replace h := (if_neg c1_94).symm.trans h
              refine x_lsw (pc' := 74) dX8_kindOf_1 (by decide) (off := 73) ?_ (by decide) ?_
              · show Op.lookupswitch.offset [(33, 70), (43, 66), (47, 64), (60, 68), (63, 59), (94, 61)] (73) (x0).toInt = _
                rw [lv_osw (k := (33 : Int32)) c1_33 (by decide +kernel)]
                rw [lv_osw (k := (43 : Int32)) c1_43 (by decide +kernel)]
                rw [lv_osw (k := (47 : Int32)) c1_47 (by decide +kernel)]
                rw [lv_osw (k := (60 : Int32)) c1_60 (by decide +kernel)]
                rw [lv_osw (k := (63 : Int32)) c1_63 (by decide +kernel)]
                rw [lv_osw (k := (94 : Int32)) c1_94 (by decide +kernel)]
                rfl
              · refine x_iconst (pc' := 75) (w := (-1 : Int32)) dX8_kindOf_74 rfl k_ic_m1 ?_
                exact x_iret dX8_kindOf_75 rfl ((tb_dI_ok _ _).trans h)
theorem MX8_kindOf {d : Nat} {x0 : Int32} {S : tb_St} {r : Int32 × tb_St} (h : ((if x0 = (33 : Int32) then some ((7 : Int32), S) else (if x0 = (43 : Int32) then some ((4 : Int32), S) else (if x0 = (47 : Int32) then some ((3 : Int32), S) else (if x0 = (60 : Int32) then some ((5 : Int32), S) else (if x0 = (63 : Int32) then some ((2 : Int32), S) else (if x0 = (94 : Int32) then some ((6 : Int32), S) else some ((-1 : Int32), S)))))))) = some r) : tb_cI (d + 1) mX8_kindOf [.int x0] S = some r := tb_enI rfl rfl (BX8_kindOf_0 h)
/-! X8_next (45,) -/
theorem BX8_next_0 {d : Nat} {S : tb_St} {r : Int32 × tb_St} (h : ((if S 45 21 ≤ S 45 23 then some ((0 : Int32), S) else (tb_ix (S 45 23) 60).bind fun j19 => some (S 59 j19, S))) = some r) : tb_E d mX8_next tb_dI 0 [.ref 45] [] tb_S S = some r := by
  refine x_aload_n (pc' := 1) dX8_next_0 rfl rfl ?_
  refine x_getI (pc' := 4) (v := S 45 23) dX8_next_1 rfl lf_8_122 rfl sh_45 rfl ?_
  refine x_aload_n (pc' := 5) dX8_next_4 rfl rfl ?_
  refine x_getI (pc' := 8) (v := S 45 21) dX8_next_5 rfl lf_8_119 rfl sh_45 rfl ?_
  by_cases c8 : S 45 21 ≤ S 45 23
  · replace h := (if_pos c8).symm.trans h
    refine x_icmp_ge_t (pc' := 23) dX8_next_8 (by decide) c8 ?_
    refine x_iconst (pc' := 24) (w := (0 : Int32)) dX8_next_23 rfl k_ic_0 ?_
    exact x_iret dX8_next_24 rfl ((tb_dI_ok _ _).trans h)
  · replace h := (if_neg c8).symm.trans h
    refine x_icmp_ge_f (pc' := 11) dX8_next_8 (by decide) rfl c8 ?_
    refine x_aload_n (pc' := 12) dX8_next_11 rfl rfl ?_
    refine x_getR (pc' := 15) dX8_next_12 rfl lf_8_56 rfl sh_45 rfl ?_
    refine x_aload_n (pc' := 16) dX8_next_15 rfl rfl ?_
    refine x_getI (pc' := 19) (v := S 45 23) dX8_next_16 rfl lf_8_122 rfl sh_45 rfl ?_
    obtain ⟨j19, hj19, h⟩ := Option.bind_eq_some_iff.mp h
    refine x_iaload (pc' := 20) (v := S 59 j19) dX8_next_19 rfl sh_59 hj19 rfl ?_
    refine x_goto (pc' := 24) dX8_next_20 (by decide) ?_
    exact x_iret dX8_next_24 rfl ((tb_dI_ok _ _).trans h)
theorem MX8_next {d : Nat} {S : tb_St} {r : Int32 × tb_St} (h : ((if S 45 21 ≤ S 45 23 then some ((0 : Int32), S) else (tb_ix (S 45 23) 60).bind fun j19 => some (S 59 j19, S))) = some r) : tb_cI (d + 1) mX8_next [.ref 45] S = some r := tb_enI rfl rfl (BX8_next_0 h)
/-! X8_isFigure (45,) -/
theorem BX8_isFigure_0 {d : Nat} {S : tb_St} {r : Int32 × tb_St} (h : ((tb_cI d mX8_next [.ref 45] S).bind fun q1 => (tb_cI d mX8_within [.int (q1.1), .int (48 : Int32), .int (57 : Int32)] (q1.2)).bind fun q8 => (if q8.1 = 0 ∨ q8.1 = 1 then some (q8.1, q8.2) else none)) = some r) : tb_E d mX8_isFigure tb_dI 0 [.ref 45] [] tb_S S = some r := by
  refine x_aload_n (pc' := 1) dX8_isFigure_0 rfl rfl ?_
  obtain ⟨q1, hq1, h⟩ := Option.bind_eq_some_iff.mp h
  refine x_virtI (pc' := 4) (o := 45) (as := []) (rest := []) dX8_isFigure_1 rfl lm_8_125 rfl rfl rfl sh_45 rfl hq1 ?_
  refine x_bipush (pc' := 6) (w := (48 : Int32)) dX8_isFigure_4 rfl k_bi_48 ?_
  refine x_bipush (pc' := 8) (w := (57 : Int32)) dX8_isFigure_6 rfl k_bi_57 ?_
  obtain ⟨q8, hq8, h⟩ := Option.bind_eq_some_iff.mp h
  refine x_statI (pc' := 11) (as := [.int (q1.1), .int (48 : Int32), .int (57 : Int32)]) (rest := []) dX8_isFigure_8 rfl lm_8_80 (by decide) rfl rfl rfl rfl hq8 ?_
  by_cases c11 : q8.1 = 0 ∨ q8.1 = 1
  · replace h := (if_pos c11).symm.trans h
    exact x_zret dX8_isFigure_11 rfl c11 ((tb_dI_ok _ _).trans h)
  · replace h := (if_neg c11).symm.trans h
    cases h
theorem MX8_isFigure {d : Nat} {S : tb_St} {r : Int32 × tb_St} (h : ((tb_cI d mX8_next [.ref 45] S).bind fun q1 => (tb_cI d mX8_within [.int (q1.1), .int (48 : Int32), .int (57 : Int32)] (q1.2)).bind fun q8 => (if q8.1 = 0 ∨ q8.1 = 1 then some (q8.1, q8.2) else none)) = some r) : tb_cI (d + 1) mX8_isFigure [.ref 45] S = some r := tb_enI rfl rfl (BX8_isFigure_0 h)
/-! X4_fail (32,) -/
theorem BX4_fail_0 {d : Nat} {x1 : Int32} {w2 : Value} {S : tb_St} {r : tb_St} (h : ((if S 32 7 = (-1 : Int32) then tb_E d mX4_fail tb_dV 26 [.ref 32, .int x1, .int ((S 32 10) - (1 : Int32))] [] tb_S (tb_up (tb_up S 32 7 x1) 32 4 (0 : Int32)) else some S)) = some r) : tb_E d mX4_fail tb_dV 0 [.ref 32, .int x1, w2] [] tb_S S = some r := by
  refine x_aload_n (pc' := 1) dX4_fail_0 rfl rfl ?_
  refine x_getI (pc' := 4) (v := S 32 7) dX4_fail_1 rfl lf_4_31 rfl sh_32 rfl ?_
  refine x_iconst (pc' := 5) (w := (-1 : Int32)) dX4_fail_4 rfl k_ic_m1 ?_
  by_cases c5 : S 32 7 = (-1 : Int32)
  · replace h := (if_pos c5).symm.trans h
    refine x_icmp_eq_t (pc' := 9) dX4_fail_5 (by decide) c5 ?_
    refine x_aload_n (pc' := 10) dX4_fail_9 rfl rfl ?_
    refine x_iload_n (pc' := 11) dX4_fail_10 rfl rfl ?_
    refine x_putI (pc' := 14) dX4_fail_11 rfl lf_4_31 (Or.inl rfl) sh_32 ?_
    refine x_aload_n (pc' := 15) dX4_fail_14 rfl rfl ?_
    refine x_iconst (pc' := 16) (w := (0 : Int32)) dX4_fail_15 rfl k_ic_0 ?_
    refine x_putI (pc' := 19) dX4_fail_16 rfl lf_4_22 (Or.inl rfl) sh_32 ?_
    refine x_aload_n (pc' := 20) dX4_fail_19 rfl rfl ?_
    refine x_getI (pc' := 23) (v := S 32 10) dX4_fail_20 rfl lf_4_41 rfl sh_32 rfl ?_
    refine x_iconst (pc' := 24) (w := (1 : Int32)) dX4_fail_23 rfl k_ic_1 ?_
    refine x_isub (pc' := 25) dX4_fail_24 rfl ?_
    refine x_istore_n (pc' := 26) (ls' := [.ref 32, .int x1, .int ((S 32 10) - (1 : Int32))]) dX4_fail_25 rfl rfl rfl ?_
    exact h
  · replace h := (if_neg c5).symm.trans h
    refine x_icmp_eq_f (pc' := 8) dX4_fail_5 (by decide) rfl c5 ?_
    exact x_vret dX4_fail_8 rfl ((tb_dV_ok _).trans h)
theorem MX4_fail {d : Nat} {x1 : Int32} {S : tb_St} {r : tb_St} (h : ((if S 32 7 = (-1 : Int32) then tb_E d mX4_fail tb_dV 26 [.ref 32, .int x1, .int ((S 32 10) - (1 : Int32))] [] tb_S (tb_up (tb_up S 32 7 x1) 32 4 (0 : Int32)) else some S)) = some r) : tb_cV (d + 1) mX4_fail [.ref 32, .int x1] S = some r := tb_enV rfl rfl (BX4_fail_0 h)
theorem BX4_fail_26 {d : Nat} {x2 : Int32} {w1 : Value} {S : tb_St} {r : tb_St} (h : ((if x2 < 0 then some S else (tb_ix x2 7).bind fun j43 => (tb_ix (S 32 4) 7).bind fun j44 => tb_E d mX4_fail tb_dV 26 [.ref 32, w1, .int (x2 + (-1 : Int32))] [] tb_S (tb_up (tb_up S 34 j44 (S 35 j43)) 32 4 ((S 32 4) + (1 : Int32))))) = some r) : tb_E d mX4_fail tb_dV 26 [.ref 32, w1, .int x2] [] tb_S S = some r := by
  refine x_iload_n (pc' := 27) dX4_fail_26 rfl rfl ?_
  by_cases c27 : x2 < 0
  · replace h := (if_pos c27).symm.trans h
    refine x_if_lt_t (pc' := 61) dX4_fail_27 (by decide) c27 ?_
    exact x_vret dX4_fail_61 rfl ((tb_dV_ok _).trans h)
  · replace h := (if_neg c27).symm.trans h
    refine x_if_lt_f (pc' := 30) dX4_fail_27 (by decide) rfl c27 ?_
    refine x_aload_n (pc' := 31) dX4_fail_30 rfl rfl ?_
    refine x_getR (pc' := 34) dX4_fail_31 rfl lf_4_19 rfl sh_32 rfl ?_
    refine x_aload_n (pc' := 35) dX4_fail_34 rfl rfl ?_
    refine x_getI (pc' := 38) (v := S 32 4) dX4_fail_35 rfl lf_4_22 rfl sh_32 rfl ?_
    refine x_aload_n (pc' := 39) dX4_fail_38 rfl rfl ?_
    refine x_getR (pc' := 42) dX4_fail_39 rfl lf_4_38 rfl sh_32 rfl ?_
    refine x_iload_n (pc' := 43) dX4_fail_42 rfl rfl ?_
    obtain ⟨j43, hj43, h⟩ := Option.bind_eq_some_iff.mp h
    refine x_iaload (pc' := 44) (v := S 35 j43) dX4_fail_43 rfl sh_35 hj43 rfl ?_
    obtain ⟨j44, hj44, h⟩ := Option.bind_eq_some_iff.mp h
    refine x_iastore (pc' := 45) dX4_fail_44 rfl sh_34 hj44 ?_
    refine x_aload_n (pc' := 46) dX4_fail_45 rfl rfl ?_
    refine x_dup (pc' := 47) dX4_fail_46 rfl rfl ?_
    refine x_getI (pc' := 50) (v := S 32 4) dX4_fail_47 rfl lf_4_22 rfl sh_32 rfl ?_
    refine x_iconst (pc' := 51) (w := (1 : Int32)) dX4_fail_50 rfl k_ic_1 ?_
    refine x_iadd (pc' := 52) dX4_fail_51 rfl ?_
    refine x_putI (pc' := 55) dX4_fail_52 rfl lf_4_22 (Or.inl rfl) sh_32 ?_
    refine x_iinc (pc' := 58) (w := (-1 : Int32)) (ls' := [.ref 32, w1, .int (x2 + (-1 : Int32))]) dX4_fail_55 rfl rfl k_ic_m1 rfl ?_
    refine x_goto (pc' := 26) dX4_fail_58 (by decide) ?_
    exact h
/-! X4_readTerm (32,) -/
theorem BX4_readTerm_0 {d : Nat} {x1 : Int32} {w2 w3 w4 : Value} {S : tb_St} {r : Int32 × tb_St} (h : ((tb_cI d mX4_here [.ref 32] S).bind fun q1 => (tb_cI d mX4_isFigure [.ref 32, .int (q1.1)] (q1.2)).bind fun q7 => (if q7.1 = 0 then (if ¬ q1.1 = (45 : Int32) then (tb_cI d mX4_kindBySign [.ref 32, .int (q1.1)] (q7.2)).bind fun q61 => (if q61.1 = (-1 : Int32) then (tb_cV d mX4_fail [.ref 32, .int ((q61.2) 32 5)] (q61.2)).bind fun q84 => some ((-1 : Int32), q84) else (if (q61.2) 32 10 ≤ (6 : Int32) then (tb_ix ((q61.2) 32 10) 7).bind fun j101 => (if ¬ q61.1 = (8 : Int32) then (tb_cI d mX4_readComposed [.ref 32, .int (q61.1), .int x1] (tb_up (tb_up (tb_up (q61.2) 35 j101 ((q61.2) 32 5)) 32 10 (((q61.2) 32 10) + (1 : Int32))) 32 5 (((q61.2) 32 5) + (1 : Int32)))).bind fun q138 => tb_E d mX4_readTerm tb_dI 141 [.ref 32, .int x1, .int (q1.1), .int (q61.1), w4] [.int (q138.1)] tb_S (q138.2) else (tb_cI d mX4_readNamed [.ref 32] (tb_up (tb_up (tb_up (q61.2) 35 j101 ((q61.2) 32 5)) 32 10 (((q61.2) 32 10) + (1 : Int32))) 32 5 (((q61.2) 32 5) + (1 : Int32)))).bind fun q129 => tb_E d mX4_readTerm tb_dI 141 [.ref 32, .int x1, .int (q1.1), .int (q61.1), w4] [.int (q129.1)] tb_S (q129.2)) else (tb_cV d mX4_fail [.ref 32, .int ((q61.2) 32 5)] (q61.2)).bind fun q84 => some ((-1 : Int32), q84))) else (tb_cI d mX4_take [.ref 32, .int (1 : Int32), .int (-5 : Int32), .int (-5 : Int32), .int (-5 : Int32), .int (-5 : Int32)] (tb_up (q7.2) 32 5 (((q7.2) 32 5) + (1 : Int32)))).bind fun q55 => some (q55.1, q55.2)) else (tb_cI d mX4_readNumber [.ref 32] (q7.2)).bind fun q16 => (tb_cI d mX4_take [.ref 32, .int (0 : Int32), .int (q16.1), .int (-5 : Int32), .int (-5 : Int32), .int (-5 : Int32)] (q16.2)).bind fun q25 => some (q25.1, q25.2))) = some r) : tb_E d mX4_readTerm tb_dI 0 [.ref 32, .int x1, w2, w3, w4] [] tb_S S = some r := by
  refine x_aload_n (pc' := 1) dX4_readTerm_0 rfl rfl ?_
  obtain ⟨q1, hq1, h⟩ := Option.bind_eq_some_iff.mp h
  refine x_virtI (pc' := 4) (o := 32) (as := []) (rest := []) dX4_readTerm_1 rfl lm_4_64 rfl rfl rfl sh_32 rfl hq1 ?_
  refine x_istore_n (pc' := 5) (ls' := [.ref 32, .int x1, .int (q1.1), w3, w4]) dX4_readTerm_4 rfl rfl rfl ?_
  refine x_aload_n (pc' := 6) dX4_readTerm_5 rfl rfl ?_
  refine x_iload_n (pc' := 7) dX4_readTerm_6 rfl rfl ?_
  obtain ⟨q7, hq7, h⟩ := Option.bind_eq_some_iff.mp h
  refine x_virtI (pc' := 10) (o := 32) (as := [.int (q1.1)]) (rest := []) dX4_readTerm_7 rfl lm_4_68 rfl rfl rfl sh_32 rfl hq7 ?_
  by_cases c10 : q7.1 = 0
  · replace h := (if_pos c10).symm.trans h
    refine x_if_eq_t (pc' := 29) dX4_readTerm_10 (by decide) c10 ?_
    refine x_iload_n (pc' := 30) dX4_readTerm_29 rfl rfl ?_
    refine x_bipush (pc' := 32) (w := (45 : Int32)) dX4_readTerm_30 rfl k_bi_45 ?_
    by_cases c32 : ¬ q1.1 = (45 : Int32)
    · replace h := (if_pos c32).symm.trans h
      refine x_icmp_ne_t (pc' := 59) dX4_readTerm_32 (by decide) c32 ?_
      refine x_aload_n (pc' := 60) dX4_readTerm_59 rfl rfl ?_
      refine x_iload_n (pc' := 61) dX4_readTerm_60 rfl rfl ?_
      obtain ⟨q61, hq61, h⟩ := Option.bind_eq_some_iff.mp h
      refine x_virtI (pc' := 64) (o := 32) (as := [.int (q1.1)]) (rest := []) dX4_readTerm_61 rfl lm_4_79 rfl rfl rfl sh_32 rfl hq61 ?_
      refine x_istore_n (pc' := 65) (ls' := [.ref 32, .int x1, .int (q1.1), .int (q61.1), w4]) dX4_readTerm_64 rfl rfl rfl ?_
      refine x_iload_n (pc' := 66) dX4_readTerm_65 rfl rfl ?_
      refine x_iconst (pc' := 67) (w := (-1 : Int32)) dX4_readTerm_66 rfl k_ic_m1 ?_
      by_cases c67 : q61.1 = (-1 : Int32)
      · replace h := (if_pos c67).symm.trans h
        refine x_icmp_eq_t (pc' := 79) dX4_readTerm_67 (by decide) c67 ?_
        refine x_aload_n (pc' := 80) dX4_readTerm_79 rfl rfl ?_
        refine x_aload_n (pc' := 81) dX4_readTerm_80 rfl rfl ?_
        refine x_getI (pc' := 84) (v := (q61.2) 32 5) dX4_readTerm_81 rfl lf_4_25 rfl sh_32 rfl ?_
        obtain ⟨q84, hq84, h⟩ := Option.bind_eq_some_iff.mp h
        refine x_virtV (pc' := 87) (o := 32) (as := [.int ((q61.2) 32 5)]) (rest := []) dX4_readTerm_84 rfl lm_4_57 rfl rfl rfl sh_32 rfl hq84 ?_
        refine x_iconst (pc' := 88) (w := (-1 : Int32)) dX4_readTerm_87 rfl k_ic_m1 ?_
        exact x_iret dX4_readTerm_88 rfl ((tb_dI_ok _ _).trans h)
      · replace h := (if_neg c67).symm.trans h
        refine x_icmp_eq_f (pc' := 70) dX4_readTerm_67 (by decide) rfl c67 ?_
        refine x_aload_n (pc' := 71) dX4_readTerm_70 rfl rfl ?_
        refine x_getI (pc' := 74) (v := (q61.2) 32 10) dX4_readTerm_71 rfl lf_4_41 rfl sh_32 rfl ?_
        refine x_bipush (pc' := 76) (w := (6 : Int32)) dX4_readTerm_74 rfl k_bi_6 ?_
        by_cases c76 : (q61.2) 32 10 ≤ (6 : Int32)
        · replace h := (if_pos c76).symm.trans h
          refine x_icmp_le_t (pc' := 89) dX4_readTerm_76 (by decide) c76 ?_
          refine x_aload_n (pc' := 90) dX4_readTerm_89 rfl rfl ?_
          refine x_getR (pc' := 93) dX4_readTerm_90 rfl lf_4_38 rfl sh_32 rfl ?_
          refine x_aload_n (pc' := 94) dX4_readTerm_93 rfl rfl ?_
          refine x_getI (pc' := 97) (v := (q61.2) 32 10) dX4_readTerm_94 rfl lf_4_41 rfl sh_32 rfl ?_
          refine x_aload_n (pc' := 98) dX4_readTerm_97 rfl rfl ?_
          refine x_getI (pc' := 101) (v := (q61.2) 32 5) dX4_readTerm_98 rfl lf_4_25 rfl sh_32 rfl ?_
          obtain ⟨j101, hj101, h⟩ := Option.bind_eq_some_iff.mp h
          refine x_iastore (pc' := 102) dX4_readTerm_101 rfl sh_35 hj101 ?_
          refine x_aload_n (pc' := 103) dX4_readTerm_102 rfl rfl ?_
          refine x_dup (pc' := 104) dX4_readTerm_103 rfl rfl ?_
          refine x_getI (pc' := 107) (v := (q61.2) 32 10) dX4_readTerm_104 rfl lf_4_41 rfl sh_32 rfl ?_
          refine x_iconst (pc' := 108) (w := (1 : Int32)) dX4_readTerm_107 rfl k_ic_1 ?_
          refine x_iadd (pc' := 109) dX4_readTerm_108 rfl ?_
          refine x_putI (pc' := 112) dX4_readTerm_109 rfl lf_4_41 (Or.inl rfl) sh_32 ?_
          refine x_aload_n (pc' := 113) dX4_readTerm_112 rfl rfl ?_
          refine x_dup (pc' := 114) dX4_readTerm_113 rfl rfl ?_
          refine x_getI (pc' := 117) (v := (q61.2) 32 5) dX4_readTerm_114 rfl lf_4_25 rfl sh_32 rfl ?_
          refine x_iconst (pc' := 118) (w := (1 : Int32)) dX4_readTerm_117 rfl k_ic_1 ?_
          refine x_iadd (pc' := 119) dX4_readTerm_118 rfl ?_
          refine x_putI (pc' := 122) dX4_readTerm_119 rfl lf_4_25 (Or.inl rfl) sh_32 ?_
          refine x_iload_n (pc' := 123) dX4_readTerm_122 rfl rfl ?_
          refine x_bipush (pc' := 125) (w := (8 : Int32)) dX4_readTerm_123 rfl k_bi_8 ?_
          by_cases c125 : ¬ q61.1 = (8 : Int32)
          · replace h := (if_pos c125).symm.trans h
            refine x_icmp_ne_t (pc' := 135) dX4_readTerm_125 (by decide) c125 ?_
            refine x_aload_n (pc' := 136) dX4_readTerm_135 rfl rfl ?_
            refine x_iload_n (pc' := 137) dX4_readTerm_136 rfl rfl ?_
            refine x_iload_n (pc' := 138) dX4_readTerm_137 rfl rfl ?_
            obtain ⟨q138, hq138, h⟩ := Option.bind_eq_some_iff.mp h
            refine x_virtI (pc' := 141) (o := 32) (as := [.int (q61.1), .int x1]) (rest := []) dX4_readTerm_138 rfl lm_4_85 rfl rfl rfl sh_32 rfl hq138 ?_
            exact h
          · replace h := (if_neg c125).symm.trans h
            refine x_icmp_ne_f (pc' := 128) dX4_readTerm_125 (by decide) rfl c125 ?_
            refine x_aload_n (pc' := 129) dX4_readTerm_128 rfl rfl ?_
            obtain ⟨q129, hq129, h⟩ := Option.bind_eq_some_iff.mp h
            refine x_virtI (pc' := 132) (o := 32) (as := []) (rest := []) dX4_readTerm_129 rfl lm_4_82 rfl rfl rfl sh_32 rfl hq129 ?_
            refine x_goto (pc' := 141) dX4_readTerm_132 (by decide) ?_
            exact h
        · replace h := (if_neg c76).symm.trans h
          refine x_icmp_le_f (pc' := 79) dX4_readTerm_76 (by decide) rfl c76 ?_
          refine x_aload_n (pc' := 80) dX4_readTerm_79 rfl rfl ?_
          refine x_aload_n (pc' := 81) dX4_readTerm_80 rfl rfl ?_
          refine x_getI (pc' := 84) (v := (q61.2) 32 5) dX4_readTerm_81 rfl lf_4_25 rfl sh_32 rfl ?_
          obtain ⟨q84, hq84, h⟩ := Option.bind_eq_some_iff.mp h
          refine x_virtV (pc' := 87) (o := 32) (as := [.int ((q61.2) 32 5)]) (rest := []) dX4_readTerm_84 rfl lm_4_57 rfl rfl rfl sh_32 rfl hq84 ?_
          refine x_iconst (pc' := 88) (w := (-1 : Int32)) dX4_readTerm_87 rfl k_ic_m1 ?_
          exact x_iret dX4_readTerm_88 rfl ((tb_dI_ok _ _).trans h)
    · replace h := (if_neg c32).symm.trans h
      refine x_icmp_ne_f (pc' := 35) dX4_readTerm_32 (by decide) rfl c32 ?_
      refine x_aload_n (pc' := 36) dX4_readTerm_35 rfl rfl ?_
      refine x_dup (pc' := 37) dX4_readTerm_36 rfl rfl ?_
      refine x_getI (pc' := 40) (v := (q7.2) 32 5) dX4_readTerm_37 rfl lf_4_25 rfl sh_32 rfl ?_
      refine x_iconst (pc' := 41) (w := (1 : Int32)) dX4_readTerm_40 rfl k_ic_1 ?_
      refine x_iadd (pc' := 42) dX4_readTerm_41 rfl ?_
      refine x_putI (pc' := 45) dX4_readTerm_42 rfl lf_4_25 (Or.inl rfl) sh_32 ?_
      refine x_aload_n (pc' := 46) dX4_readTerm_45 rfl rfl ?_
      refine x_iconst (pc' := 47) (w := (1 : Int32)) dX4_readTerm_46 rfl k_ic_1 ?_
      refine x_bipush (pc' := 49) (w := (-5 : Int32)) dX4_readTerm_47 rfl k_bi_m5 ?_
      refine x_bipush (pc' := 51) (w := (-5 : Int32)) dX4_readTerm_49 rfl k_bi_m5 ?_
      refine x_bipush (pc' := 53) (w := (-5 : Int32)) dX4_readTerm_51 rfl k_bi_m5 ?_
      refine x_bipush (pc' := 55) (w := (-5 : Int32)) dX4_readTerm_53 rfl k_bi_m5 ?_
      obtain ⟨q55, hq55, h⟩ := Option.bind_eq_some_iff.mp h
      refine x_virtI (pc' := 58) (o := 32) (as := [.int (1 : Int32), .int (-5 : Int32), .int (-5 : Int32), .int (-5 : Int32), .int (-5 : Int32)]) (rest := []) dX4_readTerm_55 rfl lm_4_75 rfl rfl rfl sh_32 rfl hq55 ?_
      exact x_iret dX4_readTerm_58 rfl ((tb_dI_ok _ _).trans h)
  · replace h := (if_neg c10).symm.trans h
    refine x_if_eq_f (pc' := 13) dX4_readTerm_10 (by decide) rfl c10 ?_
    refine x_aload_n (pc' := 14) dX4_readTerm_13 rfl rfl ?_
    refine x_iconst (pc' := 15) (w := (0 : Int32)) dX4_readTerm_14 rfl k_ic_0 ?_
    refine x_aload_n (pc' := 16) dX4_readTerm_15 rfl rfl ?_
    obtain ⟨q16, hq16, h⟩ := Option.bind_eq_some_iff.mp h
    refine x_virtI (pc' := 19) (o := 32) (as := []) (rest := [.int (0 : Int32), .ref 32]) dX4_readTerm_16 rfl lm_4_72 rfl rfl rfl sh_32 rfl hq16 ?_
    refine x_bipush (pc' := 21) (w := (-5 : Int32)) dX4_readTerm_19 rfl k_bi_m5 ?_
    refine x_bipush (pc' := 23) (w := (-5 : Int32)) dX4_readTerm_21 rfl k_bi_m5 ?_
    refine x_bipush (pc' := 25) (w := (-5 : Int32)) dX4_readTerm_23 rfl k_bi_m5 ?_
    obtain ⟨q25, hq25, h⟩ := Option.bind_eq_some_iff.mp h
    refine x_virtI (pc' := 28) (o := 32) (as := [.int (0 : Int32), .int (q16.1), .int (-5 : Int32), .int (-5 : Int32), .int (-5 : Int32)]) (rest := []) dX4_readTerm_25 rfl lm_4_75 rfl rfl rfl sh_32 rfl hq25 ?_
    exact x_iret dX4_readTerm_28 rfl ((tb_dI_ok _ _).trans h)
theorem MX4_readTerm {d : Nat} {x1 : Int32} {S : tb_St} {r : Int32 × tb_St} (h : ((tb_cI d mX4_here [.ref 32] S).bind fun q1 => (tb_cI d mX4_isFigure [.ref 32, .int (q1.1)] (q1.2)).bind fun q7 => (if q7.1 = 0 then (if ¬ q1.1 = (45 : Int32) then (tb_cI d mX4_kindBySign [.ref 32, .int (q1.1)] (q7.2)).bind fun q61 => (if q61.1 = (-1 : Int32) then (tb_cV d mX4_fail [.ref 32, .int ((q61.2) 32 5)] (q61.2)).bind fun q84 => some ((-1 : Int32), q84) else (if (q61.2) 32 10 ≤ (6 : Int32) then (tb_ix ((q61.2) 32 10) 7).bind fun j101 => (if ¬ q61.1 = (8 : Int32) then (tb_cI d mX4_readComposed [.ref 32, .int (q61.1), .int x1] (tb_up (tb_up (tb_up (q61.2) 35 j101 ((q61.2) 32 5)) 32 10 (((q61.2) 32 10) + (1 : Int32))) 32 5 (((q61.2) 32 5) + (1 : Int32)))).bind fun q138 => tb_E d mX4_readTerm tb_dI 141 [.ref 32, .int x1, .int (q1.1), .int (q61.1), tb_jk] [.int (q138.1)] tb_S (q138.2) else (tb_cI d mX4_readNamed [.ref 32] (tb_up (tb_up (tb_up (q61.2) 35 j101 ((q61.2) 32 5)) 32 10 (((q61.2) 32 10) + (1 : Int32))) 32 5 (((q61.2) 32 5) + (1 : Int32)))).bind fun q129 => tb_E d mX4_readTerm tb_dI 141 [.ref 32, .int x1, .int (q1.1), .int (q61.1), tb_jk] [.int (q129.1)] tb_S (q129.2)) else (tb_cV d mX4_fail [.ref 32, .int ((q61.2) 32 5)] (q61.2)).bind fun q84 => some ((-1 : Int32), q84))) else (tb_cI d mX4_take [.ref 32, .int (1 : Int32), .int (-5 : Int32), .int (-5 : Int32), .int (-5 : Int32), .int (-5 : Int32)] (tb_up (q7.2) 32 5 (((q7.2) 32 5) + (1 : Int32)))).bind fun q55 => some (q55.1, q55.2)) else (tb_cI d mX4_readNumber [.ref 32] (q7.2)).bind fun q16 => (tb_cI d mX4_take [.ref 32, .int (0 : Int32), .int (q16.1), .int (-5 : Int32), .int (-5 : Int32), .int (-5 : Int32)] (q16.2)).bind fun q25 => some (q25.1, q25.2))) = some r) : tb_cI (d + 1) mX4_readTerm [.ref 32, .int x1] S = some r := tb_enI rfl rfl (BX4_readTerm_0 h)
theorem BX4_readTerm_141 {d : Nat} {s0 : Int32} {w1 w2 w3 w4 : Value} {S : tb_St} {r : Int32 × tb_St} (h : ((if ¬ S 32 7 = (-1 : Int32) then some (s0, S) else some (s0, tb_up S 32 10 ((S 32 10) - (1 : Int32))))) = some r) : tb_E d mX4_readTerm tb_dI 141 [.ref 32, w1, w2, w3, w4] [.int s0] tb_S S = some r := by
  refine x_istore (pc' := 143) (ls' := [.ref 32, w1, w2, w3, .int s0]) dX4_readTerm_141 rfl rfl rfl ?_
  refine x_aload_n (pc' := 144) dX4_readTerm_143 rfl rfl ?_
  refine x_getI (pc' := 147) (v := S 32 7) dX4_readTerm_144 rfl lf_4_31 rfl sh_32 rfl ?_
  refine x_iconst (pc' := 148) (w := (-1 : Int32)) dX4_readTerm_147 rfl k_ic_m1 ?_
  by_cases c148 : ¬ S 32 7 = (-1 : Int32)
  · replace h := (if_pos c148).symm.trans h
    refine x_icmp_ne_t (pc' := 161) dX4_readTerm_148 (by decide) c148 ?_
    refine x_iload (pc' := 163) dX4_readTerm_161 rfl rfl ?_
    exact x_iret dX4_readTerm_163 rfl ((tb_dI_ok _ _).trans h)
  · replace h := (if_neg c148).symm.trans h
    refine x_icmp_ne_f (pc' := 151) dX4_readTerm_148 (by decide) rfl c148 ?_
    refine x_aload_n (pc' := 152) dX4_readTerm_151 rfl rfl ?_
    refine x_dup (pc' := 153) dX4_readTerm_152 rfl rfl ?_
    refine x_getI (pc' := 156) (v := S 32 10) dX4_readTerm_153 rfl lf_4_41 rfl sh_32 rfl ?_
    refine x_iconst (pc' := 157) (w := (1 : Int32)) dX4_readTerm_156 rfl k_ic_1 ?_
    refine x_isub (pc' := 158) dX4_readTerm_157 rfl ?_
    refine x_putI (pc' := 161) dX4_readTerm_158 rfl lf_4_41 (Or.inl rfl) sh_32 ?_
    refine x_iload (pc' := 163) dX4_readTerm_161 rfl rfl ?_
    exact x_iret dX4_readTerm_163 rfl ((tb_dI_ok _ _).trans h)
/-! X8_figure () -/
theorem BX8_figure_0 {d : Nat} {x0 x1 : Int32} {w2 w3 : Value} {S : tb_St} {r : Int32 × tb_St} (h : (tb_E d mX8_figure tb_dI 4 [.int x0, .int x1, .int x0, .int (5 : Int32)] [] tb_S S) = some r) : tb_E d mX8_figure tb_dI 0 [.int x0, .int x1, w2, w3] [] tb_S S = some r := by
  refine x_iload_n (pc' := 1) dX8_figure_0 rfl rfl ?_
  refine x_istore_n (pc' := 2) (ls' := [.int x0, .int x1, .int x0, w3]) dX8_figure_1 rfl rfl rfl ?_
  refine x_iconst (pc' := 3) (w := (5 : Int32)) dX8_figure_2 rfl k_ic_5 ?_
  refine x_istore_n (pc' := 4) (ls' := [.int x0, .int x1, .int x0, .int (5 : Int32)]) dX8_figure_3 rfl rfl rfl ?_
  exact h
theorem MX8_figure {d : Nat} {x0 : Int32} {x1 : Int32} {S : tb_St} {r : Int32 × tb_St} (h : (tb_E d mX8_figure tb_dI 4 [.int x0, .int x1, .int x0, .int (5 : Int32)] [] tb_S S) = some r) : tb_cI (d + 1) mX8_figure [.int x0, .int x1] S = some r := tb_enI rfl rfl (BX8_figure_0 h)
theorem BX8_figure_4 {d : Nat} {x1 x2 x3 : Int32} {w0 : Value} {S : tb_St} {r : Int32 × tb_St} (h : ((if x3 ≤ x1 then some (tb_rem x2 (10 : Int32), S) else tb_E d mX8_figure tb_dI 4 [w0, .int x1, .int (x2 / (10 : Int32)), .int (x3 + (-1 : Int32))] [] tb_S S)) = some r) : tb_E d mX8_figure tb_dI 4 [w0, .int x1, .int x2, .int x3] [] tb_S S = some r := by
  refine x_iload_n (pc' := 5) dX8_figure_4 rfl rfl ?_
  refine x_iload_n (pc' := 6) dX8_figure_5 rfl rfl ?_
  by_cases c6 : x3 ≤ x1
  · replace h := (if_pos c6).symm.trans h
    refine x_icmp_le_t (pc' := 20) dX8_figure_6 (by decide) c6 ?_
    refine x_iload_n (pc' := 21) dX8_figure_20 rfl rfl ?_
    refine x_bipush (pc' := 23) (w := (10 : Int32)) dX8_figure_21 rfl k_bi_10 ?_
    refine x_irem (pc' := 24) dX8_figure_23 rfl (by decide) ?_
    exact x_iret dX8_figure_24 rfl ((tb_dI_ok _ _).trans h)
  · replace h := (if_neg c6).symm.trans h
    refine x_icmp_le_f (pc' := 9) dX8_figure_6 (by decide) rfl c6 ?_
    refine x_iload_n (pc' := 10) dX8_figure_9 rfl rfl ?_
    refine x_bipush (pc' := 12) (w := (10 : Int32)) dX8_figure_10 rfl k_bi_10 ?_
    refine x_idiv (pc' := 13) dX8_figure_12 rfl (by decide) ?_
    refine x_istore_n (pc' := 14) (ls' := [w0, .int x1, .int (x2 / (10 : Int32)), .int x3]) dX8_figure_13 rfl rfl rfl ?_
    refine x_iinc (pc' := 17) (w := (-1 : Int32)) (ls' := [w0, .int x1, .int (x2 / (10 : Int32)), .int (x3 + (-1 : Int32))]) dX8_figure_14 rfl rfl k_ic_m1 rfl ?_
    refine x_goto (pc' := 4) dX8_figure_17 (by decide) ?_
    exact h
/-! X7_canBe () -/
theorem BX7_canBe_0 {d : Nat} {x0 x1 x2 : Int32} {w3 w4 : Value} {S : tb_St} {r : Int32 × tb_St} (h : ((if (2 : Int32) ≤ x1 then (if (4 : Int32) ≤ x1 then (if ¬ tb_rem x1 (2 : Int32) = 0 then tb_E d mX7_canBe tb_dI 33 [.int x0, .int x1, .int x2, .int (3 : Int32), w4] [.int x2] tb_S S else tb_E d mX7_canBe tb_dI 33 [.int x0, .int x1, .int x2, .int (3 : Int32), w4] [.int (0 : Int32)] tb_S S) else (if ¬ tb_rem x1 (2 : Int32) = 0 then tb_E d mX7_canBe tb_dI 33 [.int x0, .int x1, .int x2, .int (6 : Int32), w4] [.int x2] tb_S S else tb_E d mX7_canBe tb_dI 33 [.int x0, .int x1, .int x2, .int (6 : Int32), w4] [.int (0 : Int32)] tb_S S)) else (if ¬ tb_rem x1 (2 : Int32) = 0 then tb_E d mX7_canBe tb_dI 33 [.int x0, .int x1, .int x2, .int (7 : Int32), w4] [.int x2] tb_S S else tb_E d mX7_canBe tb_dI 33 [.int x0, .int x1, .int x2, .int (7 : Int32), w4] [.int (0 : Int32)] tb_S S))) = some r) : tb_E d mX7_canBe tb_dI 0 [.int x0, .int x1, .int x2, w3, w4] [] tb_S S = some r := by
  refine x_iload_n (pc' := 1) dX7_canBe_0 rfl rfl ?_
  refine x_iconst (pc' := 2) (w := (2 : Int32)) dX7_canBe_1 rfl k_ic_2 ?_
  by_cases c2 : (2 : Int32) ≤ x1
  · replace h := (if_pos c2).symm.trans h
    refine x_icmp_ge_t (pc' := 10) dX7_canBe_2 (by decide) c2 ?_
    refine x_iload_n (pc' := 11) dX7_canBe_10 rfl rfl ?_
    refine x_iconst (pc' := 12) (w := (4 : Int32)) dX7_canBe_11 rfl k_ic_4 ?_
    by_cases c12 : (4 : Int32) ≤ x1
    · replace h := (if_pos c12).symm.trans h
      refine x_icmp_ge_t (pc' := 20) dX7_canBe_12 (by decide) c12 ?_
      refine x_iconst (pc' := 21) (w := (3 : Int32)) dX7_canBe_20 rfl k_ic_3 ?_
      refine x_istore_n (pc' := 22) (ls' := [.int x0, .int x1, .int x2, .int (3 : Int32), w4]) dX7_canBe_21 rfl rfl rfl ?_
      refine x_iload_n (pc' := 23) dX7_canBe_22 rfl rfl ?_
      refine x_iconst (pc' := 24) (w := (2 : Int32)) dX7_canBe_23 rfl k_ic_2 ?_
      refine x_irem (pc' := 25) dX7_canBe_24 rfl (by decide) ?_
      by_cases c25 : ¬ tb_rem x1 (2 : Int32) = 0
      · replace h := (if_pos c25).symm.trans h
        refine x_if_ne_t (pc' := 32) dX7_canBe_25 (by decide) c25 ?_
        refine x_iload_n (pc' := 33) dX7_canBe_32 rfl rfl ?_
        exact h
      · replace h := (if_neg c25).symm.trans h
        refine x_if_ne_f (pc' := 28) dX7_canBe_25 (by decide) rfl c25 ?_
        refine x_iconst (pc' := 29) (w := (0 : Int32)) dX7_canBe_28 rfl k_ic_0 ?_
        refine x_goto (pc' := 33) dX7_canBe_29 (by decide) ?_
        exact h
    · replace h := (if_neg c12).symm.trans h
      refine x_icmp_ge_f (pc' := 15) dX7_canBe_12 (by decide) rfl c12 ?_
      refine x_bipush (pc' := 17) (w := (6 : Int32)) dX7_canBe_15 rfl k_bi_6 ?_
      refine x_goto (pc' := 21) dX7_canBe_17 (by decide) ?_
      refine x_istore_n (pc' := 22) (ls' := [.int x0, .int x1, .int x2, .int (6 : Int32), w4]) dX7_canBe_21 rfl rfl rfl ?_
      refine x_iload_n (pc' := 23) dX7_canBe_22 rfl rfl ?_
      refine x_iconst (pc' := 24) (w := (2 : Int32)) dX7_canBe_23 rfl k_ic_2 ?_
      refine x_irem (pc' := 25) dX7_canBe_24 rfl (by decide) ?_
      by_cases c25 : ¬ tb_rem x1 (2 : Int32) = 0
      · replace h := (if_pos c25).symm.trans h
        refine x_if_ne_t (pc' := 32) dX7_canBe_25 (by decide) c25 ?_
        refine x_iload_n (pc' := 33) dX7_canBe_32 rfl rfl ?_
        exact h
      · replace h := (if_neg c25).symm.trans h
        refine x_if_ne_f (pc' := 28) dX7_canBe_25 (by decide) rfl c25 ?_
        refine x_iconst (pc' := 29) (w := (0 : Int32)) dX7_canBe_28 rfl k_ic_0 ?_
        refine x_goto (pc' := 33) dX7_canBe_29 (by decide) ?_
        exact h
  · replace h := (if_neg c2).symm.trans h
    refine x_icmp_ge_f (pc' := 5) dX7_canBe_2 (by decide) rfl c2 ?_
    refine x_bipush (pc' := 7) (w := (7 : Int32)) dX7_canBe_5 rfl k_bi_7 ?_
    refine x_goto (pc' := 21) dX7_canBe_7 (by decide) ?_
    refine x_istore_n (pc' := 22) (ls' := [.int x0, .int x1, .int x2, .int (7 : Int32), w4]) dX7_canBe_21 rfl rfl rfl ?_
    refine x_iload_n (pc' := 23) dX7_canBe_22 rfl rfl ?_
    refine x_iconst (pc' := 24) (w := (2 : Int32)) dX7_canBe_23 rfl k_ic_2 ?_
    refine x_irem (pc' := 25) dX7_canBe_24 rfl (by decide) ?_
    by_cases c25 : ¬ tb_rem x1 (2 : Int32) = 0
    · replace h := (if_pos c25).symm.trans h
      refine x_if_ne_t (pc' := 32) dX7_canBe_25 (by decide) c25 ?_
      refine x_iload_n (pc' := 33) dX7_canBe_32 rfl rfl ?_
      exact h
    · replace h := (if_neg c25).symm.trans h
      refine x_if_ne_f (pc' := 28) dX7_canBe_25 (by decide) rfl c25 ?_
      refine x_iconst (pc' := 29) (w := (0 : Int32)) dX7_canBe_28 rfl k_ic_0 ?_
      refine x_goto (pc' := 33) dX7_canBe_29 (by decide) ?_
      exact h
theorem MX7_canBe {d : Nat} {x0 : Int32} {x1 : Int32} {x2 : Int32} {S : tb_St} {r : Int32 × tb_St} (h : ((if (2 : Int32) ≤ x1 then (if (4 : Int32) ≤ x1 then (if ¬ tb_rem x1 (2 : Int32) = 0 then tb_E d mX7_canBe tb_dI 33 [.int x0, .int x1, .int x2, .int (3 : Int32), tb_jk] [.int x2] tb_S S else tb_E d mX7_canBe tb_dI 33 [.int x0, .int x1, .int x2, .int (3 : Int32), tb_jk] [.int (0 : Int32)] tb_S S) else (if ¬ tb_rem x1 (2 : Int32) = 0 then tb_E d mX7_canBe tb_dI 33 [.int x0, .int x1, .int x2, .int (6 : Int32), tb_jk] [.int x2] tb_S S else tb_E d mX7_canBe tb_dI 33 [.int x0, .int x1, .int x2, .int (6 : Int32), tb_jk] [.int (0 : Int32)] tb_S S)) else (if ¬ tb_rem x1 (2 : Int32) = 0 then tb_E d mX7_canBe tb_dI 33 [.int x0, .int x1, .int x2, .int (7 : Int32), tb_jk] [.int x2] tb_S S else tb_E d mX7_canBe tb_dI 33 [.int x0, .int x1, .int x2, .int (7 : Int32), tb_jk] [.int (0 : Int32)] tb_S S))) = some r) : tb_cI (d + 1) mX7_canBe [.int x0, .int x1, .int x2] S = some r := tb_enI rfl rfl (BX7_canBe_0 h)
theorem BX7_canBe_33 {d : Nat} {x0 x3 s0 : Int32} {w1 w2 w4 : Value} {S : tb_St} {r : Int32 × tb_St} (h : ((if x0 < s0 then some ((0 : Int32), S) else (if x3 < x0 then some ((0 : Int32), S) else some ((1 : Int32), S)))) = some r) : tb_E d mX7_canBe tb_dI 33 [.int x0, w1, w2, .int x3, w4] [.int s0] tb_S S = some r := by
  refine x_istore (pc' := 35) (ls' := [.int x0, w1, w2, .int x3, .int s0]) dX7_canBe_33 rfl rfl rfl ?_
  refine x_iload_n (pc' := 36) dX7_canBe_35 rfl rfl ?_
  refine x_iload (pc' := 38) dX7_canBe_36 rfl rfl ?_
  by_cases c38 : x0 < s0
  · replace h := (if_pos c38).symm.trans h
    refine x_icmp_lt_t (pc' := 50) dX7_canBe_38 (by decide) c38 ?_
    refine x_iconst (pc' := 51) (w := (0 : Int32)) dX7_canBe_50 rfl k_ic_0 ?_
    exact x_zret dX7_canBe_51 rfl (Or.inl rfl) ((tb_dI_ok _ _).trans h)
  · replace h := (if_neg c38).symm.trans h
    refine x_icmp_lt_f (pc' := 41) dX7_canBe_38 (by decide) rfl c38 ?_
    refine x_iload_n (pc' := 42) dX7_canBe_41 rfl rfl ?_
    refine x_iload_n (pc' := 43) dX7_canBe_42 rfl rfl ?_
    by_cases c43 : x3 < x0
    · replace h := (if_pos c43).symm.trans h
      refine x_icmp_gt_t (pc' := 50) dX7_canBe_43 (by decide) c43 ?_
      refine x_iconst (pc' := 51) (w := (0 : Int32)) dX7_canBe_50 rfl k_ic_0 ?_
      exact x_zret dX7_canBe_51 rfl (Or.inl rfl) ((tb_dI_ok _ _).trans h)
    · replace h := (if_neg c43).symm.trans h
      refine x_icmp_gt_f (pc' := 46) dX7_canBe_43 (by decide) rfl c43 ?_
      refine x_iconst (pc' := 47) (w := (1 : Int32)) dX7_canBe_46 rfl k_ic_1 ?_
      refine x_goto (pc' := 51) dX7_canBe_47 (by decide) ?_
      exact x_zret dX7_canBe_51 rfl (Or.inr rfl) ((tb_dI_ok _ _).trans h)
/-! X7_figure () -/
theorem BX7_figure_0 {d : Nat} {x0 x1 : Int32} {w2 w3 : Value} {S : tb_St} {r : Int32 × tb_St} (h : (tb_E d mX7_figure tb_dI 4 [.int x0, .int x1, .int x0, .int x1] [] tb_S S) = some r) : tb_E d mX7_figure tb_dI 0 [.int x0, .int x1, w2, w3] [] tb_S S = some r := by
  refine x_iload_n (pc' := 1) dX7_figure_0 rfl rfl ?_
  refine x_istore_n (pc' := 2) (ls' := [.int x0, .int x1, .int x0, w3]) dX7_figure_1 rfl rfl rfl ?_
  refine x_iload_n (pc' := 3) dX7_figure_2 rfl rfl ?_
  refine x_istore_n (pc' := 4) (ls' := [.int x0, .int x1, .int x0, .int x1]) dX7_figure_3 rfl rfl rfl ?_
  exact h
theorem MX7_figure {d : Nat} {x0 : Int32} {x1 : Int32} {S : tb_St} {r : Int32 × tb_St} (h : (tb_E d mX7_figure tb_dI 4 [.int x0, .int x1, .int x0, .int x1] [] tb_S S) = some r) : tb_cI (d + 1) mX7_figure [.int x0, .int x1] S = some r := tb_enI rfl rfl (BX7_figure_0 h)
theorem BX7_figure_4 {d : Nat} {x2 x3 : Int32} {w0 w1 : Value} {S : tb_St} {r : Int32 × tb_St} (h : ((if (5 : Int32) ≤ x3 then some (tb_rem x2 (10 : Int32), S) else tb_E d mX7_figure tb_dI 4 [w0, w1, .int (x2 / (10 : Int32)), .int (x3 + (1 : Int32))] [] tb_S S)) = some r) : tb_E d mX7_figure tb_dI 4 [w0, w1, .int x2, .int x3] [] tb_S S = some r := by
  refine x_iload_n (pc' := 5) dX7_figure_4 rfl rfl ?_
  refine x_iconst (pc' := 6) (w := (5 : Int32)) dX7_figure_5 rfl k_ic_5 ?_
  by_cases c6 : (5 : Int32) ≤ x3
  · replace h := (if_pos c6).symm.trans h
    refine x_icmp_ge_t (pc' := 20) dX7_figure_6 (by decide) c6 ?_
    refine x_iload_n (pc' := 21) dX7_figure_20 rfl rfl ?_
    refine x_bipush (pc' := 23) (w := (10 : Int32)) dX7_figure_21 rfl k_bi_10 ?_
    refine x_irem (pc' := 24) dX7_figure_23 rfl (by decide) ?_
    exact x_iret dX7_figure_24 rfl ((tb_dI_ok _ _).trans h)
  · replace h := (if_neg c6).symm.trans h
    refine x_icmp_ge_f (pc' := 9) dX7_figure_6 (by decide) rfl c6 ?_
    refine x_iload_n (pc' := 10) dX7_figure_9 rfl rfl ?_
    refine x_bipush (pc' := 12) (w := (10 : Int32)) dX7_figure_10 rfl k_bi_10 ?_
    refine x_idiv (pc' := 13) dX7_figure_12 rfl (by decide) ?_
    refine x_istore_n (pc' := 14) (ls' := [w0, w1, .int (x2 / (10 : Int32)), .int x3]) dX7_figure_13 rfl rfl rfl ?_
    refine x_iinc (pc' := 17) (w := (1 : Int32)) (ls' := [w0, w1, .int (x2 / (10 : Int32)), .int (x3 + (1 : Int32))]) dX7_figure_14 rfl rfl k_ic_1 rfl ?_
    refine x_goto (pc' := 4) dX7_figure_17 (by decide) ?_
    exact h
/-! X8_lays (45,) -/
theorem BX8_lays_0 {d : Nat} {x1 x2 x3 x4 x5 x6 : Int32} {w7 : Value} {S : tb_St} {r : tb_St} (h : ((tb_ix x1 96).bind fun j6 => (tb_ix x1 96).bind fun j13 => (tb_ix x1 96).bind fun j21 => (tb_ix x1 96).bind fun j29 => (tb_ix x1 96).bind fun j37 => (if x4 < 0 then tb_E d mX8_lays tb_dV 60 [.ref 45, .int x1, .int x2, .int x3, .int x4, .int x5, .int x6, w7] [.int (0 : Int32), .int (1 : Int32), .int x1, .ref 51] tb_S (tb_up (tb_up (tb_up (tb_up (tb_up S 46 j6 x2) 47 j13 x3) 48 j21 x4) 49 j29 x5) 50 j37 x6) else (tb_ix x4 96).bind fun j55 => tb_E d mX8_lays tb_dV 60 [.ref 45, .int x1, .int x2, .int x3, .int x4, .int x5, .int x6, w7] [.int (S 51 j55), .int (1 : Int32), .int x1, .ref 51] tb_S (tb_up (tb_up (tb_up (tb_up (tb_up S 46 j6 x2) 47 j13 x3) 48 j21 x4) 49 j29 x5) 50 j37 x6))) = some r) : tb_E d mX8_lays tb_dV 0 [.ref 45, .int x1, .int x2, .int x3, .int x4, .int x5, .int x6, w7] [] tb_S S = some r := by
  refine x_aload_n (pc' := 1) dX8_lays_0 rfl rfl ?_
  refine x_getR (pc' := 4) dX8_lays_1 rfl lf_8_9 rfl sh_45 rfl ?_
  refine x_iload_n (pc' := 5) dX8_lays_4 rfl rfl ?_
  refine x_iload_n (pc' := 6) dX8_lays_5 rfl rfl ?_
  obtain ⟨j6, hj6, h⟩ := Option.bind_eq_some_iff.mp h
  refine x_iastore (pc' := 7) dX8_lays_6 rfl sh_46 hj6 ?_
  refine x_aload_n (pc' := 8) dX8_lays_7 rfl rfl ?_
  refine x_getR (pc' := 11) dX8_lays_8 rfl lf_8_15 rfl sh_45 rfl ?_
  refine x_iload_n (pc' := 12) dX8_lays_11 rfl rfl ?_
  refine x_iload_n (pc' := 13) dX8_lays_12 rfl rfl ?_
  obtain ⟨j13, hj13, h⟩ := Option.bind_eq_some_iff.mp h
  refine x_iastore (pc' := 14) dX8_lays_13 rfl sh_47 hj13 ?_
  refine x_aload_n (pc' := 15) dX8_lays_14 rfl rfl ?_
  refine x_getR (pc' := 18) dX8_lays_15 rfl lf_8_18 rfl sh_45 rfl ?_
  refine x_iload_n (pc' := 19) dX8_lays_18 rfl rfl ?_
  refine x_iload (pc' := 21) dX8_lays_19 rfl rfl ?_
  obtain ⟨j21, hj21, h⟩ := Option.bind_eq_some_iff.mp h
  refine x_iastore (pc' := 22) dX8_lays_21 rfl sh_48 hj21 ?_
  refine x_aload_n (pc' := 23) dX8_lays_22 rfl rfl ?_
  refine x_getR (pc' := 26) dX8_lays_23 rfl lf_8_21 rfl sh_45 rfl ?_
  refine x_iload_n (pc' := 27) dX8_lays_26 rfl rfl ?_
  refine x_iload (pc' := 29) dX8_lays_27 rfl rfl ?_
  obtain ⟨j29, hj29, h⟩ := Option.bind_eq_some_iff.mp h
  refine x_iastore (pc' := 30) dX8_lays_29 rfl sh_49 hj29 ?_
  refine x_aload_n (pc' := 31) dX8_lays_30 rfl rfl ?_
  refine x_getR (pc' := 34) dX8_lays_31 rfl lf_8_24 rfl sh_45 rfl ?_
  refine x_iload_n (pc' := 35) dX8_lays_34 rfl rfl ?_
  refine x_iload (pc' := 37) dX8_lays_35 rfl rfl ?_
  obtain ⟨j37, hj37, h⟩ := Option.bind_eq_some_iff.mp h
  refine x_iastore (pc' := 38) dX8_lays_37 rfl sh_50 hj37 ?_
  refine x_aload_n (pc' := 39) dX8_lays_38 rfl rfl ?_
  refine x_getR (pc' := 42) dX8_lays_39 rfl lf_8_27 rfl sh_45 rfl ?_
  refine x_iload_n (pc' := 43) dX8_lays_42 rfl rfl ?_
  refine x_iconst (pc' := 44) (w := (1 : Int32)) dX8_lays_43 rfl k_ic_1 ?_
  refine x_iload (pc' := 46) dX8_lays_44 rfl rfl ?_
  by_cases c46 : x4 < 0
  · replace h := (if_pos c46).symm.trans h
    refine x_if_lt_t (pc' := 59) dX8_lays_46 (by decide) c46 ?_
    refine x_iconst (pc' := 60) (w := (0 : Int32)) dX8_lays_59 rfl k_ic_0 ?_
    exact h
  · replace h := (if_neg c46).symm.trans h
    refine x_if_lt_f (pc' := 49) dX8_lays_46 (by decide) rfl c46 ?_
    refine x_aload_n (pc' := 50) dX8_lays_49 rfl rfl ?_
    refine x_getR (pc' := 53) dX8_lays_50 rfl lf_8_27 rfl sh_45 rfl ?_
    refine x_iload (pc' := 55) dX8_lays_53 rfl rfl ?_
    obtain ⟨j55, hj55, h⟩ := Option.bind_eq_some_iff.mp h
    refine x_iaload (pc' := 56) (v := S 51 j55) dX8_lays_55 rfl sh_51 hj55 rfl ?_
    refine x_goto (pc' := 60) dX8_lays_56 (by decide) ?_
    exact h
theorem MX8_lays {d : Nat} {x1 : Int32} {x2 : Int32} {x3 : Int32} {x4 : Int32} {x5 : Int32} {x6 : Int32} {S : tb_St} {r : tb_St} (h : ((tb_ix x1 96).bind fun j6 => (tb_ix x1 96).bind fun j13 => (tb_ix x1 96).bind fun j21 => (tb_ix x1 96).bind fun j29 => (tb_ix x1 96).bind fun j37 => (if x4 < 0 then tb_E d mX8_lays tb_dV 60 [.ref 45, .int x1, .int x2, .int x3, .int x4, .int x5, .int x6, tb_jk] [.int (0 : Int32), .int (1 : Int32), .int x1, .ref 51] tb_S (tb_up (tb_up (tb_up (tb_up (tb_up S 46 j6 x2) 47 j13 x3) 48 j21 x4) 49 j29 x5) 50 j37 x6) else (tb_ix x4 96).bind fun j55 => tb_E d mX8_lays tb_dV 60 [.ref 45, .int x1, .int x2, .int x3, .int x4, .int x5, .int x6, tb_jk] [.int (S 51 j55), .int (1 : Int32), .int x1, .ref 51] tb_S (tb_up (tb_up (tb_up (tb_up (tb_up S 46 j6 x2) 47 j13 x3) 48 j21 x4) 49 j29 x5) 50 j37 x6))) = some r) : tb_cV (d + 1) mX8_lays [.ref 45, .int x1, .int x2, .int x3, .int x4, .int x5, .int x6] S = some r := tb_enV rfl rfl (BX8_lays_0 h)
theorem BX8_lays_60 {d : Nat} {x1 x4 x5 s0 s1 s2 : Int32} {w2 w3 w6 w7 : Value} {S : tb_St} {r : tb_St} (h : ((if x5 < 0 then tb_E d mX8_lays tb_dV 77 [.ref 45, .int x1, w2, w3, .int x4, .int x5, w6, w7] [.int (0 : Int32), .int (s1 + s0), .int s2, .ref 51] tb_S S else (tb_ix x5 96).bind fun j72 => tb_E d mX8_lays tb_dV 77 [.ref 45, .int x1, w2, w3, .int x4, .int x5, w6, w7] [.int (S 51 j72), .int (s1 + s0), .int s2, .ref 51] tb_S S)) = some r) : tb_E d mX8_lays tb_dV 60 [.ref 45, .int x1, w2, w3, .int x4, .int x5, w6, w7] [.int s0, .int s1, .int s2, .ref 51] tb_S S = some r := by
  refine x_iadd (pc' := 61) dX8_lays_60 rfl ?_
  refine x_iload (pc' := 63) dX8_lays_61 rfl rfl ?_
  by_cases c63 : x5 < 0
  · replace h := (if_pos c63).symm.trans h
    refine x_if_lt_t (pc' := 76) dX8_lays_63 (by decide) c63 ?_
    refine x_iconst (pc' := 77) (w := (0 : Int32)) dX8_lays_76 rfl k_ic_0 ?_
    exact h
  · replace h := (if_neg c63).symm.trans h
    refine x_if_lt_f (pc' := 66) dX8_lays_63 (by decide) rfl c63 ?_
    refine x_aload_n (pc' := 67) dX8_lays_66 rfl rfl ?_
    refine x_getR (pc' := 70) dX8_lays_67 rfl lf_8_27 rfl sh_45 rfl ?_
    refine x_iload (pc' := 72) dX8_lays_70 rfl rfl ?_
    obtain ⟨j72, hj72, h⟩ := Option.bind_eq_some_iff.mp h
    refine x_iaload (pc' := 73) (v := S 51 j72) dX8_lays_72 rfl sh_51 hj72 rfl ?_
    refine x_goto (pc' := 77) dX8_lays_73 (by decide) ?_
    exact h
theorem BX8_lays_77 {d : Nat} {x1 x4 x5 s0 s1 s2 : Int32} {w2 w3 w6 w7 : Value} {S : tb_St} {r : tb_St} (h : ((tb_ix s2 96).bind fun j78 => (if x4 < 0 then tb_E d mX8_lays tb_dV 95 [.ref 45, .int x1, w2, w3, .int x4, .int x5, w6, w7] [.int (-1 : Int32)] tb_S (tb_up S 51 j78 (s1 + s0)) else (tb_ix x4 96).bind fun j90 => tb_E d mX8_lays tb_dV 95 [.ref 45, .int x1, w2, w3, .int x4, .int x5, w6, w7] [.int (S 52 j90)] tb_S (tb_up S 51 j78 (s1 + s0)))) = some r) : tb_E d mX8_lays tb_dV 77 [.ref 45, .int x1, w2, w3, .int x4, .int x5, w6, w7] [.int s0, .int s1, .int s2, .ref 51] tb_S S = some r := by
  refine x_iadd (pc' := 78) dX8_lays_77 rfl ?_
  obtain ⟨j78, hj78, h⟩ := Option.bind_eq_some_iff.mp h
  refine x_iastore (pc' := 79) dX8_lays_78 rfl sh_51 hj78 ?_
  refine x_iload (pc' := 81) dX8_lays_79 rfl rfl ?_
  by_cases c81 : x4 < 0
  · replace h := (if_pos c81).symm.trans h
    refine x_if_lt_t (pc' := 94) dX8_lays_81 (by decide) c81 ?_
    refine x_iconst (pc' := 95) (w := (-1 : Int32)) dX8_lays_94 rfl k_ic_m1 ?_
    exact h
  · replace h := (if_neg c81).symm.trans h
    refine x_if_lt_f (pc' := 84) dX8_lays_81 (by decide) rfl c81 ?_
    refine x_aload_n (pc' := 85) dX8_lays_84 rfl rfl ?_
    refine x_getR (pc' := 88) dX8_lays_85 rfl lf_8_30 rfl sh_45 rfl ?_
    refine x_iload (pc' := 90) dX8_lays_88 rfl rfl ?_
    obtain ⟨j90, hj90, h⟩ := Option.bind_eq_some_iff.mp h
    refine x_iaload (pc' := 91) (v := S 52 j90) dX8_lays_90 rfl sh_52 hj90 rfl ?_
    refine x_goto (pc' := 95) dX8_lays_91 (by decide) ?_
    exact h
theorem BX8_lays_95 {d : Nat} {x1 x5 s0 : Int32} {w2 w3 w4 w6 w7 : Value} {S : tb_St} {r : tb_St} (h : ((if x5 < 0 then (tb_ix x1 96).bind fun j125 => some (tb_up S 52 j125 ((tb_max s0 (-1 : Int32)) + (1 : Int32))) else (tb_ix x5 96).bind fun j106 => (tb_ix x1 96).bind fun j125 => some (tb_up S 52 j125 ((tb_max s0 (S 52 j106)) + (1 : Int32))))) = some r) : tb_E d mX8_lays tb_dV 95 [.ref 45, .int x1, w2, w3, w4, .int x5, w6, w7] [.int s0] tb_S S = some r := by
  refine x_iload (pc' := 97) dX8_lays_95 rfl rfl ?_
  by_cases c97 : x5 < 0
  · replace h := (if_pos c97).symm.trans h
    refine x_if_lt_t (pc' := 110) dX8_lays_97 (by decide) c97 ?_
    refine x_iconst (pc' := 111) (w := (-1 : Int32)) dX8_lays_110 rfl k_ic_m1 ?_
    refine x_mm (pc' := 114) (w := tb_max s0 (-1 : Int32)) dX8_lays_111 rfl ln_8_96 lx_8_96 rfl rfl ?_
    refine x_istore (pc' := 116) (ls' := [.ref 45, .int x1, w2, w3, w4, .int x5, w6, .int (tb_max s0 (-1 : Int32))]) dX8_lays_114 rfl rfl rfl ?_
    refine x_aload_n (pc' := 117) dX8_lays_116 rfl rfl ?_
    refine x_getR (pc' := 120) dX8_lays_117 rfl lf_8_30 rfl sh_45 rfl ?_
    refine x_iload_n (pc' := 121) dX8_lays_120 rfl rfl ?_
    refine x_iload (pc' := 123) dX8_lays_121 rfl rfl ?_
    refine x_iconst (pc' := 124) (w := (1 : Int32)) dX8_lays_123 rfl k_ic_1 ?_
    refine x_iadd (pc' := 125) dX8_lays_124 rfl ?_
    obtain ⟨j125, hj125, h⟩ := Option.bind_eq_some_iff.mp h
    refine x_iastore (pc' := 126) dX8_lays_125 rfl sh_52 hj125 ?_
    exact x_vret dX8_lays_126 rfl ((tb_dV_ok _).trans h)
  · replace h := (if_neg c97).symm.trans h
    refine x_if_lt_f (pc' := 100) dX8_lays_97 (by decide) rfl c97 ?_
    refine x_aload_n (pc' := 101) dX8_lays_100 rfl rfl ?_
    refine x_getR (pc' := 104) dX8_lays_101 rfl lf_8_30 rfl sh_45 rfl ?_
    refine x_iload (pc' := 106) dX8_lays_104 rfl rfl ?_
    obtain ⟨j106, hj106, h⟩ := Option.bind_eq_some_iff.mp h
    refine x_iaload (pc' := 107) (v := S 52 j106) dX8_lays_106 rfl sh_52 hj106 rfl ?_
    refine x_goto (pc' := 111) dX8_lays_107 (by decide) ?_
    refine x_mm (pc' := 114) (w := tb_max s0 (S 52 j106)) dX8_lays_111 rfl ln_8_96 lx_8_96 rfl rfl ?_
    refine x_istore (pc' := 116) (ls' := [.ref 45, .int x1, w2, w3, w4, .int x5, w6, .int (tb_max s0 (S 52 j106))]) dX8_lays_114 rfl rfl rfl ?_
    refine x_aload_n (pc' := 117) dX8_lays_116 rfl rfl ?_
    refine x_getR (pc' := 120) dX8_lays_117 rfl lf_8_30 rfl sh_45 rfl ?_
    refine x_iload_n (pc' := 121) dX8_lays_120 rfl rfl ?_
    refine x_iload (pc' := 123) dX8_lays_121 rfl rfl ?_
    refine x_iconst (pc' := 124) (w := (1 : Int32)) dX8_lays_123 rfl k_ic_1 ?_
    refine x_iadd (pc' := 125) dX8_lays_124 rfl ?_
    obtain ⟨j125, hj125, h⟩ := Option.bind_eq_some_iff.mp h
    refine x_iastore (pc' := 126) dX8_lays_125 rfl sh_52 hj125 ?_
    exact x_vret dX8_lays_126 rfl ((tb_dV_ok _).trans h)
/-! X5_depthOf (2,) -/
theorem BX5_depthOf_0 {d : Nat} {x1 : Int32} {S : tb_St} {r : Int32 × tb_St} (h : ((tb_cI d mX5_has [.ref 2, .int x1] S).bind fun q2 => (if q2.1 = 0 then some ((-1 : Int32), q2.2) else (tb_ix x1 24).bind fun j13 => some ((q2.2) 9 j13, q2.2))) = some r) : tb_E d mX5_depthOf tb_dI 0 [.ref 2, .int x1] [] tb_S S = some r := by
  refine x_aload_n (pc' := 1) dX5_depthOf_0 rfl rfl ?_
  refine x_iload_n (pc' := 2) dX5_depthOf_1 rfl rfl ?_
  obtain ⟨q2, hq2, h⟩ := Option.bind_eq_some_iff.mp h
  refine x_virtI (pc' := 5) (o := 2) (as := [.int x1]) (rest := []) dX5_depthOf_2 rfl lm_5_50 rfl rfl rfl sh_2 rfl hq2 ?_
  by_cases c5 : q2.1 = 0
  · replace h := (if_pos c5).symm.trans h
    refine x_if_eq_t (pc' := 17) dX5_depthOf_5 (by decide) c5 ?_
    refine x_iconst (pc' := 18) (w := (-1 : Int32)) dX5_depthOf_17 rfl k_ic_m1 ?_
    exact x_iret dX5_depthOf_18 rfl ((tb_dI_ok _ _).trans h)
  · replace h := (if_neg c5).symm.trans h
    refine x_if_eq_f (pc' := 8) dX5_depthOf_5 (by decide) rfl c5 ?_
    refine x_aload_n (pc' := 9) dX5_depthOf_8 rfl rfl ?_
    refine x_getR (pc' := 12) dX5_depthOf_9 rfl lf_5_30 rfl sh_2 rfl ?_
    refine x_iload_n (pc' := 13) dX5_depthOf_12 rfl rfl ?_
    obtain ⟨j13, hj13, h⟩ := Option.bind_eq_some_iff.mp h
    refine x_iaload (pc' := 14) (v := (q2.2) 9 j13) dX5_depthOf_13 rfl sh_9 hj13 rfl ?_
    refine x_goto (pc' := 18) dX5_depthOf_14 (by decide) ?_
    exact x_iret dX5_depthOf_18 rfl ((tb_dI_ok _ _).trans h)
theorem MX5_depthOf {d : Nat} {x1 : Int32} {S : tb_St} {r : Int32 × tb_St} (h : ((tb_cI d mX5_has [.ref 2, .int x1] S).bind fun q2 => (if q2.1 = 0 then some ((-1 : Int32), q2.2) else (tb_ix x1 24).bind fun j13 => some ((q2.2) 9 j13, q2.2))) = some r) : tb_cI (d + 1) mX5_depthOf [.ref 2, .int x1] S = some r := tb_enI rfl rfl (BX5_depthOf_0 h)
/-! X5_sizeOf (2,) -/
theorem BX5_sizeOf_0 {d : Nat} {x1 : Int32} {S : tb_St} {r : Int32 × tb_St} (h : ((tb_cI d mX5_has [.ref 2, .int x1] S).bind fun q2 => (if q2.1 = 0 then some ((0 : Int32), q2.2) else (tb_ix x1 24).bind fun j13 => some ((q2.2) 8 j13, q2.2))) = some r) : tb_E d mX5_sizeOf tb_dI 0 [.ref 2, .int x1] [] tb_S S = some r := by
  refine x_aload_n (pc' := 1) dX5_sizeOf_0 rfl rfl ?_
  refine x_iload_n (pc' := 2) dX5_sizeOf_1 rfl rfl ?_
  obtain ⟨q2, hq2, h⟩ := Option.bind_eq_some_iff.mp h
  refine x_virtI (pc' := 5) (o := 2) (as := [.int x1]) (rest := []) dX5_sizeOf_2 rfl lm_5_50 rfl rfl rfl sh_2 rfl hq2 ?_
  by_cases c5 : q2.1 = 0
  · replace h := (if_pos c5).symm.trans h
    refine x_if_eq_t (pc' := 17) dX5_sizeOf_5 (by decide) c5 ?_
    refine x_iconst (pc' := 18) (w := (0 : Int32)) dX5_sizeOf_17 rfl k_ic_0 ?_
    exact x_iret dX5_sizeOf_18 rfl ((tb_dI_ok _ _).trans h)
  · replace h := (if_neg c5).symm.trans h
    refine x_if_eq_f (pc' := 8) dX5_sizeOf_5 (by decide) rfl c5 ?_
    refine x_aload_n (pc' := 9) dX5_sizeOf_8 rfl rfl ?_
    refine x_getR (pc' := 12) dX5_sizeOf_9 rfl lf_5_27 rfl sh_2 rfl ?_
    refine x_iload_n (pc' := 13) dX5_sizeOf_12 rfl rfl ?_
    obtain ⟨j13, hj13, h⟩ := Option.bind_eq_some_iff.mp h
    refine x_iaload (pc' := 14) (v := (q2.2) 8 j13) dX5_sizeOf_13 rfl sh_8 hj13 rfl ?_
    refine x_goto (pc' := 18) dX5_sizeOf_14 (by decide) ?_
    exact x_iret dX5_sizeOf_18 rfl ((tb_dI_ok _ _).trans h)
theorem MX5_sizeOf {d : Nat} {x1 : Int32} {S : tb_St} {r : Int32 × tb_St} (h : ((tb_cI d mX5_has [.ref 2, .int x1] S).bind fun q2 => (if q2.1 = 0 then some ((0 : Int32), q2.2) else (tb_ix x1 24).bind fun j13 => some ((q2.2) 8 j13, q2.2))) = some r) : tb_cI (d + 1) mX5_sizeOf [.ref 2, .int x1] S = some r := tb_enI rfl rfl (BX5_sizeOf_0 h)
/-! X5_greatestSize (2,) -/
theorem BX5_greatestSize_0 {d : Nat} {w1 w2 : Value} {S : tb_St} {r : Int32 × tb_St} (h : (tb_E d mX5_greatestSize tb_dI 4 [.ref 2, .int (0 : Int32), .int (0 : Int32)] [] tb_S S) = some r) : tb_E d mX5_greatestSize tb_dI 0 [.ref 2, w1, w2] [] tb_S S = some r := by
  refine x_iconst (pc' := 1) (w := (0 : Int32)) dX5_greatestSize_0 rfl k_ic_0 ?_
  refine x_istore_n (pc' := 2) (ls' := [.ref 2, .int (0 : Int32), w2]) dX5_greatestSize_1 rfl rfl rfl ?_
  refine x_iconst (pc' := 3) (w := (0 : Int32)) dX5_greatestSize_2 rfl k_ic_0 ?_
  refine x_istore_n (pc' := 4) (ls' := [.ref 2, .int (0 : Int32), .int (0 : Int32)]) dX5_greatestSize_3 rfl rfl rfl ?_
  exact h
theorem MX5_greatestSize {d : Nat} {S : tb_St} {r : Int32 × tb_St} (h : (tb_E d mX5_greatestSize tb_dI 4 [.ref 2, .int (0 : Int32), .int (0 : Int32)] [] tb_S S) = some r) : tb_cI (d + 1) mX5_greatestSize [.ref 2] S = some r := tb_enI rfl rfl (BX5_greatestSize_0 h)
theorem BX5_greatestSize_4 {d : Nat} {x1 x2 : Int32} {S : tb_St} {r : Int32 × tb_St} (h : ((if S 2 7 ≤ x2 then some (x1, S) else (tb_ix x2 24).bind fun j18 => tb_E d mX5_greatestSize tb_dI 4 [.ref 2, .int (tb_max x1 (S 8 j18)), .int (x2 + (1 : Int32))] [] tb_S S)) = some r) : tb_E d mX5_greatestSize tb_dI 4 [.ref 2, .int x1, .int x2] [] tb_S S = some r := by
  refine x_iload_n (pc' := 5) dX5_greatestSize_4 rfl rfl ?_
  refine x_aload_n (pc' := 6) dX5_greatestSize_5 rfl rfl ?_
  refine x_getI (pc' := 9) (v := S 2 7) dX5_greatestSize_6 rfl lf_5_33 rfl sh_2 rfl ?_
  by_cases c9 : S 2 7 ≤ x2
  · replace h := (if_pos c9).symm.trans h
    refine x_icmp_ge_t (pc' := 29) dX5_greatestSize_9 (by decide) c9 ?_
    refine x_iload_n (pc' := 30) dX5_greatestSize_29 rfl rfl ?_
    exact x_iret dX5_greatestSize_30 rfl ((tb_dI_ok _ _).trans h)
  · replace h := (if_neg c9).symm.trans h
    refine x_icmp_ge_f (pc' := 12) dX5_greatestSize_9 (by decide) rfl c9 ?_
    refine x_iload_n (pc' := 13) dX5_greatestSize_12 rfl rfl ?_
    refine x_aload_n (pc' := 14) dX5_greatestSize_13 rfl rfl ?_
    refine x_getR (pc' := 17) dX5_greatestSize_14 rfl lf_5_27 rfl sh_2 rfl ?_
    refine x_iload_n (pc' := 18) dX5_greatestSize_17 rfl rfl ?_
    obtain ⟨j18, hj18, h⟩ := Option.bind_eq_some_iff.mp h
    refine x_iaload (pc' := 19) (v := S 8 j18) dX5_greatestSize_18 rfl sh_8 hj18 rfl ?_
    refine x_mm (pc' := 22) (w := tb_max x1 (S 8 j18)) dX5_greatestSize_19 rfl ln_5_44 lx_5_44 rfl rfl ?_
    refine x_istore_n (pc' := 23) (ls' := [.ref 2, .int (tb_max x1 (S 8 j18)), .int x2]) dX5_greatestSize_22 rfl rfl rfl ?_
    refine x_iinc (pc' := 26) (w := (1 : Int32)) (ls' := [.ref 2, .int (tb_max x1 (S 8 j18)), .int (x2 + (1 : Int32))]) dX5_greatestSize_23 rfl rfl k_ic_1 rfl ?_
    refine x_goto (pc' := 4) dX5_greatestSize_26 (by decide) ?_
    exact h
/-! X5_countOf (2,) -/
theorem BX5_countOf_0 {d : Nat} {x1 : Int32} {w2 w3 : Value} {S : tb_St} {r : Int32 × tb_St} (h : (tb_E d mX5_countOf tb_dI 4 [.ref 2, .int x1, .int (0 : Int32), .int (0 : Int32)] [] tb_S S) = some r) : tb_E d mX5_countOf tb_dI 0 [.ref 2, .int x1, w2, w3] [] tb_S S = some r := by
  refine x_iconst (pc' := 1) (w := (0 : Int32)) dX5_countOf_0 rfl k_ic_0 ?_
  refine x_istore_n (pc' := 2) (ls' := [.ref 2, .int x1, .int (0 : Int32), w3]) dX5_countOf_1 rfl rfl rfl ?_
  refine x_iconst (pc' := 3) (w := (0 : Int32)) dX5_countOf_2 rfl k_ic_0 ?_
  refine x_istore_n (pc' := 4) (ls' := [.ref 2, .int x1, .int (0 : Int32), .int (0 : Int32)]) dX5_countOf_3 rfl rfl rfl ?_
  exact h
theorem MX5_countOf {d : Nat} {x1 : Int32} {S : tb_St} {r : Int32 × tb_St} (h : (tb_E d mX5_countOf tb_dI 4 [.ref 2, .int x1, .int (0 : Int32), .int (0 : Int32)] [] tb_S S) = some r) : tb_cI (d + 1) mX5_countOf [.ref 2, .int x1] S = some r := tb_enI rfl rfl (BX5_countOf_0 h)
theorem BX5_countOf_4 {d : Nat} {x1 x2 x3 : Int32} {S : tb_St} {r : Int32 × tb_St} (h : ((if S 2 7 ≤ x3 then some (x2, S) else (tb_ix x3 24).bind fun j17 => (if ¬ S 3 j17 = x1 then tb_E d mX5_countOf tb_dI 4 [.ref 2, .int x1, .int x2, .int (x3 + (1 : Int32))] [] tb_S S else tb_E d mX5_countOf tb_dI 4 [.ref 2, .int x1, .int (x2 + (1 : Int32)), .int (x3 + (1 : Int32))] [] tb_S S))) = some r) : tb_E d mX5_countOf tb_dI 4 [.ref 2, .int x1, .int x2, .int x3] [] tb_S S = some r := by
  refine x_iload_n (pc' := 5) dX5_countOf_4 rfl rfl ?_
  refine x_aload_n (pc' := 6) dX5_countOf_5 rfl rfl ?_
  refine x_getI (pc' := 9) (v := S 2 7) dX5_countOf_6 rfl lf_5_33 rfl sh_2 rfl ?_
  by_cases c9 : S 2 7 ≤ x3
  · replace h := (if_pos c9).symm.trans h
    refine x_icmp_ge_t (pc' := 31) dX5_countOf_9 (by decide) c9 ?_
    refine x_iload_n (pc' := 32) dX5_countOf_31 rfl rfl ?_
    exact x_iret dX5_countOf_32 rfl ((tb_dI_ok _ _).trans h)
  · replace h := (if_neg c9).symm.trans h
    refine x_icmp_ge_f (pc' := 12) dX5_countOf_9 (by decide) rfl c9 ?_
    refine x_aload_n (pc' := 13) dX5_countOf_12 rfl rfl ?_
    refine x_getR (pc' := 16) dX5_countOf_13 rfl lf_5_9 rfl sh_2 rfl ?_
    refine x_iload_n (pc' := 17) dX5_countOf_16 rfl rfl ?_
    obtain ⟨j17, hj17, h⟩ := Option.bind_eq_some_iff.mp h
    refine x_iaload (pc' := 18) (v := S 3 j17) dX5_countOf_17 rfl sh_3 hj17 rfl ?_
    refine x_iload_n (pc' := 19) dX5_countOf_18 rfl rfl ?_
    by_cases c19 : ¬ S 3 j17 = x1
    · replace h := (if_pos c19).symm.trans h
      refine x_icmp_ne_t (pc' := 25) dX5_countOf_19 (by decide) c19 ?_
      refine x_iinc (pc' := 28) (w := (1 : Int32)) (ls' := [.ref 2, .int x1, .int x2, .int (x3 + (1 : Int32))]) dX5_countOf_25 rfl rfl k_ic_1 rfl ?_
      refine x_goto (pc' := 4) dX5_countOf_28 (by decide) ?_
      exact h
    · replace h := (if_neg c19).symm.trans h
      refine x_icmp_ne_f (pc' := 22) dX5_countOf_19 (by decide) rfl c19 ?_
      refine x_iinc (pc' := 25) (w := (1 : Int32)) (ls' := [.ref 2, .int x1, .int (x2 + (1 : Int32)), .int x3]) dX5_countOf_22 rfl rfl k_ic_1 rfl ?_
      refine x_iinc (pc' := 28) (w := (1 : Int32)) (ls' := [.ref 2, .int x1, .int (x2 + (1 : Int32)), .int (x3 + (1 : Int32))]) dX5_countOf_25 rfl rfl k_ic_1 rfl ?_
      refine x_goto (pc' := 4) dX5_countOf_28 (by decide) ?_
      exact h
/-! X1_copyFrom_2 (10, 21) -/
theorem BX1_copyFrom_2_0 {d : Nat} {w2 : Value} {S : tb_St} {r : tb_St} (h : (tb_E d mX1_copyFrom tb_dV 10 [.ref 10, .ref 21, .int (0 : Int32)] [] tb_S (tb_up S 10 2 (S 21 2))) = some r) : tb_E d mX1_copyFrom tb_dV 0 [.ref 10, .ref 21, w2] [] tb_S S = some r := by
  refine x_aload_n (pc' := 1) dX1_copyFrom_0 rfl rfl ?_
  refine x_aload_n (pc' := 2) dX1_copyFrom_1 rfl rfl ?_
  refine x_getI (pc' := 5) (v := S 21 2) dX1_copyFrom_2 rfl lf_1_18 rfl sh_21 rfl ?_
  refine x_putI (pc' := 8) dX1_copyFrom_5 rfl lf_1_18 (Or.inl rfl) sh_10 ?_
  refine x_iconst (pc' := 9) (w := (0 : Int32)) dX1_copyFrom_8 rfl k_ic_0 ?_
  refine x_istore_n (pc' := 10) (ls' := [.ref 10, .ref 21, .int (0 : Int32)]) dX1_copyFrom_9 rfl rfl rfl ?_
  exact h
theorem MX1_copyFrom_2 {d : Nat} {S : tb_St} {r : tb_St} (h : (tb_E d mX1_copyFrom tb_dV 10 [.ref 10, .ref 21, .int (0 : Int32)] [] tb_S (tb_up S 10 2 (S 21 2))) = some r) : tb_cV (d + 1) mX1_copyFrom [.ref 10, .ref 21] S = some r := tb_enV rfl rfl (BX1_copyFrom_2_0 h)
theorem BX1_copyFrom_2_10 {d : Nat} {x2 : Int32} {S : tb_St} {r : tb_St} (h : ((if S 10 2 ≤ x2 then some S else (tb_ix x2 8).bind fun j28 => (tb_ix x2 8).bind fun j29 => (tb_ix x2 8).bind fun j40 => (tb_ix x2 8).bind fun j41 => tb_E d mX1_copyFrom tb_dV 10 [.ref 10, .ref 21, .int (x2 + (1 : Int32))] [] tb_S (tb_up (tb_up S 11 j29 (S 22 j28)) 12 j41 (S 23 j40)))) = some r) : tb_E d mX1_copyFrom tb_dV 10 [.ref 10, .ref 21, .int x2] [] tb_S S = some r := by
  refine x_iload_n (pc' := 11) dX1_copyFrom_10 rfl rfl ?_
  refine x_aload_n (pc' := 12) dX1_copyFrom_11 rfl rfl ?_
  refine x_getI (pc' := 15) (v := S 10 2) dX1_copyFrom_12 rfl lf_1_18 rfl sh_10 rfl ?_
  by_cases c15 : S 10 2 ≤ x2
  · replace h := (if_pos c15).symm.trans h
    refine x_icmp_ge_t (pc' := 48) dX1_copyFrom_15 (by decide) c15 ?_
    exact x_vret dX1_copyFrom_48 rfl ((tb_dV_ok _).trans h)
  · replace h := (if_neg c15).symm.trans h
    refine x_icmp_ge_f (pc' := 18) dX1_copyFrom_15 (by decide) rfl c15 ?_
    refine x_aload_n (pc' := 19) dX1_copyFrom_18 rfl rfl ?_
    refine x_getR (pc' := 22) dX1_copyFrom_19 rfl lf_1_9 rfl sh_10 rfl ?_
    refine x_iload_n (pc' := 23) dX1_copyFrom_22 rfl rfl ?_
    refine x_aload_n (pc' := 24) dX1_copyFrom_23 rfl rfl ?_
    refine x_getR (pc' := 27) dX1_copyFrom_24 rfl lf_1_9 rfl sh_21 rfl ?_
    refine x_iload_n (pc' := 28) dX1_copyFrom_27 rfl rfl ?_
    obtain ⟨j28, hj28, h⟩ := Option.bind_eq_some_iff.mp h
    refine x_iaload (pc' := 29) (v := S 22 j28) dX1_copyFrom_28 rfl sh_22 hj28 rfl ?_
    obtain ⟨j29, hj29, h⟩ := Option.bind_eq_some_iff.mp h
    refine x_iastore (pc' := 30) dX1_copyFrom_29 rfl sh_11 hj29 ?_
    refine x_aload_n (pc' := 31) dX1_copyFrom_30 rfl rfl ?_
    refine x_getR (pc' := 34) dX1_copyFrom_31 rfl lf_1_15 rfl sh_10 rfl ?_
    refine x_iload_n (pc' := 35) dX1_copyFrom_34 rfl rfl ?_
    refine x_aload_n (pc' := 36) dX1_copyFrom_35 rfl rfl ?_
    refine x_getR (pc' := 39) dX1_copyFrom_36 rfl lf_1_15 rfl sh_21 rfl ?_
    refine x_iload_n (pc' := 40) dX1_copyFrom_39 rfl rfl ?_
    obtain ⟨j40, hj40, h⟩ := Option.bind_eq_some_iff.mp h
    refine x_iaload (pc' := 41) (v := S 23 j40) dX1_copyFrom_40 rfl sh_23 hj40 rfl ?_
    obtain ⟨j41, hj41, h⟩ := Option.bind_eq_some_iff.mp h
    refine x_iastore (pc' := 42) dX1_copyFrom_41 rfl sh_12 hj41 ?_
    refine x_iinc (pc' := 45) (w := (1 : Int32)) (ls' := [.ref 10, .ref 21, .int (x2 + (1 : Int32))]) dX1_copyFrom_42 rfl rfl k_ic_1 rfl ?_
    refine x_goto (pc' := 10) dX1_copyFrom_45 (by decide) ?_
    exact h
/-! X5_copyFrom_2 (2, 13) -/
theorem BX5_copyFrom_2_0 {d : Nat} {w2 : Value} {S : tb_St} {r : tb_St} (h : (tb_E d mX5_copyFrom tb_dV 10 [.ref 2, .ref 13, .int (0 : Int32)] [] tb_S (tb_up S 2 7 (S 13 7))) = some r) : tb_E d mX5_copyFrom tb_dV 0 [.ref 2, .ref 13, w2] [] tb_S S = some r := by
  refine x_aload_n (pc' := 1) dX5_copyFrom_0 rfl rfl ?_
  refine x_aload_n (pc' := 2) dX5_copyFrom_1 rfl rfl ?_
  refine x_getI (pc' := 5) (v := S 13 7) dX5_copyFrom_2 rfl lf_5_33 rfl sh_13 rfl ?_
  refine x_putI (pc' := 8) dX5_copyFrom_5 rfl lf_5_33 (Or.inl rfl) sh_2 ?_
  refine x_iconst (pc' := 9) (w := (0 : Int32)) dX5_copyFrom_8 rfl k_ic_0 ?_
  refine x_istore_n (pc' := 10) (ls' := [.ref 2, .ref 13, .int (0 : Int32)]) dX5_copyFrom_9 rfl rfl rfl ?_
  exact h
theorem MX5_copyFrom_2 {d : Nat} {S : tb_St} {r : tb_St} (h : (tb_E d mX5_copyFrom tb_dV 10 [.ref 2, .ref 13, .int (0 : Int32)] [] tb_S (tb_up S 2 7 (S 13 7))) = some r) : tb_cV (d + 1) mX5_copyFrom [.ref 2, .ref 13] S = some r := tb_enV rfl rfl (BX5_copyFrom_2_0 h)
theorem BX5_copyFrom_2_10 {d : Nat} {x2 : Int32} {S : tb_St} {r : tb_St} (h : ((if S 2 7 ≤ x2 then some S else (tb_ix x2 24).bind fun j28 => (tb_ix x2 24).bind fun j29 => (tb_ix x2 24).bind fun j40 => (tb_ix x2 24).bind fun j41 => (tb_ix x2 24).bind fun j52 => (tb_ix x2 24).bind fun j53 => (tb_ix x2 24).bind fun j64 => (tb_ix x2 24).bind fun j65 => (tb_ix x2 24).bind fun j76 => (tb_ix x2 24).bind fun j77 => (tb_ix x2 24).bind fun j88 => (tb_ix x2 24).bind fun j89 => (tb_ix x2 24).bind fun j100 => (tb_ix x2 24).bind fun j101 => tb_E d mX5_copyFrom tb_dV 10 [.ref 2, .ref 13, .int (x2 + (1 : Int32))] [] tb_S (tb_up (tb_up (tb_up (tb_up (tb_up (tb_up (tb_up S 3 j29 (S 14 j28)) 4 j41 (S 15 j40)) 5 j53 (S 16 j52)) 6 j65 (S 17 j64)) 7 j77 (S 18 j76)) 8 j89 (S 19 j88)) 9 j101 (S 20 j100)))) = some r) : tb_E d mX5_copyFrom tb_dV 10 [.ref 2, .ref 13, .int x2] [] tb_S S = some r := by
  refine x_iload_n (pc' := 11) dX5_copyFrom_10 rfl rfl ?_
  refine x_aload_n (pc' := 12) dX5_copyFrom_11 rfl rfl ?_
  refine x_getI (pc' := 15) (v := S 2 7) dX5_copyFrom_12 rfl lf_5_33 rfl sh_2 rfl ?_
  by_cases c15 : S 2 7 ≤ x2
  · replace h := (if_pos c15).symm.trans h
    refine x_icmp_ge_t (pc' := 108) dX5_copyFrom_15 (by decide) c15 ?_
    exact x_vret dX5_copyFrom_108 rfl ((tb_dV_ok _).trans h)
  · replace h := (if_neg c15).symm.trans h
    refine x_icmp_ge_f (pc' := 18) dX5_copyFrom_15 (by decide) rfl c15 ?_
    refine x_aload_n (pc' := 19) dX5_copyFrom_18 rfl rfl ?_
    refine x_getR (pc' := 22) dX5_copyFrom_19 rfl lf_5_9 rfl sh_2 rfl ?_
    refine x_iload_n (pc' := 23) dX5_copyFrom_22 rfl rfl ?_
    refine x_aload_n (pc' := 24) dX5_copyFrom_23 rfl rfl ?_
    refine x_getR (pc' := 27) dX5_copyFrom_24 rfl lf_5_9 rfl sh_13 rfl ?_
    refine x_iload_n (pc' := 28) dX5_copyFrom_27 rfl rfl ?_
    obtain ⟨j28, hj28, h⟩ := Option.bind_eq_some_iff.mp h
    refine x_iaload (pc' := 29) (v := S 14 j28) dX5_copyFrom_28 rfl sh_14 hj28 rfl ?_
    obtain ⟨j29, hj29, h⟩ := Option.bind_eq_some_iff.mp h
    refine x_iastore (pc' := 30) dX5_copyFrom_29 rfl sh_3 hj29 ?_
    refine x_aload_n (pc' := 31) dX5_copyFrom_30 rfl rfl ?_
    refine x_getR (pc' := 34) dX5_copyFrom_31 rfl lf_5_15 rfl sh_2 rfl ?_
    refine x_iload_n (pc' := 35) dX5_copyFrom_34 rfl rfl ?_
    refine x_aload_n (pc' := 36) dX5_copyFrom_35 rfl rfl ?_
    refine x_getR (pc' := 39) dX5_copyFrom_36 rfl lf_5_15 rfl sh_13 rfl ?_
    refine x_iload_n (pc' := 40) dX5_copyFrom_39 rfl rfl ?_
    obtain ⟨j40, hj40, h⟩ := Option.bind_eq_some_iff.mp h
    refine x_iaload (pc' := 41) (v := S 15 j40) dX5_copyFrom_40 rfl sh_15 hj40 rfl ?_
    obtain ⟨j41, hj41, h⟩ := Option.bind_eq_some_iff.mp h
    refine x_iastore (pc' := 42) dX5_copyFrom_41 rfl sh_4 hj41 ?_
    refine x_aload_n (pc' := 43) dX5_copyFrom_42 rfl rfl ?_
    refine x_getR (pc' := 46) dX5_copyFrom_43 rfl lf_5_18 rfl sh_2 rfl ?_
    refine x_iload_n (pc' := 47) dX5_copyFrom_46 rfl rfl ?_
    refine x_aload_n (pc' := 48) dX5_copyFrom_47 rfl rfl ?_
    refine x_getR (pc' := 51) dX5_copyFrom_48 rfl lf_5_18 rfl sh_13 rfl ?_
    refine x_iload_n (pc' := 52) dX5_copyFrom_51 rfl rfl ?_
    obtain ⟨j52, hj52, h⟩ := Option.bind_eq_some_iff.mp h
    refine x_iaload (pc' := 53) (v := S 16 j52) dX5_copyFrom_52 rfl sh_16 hj52 rfl ?_
    obtain ⟨j53, hj53, h⟩ := Option.bind_eq_some_iff.mp h
    refine x_iastore (pc' := 54) dX5_copyFrom_53 rfl sh_5 hj53 ?_
    refine x_aload_n (pc' := 55) dX5_copyFrom_54 rfl rfl ?_
    refine x_getR (pc' := 58) dX5_copyFrom_55 rfl lf_5_21 rfl sh_2 rfl ?_
    refine x_iload_n (pc' := 59) dX5_copyFrom_58 rfl rfl ?_
    refine x_aload_n (pc' := 60) dX5_copyFrom_59 rfl rfl ?_
    refine x_getR (pc' := 63) dX5_copyFrom_60 rfl lf_5_21 rfl sh_13 rfl ?_
    refine x_iload_n (pc' := 64) dX5_copyFrom_63 rfl rfl ?_
    obtain ⟨j64, hj64, h⟩ := Option.bind_eq_some_iff.mp h
    refine x_iaload (pc' := 65) (v := S 17 j64) dX5_copyFrom_64 rfl sh_17 hj64 rfl ?_
    obtain ⟨j65, hj65, h⟩ := Option.bind_eq_some_iff.mp h
    refine x_iastore (pc' := 66) dX5_copyFrom_65 rfl sh_6 hj65 ?_
    refine x_aload_n (pc' := 67) dX5_copyFrom_66 rfl rfl ?_
    refine x_getR (pc' := 70) dX5_copyFrom_67 rfl lf_5_24 rfl sh_2 rfl ?_
    refine x_iload_n (pc' := 71) dX5_copyFrom_70 rfl rfl ?_
    refine x_aload_n (pc' := 72) dX5_copyFrom_71 rfl rfl ?_
    refine x_getR (pc' := 75) dX5_copyFrom_72 rfl lf_5_24 rfl sh_13 rfl ?_
    refine x_iload_n (pc' := 76) dX5_copyFrom_75 rfl rfl ?_
    obtain ⟨j76, hj76, h⟩ := Option.bind_eq_some_iff.mp h
    refine x_iaload (pc' := 77) (v := S 18 j76) dX5_copyFrom_76 rfl sh_18 hj76 rfl ?_
    obtain ⟨j77, hj77, h⟩ := Option.bind_eq_some_iff.mp h
    refine x_iastore (pc' := 78) dX5_copyFrom_77 rfl sh_7 hj77 ?_
    refine x_aload_n (pc' := 79) dX5_copyFrom_78 rfl rfl ?_
    refine x_getR (pc' := 82) dX5_copyFrom_79 rfl lf_5_27 rfl sh_2 rfl ?_
    refine x_iload_n (pc' := 83) dX5_copyFrom_82 rfl rfl ?_
    refine x_aload_n (pc' := 84) dX5_copyFrom_83 rfl rfl ?_
    refine x_getR (pc' := 87) dX5_copyFrom_84 rfl lf_5_27 rfl sh_13 rfl ?_
    refine x_iload_n (pc' := 88) dX5_copyFrom_87 rfl rfl ?_
    obtain ⟨j88, hj88, h⟩ := Option.bind_eq_some_iff.mp h
    refine x_iaload (pc' := 89) (v := S 19 j88) dX5_copyFrom_88 rfl sh_19 hj88 rfl ?_
    obtain ⟨j89, hj89, h⟩ := Option.bind_eq_some_iff.mp h
    refine x_iastore (pc' := 90) dX5_copyFrom_89 rfl sh_8 hj89 ?_
    refine x_aload_n (pc' := 91) dX5_copyFrom_90 rfl rfl ?_
    refine x_getR (pc' := 94) dX5_copyFrom_91 rfl lf_5_30 rfl sh_2 rfl ?_
    refine x_iload_n (pc' := 95) dX5_copyFrom_94 rfl rfl ?_
    refine x_aload_n (pc' := 96) dX5_copyFrom_95 rfl rfl ?_
    refine x_getR (pc' := 99) dX5_copyFrom_96 rfl lf_5_30 rfl sh_13 rfl ?_
    refine x_iload_n (pc' := 100) dX5_copyFrom_99 rfl rfl ?_
    obtain ⟨j100, hj100, h⟩ := Option.bind_eq_some_iff.mp h
    refine x_iaload (pc' := 101) (v := S 20 j100) dX5_copyFrom_100 rfl sh_20 hj100 rfl ?_
    obtain ⟨j101, hj101, h⟩ := Option.bind_eq_some_iff.mp h
    refine x_iastore (pc' := 102) dX5_copyFrom_101 rfl sh_9 hj101 ?_
    refine x_iinc (pc' := 105) (w := (1 : Int32)) (ls' := [.ref 2, .ref 13, .int (x2 + (1 : Int32))]) dX5_copyFrom_102 rfl rfl k_ic_1 rfl ?_
    refine x_goto (pc' := 10) dX5_copyFrom_105 (by decide) ?_
    exact h
/-! X1_copyFrom (21, 10) -/
theorem BX1_copyFrom_0 {d : Nat} {w2 : Value} {S : tb_St} {r : tb_St} (h : (tb_E d mX1_copyFrom tb_dV 10 [.ref 21, .ref 10, .int (0 : Int32)] [] tb_S (tb_up S 21 2 (S 10 2))) = some r) : tb_E d mX1_copyFrom tb_dV 0 [.ref 21, .ref 10, w2] [] tb_S S = some r := by
  refine x_aload_n (pc' := 1) dX1_copyFrom_0 rfl rfl ?_
  refine x_aload_n (pc' := 2) dX1_copyFrom_1 rfl rfl ?_
  refine x_getI (pc' := 5) (v := S 10 2) dX1_copyFrom_2 rfl lf_1_18 rfl sh_10 rfl ?_
  refine x_putI (pc' := 8) dX1_copyFrom_5 rfl lf_1_18 (Or.inl rfl) sh_21 ?_
  refine x_iconst (pc' := 9) (w := (0 : Int32)) dX1_copyFrom_8 rfl k_ic_0 ?_
  refine x_istore_n (pc' := 10) (ls' := [.ref 21, .ref 10, .int (0 : Int32)]) dX1_copyFrom_9 rfl rfl rfl ?_
  exact h
theorem MX1_copyFrom {d : Nat} {S : tb_St} {r : tb_St} (h : (tb_E d mX1_copyFrom tb_dV 10 [.ref 21, .ref 10, .int (0 : Int32)] [] tb_S (tb_up S 21 2 (S 10 2))) = some r) : tb_cV (d + 1) mX1_copyFrom [.ref 21, .ref 10] S = some r := tb_enV rfl rfl (BX1_copyFrom_0 h)
theorem BX1_copyFrom_10 {d : Nat} {x2 : Int32} {S : tb_St} {r : tb_St} (h : ((if S 21 2 ≤ x2 then some S else (tb_ix x2 8).bind fun j28 => (tb_ix x2 8).bind fun j29 => (tb_ix x2 8).bind fun j40 => (tb_ix x2 8).bind fun j41 => tb_E d mX1_copyFrom tb_dV 10 [.ref 21, .ref 10, .int (x2 + (1 : Int32))] [] tb_S (tb_up (tb_up S 22 j29 (S 11 j28)) 23 j41 (S 12 j40)))) = some r) : tb_E d mX1_copyFrom tb_dV 10 [.ref 21, .ref 10, .int x2] [] tb_S S = some r := by
  refine x_iload_n (pc' := 11) dX1_copyFrom_10 rfl rfl ?_
  refine x_aload_n (pc' := 12) dX1_copyFrom_11 rfl rfl ?_
  refine x_getI (pc' := 15) (v := S 21 2) dX1_copyFrom_12 rfl lf_1_18 rfl sh_21 rfl ?_
  by_cases c15 : S 21 2 ≤ x2
  · replace h := (if_pos c15).symm.trans h
    refine x_icmp_ge_t (pc' := 48) dX1_copyFrom_15 (by decide) c15 ?_
    exact x_vret dX1_copyFrom_48 rfl ((tb_dV_ok _).trans h)
  · replace h := (if_neg c15).symm.trans h
    refine x_icmp_ge_f (pc' := 18) dX1_copyFrom_15 (by decide) rfl c15 ?_
    refine x_aload_n (pc' := 19) dX1_copyFrom_18 rfl rfl ?_
    refine x_getR (pc' := 22) dX1_copyFrom_19 rfl lf_1_9 rfl sh_21 rfl ?_
    refine x_iload_n (pc' := 23) dX1_copyFrom_22 rfl rfl ?_
    refine x_aload_n (pc' := 24) dX1_copyFrom_23 rfl rfl ?_
    refine x_getR (pc' := 27) dX1_copyFrom_24 rfl lf_1_9 rfl sh_10 rfl ?_
    refine x_iload_n (pc' := 28) dX1_copyFrom_27 rfl rfl ?_
    obtain ⟨j28, hj28, h⟩ := Option.bind_eq_some_iff.mp h
    refine x_iaload (pc' := 29) (v := S 11 j28) dX1_copyFrom_28 rfl sh_11 hj28 rfl ?_
    obtain ⟨j29, hj29, h⟩ := Option.bind_eq_some_iff.mp h
    refine x_iastore (pc' := 30) dX1_copyFrom_29 rfl sh_22 hj29 ?_
    refine x_aload_n (pc' := 31) dX1_copyFrom_30 rfl rfl ?_
    refine x_getR (pc' := 34) dX1_copyFrom_31 rfl lf_1_15 rfl sh_21 rfl ?_
    refine x_iload_n (pc' := 35) dX1_copyFrom_34 rfl rfl ?_
    refine x_aload_n (pc' := 36) dX1_copyFrom_35 rfl rfl ?_
    refine x_getR (pc' := 39) dX1_copyFrom_36 rfl lf_1_15 rfl sh_10 rfl ?_
    refine x_iload_n (pc' := 40) dX1_copyFrom_39 rfl rfl ?_
    obtain ⟨j40, hj40, h⟩ := Option.bind_eq_some_iff.mp h
    refine x_iaload (pc' := 41) (v := S 12 j40) dX1_copyFrom_40 rfl sh_12 hj40 rfl ?_
    obtain ⟨j41, hj41, h⟩ := Option.bind_eq_some_iff.mp h
    refine x_iastore (pc' := 42) dX1_copyFrom_41 rfl sh_23 hj41 ?_
    refine x_iinc (pc' := 45) (w := (1 : Int32)) (ls' := [.ref 21, .ref 10, .int (x2 + (1 : Int32))]) dX1_copyFrom_42 rfl rfl k_ic_1 rfl ?_
    refine x_goto (pc' := 10) dX1_copyFrom_45 (by decide) ?_
    exact h
/-! X5_copyFrom (13, 2) -/
theorem BX5_copyFrom_0 {d : Nat} {w2 : Value} {S : tb_St} {r : tb_St} (h : (tb_E d mX5_copyFrom tb_dV 10 [.ref 13, .ref 2, .int (0 : Int32)] [] tb_S (tb_up S 13 7 (S 2 7))) = some r) : tb_E d mX5_copyFrom tb_dV 0 [.ref 13, .ref 2, w2] [] tb_S S = some r := by
  refine x_aload_n (pc' := 1) dX5_copyFrom_0 rfl rfl ?_
  refine x_aload_n (pc' := 2) dX5_copyFrom_1 rfl rfl ?_
  refine x_getI (pc' := 5) (v := S 2 7) dX5_copyFrom_2 rfl lf_5_33 rfl sh_2 rfl ?_
  refine x_putI (pc' := 8) dX5_copyFrom_5 rfl lf_5_33 (Or.inl rfl) sh_13 ?_
  refine x_iconst (pc' := 9) (w := (0 : Int32)) dX5_copyFrom_8 rfl k_ic_0 ?_
  refine x_istore_n (pc' := 10) (ls' := [.ref 13, .ref 2, .int (0 : Int32)]) dX5_copyFrom_9 rfl rfl rfl ?_
  exact h
theorem MX5_copyFrom {d : Nat} {S : tb_St} {r : tb_St} (h : (tb_E d mX5_copyFrom tb_dV 10 [.ref 13, .ref 2, .int (0 : Int32)] [] tb_S (tb_up S 13 7 (S 2 7))) = some r) : tb_cV (d + 1) mX5_copyFrom [.ref 13, .ref 2] S = some r := tb_enV rfl rfl (BX5_copyFrom_0 h)
theorem BX5_copyFrom_10 {d : Nat} {x2 : Int32} {S : tb_St} {r : tb_St} (h : ((if S 13 7 ≤ x2 then some S else (tb_ix x2 24).bind fun j28 => (tb_ix x2 24).bind fun j29 => (tb_ix x2 24).bind fun j40 => (tb_ix x2 24).bind fun j41 => (tb_ix x2 24).bind fun j52 => (tb_ix x2 24).bind fun j53 => (tb_ix x2 24).bind fun j64 => (tb_ix x2 24).bind fun j65 => (tb_ix x2 24).bind fun j76 => (tb_ix x2 24).bind fun j77 => (tb_ix x2 24).bind fun j88 => (tb_ix x2 24).bind fun j89 => (tb_ix x2 24).bind fun j100 => (tb_ix x2 24).bind fun j101 => tb_E d mX5_copyFrom tb_dV 10 [.ref 13, .ref 2, .int (x2 + (1 : Int32))] [] tb_S (tb_up (tb_up (tb_up (tb_up (tb_up (tb_up (tb_up S 14 j29 (S 3 j28)) 15 j41 (S 4 j40)) 16 j53 (S 5 j52)) 17 j65 (S 6 j64)) 18 j77 (S 7 j76)) 19 j89 (S 8 j88)) 20 j101 (S 9 j100)))) = some r) : tb_E d mX5_copyFrom tb_dV 10 [.ref 13, .ref 2, .int x2] [] tb_S S = some r := by
  refine x_iload_n (pc' := 11) dX5_copyFrom_10 rfl rfl ?_
  refine x_aload_n (pc' := 12) dX5_copyFrom_11 rfl rfl ?_
  refine x_getI (pc' := 15) (v := S 13 7) dX5_copyFrom_12 rfl lf_5_33 rfl sh_13 rfl ?_
  by_cases c15 : S 13 7 ≤ x2
  · replace h := (if_pos c15).symm.trans h
    refine x_icmp_ge_t (pc' := 108) dX5_copyFrom_15 (by decide) c15 ?_
    exact x_vret dX5_copyFrom_108 rfl ((tb_dV_ok _).trans h)
  · replace h := (if_neg c15).symm.trans h
    refine x_icmp_ge_f (pc' := 18) dX5_copyFrom_15 (by decide) rfl c15 ?_
    refine x_aload_n (pc' := 19) dX5_copyFrom_18 rfl rfl ?_
    refine x_getR (pc' := 22) dX5_copyFrom_19 rfl lf_5_9 rfl sh_13 rfl ?_
    refine x_iload_n (pc' := 23) dX5_copyFrom_22 rfl rfl ?_
    refine x_aload_n (pc' := 24) dX5_copyFrom_23 rfl rfl ?_
    refine x_getR (pc' := 27) dX5_copyFrom_24 rfl lf_5_9 rfl sh_2 rfl ?_
    refine x_iload_n (pc' := 28) dX5_copyFrom_27 rfl rfl ?_
    obtain ⟨j28, hj28, h⟩ := Option.bind_eq_some_iff.mp h
    refine x_iaload (pc' := 29) (v := S 3 j28) dX5_copyFrom_28 rfl sh_3 hj28 rfl ?_
    obtain ⟨j29, hj29, h⟩ := Option.bind_eq_some_iff.mp h
    refine x_iastore (pc' := 30) dX5_copyFrom_29 rfl sh_14 hj29 ?_
    refine x_aload_n (pc' := 31) dX5_copyFrom_30 rfl rfl ?_
    refine x_getR (pc' := 34) dX5_copyFrom_31 rfl lf_5_15 rfl sh_13 rfl ?_
    refine x_iload_n (pc' := 35) dX5_copyFrom_34 rfl rfl ?_
    refine x_aload_n (pc' := 36) dX5_copyFrom_35 rfl rfl ?_
    refine x_getR (pc' := 39) dX5_copyFrom_36 rfl lf_5_15 rfl sh_2 rfl ?_
    refine x_iload_n (pc' := 40) dX5_copyFrom_39 rfl rfl ?_
    obtain ⟨j40, hj40, h⟩ := Option.bind_eq_some_iff.mp h
    refine x_iaload (pc' := 41) (v := S 4 j40) dX5_copyFrom_40 rfl sh_4 hj40 rfl ?_
    obtain ⟨j41, hj41, h⟩ := Option.bind_eq_some_iff.mp h
    refine x_iastore (pc' := 42) dX5_copyFrom_41 rfl sh_15 hj41 ?_
    refine x_aload_n (pc' := 43) dX5_copyFrom_42 rfl rfl ?_
    refine x_getR (pc' := 46) dX5_copyFrom_43 rfl lf_5_18 rfl sh_13 rfl ?_
    refine x_iload_n (pc' := 47) dX5_copyFrom_46 rfl rfl ?_
    refine x_aload_n (pc' := 48) dX5_copyFrom_47 rfl rfl ?_
    refine x_getR (pc' := 51) dX5_copyFrom_48 rfl lf_5_18 rfl sh_2 rfl ?_
    refine x_iload_n (pc' := 52) dX5_copyFrom_51 rfl rfl ?_
    obtain ⟨j52, hj52, h⟩ := Option.bind_eq_some_iff.mp h
    refine x_iaload (pc' := 53) (v := S 5 j52) dX5_copyFrom_52 rfl sh_5 hj52 rfl ?_
    obtain ⟨j53, hj53, h⟩ := Option.bind_eq_some_iff.mp h
    refine x_iastore (pc' := 54) dX5_copyFrom_53 rfl sh_16 hj53 ?_
    refine x_aload_n (pc' := 55) dX5_copyFrom_54 rfl rfl ?_
    refine x_getR (pc' := 58) dX5_copyFrom_55 rfl lf_5_21 rfl sh_13 rfl ?_
    refine x_iload_n (pc' := 59) dX5_copyFrom_58 rfl rfl ?_
    refine x_aload_n (pc' := 60) dX5_copyFrom_59 rfl rfl ?_
    refine x_getR (pc' := 63) dX5_copyFrom_60 rfl lf_5_21 rfl sh_2 rfl ?_
    refine x_iload_n (pc' := 64) dX5_copyFrom_63 rfl rfl ?_
    obtain ⟨j64, hj64, h⟩ := Option.bind_eq_some_iff.mp h
    refine x_iaload (pc' := 65) (v := S 6 j64) dX5_copyFrom_64 rfl sh_6 hj64 rfl ?_
    obtain ⟨j65, hj65, h⟩ := Option.bind_eq_some_iff.mp h
    refine x_iastore (pc' := 66) dX5_copyFrom_65 rfl sh_17 hj65 ?_
    refine x_aload_n (pc' := 67) dX5_copyFrom_66 rfl rfl ?_
    refine x_getR (pc' := 70) dX5_copyFrom_67 rfl lf_5_24 rfl sh_13 rfl ?_
    refine x_iload_n (pc' := 71) dX5_copyFrom_70 rfl rfl ?_
    refine x_aload_n (pc' := 72) dX5_copyFrom_71 rfl rfl ?_
    refine x_getR (pc' := 75) dX5_copyFrom_72 rfl lf_5_24 rfl sh_2 rfl ?_
    refine x_iload_n (pc' := 76) dX5_copyFrom_75 rfl rfl ?_
    obtain ⟨j76, hj76, h⟩ := Option.bind_eq_some_iff.mp h
    refine x_iaload (pc' := 77) (v := S 7 j76) dX5_copyFrom_76 rfl sh_7 hj76 rfl ?_
    obtain ⟨j77, hj77, h⟩ := Option.bind_eq_some_iff.mp h
    refine x_iastore (pc' := 78) dX5_copyFrom_77 rfl sh_18 hj77 ?_
    refine x_aload_n (pc' := 79) dX5_copyFrom_78 rfl rfl ?_
    refine x_getR (pc' := 82) dX5_copyFrom_79 rfl lf_5_27 rfl sh_13 rfl ?_
    refine x_iload_n (pc' := 83) dX5_copyFrom_82 rfl rfl ?_
    refine x_aload_n (pc' := 84) dX5_copyFrom_83 rfl rfl ?_
    refine x_getR (pc' := 87) dX5_copyFrom_84 rfl lf_5_27 rfl sh_2 rfl ?_
    refine x_iload_n (pc' := 88) dX5_copyFrom_87 rfl rfl ?_
    obtain ⟨j88, hj88, h⟩ := Option.bind_eq_some_iff.mp h
    refine x_iaload (pc' := 89) (v := S 8 j88) dX5_copyFrom_88 rfl sh_8 hj88 rfl ?_
    obtain ⟨j89, hj89, h⟩ := Option.bind_eq_some_iff.mp h
    refine x_iastore (pc' := 90) dX5_copyFrom_89 rfl sh_19 hj89 ?_
    refine x_aload_n (pc' := 91) dX5_copyFrom_90 rfl rfl ?_
    refine x_getR (pc' := 94) dX5_copyFrom_91 rfl lf_5_30 rfl sh_13 rfl ?_
    refine x_iload_n (pc' := 95) dX5_copyFrom_94 rfl rfl ?_
    refine x_aload_n (pc' := 96) dX5_copyFrom_95 rfl rfl ?_
    refine x_getR (pc' := 99) dX5_copyFrom_96 rfl lf_5_30 rfl sh_2 rfl ?_
    refine x_iload_n (pc' := 100) dX5_copyFrom_99 rfl rfl ?_
    obtain ⟨j100, hj100, h⟩ := Option.bind_eq_some_iff.mp h
    refine x_iaload (pc' := 101) (v := S 9 j100) dX5_copyFrom_100 rfl sh_9 hj100 rfl ?_
    obtain ⟨j101, hj101, h⟩ := Option.bind_eq_some_iff.mp h
    refine x_iastore (pc' := 102) dX5_copyFrom_101 rfl sh_20 hj101 ?_
    refine x_iinc (pc' := 105) (w := (1 : Int32)) (ls' := [.ref 13, .ref 2, .int (x2 + (1 : Int32))]) dX5_copyFrom_102 rfl rfl k_ic_1 rfl ?_
    refine x_goto (pc' := 10) dX5_copyFrom_105 (by decide) ?_
    exact h
/-! X8_tellsOf (45,) -/
theorem BX8_tellsOf_0 {d : Nat} {x1 x2 x3 : Int32} {w4 w5 w6 : Value} {S : tb_St} {r : Int32 × tb_St} (h : (tb_E d mX8_tellsOf tb_dI 3 [.ref 45, .int x1, .int x2, .int x3, .int (0 : Int32), w5, w6] [] tb_S S) = some r) : tb_E d mX8_tellsOf tb_dI 0 [.ref 45, .int x1, .int x2, .int x3, w4, w5, w6] [] tb_S S = some r := by
  refine x_iconst (pc' := 1) (w := (0 : Int32)) dX8_tellsOf_0 rfl k_ic_0 ?_
  refine x_istore (pc' := 3) (ls' := [.ref 45, .int x1, .int x2, .int x3, .int (0 : Int32), w5, w6]) dX8_tellsOf_1 rfl rfl rfl ?_
  exact h
theorem MX8_tellsOf {d : Nat} {x1 : Int32} {x2 : Int32} {x3 : Int32} {S : tb_St} {r : Int32 × tb_St} (h : (tb_E d mX8_tellsOf tb_dI 3 [.ref 45, .int x1, .int x2, .int x3, .int (0 : Int32), tb_jk, tb_jk] [] tb_S S) = some r) : tb_cI (d + 1) mX8_tellsOf [.ref 45, .int x1, .int x2, .int x3] S = some r := tb_enI rfl rfl (BX8_tellsOf_0 h)
theorem BX8_tellsOf_3 {d : Nat} {x1 x2 x3 x4 : Int32} {w5 w6 : Value} {S : tb_St} {r : Int32 × tb_St} (h : ((if x2 ≤ x4 then some ((-5 : Int32), S) else tb_E d mX8_tellsOf tb_dI 15 [.ref 45, .int x1, .int x2, .int x3, .int x4, .int (0 : Int32), .int (0 : Int32)] [] tb_S S)) = some r) : tb_E d mX8_tellsOf tb_dI 3 [.ref 45, .int x1, .int x2, .int x3, .int x4, w5, w6] [] tb_S S = some r := by
  refine x_iload (pc' := 5) dX8_tellsOf_3 rfl rfl ?_
  refine x_iload_n (pc' := 6) dX8_tellsOf_5 rfl rfl ?_
  by_cases c6 : x2 ≤ x4
  · replace h := (if_pos c6).symm.trans h
    refine x_icmp_ge_t (pc' := 88) dX8_tellsOf_6 (by decide) c6 ?_
    refine x_bipush (pc' := 90) (w := (-5 : Int32)) dX8_tellsOf_88 rfl k_bi_m5 ?_
    exact x_iret dX8_tellsOf_90 rfl ((tb_dI_ok _ _).trans h)
  · replace h := (if_neg c6).symm.trans h
    refine x_icmp_ge_f (pc' := 9) dX8_tellsOf_6 (by decide) rfl c6 ?_
    refine x_iconst (pc' := 10) (w := (0 : Int32)) dX8_tellsOf_9 rfl k_ic_0 ?_
    refine x_istore (pc' := 12) (ls' := [.ref 45, .int x1, .int x2, .int x3, .int x4, .int (0 : Int32), w6]) dX8_tellsOf_10 rfl rfl rfl ?_
    refine x_iconst (pc' := 13) (w := (0 : Int32)) dX8_tellsOf_12 rfl k_ic_0 ?_
    refine x_istore (pc' := 15) (ls' := [.ref 45, .int x1, .int x2, .int x3, .int x4, .int (0 : Int32), .int (0 : Int32)]) dX8_tellsOf_13 rfl rfl rfl ?_
    exact h
theorem BX8_tellsOf_15 {d : Nat} {x1 x2 x3 x4 x5 x6 : Int32} {S : tb_St} {r : Int32 × tb_St} (h : ((if (6 : Int32) ≤ x6 then (tb_cI d mX8_isIn [.int x3, .int x5] S).bind fun q57 => (if q57.1 = 0 then tb_E d mX8_tellsOf tb_dI 3 [.ref 45, .int x1, .int x2, .int x3, .int (x4 + (1 : Int32)), .int x5, .int x6] [] tb_S (q57.2) else (tb_ix ((((70 : Int32) * x1) + ((7 : Int32) * x4)) + (6 : Int32)) 280).bind fun j80 => some ((q57.2) 65 j80, q57.2)) else (tb_ix ((((70 : Int32) * x1) + ((7 : Int32) * x4)) + x6) 280).bind fun j44 => tb_E d mX8_tellsOf tb_dI 15 [.ref 45, .int x1, .int x2, .int x3, .int x4, .int (((10 : Int32) * x5) + (S 65 j44)), .int (x6 + (1 : Int32))] [] tb_S S)) = some r) : tb_E d mX8_tellsOf tb_dI 15 [.ref 45, .int x1, .int x2, .int x3, .int x4, .int x5, .int x6] [] tb_S S = some r := by
  refine x_iload (pc' := 17) dX8_tellsOf_15 rfl rfl ?_
  refine x_bipush (pc' := 19) (w := (6 : Int32)) dX8_tellsOf_17 rfl k_bi_6 ?_
  by_cases c19 : (6 : Int32) ≤ x6
  · replace h := (if_pos c19).symm.trans h
    refine x_icmp_ge_t (pc' := 54) dX8_tellsOf_19 (by decide) c19 ?_
    refine x_iload_n (pc' := 55) dX8_tellsOf_54 rfl rfl ?_
    refine x_iload (pc' := 57) dX8_tellsOf_55 rfl rfl ?_
    obtain ⟨q57, hq57, h⟩ := Option.bind_eq_some_iff.mp h
    refine x_statI (pc' := 60) (as := [.int x3, .int x5]) (rest := []) dX8_tellsOf_57 rfl lm_8_197 (by decide) rfl rfl rfl rfl hq57 ?_
    by_cases c60 : q57.1 = 0
    · replace h := (if_pos c60).symm.trans h
      refine x_if_eq_t (pc' := 82) dX8_tellsOf_60 (by decide) c60 ?_
      refine x_iinc (pc' := 85) (w := (1 : Int32)) (ls' := [.ref 45, .int x1, .int x2, .int x3, .int (x4 + (1 : Int32)), .int x5, .int x6]) dX8_tellsOf_82 rfl rfl k_ic_1 rfl ?_
      refine x_goto (pc' := 3) dX8_tellsOf_85 (by decide) ?_
      exact h
    · replace h := (if_neg c60).symm.trans h
      refine x_if_eq_f (pc' := 63) dX8_tellsOf_60 (by decide) rfl c60 ?_
      refine x_aload_n (pc' := 64) dX8_tellsOf_63 rfl rfl ?_
      refine x_getR (pc' := 67) dX8_tellsOf_64 rfl lf_8_74 rfl sh_45 rfl ?_
      refine x_bipush (pc' := 69) (w := (70 : Int32)) dX8_tellsOf_67 rfl k_bi_70 ?_
      refine x_iload_n (pc' := 70) dX8_tellsOf_69 rfl rfl ?_
      refine x_imul (pc' := 71) dX8_tellsOf_70 rfl ?_
      refine x_bipush (pc' := 73) (w := (7 : Int32)) dX8_tellsOf_71 rfl k_bi_7 ?_
      refine x_iload (pc' := 75) dX8_tellsOf_73 rfl rfl ?_
      refine x_imul (pc' := 76) dX8_tellsOf_75 rfl ?_
      refine x_iadd (pc' := 77) dX8_tellsOf_76 rfl ?_
      refine x_bipush (pc' := 79) (w := (6 : Int32)) dX8_tellsOf_77 rfl k_bi_6 ?_
      refine x_iadd (pc' := 80) dX8_tellsOf_79 rfl ?_
      obtain ⟨j80, hj80, h⟩ := Option.bind_eq_some_iff.mp h
      refine x_iaload (pc' := 81) (v := (q57.2) 65 j80) dX8_tellsOf_80 rfl sh_65 hj80 rfl ?_
      exact x_iret dX8_tellsOf_81 rfl ((tb_dI_ok _ _).trans h)
  · replace h := (if_neg c19).symm.trans h
    refine x_icmp_ge_f (pc' := 22) dX8_tellsOf_19 (by decide) rfl c19 ?_
    refine x_bipush (pc' := 24) (w := (10 : Int32)) dX8_tellsOf_22 rfl k_bi_10 ?_
    refine x_iload (pc' := 26) dX8_tellsOf_24 rfl rfl ?_
    refine x_imul (pc' := 27) dX8_tellsOf_26 rfl ?_
    refine x_aload_n (pc' := 28) dX8_tellsOf_27 rfl rfl ?_
    refine x_getR (pc' := 31) dX8_tellsOf_28 rfl lf_8_74 rfl sh_45 rfl ?_
    refine x_bipush (pc' := 33) (w := (70 : Int32)) dX8_tellsOf_31 rfl k_bi_70 ?_
    refine x_iload_n (pc' := 34) dX8_tellsOf_33 rfl rfl ?_
    refine x_imul (pc' := 35) dX8_tellsOf_34 rfl ?_
    refine x_bipush (pc' := 37) (w := (7 : Int32)) dX8_tellsOf_35 rfl k_bi_7 ?_
    refine x_iload (pc' := 39) dX8_tellsOf_37 rfl rfl ?_
    refine x_imul (pc' := 40) dX8_tellsOf_39 rfl ?_
    refine x_iadd (pc' := 41) dX8_tellsOf_40 rfl ?_
    refine x_iload (pc' := 43) dX8_tellsOf_41 rfl rfl ?_
    refine x_iadd (pc' := 44) dX8_tellsOf_43 rfl ?_
    obtain ⟨j44, hj44, h⟩ := Option.bind_eq_some_iff.mp h
    refine x_iaload (pc' := 45) (v := S 65 j44) dX8_tellsOf_44 rfl sh_65 hj44 rfl ?_
    refine x_iadd (pc' := 46) dX8_tellsOf_45 rfl ?_
    refine x_istore (pc' := 48) (ls' := [.ref 45, .int x1, .int x2, .int x3, .int x4, .int (((10 : Int32) * x5) + (S 65 j44)), .int x6]) dX8_tellsOf_46 rfl rfl rfl ?_
    refine x_iinc (pc' := 51) (w := (1 : Int32)) (ls' := [.ref 45, .int x1, .int x2, .int x3, .int x4, .int (((10 : Int32) * x5) + (S 65 j44)), .int (x6 + (1 : Int32))]) dX8_tellsOf_48 rfl rfl k_ic_1 rfl ?_
    refine x_goto (pc' := 15) dX8_tellsOf_51 (by decide) ?_
    exact h
/-! X8_most () -/
theorem BX8_most_0 {d : Nat} {x0 : Int32} {S : tb_St} {r : Int32 × tb_St} (h : ((if (2 : Int32) ≤ x0 then (if (4 : Int32) ≤ x0 then some ((3 : Int32), S) else some ((6 : Int32), S)) else some ((7 : Int32), S))) = some r) : tb_E d mX8_most tb_dI 0 [.int x0] [] tb_S S = some r := by
  refine x_iload_n (pc' := 1) dX8_most_0 rfl rfl ?_
  refine x_iconst (pc' := 2) (w := (2 : Int32)) dX8_most_1 rfl k_ic_2 ?_
  by_cases c2 : (2 : Int32) ≤ x0
  · replace h := (if_pos c2).symm.trans h
    refine x_icmp_ge_t (pc' := 10) dX8_most_2 (by decide) c2 ?_
    refine x_iload_n (pc' := 11) dX8_most_10 rfl rfl ?_
    refine x_iconst (pc' := 12) (w := (4 : Int32)) dX8_most_11 rfl k_ic_4 ?_
    by_cases c12 : (4 : Int32) ≤ x0
    · replace h := (if_pos c12).symm.trans h
      refine x_icmp_ge_t (pc' := 20) dX8_most_12 (by decide) c12 ?_
      refine x_iconst (pc' := 21) (w := (3 : Int32)) dX8_most_20 rfl k_ic_3 ?_
      exact x_iret dX8_most_21 rfl ((tb_dI_ok _ _).trans h)
    · replace h := (if_neg c12).symm.trans h
      refine x_icmp_ge_f (pc' := 15) dX8_most_12 (by decide) rfl c12 ?_
      refine x_bipush (pc' := 17) (w := (6 : Int32)) dX8_most_15 rfl k_bi_6 ?_
      refine x_goto (pc' := 21) dX8_most_17 (by decide) ?_
      exact x_iret dX8_most_21 rfl ((tb_dI_ok _ _).trans h)
  · replace h := (if_neg c2).symm.trans h
    refine x_icmp_ge_f (pc' := 5) dX8_most_2 (by decide) rfl c2 ?_
    refine x_bipush (pc' := 7) (w := (7 : Int32)) dX8_most_5 rfl k_bi_7 ?_
    refine x_goto (pc' := 21) dX8_most_7 (by decide) ?_
    exact x_iret dX8_most_21 rfl ((tb_dI_ok _ _).trans h)
theorem MX8_most {d : Nat} {x0 : Int32} {S : tb_St} {r : Int32 × tb_St} (h : ((if (2 : Int32) ≤ x0 then (if (4 : Int32) ≤ x0 then some ((3 : Int32), S) else some ((6 : Int32), S)) else some ((7 : Int32), S))) = some r) : tb_cI (d + 1) mX8_most [.int x0] S = some r := tb_enI rfl rfl (BX8_most_0 h)
/-! X3_answer (38,) -/
theorem BX3_answer_0 {d : Nat} {x1 x2 : Int32} {w3 w4 : Value} {S : tb_St} {r : Int32 × tb_St} (h : ((tb_cI d mX3_partsOf [.ref 38, .int x1] S).bind fun q2 => tb_E d mX3_answer tb_dI 9 [.ref 38, .int x1, .int x2, .int (q2.1), .int (0 : Int32)] [] tb_S (q2.2)) = some r) : tb_E d mX3_answer tb_dI 0 [.ref 38, .int x1, .int x2, w3, w4] [] tb_S S = some r := by
  refine x_aload_n (pc' := 1) dX3_answer_0 rfl rfl ?_
  refine x_iload_n (pc' := 2) dX3_answer_1 rfl rfl ?_
  obtain ⟨q2, hq2, h⟩ := Option.bind_eq_some_iff.mp h
  refine x_virtI (pc' := 5) (o := 38) (as := [.int x1]) (rest := []) dX3_answer_2 rfl lm_3_28 rfl rfl rfl sh_38 rfl hq2 ?_
  refine x_istore_n (pc' := 6) (ls' := [.ref 38, .int x1, .int x2, .int (q2.1), w4]) dX3_answer_5 rfl rfl rfl ?_
  refine x_iconst (pc' := 7) (w := (0 : Int32)) dX3_answer_6 rfl k_ic_0 ?_
  refine x_istore (pc' := 9) (ls' := [.ref 38, .int x1, .int x2, .int (q2.1), .int (0 : Int32)]) dX3_answer_7 rfl rfl rfl ?_
  exact h
theorem MX3_answer {d : Nat} {x1 : Int32} {x2 : Int32} {S : tb_St} {r : Int32 × tb_St} (h : ((tb_cI d mX3_partsOf [.ref 38, .int x1] S).bind fun q2 => tb_E d mX3_answer tb_dI 9 [.ref 38, .int x1, .int x2, .int (q2.1), .int (0 : Int32)] [] tb_S (q2.2)) = some r) : tb_cI (d + 1) mX3_answer [.ref 38, .int x1, .int x2] S = some r := tb_enI rfl rfl (BX3_answer_0 h)
theorem BX3_answer_9 {d : Nat} {x1 x2 x3 x4 : Int32} {S : tb_St} {r : Int32 × tb_St} (h : ((if x3 ≤ x4 then some ((-5 : Int32), S) else (tb_cI d mX3_isInPart [.ref 38, .int x1, .int ((7 : Int32) * x4), .int x2] S).bind fun q23 => (if q23.1 = 0 then tb_E d mX3_answer tb_dI 9 [.ref 38, .int x1, .int x2, .int x3, .int (x4 + (1 : Int32))] [] tb_S (q23.2) else (tb_cI d mX3_at [.ref 38, .int x1, .int (((7 : Int32) * x4) + (6 : Int32))] (q23.2)).bind fun q39 => some (q39.1, q39.2)))) = some r) : tb_E d mX3_answer tb_dI 9 [.ref 38, .int x1, .int x2, .int x3, .int x4] [] tb_S S = some r := by
  refine x_iload (pc' := 11) dX3_answer_9 rfl rfl ?_
  refine x_iload_n (pc' := 12) dX3_answer_11 rfl rfl ?_
  by_cases c12 : x3 ≤ x4
  · replace h := (if_pos c12).symm.trans h
    refine x_icmp_ge_t (pc' := 49) dX3_answer_12 (by decide) c12 ?_
    refine x_bipush (pc' := 51) (w := (-5 : Int32)) dX3_answer_49 rfl k_bi_m5 ?_
    exact x_iret dX3_answer_51 rfl ((tb_dI_ok _ _).trans h)
  · replace h := (if_neg c12).symm.trans h
    refine x_icmp_ge_f (pc' := 15) dX3_answer_12 (by decide) rfl c12 ?_
    refine x_aload_n (pc' := 16) dX3_answer_15 rfl rfl ?_
    refine x_iload_n (pc' := 17) dX3_answer_16 rfl rfl ?_
    refine x_bipush (pc' := 19) (w := (7 : Int32)) dX3_answer_17 rfl k_bi_7 ?_
    refine x_iload (pc' := 21) dX3_answer_19 rfl rfl ?_
    refine x_imul (pc' := 22) dX3_answer_21 rfl ?_
    refine x_iload_n (pc' := 23) dX3_answer_22 rfl rfl ?_
    obtain ⟨q23, hq23, h⟩ := Option.bind_eq_some_iff.mp h
    refine x_virtI (pc' := 26) (o := 38) (as := [.int x1, .int ((7 : Int32) * x4), .int x2]) (rest := []) dX3_answer_23 rfl lm_3_46 rfl rfl rfl sh_38 rfl hq23 ?_
    by_cases c26 : q23.1 = 0
    · replace h := (if_pos c26).symm.trans h
      refine x_if_eq_t (pc' := 43) dX3_answer_26 (by decide) c26 ?_
      refine x_iinc (pc' := 46) (w := (1 : Int32)) (ls' := [.ref 38, .int x1, .int x2, .int x3, .int (x4 + (1 : Int32))]) dX3_answer_43 rfl rfl k_ic_1 rfl ?_
      refine x_goto (pc' := 9) dX3_answer_46 (by decide) ?_
      exact h
    · replace h := (if_neg c26).symm.trans h
      refine x_if_eq_f (pc' := 29) dX3_answer_26 (by decide) rfl c26 ?_
      refine x_aload_n (pc' := 30) dX3_answer_29 rfl rfl ?_
      refine x_iload_n (pc' := 31) dX3_answer_30 rfl rfl ?_
      refine x_bipush (pc' := 33) (w := (7 : Int32)) dX3_answer_31 rfl k_bi_7 ?_
      refine x_iload (pc' := 35) dX3_answer_33 rfl rfl ?_
      refine x_imul (pc' := 36) dX3_answer_35 rfl ?_
      refine x_bipush (pc' := 38) (w := (6 : Int32)) dX3_answer_36 rfl k_bi_6 ?_
      refine x_iadd (pc' := 39) dX3_answer_38 rfl ?_
      obtain ⟨q39, hq39, h⟩ := Option.bind_eq_some_iff.mp h
      refine x_virtI (pc' := 42) (o := 38) (as := [.int x1, .int (((7 : Int32) * x4) + (6 : Int32))]) (rest := []) dX3_answer_39 rfl lm_3_35 rfl rfl rfl sh_38 rfl hq39 ?_
      exact x_iret dX3_answer_42 rfl ((tb_dI_ok _ _).trans h)
/-! X3_flaw (38,) -/
theorem BX3_flaw_0 {d : Nat} {x1 : Int32} {w2 w3 : Value} {S : tb_St} {r : Int32 × tb_St} (h : ((tb_cI d mX3_partsOf [.ref 38, .int x1] S).bind fun q2 => tb_E d mX3_flaw tb_dI 8 [.ref 38, .int x1, .int (q2.1), .int (0 : Int32)] [] tb_S (q2.2)) = some r) : tb_E d mX3_flaw tb_dI 0 [.ref 38, .int x1, w2, w3] [] tb_S S = some r := by
  refine x_aload_n (pc' := 1) dX3_flaw_0 rfl rfl ?_
  refine x_iload_n (pc' := 2) dX3_flaw_1 rfl rfl ?_
  obtain ⟨q2, hq2, h⟩ := Option.bind_eq_some_iff.mp h
  refine x_virtI (pc' := 5) (o := 38) (as := [.int x1]) (rest := []) dX3_flaw_2 rfl lm_3_28 rfl rfl rfl sh_38 rfl hq2 ?_
  refine x_istore_n (pc' := 6) (ls' := [.ref 38, .int x1, .int (q2.1), w3]) dX3_flaw_5 rfl rfl rfl ?_
  refine x_iconst (pc' := 7) (w := (0 : Int32)) dX3_flaw_6 rfl k_ic_0 ?_
  refine x_istore_n (pc' := 8) (ls' := [.ref 38, .int x1, .int (q2.1), .int (0 : Int32)]) dX3_flaw_7 rfl rfl rfl ?_
  exact h
theorem MX3_flaw {d : Nat} {x1 : Int32} {S : tb_St} {r : Int32 × tb_St} (h : ((tb_cI d mX3_partsOf [.ref 38, .int x1] S).bind fun q2 => tb_E d mX3_flaw tb_dI 8 [.ref 38, .int x1, .int (q2.1), .int (0 : Int32)] [] tb_S (q2.2)) = some r) : tb_cI (d + 1) mX3_flaw [.ref 38, .int x1] S = some r := tb_enI rfl rfl (BX3_flaw_0 h)
theorem BX3_flaw_8 {d : Nat} {x1 x2 x3 : Int32} {S : tb_St} {r : Int32 × tb_St} (h : ((if x2 * (7 : Int32) ≤ x3 then some ((-1 : Int32), S) else (tb_cI d mX3_hasPlace [.ref 38, .int x1, .int x3] S).bind fun q19 => (if q19.1 = 0 then some (((x3 / (7 : Int32)) * (10 : Int32)) + (tb_rem x3 (7 : Int32)), q19.2) else (tb_cI d mX3_numberCanBe [.ref 38, .int x1, .int x3] (q19.2)).bind fun q28 => (if ¬ q28.1 = 0 then tb_E d mX3_flaw tb_dI 8 [.ref 38, .int x1, .int x2, .int (x3 + (1 : Int32))] [] tb_S (q28.2) else some (((x3 / (7 : Int32)) * (10 : Int32)) + (tb_rem x3 (7 : Int32)), q28.2))))) = some r) : tb_E d mX3_flaw tb_dI 8 [.ref 38, .int x1, .int x2, .int x3] [] tb_S S = some r := by
  refine x_iload_n (pc' := 9) dX3_flaw_8 rfl rfl ?_
  refine x_iload_n (pc' := 10) dX3_flaw_9 rfl rfl ?_
  refine x_bipush (pc' := 12) (w := (7 : Int32)) dX3_flaw_10 rfl k_bi_7 ?_
  refine x_imul (pc' := 13) dX3_flaw_12 rfl ?_
  by_cases c13 : x2 * (7 : Int32) ≤ x3
  · replace h := (if_pos c13).symm.trans h
    refine x_icmp_ge_t (pc' := 53) dX3_flaw_13 (by decide) c13 ?_
    refine x_iconst (pc' := 54) (w := (-1 : Int32)) dX3_flaw_53 rfl k_ic_m1 ?_
    exact x_iret dX3_flaw_54 rfl ((tb_dI_ok _ _).trans h)
  · replace h := (if_neg c13).symm.trans h
    refine x_icmp_ge_f (pc' := 16) dX3_flaw_13 (by decide) rfl c13 ?_
    refine x_aload_n (pc' := 17) dX3_flaw_16 rfl rfl ?_
    refine x_iload_n (pc' := 18) dX3_flaw_17 rfl rfl ?_
    refine x_iload_n (pc' := 19) dX3_flaw_18 rfl rfl ?_
    obtain ⟨q19, hq19, h⟩ := Option.bind_eq_some_iff.mp h
    refine x_virtI (pc' := 22) (o := 38) (as := [.int x1, .int x3]) (rest := []) dX3_flaw_19 rfl lm_3_24 rfl rfl rfl sh_38 rfl hq19 ?_
    by_cases c22 : q19.1 = 0
    · replace h := (if_pos c22).symm.trans h
      refine x_if_eq_t (pc' := 34) dX3_flaw_22 (by decide) c22 ?_
      refine x_iload_n (pc' := 35) dX3_flaw_34 rfl rfl ?_
      refine x_bipush (pc' := 37) (w := (7 : Int32)) dX3_flaw_35 rfl k_bi_7 ?_
      refine x_idiv (pc' := 38) dX3_flaw_37 rfl (by decide) ?_
      refine x_bipush (pc' := 40) (w := (10 : Int32)) dX3_flaw_38 rfl k_bi_10 ?_
      refine x_imul (pc' := 41) dX3_flaw_40 rfl ?_
      refine x_iload_n (pc' := 42) dX3_flaw_41 rfl rfl ?_
      refine x_bipush (pc' := 44) (w := (7 : Int32)) dX3_flaw_42 rfl k_bi_7 ?_
      refine x_irem (pc' := 45) dX3_flaw_44 rfl (by decide) ?_
      refine x_iadd (pc' := 46) dX3_flaw_45 rfl ?_
      exact x_iret dX3_flaw_46 rfl ((tb_dI_ok _ _).trans h)
    · replace h := (if_neg c22).symm.trans h
      refine x_if_eq_f (pc' := 25) dX3_flaw_22 (by decide) rfl c22 ?_
      refine x_aload_n (pc' := 26) dX3_flaw_25 rfl rfl ?_
      refine x_iload_n (pc' := 27) dX3_flaw_26 rfl rfl ?_
      refine x_iload_n (pc' := 28) dX3_flaw_27 rfl rfl ?_
      obtain ⟨q28, hq28, h⟩ := Option.bind_eq_some_iff.mp h
      refine x_virtI (pc' := 31) (o := 38) (as := [.int x1, .int x3]) (rest := []) dX3_flaw_28 rfl lm_3_32 rfl rfl rfl sh_38 rfl hq28 ?_
      by_cases c31 : ¬ q28.1 = 0
      · replace h := (if_pos c31).symm.trans h
        refine x_if_ne_t (pc' := 47) dX3_flaw_31 (by decide) c31 ?_
        refine x_iinc (pc' := 50) (w := (1 : Int32)) (ls' := [.ref 38, .int x1, .int x2, .int (x3 + (1 : Int32))]) dX3_flaw_47 rfl rfl k_ic_1 rfl ?_
        refine x_goto (pc' := 8) dX3_flaw_50 (by decide) ?_
        exact h
      · replace h := (if_neg c31).symm.trans h
        refine x_if_ne_f (pc' := 34) dX3_flaw_31 (by decide) rfl c31 ?_
        refine x_iload_n (pc' := 35) dX3_flaw_34 rfl rfl ?_
        refine x_bipush (pc' := 37) (w := (7 : Int32)) dX3_flaw_35 rfl k_bi_7 ?_
        refine x_idiv (pc' := 38) dX3_flaw_37 rfl (by decide) ?_
        refine x_bipush (pc' := 40) (w := (10 : Int32)) dX3_flaw_38 rfl k_bi_10 ?_
        refine x_imul (pc' := 41) dX3_flaw_40 rfl ?_
        refine x_iload_n (pc' := 42) dX3_flaw_41 rfl rfl ?_
        refine x_bipush (pc' := 44) (w := (7 : Int32)) dX3_flaw_42 rfl k_bi_7 ?_
        refine x_irem (pc' := 45) dX3_flaw_44 rfl (by decide) ?_
        refine x_iadd (pc' := 46) dX3_flaw_45 rfl ?_
        exact x_iret dX3_flaw_46 rfl ((tb_dI_ok _ _).trans h)
/-! X7_partNumber (1,) -/
theorem BX7_partNumber_0 {d : Nat} {x1 x2 : Int32} {S : tb_St} {r : Int32 × tb_St} (h : ((tb_cI d mX0_has [.ref 28, .int x1] S).bind fun q5 => (if ¬ q5.1 = 0 then (if ¬ x2 = (6 : Int32) then (tb_ix x1 224).bind fun j39 => (tb_cI d mX7_figure [.int ((q5.2) 30 j39), .int x2] (q5.2)).bind fun q41 => some (q41.1, q41.2) else (tb_ix x1 224).bind fun j27 => some ((q5.2) 31 j27, q5.2)) else some ((-1 : Int32), q5.2))) = some r) : tb_E d mX7_partNumber tb_dI 0 [.ref 1, .int x1, .int x2] [] tb_S S = some r := by
  refine x_aload_n (pc' := 1) dX7_partNumber_0 rfl rfl ?_
  refine x_getR (pc' := 4) dX7_partNumber_1 rfl lf_7_47 rfl sh_1 rfl ?_
  refine x_iload_n (pc' := 5) dX7_partNumber_4 rfl rfl ?_
  obtain ⟨q5, hq5, h⟩ := Option.bind_eq_some_iff.mp h
  refine x_virtI (pc' := 8) (o := 28) (as := [.int x1]) (rest := []) dX7_partNumber_5 rfl lm_7_173 rfl rfl rfl sh_28 rfl hq5 ?_
  by_cases c8 : ¬ q5.1 = 0
  · replace h := (if_pos c8).symm.trans h
    refine x_if_ne_t (pc' := 13) dX7_partNumber_8 (by decide) c8 ?_
    refine x_iload_n (pc' := 14) dX7_partNumber_13 rfl rfl ?_
    refine x_bipush (pc' := 16) (w := (6 : Int32)) dX7_partNumber_14 rfl k_bi_6 ?_
    by_cases c16 : ¬ x2 = (6 : Int32)
    · replace h := (if_pos c16).symm.trans h
      refine x_icmp_ne_t (pc' := 31) dX7_partNumber_16 (by decide) c16 ?_
      refine x_aload_n (pc' := 32) dX7_partNumber_31 rfl rfl ?_
      refine x_getR (pc' := 35) dX7_partNumber_32 rfl lf_7_47 rfl sh_1 rfl ?_
      refine x_getR (pc' := 38) dX7_partNumber_35 rfl lf_7_309 rfl sh_28 rfl ?_
      refine x_iload_n (pc' := 39) dX7_partNumber_38 rfl rfl ?_
      obtain ⟨j39, hj39, h⟩ := Option.bind_eq_some_iff.mp h
      refine x_iaload (pc' := 40) (v := (q5.2) 30 j39) dX7_partNumber_39 rfl sh_30 hj39 rfl ?_
      refine x_iload_n (pc' := 41) dX7_partNumber_40 rfl rfl ?_
      obtain ⟨q41, hq41, h⟩ := Option.bind_eq_some_iff.mp h
      refine x_statI (pc' := 44) (as := [.int ((q5.2) 30 j39), .int x2]) (rest := []) dX7_partNumber_41 rfl lm_7_275 (by decide) rfl rfl rfl rfl hq41 ?_
      exact x_iret dX7_partNumber_44 rfl ((tb_dI_ok _ _).trans h)
    · replace h := (if_neg c16).symm.trans h
      refine x_icmp_ne_f (pc' := 19) dX7_partNumber_16 (by decide) rfl c16 ?_
      refine x_aload_n (pc' := 20) dX7_partNumber_19 rfl rfl ?_
      refine x_getR (pc' := 23) dX7_partNumber_20 rfl lf_7_47 rfl sh_1 rfl ?_
      refine x_getR (pc' := 26) dX7_partNumber_23 rfl lf_7_174 rfl sh_28 rfl ?_
      refine x_iload_n (pc' := 27) dX7_partNumber_26 rfl rfl ?_
      obtain ⟨j27, hj27, h⟩ := Option.bind_eq_some_iff.mp h
      refine x_iaload (pc' := 28) (v := (q5.2) 31 j27) dX7_partNumber_27 rfl sh_31 hj27 rfl ?_
      refine x_goto (pc' := 44) dX7_partNumber_28 (by decide) ?_
      exact x_iret dX7_partNumber_44 rfl ((tb_dI_ok _ _).trans h)
  · replace h := (if_neg c8).symm.trans h
    refine x_if_ne_f (pc' := 11) dX7_partNumber_8 (by decide) rfl c8 ?_
    refine x_iconst (pc' := 12) (w := (-1 : Int32)) dX7_partNumber_11 rfl k_ic_m1 ?_
    exact x_iret dX7_partNumber_12 rfl ((tb_dI_ok _ _).trans h)
theorem MX7_partNumber {d : Nat} {x1 : Int32} {x2 : Int32} {S : tb_St} {r : Int32 × tb_St} (h : ((tb_cI d mX0_has [.ref 28, .int x1] S).bind fun q5 => (if ¬ q5.1 = 0 then (if ¬ x2 = (6 : Int32) then (tb_ix x1 224).bind fun j39 => (tb_cI d mX7_figure [.int ((q5.2) 30 j39), .int x2] (q5.2)).bind fun q41 => some (q41.1, q41.2) else (tb_ix x1 224).bind fun j27 => some ((q5.2) 31 j27, q5.2)) else some ((-1 : Int32), q5.2))) = some r) : tb_cI (d + 1) mX7_partNumber [.ref 1, .int x1, .int x2] S = some r := tb_enI rfl rfl (BX7_partNumber_0 h)
/-! X3_at (38,) -/
theorem BX3_at_0 {d : Nat} {x1 x2 : Int32} {S : tb_St} {r : Int32 × tb_St} (h : ((tb_cI d mX3_hasPlace [.ref 38, .int x1, .int x2] S).bind fun q3 => (if q3.1 = 0 then some ((0 : Int32), q3.2) else (tb_ix x1 4).bind fun j14 => (tb_ix x2 70).bind fun j16 => some ((q3.2) (40 + j14) j16, q3.2))) = some r) : tb_E d mX3_at tb_dI 0 [.ref 38, .int x1, .int x2] [] tb_S S = some r := by
  refine x_aload_n (pc' := 1) dX3_at_0 rfl rfl ?_
  refine x_iload_n (pc' := 2) dX3_at_1 rfl rfl ?_
  refine x_iload_n (pc' := 3) dX3_at_2 rfl rfl ?_
  obtain ⟨q3, hq3, h⟩ := Option.bind_eq_some_iff.mp h
  refine x_virtI (pc' := 6) (o := 38) (as := [.int x1, .int x2]) (rest := []) dX3_at_3 rfl lm_3_24 rfl rfl rfl sh_38 rfl hq3 ?_
  by_cases c6 : q3.1 = 0
  · replace h := (if_pos c6).symm.trans h
    refine x_if_eq_t (pc' := 20) dX3_at_6 (by decide) c6 ?_
    refine x_iconst (pc' := 21) (w := (0 : Int32)) dX3_at_20 rfl k_ic_0 ?_
    exact x_iret dX3_at_21 rfl ((tb_dI_ok _ _).trans h)
  · replace h := (if_neg c6).symm.trans h
    refine x_if_eq_f (pc' := 9) dX3_at_6 (by decide) rfl c6 ?_
    refine x_aload_n (pc' := 10) dX3_at_9 rfl rfl ?_
    refine x_getR (pc' := 13) dX3_at_10 rfl lf_3_11 rfl sh_38 rfl ?_
    refine x_iload_n (pc' := 14) dX3_at_13 rfl rfl ?_
    obtain ⟨j14, hj14, h⟩ := Option.bind_eq_some_iff.mp h
    refine x_aaload (pc' := 15) (o2 := 40 + j14) dX3_at_14 rfl sh_39 rfl hj14 (tb_shr hj14) ?_
    refine x_iload_n (pc' := 16) dX3_at_15 rfl rfl ?_
    obtain ⟨j16, hj16, h⟩ := Option.bind_eq_some_iff.mp h
    refine x_iaload (pc' := 17) (v := (q3.2) (40 + j14) j16) dX3_at_16 rfl (tb_shq hj14) hj16 rfl ?_
    refine x_goto (pc' := 21) dX3_at_17 (by decide) ?_
    exact x_iret dX3_at_21 rfl ((tb_dI_ok _ _).trans h)
theorem MX3_at {d : Nat} {x1 : Int32} {x2 : Int32} {S : tb_St} {r : Int32 × tb_St} (h : ((tb_cI d mX3_hasPlace [.ref 38, .int x1, .int x2] S).bind fun q3 => (if q3.1 = 0 then some ((0 : Int32), q3.2) else (tb_ix x1 4).bind fun j14 => (tb_ix x2 70).bind fun j16 => some ((q3.2) (40 + j14) j16, q3.2))) = some r) : tb_cI (d + 1) mX3_at [.ref 38, .int x1, .int x2] S = some r := tb_enI rfl rfl (BX3_at_0 h)
/-! X3_store (38,) -/
theorem BX3_store_0 {d : Nat} {x1 x2 x3 : Int32} {S : tb_St} {r : tb_St} (h : ((tb_cI d mX3_hasPlace [.ref 38, .int x1, .int x2] S).bind fun q3 => (if q3.1 = 0 then some (q3.2) else (tb_ix x1 4).bind fun j14 => (tb_ix x2 70).bind fun j17 => some (tb_up (q3.2) (40 + j14) j17 x3))) = some r) : tb_E d mX3_store tb_dV 0 [.ref 38, .int x1, .int x2, .int x3] [] tb_S S = some r := by
  refine x_aload_n (pc' := 1) dX3_store_0 rfl rfl ?_
  refine x_iload_n (pc' := 2) dX3_store_1 rfl rfl ?_
  refine x_iload_n (pc' := 3) dX3_store_2 rfl rfl ?_
  obtain ⟨q3, hq3, h⟩ := Option.bind_eq_some_iff.mp h
  refine x_virtI (pc' := 6) (o := 38) (as := [.int x1, .int x2]) (rest := []) dX3_store_3 rfl lm_3_24 rfl rfl rfl sh_38 rfl hq3 ?_
  by_cases c6 : q3.1 = 0
  · replace h := (if_pos c6).symm.trans h
    refine x_if_eq_t (pc' := 18) dX3_store_6 (by decide) c6 ?_
    exact x_vret dX3_store_18 rfl ((tb_dV_ok _).trans h)
  · replace h := (if_neg c6).symm.trans h
    refine x_if_eq_f (pc' := 9) dX3_store_6 (by decide) rfl c6 ?_
    refine x_aload_n (pc' := 10) dX3_store_9 rfl rfl ?_
    refine x_getR (pc' := 13) dX3_store_10 rfl lf_3_11 rfl sh_38 rfl ?_
    refine x_iload_n (pc' := 14) dX3_store_13 rfl rfl ?_
    obtain ⟨j14, hj14, h⟩ := Option.bind_eq_some_iff.mp h
    refine x_aaload (pc' := 15) (o2 := 40 + j14) dX3_store_14 rfl sh_39 rfl hj14 (tb_shr hj14) ?_
    refine x_iload_n (pc' := 16) dX3_store_15 rfl rfl ?_
    refine x_iload_n (pc' := 17) dX3_store_16 rfl rfl ?_
    obtain ⟨j17, hj17, h⟩ := Option.bind_eq_some_iff.mp h
    refine x_iastore (pc' := 18) dX3_store_17 rfl (tb_shq hj14) hj17 ?_
    exact x_vret dX3_store_18 rfl ((tb_dV_ok _).trans h)
theorem MX3_store {d : Nat} {x1 : Int32} {x2 : Int32} {x3 : Int32} {S : tb_St} {r : tb_St} (h : ((tb_cI d mX3_hasPlace [.ref 38, .int x1, .int x2] S).bind fun q3 => (if q3.1 = 0 then some (q3.2) else (tb_ix x1 4).bind fun j14 => (tb_ix x2 70).bind fun j17 => some (tb_up (q3.2) (40 + j14) j17 x3))) = some r) : tb_cV (d + 1) mX3_store [.ref 38, .int x1, .int x2, .int x3] S = some r := tb_enV rfl rfl (BX3_store_0 h)
/-! X3_hasPlace (38,) -/
theorem BX3_hasPlace_0 {d : Nat} {x1 x2 : Int32} {S : tb_St} {r : Int32 × tb_St} (h : ((tb_cI d mX3_has [.ref 38, .int x1] S).bind fun q2 => (if q2.1 = 0 then some ((0 : Int32), q2.2) else (if x2 < 0 then some ((0 : Int32), q2.2) else (tb_ix x1 4).bind fun j18 => (if (q2.2) 44 j18 ≤ x2 then some ((0 : Int32), q2.2) else some ((1 : Int32), q2.2))))) = some r) : tb_E d mX3_hasPlace tb_dI 0 [.ref 38, .int x1, .int x2] [] tb_S S = some r := by
  refine x_aload_n (pc' := 1) dX3_hasPlace_0 rfl rfl ?_
  refine x_iload_n (pc' := 2) dX3_hasPlace_1 rfl rfl ?_
  obtain ⟨q2, hq2, h⟩ := Option.bind_eq_some_iff.mp h
  refine x_virtI (pc' := 5) (o := 38) (as := [.int x1]) (rest := []) dX3_hasPlace_2 rfl lm_3_20 rfl rfl rfl sh_38 rfl hq2 ?_
  by_cases c5 : q2.1 = 0
  · replace h := (if_pos c5).symm.trans h
    refine x_if_eq_t (pc' := 26) dX3_hasPlace_5 (by decide) c5 ?_
    refine x_iconst (pc' := 27) (w := (0 : Int32)) dX3_hasPlace_26 rfl k_ic_0 ?_
    exact x_zret dX3_hasPlace_27 rfl (Or.inl rfl) ((tb_dI_ok _ _).trans h)
  · replace h := (if_neg c5).symm.trans h
    refine x_if_eq_f (pc' := 8) dX3_hasPlace_5 (by decide) rfl c5 ?_
    refine x_iload_n (pc' := 9) dX3_hasPlace_8 rfl rfl ?_
    by_cases c9 : x2 < 0
    · replace h := (if_pos c9).symm.trans h
      refine x_if_lt_t (pc' := 26) dX3_hasPlace_9 (by decide) c9 ?_
      refine x_iconst (pc' := 27) (w := (0 : Int32)) dX3_hasPlace_26 rfl k_ic_0 ?_
      exact x_zret dX3_hasPlace_27 rfl (Or.inl rfl) ((tb_dI_ok _ _).trans h)
    · replace h := (if_neg c9).symm.trans h
      refine x_if_lt_f (pc' := 12) dX3_hasPlace_9 (by decide) rfl c9 ?_
      refine x_iload_n (pc' := 13) dX3_hasPlace_12 rfl rfl ?_
      refine x_aload_n (pc' := 14) dX3_hasPlace_13 rfl rfl ?_
      refine x_getR (pc' := 17) dX3_hasPlace_14 rfl lf_3_16 rfl sh_38 rfl ?_
      refine x_iload_n (pc' := 18) dX3_hasPlace_17 rfl rfl ?_
      obtain ⟨j18, hj18, h⟩ := Option.bind_eq_some_iff.mp h
      refine x_iaload (pc' := 19) (v := (q2.2) 44 j18) dX3_hasPlace_18 rfl sh_44 hj18 rfl ?_
      by_cases c19 : (q2.2) 44 j18 ≤ x2
      · replace h := (if_pos c19).symm.trans h
        refine x_icmp_ge_t (pc' := 26) dX3_hasPlace_19 (by decide) c19 ?_
        refine x_iconst (pc' := 27) (w := (0 : Int32)) dX3_hasPlace_26 rfl k_ic_0 ?_
        exact x_zret dX3_hasPlace_27 rfl (Or.inl rfl) ((tb_dI_ok _ _).trans h)
      · replace h := (if_neg c19).symm.trans h
        refine x_icmp_ge_f (pc' := 22) dX3_hasPlace_19 (by decide) rfl c19 ?_
        refine x_iconst (pc' := 23) (w := (1 : Int32)) dX3_hasPlace_22 rfl k_ic_1 ?_
        refine x_goto (pc' := 27) dX3_hasPlace_23 (by decide) ?_
        exact x_zret dX3_hasPlace_27 rfl (Or.inr rfl) ((tb_dI_ok _ _).trans h)
theorem MX3_hasPlace {d : Nat} {x1 : Int32} {x2 : Int32} {S : tb_St} {r : Int32 × tb_St} (h : ((tb_cI d mX3_has [.ref 38, .int x1] S).bind fun q2 => (if q2.1 = 0 then some ((0 : Int32), q2.2) else (if x2 < 0 then some ((0 : Int32), q2.2) else (tb_ix x1 4).bind fun j18 => (if (q2.2) 44 j18 ≤ x2 then some ((0 : Int32), q2.2) else some ((1 : Int32), q2.2))))) = some r) : tb_cI (d + 1) mX3_hasPlace [.ref 38, .int x1, .int x2] S = some r := tb_enI rfl rfl (BX3_hasPlace_0 h)
/-! X3_holds (38,) -/
theorem BX3_holds_0 {d : Nat} {x1 : Int32} {S : tb_St} {r : Int32 × tb_St} (h : ((tb_cI d mX3_has [.ref 38, .int x1] S).bind fun q2 => (if q2.1 = 0 then some ((0 : Int32), q2.2) else (tb_ix x1 4).bind fun j13 => (if (q2.2) 44 j13 = (-1 : Int32) then some ((0 : Int32), q2.2) else some ((1 : Int32), q2.2)))) = some r) : tb_E d mX3_holds tb_dI 0 [.ref 38, .int x1] [] tb_S S = some r := by
  refine x_aload_n (pc' := 1) dX3_holds_0 rfl rfl ?_
  refine x_iload_n (pc' := 2) dX3_holds_1 rfl rfl ?_
  obtain ⟨q2, hq2, h⟩ := Option.bind_eq_some_iff.mp h
  refine x_virtI (pc' := 5) (o := 38) (as := [.int x1]) (rest := []) dX3_holds_2 rfl lm_3_20 rfl rfl rfl sh_38 rfl hq2 ?_
  by_cases c5 : q2.1 = 0
  · replace h := (if_pos c5).symm.trans h
    refine x_if_eq_t (pc' := 22) dX3_holds_5 (by decide) c5 ?_
    refine x_iconst (pc' := 23) (w := (0 : Int32)) dX3_holds_22 rfl k_ic_0 ?_
    exact x_zret dX3_holds_23 rfl (Or.inl rfl) ((tb_dI_ok _ _).trans h)
  · replace h := (if_neg c5).symm.trans h
    refine x_if_eq_f (pc' := 8) dX3_holds_5 (by decide) rfl c5 ?_
    refine x_aload_n (pc' := 9) dX3_holds_8 rfl rfl ?_
    refine x_getR (pc' := 12) dX3_holds_9 rfl lf_3_16 rfl sh_38 rfl ?_
    refine x_iload_n (pc' := 13) dX3_holds_12 rfl rfl ?_
    obtain ⟨j13, hj13, h⟩ := Option.bind_eq_some_iff.mp h
    refine x_iaload (pc' := 14) (v := (q2.2) 44 j13) dX3_holds_13 rfl sh_44 hj13 rfl ?_
    refine x_iconst (pc' := 15) (w := (-1 : Int32)) dX3_holds_14 rfl k_ic_m1 ?_
    by_cases c15 : (q2.2) 44 j13 = (-1 : Int32)
    · replace h := (if_pos c15).symm.trans h
      refine x_icmp_eq_t (pc' := 22) dX3_holds_15 (by decide) c15 ?_
      refine x_iconst (pc' := 23) (w := (0 : Int32)) dX3_holds_22 rfl k_ic_0 ?_
      exact x_zret dX3_holds_23 rfl (Or.inl rfl) ((tb_dI_ok _ _).trans h)
    · replace h := (if_neg c15).symm.trans h
      refine x_icmp_eq_f (pc' := 18) dX3_holds_15 (by decide) rfl c15 ?_
      refine x_iconst (pc' := 19) (w := (1 : Int32)) dX3_holds_18 rfl k_ic_1 ?_
      refine x_goto (pc' := 23) dX3_holds_19 (by decide) ?_
      exact x_zret dX3_holds_23 rfl (Or.inr rfl) ((tb_dI_ok _ _).trans h)
theorem MX3_holds {d : Nat} {x1 : Int32} {S : tb_St} {r : Int32 × tb_St} (h : ((tb_cI d mX3_has [.ref 38, .int x1] S).bind fun q2 => (if q2.1 = 0 then some ((0 : Int32), q2.2) else (tb_ix x1 4).bind fun j13 => (if (q2.2) 44 j13 = (-1 : Int32) then some ((0 : Int32), q2.2) else some ((1 : Int32), q2.2)))) = some r) : tb_cI (d + 1) mX3_holds [.ref 38, .int x1] S = some r := tb_enI rfl rfl (BX3_holds_0 h)
/-! X8_isRack () -/
theorem BX8_isRack_0 {d : Nat} {x0 : Int32} {S : tb_St} {r : Int32 × tb_St} (h : ((tb_cI d mX8_within [.int x0, .int (0 : Int32), .int (3 : Int32)] S).bind fun q3 => (if q3.1 = 0 ∨ q3.1 = 1 then some (q3.1, q3.2) else none)) = some r) : tb_E d mX8_isRack tb_dI 0 [.int x0] [] tb_S S = some r := by
  refine x_iload_n (pc' := 1) dX8_isRack_0 rfl rfl ?_
  refine x_iconst (pc' := 2) (w := (0 : Int32)) dX8_isRack_1 rfl k_ic_0 ?_
  refine x_iconst (pc' := 3) (w := (3 : Int32)) dX8_isRack_2 rfl k_ic_3 ?_
  obtain ⟨q3, hq3, h⟩ := Option.bind_eq_some_iff.mp h
  refine x_statI (pc' := 6) (as := [.int x0, .int (0 : Int32), .int (3 : Int32)]) (rest := []) dX8_isRack_3 rfl lm_8_80 (by decide) rfl rfl rfl rfl hq3 ?_
  by_cases c6 : q3.1 = 0 ∨ q3.1 = 1
  · replace h := (if_pos c6).symm.trans h
    exact x_zret dX8_isRack_6 rfl c6 ((tb_dI_ok _ _).trans h)
  · replace h := (if_neg c6).symm.trans h
    cases h
theorem MX8_isRack {d : Nat} {x0 : Int32} {S : tb_St} {r : Int32 × tb_St} (h : ((tb_cI d mX8_within [.int x0, .int (0 : Int32), .int (3 : Int32)] S).bind fun q3 => (if q3.1 = 0 ∨ q3.1 = 1 then some (q3.1, q3.2) else none)) = some r) : tb_cI (d + 1) mX8_isRack [.int x0] S = some r := tb_enI rfl rfl (BX8_isRack_0 h)
/-! X3_renew (38,) -/
theorem BX3_renew_0 {d : Nat} {x1 x2 : Int32} {w3 : Value} {S : tb_St} {r : tb_St} (h : ((tb_cI d mX3_has [.ref 38, .int x1] S).bind fun q2 => (if q2.1 = 0 then some (q2.2) else (if x2 < 0 then some (q2.2) else (if x2 ≤ (70 : Int32) then (tb_ix x1 4).bind fun j25 => tb_E d mX3_renew tb_dV 28 [.ref 38, .int x1, .int x2, .int (0 : Int32)] [] tb_S (tb_up (q2.2) 44 j25 x2) else some (q2.2))))) = some r) : tb_E d mX3_renew tb_dV 0 [.ref 38, .int x1, .int x2, w3] [] tb_S S = some r := by
  refine x_aload_n (pc' := 1) dX3_renew_0 rfl rfl ?_
  refine x_iload_n (pc' := 2) dX3_renew_1 rfl rfl ?_
  obtain ⟨q2, hq2, h⟩ := Option.bind_eq_some_iff.mp h
  refine x_virtI (pc' := 5) (o := 38) (as := [.int x1]) (rest := []) dX3_renew_2 rfl lm_3_20 rfl rfl rfl sh_38 rfl hq2 ?_
  by_cases c5 : q2.1 = 0
  · replace h := (if_pos c5).symm.trans h
    refine x_if_eq_t (pc' := 18) dX3_renew_5 (by decide) c5 ?_
    exact x_vret dX3_renew_18 rfl ((tb_dV_ok _).trans h)
  · replace h := (if_neg c5).symm.trans h
    refine x_if_eq_f (pc' := 8) dX3_renew_5 (by decide) rfl c5 ?_
    refine x_iload_n (pc' := 9) dX3_renew_8 rfl rfl ?_
    by_cases c9 : x2 < 0
    · replace h := (if_pos c9).symm.trans h
      refine x_if_lt_t (pc' := 18) dX3_renew_9 (by decide) c9 ?_
      exact x_vret dX3_renew_18 rfl ((tb_dV_ok _).trans h)
    · replace h := (if_neg c9).symm.trans h
      refine x_if_lt_f (pc' := 12) dX3_renew_9 (by decide) rfl c9 ?_
      refine x_iload_n (pc' := 13) dX3_renew_12 rfl rfl ?_
      refine x_bipush (pc' := 15) (w := (70 : Int32)) dX3_renew_13 rfl k_bi_70 ?_
      by_cases c15 : x2 ≤ (70 : Int32)
      · replace h := (if_pos c15).symm.trans h
        refine x_icmp_le_t (pc' := 19) dX3_renew_15 (by decide) c15 ?_
        refine x_aload_n (pc' := 20) dX3_renew_19 rfl rfl ?_
        refine x_getR (pc' := 23) dX3_renew_20 rfl lf_3_16 rfl sh_38 rfl ?_
        refine x_iload_n (pc' := 24) dX3_renew_23 rfl rfl ?_
        refine x_iload_n (pc' := 25) dX3_renew_24 rfl rfl ?_
        obtain ⟨j25, hj25, h⟩ := Option.bind_eq_some_iff.mp h
        refine x_iastore (pc' := 26) dX3_renew_25 rfl sh_44 hj25 ?_
        refine x_iconst (pc' := 27) (w := (0 : Int32)) dX3_renew_26 rfl k_ic_0 ?_
        refine x_istore_n (pc' := 28) (ls' := [.ref 38, .int x1, .int x2, .int (0 : Int32)]) dX3_renew_27 rfl rfl rfl ?_
        exact h
      · replace h := (if_neg c15).symm.trans h
        refine x_icmp_le_f (pc' := 18) dX3_renew_15 (by decide) rfl c15 ?_
        exact x_vret dX3_renew_18 rfl ((tb_dV_ok _).trans h)
theorem MX3_renew {d : Nat} {x1 : Int32} {x2 : Int32} {S : tb_St} {r : tb_St} (h : ((tb_cI d mX3_has [.ref 38, .int x1] S).bind fun q2 => (if q2.1 = 0 then some (q2.2) else (if x2 < 0 then some (q2.2) else (if x2 ≤ (70 : Int32) then (tb_ix x1 4).bind fun j25 => tb_E d mX3_renew tb_dV 28 [.ref 38, .int x1, .int x2, .int (0 : Int32)] [] tb_S (tb_up (q2.2) 44 j25 x2) else some (q2.2))))) = some r) : tb_cV (d + 1) mX3_renew [.ref 38, .int x1, .int x2] S = some r := tb_enV rfl rfl (BX3_renew_0 h)
theorem BX3_renew_28 {d : Nat} {x1 x2 x3 : Int32} {S : tb_St} {r : tb_St} (h : ((if x2 ≤ x3 then some S else (tb_ix x1 4).bind fun j38 => (tb_ix x3 70).bind fun j41 => tb_E d mX3_renew tb_dV 28 [.ref 38, .int x1, .int x2, .int (x3 + (1 : Int32))] [] tb_S (tb_up S (40 + j38) j41 (0 : Int32)))) = some r) : tb_E d mX3_renew tb_dV 28 [.ref 38, .int x1, .int x2, .int x3] [] tb_S S = some r := by
  refine x_iload_n (pc' := 29) dX3_renew_28 rfl rfl ?_
  refine x_iload_n (pc' := 30) dX3_renew_29 rfl rfl ?_
  by_cases c30 : x2 ≤ x3
  · replace h := (if_pos c30).symm.trans h
    refine x_icmp_ge_t (pc' := 48) dX3_renew_30 (by decide) c30 ?_
    exact x_vret dX3_renew_48 rfl ((tb_dV_ok _).trans h)
  · replace h := (if_neg c30).symm.trans h
    refine x_icmp_ge_f (pc' := 33) dX3_renew_30 (by decide) rfl c30 ?_
    refine x_aload_n (pc' := 34) dX3_renew_33 rfl rfl ?_
    refine x_getR (pc' := 37) dX3_renew_34 rfl lf_3_11 rfl sh_38 rfl ?_
    refine x_iload_n (pc' := 38) dX3_renew_37 rfl rfl ?_
    obtain ⟨j38, hj38, h⟩ := Option.bind_eq_some_iff.mp h
    refine x_aaload (pc' := 39) (o2 := 40 + j38) dX3_renew_38 rfl sh_39 rfl hj38 (tb_shr hj38) ?_
    refine x_iload_n (pc' := 40) dX3_renew_39 rfl rfl ?_
    refine x_iconst (pc' := 41) (w := (0 : Int32)) dX3_renew_40 rfl k_ic_0 ?_
    obtain ⟨j41, hj41, h⟩ := Option.bind_eq_some_iff.mp h
    refine x_iastore (pc' := 42) dX3_renew_41 rfl (tb_shq hj38) hj41 ?_
    refine x_iinc (pc' := 45) (w := (1 : Int32)) (ls' := [.ref 38, .int x1, .int x2, .int (x3 + (1 : Int32))]) dX3_renew_42 rfl rfl k_ic_1 rfl ?_
    refine x_goto (pc' := 28) dX3_renew_45 (by decide) ?_
    exact h
/-! X3_has (38,) -/
theorem BX3_has_0 {d : Nat} {x1 : Int32} {S : tb_St} {r : Int32 × tb_St} (h : ((if x1 < 0 then some ((0 : Int32), S) else (if (4 : Int32) ≤ x1 then some ((0 : Int32), S) else some ((1 : Int32), S)))) = some r) : tb_E d mX3_has tb_dI 0 [.ref 38, .int x1] [] tb_S S = some r := by
  refine x_iload_n (pc' := 1) dX3_has_0 rfl rfl ?_
  by_cases c1 : x1 < 0
  · replace h := (if_pos c1).symm.trans h
    refine x_if_lt_t (pc' := 13) dX3_has_1 (by decide) c1 ?_
    refine x_iconst (pc' := 14) (w := (0 : Int32)) dX3_has_13 rfl k_ic_0 ?_
    exact x_zret dX3_has_14 rfl (Or.inl rfl) ((tb_dI_ok _ _).trans h)
  · replace h := (if_neg c1).symm.trans h
    refine x_if_lt_f (pc' := 4) dX3_has_1 (by decide) rfl c1 ?_
    refine x_iload_n (pc' := 5) dX3_has_4 rfl rfl ?_
    refine x_iconst (pc' := 6) (w := (4 : Int32)) dX3_has_5 rfl k_ic_4 ?_
    by_cases c6 : (4 : Int32) ≤ x1
    · replace h := (if_pos c6).symm.trans h
      refine x_icmp_ge_t (pc' := 13) dX3_has_6 (by decide) c6 ?_
      refine x_iconst (pc' := 14) (w := (0 : Int32)) dX3_has_13 rfl k_ic_0 ?_
      exact x_zret dX3_has_14 rfl (Or.inl rfl) ((tb_dI_ok _ _).trans h)
    · replace h := (if_neg c6).symm.trans h
      refine x_icmp_ge_f (pc' := 9) dX3_has_6 (by decide) rfl c6 ?_
      refine x_iconst (pc' := 10) (w := (1 : Int32)) dX3_has_9 rfl k_ic_1 ?_
      refine x_goto (pc' := 14) dX3_has_10 (by decide) ?_
      exact x_zret dX3_has_14 rfl (Or.inr rfl) ((tb_dI_ok _ _).trans h)
theorem MX3_has {d : Nat} {x1 : Int32} {S : tb_St} {r : Int32 × tb_St} (h : ((if x1 < 0 then some ((0 : Int32), S) else (if (4 : Int32) ≤ x1 then some ((0 : Int32), S) else some ((1 : Int32), S)))) = some r) : tb_cI (d + 1) mX3_has [.ref 38, .int x1] S = some r := tb_enI rfl rfl (BX3_has_0 h)
/-! X7_saysWhatWasPaid (1,) -/
theorem BX7_saysWhatWasPaid_0 {d : Nat} {w1 : Value} {S : tb_St} {r : Int32 × tb_St} (h : (tb_E d mX7_saysWhatWasPaid tb_dI 2 [.ref 1, .int (0 : Int32)] [] tb_S S) = some r) : tb_E d mX7_saysWhatWasPaid tb_dI 0 [.ref 1, w1] [] tb_S S = some r := by
  refine x_iconst (pc' := 1) (w := (0 : Int32)) dX7_saysWhatWasPaid_0 rfl k_ic_0 ?_
  refine x_istore_n (pc' := 2) (ls' := [.ref 1, .int (0 : Int32)]) dX7_saysWhatWasPaid_1 rfl rfl rfl ?_
  exact h
theorem MX7_saysWhatWasPaid {d : Nat} {S : tb_St} {r : Int32 × tb_St} (h : (tb_E d mX7_saysWhatWasPaid tb_dI 2 [.ref 1, .int (0 : Int32)] [] tb_S S) = some r) : tb_cI (d + 1) mX7_saysWhatWasPaid [.ref 1] S = some r := tb_enI rfl rfl (BX7_saysWhatWasPaid_0 h)
theorem BX7_saysWhatWasPaid_2 {d : Nat} {x1 : Int32} {S : tb_St} {r : Int32 × tb_St} (h : ((if S 10 2 ≤ x1 then some ((1 : Int32), S) else (tb_ix x1 8).bind fun j25 => (tb_cI d mX6_answer [.ref 24, .int (S 11 j25)] S).bind fun q26 => (tb_ix x1 8).bind fun j37 => (if q26.1 = (q26.2) 12 j37 then tb_E d mX7_saysWhatWasPaid tb_dI 2 [.ref 1, .int (x1 + (1 : Int32))] [] tb_S (q26.2) else some ((0 : Int32), q26.2)))) = some r) : tb_E d mX7_saysWhatWasPaid tb_dI 2 [.ref 1, .int x1] [] tb_S S = some r := by
  refine x_iload_n (pc' := 3) dX7_saysWhatWasPaid_2 rfl rfl ?_
  refine x_aload_n (pc' := 4) dX7_saysWhatWasPaid_3 rfl rfl ?_
  refine x_getR (pc' := 7) dX7_saysWhatWasPaid_4 rfl lf_7_21 rfl sh_1 rfl ?_
  refine x_getI (pc' := 10) (v := S 10 2) dX7_saysWhatWasPaid_7 rfl lf_7_266 rfl sh_10 rfl ?_
  by_cases c10 : S 10 2 ≤ x1
  · replace h := (if_pos c10).symm.trans h
    refine x_icmp_ge_t (pc' := 49) dX7_saysWhatWasPaid_10 (by decide) c10 ?_
    refine x_iconst (pc' := 50) (w := (1 : Int32)) dX7_saysWhatWasPaid_49 rfl k_ic_1 ?_
    exact x_zret dX7_saysWhatWasPaid_50 rfl (Or.inr rfl) ((tb_dI_ok _ _).trans h)
  · replace h := (if_neg c10).symm.trans h
    refine x_icmp_ge_f (pc' := 13) dX7_saysWhatWasPaid_10 (by decide) rfl c10 ?_
    refine x_aload_n (pc' := 14) dX7_saysWhatWasPaid_13 rfl rfl ?_
    refine x_getR (pc' := 17) dX7_saysWhatWasPaid_14 rfl lf_7_40 rfl sh_1 rfl ?_
    refine x_aload_n (pc' := 18) dX7_saysWhatWasPaid_17 rfl rfl ?_
    refine x_getR (pc' := 21) dX7_saysWhatWasPaid_18 rfl lf_7_21 rfl sh_1 rfl ?_
    refine x_getR (pc' := 24) dX7_saysWhatWasPaid_21 rfl lf_7_298 rfl sh_10 rfl ?_
    refine x_iload_n (pc' := 25) dX7_saysWhatWasPaid_24 rfl rfl ?_
    obtain ⟨j25, hj25, h⟩ := Option.bind_eq_some_iff.mp h
    refine x_iaload (pc' := 26) (v := S 11 j25) dX7_saysWhatWasPaid_25 rfl sh_11 hj25 rfl ?_
    obtain ⟨q26, hq26, h⟩ := Option.bind_eq_some_iff.mp h
    refine x_virtI (pc' := 29) (o := 24) (as := [.int (S 11 j25)]) (rest := []) dX7_saysWhatWasPaid_26 rfl lm_7_155 rfl rfl rfl sh_24 rfl hq26 ?_
    refine x_aload_n (pc' := 30) dX7_saysWhatWasPaid_29 rfl rfl ?_
    refine x_getR (pc' := 33) dX7_saysWhatWasPaid_30 rfl lf_7_21 rfl sh_1 rfl ?_
    refine x_getR (pc' := 36) dX7_saysWhatWasPaid_33 rfl lf_7_299 rfl sh_10 rfl ?_
    refine x_iload_n (pc' := 37) dX7_saysWhatWasPaid_36 rfl rfl ?_
    obtain ⟨j37, hj37, h⟩ := Option.bind_eq_some_iff.mp h
    refine x_iaload (pc' := 38) (v := (q26.2) 12 j37) dX7_saysWhatWasPaid_37 rfl sh_12 hj37 rfl ?_
    by_cases c38 : q26.1 = (q26.2) 12 j37
    · replace h := (if_pos c38).symm.trans h
      refine x_icmp_eq_t (pc' := 43) dX7_saysWhatWasPaid_38 (by decide) c38 ?_
      refine x_iinc (pc' := 46) (w := (1 : Int32)) (ls' := [.ref 1, .int (x1 + (1 : Int32))]) dX7_saysWhatWasPaid_43 rfl rfl k_ic_1 rfl ?_
      refine x_goto (pc' := 2) dX7_saysWhatWasPaid_46 (by decide) ?_
      exact h
    · replace h := (if_neg c38).symm.trans h
      refine x_icmp_eq_f (pc' := 41) dX7_saysWhatWasPaid_38 (by decide) rfl c38 ?_
      refine x_iconst (pc' := 42) (w := (0 : Int32)) dX7_saysWhatWasPaid_41 rfl k_ic_0 ?_
      exact x_zret dX7_saysWhatWasPaid_42 rfl (Or.inl rfl) ((tb_dI_ok _ _).trans h)
/-! X1_note (10,) -/
theorem BX1_note_0 {d : Nat} {x1 x2 : Int32} {S : tb_St} {r : Int32 × tb_St} (h : ((if S 10 2 < (8 : Int32) then (tb_ix (S 10 2) 8).bind fun j21 => (tb_ix (S 10 2) 8).bind fun j31 => some ((S 10 2) + (1 : Int32), tb_up (tb_up (tb_up S 11 j21 x1) 12 j31 x2) 10 2 ((S 10 2) + (1 : Int32))) else some ((-4 : Int32), S))) = some r) : tb_E d mX1_note tb_dI 0 [.ref 10, .int x1, .int x2] [] tb_S S = some r := by
  refine x_aload_n (pc' := 1) dX1_note_0 rfl rfl ?_
  refine x_getI (pc' := 4) (v := S 10 2) dX1_note_1 rfl lf_1_18 rfl sh_10 rfl ?_
  refine x_bipush (pc' := 6) (w := (8 : Int32)) dX1_note_4 rfl k_bi_8 ?_
  by_cases c6 : S 10 2 < (8 : Int32)
  · replace h := (if_pos c6).symm.trans h
    refine x_icmp_lt_t (pc' := 12) dX1_note_6 (by decide) c6 ?_
    refine x_aload_n (pc' := 13) dX1_note_12 rfl rfl ?_
    refine x_getR (pc' := 16) dX1_note_13 rfl lf_1_9 rfl sh_10 rfl ?_
    refine x_aload_n (pc' := 17) dX1_note_16 rfl rfl ?_
    refine x_getI (pc' := 20) (v := S 10 2) dX1_note_17 rfl lf_1_18 rfl sh_10 rfl ?_
    refine x_iload_n (pc' := 21) dX1_note_20 rfl rfl ?_
    obtain ⟨j21, hj21, h⟩ := Option.bind_eq_some_iff.mp h
    refine x_iastore (pc' := 22) dX1_note_21 rfl sh_11 hj21 ?_
    refine x_aload_n (pc' := 23) dX1_note_22 rfl rfl ?_
    refine x_getR (pc' := 26) dX1_note_23 rfl lf_1_15 rfl sh_10 rfl ?_
    refine x_aload_n (pc' := 27) dX1_note_26 rfl rfl ?_
    refine x_getI (pc' := 30) (v := S 10 2) dX1_note_27 rfl lf_1_18 rfl sh_10 rfl ?_
    refine x_iload_n (pc' := 31) dX1_note_30 rfl rfl ?_
    obtain ⟨j31, hj31, h⟩ := Option.bind_eq_some_iff.mp h
    refine x_iastore (pc' := 32) dX1_note_31 rfl sh_12 hj31 ?_
    refine x_aload_n (pc' := 33) dX1_note_32 rfl rfl ?_
    refine x_dup (pc' := 34) dX1_note_33 rfl rfl ?_
    refine x_getI (pc' := 37) (v := S 10 2) dX1_note_34 rfl lf_1_18 rfl sh_10 rfl ?_
    refine x_iconst (pc' := 38) (w := (1 : Int32)) dX1_note_37 rfl k_ic_1 ?_
    refine x_iadd (pc' := 39) dX1_note_38 rfl ?_
    refine x_putI (pc' := 42) dX1_note_39 rfl lf_1_18 (Or.inl rfl) sh_10 ?_
    refine x_aload_n (pc' := 43) dX1_note_42 rfl rfl ?_
    refine x_getI (pc' := 46) (v := (S 10 2) + (1 : Int32)) dX1_note_43 rfl lf_1_18 rfl sh_10 rfl ?_
    exact x_iret dX1_note_46 rfl ((tb_dI_ok _ _).trans h)
  · replace h := (if_neg c6).symm.trans h
    refine x_icmp_lt_f (pc' := 9) dX1_note_6 (by decide) rfl c6 ?_
    refine x_bipush (pc' := 11) (w := (-4 : Int32)) dX1_note_9 rfl k_bi_m4 ?_
    exact x_iret dX1_note_11 rfl ((tb_dI_ok _ _).trans h)
theorem MX1_note {d : Nat} {x1 : Int32} {x2 : Int32} {S : tb_St} {r : Int32 × tb_St} (h : ((if S 10 2 < (8 : Int32) then (tb_ix (S 10 2) 8).bind fun j21 => (tb_ix (S 10 2) 8).bind fun j31 => some ((S 10 2) + (1 : Int32), tb_up (tb_up (tb_up S 11 j21 x1) 12 j31 x2) 10 2 ((S 10 2) + (1 : Int32))) else some ((-4 : Int32), S))) = some r) : tb_cI (d + 1) mX1_note [.ref 10, .int x1, .int x2] S = some r := tb_enI rfl rfl (BX1_note_0 h)
/-! X1_forget (10,) -/
theorem BX1_forget_0 {d : Nat} {S : tb_St} {r : tb_St} (h : (some (tb_up S 10 2 (0 : Int32))) = some r) : tb_E d mX1_forget tb_dV 0 [.ref 10] [] tb_S S = some r := by
  refine x_aload_n (pc' := 1) dX1_forget_0 rfl rfl ?_
  refine x_iconst (pc' := 2) (w := (0 : Int32)) dX1_forget_1 rfl k_ic_0 ?_
  refine x_putI (pc' := 5) dX1_forget_2 rfl lf_1_18 (Or.inl rfl) sh_10 ?_
  exact x_vret dX1_forget_5 rfl ((tb_dV_ok _).trans h)
theorem MX1_forget {d : Nat} {S : tb_St} {r : tb_St} (h : (some (tb_up S 10 2 (0 : Int32))) = some r) : tb_cV (d + 1) mX1_forget [.ref 10] S = some r := tb_enV rfl rfl (BX1_forget_0 h)
/-! X8_wouldSay (45,) -/
theorem BX8_wouldSay_0 {d : Nat} {x1 x2 x3 x4 : Int32} {w5 : Value} {S : tb_St} {r : Int32 × tb_St} (h : ((tb_cI d mX8_sayOf [.ref 45, .int x3, .int x4] (tb_up (tb_up (tb_up S 45 17 (-1 : Int32)) 45 19 x1) 45 20 x2)).bind fun q19 => some (q19.1, tb_up (q19.2) 45 19 (-1 : Int32))) = some r) : tb_E d mX8_wouldSay tb_dI 0 [.ref 45, .int x1, .int x2, .int x3, .int x4, w5] [] tb_S S = some r := by
  refine x_aload_n (pc' := 1) dX8_wouldSay_0 rfl rfl ?_
  refine x_iconst (pc' := 2) (w := (-1 : Int32)) dX8_wouldSay_1 rfl k_ic_m1 ?_
  refine x_putI (pc' := 5) dX8_wouldSay_2 rfl lf_8_194 (Or.inl rfl) sh_45 ?_
  refine x_aload_n (pc' := 6) dX8_wouldSay_5 rfl rfl ?_
  refine x_iload_n (pc' := 7) dX8_wouldSay_6 rfl rfl ?_
  refine x_putI (pc' := 10) dX8_wouldSay_7 rfl lf_8_52 (Or.inl rfl) sh_45 ?_
  refine x_aload_n (pc' := 11) dX8_wouldSay_10 rfl rfl ?_
  refine x_iload_n (pc' := 12) dX8_wouldSay_11 rfl rfl ?_
  refine x_putI (pc' := 15) dX8_wouldSay_12 rfl lf_8_201 (Or.inl rfl) sh_45 ?_
  refine x_aload_n (pc' := 16) dX8_wouldSay_15 rfl rfl ?_
  refine x_iload_n (pc' := 17) dX8_wouldSay_16 rfl rfl ?_
  refine x_iload (pc' := 19) dX8_wouldSay_17 rfl rfl ?_
  obtain ⟨q19, hq19, h⟩ := Option.bind_eq_some_iff.mp h
  refine x_virtI (pc' := 22) (o := 45) (as := [.int x3, .int x4]) (rest := []) dX8_wouldSay_19 rfl lm_8_207 rfl rfl rfl sh_45 rfl hq19 ?_
  refine x_istore (pc' := 24) (ls' := [.ref 45, .int x1, .int x2, .int x3, .int x4, .int (q19.1)]) dX8_wouldSay_22 rfl rfl rfl ?_
  refine x_aload_n (pc' := 25) dX8_wouldSay_24 rfl rfl ?_
  refine x_iconst (pc' := 26) (w := (-1 : Int32)) dX8_wouldSay_25 rfl k_ic_m1 ?_
  refine x_putI (pc' := 29) dX8_wouldSay_26 rfl lf_8_52 (Or.inl rfl) sh_45 ?_
  refine x_iload (pc' := 31) dX8_wouldSay_29 rfl rfl ?_
  exact x_iret dX8_wouldSay_31 rfl ((tb_dI_ok _ _).trans h)
theorem MX8_wouldSay {d : Nat} {x1 : Int32} {x2 : Int32} {x3 : Int32} {x4 : Int32} {S : tb_St} {r : Int32 × tb_St} (h : ((tb_cI d mX8_sayOf [.ref 45, .int x3, .int x4] (tb_up (tb_up (tb_up S 45 17 (-1 : Int32)) 45 19 x1) 45 20 x2)).bind fun q19 => some (q19.1, tb_up (q19.2) 45 19 (-1 : Int32))) = some r) : tb_cI (d + 1) mX8_wouldSay [.ref 45, .int x1, .int x2, .int x3, .int x4] S = some r := tb_enI rfl rfl (BX8_wouldSay_0 h)
/-! X8_isFlat (45,) -/
theorem BX8_isFlat_0 {d : Nat} {x1 : Int32} {S : tb_St} {r : Int32 × tb_St} (h : ((tb_cI d mX8_isTerm [.ref 45, .int x1] S).bind fun q2 => (if q2.1 = 0 then some ((0 : Int32), q2.2) else (tb_ix x1 96).bind fun j13 => (if ¬ (q2.2) 46 j13 = 0 then some ((0 : Int32), q2.2) else some ((1 : Int32), q2.2)))) = some r) : tb_E d mX8_isFlat tb_dI 0 [.ref 45, .int x1] [] tb_S S = some r := by
  refine x_aload_n (pc' := 1) dX8_isFlat_0 rfl rfl ?_
  refine x_iload_n (pc' := 2) dX8_isFlat_1 rfl rfl ?_
  obtain ⟨q2, hq2, h⟩ := Option.bind_eq_some_iff.mp h
  refine x_virtI (pc' := 5) (o := 45) (as := [.int x1]) (rest := []) dX8_isFlat_2 rfl lm_8_109 rfl rfl rfl sh_45 rfl hq2 ?_
  by_cases c5 : q2.1 = 0
  · replace h := (if_pos c5).symm.trans h
    refine x_if_eq_t (pc' := 21) dX8_isFlat_5 (by decide) c5 ?_
    refine x_iconst (pc' := 22) (w := (0 : Int32)) dX8_isFlat_21 rfl k_ic_0 ?_
    exact x_zret dX8_isFlat_22 rfl (Or.inl rfl) ((tb_dI_ok _ _).trans h)
  · replace h := (if_neg c5).symm.trans h
    refine x_if_eq_f (pc' := 8) dX8_isFlat_5 (by decide) rfl c5 ?_
    refine x_aload_n (pc' := 9) dX8_isFlat_8 rfl rfl ?_
    refine x_getR (pc' := 12) dX8_isFlat_9 rfl lf_8_9 rfl sh_45 rfl ?_
    refine x_iload_n (pc' := 13) dX8_isFlat_12 rfl rfl ?_
    obtain ⟨j13, hj13, h⟩ := Option.bind_eq_some_iff.mp h
    refine x_iaload (pc' := 14) (v := (q2.2) 46 j13) dX8_isFlat_13 rfl sh_46 hj13 rfl ?_
    by_cases c14 : ¬ (q2.2) 46 j13 = 0
    · replace h := (if_pos c14).symm.trans h
      refine x_if_ne_t (pc' := 21) dX8_isFlat_14 (by decide) c14 ?_
      refine x_iconst (pc' := 22) (w := (0 : Int32)) dX8_isFlat_21 rfl k_ic_0 ?_
      exact x_zret dX8_isFlat_22 rfl (Or.inl rfl) ((tb_dI_ok _ _).trans h)
    · replace h := (if_neg c14).symm.trans h
      refine x_if_ne_f (pc' := 17) dX8_isFlat_14 (by decide) rfl c14 ?_
      refine x_iconst (pc' := 18) (w := (1 : Int32)) dX8_isFlat_17 rfl k_ic_1 ?_
      refine x_goto (pc' := 22) dX8_isFlat_18 (by decide) ?_
      exact x_zret dX8_isFlat_22 rfl (Or.inr rfl) ((tb_dI_ok _ _).trans h)
theorem MX8_isFlat {d : Nat} {x1 : Int32} {S : tb_St} {r : Int32 × tb_St} (h : ((tb_cI d mX8_isTerm [.ref 45, .int x1] S).bind fun q2 => (if q2.1 = 0 then some ((0 : Int32), q2.2) else (tb_ix x1 96).bind fun j13 => (if ¬ (q2.2) 46 j13 = 0 then some ((0 : Int32), q2.2) else some ((1 : Int32), q2.2)))) = some r) : tb_cI (d + 1) mX8_isFlat [.ref 45, .int x1] S = some r := tb_enI rfl rfl (BX8_isFlat_0 h)
/-! X6_suppose (24,) -/
theorem BX6_suppose_0 {d : Nat} {x1 x2 : Int32} {S : tb_St} {r : tb_St} (h : (some (tb_up (tb_up S 24 6 x1) 24 7 x2)) = some r) : tb_E d mX6_suppose tb_dV 0 [.ref 24, .int x1, .int x2] [] tb_S S = some r := by
  refine x_aload_n (pc' := 1) dX6_suppose_0 rfl rfl ?_
  refine x_iload_n (pc' := 2) dX6_suppose_1 rfl rfl ?_
  refine x_putI (pc' := 5) dX6_suppose_2 rfl lf_6_28 (Or.inl rfl) sh_24 ?_
  refine x_aload_n (pc' := 6) dX6_suppose_5 rfl rfl ?_
  refine x_iload_n (pc' := 7) dX6_suppose_6 rfl rfl ?_
  refine x_putI (pc' := 10) dX6_suppose_7 rfl lf_6_31 (Or.inl rfl) sh_24 ?_
  exact x_vret dX6_suppose_10 rfl ((tb_dV_ok _).trans h)
theorem MX6_suppose {d : Nat} {x1 : Int32} {x2 : Int32} {S : tb_St} {r : tb_St} (h : (some (tb_up (tb_up S 24 6 x1) 24 7 x2)) = some r) : tb_cV (d + 1) mX6_suppose [.ref 24, .int x1, .int x2] S = some r := tb_enV rfl rfl (BX6_suppose_0 h)
/-! X7_isFlat (1,) -/
theorem BX7_isFlat_0 {d : Nat} {x1 : Int32} {S : tb_St} {r : Int32 × tb_St} (h : ((tb_cI d mX5_has [.ref 2, .int x1] S).bind fun q5 => (if q5.1 = 0 then some ((0 : Int32), q5.2) else (tb_ix x1 24).bind fun j19 => (if ¬ (q5.2) 3 j19 = 0 then some ((0 : Int32), q5.2) else some ((1 : Int32), q5.2)))) = some r) : tb_E d mX7_isFlat tb_dI 0 [.ref 1, .int x1] [] tb_S S = some r := by
  refine x_aload_n (pc' := 1) dX7_isFlat_0 rfl rfl ?_
  refine x_getR (pc' := 4) dX7_isFlat_1 rfl lf_7_12 rfl sh_1 rfl ?_
  refine x_iload_n (pc' := 5) dX7_isFlat_4 rfl rfl ?_
  obtain ⟨q5, hq5, h⟩ := Option.bind_eq_some_iff.mp h
  refine x_virtI (pc' := 8) (o := 2) (as := [.int x1]) (rest := []) dX7_isFlat_5 rfl lm_7_80 rfl rfl rfl sh_2 rfl hq5 ?_
  by_cases c8 : q5.1 = 0
  · replace h := (if_pos c8).symm.trans h
    refine x_if_eq_t (pc' := 27) dX7_isFlat_8 (by decide) c8 ?_
    refine x_iconst (pc' := 28) (w := (0 : Int32)) dX7_isFlat_27 rfl k_ic_0 ?_
    exact x_zret dX7_isFlat_28 rfl (Or.inl rfl) ((tb_dI_ok _ _).trans h)
  · replace h := (if_neg c8).symm.trans h
    refine x_if_eq_f (pc' := 11) dX7_isFlat_8 (by decide) rfl c8 ?_
    refine x_aload_n (pc' := 12) dX7_isFlat_11 rfl rfl ?_
    refine x_getR (pc' := 15) dX7_isFlat_12 rfl lf_7_12 rfl sh_1 rfl ?_
    refine x_getR (pc' := 18) dX7_isFlat_15 rfl lf_7_115 rfl sh_2 rfl ?_
    refine x_iload_n (pc' := 19) dX7_isFlat_18 rfl rfl ?_
    obtain ⟨j19, hj19, h⟩ := Option.bind_eq_some_iff.mp h
    refine x_iaload (pc' := 20) (v := (q5.2) 3 j19) dX7_isFlat_19 rfl sh_3 hj19 rfl ?_
    by_cases c20 : ¬ (q5.2) 3 j19 = 0
    · replace h := (if_pos c20).symm.trans h
      refine x_if_ne_t (pc' := 27) dX7_isFlat_20 (by decide) c20 ?_
      refine x_iconst (pc' := 28) (w := (0 : Int32)) dX7_isFlat_27 rfl k_ic_0 ?_
      exact x_zret dX7_isFlat_28 rfl (Or.inl rfl) ((tb_dI_ok _ _).trans h)
    · replace h := (if_neg c20).symm.trans h
      refine x_if_ne_f (pc' := 23) dX7_isFlat_20 (by decide) rfl c20 ?_
      refine x_iconst (pc' := 24) (w := (1 : Int32)) dX7_isFlat_23 rfl k_ic_1 ?_
      refine x_goto (pc' := 28) dX7_isFlat_24 (by decide) ?_
      exact x_zret dX7_isFlat_28 rfl (Or.inr rfl) ((tb_dI_ok _ _).trans h)
theorem MX7_isFlat {d : Nat} {x1 : Int32} {S : tb_St} {r : Int32 × tb_St} (h : ((tb_cI d mX5_has [.ref 2, .int x1] S).bind fun q5 => (if q5.1 = 0 then some ((0 : Int32), q5.2) else (tb_ix x1 24).bind fun j19 => (if ¬ (q5.2) 3 j19 = 0 then some ((0 : Int32), q5.2) else some ((1 : Int32), q5.2)))) = some r) : tb_cI (d + 1) mX7_isFlat [.ref 1, .int x1] S = some r := tb_enI rfl rfl (BX7_isFlat_0 h)
/-! X8_isIn () -/
theorem BX8_isIn_0 {d : Nat} {x0 x1 : Int32} {w2 : Value} {S : tb_St} {r : Int32 × tb_St} (h : (tb_E d mX8_isIn tb_dI 2 [.int x0, .int x1, .int (0 : Int32)] [] tb_S S) = some r) : tb_E d mX8_isIn tb_dI 0 [.int x0, .int x1, w2] [] tb_S S = some r := by
  refine x_iconst (pc' := 1) (w := (0 : Int32)) dX8_isIn_0 rfl k_ic_0 ?_
  refine x_istore_n (pc' := 2) (ls' := [.int x0, .int x1, .int (0 : Int32)]) dX8_isIn_1 rfl rfl rfl ?_
  exact h
theorem MX8_isIn {d : Nat} {x0 : Int32} {x1 : Int32} {S : tb_St} {r : Int32 × tb_St} (h : (tb_E d mX8_isIn tb_dI 2 [.int x0, .int x1, .int (0 : Int32)] [] tb_S S) = some r) : tb_cI (d + 1) mX8_isIn [.int x0, .int x1] S = some r := tb_enI rfl rfl (BX8_isIn_0 h)
theorem BX8_isIn_2 {d : Nat} {x0 x1 x2 : Int32} {S : tb_St} {r : Int32 × tb_St} (h : ((if (3 : Int32) ≤ x2 then some ((1 : Int32), S) else (tb_cI d mX8_part [.int x0, .int x2] S).bind fun q9 => (tb_cI d mX8_figure [.int x1, .int ((2 : Int32) * x2)] (q9.2)).bind fun q16 => (tb_cI d mX8_figure [.int x1, .int (((2 : Int32) * x2) + (1 : Int32))] (q16.2)).bind fun q25 => (tb_cI d mX8_within [.int (q9.1), .int (q16.1), .int (q25.1)] (q25.2)).bind fun q28 => (if ¬ q28.1 = 0 then tb_E d mX8_isIn tb_dI 2 [.int x0, .int x1, .int (x2 + (1 : Int32))] [] tb_S (q28.2) else some ((0 : Int32), q28.2)))) = some r) : tb_E d mX8_isIn tb_dI 2 [.int x0, .int x1, .int x2] [] tb_S S = some r := by
  refine x_iload_n (pc' := 3) dX8_isIn_2 rfl rfl ?_
  refine x_iconst (pc' := 4) (w := (3 : Int32)) dX8_isIn_3 rfl k_ic_3 ?_
  by_cases c4 : (3 : Int32) ≤ x2
  · replace h := (if_pos c4).symm.trans h
    refine x_icmp_ge_t (pc' := 42) dX8_isIn_4 (by decide) c4 ?_
    refine x_iconst (pc' := 43) (w := (1 : Int32)) dX8_isIn_42 rfl k_ic_1 ?_
    exact x_zret dX8_isIn_43 rfl (Or.inr rfl) ((tb_dI_ok _ _).trans h)
  · replace h := (if_neg c4).symm.trans h
    refine x_icmp_ge_f (pc' := 7) dX8_isIn_4 (by decide) rfl c4 ?_
    refine x_iload_n (pc' := 8) dX8_isIn_7 rfl rfl ?_
    refine x_iload_n (pc' := 9) dX8_isIn_8 rfl rfl ?_
    obtain ⟨q9, hq9, h⟩ := Option.bind_eq_some_iff.mp h
    refine x_statI (pc' := 12) (as := [.int x0, .int x2]) (rest := []) dX8_isIn_9 rfl lm_8_93 (by decide) rfl rfl rfl rfl hq9 ?_
    refine x_iload_n (pc' := 13) dX8_isIn_12 rfl rfl ?_
    refine x_iconst (pc' := 14) (w := (2 : Int32)) dX8_isIn_13 rfl k_ic_2 ?_
    refine x_iload_n (pc' := 15) dX8_isIn_14 rfl rfl ?_
    refine x_imul (pc' := 16) dX8_isIn_15 rfl ?_
    obtain ⟨q16, hq16, h⟩ := Option.bind_eq_some_iff.mp h
    refine x_statI (pc' := 19) (as := [.int x1, .int ((2 : Int32) * x2)]) (rest := [.int (q9.1)]) dX8_isIn_16 rfl lm_8_85 (by decide) rfl rfl rfl rfl hq16 ?_
    refine x_iload_n (pc' := 20) dX8_isIn_19 rfl rfl ?_
    refine x_iconst (pc' := 21) (w := (2 : Int32)) dX8_isIn_20 rfl k_ic_2 ?_
    refine x_iload_n (pc' := 22) dX8_isIn_21 rfl rfl ?_
    refine x_imul (pc' := 23) dX8_isIn_22 rfl ?_
    refine x_iconst (pc' := 24) (w := (1 : Int32)) dX8_isIn_23 rfl k_ic_1 ?_
    refine x_iadd (pc' := 25) dX8_isIn_24 rfl ?_
    obtain ⟨q25, hq25, h⟩ := Option.bind_eq_some_iff.mp h
    refine x_statI (pc' := 28) (as := [.int x1, .int (((2 : Int32) * x2) + (1 : Int32))]) (rest := [.int (q16.1), .int (q9.1)]) dX8_isIn_25 rfl lm_8_85 (by decide) rfl rfl rfl rfl hq25 ?_
    obtain ⟨q28, hq28, h⟩ := Option.bind_eq_some_iff.mp h
    refine x_statI (pc' := 31) (as := [.int (q9.1), .int (q16.1), .int (q25.1)]) (rest := []) dX8_isIn_28 rfl lm_8_80 (by decide) rfl rfl rfl rfl hq28 ?_
    by_cases c31 : ¬ q28.1 = 0
    · replace h := (if_pos c31).symm.trans h
      refine x_if_ne_t (pc' := 36) dX8_isIn_31 (by decide) c31 ?_
      refine x_iinc (pc' := 39) (w := (1 : Int32)) (ls' := [.int x0, .int x1, .int (x2 + (1 : Int32))]) dX8_isIn_36 rfl rfl k_ic_1 rfl ?_
      refine x_goto (pc' := 2) dX8_isIn_39 (by decide) ?_
      exact h
    · replace h := (if_neg c31).symm.trans h
      refine x_if_ne_f (pc' := 34) dX8_isIn_31 (by decide) rfl c31 ?_
      refine x_iconst (pc' := 35) (w := (0 : Int32)) dX8_isIn_34 rfl k_ic_0 ?_
      exact x_zret dX8_isIn_35 rfl (Or.inl rfl) ((tb_dI_ok _ _).trans h)
/-! X7_sharedSide () -/
theorem BX7_sharedSide_0 {d : Nat} {x0 x1 x2 : Int32} {w3 w4 : Value} {S : tb_St} {r : Int32 × tb_St} (h : ((tb_cI d mX7_figure [.int x0, .int x2] S).bind fun q2 => (tb_cI d mX7_figure [.int x1, .int x2] (q2.2)).bind fun q7 => (tb_cI d mX7_figure [.int x0, .int (x2 + (1 : Int32))] (q7.2)).bind fun q18 => (tb_cI d mX7_figure [.int x1, .int (x2 + (1 : Int32))] (q18.2)).bind fun q25 => some (tb_max (0 : Int32) (((tb_min (q18.1) (q25.1)) - (tb_max (q2.1) (q7.1))) + (1 : Int32)), q25.2)) = some r) : tb_E d mX7_sharedSide tb_dI 0 [.int x0, .int x1, .int x2, w3, w4] [] tb_S S = some r := by
  refine x_iload_n (pc' := 1) dX7_sharedSide_0 rfl rfl ?_
  refine x_iload_n (pc' := 2) dX7_sharedSide_1 rfl rfl ?_
  obtain ⟨q2, hq2, h⟩ := Option.bind_eq_some_iff.mp h
  refine x_statI (pc' := 5) (as := [.int x0, .int x2]) (rest := []) dX7_sharedSide_2 rfl lm_7_275 (by decide) rfl rfl rfl rfl hq2 ?_
  refine x_iload_n (pc' := 6) dX7_sharedSide_5 rfl rfl ?_
  refine x_iload_n (pc' := 7) dX7_sharedSide_6 rfl rfl ?_
  obtain ⟨q7, hq7, h⟩ := Option.bind_eq_some_iff.mp h
  refine x_statI (pc' := 10) (as := [.int x1, .int x2]) (rest := [.int (q2.1)]) dX7_sharedSide_7 rfl lm_7_275 (by decide) rfl rfl rfl rfl hq7 ?_
  refine x_mm (pc' := 13) (w := tb_max (q2.1) (q7.1)) dX7_sharedSide_10 rfl ln_7_228 lx_7_228 rfl rfl ?_
  refine x_istore_n (pc' := 14) (ls' := [.int x0, .int x1, .int x2, .int (tb_max (q2.1) (q7.1)), w4]) dX7_sharedSide_13 rfl rfl rfl ?_
  refine x_iload_n (pc' := 15) dX7_sharedSide_14 rfl rfl ?_
  refine x_iload_n (pc' := 16) dX7_sharedSide_15 rfl rfl ?_
  refine x_iconst (pc' := 17) (w := (1 : Int32)) dX7_sharedSide_16 rfl k_ic_1 ?_
  refine x_iadd (pc' := 18) dX7_sharedSide_17 rfl ?_
  obtain ⟨q18, hq18, h⟩ := Option.bind_eq_some_iff.mp h
  refine x_statI (pc' := 21) (as := [.int x0, .int (x2 + (1 : Int32))]) (rest := []) dX7_sharedSide_18 rfl lm_7_275 (by decide) rfl rfl rfl rfl hq18 ?_
  refine x_iload_n (pc' := 22) dX7_sharedSide_21 rfl rfl ?_
  refine x_iload_n (pc' := 23) dX7_sharedSide_22 rfl rfl ?_
  refine x_iconst (pc' := 24) (w := (1 : Int32)) dX7_sharedSide_23 rfl k_ic_1 ?_
  refine x_iadd (pc' := 25) dX7_sharedSide_24 rfl ?_
  obtain ⟨q25, hq25, h⟩ := Option.bind_eq_some_iff.mp h
  refine x_statI (pc' := 28) (as := [.int x1, .int (x2 + (1 : Int32))]) (rest := [.int (q18.1)]) dX7_sharedSide_25 rfl lm_7_275 (by decide) rfl rfl rfl rfl hq25 ?_
  refine x_mm (pc' := 31) (w := tb_min (q18.1) (q25.1)) dX7_sharedSide_28 rfl ln_7_292 lx_7_292 rfl rfl ?_
  refine x_istore (pc' := 33) (ls' := [.int x0, .int x1, .int x2, .int (tb_max (q2.1) (q7.1)), .int (tb_min (q18.1) (q25.1))]) dX7_sharedSide_31 rfl rfl rfl ?_
  refine x_iconst (pc' := 34) (w := (0 : Int32)) dX7_sharedSide_33 rfl k_ic_0 ?_
  refine x_iload (pc' := 36) dX7_sharedSide_34 rfl rfl ?_
  refine x_iload_n (pc' := 37) dX7_sharedSide_36 rfl rfl ?_
  refine x_isub (pc' := 38) dX7_sharedSide_37 rfl ?_
  refine x_iconst (pc' := 39) (w := (1 : Int32)) dX7_sharedSide_38 rfl k_ic_1 ?_
  refine x_iadd (pc' := 40) dX7_sharedSide_39 rfl ?_
  refine x_mm (pc' := 43) (w := tb_max (0 : Int32) (((tb_min (q18.1) (q25.1)) - (tb_max (q2.1) (q7.1))) + (1 : Int32))) dX7_sharedSide_40 rfl ln_7_228 lx_7_228 rfl rfl ?_
  exact x_iret dX7_sharedSide_43 rfl ((tb_dI_ok _ _).trans h)
theorem MX7_sharedSide {d : Nat} {x0 : Int32} {x1 : Int32} {x2 : Int32} {S : tb_St} {r : Int32 × tb_St} (h : ((tb_cI d mX7_figure [.int x0, .int x2] S).bind fun q2 => (tb_cI d mX7_figure [.int x1, .int x2] (q2.2)).bind fun q7 => (tb_cI d mX7_figure [.int x0, .int (x2 + (1 : Int32))] (q7.2)).bind fun q18 => (tb_cI d mX7_figure [.int x1, .int (x2 + (1 : Int32))] (q18.2)).bind fun q25 => some (tb_max (0 : Int32) (((tb_min (q18.1) (q25.1)) - (tb_max (q2.1) (q7.1))) + (1 : Int32)), q25.2)) = some r) : tb_cI (d + 1) mX7_sharedSide [.int x0, .int x1, .int x2] S = some r := tb_enI rfl rfl (BX7_sharedSide_0 h)
/-! X8_tells_2 (45, 56) -/
theorem BX8_tells_2_0 {d : Nat} {x1 : Int32} {w3 : Value} {S : tb_St} {r : tb_St} (h : (tb_E d mX8_tells tb_dV 2 [.ref 45, .int x1, .ref 56, .int (0 : Int32)] [] tb_S S) = some r) : tb_E d mX8_tells tb_dV 0 [.ref 45, .int x1, .ref 56, w3] [] tb_S S = some r := by
  refine x_iconst (pc' := 1) (w := (0 : Int32)) dX8_tells_0 rfl k_ic_0 ?_
  refine x_istore_n (pc' := 2) (ls' := [.ref 45, .int x1, .ref 56, .int (0 : Int32)]) dX8_tells_1 rfl rfl rfl ?_
  exact h
theorem MX8_tells_2 {d : Nat} {x1 : Int32} {S : tb_St} {r : tb_St} (h : (tb_E d mX8_tells tb_dV 2 [.ref 45, .int x1, .ref 56, .int (0 : Int32)] [] tb_S S) = some r) : tb_cV (d + 1) mX8_tells [.ref 45, .int x1, .ref 56] S = some r := tb_enV rfl rfl (BX8_tells_2_0 h)
theorem BX8_tells_2_2 {d : Nat} {x1 x3 : Int32} {S : tb_St} {r : tb_St} (h : ((if (224 : Int32) ≤ x3 then some S else (tb_cI d mX8_sayOf [.ref 45, .int x1, .int x3] S).bind fun q14 => (tb_ix x3 224).bind fun j17 => tb_E d mX8_tells tb_dV 2 [.ref 45, .int x1, .ref 56, .int (x3 + (1 : Int32))] [] tb_S (tb_up (q14.2) 56 j17 (q14.1)))) = some r) : tb_E d mX8_tells tb_dV 2 [.ref 45, .int x1, .ref 56, .int x3] [] tb_S S = some r := by
  refine x_iload_n (pc' := 3) dX8_tells_2 rfl rfl ?_
  refine x_sipush (pc' := 6) (w := (224 : Int32)) dX8_tells_3 rfl k_si_224 ?_
  by_cases c6 : (224 : Int32) ≤ x3
  · replace h := (if_pos c6).symm.trans h
    refine x_icmp_ge_t (pc' := 24) dX8_tells_6 (by decide) c6 ?_
    exact x_vret dX8_tells_24 rfl ((tb_dV_ok _).trans h)
  · replace h := (if_neg c6).symm.trans h
    refine x_icmp_ge_f (pc' := 9) dX8_tells_6 (by decide) rfl c6 ?_
    refine x_aload_n (pc' := 10) dX8_tells_9 rfl rfl ?_
    refine x_iload_n (pc' := 11) dX8_tells_10 rfl rfl ?_
    refine x_aload_n (pc' := 12) dX8_tells_11 rfl rfl ?_
    refine x_iload_n (pc' := 13) dX8_tells_12 rfl rfl ?_
    refine x_iload_n (pc' := 14) dX8_tells_13 rfl rfl ?_
    obtain ⟨q14, hq14, h⟩ := Option.bind_eq_some_iff.mp h
    refine x_virtI (pc' := 17) (o := 45) (as := [.int x1, .int x3]) (rest := [.int x3, .ref 56]) dX8_tells_14 rfl lm_8_207 rfl rfl rfl sh_45 rfl hq14 ?_
    obtain ⟨j17, hj17, h⟩ := Option.bind_eq_some_iff.mp h
    refine x_iastore (pc' := 18) dX8_tells_17 rfl sh_56 hj17 ?_
    refine x_iinc (pc' := 21) (w := (1 : Int32)) (ls' := [.ref 45, .int x1, .ref 56, .int (x3 + (1 : Int32))]) dX8_tells_18 rfl rfl k_ic_1 rfl ?_
    refine x_goto (pc' := 2) dX8_tells_21 (by decide) ?_
    exact h
/-! X7_isIdle (1,) -/
theorem BX7_isIdle_0 {d : Nat} {x1 : Int32} {w2 w3 : Value} {S : tb_St} {r : Int32 × tb_St} (h : (tb_E d mX7_isIdle tb_dI 2 [.ref 1, .int x1, .int (0 : Int32), w3] [] tb_S S) = some r) : tb_E d mX7_isIdle tb_dI 0 [.ref 1, .int x1, w2, w3] [] tb_S S = some r := by
  refine x_iconst (pc' := 1) (w := (0 : Int32)) dX7_isIdle_0 rfl k_ic_0 ?_
  refine x_istore_n (pc' := 2) (ls' := [.ref 1, .int x1, .int (0 : Int32), w3]) dX7_isIdle_1 rfl rfl rfl ?_
  exact h
theorem MX7_isIdle {d : Nat} {x1 : Int32} {S : tb_St} {r : Int32 × tb_St} (h : (tb_E d mX7_isIdle tb_dI 2 [.ref 1, .int x1, .int (0 : Int32), tb_jk] [] tb_S S) = some r) : tb_cI (d + 1) mX7_isIdle [.ref 1, .int x1] S = some r := tb_enI rfl rfl (BX7_isIdle_0 h)
theorem BX7_isIdle_2 {d : Nat} {x1 x2 : Int32} {w3 : Value} {S : tb_St} {r : Int32 × tb_St} (h : ((if (224 : Int32) ≤ x2 then some ((1 : Int32), S) else (tb_cV d mX6_silence [.ref 24, .int (-1 : Int32)] S).bind fun q14 => (tb_cI d mX6_answer [.ref 24, .int x2] q14).bind fun q22 => (tb_cV d mX6_silence [.ref 24, .int x1] (q22.2)).bind fun q31 => (tb_cI d mX6_answer [.ref 24, .int x2] q31).bind fun q39 => (if q39.1 = q22.1 then tb_E d mX7_isIdle tb_dI 2 [.ref 1, .int x1, .int (x2 + (1 : Int32)), .int (q22.1)] [] tb_S (q39.2) else some ((0 : Int32), q39.2)))) = some r) : tb_E d mX7_isIdle tb_dI 2 [.ref 1, .int x1, .int x2, w3] [] tb_S S = some r := by
  refine x_iload_n (pc' := 3) dX7_isIdle_2 rfl rfl ?_
  refine x_sipush (pc' := 6) (w := (224 : Int32)) dX7_isIdle_3 rfl k_si_224 ?_
  by_cases c6 : (224 : Int32) ≤ x2
  · replace h := (if_pos c6).symm.trans h
    refine x_icmp_ge_t (pc' := 54) dX7_isIdle_6 (by decide) c6 ?_
    refine x_iconst (pc' := 55) (w := (1 : Int32)) dX7_isIdle_54 rfl k_ic_1 ?_
    exact x_zret dX7_isIdle_55 rfl (Or.inr rfl) ((tb_dI_ok _ _).trans h)
  · replace h := (if_neg c6).symm.trans h
    refine x_icmp_ge_f (pc' := 9) dX7_isIdle_6 (by decide) rfl c6 ?_
    refine x_aload_n (pc' := 10) dX7_isIdle_9 rfl rfl ?_
    refine x_getR (pc' := 13) dX7_isIdle_10 rfl lf_7_40 rfl sh_1 rfl ?_
    refine x_iconst (pc' := 14) (w := (-1 : Int32)) dX7_isIdle_13 rfl k_ic_m1 ?_
    obtain ⟨q14, hq14, h⟩ := Option.bind_eq_some_iff.mp h
    refine x_virtV (pc' := 17) (o := 24) (as := [.int (-1 : Int32)]) (rest := []) dX7_isIdle_14 rfl lm_7_295 rfl rfl rfl sh_24 rfl hq14 ?_
    refine x_aload_n (pc' := 18) dX7_isIdle_17 rfl rfl ?_
    refine x_getR (pc' := 21) dX7_isIdle_18 rfl lf_7_40 rfl sh_1 rfl ?_
    refine x_iload_n (pc' := 22) dX7_isIdle_21 rfl rfl ?_
    obtain ⟨q22, hq22, h⟩ := Option.bind_eq_some_iff.mp h
    refine x_virtI (pc' := 25) (o := 24) (as := [.int x2]) (rest := []) dX7_isIdle_22 rfl lm_7_155 rfl rfl rfl sh_24 rfl hq22 ?_
    refine x_istore_n (pc' := 26) (ls' := [.ref 1, .int x1, .int x2, .int (q22.1)]) dX7_isIdle_25 rfl rfl rfl ?_
    refine x_aload_n (pc' := 27) dX7_isIdle_26 rfl rfl ?_
    refine x_getR (pc' := 30) dX7_isIdle_27 rfl lf_7_40 rfl sh_1 rfl ?_
    refine x_iload_n (pc' := 31) dX7_isIdle_30 rfl rfl ?_
    obtain ⟨q31, hq31, h⟩ := Option.bind_eq_some_iff.mp h
    refine x_virtV (pc' := 34) (o := 24) (as := [.int x1]) (rest := []) dX7_isIdle_31 rfl lm_7_295 rfl rfl rfl sh_24 rfl hq31 ?_
    refine x_aload_n (pc' := 35) dX7_isIdle_34 rfl rfl ?_
    refine x_getR (pc' := 38) dX7_isIdle_35 rfl lf_7_40 rfl sh_1 rfl ?_
    refine x_iload_n (pc' := 39) dX7_isIdle_38 rfl rfl ?_
    obtain ⟨q39, hq39, h⟩ := Option.bind_eq_some_iff.mp h
    refine x_virtI (pc' := 42) (o := 24) (as := [.int x2]) (rest := []) dX7_isIdle_39 rfl lm_7_155 rfl rfl rfl sh_24 rfl hq39 ?_
    refine x_iload_n (pc' := 43) dX7_isIdle_42 rfl rfl ?_
    by_cases c43 : q39.1 = q22.1
    · replace h := (if_pos c43).symm.trans h
      refine x_icmp_eq_t (pc' := 48) dX7_isIdle_43 (by decide) c43 ?_
      refine x_iinc (pc' := 51) (w := (1 : Int32)) (ls' := [.ref 1, .int x1, .int (x2 + (1 : Int32)), .int (q22.1)]) dX7_isIdle_48 rfl rfl k_ic_1 rfl ?_
      refine x_goto (pc' := 2) dX7_isIdle_51 (by decide) ?_
      exact h
    · replace h := (if_neg c43).symm.trans h
      refine x_icmp_eq_f (pc' := 46) dX7_isIdle_43 (by decide) rfl c43 ?_
      refine x_iconst (pc' := 47) (w := (0 : Int32)) dX7_isIdle_46 rfl k_ic_0 ?_
      exact x_zret dX7_isIdle_47 rfl (Or.inl rfl) ((tb_dI_ok _ _).trans h)
/-! X8_meets (45,) -/
theorem BX8_meets_0 {d : Nat} {x1 : Int32} {w2 : Value} {S : tb_St} {r : tb_St} (h : ((tb_ix x1 96).bind fun j5 => (if ¬ S 46 j5 = (2 : Int32) then tb_E d mX8_meets tb_dV 38 [.ref 45, .int x1, .int (S 46 j5)] [] tb_S S else (if ¬ S 45 16 = S 45 17 then tb_E d mX8_meets tb_dV 38 [.ref 45, .int x1, .int (S 46 j5)] [] tb_S (tb_up S 45 16 ((S 45 16) + (1 : Int32))) else tb_E d mX8_meets tb_dV 38 [.ref 45, .int x1, .int (S 46 j5)] [] tb_S (tb_up (tb_up S 45 18 x1) 45 16 ((S 45 16) + (1 : Int32)))))) = some r) : tb_E d mX8_meets tb_dV 0 [.ref 45, .int x1, w2] [] tb_S S = some r := by
  refine x_aload_n (pc' := 1) dX8_meets_0 rfl rfl ?_
  refine x_getR (pc' := 4) dX8_meets_1 rfl lf_8_9 rfl sh_45 rfl ?_
  refine x_iload_n (pc' := 5) dX8_meets_4 rfl rfl ?_
  obtain ⟨j5, hj5, h⟩ := Option.bind_eq_some_iff.mp h
  refine x_iaload (pc' := 6) (v := S 46 j5) dX8_meets_5 rfl sh_46 hj5 rfl ?_
  refine x_istore_n (pc' := 7) (ls' := [.ref 45, .int x1, .int (S 46 j5)]) dX8_meets_6 rfl rfl rfl ?_
  refine x_iload_n (pc' := 8) dX8_meets_7 rfl rfl ?_
  refine x_iconst (pc' := 9) (w := (2 : Int32)) dX8_meets_8 rfl k_ic_2 ?_
  by_cases c9 : ¬ S 46 j5 = (2 : Int32)
  · replace h := (if_pos c9).symm.trans h
    refine x_icmp_ne_t (pc' := 38) dX8_meets_9 (by decide) c9 ?_
    exact h
  · replace h := (if_neg c9).symm.trans h
    refine x_icmp_ne_f (pc' := 12) dX8_meets_9 (by decide) rfl c9 ?_
    refine x_aload_n (pc' := 13) dX8_meets_12 rfl rfl ?_
    refine x_getI (pc' := 16) (v := S 45 16) dX8_meets_13 rfl lf_8_188 rfl sh_45 rfl ?_
    refine x_aload_n (pc' := 17) dX8_meets_16 rfl rfl ?_
    refine x_getI (pc' := 20) (v := S 45 17) dX8_meets_17 rfl lf_8_194 rfl sh_45 rfl ?_
    by_cases c20 : ¬ S 45 16 = S 45 17
    · replace h := (if_pos c20).symm.trans h
      refine x_icmp_ne_t (pc' := 28) dX8_meets_20 (by decide) c20 ?_
      refine x_aload_n (pc' := 29) dX8_meets_28 rfl rfl ?_
      refine x_dup (pc' := 30) dX8_meets_29 rfl rfl ?_
      refine x_getI (pc' := 33) (v := S 45 16) dX8_meets_30 rfl lf_8_188 rfl sh_45 rfl ?_
      refine x_iconst (pc' := 34) (w := (1 : Int32)) dX8_meets_33 rfl k_ic_1 ?_
      refine x_iadd (pc' := 35) dX8_meets_34 rfl ?_
      refine x_putI (pc' := 38) dX8_meets_35 rfl lf_8_188 (Or.inl rfl) sh_45 ?_
      exact h
    · replace h := (if_neg c20).symm.trans h
      refine x_icmp_ne_f (pc' := 23) dX8_meets_20 (by decide) rfl c20 ?_
      refine x_aload_n (pc' := 24) dX8_meets_23 rfl rfl ?_
      refine x_iload_n (pc' := 25) dX8_meets_24 rfl rfl ?_
      refine x_putI (pc' := 28) dX8_meets_25 rfl lf_8_242 (Or.inl rfl) sh_45 ?_
      refine x_aload_n (pc' := 29) dX8_meets_28 rfl rfl ?_
      refine x_dup (pc' := 30) dX8_meets_29 rfl rfl ?_
      refine x_getI (pc' := 33) (v := S 45 16) dX8_meets_30 rfl lf_8_188 rfl sh_45 rfl ?_
      refine x_iconst (pc' := 34) (w := (1 : Int32)) dX8_meets_33 rfl k_ic_1 ?_
      refine x_iadd (pc' := 35) dX8_meets_34 rfl ?_
      refine x_putI (pc' := 38) dX8_meets_35 rfl lf_8_188 (Or.inl rfl) sh_45 ?_
      exact h
theorem MX8_meets {d : Nat} {x1 : Int32} {S : tb_St} {r : tb_St} (h : ((tb_ix x1 96).bind fun j5 => (if ¬ S 46 j5 = (2 : Int32) then tb_E d mX8_meets tb_dV 38 [.ref 45, .int x1, .int (S 46 j5)] [] tb_S S else (if ¬ S 45 16 = S 45 17 then tb_E d mX8_meets tb_dV 38 [.ref 45, .int x1, .int (S 46 j5)] [] tb_S (tb_up S 45 16 ((S 45 16) + (1 : Int32))) else tb_E d mX8_meets tb_dV 38 [.ref 45, .int x1, .int (S 46 j5)] [] tb_S (tb_up (tb_up S 45 18 x1) 45 16 ((S 45 16) + (1 : Int32)))))) = some r) : tb_cV (d + 1) mX8_meets [.ref 45, .int x1] S = some r := tb_enV rfl rfl (BX8_meets_0 h)
theorem BX8_meets_38 {d : Nat} {x1 : Int32} {w2 : Value} {S : tb_St} {r : tb_St} (h : ((tb_ix x1 96).bind fun j43 => (if S 48 j43 < 0 then tb_E d mX8_meets tb_dV 57 [.ref 45, .int x1, w2] [] tb_S S else (tb_ix x1 96).bind fun j53 => (tb_cV d mX8_meets [.ref 45, .int (S 48 j53)] S).bind fun q54 => tb_E d mX8_meets tb_dV 57 [.ref 45, .int x1, w2] [] tb_S q54)) = some r) : tb_E d mX8_meets tb_dV 38 [.ref 45, .int x1, w2] [] tb_S S = some r := by
  refine x_aload_n (pc' := 39) dX8_meets_38 rfl rfl ?_
  refine x_getR (pc' := 42) dX8_meets_39 rfl lf_8_18 rfl sh_45 rfl ?_
  refine x_iload_n (pc' := 43) dX8_meets_42 rfl rfl ?_
  obtain ⟨j43, hj43, h⟩ := Option.bind_eq_some_iff.mp h
  refine x_iaload (pc' := 44) (v := S 48 j43) dX8_meets_43 rfl sh_48 hj43 rfl ?_
  by_cases c44 : S 48 j43 < 0
  · replace h := (if_pos c44).symm.trans h
    refine x_if_lt_t (pc' := 57) dX8_meets_44 (by decide) c44 ?_
    exact h
  · replace h := (if_neg c44).symm.trans h
    refine x_if_lt_f (pc' := 47) dX8_meets_44 (by decide) rfl c44 ?_
    refine x_aload_n (pc' := 48) dX8_meets_47 rfl rfl ?_
    refine x_aload_n (pc' := 49) dX8_meets_48 rfl rfl ?_
    refine x_getR (pc' := 52) dX8_meets_49 rfl lf_8_18 rfl sh_45 rfl ?_
    refine x_iload_n (pc' := 53) dX8_meets_52 rfl rfl ?_
    obtain ⟨j53, hj53, h⟩ := Option.bind_eq_some_iff.mp h
    refine x_iaload (pc' := 54) (v := S 48 j53) dX8_meets_53 rfl sh_48 hj53 rfl ?_
    obtain ⟨q54, hq54, h⟩ := Option.bind_eq_some_iff.mp h
    refine x_virtV (pc' := 57) (o := 45) (as := [.int (S 48 j53)]) (rest := []) dX8_meets_54 rfl lm_8_245 rfl rfl rfl sh_45 rfl hq54 ?_
    exact h
theorem BX8_meets_57 {d : Nat} {x1 : Int32} {w2 : Value} {S : tb_St} {r : tb_St} (h : ((tb_ix x1 96).bind fun j62 => (if S 49 j62 < 0 then some S else (tb_ix x1 96).bind fun j72 => (tb_cV d mX8_meets [.ref 45, .int (S 49 j72)] S).bind fun q73 => some q73)) = some r) : tb_E d mX8_meets tb_dV 57 [.ref 45, .int x1, w2] [] tb_S S = some r := by
  refine x_aload_n (pc' := 58) dX8_meets_57 rfl rfl ?_
  refine x_getR (pc' := 61) dX8_meets_58 rfl lf_8_21 rfl sh_45 rfl ?_
  refine x_iload_n (pc' := 62) dX8_meets_61 rfl rfl ?_
  obtain ⟨j62, hj62, h⟩ := Option.bind_eq_some_iff.mp h
  refine x_iaload (pc' := 63) (v := S 49 j62) dX8_meets_62 rfl sh_49 hj62 rfl ?_
  by_cases c63 : S 49 j62 < 0
  · replace h := (if_pos c63).symm.trans h
    refine x_if_lt_t (pc' := 76) dX8_meets_63 (by decide) c63 ?_
    exact x_vret dX8_meets_76 rfl ((tb_dV_ok _).trans h)
  · replace h := (if_neg c63).symm.trans h
    refine x_if_lt_f (pc' := 66) dX8_meets_63 (by decide) rfl c63 ?_
    refine x_aload_n (pc' := 67) dX8_meets_66 rfl rfl ?_
    refine x_aload_n (pc' := 68) dX8_meets_67 rfl rfl ?_
    refine x_getR (pc' := 71) dX8_meets_68 rfl lf_8_21 rfl sh_45 rfl ?_
    refine x_iload_n (pc' := 72) dX8_meets_71 rfl rfl ?_
    obtain ⟨j72, hj72, h⟩ := Option.bind_eq_some_iff.mp h
    refine x_iaload (pc' := 73) (v := S 49 j72) dX8_meets_72 rfl sh_49 hj72 rfl ?_
    obtain ⟨q73, hq73, h⟩ := Option.bind_eq_some_iff.mp h
    refine x_virtV (pc' := 76) (o := 45) (as := [.int (S 49 j72)]) (rest := []) dX8_meets_73 rfl lm_8_245 rfl rfl rfl sh_45 rfl hq73 ?_
    exact x_vret dX8_meets_76 rfl ((tb_dV_ok _).trans h)
/-! X6_ruleCount (24,) -/
theorem BX6_ruleCount_0 {d : Nat} {w1 w2 : Value} {S : tb_St} {r : Int32 × tb_St} (h : (tb_E d mX6_ruleCount tb_dI 4 [.ref 24, .int (0 : Int32), .int (0 : Int32)] [] tb_S S) = some r) : tb_E d mX6_ruleCount tb_dI 0 [.ref 24, w1, w2] [] tb_S S = some r := by
  refine x_iconst (pc' := 1) (w := (0 : Int32)) dX6_ruleCount_0 rfl k_ic_0 ?_
  refine x_istore_n (pc' := 2) (ls' := [.ref 24, .int (0 : Int32), w2]) dX6_ruleCount_1 rfl rfl rfl ?_
  refine x_iconst (pc' := 3) (w := (0 : Int32)) dX6_ruleCount_2 rfl k_ic_0 ?_
  refine x_istore_n (pc' := 4) (ls' := [.ref 24, .int (0 : Int32), .int (0 : Int32)]) dX6_ruleCount_3 rfl rfl rfl ?_
  exact h
theorem MX6_ruleCount {d : Nat} {S : tb_St} {r : Int32 × tb_St} (h : (tb_E d mX6_ruleCount tb_dI 4 [.ref 24, .int (0 : Int32), .int (0 : Int32)] [] tb_S S) = some r) : tb_cI (d + 1) mX6_ruleCount [.ref 24] S = some r := tb_enI rfl rfl (BX6_ruleCount_0 h)
theorem BX6_ruleCount_4 {d : Nat} {x1 x2 : Int32} {S : tb_St} {r : Int32 × tb_St} (h : ((if S 24 4 ≤ x2 then some (x1, S) else (tb_cI d mX6_isRule [.ref 24, .int x2] S).bind fun q14 => (if q14.1 = 0 then tb_E d mX6_ruleCount tb_dI 4 [.ref 24, .int x1, .int (x2 + (1 : Int32))] [] tb_S (q14.2) else tb_E d mX6_ruleCount tb_dI 4 [.ref 24, .int (x1 + (1 : Int32)), .int (x2 + (1 : Int32))] [] tb_S (q14.2)))) = some r) : tb_E d mX6_ruleCount tb_dI 4 [.ref 24, .int x1, .int x2] [] tb_S S = some r := by
  refine x_iload_n (pc' := 5) dX6_ruleCount_4 rfl rfl ?_
  refine x_aload_n (pc' := 6) dX6_ruleCount_5 rfl rfl ?_
  refine x_getI (pc' := 9) (v := S 24 4) dX6_ruleCount_6 rfl lf_6_21 rfl sh_24 rfl ?_
  by_cases c9 : S 24 4 ≤ x2
  · replace h := (if_pos c9).symm.trans h
    refine x_icmp_ge_t (pc' := 29) dX6_ruleCount_9 (by decide) c9 ?_
    refine x_iload_n (pc' := 30) dX6_ruleCount_29 rfl rfl ?_
    exact x_iret dX6_ruleCount_30 rfl ((tb_dI_ok _ _).trans h)
  · replace h := (if_neg c9).symm.trans h
    refine x_icmp_ge_f (pc' := 12) dX6_ruleCount_9 (by decide) rfl c9 ?_
    refine x_aload_n (pc' := 13) dX6_ruleCount_12 rfl rfl ?_
    refine x_iload_n (pc' := 14) dX6_ruleCount_13 rfl rfl ?_
    obtain ⟨q14, hq14, h⟩ := Option.bind_eq_some_iff.mp h
    refine x_virtI (pc' := 17) (o := 24) (as := [.int x2]) (rest := []) dX6_ruleCount_14 rfl lm_6_90 rfl rfl rfl sh_24 rfl hq14 ?_
    by_cases c17 : q14.1 = 0
    · replace h := (if_pos c17).symm.trans h
      refine x_if_eq_t (pc' := 23) dX6_ruleCount_17 (by decide) c17 ?_
      refine x_iinc (pc' := 26) (w := (1 : Int32)) (ls' := [.ref 24, .int x1, .int (x2 + (1 : Int32))]) dX6_ruleCount_23 rfl rfl k_ic_1 rfl ?_
      refine x_goto (pc' := 4) dX6_ruleCount_26 (by decide) ?_
      exact h
    · replace h := (if_neg c17).symm.trans h
      refine x_if_eq_f (pc' := 20) dX6_ruleCount_17 (by decide) rfl c17 ?_
      refine x_iinc (pc' := 23) (w := (1 : Int32)) (ls' := [.ref 24, .int (x1 + (1 : Int32)), .int x2]) dX6_ruleCount_20 rfl rfl k_ic_1 rfl ?_
      refine x_iinc (pc' := 26) (w := (1 : Int32)) (ls' := [.ref 24, .int (x1 + (1 : Int32)), .int (x2 + (1 : Int32))]) dX6_ruleCount_23 rfl rfl k_ic_1 rfl ?_
      refine x_goto (pc' := 4) dX6_ruleCount_26 (by decide) ?_
      exact h
/-! X6_termAt (24,) -/
theorem BX6_termAt_0 {d : Nat} {x1 : Int32} {S : tb_St} {r : Int32 × tb_St} (h : ((if x1 < 0 then some ((-1 : Int32), S) else (if S 24 4 ≤ x1 then some ((-1 : Int32), S) else (tb_ix x1 40).bind fun j17 => some (S 25 j17, S)))) = some r) : tb_E d mX6_termAt tb_dI 0 [.ref 24, .int x1] [] tb_S S = some r := by
  refine x_iload_n (pc' := 1) dX6_termAt_0 rfl rfl ?_
  by_cases c1 : x1 < 0
  · replace h := (if_pos c1).symm.trans h
    refine x_if_lt_t (pc' := 21) dX6_termAt_1 (by decide) c1 ?_
    refine x_iconst (pc' := 22) (w := (-1 : Int32)) dX6_termAt_21 rfl k_ic_m1 ?_
    exact x_iret dX6_termAt_22 rfl ((tb_dI_ok _ _).trans h)
  · replace h := (if_neg c1).symm.trans h
    refine x_if_lt_f (pc' := 4) dX6_termAt_1 (by decide) rfl c1 ?_
    refine x_iload_n (pc' := 5) dX6_termAt_4 rfl rfl ?_
    refine x_aload_n (pc' := 6) dX6_termAt_5 rfl rfl ?_
    refine x_getI (pc' := 9) (v := S 24 4) dX6_termAt_6 rfl lf_6_21 rfl sh_24 rfl ?_
    by_cases c9 : S 24 4 ≤ x1
    · replace h := (if_pos c9).symm.trans h
      refine x_icmp_ge_t (pc' := 21) dX6_termAt_9 (by decide) c9 ?_
      refine x_iconst (pc' := 22) (w := (-1 : Int32)) dX6_termAt_21 rfl k_ic_m1 ?_
      exact x_iret dX6_termAt_22 rfl ((tb_dI_ok _ _).trans h)
    · replace h := (if_neg c9).symm.trans h
      refine x_icmp_ge_f (pc' := 12) dX6_termAt_9 (by decide) rfl c9 ?_
      refine x_aload_n (pc' := 13) dX6_termAt_12 rfl rfl ?_
      refine x_getR (pc' := 16) dX6_termAt_13 rfl lf_6_9 rfl sh_24 rfl ?_
      refine x_iload_n (pc' := 17) dX6_termAt_16 rfl rfl ?_
      obtain ⟨j17, hj17, h⟩ := Option.bind_eq_some_iff.mp h
      refine x_iaload (pc' := 18) (v := S 25 j17) dX6_termAt_17 rfl sh_25 hj17 rfl ?_
      refine x_goto (pc' := 22) dX6_termAt_18 (by decide) ?_
      exact x_iret dX6_termAt_22 rfl ((tb_dI_ok _ _).trans h)
theorem MX6_termAt {d : Nat} {x1 : Int32} {S : tb_St} {r : Int32 × tb_St} (h : ((if x1 < 0 then some ((-1 : Int32), S) else (if S 24 4 ≤ x1 then some ((-1 : Int32), S) else (tb_ix x1 40).bind fun j17 => some (S 25 j17, S)))) = some r) : tb_cI (d + 1) mX6_termAt [.ref 24, .int x1] S = some r := tb_enI rfl rfl (BX6_termAt_0 h)
/-! X6_placeOfRule (24,) -/
theorem BX6_placeOfRule_0 {d : Nat} {x1 : Int32} {w2 w3 : Value} {S : tb_St} {r : Int32 × tb_St} (h : (tb_E d mX6_placeOfRule tb_dI 4 [.ref 24, .int x1, .int (0 : Int32), .int (0 : Int32)] [] tb_S S) = some r) : tb_E d mX6_placeOfRule tb_dI 0 [.ref 24, .int x1, w2, w3] [] tb_S S = some r := by
  refine x_iconst (pc' := 1) (w := (0 : Int32)) dX6_placeOfRule_0 rfl k_ic_0 ?_
  refine x_istore_n (pc' := 2) (ls' := [.ref 24, .int x1, .int (0 : Int32), w3]) dX6_placeOfRule_1 rfl rfl rfl ?_
  refine x_iconst (pc' := 3) (w := (0 : Int32)) dX6_placeOfRule_2 rfl k_ic_0 ?_
  refine x_istore_n (pc' := 4) (ls' := [.ref 24, .int x1, .int (0 : Int32), .int (0 : Int32)]) dX6_placeOfRule_3 rfl rfl rfl ?_
  exact h
theorem MX6_placeOfRule {d : Nat} {x1 : Int32} {S : tb_St} {r : Int32 × tb_St} (h : (tb_E d mX6_placeOfRule tb_dI 4 [.ref 24, .int x1, .int (0 : Int32), .int (0 : Int32)] [] tb_S S) = some r) : tb_cI (d + 1) mX6_placeOfRule [.ref 24, .int x1] S = some r := tb_enI rfl rfl (BX6_placeOfRule_0 h)
theorem BX6_placeOfRule_4 {d : Nat} {x1 x2 x3 : Int32} {S : tb_St} {r : Int32 × tb_St} (h : ((if S 24 4 ≤ x3 then some ((-1 : Int32), S) else (tb_cI d mX6_isRule [.ref 24, .int x3] S).bind fun q14 => (if q14.1 = 0 then tb_E d mX6_placeOfRule tb_dI 4 [.ref 24, .int x1, .int x2, .int (x3 + (1 : Int32))] [] tb_S (q14.2) else (if ¬ x2 = x1 then tb_E d mX6_placeOfRule tb_dI 4 [.ref 24, .int x1, .int (x2 + (1 : Int32)), .int (x3 + (1 : Int32))] [] tb_S (q14.2) else some (x3, q14.2))))) = some r) : tb_E d mX6_placeOfRule tb_dI 4 [.ref 24, .int x1, .int x2, .int x3] [] tb_S S = some r := by
  refine x_iload_n (pc' := 5) dX6_placeOfRule_4 rfl rfl ?_
  refine x_aload_n (pc' := 6) dX6_placeOfRule_5 rfl rfl ?_
  refine x_getI (pc' := 9) (v := S 24 4) dX6_placeOfRule_6 rfl lf_6_21 rfl sh_24 rfl ?_
  by_cases c9 : S 24 4 ≤ x3
  · replace h := (if_pos c9).symm.trans h
    refine x_icmp_ge_t (pc' := 36) dX6_placeOfRule_9 (by decide) c9 ?_
    refine x_iconst (pc' := 37) (w := (-1 : Int32)) dX6_placeOfRule_36 rfl k_ic_m1 ?_
    exact x_iret dX6_placeOfRule_37 rfl ((tb_dI_ok _ _).trans h)
  · replace h := (if_neg c9).symm.trans h
    refine x_icmp_ge_f (pc' := 12) dX6_placeOfRule_9 (by decide) rfl c9 ?_
    refine x_aload_n (pc' := 13) dX6_placeOfRule_12 rfl rfl ?_
    refine x_iload_n (pc' := 14) dX6_placeOfRule_13 rfl rfl ?_
    obtain ⟨q14, hq14, h⟩ := Option.bind_eq_some_iff.mp h
    refine x_virtI (pc' := 17) (o := 24) (as := [.int x3]) (rest := []) dX6_placeOfRule_14 rfl lm_6_90 rfl rfl rfl sh_24 rfl hq14 ?_
    by_cases c17 : q14.1 = 0
    · replace h := (if_pos c17).symm.trans h
      refine x_if_eq_t (pc' := 30) dX6_placeOfRule_17 (by decide) c17 ?_
      refine x_iinc (pc' := 33) (w := (1 : Int32)) (ls' := [.ref 24, .int x1, .int x2, .int (x3 + (1 : Int32))]) dX6_placeOfRule_30 rfl rfl k_ic_1 rfl ?_
      refine x_goto (pc' := 4) dX6_placeOfRule_33 (by decide) ?_
      exact h
    · replace h := (if_neg c17).symm.trans h
      refine x_if_eq_f (pc' := 20) dX6_placeOfRule_17 (by decide) rfl c17 ?_
      refine x_iload_n (pc' := 21) dX6_placeOfRule_20 rfl rfl ?_
      refine x_iload_n (pc' := 22) dX6_placeOfRule_21 rfl rfl ?_
      by_cases c22 : ¬ x2 = x1
      · replace h := (if_pos c22).symm.trans h
        refine x_icmp_ne_t (pc' := 27) dX6_placeOfRule_22 (by decide) c22 ?_
        refine x_iinc (pc' := 30) (w := (1 : Int32)) (ls' := [.ref 24, .int x1, .int (x2 + (1 : Int32)), .int x3]) dX6_placeOfRule_27 rfl rfl k_ic_1 rfl ?_
        refine x_iinc (pc' := 33) (w := (1 : Int32)) (ls' := [.ref 24, .int x1, .int (x2 + (1 : Int32)), .int (x3 + (1 : Int32))]) dX6_placeOfRule_30 rfl rfl k_ic_1 rfl ?_
        refine x_goto (pc' := 4) dX6_placeOfRule_33 (by decide) ?_
        exact h
      · replace h := (if_neg c22).symm.trans h
        refine x_icmp_ne_f (pc' := 25) dX6_placeOfRule_22 (by decide) rfl c22 ?_
        refine x_iload_n (pc' := 26) dX6_placeOfRule_25 rfl rfl ?_
        exact x_iret dX6_placeOfRule_26 rfl ((tb_dI_ok _ _).trans h)
/-! X7_secondOfPair () -/
theorem BX7_secondOfPair_0 {d : Nat} {x0 : Int32} {S : tb_St} {r : Int32 × tb_St} (h : (some ((tb_rem x0 (1000 : Int32)) + (-5 : Int32), S)) = some r) : tb_E d mX7_secondOfPair tb_dI 0 [.int x0] [] tb_S S = some r := by
  refine x_iload_n (pc' := 1) dX7_secondOfPair_0 rfl rfl ?_
  refine x_sipush (pc' := 4) (w := (1000 : Int32)) dX7_secondOfPair_1 rfl k_si_1000 ?_
  refine x_irem (pc' := 5) dX7_secondOfPair_4 rfl (by decide) ?_
  refine x_bipush (pc' := 7) (w := (-5 : Int32)) dX7_secondOfPair_5 rfl k_bi_m5 ?_
  refine x_iadd (pc' := 8) dX7_secondOfPair_7 rfl ?_
  exact x_iret dX7_secondOfPair_8 rfl ((tb_dI_ok _ _).trans h)
theorem MX7_secondOfPair {d : Nat} {x0 : Int32} {S : tb_St} {r : Int32 × tb_St} (h : (some ((tb_rem x0 (1000 : Int32)) + (-5 : Int32), S)) = some r) : tb_cI (d + 1) mX7_secondOfPair [.int x0] S = some r := tb_enI rfl rfl (BX7_secondOfPair_0 h)
/-! X7_firstOfPair () -/
theorem BX7_firstOfPair_0 {d : Nat} {x0 : Int32} {S : tb_St} {r : Int32 × tb_St} (h : (some ((x0 / (1000 : Int32)) + (-5 : Int32), S)) = some r) : tb_E d mX7_firstOfPair tb_dI 0 [.int x0] [] tb_S S = some r := by
  refine x_iload_n (pc' := 1) dX7_firstOfPair_0 rfl rfl ?_
  refine x_sipush (pc' := 4) (w := (1000 : Int32)) dX7_firstOfPair_1 rfl k_si_1000 ?_
  refine x_idiv (pc' := 5) dX7_firstOfPair_4 rfl (by decide) ?_
  refine x_bipush (pc' := 7) (w := (-5 : Int32)) dX7_firstOfPair_5 rfl k_bi_m5 ?_
  refine x_iadd (pc' := 8) dX7_firstOfPair_7 rfl ?_
  exact x_iret dX7_firstOfPair_8 rfl ((tb_dI_ok _ _).trans h)
theorem MX7_firstOfPair {d : Nat} {x0 : Int32} {S : tb_St} {r : Int32 × tb_St} (h : (some ((x0 / (1000 : Int32)) + (-5 : Int32), S)) = some r) : tb_cI (d + 1) mX7_firstOfPair [.int x0] S = some r := tb_enI rfl rfl (BX7_firstOfPair_0 h)
/-! X7_boxDiffs (1,) -/
theorem BX7_boxDiffs_0 {d : Nat} {x1 x2 : Int32} {w3 w4 w5 : Value} {S : tb_St} {r : tb_St} (h : ((tb_cV d mX6_unfold [.ref 24, .int x1] S).bind fun q5 => tb_E d mX7_boxDiffs tb_dV 10 [.ref 1, .int x1, .int x2, .int (0 : Int32), w4, w5] [] tb_S q5) = some r) : tb_E d mX7_boxDiffs tb_dV 0 [.ref 1, .int x1, .int x2, w3, w4, w5] [] tb_S S = some r := by
  refine x_aload_n (pc' := 1) dX7_boxDiffs_0 rfl rfl ?_
  refine x_getR (pc' := 4) dX7_boxDiffs_1 rfl lf_7_40 rfl sh_1 rfl ?_
  refine x_iload_n (pc' := 5) dX7_boxDiffs_4 rfl rfl ?_
  obtain ⟨q5, hq5, h⟩ := Option.bind_eq_some_iff.mp h
  refine x_virtV (pc' := 8) (o := 24) (as := [.int x1]) (rest := []) dX7_boxDiffs_5 rfl lm_7_152 rfl rfl rfl sh_24 rfl hq5 ?_
  refine x_iconst (pc' := 9) (w := (0 : Int32)) dX7_boxDiffs_8 rfl k_ic_0 ?_
  refine x_istore_n (pc' := 10) (ls' := [.ref 1, .int x1, .int x2, .int (0 : Int32), w4, w5]) dX7_boxDiffs_9 rfl rfl rfl ?_
  exact h
theorem MX7_boxDiffs {d : Nat} {x1 : Int32} {x2 : Int32} {S : tb_St} {r : tb_St} (h : ((tb_cV d mX6_unfold [.ref 24, .int x1] S).bind fun q5 => tb_E d mX7_boxDiffs tb_dV 10 [.ref 1, .int x1, .int x2, .int (0 : Int32), tb_jk, tb_jk] [] tb_S q5) = some r) : tb_cV (d + 1) mX7_boxDiffs [.ref 1, .int x1, .int x2] S = some r := tb_enV rfl rfl (BX7_boxDiffs_0 h)
theorem BX7_boxDiffs_10 {d : Nat} {x2 x3 : Int32} {w1 w4 w5 : Value} {S : tb_St} {r : tb_St} (h : ((if (224 : Int32) ≤ x3 then (tb_cV d mX6_unfold [.ref 24, .int x2] S).bind fun q45 => tb_E d mX7_boxDiffs tb_dV 50 [.ref 1, w1, .int x2, .int (0 : Int32), w4, w5] [] tb_S q45 else (tb_cI d mX6_answer [.ref 24, .int x3] S).bind fun q30 => (tb_ix x3 224).bind fun j33 => tb_E d mX7_boxDiffs tb_dV 10 [.ref 1, w1, .int x2, .int (x3 + (1 : Int32)), w4, w5] [] tb_S (tb_up (q30.2) 29 j33 (q30.1)))) = some r) : tb_E d mX7_boxDiffs tb_dV 10 [.ref 1, w1, .int x2, .int x3, w4, w5] [] tb_S S = some r := by
  refine x_iload_n (pc' := 11) dX7_boxDiffs_10 rfl rfl ?_
  refine x_sipush (pc' := 14) (w := (224 : Int32)) dX7_boxDiffs_11 rfl k_si_224 ?_
  by_cases c14 : (224 : Int32) ≤ x3
  · replace h := (if_pos c14).symm.trans h
    refine x_icmp_ge_t (pc' := 40) dX7_boxDiffs_14 (by decide) c14 ?_
    refine x_aload_n (pc' := 41) dX7_boxDiffs_40 rfl rfl ?_
    refine x_getR (pc' := 44) dX7_boxDiffs_41 rfl lf_7_40 rfl sh_1 rfl ?_
    refine x_iload_n (pc' := 45) dX7_boxDiffs_44 rfl rfl ?_
    obtain ⟨q45, hq45, h⟩ := Option.bind_eq_some_iff.mp h
    refine x_virtV (pc' := 48) (o := 24) (as := [.int x2]) (rest := []) dX7_boxDiffs_45 rfl lm_7_152 rfl rfl rfl sh_24 rfl hq45 ?_
    refine x_iconst (pc' := 49) (w := (0 : Int32)) dX7_boxDiffs_48 rfl k_ic_0 ?_
    refine x_istore_n (pc' := 50) (ls' := [.ref 1, w1, .int x2, .int (0 : Int32), w4, w5]) dX7_boxDiffs_49 rfl rfl rfl ?_
    exact h
  · replace h := (if_neg c14).symm.trans h
    refine x_icmp_ge_f (pc' := 17) dX7_boxDiffs_14 (by decide) rfl c14 ?_
    refine x_aload_n (pc' := 18) dX7_boxDiffs_17 rfl rfl ?_
    refine x_getR (pc' := 21) dX7_boxDiffs_18 rfl lf_7_47 rfl sh_1 rfl ?_
    refine x_getR (pc' := 24) dX7_boxDiffs_21 rfl lf_7_300 rfl sh_28 rfl ?_
    refine x_iload_n (pc' := 25) dX7_boxDiffs_24 rfl rfl ?_
    refine x_aload_n (pc' := 26) dX7_boxDiffs_25 rfl rfl ?_
    refine x_getR (pc' := 29) dX7_boxDiffs_26 rfl lf_7_40 rfl sh_1 rfl ?_
    refine x_iload_n (pc' := 30) dX7_boxDiffs_29 rfl rfl ?_
    obtain ⟨q30, hq30, h⟩ := Option.bind_eq_some_iff.mp h
    refine x_virtI (pc' := 33) (o := 24) (as := [.int x3]) (rest := [.int x3, .ref 29]) dX7_boxDiffs_30 rfl lm_7_155 rfl rfl rfl sh_24 rfl hq30 ?_
    obtain ⟨j33, hj33, h⟩ := Option.bind_eq_some_iff.mp h
    refine x_iastore (pc' := 34) dX7_boxDiffs_33 rfl sh_29 hj33 ?_
    refine x_iinc (pc' := 37) (w := (1 : Int32)) (ls' := [.ref 1, w1, .int x2, .int (x3 + (1 : Int32)), w4, w5]) dX7_boxDiffs_34 rfl rfl k_ic_1 rfl ?_
    refine x_goto (pc' := 10) dX7_boxDiffs_37 (by decide) ?_
    exact h
theorem BX7_boxDiffs_50 {d : Nat} {x3 : Int32} {w1 w2 w4 w5 : Value} {S : tb_St} {r : tb_St} (h : ((if (224 : Int32) ≤ x3 then (tb_cV d mX0_takeAll [.ref 28] S).bind fun q115 => some q115 else (tb_ix x3 224).bind fun j65 => (tb_cI d mX6_answer [.ref 24, .int x3] S).bind fun q73 => (if ¬ S 29 j65 = q73.1 then (tb_cI d mX7_pair [.int (S 29 j65), .int (q73.1)] (q73.2)).bind fun q101 => (tb_ix x3 224).bind fun j104 => tb_E d mX7_boxDiffs tb_dV 50 [.ref 1, w1, w2, .int (x3 + (1 : Int32)), .int (S 29 j65), .int (q73.1)] [] tb_S (tb_up (q101.2) 29 j104 (q101.1)) else (tb_ix x3 224).bind fun j104 => tb_E d mX7_boxDiffs tb_dV 50 [.ref 1, w1, w2, .int (x3 + (1 : Int32)), .int (S 29 j65), .int (q73.1)] [] tb_S (tb_up (q73.2) 29 j104 (-1 : Int32))))) = some r) : tb_E d mX7_boxDiffs tb_dV 50 [.ref 1, w1, w2, .int x3, w4, w5] [] tb_S S = some r := by
  refine x_iload_n (pc' := 51) dX7_boxDiffs_50 rfl rfl ?_
  refine x_sipush (pc' := 54) (w := (224 : Int32)) dX7_boxDiffs_51 rfl k_si_224 ?_
  by_cases c54 : (224 : Int32) ≤ x3
  · replace h := (if_pos c54).symm.trans h
    refine x_icmp_ge_t (pc' := 111) dX7_boxDiffs_54 (by decide) c54 ?_
    refine x_aload_n (pc' := 112) dX7_boxDiffs_111 rfl rfl ?_
    refine x_getR (pc' := 115) dX7_boxDiffs_112 rfl lf_7_47 rfl sh_1 rfl ?_
    obtain ⟨q115, hq115, h⟩ := Option.bind_eq_some_iff.mp h
    refine x_virtV (pc' := 118) (o := 28) (as := []) (rest := []) dX7_boxDiffs_115 rfl lm_7_303 rfl rfl rfl sh_28 rfl hq115 ?_
    exact x_vret dX7_boxDiffs_118 rfl ((tb_dV_ok _).trans h)
  · replace h := (if_neg c54).symm.trans h
    refine x_icmp_ge_f (pc' := 57) dX7_boxDiffs_54 (by decide) rfl c54 ?_
    refine x_aload_n (pc' := 58) dX7_boxDiffs_57 rfl rfl ?_
    refine x_getR (pc' := 61) dX7_boxDiffs_58 rfl lf_7_47 rfl sh_1 rfl ?_
    refine x_getR (pc' := 64) dX7_boxDiffs_61 rfl lf_7_300 rfl sh_28 rfl ?_
    refine x_iload_n (pc' := 65) dX7_boxDiffs_64 rfl rfl ?_
    obtain ⟨j65, hj65, h⟩ := Option.bind_eq_some_iff.mp h
    refine x_iaload (pc' := 66) (v := S 29 j65) dX7_boxDiffs_65 rfl sh_29 hj65 rfl ?_
    refine x_istore (pc' := 68) (ls' := [.ref 1, w1, w2, .int x3, .int (S 29 j65), w5]) dX7_boxDiffs_66 rfl rfl rfl ?_
    refine x_aload_n (pc' := 69) dX7_boxDiffs_68 rfl rfl ?_
    refine x_getR (pc' := 72) dX7_boxDiffs_69 rfl lf_7_40 rfl sh_1 rfl ?_
    refine x_iload_n (pc' := 73) dX7_boxDiffs_72 rfl rfl ?_
    obtain ⟨q73, hq73, h⟩ := Option.bind_eq_some_iff.mp h
    refine x_virtI (pc' := 76) (o := 24) (as := [.int x3]) (rest := []) dX7_boxDiffs_73 rfl lm_7_155 rfl rfl rfl sh_24 rfl hq73 ?_
    refine x_istore (pc' := 78) (ls' := [.ref 1, w1, w2, .int x3, .int (S 29 j65), .int (q73.1)]) dX7_boxDiffs_76 rfl rfl rfl ?_
    refine x_aload_n (pc' := 79) dX7_boxDiffs_78 rfl rfl ?_
    refine x_getR (pc' := 82) dX7_boxDiffs_79 rfl lf_7_47 rfl sh_1 rfl ?_
    refine x_getR (pc' := 85) dX7_boxDiffs_82 rfl lf_7_300 rfl sh_28 rfl ?_
    refine x_iload_n (pc' := 86) dX7_boxDiffs_85 rfl rfl ?_
    refine x_iload (pc' := 88) dX7_boxDiffs_86 rfl rfl ?_
    refine x_iload (pc' := 90) dX7_boxDiffs_88 rfl rfl ?_
    by_cases c90 : ¬ S 29 j65 = q73.1
    · replace h := (if_pos c90).symm.trans h
      refine x_icmp_ne_t (pc' := 97) dX7_boxDiffs_90 (by decide) c90 ?_
      refine x_iload (pc' := 99) dX7_boxDiffs_97 rfl rfl ?_
      refine x_iload (pc' := 101) dX7_boxDiffs_99 rfl rfl ?_
      obtain ⟨q101, hq101, h⟩ := Option.bind_eq_some_iff.mp h
      refine x_statI (pc' := 104) (as := [.int (S 29 j65), .int (q73.1)]) (rest := [.int x3, .ref 29]) dX7_boxDiffs_101 rfl lm_7_306 (by decide) rfl rfl rfl rfl hq101 ?_
      obtain ⟨j104, hj104, h⟩ := Option.bind_eq_some_iff.mp h
      refine x_iastore (pc' := 105) dX7_boxDiffs_104 rfl sh_29 hj104 ?_
      refine x_iinc (pc' := 108) (w := (1 : Int32)) (ls' := [.ref 1, w1, w2, .int (x3 + (1 : Int32)), .int (S 29 j65), .int (q73.1)]) dX7_boxDiffs_105 rfl rfl k_ic_1 rfl ?_
      refine x_goto (pc' := 50) dX7_boxDiffs_108 (by decide) ?_
      exact h
    · replace h := (if_neg c90).symm.trans h
      refine x_icmp_ne_f (pc' := 93) dX7_boxDiffs_90 (by decide) rfl c90 ?_
      refine x_iconst (pc' := 94) (w := (-1 : Int32)) dX7_boxDiffs_93 rfl k_ic_m1 ?_
      refine x_goto (pc' := 104) dX7_boxDiffs_94 (by decide) ?_
      obtain ⟨j104, hj104, h⟩ := Option.bind_eq_some_iff.mp h
      refine x_iastore (pc' := 105) dX7_boxDiffs_104 rfl sh_29 hj104 ?_
      refine x_iinc (pc' := 108) (w := (1 : Int32)) (ls' := [.ref 1, w1, w2, .int (x3 + (1 : Int32)), .int (S 29 j65), .int (q73.1)]) dX7_boxDiffs_105 rfl rfl k_ic_1 rfl ?_
      refine x_goto (pc' := 50) dX7_boxDiffs_108 (by decide) ?_
      exact h
/-! X7_boxGaps (1,) -/
theorem BX7_boxGaps_0 {d : Nat} {x1 : Int32} {w2 : Value} {S : tb_St} {r : tb_St} (h : ((tb_cV d mX6_unfold [.ref 24, .int x1] S).bind fun q5 => tb_E d mX7_boxGaps tb_dV 10 [.ref 1, .int x1, .int (0 : Int32)] [] tb_S q5) = some r) : tb_E d mX7_boxGaps tb_dV 0 [.ref 1, .int x1, w2] [] tb_S S = some r := by
  refine x_aload_n (pc' := 1) dX7_boxGaps_0 rfl rfl ?_
  refine x_getR (pc' := 4) dX7_boxGaps_1 rfl lf_7_40 rfl sh_1 rfl ?_
  refine x_iload_n (pc' := 5) dX7_boxGaps_4 rfl rfl ?_
  obtain ⟨q5, hq5, h⟩ := Option.bind_eq_some_iff.mp h
  refine x_virtV (pc' := 8) (o := 24) (as := [.int x1]) (rest := []) dX7_boxGaps_5 rfl lm_7_152 rfl rfl rfl sh_24 rfl hq5 ?_
  refine x_iconst (pc' := 9) (w := (0 : Int32)) dX7_boxGaps_8 rfl k_ic_0 ?_
  refine x_istore_n (pc' := 10) (ls' := [.ref 1, .int x1, .int (0 : Int32)]) dX7_boxGaps_9 rfl rfl rfl ?_
  exact h
theorem MX7_boxGaps {d : Nat} {x1 : Int32} {S : tb_St} {r : tb_St} (h : ((tb_cV d mX6_unfold [.ref 24, .int x1] S).bind fun q5 => tb_E d mX7_boxGaps tb_dV 10 [.ref 1, .int x1, .int (0 : Int32)] [] tb_S q5) = some r) : tb_cV (d + 1) mX7_boxGaps [.ref 1, .int x1] S = some r := tb_enV rfl rfl (BX7_boxGaps_0 h)
theorem BX7_boxGaps_10 {d : Nat} {x2 : Int32} {w1 : Value} {S : tb_St} {r : tb_St} (h : ((if (224 : Int32) ≤ x2 then (tb_cV d mX0_takeAll [.ref 28] S).bind fun q54 => some q54 else (tb_cI d mX6_answer [.ref 24, .int x2] S).bind fun q30 => (if ¬ q30.1 = (-5 : Int32) then (tb_ix x2 224).bind fun j43 => tb_E d mX7_boxGaps tb_dV 10 [.ref 1, w1, .int (x2 + (1 : Int32))] [] tb_S (tb_up (q30.2) 29 j43 (-1 : Int32)) else (tb_ix x2 224).bind fun j43 => tb_E d mX7_boxGaps tb_dV 10 [.ref 1, w1, .int (x2 + (1 : Int32))] [] tb_S (tb_up (q30.2) 29 j43 (0 : Int32))))) = some r) : tb_E d mX7_boxGaps tb_dV 10 [.ref 1, w1, .int x2] [] tb_S S = some r := by
  refine x_iload_n (pc' := 11) dX7_boxGaps_10 rfl rfl ?_
  refine x_sipush (pc' := 14) (w := (224 : Int32)) dX7_boxGaps_11 rfl k_si_224 ?_
  by_cases c14 : (224 : Int32) ≤ x2
  · replace h := (if_pos c14).symm.trans h
    refine x_icmp_ge_t (pc' := 50) dX7_boxGaps_14 (by decide) c14 ?_
    refine x_aload_n (pc' := 51) dX7_boxGaps_50 rfl rfl ?_
    refine x_getR (pc' := 54) dX7_boxGaps_51 rfl lf_7_47 rfl sh_1 rfl ?_
    obtain ⟨q54, hq54, h⟩ := Option.bind_eq_some_iff.mp h
    refine x_virtV (pc' := 57) (o := 28) (as := []) (rest := []) dX7_boxGaps_54 rfl lm_7_303 rfl rfl rfl sh_28 rfl hq54 ?_
    exact x_vret dX7_boxGaps_57 rfl ((tb_dV_ok _).trans h)
  · replace h := (if_neg c14).symm.trans h
    refine x_icmp_ge_f (pc' := 17) dX7_boxGaps_14 (by decide) rfl c14 ?_
    refine x_aload_n (pc' := 18) dX7_boxGaps_17 rfl rfl ?_
    refine x_getR (pc' := 21) dX7_boxGaps_18 rfl lf_7_47 rfl sh_1 rfl ?_
    refine x_getR (pc' := 24) dX7_boxGaps_21 rfl lf_7_300 rfl sh_28 rfl ?_
    refine x_iload_n (pc' := 25) dX7_boxGaps_24 rfl rfl ?_
    refine x_aload_n (pc' := 26) dX7_boxGaps_25 rfl rfl ?_
    refine x_getR (pc' := 29) dX7_boxGaps_26 rfl lf_7_40 rfl sh_1 rfl ?_
    refine x_iload_n (pc' := 30) dX7_boxGaps_29 rfl rfl ?_
    obtain ⟨q30, hq30, h⟩ := Option.bind_eq_some_iff.mp h
    refine x_virtI (pc' := 33) (o := 24) (as := [.int x2]) (rest := [.int x2, .ref 29]) dX7_boxGaps_30 rfl lm_7_155 rfl rfl rfl sh_24 rfl hq30 ?_
    refine x_bipush (pc' := 35) (w := (-5 : Int32)) dX7_boxGaps_33 rfl k_bi_m5 ?_
    by_cases c35 : ¬ q30.1 = (-5 : Int32)
    · replace h := (if_pos c35).symm.trans h
      refine x_icmp_ne_t (pc' := 42) dX7_boxGaps_35 (by decide) c35 ?_
      refine x_iconst (pc' := 43) (w := (-1 : Int32)) dX7_boxGaps_42 rfl k_ic_m1 ?_
      obtain ⟨j43, hj43, h⟩ := Option.bind_eq_some_iff.mp h
      refine x_iastore (pc' := 44) dX7_boxGaps_43 rfl sh_29 hj43 ?_
      refine x_iinc (pc' := 47) (w := (1 : Int32)) (ls' := [.ref 1, w1, .int (x2 + (1 : Int32))]) dX7_boxGaps_44 rfl rfl k_ic_1 rfl ?_
      refine x_goto (pc' := 10) dX7_boxGaps_47 (by decide) ?_
      exact h
    · replace h := (if_neg c35).symm.trans h
      refine x_icmp_ne_f (pc' := 38) dX7_boxGaps_35 (by decide) rfl c35 ?_
      refine x_iconst (pc' := 39) (w := (0 : Int32)) dX7_boxGaps_38 rfl k_ic_0 ?_
      refine x_goto (pc' := 43) dX7_boxGaps_39 (by decide) ?_
      obtain ⟨j43, hj43, h⟩ := Option.bind_eq_some_iff.mp h
      refine x_iastore (pc' := 44) dX7_boxGaps_43 rfl sh_29 hj43 ?_
      refine x_iinc (pc' := 47) (w := (1 : Int32)) (ls' := [.ref 1, w1, .int (x2 + (1 : Int32))]) dX7_boxGaps_44 rfl rfl k_ic_1 rfl ?_
      refine x_goto (pc' := 10) dX7_boxGaps_47 (by decide) ?_
      exact h
/-! X8_found (45,) -/
theorem BX8_found_0 {d : Nat} {x1 x2 x3 : Int32} {S : tb_St} {r : Int32 × tb_St} (h : ((if ¬ x1 = (-1 : Int32) then (tb_cI d mX8_within [.int x1, .int (0 : Int32), .int ((S 45 14) - (1 : Int32))] S).bind fun q18 => (if q18.1 = 0 then some ((-1 : Int32), q18.2) else (tb_cI d mX8_within [.int x2, .int (0 : Int32), .int x3] (q18.2)).bind fun q27 => (if q27.1 = 0 then some ((-1 : Int32), q27.2) else (tb_ix (((8 : Int32) * x1) + x2) 1792).bind fun j43 => some ((q27.2) 58 j43, q27.2))) else some (S 45 14, S))) = some r) : tb_E d mX8_found tb_dI 0 [.ref 45, .int x1, .int x2, .int x3] [] tb_S S = some r := by
  refine x_iload_n (pc' := 1) dX8_found_0 rfl rfl ?_
  refine x_iconst (pc' := 2) (w := (-1 : Int32)) dX8_found_1 rfl k_ic_m1 ?_
  by_cases c2 : ¬ x1 = (-1 : Int32)
  · replace h := (if_pos c2).symm.trans h
    refine x_icmp_ne_t (pc' := 10) dX8_found_2 (by decide) c2 ?_
    refine x_iload_n (pc' := 11) dX8_found_10 rfl rfl ?_
    refine x_iconst (pc' := 12) (w := (0 : Int32)) dX8_found_11 rfl k_ic_0 ?_
    refine x_aload_n (pc' := 13) dX8_found_12 rfl rfl ?_
    refine x_getI (pc' := 16) (v := S 45 14) dX8_found_13 rfl lf_8_225 rfl sh_45 rfl ?_
    refine x_iconst (pc' := 17) (w := (1 : Int32)) dX8_found_16 rfl k_ic_1 ?_
    refine x_isub (pc' := 18) dX8_found_17 rfl ?_
    obtain ⟨q18, hq18, h⟩ := Option.bind_eq_some_iff.mp h
    refine x_statI (pc' := 21) (as := [.int x1, .int (0 : Int32), .int ((S 45 14) - (1 : Int32))]) (rest := []) dX8_found_18 rfl lm_8_80 (by decide) rfl rfl rfl rfl hq18 ?_
    by_cases c21 : q18.1 = 0
    · replace h := (if_pos c21).symm.trans h
      refine x_if_eq_t (pc' := 47) dX8_found_21 (by decide) c21 ?_
      refine x_iconst (pc' := 48) (w := (-1 : Int32)) dX8_found_47 rfl k_ic_m1 ?_
      exact x_iret dX8_found_48 rfl ((tb_dI_ok _ _).trans h)
    · replace h := (if_neg c21).symm.trans h
      refine x_if_eq_f (pc' := 24) dX8_found_21 (by decide) rfl c21 ?_
      refine x_iload_n (pc' := 25) dX8_found_24 rfl rfl ?_
      refine x_iconst (pc' := 26) (w := (0 : Int32)) dX8_found_25 rfl k_ic_0 ?_
      refine x_iload_n (pc' := 27) dX8_found_26 rfl rfl ?_
      obtain ⟨q27, hq27, h⟩ := Option.bind_eq_some_iff.mp h
      refine x_statI (pc' := 30) (as := [.int x2, .int (0 : Int32), .int x3]) (rest := []) dX8_found_27 rfl lm_8_80 (by decide) rfl rfl rfl rfl hq27 ?_
      by_cases c30 : q27.1 = 0
      · replace h := (if_pos c30).symm.trans h
        refine x_if_eq_t (pc' := 47) dX8_found_30 (by decide) c30 ?_
        refine x_iconst (pc' := 48) (w := (-1 : Int32)) dX8_found_47 rfl k_ic_m1 ?_
        exact x_iret dX8_found_48 rfl ((tb_dI_ok _ _).trans h)
      · replace h := (if_neg c30).symm.trans h
        refine x_if_eq_f (pc' := 33) dX8_found_30 (by decide) rfl c30 ?_
        refine x_aload_n (pc' := 34) dX8_found_33 rfl rfl ?_
        refine x_getR (pc' := 37) dX8_found_34 rfl lf_8_49 rfl sh_45 rfl ?_
        refine x_bipush (pc' := 39) (w := (8 : Int32)) dX8_found_37 rfl k_bi_8 ?_
        refine x_iload_n (pc' := 40) dX8_found_39 rfl rfl ?_
        refine x_imul (pc' := 41) dX8_found_40 rfl ?_
        refine x_iload_n (pc' := 42) dX8_found_41 rfl rfl ?_
        refine x_iadd (pc' := 43) dX8_found_42 rfl ?_
        obtain ⟨j43, hj43, h⟩ := Option.bind_eq_some_iff.mp h
        refine x_iaload (pc' := 44) (v := (q27.2) 58 j43) dX8_found_43 rfl sh_58 hj43 rfl ?_
        refine x_goto (pc' := 48) dX8_found_44 (by decide) ?_
        exact x_iret dX8_found_48 rfl ((tb_dI_ok _ _).trans h)
  · replace h := (if_neg c2).symm.trans h
    refine x_icmp_ne_f (pc' := 5) dX8_found_2 (by decide) rfl c2 ?_
    refine x_aload_n (pc' := 6) dX8_found_5 rfl rfl ?_
    refine x_getI (pc' := 9) (v := S 45 14) dX8_found_6 rfl lf_8_225 rfl sh_45 rfl ?_
    exact x_iret dX8_found_9 rfl ((tb_dI_ok _ _).trans h)
theorem MX8_found {d : Nat} {x1 : Int32} {x2 : Int32} {x3 : Int32} {S : tb_St} {r : Int32 × tb_St} (h : ((if ¬ x1 = (-1 : Int32) then (tb_cI d mX8_within [.int x1, .int (0 : Int32), .int ((S 45 14) - (1 : Int32))] S).bind fun q18 => (if q18.1 = 0 then some ((-1 : Int32), q18.2) else (tb_cI d mX8_within [.int x2, .int (0 : Int32), .int x3] (q18.2)).bind fun q27 => (if q27.1 = 0 then some ((-1 : Int32), q27.2) else (tb_ix (((8 : Int32) * x1) + x2) 1792).bind fun j43 => some ((q27.2) 58 j43, q27.2))) else some (S 45 14, S))) = some r) : tb_cI (d + 1) mX8_found [.ref 45, .int x1, .int x2, .int x3] S = some r := tb_enI rfl rfl (BX8_found_0 h)
/-! X8_finds (45,) -/
theorem BX8_finds_0 {d : Nat} {x1 x2 x3 : Int32} {w4 : Value} {S : tb_St} {r : tb_St} (h : ((tb_cV d mX8_tells [.ref 45, .int x1, .ref 55] (tb_up S 45 17 (-1 : Int32))).bind fun q11 => (if ¬ x3 = (2 : Int32) then (tb_cV d mX8_tells [.ref 45, .int x1, .ref 56] q11).bind fun q29 => tb_E d mX8_finds tb_dV 35 [.ref 45, .int x1, .int x2, .int x3, .int (0 : Int32)] [] tb_S q29 else (tb_cV d mX8_tells [.ref 45, .int x2, .ref 56] q11).bind fun q29 => tb_E d mX8_finds tb_dV 35 [.ref 45, .int x1, .int x2, .int x3, .int (0 : Int32)] [] tb_S q29)) = some r) : tb_E d mX8_finds tb_dV 0 [.ref 45, .int x1, .int x2, .int x3, w4] [] tb_S S = some r := by
  refine x_aload_n (pc' := 1) dX8_finds_0 rfl rfl ?_
  refine x_iconst (pc' := 2) (w := (-1 : Int32)) dX8_finds_1 rfl k_ic_m1 ?_
  refine x_putI (pc' := 5) dX8_finds_2 rfl lf_8_194 (Or.inl rfl) sh_45 ?_
  refine x_aload_n (pc' := 6) dX8_finds_5 rfl rfl ?_
  refine x_iload_n (pc' := 7) dX8_finds_6 rfl rfl ?_
  refine x_aload_n (pc' := 8) dX8_finds_7 rfl rfl ?_
  refine x_getR (pc' := 11) dX8_finds_8 rfl lf_8_39 rfl sh_45 rfl ?_
  obtain ⟨q11, hq11, h⟩ := Option.bind_eq_some_iff.mp h
  refine x_virtV (pc' := 14) (o := 45) (as := [.int x1, .ref 55]) (rest := []) dX8_finds_11 rfl lm_8_213 rfl rfl rfl sh_45 rfl hq11 ?_
  refine x_aload_n (pc' := 15) dX8_finds_14 rfl rfl ?_
  refine x_iload_n (pc' := 16) dX8_finds_15 rfl rfl ?_
  refine x_iconst (pc' := 17) (w := (2 : Int32)) dX8_finds_16 rfl k_ic_2 ?_
  by_cases c17 : ¬ x3 = (2 : Int32)
  · replace h := (if_pos c17).symm.trans h
    refine x_icmp_ne_t (pc' := 24) dX8_finds_17 (by decide) c17 ?_
    refine x_iload_n (pc' := 25) dX8_finds_24 rfl rfl ?_
    refine x_aload_n (pc' := 26) dX8_finds_25 rfl rfl ?_
    refine x_getR (pc' := 29) dX8_finds_26 rfl lf_8_42 rfl sh_45 rfl ?_
    obtain ⟨q29, hq29, h⟩ := Option.bind_eq_some_iff.mp h
    refine x_virtV (pc' := 32) (o := 45) (as := [.int x1, .ref 56]) (rest := []) dX8_finds_29 rfl lm_8_213 rfl rfl rfl sh_45 rfl hq29 ?_
    refine x_iconst (pc' := 33) (w := (0 : Int32)) dX8_finds_32 rfl k_ic_0 ?_
    refine x_istore (pc' := 35) (ls' := [.ref 45, .int x1, .int x2, .int x3, .int (0 : Int32)]) dX8_finds_33 rfl rfl rfl ?_
    exact h
  · replace h := (if_neg c17).symm.trans h
    refine x_icmp_ne_f (pc' := 20) dX8_finds_17 (by decide) rfl c17 ?_
    refine x_iload_n (pc' := 21) dX8_finds_20 rfl rfl ?_
    refine x_goto (pc' := 25) dX8_finds_21 (by decide) ?_
    refine x_aload_n (pc' := 26) dX8_finds_25 rfl rfl ?_
    refine x_getR (pc' := 29) dX8_finds_26 rfl lf_8_42 rfl sh_45 rfl ?_
    obtain ⟨q29, hq29, h⟩ := Option.bind_eq_some_iff.mp h
    refine x_virtV (pc' := 32) (o := 45) (as := [.int x2, .ref 56]) (rest := []) dX8_finds_29 rfl lm_8_213 rfl rfl rfl sh_45 rfl hq29 ?_
    refine x_iconst (pc' := 33) (w := (0 : Int32)) dX8_finds_32 rfl k_ic_0 ?_
    refine x_istore (pc' := 35) (ls' := [.ref 45, .int x1, .int x2, .int x3, .int (0 : Int32)]) dX8_finds_33 rfl rfl rfl ?_
    exact h
theorem MX8_finds {d : Nat} {x1 : Int32} {x2 : Int32} {x3 : Int32} {S : tb_St} {r : tb_St} (h : ((tb_cV d mX8_tells [.ref 45, .int x1, .ref 55] (tb_up S 45 17 (-1 : Int32))).bind fun q11 => (if ¬ x3 = (2 : Int32) then (tb_cV d mX8_tells [.ref 45, .int x1, .ref 56] q11).bind fun q29 => tb_E d mX8_finds tb_dV 35 [.ref 45, .int x1, .int x2, .int x3, .int (0 : Int32)] [] tb_S q29 else (tb_cV d mX8_tells [.ref 45, .int x2, .ref 56] q11).bind fun q29 => tb_E d mX8_finds tb_dV 35 [.ref 45, .int x1, .int x2, .int x3, .int (0 : Int32)] [] tb_S q29)) = some r) : tb_cV (d + 1) mX8_finds [.ref 45, .int x1, .int x2, .int x3] S = some r := tb_enV rfl rfl (BX8_finds_0 h)
theorem BX8_finds_35 {d : Nat} {x3 x4 : Int32} {w1 w2 : Value} {S : tb_St} {r : tb_St} (h : ((if (224 : Int32) ≤ x4 then (tb_cV d mX8_packs [.ref 45] S).bind fun q121 => some q121 else (if ¬ x3 = (2 : Int32) then (tb_ix x4 224).bind fun j85 => (if ¬ S 55 j85 = (-5 : Int32) then (if ¬ x3 = 0 then tb_E d mX8_finds tb_dV 105 [.ref 45, w1, w2, .int x3, .int x4] [.int (0 : Int32), .int (0 : Int32), .int x4, .ref 57] tb_S S else tb_E d mX8_finds tb_dV 105 [.ref 45, w1, w2, .int x3, .int x4] [.int (1 : Int32), .int (0 : Int32), .int x4, .ref 57] tb_S S) else (if ¬ x3 = 0 then tb_E d mX8_finds tb_dV 105 [.ref 45, w1, w2, .int x3, .int x4] [.int (0 : Int32), .int (1 : Int32), .int x4, .ref 57] tb_S S else tb_E d mX8_finds tb_dV 105 [.ref 45, w1, w2, .int x3, .int x4] [.int (1 : Int32), .int (1 : Int32), .int x4, .ref 57] tb_S S)) else (tb_ix x4 224).bind fun j60 => (tb_ix x4 224).bind fun j67 => (if ¬ S 55 j60 = S 56 j67 then (tb_ix x4 224).bind fun j113 => tb_E d mX8_finds tb_dV 35 [.ref 45, w1, w2, .int x3, .int (x4 + (1 : Int32))] [] tb_S (tb_up S 57 j113 (0 : Int32)) else (tb_ix x4 224).bind fun j113 => tb_E d mX8_finds tb_dV 35 [.ref 45, w1, w2, .int x3, .int (x4 + (1 : Int32))] [] tb_S (tb_up S 57 j113 (1 : Int32)))))) = some r) : tb_E d mX8_finds tb_dV 35 [.ref 45, w1, w2, .int x3, .int x4] [] tb_S S = some r := by
  refine x_iload (pc' := 37) dX8_finds_35 rfl rfl ?_
  refine x_sipush (pc' := 40) (w := (224 : Int32)) dX8_finds_37 rfl k_si_224 ?_
  by_cases c40 : (224 : Int32) ≤ x4
  · replace h := (if_pos c40).symm.trans h
    refine x_icmp_ge_t (pc' := 120) dX8_finds_40 (by decide) c40 ?_
    refine x_aload_n (pc' := 121) dX8_finds_120 rfl rfl ?_
    obtain ⟨q121, hq121, h⟩ := Option.bind_eq_some_iff.mp h
    refine x_virtV (pc' := 124) (o := 45) (as := []) (rest := []) dX8_finds_121 rfl lm_8_232 rfl rfl rfl sh_45 rfl hq121 ?_
    exact x_vret dX8_finds_124 rfl ((tb_dV_ok _).trans h)
  · replace h := (if_neg c40).symm.trans h
    refine x_icmp_ge_f (pc' := 43) dX8_finds_40 (by decide) rfl c40 ?_
    refine x_aload_n (pc' := 44) dX8_finds_43 rfl rfl ?_
    refine x_getR (pc' := 47) dX8_finds_44 rfl lf_8_45 rfl sh_45 rfl ?_
    refine x_iload (pc' := 49) dX8_finds_47 rfl rfl ?_
    refine x_iload_n (pc' := 50) dX8_finds_49 rfl rfl ?_
    refine x_iconst (pc' := 51) (w := (2 : Int32)) dX8_finds_50 rfl k_ic_2 ?_
    by_cases c51 : ¬ x3 = (2 : Int32)
    · replace h := (if_pos c51).symm.trans h
      refine x_icmp_ne_t (pc' := 79) dX8_finds_51 (by decide) c51 ?_
      refine x_aload_n (pc' := 80) dX8_finds_79 rfl rfl ?_
      refine x_getR (pc' := 83) dX8_finds_80 rfl lf_8_39 rfl sh_45 rfl ?_
      refine x_iload (pc' := 85) dX8_finds_83 rfl rfl ?_
      obtain ⟨j85, hj85, h⟩ := Option.bind_eq_some_iff.mp h
      refine x_iaload (pc' := 86) (v := S 55 j85) dX8_finds_85 rfl sh_55 hj85 rfl ?_
      refine x_bipush (pc' := 88) (w := (-5 : Int32)) dX8_finds_86 rfl k_bi_m5 ?_
      by_cases c88 : ¬ S 55 j85 = (-5 : Int32)
      · replace h := (if_pos c88).symm.trans h
        refine x_icmp_ne_t (pc' := 95) dX8_finds_88 (by decide) c88 ?_
        refine x_iconst (pc' := 96) (w := (0 : Int32)) dX8_finds_95 rfl k_ic_0 ?_
        refine x_iload_n (pc' := 97) dX8_finds_96 rfl rfl ?_
        by_cases c97 : ¬ x3 = 0
        · replace h := (if_pos c97).symm.trans h
          refine x_if_ne_t (pc' := 104) dX8_finds_97 (by decide) c97 ?_
          refine x_iconst (pc' := 105) (w := (0 : Int32)) dX8_finds_104 rfl k_ic_0 ?_
          exact h
        · replace h := (if_neg c97).symm.trans h
          refine x_if_ne_f (pc' := 100) dX8_finds_97 (by decide) rfl c97 ?_
          refine x_iconst (pc' := 101) (w := (1 : Int32)) dX8_finds_100 rfl k_ic_1 ?_
          refine x_goto (pc' := 105) dX8_finds_101 (by decide) ?_
          exact h
      · replace h := (if_neg c88).symm.trans h
        refine x_icmp_ne_f (pc' := 91) dX8_finds_88 (by decide) rfl c88 ?_
        refine x_iconst (pc' := 92) (w := (1 : Int32)) dX8_finds_91 rfl k_ic_1 ?_
        refine x_goto (pc' := 96) dX8_finds_92 (by decide) ?_
        refine x_iload_n (pc' := 97) dX8_finds_96 rfl rfl ?_
        by_cases c97 : ¬ x3 = 0
        · replace h := (if_pos c97).symm.trans h
          refine x_if_ne_t (pc' := 104) dX8_finds_97 (by decide) c97 ?_
          refine x_iconst (pc' := 105) (w := (0 : Int32)) dX8_finds_104 rfl k_ic_0 ?_
          exact h
        · replace h := (if_neg c97).symm.trans h
          refine x_if_ne_f (pc' := 100) dX8_finds_97 (by decide) rfl c97 ?_
          refine x_iconst (pc' := 101) (w := (1 : Int32)) dX8_finds_100 rfl k_ic_1 ?_
          refine x_goto (pc' := 105) dX8_finds_101 (by decide) ?_
          exact h
    · replace h := (if_neg c51).symm.trans h
      refine x_icmp_ne_f (pc' := 54) dX8_finds_51 (by decide) rfl c51 ?_
      refine x_aload_n (pc' := 55) dX8_finds_54 rfl rfl ?_
      refine x_getR (pc' := 58) dX8_finds_55 rfl lf_8_39 rfl sh_45 rfl ?_
      refine x_iload (pc' := 60) dX8_finds_58 rfl rfl ?_
      obtain ⟨j60, hj60, h⟩ := Option.bind_eq_some_iff.mp h
      refine x_iaload (pc' := 61) (v := S 55 j60) dX8_finds_60 rfl sh_55 hj60 rfl ?_
      refine x_aload_n (pc' := 62) dX8_finds_61 rfl rfl ?_
      refine x_getR (pc' := 65) dX8_finds_62 rfl lf_8_42 rfl sh_45 rfl ?_
      refine x_iload (pc' := 67) dX8_finds_65 rfl rfl ?_
      obtain ⟨j67, hj67, h⟩ := Option.bind_eq_some_iff.mp h
      refine x_iaload (pc' := 68) (v := S 56 j67) dX8_finds_67 rfl sh_56 hj67 rfl ?_
      by_cases c68 : ¬ S 55 j60 = S 56 j67
      · replace h := (if_pos c68).symm.trans h
        refine x_icmp_ne_t (pc' := 75) dX8_finds_68 (by decide) c68 ?_
        refine x_iconst (pc' := 76) (w := (0 : Int32)) dX8_finds_75 rfl k_ic_0 ?_
        refine x_goto (pc' := 113) dX8_finds_76 (by decide) ?_
        obtain ⟨j113, hj113, h⟩ := Option.bind_eq_some_iff.mp h
        refine x_bastore51 (pc' := 114) dX8_finds_113 rfl sh_57 hj113 tb_nz0 ?_
        refine x_iinc (pc' := 117) (w := (1 : Int32)) (ls' := [.ref 45, w1, w2, .int x3, .int (x4 + (1 : Int32))]) dX8_finds_114 rfl rfl k_ic_1 rfl ?_
        refine x_goto (pc' := 35) dX8_finds_117 (by decide) ?_
        exact h
      · replace h := (if_neg c68).symm.trans h
        refine x_icmp_ne_f (pc' := 71) dX8_finds_68 (by decide) rfl c68 ?_
        refine x_iconst (pc' := 72) (w := (1 : Int32)) dX8_finds_71 rfl k_ic_1 ?_
        refine x_goto (pc' := 113) dX8_finds_72 (by decide) ?_
        obtain ⟨j113, hj113, h⟩ := Option.bind_eq_some_iff.mp h
        refine x_bastore51 (pc' := 114) dX8_finds_113 rfl sh_57 hj113 tb_nz1 ?_
        refine x_iinc (pc' := 117) (w := (1 : Int32)) (ls' := [.ref 45, w1, w2, .int x3, .int (x4 + (1 : Int32))]) dX8_finds_114 rfl rfl k_ic_1 rfl ?_
        refine x_goto (pc' := 35) dX8_finds_117 (by decide) ?_
        exact h
theorem BX8_finds_105 {d : Nat} {x3 x4 s0 s1 s2 : Int32} {w1 w2 : Value} {S : tb_St} {r : tb_St} (h : ((if ¬ s1 = s0 then (tb_ix s2 224).bind fun j113 => tb_E d mX8_finds tb_dV 35 [.ref 45, w1, w2, .int x3, .int (x4 + (1 : Int32))] [] tb_S (tb_up S 57 j113 (0 : Int32)) else (tb_ix s2 224).bind fun j113 => tb_E d mX8_finds tb_dV 35 [.ref 45, w1, w2, .int x3, .int (x4 + (1 : Int32))] [] tb_S (tb_up S 57 j113 (1 : Int32)))) = some r) : tb_E d mX8_finds tb_dV 105 [.ref 45, w1, w2, .int x3, .int x4] [.int s0, .int s1, .int s2, .ref 57] tb_S S = some r := by
  by_cases c105 : ¬ s1 = s0
  · replace h := (if_pos c105).symm.trans h
    refine x_icmp_ne_t (pc' := 112) dX8_finds_105 (by decide) c105 ?_
    refine x_iconst (pc' := 113) (w := (0 : Int32)) dX8_finds_112 rfl k_ic_0 ?_
    obtain ⟨j113, hj113, h⟩ := Option.bind_eq_some_iff.mp h
    refine x_bastore51 (pc' := 114) dX8_finds_113 rfl sh_57 hj113 tb_nz0 ?_
    refine x_iinc (pc' := 117) (w := (1 : Int32)) (ls' := [.ref 45, w1, w2, .int x3, .int (x4 + (1 : Int32))]) dX8_finds_114 rfl rfl k_ic_1 rfl ?_
    refine x_goto (pc' := 35) dX8_finds_117 (by decide) ?_
    exact h
  · replace h := (if_neg c105).symm.trans h
    refine x_icmp_ne_f (pc' := 108) dX8_finds_105 (by decide) rfl c105 ?_
    refine x_iconst (pc' := 109) (w := (1 : Int32)) dX8_finds_108 rfl k_ic_1 ?_
    refine x_goto (pc' := 113) dX8_finds_109 (by decide) ?_
    obtain ⟨j113, hj113, h⟩ := Option.bind_eq_some_iff.mp h
    refine x_bastore51 (pc' := 114) dX8_finds_113 rfl sh_57 hj113 tb_nz1 ?_
    refine x_iinc (pc' := 117) (w := (1 : Int32)) (ls' := [.ref 45, w1, w2, .int x3, .int (x4 + (1 : Int32))]) dX8_finds_114 rfl rfl k_ic_1 rfl ?_
    refine x_goto (pc' := 35) dX8_finds_117 (by decide) ?_
    exact h
/-! X0_has (28,) -/
theorem BX0_has_0 {d : Nat} {x1 : Int32} {S : tb_St} {r : Int32 × tb_St} (h : ((if x1 < 0 then some ((0 : Int32), S) else (if S 28 3 ≤ x1 then some ((0 : Int32), S) else some ((1 : Int32), S)))) = some r) : tb_E d mX0_has tb_dI 0 [.ref 28, .int x1] [] tb_S S = some r := by
  refine x_iload_n (pc' := 1) dX0_has_0 rfl rfl ?_
  by_cases c1 : x1 < 0
  · replace h := (if_pos c1).symm.trans h
    refine x_if_lt_t (pc' := 16) dX0_has_1 (by decide) c1 ?_
    refine x_iconst (pc' := 17) (w := (0 : Int32)) dX0_has_16 rfl k_ic_0 ?_
    exact x_zret dX0_has_17 rfl (Or.inl rfl) ((tb_dI_ok _ _).trans h)
  · replace h := (if_neg c1).symm.trans h
    refine x_if_lt_f (pc' := 4) dX0_has_1 (by decide) rfl c1 ?_
    refine x_iload_n (pc' := 5) dX0_has_4 rfl rfl ?_
    refine x_aload_n (pc' := 6) dX0_has_5 rfl rfl ?_
    refine x_getI (pc' := 9) (v := S 28 3) dX0_has_6 rfl lf_0_21 rfl sh_28 rfl ?_
    by_cases c9 : S 28 3 ≤ x1
    · replace h := (if_pos c9).symm.trans h
      refine x_icmp_ge_t (pc' := 16) dX0_has_9 (by decide) c9 ?_
      refine x_iconst (pc' := 17) (w := (0 : Int32)) dX0_has_16 rfl k_ic_0 ?_
      exact x_zret dX0_has_17 rfl (Or.inl rfl) ((tb_dI_ok _ _).trans h)
    · replace h := (if_neg c9).symm.trans h
      refine x_icmp_ge_f (pc' := 12) dX0_has_9 (by decide) rfl c9 ?_
      refine x_iconst (pc' := 13) (w := (1 : Int32)) dX0_has_12 rfl k_ic_1 ?_
      refine x_goto (pc' := 17) dX0_has_13 (by decide) ?_
      exact x_zret dX0_has_17 rfl (Or.inr rfl) ((tb_dI_ok _ _).trans h)
theorem MX0_has {d : Nat} {x1 : Int32} {S : tb_St} {r : Int32 × tb_St} (h : ((if x1 < 0 then some ((0 : Int32), S) else (if S 28 3 ≤ x1 then some ((0 : Int32), S) else some ((1 : Int32), S)))) = some r) : tb_cI (d + 1) mX0_has [.ref 28, .int x1] S = some r := tb_enI rfl rfl (BX0_has_0 h)
/-! X0_tell (28,) -/
theorem BX0_tell_0 {d : Nat} {x1 x2 : Int32} {S : tb_St} {r : Int32 × tb_St} (h : ((if ¬ x1 = (-1 : Int32) then (tb_cI d mX0_has [.ref 28, .int x1] S).bind fun q12 => (if q12.1 = 0 then some ((-1 : Int32), q12.2) else (if x2 < 0 then some ((-1 : Int32), q12.2) else (if (6 : Int32) ≤ x2 then some ((-1 : Int32), q12.2) else (tb_ix x1 224).bind fun j33 => (tb_cI d mX7_figure [.int ((q12.2) 30 j33), .int x2] (q12.2)).bind fun q35 => some (q35.1, q35.2)))) else some (S 28 3, S))) = some r) : tb_E d mX0_tell tb_dI 0 [.ref 28, .int x1, .int x2] [] tb_S S = some r := by
  refine x_iload_n (pc' := 1) dX0_tell_0 rfl rfl ?_
  refine x_iconst (pc' := 2) (w := (-1 : Int32)) dX0_tell_1 rfl k_ic_m1 ?_
  by_cases c2 : ¬ x1 = (-1 : Int32)
  · replace h := (if_pos c2).symm.trans h
    refine x_icmp_ne_t (pc' := 10) dX0_tell_2 (by decide) c2 ?_
    refine x_aload_n (pc' := 11) dX0_tell_10 rfl rfl ?_
    refine x_iload_n (pc' := 12) dX0_tell_11 rfl rfl ?_
    obtain ⟨q12, hq12, h⟩ := Option.bind_eq_some_iff.mp h
    refine x_virtI (pc' := 15) (o := 28) (as := [.int x1]) (rest := []) dX0_tell_12 rfl lm_0_25 rfl rfl rfl sh_28 rfl hq12 ?_
    by_cases c15 : q12.1 = 0
    · replace h := (if_pos c15).symm.trans h
      refine x_if_eq_t (pc' := 41) dX0_tell_15 (by decide) c15 ?_
      refine x_iconst (pc' := 42) (w := (-1 : Int32)) dX0_tell_41 rfl k_ic_m1 ?_
      exact x_iret dX0_tell_42 rfl ((tb_dI_ok _ _).trans h)
    · replace h := (if_neg c15).symm.trans h
      refine x_if_eq_f (pc' := 18) dX0_tell_15 (by decide) rfl c15 ?_
      refine x_iload_n (pc' := 19) dX0_tell_18 rfl rfl ?_
      by_cases c19 : x2 < 0
      · replace h := (if_pos c19).symm.trans h
        refine x_if_lt_t (pc' := 41) dX0_tell_19 (by decide) c19 ?_
        refine x_iconst (pc' := 42) (w := (-1 : Int32)) dX0_tell_41 rfl k_ic_m1 ?_
        exact x_iret dX0_tell_42 rfl ((tb_dI_ok _ _).trans h)
      · replace h := (if_neg c19).symm.trans h
        refine x_if_lt_f (pc' := 22) dX0_tell_19 (by decide) rfl c19 ?_
        refine x_iload_n (pc' := 23) dX0_tell_22 rfl rfl ?_
        refine x_bipush (pc' := 25) (w := (6 : Int32)) dX0_tell_23 rfl k_bi_6 ?_
        by_cases c25 : (6 : Int32) ≤ x2
        · replace h := (if_pos c25).symm.trans h
          refine x_icmp_ge_t (pc' := 41) dX0_tell_25 (by decide) c25 ?_
          refine x_iconst (pc' := 42) (w := (-1 : Int32)) dX0_tell_41 rfl k_ic_m1 ?_
          exact x_iret dX0_tell_42 rfl ((tb_dI_ok _ _).trans h)
        · replace h := (if_neg c25).symm.trans h
          refine x_icmp_ge_f (pc' := 28) dX0_tell_25 (by decide) rfl c25 ?_
          refine x_aload_n (pc' := 29) dX0_tell_28 rfl rfl ?_
          refine x_getR (pc' := 32) dX0_tell_29 rfl lf_0_15 rfl sh_28 rfl ?_
          refine x_iload_n (pc' := 33) dX0_tell_32 rfl rfl ?_
          obtain ⟨j33, hj33, h⟩ := Option.bind_eq_some_iff.mp h
          refine x_iaload (pc' := 34) (v := (q12.2) 30 j33) dX0_tell_33 rfl sh_30 hj33 rfl ?_
          refine x_iload_n (pc' := 35) dX0_tell_34 rfl rfl ?_
          obtain ⟨q35, hq35, h⟩ := Option.bind_eq_some_iff.mp h
          refine x_statI (pc' := 38) (as := [.int ((q12.2) 30 j33), .int x2]) (rest := []) dX0_tell_35 rfl lm_0_29 (by decide) rfl rfl rfl rfl hq35 ?_
          refine x_goto (pc' := 42) dX0_tell_38 (by decide) ?_
          exact x_iret dX0_tell_42 rfl ((tb_dI_ok _ _).trans h)
  · replace h := (if_neg c2).symm.trans h
    refine x_icmp_ne_f (pc' := 5) dX0_tell_2 (by decide) rfl c2 ?_
    refine x_aload_n (pc' := 6) dX0_tell_5 rfl rfl ?_
    refine x_getI (pc' := 9) (v := S 28 3) dX0_tell_6 rfl lf_0_21 rfl sh_28 rfl ?_
    exact x_iret dX0_tell_9 rfl ((tb_dI_ok _ _).trans h)
theorem MX0_tell {d : Nat} {x1 : Int32} {x2 : Int32} {S : tb_St} {r : Int32 × tb_St} (h : ((if ¬ x1 = (-1 : Int32) then (tb_cI d mX0_has [.ref 28, .int x1] S).bind fun q12 => (if q12.1 = 0 then some ((-1 : Int32), q12.2) else (if x2 < 0 then some ((-1 : Int32), q12.2) else (if (6 : Int32) ≤ x2 then some ((-1 : Int32), q12.2) else (tb_ix x1 224).bind fun j33 => (tb_cI d mX7_figure [.int ((q12.2) 30 j33), .int x2] (q12.2)).bind fun q35 => some (q35.1, q35.2)))) else some (S 28 3, S))) = some r) : tb_cI (d + 1) mX0_tell [.ref 28, .int x1, .int x2] S = some r := tb_enI rfl rfl (BX0_tell_0 h)
/-! X7_boxFees (1,) -/
theorem BX7_boxFees_0 {d : Nat} {x1 : Int32} {w2 w3 : Value} {S : tb_St} {r : tb_St} (h : ((tb_cV d mX6_unfold [.ref 24, .int x1] S).bind fun q5 => tb_E d mX7_boxFees tb_dV 10 [.ref 1, .int x1, .int (0 : Int32), w3] [] tb_S q5) = some r) : tb_E d mX7_boxFees tb_dV 0 [.ref 1, .int x1, w2, w3] [] tb_S S = some r := by
  refine x_aload_n (pc' := 1) dX7_boxFees_0 rfl rfl ?_
  refine x_getR (pc' := 4) dX7_boxFees_1 rfl lf_7_40 rfl sh_1 rfl ?_
  refine x_iload_n (pc' := 5) dX7_boxFees_4 rfl rfl ?_
  obtain ⟨q5, hq5, h⟩ := Option.bind_eq_some_iff.mp h
  refine x_virtV (pc' := 8) (o := 24) (as := [.int x1]) (rest := []) dX7_boxFees_5 rfl lm_7_152 rfl rfl rfl sh_24 rfl hq5 ?_
  refine x_iconst (pc' := 9) (w := (0 : Int32)) dX7_boxFees_8 rfl k_ic_0 ?_
  refine x_istore_n (pc' := 10) (ls' := [.ref 1, .int x1, .int (0 : Int32), w3]) dX7_boxFees_9 rfl rfl rfl ?_
  exact h
theorem MX7_boxFees {d : Nat} {x1 : Int32} {S : tb_St} {r : tb_St} (h : ((tb_cV d mX6_unfold [.ref 24, .int x1] S).bind fun q5 => tb_E d mX7_boxFees tb_dV 10 [.ref 1, .int x1, .int (0 : Int32), tb_jk] [] tb_S q5) = some r) : tb_cV (d + 1) mX7_boxFees [.ref 1, .int x1] S = some r := tb_enV rfl rfl (BX7_boxFees_0 h)
theorem BX7_boxFees_10 {d : Nat} {x2 : Int32} {w1 w3 : Value} {S : tb_St} {r : tb_St} (h : ((if (224 : Int32) ≤ x2 then (tb_cV d mX0_takeAll [.ref 28] S).bind fun q56 => some q56 else (tb_cI d mX6_answer [.ref 24, .int x2] S).bind fun q22 => (if ¬ q22.1 = (-5 : Int32) then (tb_ix x2 224).bind fun j45 => tb_E d mX7_boxFees tb_dV 10 [.ref 1, w1, .int (x2 + (1 : Int32)), .int (q22.1)] [] tb_S (tb_up (q22.2) 29 j45 (q22.1)) else (tb_ix x2 224).bind fun j45 => tb_E d mX7_boxFees tb_dV 10 [.ref 1, w1, .int (x2 + (1 : Int32)), .int (q22.1)] [] tb_S (tb_up (q22.2) 29 j45 (-1 : Int32))))) = some r) : tb_E d mX7_boxFees tb_dV 10 [.ref 1, w1, .int x2, w3] [] tb_S S = some r := by
  refine x_iload_n (pc' := 11) dX7_boxFees_10 rfl rfl ?_
  refine x_sipush (pc' := 14) (w := (224 : Int32)) dX7_boxFees_11 rfl k_si_224 ?_
  by_cases c14 : (224 : Int32) ≤ x2
  · replace h := (if_pos c14).symm.trans h
    refine x_icmp_ge_t (pc' := 52) dX7_boxFees_14 (by decide) c14 ?_
    refine x_aload_n (pc' := 53) dX7_boxFees_52 rfl rfl ?_
    refine x_getR (pc' := 56) dX7_boxFees_53 rfl lf_7_47 rfl sh_1 rfl ?_
    obtain ⟨q56, hq56, h⟩ := Option.bind_eq_some_iff.mp h
    refine x_virtV (pc' := 59) (o := 28) (as := []) (rest := []) dX7_boxFees_56 rfl lm_7_303 rfl rfl rfl sh_28 rfl hq56 ?_
    exact x_vret dX7_boxFees_59 rfl ((tb_dV_ok _).trans h)
  · replace h := (if_neg c14).symm.trans h
    refine x_icmp_ge_f (pc' := 17) dX7_boxFees_14 (by decide) rfl c14 ?_
    refine x_aload_n (pc' := 18) dX7_boxFees_17 rfl rfl ?_
    refine x_getR (pc' := 21) dX7_boxFees_18 rfl lf_7_40 rfl sh_1 rfl ?_
    refine x_iload_n (pc' := 22) dX7_boxFees_21 rfl rfl ?_
    obtain ⟨q22, hq22, h⟩ := Option.bind_eq_some_iff.mp h
    refine x_virtI (pc' := 25) (o := 24) (as := [.int x2]) (rest := []) dX7_boxFees_22 rfl lm_7_155 rfl rfl rfl sh_24 rfl hq22 ?_
    refine x_istore_n (pc' := 26) (ls' := [.ref 1, w1, .int x2, .int (q22.1)]) dX7_boxFees_25 rfl rfl rfl ?_
    refine x_aload_n (pc' := 27) dX7_boxFees_26 rfl rfl ?_
    refine x_getR (pc' := 30) dX7_boxFees_27 rfl lf_7_47 rfl sh_1 rfl ?_
    refine x_getR (pc' := 33) dX7_boxFees_30 rfl lf_7_300 rfl sh_28 rfl ?_
    refine x_iload_n (pc' := 34) dX7_boxFees_33 rfl rfl ?_
    refine x_iload_n (pc' := 35) dX7_boxFees_34 rfl rfl ?_
    refine x_bipush (pc' := 37) (w := (-5 : Int32)) dX7_boxFees_35 rfl k_bi_m5 ?_
    by_cases c37 : ¬ q22.1 = (-5 : Int32)
    · replace h := (if_pos c37).symm.trans h
      refine x_icmp_ne_t (pc' := 44) dX7_boxFees_37 (by decide) c37 ?_
      refine x_iload_n (pc' := 45) dX7_boxFees_44 rfl rfl ?_
      obtain ⟨j45, hj45, h⟩ := Option.bind_eq_some_iff.mp h
      refine x_iastore (pc' := 46) dX7_boxFees_45 rfl sh_29 hj45 ?_
      refine x_iinc (pc' := 49) (w := (1 : Int32)) (ls' := [.ref 1, w1, .int (x2 + (1 : Int32)), .int (q22.1)]) dX7_boxFees_46 rfl rfl k_ic_1 rfl ?_
      refine x_goto (pc' := 10) dX7_boxFees_49 (by decide) ?_
      exact h
    · replace h := (if_neg c37).symm.trans h
      refine x_icmp_ne_f (pc' := 40) dX7_boxFees_37 (by decide) rfl c37 ?_
      refine x_iconst (pc' := 41) (w := (-1 : Int32)) dX7_boxFees_40 rfl k_ic_m1 ?_
      refine x_goto (pc' := 45) dX7_boxFees_41 (by decide) ?_
      obtain ⟨j45, hj45, h⟩ := Option.bind_eq_some_iff.mp h
      refine x_iastore (pc' := 46) dX7_boxFees_45 rfl sh_29 hj45 ?_
      refine x_iinc (pc' := 49) (w := (1 : Int32)) (ls' := [.ref 1, w1, .int (x2 + (1 : Int32)), .int (q22.1)]) dX7_boxFees_46 rfl rfl k_ic_1 rfl ?_
      refine x_goto (pc' := 10) dX7_boxFees_49 (by decide) ?_
      exact h
