/-! X7_put (1,) -/
theorem BX7_put_0 {d : Nat} {x1 x2 x3 : Int32} {S : tb_St} {r : Int32 × tb_St} (h : ((tb_cI d mX3_has [.ref 38, .int x1] S).bind fun q5 => (if ¬ q5.1 = 0 then (tb_cI d mX3_holds [.ref 38, .int x1] (q5.2)).bind fun q18 => (if ¬ q18.1 = 0 then (tb_cI d mX3_hasPlace [.ref 38, .int x1, .int x2] (q18.2)).bind fun q33 => (if ¬ q33.1 = 0 then (tb_cV d mX3_store [.ref 38, .int x1, .int x2, .int x3] (q33.2)).bind fun q49 => some ((1 : Int32), q49) else some ((-13 : Int32), q33.2)) else some ((-11 : Int32), q18.2)) else some ((-1 : Int32), q5.2))) = some r) : tb_E d mX7_put tb_dI 0 [.ref 1, .int x1, .int x2, .int x3] [] tb_S S = some r := by
  refine x_aload_n (pc' := 1) dX7_put_0 rfl rfl ?_
  refine x_getR (pc' := 4) dX7_put_1 rfl lf_7_68 rfl sh_1 rfl ?_
  refine x_iload_n (pc' := 5) dX7_put_4 rfl rfl ?_
  obtain ⟨q5, hq5, h⟩ := Option.bind_eq_some_iff.mp h
  refine x_virtI (pc' := 8) (o := 38) (as := [.int x1]) (rest := []) dX7_put_5 rfl lm_7_233 rfl rfl rfl sh_38 rfl hq5 ?_
  by_cases c8 : ¬ q5.1 = 0
  · replace h := (if_pos c8).symm.trans h
    refine x_if_ne_t (pc' := 13) dX7_put_8 (by decide) c8 ?_
    refine x_aload_n (pc' := 14) dX7_put_13 rfl rfl ?_
    refine x_getR (pc' := 17) dX7_put_14 rfl lf_7_68 rfl sh_1 rfl ?_
    refine x_iload_n (pc' := 18) dX7_put_17 rfl rfl ?_
    obtain ⟨q18, hq18, h⟩ := Option.bind_eq_some_iff.mp h
    refine x_virtI (pc' := 21) (o := 38) (as := [.int x1]) (rest := []) dX7_put_18 rfl lm_7_237 rfl rfl rfl sh_38 rfl hq18 ?_
    by_cases c21 : ¬ q18.1 = 0
    · replace h := (if_pos c21).symm.trans h
      refine x_if_ne_t (pc' := 27) dX7_put_21 (by decide) c21 ?_
      refine x_aload_n (pc' := 28) dX7_put_27 rfl rfl ?_
      refine x_getR (pc' := 31) dX7_put_28 rfl lf_7_68 rfl sh_1 rfl ?_
      refine x_iload_n (pc' := 32) dX7_put_31 rfl rfl ?_
      refine x_iload_n (pc' := 33) dX7_put_32 rfl rfl ?_
      obtain ⟨q33, hq33, h⟩ := Option.bind_eq_some_iff.mp h
      refine x_virtI (pc' := 36) (o := 38) (as := [.int x1, .int x2]) (rest := []) dX7_put_33 rfl lm_7_240 rfl rfl rfl sh_38 rfl hq33 ?_
      by_cases c36 : ¬ q33.1 = 0
      · replace h := (if_pos c36).symm.trans h
        refine x_if_ne_t (pc' := 42) dX7_put_36 (by decide) c36 ?_
        refine x_aload_n (pc' := 43) dX7_put_42 rfl rfl ?_
        refine x_getR (pc' := 46) dX7_put_43 rfl lf_7_68 rfl sh_1 rfl ?_
        refine x_iload_n (pc' := 47) dX7_put_46 rfl rfl ?_
        refine x_iload_n (pc' := 48) dX7_put_47 rfl rfl ?_
        refine x_iload_n (pc' := 49) dX7_put_48 rfl rfl ?_
        obtain ⟨q49, hq49, h⟩ := Option.bind_eq_some_iff.mp h
        refine x_virtV (pc' := 52) (o := 38) (as := [.int x1, .int x2, .int x3]) (rest := []) dX7_put_49 rfl lm_7_244 rfl rfl rfl sh_38 rfl hq49 ?_
        refine x_iconst (pc' := 53) (w := (1 : Int32)) dX7_put_52 rfl k_ic_1 ?_
        exact x_iret dX7_put_53 rfl ((tb_dI_ok _ _).trans h)
      · replace h := (if_neg c36).symm.trans h
        refine x_if_ne_f (pc' := 39) dX7_put_36 (by decide) rfl c36 ?_
        refine x_bipush (pc' := 41) (w := (-13 : Int32)) dX7_put_39 rfl k_bi_m13 ?_
        exact x_iret dX7_put_41 rfl ((tb_dI_ok _ _).trans h)
    · replace h := (if_neg c21).symm.trans h
      refine x_if_ne_f (pc' := 24) dX7_put_21 (by decide) rfl c21 ?_
      refine x_bipush (pc' := 26) (w := (-11 : Int32)) dX7_put_24 rfl k_bi_m11 ?_
      exact x_iret dX7_put_26 rfl ((tb_dI_ok _ _).trans h)
  · replace h := (if_neg c8).symm.trans h
    refine x_if_ne_f (pc' := 11) dX7_put_8 (by decide) rfl c8 ?_
    refine x_iconst (pc' := 12) (w := (-1 : Int32)) dX7_put_11 rfl k_ic_m1 ?_
    exact x_iret dX7_put_12 rfl ((tb_dI_ok _ _).trans h)
theorem MX7_put {d : Nat} {x1 : Int32} {x2 : Int32} {x3 : Int32} {S : tb_St} {r : Int32 × tb_St} (h : ((tb_cI d mX3_has [.ref 38, .int x1] S).bind fun q5 => (if ¬ q5.1 = 0 then (tb_cI d mX3_holds [.ref 38, .int x1] (q5.2)).bind fun q18 => (if ¬ q18.1 = 0 then (tb_cI d mX3_hasPlace [.ref 38, .int x1, .int x2] (q18.2)).bind fun q33 => (if ¬ q33.1 = 0 then (tb_cV d mX3_store [.ref 38, .int x1, .int x2, .int x3] (q33.2)).bind fun q49 => some ((1 : Int32), q49) else some ((-13 : Int32), q33.2)) else some ((-11 : Int32), q18.2)) else some ((-1 : Int32), q5.2))) = some r) : tb_cI (d + 1) mX7_put [.ref 1, .int x1, .int x2, .int x3] S = some r := tb_enI rfl rfl (BX7_put_0 h)
/-! X8_rack (45,) -/
theorem BX8_rack_0 {d : Nat} {x1 x2 : Int32} {w3 : Value} {S : tb_St} {r : Int32 × tb_St} (h : ((tb_cI d mX8_isRack [.int x1] S).bind fun q1 => (if ¬ q1.1 = 0 then (if x2 ≤ (70 : Int32) then (if 0 ≤ x2 then (tb_ix x1 4).bind fun j33 => tb_E d mX8_rack tb_dI 36 [.ref 45, .int x1, .int x2, .int (0 : Int32)] [] tb_S (tb_up (q1.2) 64 j33 (x2 + (1 : Int32))) else some ((-14 : Int32), q1.2)) else some ((-2 : Int32), q1.2)) else some ((-1 : Int32), q1.2))) = some r) : tb_E d mX8_rack tb_dI 0 [.ref 45, .int x1, .int x2, w3] [] tb_S S = some r := by
  refine x_iload_n (pc' := 1) dX8_rack_0 rfl rfl ?_
  obtain ⟨q1, hq1, h⟩ := Option.bind_eq_some_iff.mp h
  refine x_statI (pc' := 4) (as := [.int x1]) (rest := []) dX8_rack_1 rfl lm_8_264 (by decide) rfl rfl rfl rfl hq1 ?_
  by_cases c4 : ¬ q1.1 = 0
  · replace h := (if_pos c4).symm.trans h
    refine x_if_ne_t (pc' := 9) dX8_rack_4 (by decide) c4 ?_
    refine x_iload_n (pc' := 10) dX8_rack_9 rfl rfl ?_
    refine x_bipush (pc' := 12) (w := (70 : Int32)) dX8_rack_10 rfl k_bi_70 ?_
    by_cases c12 : x2 ≤ (70 : Int32)
    · replace h := (if_pos c12).symm.trans h
      refine x_icmp_le_t (pc' := 18) dX8_rack_12 (by decide) c12 ?_
      refine x_iload_n (pc' := 19) dX8_rack_18 rfl rfl ?_
      by_cases c19 : 0 ≤ x2
      · replace h := (if_pos c19).symm.trans h
        refine x_if_ge_t (pc' := 25) dX8_rack_19 (by decide) c19 ?_
        refine x_aload_n (pc' := 26) dX8_rack_25 rfl rfl ?_
        refine x_getR (pc' := 29) dX8_rack_26 rfl lf_8_71 rfl sh_45 rfl ?_
        refine x_iload_n (pc' := 30) dX8_rack_29 rfl rfl ?_
        refine x_iload_n (pc' := 31) dX8_rack_30 rfl rfl ?_
        refine x_iconst (pc' := 32) (w := (1 : Int32)) dX8_rack_31 rfl k_ic_1 ?_
        refine x_iadd (pc' := 33) dX8_rack_32 rfl ?_
        obtain ⟨j33, hj33, h⟩ := Option.bind_eq_some_iff.mp h
        refine x_iastore (pc' := 34) dX8_rack_33 rfl sh_64 hj33 ?_
        refine x_iconst (pc' := 35) (w := (0 : Int32)) dX8_rack_34 rfl k_ic_0 ?_
        refine x_istore_n (pc' := 36) (ls' := [.ref 45, .int x1, .int x2, .int (0 : Int32)]) dX8_rack_35 rfl rfl rfl ?_
        exact h
      · replace h := (if_neg c19).symm.trans h
        refine x_if_ge_f (pc' := 22) dX8_rack_19 (by decide) rfl c19 ?_
        refine x_bipush (pc' := 24) (w := (-14 : Int32)) dX8_rack_22 rfl k_bi_m14 ?_
        exact x_iret dX8_rack_24 rfl ((tb_dI_ok _ _).trans h)
    · replace h := (if_neg c12).symm.trans h
      refine x_icmp_le_f (pc' := 15) dX8_rack_12 (by decide) rfl c12 ?_
      refine x_bipush (pc' := 17) (w := (-2 : Int32)) dX8_rack_15 rfl k_bi_m2 ?_
      exact x_iret dX8_rack_17 rfl ((tb_dI_ok _ _).trans h)
  · replace h := (if_neg c4).symm.trans h
    refine x_if_ne_f (pc' := 7) dX8_rack_4 (by decide) rfl c4 ?_
    refine x_iconst (pc' := 8) (w := (-1 : Int32)) dX8_rack_7 rfl k_ic_m1 ?_
    exact x_iret dX8_rack_8 rfl ((tb_dI_ok _ _).trans h)
theorem MX8_rack {d : Nat} {x1 : Int32} {x2 : Int32} {S : tb_St} {r : Int32 × tb_St} (h : ((tb_cI d mX8_isRack [.int x1] S).bind fun q1 => (if ¬ q1.1 = 0 then (if x2 ≤ (70 : Int32) then (if 0 ≤ x2 then (tb_ix x1 4).bind fun j33 => tb_E d mX8_rack tb_dI 36 [.ref 45, .int x1, .int x2, .int (0 : Int32)] [] tb_S (tb_up (q1.2) 64 j33 (x2 + (1 : Int32))) else some ((-14 : Int32), q1.2)) else some ((-2 : Int32), q1.2)) else some ((-1 : Int32), q1.2))) = some r) : tb_cI (d + 1) mX8_rack [.ref 45, .int x1, .int x2] S = some r := tb_enI rfl rfl (BX8_rack_0 h)
theorem BX8_rack_36 {d : Nat} {x1 x3 : Int32} {w2 : Value} {S : tb_St} {r : Int32 × tb_St} (h : ((if (70 : Int32) ≤ x3 then some ((1 : Int32), S) else (tb_ix (((70 : Int32) * x1) + x3) 280).bind fun j53 => tb_E d mX8_rack tb_dI 36 [.ref 45, .int x1, w2, .int (x3 + (1 : Int32))] [] tb_S (tb_up S 65 j53 (0 : Int32)))) = some r) : tb_E d mX8_rack tb_dI 36 [.ref 45, .int x1, w2, .int x3] [] tb_S S = some r := by
  refine x_iload_n (pc' := 37) dX8_rack_36 rfl rfl ?_
  refine x_bipush (pc' := 39) (w := (70 : Int32)) dX8_rack_37 rfl k_bi_70 ?_
  by_cases c39 : (70 : Int32) ≤ x3
  · replace h := (if_pos c39).symm.trans h
    refine x_icmp_ge_t (pc' := 60) dX8_rack_39 (by decide) c39 ?_
    refine x_iconst (pc' := 61) (w := (1 : Int32)) dX8_rack_60 rfl k_ic_1 ?_
    exact x_iret dX8_rack_61 rfl ((tb_dI_ok _ _).trans h)
  · replace h := (if_neg c39).symm.trans h
    refine x_icmp_ge_f (pc' := 42) dX8_rack_39 (by decide) rfl c39 ?_
    refine x_aload_n (pc' := 43) dX8_rack_42 rfl rfl ?_
    refine x_getR (pc' := 46) dX8_rack_43 rfl lf_8_74 rfl sh_45 rfl ?_
    refine x_bipush (pc' := 48) (w := (70 : Int32)) dX8_rack_46 rfl k_bi_70 ?_
    refine x_iload_n (pc' := 49) dX8_rack_48 rfl rfl ?_
    refine x_imul (pc' := 50) dX8_rack_49 rfl ?_
    refine x_iload_n (pc' := 51) dX8_rack_50 rfl rfl ?_
    refine x_iadd (pc' := 52) dX8_rack_51 rfl ?_
    refine x_iconst (pc' := 53) (w := (0 : Int32)) dX8_rack_52 rfl k_ic_0 ?_
    obtain ⟨j53, hj53, h⟩ := Option.bind_eq_some_iff.mp h
    refine x_iastore (pc' := 54) dX8_rack_53 rfl sh_65 hj53 ?_
    refine x_iinc (pc' := 57) (w := (1 : Int32)) (ls' := [.ref 45, .int x1, w2, .int (x3 + (1 : Int32))]) dX8_rack_54 rfl rfl k_ic_1 rfl ?_
    refine x_goto (pc' := 36) dX8_rack_57 (by decide) ?_
    exact h
/-! X7_rack (1,) -/
theorem BX7_rack_0 {d : Nat} {x1 x2 : Int32} {S : tb_St} {r : Int32 × tb_St} (h : ((tb_cI d mX3_has [.ref 38, .int x1] S).bind fun q5 => (if ¬ q5.1 = 0 then (if x2 ≤ (70 : Int32) then (if 0 ≤ x2 then (tb_cV d mX3_renew [.ref 38, .int x1, .int x2] (q5.2)).bind fun q35 => some ((1 : Int32), q35) else some ((-14 : Int32), q5.2)) else some ((-2 : Int32), q5.2)) else some ((-1 : Int32), q5.2))) = some r) : tb_E d mX7_rack tb_dI 0 [.ref 1, .int x1, .int x2] [] tb_S S = some r := by
  refine x_aload_n (pc' := 1) dX7_rack_0 rfl rfl ?_
  refine x_getR (pc' := 4) dX7_rack_1 rfl lf_7_68 rfl sh_1 rfl ?_
  refine x_iload_n (pc' := 5) dX7_rack_4 rfl rfl ?_
  obtain ⟨q5, hq5, h⟩ := Option.bind_eq_some_iff.mp h
  refine x_virtI (pc' := 8) (o := 38) (as := [.int x1]) (rest := []) dX7_rack_5 rfl lm_7_233 rfl rfl rfl sh_38 rfl hq5 ?_
  by_cases c8 : ¬ q5.1 = 0
  · replace h := (if_pos c8).symm.trans h
    refine x_if_ne_t (pc' := 13) dX7_rack_8 (by decide) c8 ?_
    refine x_iload_n (pc' := 14) dX7_rack_13 rfl rfl ?_
    refine x_bipush (pc' := 16) (w := (70 : Int32)) dX7_rack_14 rfl k_bi_70 ?_
    by_cases c16 : x2 ≤ (70 : Int32)
    · replace h := (if_pos c16).symm.trans h
      refine x_icmp_le_t (pc' := 22) dX7_rack_16 (by decide) c16 ?_
      refine x_iload_n (pc' := 23) dX7_rack_22 rfl rfl ?_
      by_cases c23 : 0 ≤ x2
      · replace h := (if_pos c23).symm.trans h
        refine x_if_ge_t (pc' := 29) dX7_rack_23 (by decide) c23 ?_
        refine x_aload_n (pc' := 30) dX7_rack_29 rfl rfl ?_
        refine x_getR (pc' := 33) dX7_rack_30 rfl lf_7_68 rfl sh_1 rfl ?_
        refine x_iload_n (pc' := 34) dX7_rack_33 rfl rfl ?_
        refine x_iload_n (pc' := 35) dX7_rack_34 rfl rfl ?_
        obtain ⟨q35, hq35, h⟩ := Option.bind_eq_some_iff.mp h
        refine x_virtV (pc' := 38) (o := 38) (as := [.int x1, .int x2]) (rest := []) dX7_rack_35 rfl lm_7_234 rfl rfl rfl sh_38 rfl hq35 ?_
        refine x_iconst (pc' := 39) (w := (1 : Int32)) dX7_rack_38 rfl k_ic_1 ?_
        exact x_iret dX7_rack_39 rfl ((tb_dI_ok _ _).trans h)
      · replace h := (if_neg c23).symm.trans h
        refine x_if_ge_f (pc' := 26) dX7_rack_23 (by decide) rfl c23 ?_
        refine x_bipush (pc' := 28) (w := (-14 : Int32)) dX7_rack_26 rfl k_bi_m14 ?_
        exact x_iret dX7_rack_28 rfl ((tb_dI_ok _ _).trans h)
    · replace h := (if_neg c16).symm.trans h
      refine x_icmp_le_f (pc' := 19) dX7_rack_16 (by decide) rfl c16 ?_
      refine x_bipush (pc' := 21) (w := (-2 : Int32)) dX7_rack_19 rfl k_bi_m2 ?_
      exact x_iret dX7_rack_21 rfl ((tb_dI_ok _ _).trans h)
  · replace h := (if_neg c8).symm.trans h
    refine x_if_ne_f (pc' := 11) dX7_rack_8 (by decide) rfl c8 ?_
    refine x_iconst (pc' := 12) (w := (-1 : Int32)) dX7_rack_11 rfl k_ic_m1 ?_
    exact x_iret dX7_rack_12 rfl ((tb_dI_ok _ _).trans h)
theorem MX7_rack {d : Nat} {x1 : Int32} {x2 : Int32} {S : tb_St} {r : Int32 × tb_St} (h : ((tb_cI d mX3_has [.ref 38, .int x1] S).bind fun q5 => (if ¬ q5.1 = 0 then (if x2 ≤ (70 : Int32) then (if 0 ≤ x2 then (tb_cV d mX3_renew [.ref 38, .int x1, .int x2] (q5.2)).bind fun q35 => some ((1 : Int32), q35) else some ((-14 : Int32), q5.2)) else some ((-2 : Int32), q5.2)) else some ((-1 : Int32), q5.2))) = some r) : tb_cI (d + 1) mX7_rack [.ref 1, .int x1, .int x2] S = some r := tb_enI rfl rfl (BX7_rack_0 h)
/-! X8_till (45,) -/
theorem BX8_till_0 {d : Nat} {x1 x2 x3 x4 : Int32} {w5 w6 w7 w8 w9 w10 : Value} {S : tb_St} {r : Int32 × tb_St} (h : ((tb_cI d mX8_isTerm [.ref 45, .int x1] S).bind fun q2 => (if q2.1 = 0 then some ((-1 : Int32), q2.2) else (tb_cI d mX8_within [.int x4, .int (0 : Int32), .int (2 : Int32)] (q2.2)).bind fun q12 => (if ¬ q12.1 = 0 then (tb_cI d mX8_within [.int x3, .int (1 : Int32), .int (40 : Int32)] (q12.2)).bind fun q24 => (if ¬ q24.1 = 0 then tb_E d mX8_till tb_dI 54 [.ref 45, .int x1, .int x2, .int x3, .int x4, .int x2, .int (0 : Int32), .int (0 : Int32), .int (-5 : Int32), .int (0 : Int32), w10] [] tb_S (tb_up (q24.2) 45 17 (-1 : Int32)) else some ((-2 : Int32), q24.2)) else some ((-1 : Int32), q12.2)))) = some r) : tb_E d mX8_till tb_dI 0 [.ref 45, .int x1, .int x2, .int x3, .int x4, w5, w6, w7, w8, w9, w10] [] tb_S S = some r := by
  refine x_aload_n (pc' := 1) dX8_till_0 rfl rfl ?_
  refine x_iload_n (pc' := 2) dX8_till_1 rfl rfl ?_
  obtain ⟨q2, hq2, h⟩ := Option.bind_eq_some_iff.mp h
  refine x_virtI (pc' := 5) (o := 45) (as := [.int x1]) (rest := []) dX8_till_2 rfl lm_8_109 rfl rfl rfl sh_45 rfl hq2 ?_
  by_cases c5 : q2.1 = 0
  · replace h := (if_pos c5).symm.trans h
    refine x_if_eq_t (pc' := 18) dX8_till_5 (by decide) c5 ?_
    refine x_iconst (pc' := 19) (w := (-1 : Int32)) dX8_till_18 rfl k_ic_m1 ?_
    exact x_iret dX8_till_19 rfl ((tb_dI_ok _ _).trans h)
  · replace h := (if_neg c5).symm.trans h
    refine x_if_eq_f (pc' := 8) dX8_till_5 (by decide) rfl c5 ?_
    refine x_iload (pc' := 10) dX8_till_8 rfl rfl ?_
    refine x_iconst (pc' := 11) (w := (0 : Int32)) dX8_till_10 rfl k_ic_0 ?_
    refine x_iconst (pc' := 12) (w := (2 : Int32)) dX8_till_11 rfl k_ic_2 ?_
    obtain ⟨q12, hq12, h⟩ := Option.bind_eq_some_iff.mp h
    refine x_statI (pc' := 15) (as := [.int x4, .int (0 : Int32), .int (2 : Int32)]) (rest := []) dX8_till_12 rfl lm_8_80 (by decide) rfl rfl rfl rfl hq12 ?_
    by_cases c15 : ¬ q12.1 = 0
    · replace h := (if_pos c15).symm.trans h
      refine x_if_ne_t (pc' := 20) dX8_till_15 (by decide) c15 ?_
      refine x_iload_n (pc' := 21) dX8_till_20 rfl rfl ?_
      refine x_iconst (pc' := 22) (w := (1 : Int32)) dX8_till_21 rfl k_ic_1 ?_
      refine x_bipush (pc' := 24) (w := (40 : Int32)) dX8_till_22 rfl k_bi_40 ?_
      obtain ⟨q24, hq24, h⟩ := Option.bind_eq_some_iff.mp h
      refine x_statI (pc' := 27) (as := [.int x3, .int (1 : Int32), .int (40 : Int32)]) (rest := []) dX8_till_24 rfl lm_8_80 (by decide) rfl rfl rfl rfl hq24 ?_
      by_cases c27 : ¬ q24.1 = 0
      · replace h := (if_pos c27).symm.trans h
        refine x_if_ne_t (pc' := 33) dX8_till_27 (by decide) c27 ?_
        refine x_aload_n (pc' := 34) dX8_till_33 rfl rfl ?_
        refine x_iconst (pc' := 35) (w := (-1 : Int32)) dX8_till_34 rfl k_ic_m1 ?_
        refine x_putI (pc' := 38) dX8_till_35 rfl lf_8_194 (Or.inl rfl) sh_45 ?_
        refine x_iload_n (pc' := 39) dX8_till_38 rfl rfl ?_
        refine x_istore (pc' := 41) (ls' := [.ref 45, .int x1, .int x2, .int x3, .int x4, .int x2, w6, w7, w8, w9, w10]) dX8_till_39 rfl rfl rfl ?_
        refine x_iconst (pc' := 42) (w := (0 : Int32)) dX8_till_41 rfl k_ic_0 ?_
        refine x_istore (pc' := 44) (ls' := [.ref 45, .int x1, .int x2, .int x3, .int x4, .int x2, .int (0 : Int32), w7, w8, w9, w10]) dX8_till_42 rfl rfl rfl ?_
        refine x_iconst (pc' := 45) (w := (0 : Int32)) dX8_till_44 rfl k_ic_0 ?_
        refine x_istore (pc' := 47) (ls' := [.ref 45, .int x1, .int x2, .int x3, .int x4, .int x2, .int (0 : Int32), .int (0 : Int32), w8, w9, w10]) dX8_till_45 rfl rfl rfl ?_
        refine x_bipush (pc' := 49) (w := (-5 : Int32)) dX8_till_47 rfl k_bi_m5 ?_
        refine x_istore (pc' := 51) (ls' := [.ref 45, .int x1, .int x2, .int x3, .int x4, .int x2, .int (0 : Int32), .int (0 : Int32), .int (-5 : Int32), w9, w10]) dX8_till_49 rfl rfl rfl ?_
        refine x_iconst (pc' := 52) (w := (0 : Int32)) dX8_till_51 rfl k_ic_0 ?_
        refine x_istore (pc' := 54) (ls' := [.ref 45, .int x1, .int x2, .int x3, .int x4, .int x2, .int (0 : Int32), .int (0 : Int32), .int (-5 : Int32), .int (0 : Int32), w10]) dX8_till_52 rfl rfl rfl ?_
        exact h
      · replace h := (if_neg c27).symm.trans h
        refine x_if_ne_f (pc' := 30) dX8_till_27 (by decide) rfl c27 ?_
        refine x_bipush (pc' := 32) (w := (-2 : Int32)) dX8_till_30 rfl k_bi_m2 ?_
        exact x_iret dX8_till_32 rfl ((tb_dI_ok _ _).trans h)
    · replace h := (if_neg c15).symm.trans h
      refine x_if_ne_f (pc' := 18) dX8_till_15 (by decide) rfl c15 ?_
      refine x_iconst (pc' := 19) (w := (-1 : Int32)) dX8_till_18 rfl k_ic_m1 ?_
      exact x_iret dX8_till_19 rfl ((tb_dI_ok _ _).trans h)
theorem MX8_till {d : Nat} {x1 : Int32} {x2 : Int32} {x3 : Int32} {x4 : Int32} {S : tb_St} {r : Int32 × tb_St} (h : ((tb_cI d mX8_isTerm [.ref 45, .int x1] S).bind fun q2 => (if q2.1 = 0 then some ((-1 : Int32), q2.2) else (tb_cI d mX8_within [.int x4, .int (0 : Int32), .int (2 : Int32)] (q2.2)).bind fun q12 => (if ¬ q12.1 = 0 then (tb_cI d mX8_within [.int x3, .int (1 : Int32), .int (40 : Int32)] (q12.2)).bind fun q24 => (if ¬ q24.1 = 0 then tb_E d mX8_till tb_dI 54 [.ref 45, .int x1, .int x2, .int x3, .int x4, .int x2, .int (0 : Int32), .int (0 : Int32), .int (-5 : Int32), .int (0 : Int32), tb_jk] [] tb_S (tb_up (q24.2) 45 17 (-1 : Int32)) else some ((-2 : Int32), q24.2)) else some ((-1 : Int32), q12.2)))) = some r) : tb_cI (d + 1) mX8_till [.ref 45, .int x1, .int x2, .int x3, .int x4] S = some r := tb_enI rfl rfl (BX8_till_0 h)
theorem BX8_till_54 {d : Nat} {x1 x3 x4 x5 x6 x7 x8 x9 : Int32} {w2 w10 : Value} {S : tb_St} {r : Int32 × tb_St} (h : ((if x3 ≤ x9 then (if ¬ x4 = 0 then (if ¬ x4 = (1 : Int32) then some (x8, S) else some (x7, S)) else some (x6, S)) else (tb_cI d mX8_sayOf [.ref 45, .int x1, .int (tb_rem ((((x5 * (1664525 : Int32)) + (1013904223 : Int32)) &&& (2147483647 : Int32)) / (256 : Int32)) (224 : Int32))] S).bind fun q88 => (if ¬ q88.1 = (-5 : Int32) then tb_E d mX8_till tb_dI 54 [.ref 45, .int x1, w2, .int x3, .int x4, .int ((x5 * (1664525 : Int32)) + (1013904223 : Int32)), .int (x6 + (q88.1)), .int x7, .int (tb_max x8 (q88.1)), .int (x9 + (1 : Int32)), .int (q88.1)] [] tb_S (q88.2) else tb_E d mX8_till tb_dI 54 [.ref 45, .int x1, w2, .int x3, .int x4, .int ((x5 * (1664525 : Int32)) + (1013904223 : Int32)), .int x6, .int (x7 + (1 : Int32)), .int (tb_max x8 (q88.1)), .int (x9 + (1 : Int32)), .int (q88.1)] [] tb_S (q88.2)))) = some r) : tb_E d mX8_till tb_dI 54 [.ref 45, .int x1, w2, .int x3, .int x4, .int x5, .int x6, .int x7, .int x8, .int x9, w10] [] tb_S S = some r := by
  refine x_iload (pc' := 56) dX8_till_54 rfl rfl ?_
  refine x_iload_n (pc' := 57) dX8_till_56 rfl rfl ?_
  by_cases c57 : x3 ≤ x9
  · replace h := (if_pos c57).symm.trans h
    refine x_icmp_ge_t (pc' := 128) dX8_till_57 (by decide) c57 ?_
    refine x_iload (pc' := 130) dX8_till_128 rfl rfl ?_
    by_cases c130 : ¬ x4 = 0
    · replace h := (if_pos c130).symm.trans h
      refine x_if_ne_t (pc' := 138) dX8_till_130 (by decide) c130 ?_
      refine x_iload (pc' := 140) dX8_till_138 rfl rfl ?_
      refine x_iconst (pc' := 141) (w := (1 : Int32)) dX8_till_140 rfl k_ic_1 ?_
      by_cases c141 : ¬ x4 = (1 : Int32)
      · replace h := (if_pos c141).symm.trans h
        refine x_icmp_ne_t (pc' := 149) dX8_till_141 (by decide) c141 ?_
        refine x_iload (pc' := 151) dX8_till_149 rfl rfl ?_
        exact x_iret dX8_till_151 rfl ((tb_dI_ok _ _).trans h)
      · replace h := (if_neg c141).symm.trans h
        refine x_icmp_ne_f (pc' := 144) dX8_till_141 (by decide) rfl c141 ?_
        refine x_iload (pc' := 146) dX8_till_144 rfl rfl ?_
        refine x_goto (pc' := 151) dX8_till_146 (by decide) ?_
        exact x_iret dX8_till_151 rfl ((tb_dI_ok _ _).trans h)
    · replace h := (if_neg c130).symm.trans h
      refine x_if_ne_f (pc' := 133) dX8_till_130 (by decide) rfl c130 ?_
      refine x_iload (pc' := 135) dX8_till_133 rfl rfl ?_
      refine x_goto (pc' := 151) dX8_till_135 (by decide) ?_
      exact x_iret dX8_till_151 rfl ((tb_dI_ok _ _).trans h)
  · replace h := (if_neg c57).symm.trans h
    refine x_icmp_ge_f (pc' := 60) dX8_till_57 (by decide) rfl c57 ?_
    refine x_iload (pc' := 62) dX8_till_60 rfl rfl ?_
    refine x_ldc_w (pc' := 65) dX8_till_62 rfl lk_8_261 ?_
    refine x_imul (pc' := 66) dX8_till_65 rfl ?_
    refine x_ldc_w (pc' := 69) dX8_till_66 rfl lk_8_262 ?_
    refine x_iadd (pc' := 70) dX8_till_69 rfl ?_
    refine x_istore (pc' := 72) (ls' := [.ref 45, .int x1, w2, .int x3, .int x4, .int ((x5 * (1664525 : Int32)) + (1013904223 : Int32)), .int x6, .int x7, .int x8, .int x9, w10]) dX8_till_70 rfl rfl rfl ?_
    refine x_aload_n (pc' := 73) dX8_till_72 rfl rfl ?_
    refine x_iload_n (pc' := 74) dX8_till_73 rfl rfl ?_
    refine x_iload (pc' := 76) dX8_till_74 rfl rfl ?_
    refine x_ldc_w (pc' := 79) dX8_till_76 rfl lk_8_263 ?_
    refine x_iand (pc' := 80) dX8_till_79 rfl ?_
    refine x_sipush (pc' := 83) (w := (256 : Int32)) dX8_till_80 rfl k_si_256 ?_
    refine x_idiv (pc' := 84) dX8_till_83 rfl (by decide) ?_
    refine x_sipush (pc' := 87) (w := (224 : Int32)) dX8_till_84 rfl k_si_224 ?_
    refine x_irem (pc' := 88) dX8_till_87 rfl (by decide) ?_
    obtain ⟨q88, hq88, h⟩ := Option.bind_eq_some_iff.mp h
    refine x_virtI (pc' := 91) (o := 45) (as := [.int x1, .int (tb_rem ((((x5 * (1664525 : Int32)) + (1013904223 : Int32)) &&& (2147483647 : Int32)) / (256 : Int32)) (224 : Int32))]) (rest := []) dX8_till_88 rfl lm_8_207 rfl rfl rfl sh_45 rfl hq88 ?_
    refine x_istore (pc' := 93) (ls' := [.ref 45, .int x1, w2, .int x3, .int x4, .int ((x5 * (1664525 : Int32)) + (1013904223 : Int32)), .int x6, .int x7, .int x8, .int x9, .int (q88.1)]) dX8_till_91 rfl rfl rfl ?_
    refine x_iload (pc' := 95) dX8_till_93 rfl rfl ?_
    refine x_bipush (pc' := 97) (w := (-5 : Int32)) dX8_till_95 rfl k_bi_m5 ?_
    by_cases c97 : ¬ q88.1 = (-5 : Int32)
    · replace h := (if_pos c97).symm.trans h
      refine x_icmp_ne_t (pc' := 106) dX8_till_97 (by decide) c97 ?_
      refine x_iload (pc' := 108) dX8_till_106 rfl rfl ?_
      refine x_iload (pc' := 110) dX8_till_108 rfl rfl ?_
      refine x_iadd (pc' := 111) dX8_till_110 rfl ?_
      refine x_istore (pc' := 113) (ls' := [.ref 45, .int x1, w2, .int x3, .int x4, .int ((x5 * (1664525 : Int32)) + (1013904223 : Int32)), .int (x6 + (q88.1)), .int x7, .int x8, .int x9, .int (q88.1)]) dX8_till_111 rfl rfl rfl ?_
      refine x_iload (pc' := 115) dX8_till_113 rfl rfl ?_
      refine x_iload (pc' := 117) dX8_till_115 rfl rfl ?_
      refine x_mm (pc' := 120) (w := tb_max x8 (q88.1)) dX8_till_117 rfl ln_8_96 lx_8_96 rfl rfl ?_
      refine x_istore (pc' := 122) (ls' := [.ref 45, .int x1, w2, .int x3, .int x4, .int ((x5 * (1664525 : Int32)) + (1013904223 : Int32)), .int (x6 + (q88.1)), .int x7, .int (tb_max x8 (q88.1)), .int x9, .int (q88.1)]) dX8_till_120 rfl rfl rfl ?_
      refine x_iinc (pc' := 125) (w := (1 : Int32)) (ls' := [.ref 45, .int x1, w2, .int x3, .int x4, .int ((x5 * (1664525 : Int32)) + (1013904223 : Int32)), .int (x6 + (q88.1)), .int x7, .int (tb_max x8 (q88.1)), .int (x9 + (1 : Int32)), .int (q88.1)]) dX8_till_122 rfl rfl k_ic_1 rfl ?_
      refine x_goto (pc' := 54) dX8_till_125 (by decide) ?_
      exact h
    · replace h := (if_neg c97).symm.trans h
      refine x_icmp_ne_f (pc' := 100) dX8_till_97 (by decide) rfl c97 ?_
      refine x_iinc (pc' := 103) (w := (1 : Int32)) (ls' := [.ref 45, .int x1, w2, .int x3, .int x4, .int ((x5 * (1664525 : Int32)) + (1013904223 : Int32)), .int x6, .int (x7 + (1 : Int32)), .int x8, .int x9, .int (q88.1)]) dX8_till_100 rfl rfl k_ic_1 rfl ?_
      refine x_goto (pc' := 113) dX8_till_103 (by decide) ?_
      refine x_iload (pc' := 115) dX8_till_113 rfl rfl ?_
      refine x_iload (pc' := 117) dX8_till_115 rfl rfl ?_
      refine x_mm (pc' := 120) (w := tb_max x8 (q88.1)) dX8_till_117 rfl ln_8_96 lx_8_96 rfl rfl ?_
      refine x_istore (pc' := 122) (ls' := [.ref 45, .int x1, w2, .int x3, .int x4, .int ((x5 * (1664525 : Int32)) + (1013904223 : Int32)), .int x6, .int (x7 + (1 : Int32)), .int (tb_max x8 (q88.1)), .int x9, .int (q88.1)]) dX8_till_120 rfl rfl rfl ?_
      refine x_iinc (pc' := 125) (w := (1 : Int32)) (ls' := [.ref 45, .int x1, w2, .int x3, .int x4, .int ((x5 * (1664525 : Int32)) + (1013904223 : Int32)), .int x6, .int (x7 + (1 : Int32)), .int (tb_max x8 (q88.1)), .int (x9 + (1 : Int32)), .int (q88.1)]) dX8_till_122 rfl rfl k_ic_1 rfl ?_
      refine x_goto (pc' := 54) dX8_till_125 (by decide) ?_
      exact h
/-! X7_till (1,) -/
theorem BX7_till_0 {d : Nat} {x1 x2 x3 x4 : Int32} {w5 w6 w7 w8 w9 w10 : Value} {S : tb_St} {r : Int32 × tb_St} (h : ((tb_cI d mX5_has [.ref 2, .int x1] S).bind fun q5 => (if q5.1 = 0 then some ((-1 : Int32), q5.2) else (if x4 < 0 then some ((-1 : Int32), q5.2) else (if x4 ≤ (2 : Int32) then (if x3 < (1 : Int32) then some ((-2 : Int32), q5.2) else (if x3 ≤ (40 : Int32) then (tb_cV d mX6_unfold [.ref 24, .int x1] (q5.2)).bind fun q43 => tb_E d mX7_till tb_dI 62 [.ref 1, .int x1, .int x2, .int x3, .int x4, .int x2, .int (0 : Int32), .int (0 : Int32), .int (-5 : Int32), .int (0 : Int32), w10] [] tb_S q43 else some ((-2 : Int32), q5.2))) else some ((-1 : Int32), q5.2))))) = some r) : tb_E d mX7_till tb_dI 0 [.ref 1, .int x1, .int x2, .int x3, .int x4, w5, w6, w7, w8, w9, w10] [] tb_S S = some r := by
  refine x_aload_n (pc' := 1) dX7_till_0 rfl rfl ?_
  refine x_getR (pc' := 4) dX7_till_1 rfl lf_7_12 rfl sh_1 rfl ?_
  refine x_iload_n (pc' := 5) dX7_till_4 rfl rfl ?_
  obtain ⟨q5, hq5, h⟩ := Option.bind_eq_some_iff.mp h
  refine x_virtI (pc' := 8) (o := 2) (as := [.int x1]) (rest := []) dX7_till_5 rfl lm_7_80 rfl rfl rfl sh_2 rfl hq5 ?_
  by_cases c8 : q5.1 = 0
  · replace h := (if_pos c8).symm.trans h
    refine x_if_eq_t (pc' := 22) dX7_till_8 (by decide) c8 ?_
    refine x_iconst (pc' := 23) (w := (-1 : Int32)) dX7_till_22 rfl k_ic_m1 ?_
    exact x_iret dX7_till_23 rfl ((tb_dI_ok _ _).trans h)
  · replace h := (if_neg c8).symm.trans h
    refine x_if_eq_f (pc' := 11) dX7_till_8 (by decide) rfl c8 ?_
    refine x_iload (pc' := 13) dX7_till_11 rfl rfl ?_
    by_cases c13 : x4 < 0
    · replace h := (if_pos c13).symm.trans h
      refine x_if_lt_t (pc' := 22) dX7_till_13 (by decide) c13 ?_
      refine x_iconst (pc' := 23) (w := (-1 : Int32)) dX7_till_22 rfl k_ic_m1 ?_
      exact x_iret dX7_till_23 rfl ((tb_dI_ok _ _).trans h)
    · replace h := (if_neg c13).symm.trans h
      refine x_if_lt_f (pc' := 16) dX7_till_13 (by decide) rfl c13 ?_
      refine x_iload (pc' := 18) dX7_till_16 rfl rfl ?_
      refine x_iconst (pc' := 19) (w := (2 : Int32)) dX7_till_18 rfl k_ic_2 ?_
      by_cases c19 : x4 ≤ (2 : Int32)
      · replace h := (if_pos c19).symm.trans h
        refine x_icmp_le_t (pc' := 24) dX7_till_19 (by decide) c19 ?_
        refine x_iload_n (pc' := 25) dX7_till_24 rfl rfl ?_
        refine x_iconst (pc' := 26) (w := (1 : Int32)) dX7_till_25 rfl k_ic_1 ?_
        by_cases c26 : x3 < (1 : Int32)
        · replace h := (if_pos c26).symm.trans h
          refine x_icmp_lt_t (pc' := 35) dX7_till_26 (by decide) c26 ?_
          refine x_bipush (pc' := 37) (w := (-2 : Int32)) dX7_till_35 rfl k_bi_m2 ?_
          exact x_iret dX7_till_37 rfl ((tb_dI_ok _ _).trans h)
        · replace h := (if_neg c26).symm.trans h
          refine x_icmp_lt_f (pc' := 29) dX7_till_26 (by decide) rfl c26 ?_
          refine x_iload_n (pc' := 30) dX7_till_29 rfl rfl ?_
          refine x_bipush (pc' := 32) (w := (40 : Int32)) dX7_till_30 rfl k_bi_40 ?_
          by_cases c32 : x3 ≤ (40 : Int32)
          · replace h := (if_pos c32).symm.trans h
            refine x_icmp_le_t (pc' := 38) dX7_till_32 (by decide) c32 ?_
            refine x_aload_n (pc' := 39) dX7_till_38 rfl rfl ?_
            refine x_getR (pc' := 42) dX7_till_39 rfl lf_7_40 rfl sh_1 rfl ?_
            refine x_iload_n (pc' := 43) dX7_till_42 rfl rfl ?_
            obtain ⟨q43, hq43, h⟩ := Option.bind_eq_some_iff.mp h
            refine x_virtV (pc' := 46) (o := 24) (as := [.int x1]) (rest := []) dX7_till_43 rfl lm_7_152 rfl rfl rfl sh_24 rfl hq43 ?_
            refine x_iload_n (pc' := 47) dX7_till_46 rfl rfl ?_
            refine x_istore (pc' := 49) (ls' := [.ref 1, .int x1, .int x2, .int x3, .int x4, .int x2, w6, w7, w8, w9, w10]) dX7_till_47 rfl rfl rfl ?_
            refine x_iconst (pc' := 50) (w := (0 : Int32)) dX7_till_49 rfl k_ic_0 ?_
            refine x_istore (pc' := 52) (ls' := [.ref 1, .int x1, .int x2, .int x3, .int x4, .int x2, .int (0 : Int32), w7, w8, w9, w10]) dX7_till_50 rfl rfl rfl ?_
            refine x_iconst (pc' := 53) (w := (0 : Int32)) dX7_till_52 rfl k_ic_0 ?_
            refine x_istore (pc' := 55) (ls' := [.ref 1, .int x1, .int x2, .int x3, .int x4, .int x2, .int (0 : Int32), .int (0 : Int32), w8, w9, w10]) dX7_till_53 rfl rfl rfl ?_
            refine x_bipush (pc' := 57) (w := (-5 : Int32)) dX7_till_55 rfl k_bi_m5 ?_
            refine x_istore (pc' := 59) (ls' := [.ref 1, .int x1, .int x2, .int x3, .int x4, .int x2, .int (0 : Int32), .int (0 : Int32), .int (-5 : Int32), w9, w10]) dX7_till_57 rfl rfl rfl ?_
            refine x_iconst (pc' := 60) (w := (0 : Int32)) dX7_till_59 rfl k_ic_0 ?_
            refine x_istore (pc' := 62) (ls' := [.ref 1, .int x1, .int x2, .int x3, .int x4, .int x2, .int (0 : Int32), .int (0 : Int32), .int (-5 : Int32), .int (0 : Int32), w10]) dX7_till_60 rfl rfl rfl ?_
            exact h
          · replace h := (if_neg c32).symm.trans h
            refine x_icmp_le_f (pc' := 35) dX7_till_32 (by decide) rfl c32 ?_
            refine x_bipush (pc' := 37) (w := (-2 : Int32)) dX7_till_35 rfl k_bi_m2 ?_
            exact x_iret dX7_till_37 rfl ((tb_dI_ok _ _).trans h)
      · replace h := (if_neg c19).symm.trans h
        refine x_icmp_le_f (pc' := 22) dX7_till_19 (by decide) rfl c19 ?_
        refine x_iconst (pc' := 23) (w := (-1 : Int32)) dX7_till_22 rfl k_ic_m1 ?_
        exact x_iret dX7_till_23 rfl ((tb_dI_ok _ _).trans h)
theorem MX7_till {d : Nat} {x1 : Int32} {x2 : Int32} {x3 : Int32} {x4 : Int32} {S : tb_St} {r : Int32 × tb_St} (h : ((tb_cI d mX5_has [.ref 2, .int x1] S).bind fun q5 => (if q5.1 = 0 then some ((-1 : Int32), q5.2) else (if x4 < 0 then some ((-1 : Int32), q5.2) else (if x4 ≤ (2 : Int32) then (if x3 < (1 : Int32) then some ((-2 : Int32), q5.2) else (if x3 ≤ (40 : Int32) then (tb_cV d mX6_unfold [.ref 24, .int x1] (q5.2)).bind fun q43 => tb_E d mX7_till tb_dI 62 [.ref 1, .int x1, .int x2, .int x3, .int x4, .int x2, .int (0 : Int32), .int (0 : Int32), .int (-5 : Int32), .int (0 : Int32), tb_jk] [] tb_S q43 else some ((-2 : Int32), q5.2))) else some ((-1 : Int32), q5.2))))) = some r) : tb_cI (d + 1) mX7_till [.ref 1, .int x1, .int x2, .int x3, .int x4] S = some r := tb_enI rfl rfl (BX7_till_0 h)
theorem BX7_till_62 {d : Nat} {x3 x4 x5 x6 x7 x8 x9 : Int32} {w1 w2 w10 : Value} {S : tb_St} {r : Int32 × tb_St} (h : ((if x3 ≤ x9 then (if ¬ x4 = 0 then (if ¬ x4 = (1 : Int32) then some (x8, S) else some (x7, S)) else some (x6, S)) else (tb_cI d mX6_answer [.ref 24, .int (tb_rem ((((x5 * (1664525 : Int32)) + (1013904223 : Int32)) &&& (2147483647 : Int32)) / (256 : Int32)) (224 : Int32))] S).bind fun q95 => (if ¬ q95.1 = (-5 : Int32) then tb_E d mX7_till tb_dI 62 [.ref 1, w1, w2, .int x3, .int x4, .int ((x5 * (1664525 : Int32)) + (1013904223 : Int32)), .int (x6 + (q95.1)), .int x7, .int (tb_max x8 (q95.1)), .int (x9 + (1 : Int32)), .int (q95.1)] [] tb_S (q95.2) else tb_E d mX7_till tb_dI 62 [.ref 1, w1, w2, .int x3, .int x4, .int ((x5 * (1664525 : Int32)) + (1013904223 : Int32)), .int x6, .int (x7 + (1 : Int32)), .int x8, .int (x9 + (1 : Int32)), .int (q95.1)] [] tb_S (q95.2)))) = some r) : tb_E d mX7_till tb_dI 62 [.ref 1, w1, w2, .int x3, .int x4, .int x5, .int x6, .int x7, .int x8, .int x9, w10] [] tb_S S = some r := by
  refine x_iload (pc' := 64) dX7_till_62 rfl rfl ?_
  refine x_iload_n (pc' := 65) dX7_till_64 rfl rfl ?_
  by_cases c65 : x3 ≤ x9
  · replace h := (if_pos c65).symm.trans h
    refine x_icmp_ge_t (pc' := 135) dX7_till_65 (by decide) c65 ?_
    refine x_iload (pc' := 137) dX7_till_135 rfl rfl ?_
    by_cases c137 : ¬ x4 = 0
    · replace h := (if_pos c137).symm.trans h
      refine x_if_ne_t (pc' := 145) dX7_till_137 (by decide) c137 ?_
      refine x_iload (pc' := 147) dX7_till_145 rfl rfl ?_
      refine x_iconst (pc' := 148) (w := (1 : Int32)) dX7_till_147 rfl k_ic_1 ?_
      by_cases c148 : ¬ x4 = (1 : Int32)
      · replace h := (if_pos c148).symm.trans h
        refine x_icmp_ne_t (pc' := 156) dX7_till_148 (by decide) c148 ?_
        refine x_iload (pc' := 158) dX7_till_156 rfl rfl ?_
        exact x_iret dX7_till_158 rfl ((tb_dI_ok _ _).trans h)
      · replace h := (if_neg c148).symm.trans h
        refine x_icmp_ne_f (pc' := 151) dX7_till_148 (by decide) rfl c148 ?_
        refine x_iload (pc' := 153) dX7_till_151 rfl rfl ?_
        refine x_goto (pc' := 158) dX7_till_153 (by decide) ?_
        exact x_iret dX7_till_158 rfl ((tb_dI_ok _ _).trans h)
    · replace h := (if_neg c137).symm.trans h
      refine x_if_ne_f (pc' := 140) dX7_till_137 (by decide) rfl c137 ?_
      refine x_iload (pc' := 142) dX7_till_140 rfl rfl ?_
      refine x_goto (pc' := 158) dX7_till_142 (by decide) ?_
      exact x_iret dX7_till_158 rfl ((tb_dI_ok _ _).trans h)
  · replace h := (if_neg c65).symm.trans h
    refine x_icmp_ge_f (pc' := 68) dX7_till_65 (by decide) rfl c65 ?_
    refine x_iload (pc' := 70) dX7_till_68 rfl rfl ?_
    refine x_ldc (pc' := 72) dX7_till_70 rfl lk_7_225 ?_
    refine x_imul (pc' := 73) dX7_till_72 rfl ?_
    refine x_ldc (pc' := 75) dX7_till_73 rfl lk_7_226 ?_
    refine x_iadd (pc' := 76) dX7_till_75 rfl ?_
    refine x_istore (pc' := 78) (ls' := [.ref 1, w1, w2, .int x3, .int x4, .int ((x5 * (1664525 : Int32)) + (1013904223 : Int32)), .int x6, .int x7, .int x8, .int x9, w10]) dX7_till_76 rfl rfl rfl ?_
    refine x_aload_n (pc' := 79) dX7_till_78 rfl rfl ?_
    refine x_getR (pc' := 82) dX7_till_79 rfl lf_7_40 rfl sh_1 rfl ?_
    refine x_iload (pc' := 84) dX7_till_82 rfl rfl ?_
    refine x_ldc (pc' := 86) dX7_till_84 rfl lk_7_227 ?_
    refine x_iand (pc' := 87) dX7_till_86 rfl ?_
    refine x_sipush (pc' := 90) (w := (256 : Int32)) dX7_till_87 rfl k_si_256 ?_
    refine x_idiv (pc' := 91) dX7_till_90 rfl (by decide) ?_
    refine x_sipush (pc' := 94) (w := (224 : Int32)) dX7_till_91 rfl k_si_224 ?_
    refine x_irem (pc' := 95) dX7_till_94 rfl (by decide) ?_
    obtain ⟨q95, hq95, h⟩ := Option.bind_eq_some_iff.mp h
    refine x_virtI (pc' := 98) (o := 24) (as := [.int (tb_rem ((((x5 * (1664525 : Int32)) + (1013904223 : Int32)) &&& (2147483647 : Int32)) / (256 : Int32)) (224 : Int32))]) (rest := []) dX7_till_95 rfl lm_7_155 rfl rfl rfl sh_24 rfl hq95 ?_
    refine x_istore (pc' := 100) (ls' := [.ref 1, w1, w2, .int x3, .int x4, .int ((x5 * (1664525 : Int32)) + (1013904223 : Int32)), .int x6, .int x7, .int x8, .int x9, .int (q95.1)]) dX7_till_98 rfl rfl rfl ?_
    refine x_iload (pc' := 102) dX7_till_100 rfl rfl ?_
    refine x_bipush (pc' := 104) (w := (-5 : Int32)) dX7_till_102 rfl k_bi_m5 ?_
    by_cases c104 : ¬ q95.1 = (-5 : Int32)
    · replace h := (if_pos c104).symm.trans h
      refine x_icmp_ne_t (pc' := 113) dX7_till_104 (by decide) c104 ?_
      refine x_iload (pc' := 115) dX7_till_113 rfl rfl ?_
      refine x_iload (pc' := 117) dX7_till_115 rfl rfl ?_
      refine x_iadd (pc' := 118) dX7_till_117 rfl ?_
      refine x_istore (pc' := 120) (ls' := [.ref 1, w1, w2, .int x3, .int x4, .int ((x5 * (1664525 : Int32)) + (1013904223 : Int32)), .int (x6 + (q95.1)), .int x7, .int x8, .int x9, .int (q95.1)]) dX7_till_118 rfl rfl rfl ?_
      refine x_iload (pc' := 122) dX7_till_120 rfl rfl ?_
      refine x_iload (pc' := 124) dX7_till_122 rfl rfl ?_
      refine x_mm (pc' := 127) (w := tb_max x8 (q95.1)) dX7_till_124 rfl ln_7_228 lx_7_228 rfl rfl ?_
      refine x_istore (pc' := 129) (ls' := [.ref 1, w1, w2, .int x3, .int x4, .int ((x5 * (1664525 : Int32)) + (1013904223 : Int32)), .int (x6 + (q95.1)), .int x7, .int (tb_max x8 (q95.1)), .int x9, .int (q95.1)]) dX7_till_127 rfl rfl rfl ?_
      refine x_iinc (pc' := 132) (w := (1 : Int32)) (ls' := [.ref 1, w1, w2, .int x3, .int x4, .int ((x5 * (1664525 : Int32)) + (1013904223 : Int32)), .int (x6 + (q95.1)), .int x7, .int (tb_max x8 (q95.1)), .int (x9 + (1 : Int32)), .int (q95.1)]) dX7_till_129 rfl rfl k_ic_1 rfl ?_
      refine x_goto (pc' := 62) dX7_till_132 (by decide) ?_
      exact h
    · replace h := (if_neg c104).symm.trans h
      refine x_icmp_ne_f (pc' := 107) dX7_till_104 (by decide) rfl c104 ?_
      refine x_iinc (pc' := 110) (w := (1 : Int32)) (ls' := [.ref 1, w1, w2, .int x3, .int x4, .int ((x5 * (1664525 : Int32)) + (1013904223 : Int32)), .int x6, .int (x7 + (1 : Int32)), .int x8, .int x9, .int (q95.1)]) dX7_till_107 rfl rfl k_ic_1 rfl ?_
      refine x_goto (pc' := 129) dX7_till_110 (by decide) ?_
      refine x_iinc (pc' := 132) (w := (1 : Int32)) (ls' := [.ref 1, w1, w2, .int x3, .int x4, .int ((x5 * (1664525 : Int32)) + (1013904223 : Int32)), .int x6, .int (x7 + (1 : Int32)), .int x8, .int (x9 + (1 : Int32)), .int (q95.1)]) dX7_till_129 rfl rfl k_ic_1 rfl ?_
      refine x_goto (pc' := 62) dX7_till_132 (by decide) ?_
      exact h
/-! X8_fits (45,) -/
theorem BX8_fits_0 {d : Nat} {x1 x2 x3 : Int32} {w4 w5 w6 w7 w8 w9 : Value} {S : tb_St} {r : Int32 × tb_St} (h : ((tb_cI d mX8_isFlat [.ref 45, .int x1] S).bind fun q2 => (if q2.1 = 0 then some ((-1 : Int32), q2.2) else (tb_cI d mX8_isTerm [.ref 45, .int x2] (q2.2)).bind fun q10 => (if q10.1 = 0 then some ((-1 : Int32), q10.2) else (tb_cI d mX8_within [.int x3, .int (0 : Int32), .int (1 : Int32)] (q10.2)).bind fun q19 => (if ¬ q19.1 = 0 then tb_E d mX8_fits tb_dI 38 [.ref 45, .int x1, .int x2, .int x3, .int (0 : Int32), .int (-5 : Int32), .int (99 : Int32), w7, w8, w9] [] tb_S (q19.2) else some ((-1 : Int32), q19.2))))) = some r) : tb_E d mX8_fits tb_dI 0 [.ref 45, .int x1, .int x2, .int x3, w4, w5, w6, w7, w8, w9] [] tb_S S = some r := by
  refine x_aload_n (pc' := 1) dX8_fits_0 rfl rfl ?_
  refine x_iload_n (pc' := 2) dX8_fits_1 rfl rfl ?_
  obtain ⟨q2, hq2, h⟩ := Option.bind_eq_some_iff.mp h
  refine x_virtI (pc' := 5) (o := 45) (as := [.int x1]) (rest := []) dX8_fits_2 rfl lm_8_251 rfl rfl rfl sh_45 rfl hq2 ?_
  by_cases c5 : q2.1 = 0
  · replace h := (if_pos c5).symm.trans h
    refine x_if_eq_t (pc' := 25) dX8_fits_5 (by decide) c5 ?_
    refine x_iconst (pc' := 26) (w := (-1 : Int32)) dX8_fits_25 rfl k_ic_m1 ?_
    exact x_iret dX8_fits_26 rfl ((tb_dI_ok _ _).trans h)
  · replace h := (if_neg c5).symm.trans h
    refine x_if_eq_f (pc' := 8) dX8_fits_5 (by decide) rfl c5 ?_
    refine x_aload_n (pc' := 9) dX8_fits_8 rfl rfl ?_
    refine x_iload_n (pc' := 10) dX8_fits_9 rfl rfl ?_
    obtain ⟨q10, hq10, h⟩ := Option.bind_eq_some_iff.mp h
    refine x_virtI (pc' := 13) (o := 45) (as := [.int x2]) (rest := []) dX8_fits_10 rfl lm_8_109 rfl rfl rfl sh_45 rfl hq10 ?_
    by_cases c13 : q10.1 = 0
    · replace h := (if_pos c13).symm.trans h
      refine x_if_eq_t (pc' := 25) dX8_fits_13 (by decide) c13 ?_
      refine x_iconst (pc' := 26) (w := (-1 : Int32)) dX8_fits_25 rfl k_ic_m1 ?_
      exact x_iret dX8_fits_26 rfl ((tb_dI_ok _ _).trans h)
    · replace h := (if_neg c13).symm.trans h
      refine x_if_eq_f (pc' := 16) dX8_fits_13 (by decide) rfl c13 ?_
      refine x_iload_n (pc' := 17) dX8_fits_16 rfl rfl ?_
      refine x_iconst (pc' := 18) (w := (0 : Int32)) dX8_fits_17 rfl k_ic_0 ?_
      refine x_iconst (pc' := 19) (w := (1 : Int32)) dX8_fits_18 rfl k_ic_1 ?_
      obtain ⟨q19, hq19, h⟩ := Option.bind_eq_some_iff.mp h
      refine x_statI (pc' := 22) (as := [.int x3, .int (0 : Int32), .int (1 : Int32)]) (rest := []) dX8_fits_19 rfl lm_8_80 (by decide) rfl rfl rfl rfl hq19 ?_
      by_cases c22 : ¬ q19.1 = 0
      · replace h := (if_pos c22).symm.trans h
        refine x_if_ne_t (pc' := 27) dX8_fits_22 (by decide) c22 ?_
        refine x_iconst (pc' := 28) (w := (0 : Int32)) dX8_fits_27 rfl k_ic_0 ?_
        refine x_istore (pc' := 30) (ls' := [.ref 45, .int x1, .int x2, .int x3, .int (0 : Int32), w5, w6, w7, w8, w9]) dX8_fits_28 rfl rfl rfl ?_
        refine x_bipush (pc' := 32) (w := (-5 : Int32)) dX8_fits_30 rfl k_bi_m5 ?_
        refine x_istore (pc' := 34) (ls' := [.ref 45, .int x1, .int x2, .int x3, .int (0 : Int32), .int (-5 : Int32), w6, w7, w8, w9]) dX8_fits_32 rfl rfl rfl ?_
        refine x_bipush (pc' := 36) (w := (99 : Int32)) dX8_fits_34 rfl k_bi_99 ?_
        refine x_istore (pc' := 38) (ls' := [.ref 45, .int x1, .int x2, .int x3, .int (0 : Int32), .int (-5 : Int32), .int (99 : Int32), w7, w8, w9]) dX8_fits_36 rfl rfl rfl ?_
        exact h
      · replace h := (if_neg c22).symm.trans h
        refine x_if_ne_f (pc' := 25) dX8_fits_22 (by decide) rfl c22 ?_
        refine x_iconst (pc' := 26) (w := (-1 : Int32)) dX8_fits_25 rfl k_ic_m1 ?_
        exact x_iret dX8_fits_26 rfl ((tb_dI_ok _ _).trans h)
theorem MX8_fits {d : Nat} {x1 : Int32} {x2 : Int32} {x3 : Int32} {S : tb_St} {r : Int32 × tb_St} (h : ((tb_cI d mX8_isFlat [.ref 45, .int x1] S).bind fun q2 => (if q2.1 = 0 then some ((-1 : Int32), q2.2) else (tb_cI d mX8_isTerm [.ref 45, .int x2] (q2.2)).bind fun q10 => (if q10.1 = 0 then some ((-1 : Int32), q10.2) else (tb_cI d mX8_within [.int x3, .int (0 : Int32), .int (1 : Int32)] (q10.2)).bind fun q19 => (if ¬ q19.1 = 0 then tb_E d mX8_fits tb_dI 38 [.ref 45, .int x1, .int x2, .int x3, .int (0 : Int32), .int (-5 : Int32), .int (99 : Int32), tb_jk, tb_jk, tb_jk] [] tb_S (q19.2) else some ((-1 : Int32), q19.2))))) = some r) : tb_cI (d + 1) mX8_fits [.ref 45, .int x1, .int x2, .int x3] S = some r := tb_enI rfl rfl (BX8_fits_0 h)
theorem BX8_fits_38 {d : Nat} {x1 x2 x3 x4 x5 x6 : Int32} {w7 w8 w9 : Value} {S : tb_St} {r : Int32 × tb_St} (h : ((if x6 < 0 then (if ¬ x3 = 0 then some (x5, S) else some (x4, S)) else tb_E d mX8_fits tb_dI 49 [.ref 45, .int x1, .int x2, .int x3, .int x4, .int x5, .int x6, .int (1 : Int32), .int (0 : Int32), w9] [] tb_S S)) = some r) : tb_E d mX8_fits tb_dI 38 [.ref 45, .int x1, .int x2, .int x3, .int x4, .int x5, .int x6, w7, w8, w9] [] tb_S S = some r := by
  refine x_iload (pc' := 40) dX8_fits_38 rfl rfl ?_
  by_cases c40 : x6 < 0
  · replace h := (if_pos c40).symm.trans h
    refine x_if_lt_t (pc' := 128) dX8_fits_40 (by decide) c40 ?_
    refine x_iload_n (pc' := 129) dX8_fits_128 rfl rfl ?_
    by_cases c129 : ¬ x3 = 0
    · replace h := (if_pos c129).symm.trans h
      refine x_if_ne_t (pc' := 137) dX8_fits_129 (by decide) c129 ?_
      refine x_iload (pc' := 139) dX8_fits_137 rfl rfl ?_
      exact x_iret dX8_fits_139 rfl ((tb_dI_ok _ _).trans h)
    · replace h := (if_neg c129).symm.trans h
      refine x_if_ne_f (pc' := 132) dX8_fits_129 (by decide) rfl c129 ?_
      refine x_iload (pc' := 134) dX8_fits_132 rfl rfl ?_
      refine x_goto (pc' := 139) dX8_fits_134 (by decide) ?_
      exact x_iret dX8_fits_139 rfl ((tb_dI_ok _ _).trans h)
  · replace h := (if_neg c40).symm.trans h
    refine x_if_lt_f (pc' := 43) dX8_fits_40 (by decide) rfl c40 ?_
    refine x_iconst (pc' := 44) (w := (1 : Int32)) dX8_fits_43 rfl k_ic_1 ?_
    refine x_istore (pc' := 46) (ls' := [.ref 45, .int x1, .int x2, .int x3, .int x4, .int x5, .int x6, .int (1 : Int32), w8, w9]) dX8_fits_44 rfl rfl rfl ?_
    refine x_iconst (pc' := 47) (w := (0 : Int32)) dX8_fits_46 rfl k_ic_0 ?_
    refine x_istore (pc' := 49) (ls' := [.ref 45, .int x1, .int x2, .int x3, .int x4, .int x5, .int x6, .int (1 : Int32), .int (0 : Int32), w9]) dX8_fits_47 rfl rfl rfl ?_
    exact h
theorem BX8_fits_49 {d : Nat} {x1 x2 x3 x4 x5 x6 x7 x8 : Int32} {w9 : Value} {S : tb_St} {r : Int32 × tb_St} (h : ((if S 45 8 ≤ x8 then (if ¬ x7 = 0 then tb_E d mX8_fits tb_dI 38 [.ref 45, .int x1, .int x2, .int x3, .int (x4 + (1 : Int32)), .int x6, .int (x6 + (-1 : Int32)), .int x7, .int x8, w9] [] tb_S S else tb_E d mX8_fits tb_dI 38 [.ref 45, .int x1, .int x2, .int x3, .int x4, .int x5, .int (x6 + (-1 : Int32)), .int x7, .int x8, w9] [] tb_S S) else (tb_ix x8 8).bind fun j69 => (tb_cI d mX8_wouldSay [.ref 45, .int x1, .int x6, .int x2, .int (S 53 j69)] S).bind fun q70 => (if ¬ q70.1 = (-5 : Int32) then tb_E d mX8_fits tb_dI 88 [.ref 45, .int x1, .int x2, .int x3, .int x4, .int x5, .int x6, .int x7, .int x8, .int (q70.1)] [.int (q70.1)] tb_S (q70.2) else tb_E d mX8_fits tb_dI 88 [.ref 45, .int x1, .int x2, .int x3, .int x4, .int x5, .int x6, .int x7, .int x8, .int (q70.1)] [.int (-1 : Int32)] tb_S (q70.2)))) = some r) : tb_E d mX8_fits tb_dI 49 [.ref 45, .int x1, .int x2, .int x3, .int x4, .int x5, .int x6, .int x7, .int x8, w9] [] tb_S S = some r := by
  refine x_iload (pc' := 51) dX8_fits_49 rfl rfl ?_
  refine x_aload_n (pc' := 52) dX8_fits_51 rfl rfl ?_
  refine x_getI (pc' := 55) (v := S 45 8) dX8_fits_52 rfl lf_8_258 rfl sh_45 rfl ?_
  by_cases c55 : S 45 8 ≤ x8
  · replace h := (if_pos c55).symm.trans h
    refine x_icmp_ge_t (pc' := 107) dX8_fits_55 (by decide) c55 ?_
    refine x_iload (pc' := 109) dX8_fits_107 rfl rfl ?_
    by_cases c109 : ¬ x7 = 0
    · replace h := (if_pos c109).symm.trans h
      refine x_if_ne_t (pc' := 115) dX8_fits_109 (by decide) c109 ?_
      refine x_iinc (pc' := 118) (w := (1 : Int32)) (ls' := [.ref 45, .int x1, .int x2, .int x3, .int (x4 + (1 : Int32)), .int x5, .int x6, .int x7, .int x8, w9]) dX8_fits_115 rfl rfl k_ic_1 rfl ?_
      refine x_iload (pc' := 120) dX8_fits_118 rfl rfl ?_
      refine x_istore (pc' := 122) (ls' := [.ref 45, .int x1, .int x2, .int x3, .int (x4 + (1 : Int32)), .int x6, .int x6, .int x7, .int x8, w9]) dX8_fits_120 rfl rfl rfl ?_
      refine x_iinc (pc' := 125) (w := (-1 : Int32)) (ls' := [.ref 45, .int x1, .int x2, .int x3, .int (x4 + (1 : Int32)), .int x6, .int (x6 + (-1 : Int32)), .int x7, .int x8, w9]) dX8_fits_122 rfl rfl k_ic_m1 rfl ?_
      refine x_goto (pc' := 38) dX8_fits_125 (by decide) ?_
      exact h
    · replace h := (if_neg c109).symm.trans h
      refine x_if_ne_f (pc' := 112) dX8_fits_109 (by decide) rfl c109 ?_
      refine x_goto (pc' := 122) dX8_fits_112 (by decide) ?_
      refine x_iinc (pc' := 125) (w := (-1 : Int32)) (ls' := [.ref 45, .int x1, .int x2, .int x3, .int x4, .int x5, .int (x6 + (-1 : Int32)), .int x7, .int x8, w9]) dX8_fits_122 rfl rfl k_ic_m1 rfl ?_
      refine x_goto (pc' := 38) dX8_fits_125 (by decide) ?_
      exact h
  · replace h := (if_neg c55).symm.trans h
    refine x_icmp_ge_f (pc' := 58) dX8_fits_55 (by decide) rfl c55 ?_
    refine x_aload_n (pc' := 59) dX8_fits_58 rfl rfl ?_
    refine x_iload_n (pc' := 60) dX8_fits_59 rfl rfl ?_
    refine x_iload (pc' := 62) dX8_fits_60 rfl rfl ?_
    refine x_iload_n (pc' := 63) dX8_fits_62 rfl rfl ?_
    refine x_aload_n (pc' := 64) dX8_fits_63 rfl rfl ?_
    refine x_getR (pc' := 67) dX8_fits_64 rfl lf_8_33 rfl sh_45 rfl ?_
    refine x_iload (pc' := 69) dX8_fits_67 rfl rfl ?_
    obtain ⟨j69, hj69, h⟩ := Option.bind_eq_some_iff.mp h
    refine x_iaload (pc' := 70) (v := S 53 j69) dX8_fits_69 rfl sh_53 hj69 rfl ?_
    obtain ⟨q70, hq70, h⟩ := Option.bind_eq_some_iff.mp h
    refine x_virtI (pc' := 73) (o := 45) (as := [.int x1, .int x6, .int x2, .int (S 53 j69)]) (rest := []) dX8_fits_70 rfl lm_8_254 rfl rfl rfl sh_45 rfl hq70 ?_
    refine x_istore (pc' := 75) (ls' := [.ref 45, .int x1, .int x2, .int x3, .int x4, .int x5, .int x6, .int x7, .int x8, .int (q70.1)]) dX8_fits_73 rfl rfl rfl ?_
    refine x_iload (pc' := 77) dX8_fits_75 rfl rfl ?_
    refine x_bipush (pc' := 79) (w := (-5 : Int32)) dX8_fits_77 rfl k_bi_m5 ?_
    by_cases c79 : ¬ q70.1 = (-5 : Int32)
    · replace h := (if_pos c79).symm.trans h
      refine x_icmp_ne_t (pc' := 86) dX8_fits_79 (by decide) c79 ?_
      refine x_iload (pc' := 88) dX8_fits_86 rfl rfl ?_
      exact h
    · replace h := (if_neg c79).symm.trans h
      refine x_icmp_ne_f (pc' := 82) dX8_fits_79 (by decide) rfl c79 ?_
      refine x_iconst (pc' := 83) (w := (-1 : Int32)) dX8_fits_82 rfl k_ic_m1 ?_
      refine x_goto (pc' := 88) dX8_fits_83 (by decide) ?_
      exact h
theorem BX8_fits_88 {d : Nat} {x1 x2 x3 x4 x5 x6 x7 x8 s0 : Int32} {w9 : Value} {S : tb_St} {r : Int32 × tb_St} (h : ((tb_ix x8 8).bind fun j94 => (if s0 = S 54 j94 then tb_E d mX8_fits tb_dI 49 [.ref 45, .int x1, .int x2, .int x3, .int x4, .int x5, .int x6, .int x7, .int (x8 + (1 : Int32)), w9] [] tb_S S else tb_E d mX8_fits tb_dI 49 [.ref 45, .int x1, .int x2, .int x3, .int x4, .int x5, .int x6, .int (0 : Int32), .int (x8 + (1 : Int32)), w9] [] tb_S S)) = some r) : tb_E d mX8_fits tb_dI 88 [.ref 45, .int x1, .int x2, .int x3, .int x4, .int x5, .int x6, .int x7, .int x8, w9] [.int s0] tb_S S = some r := by
  refine x_aload_n (pc' := 89) dX8_fits_88 rfl rfl ?_
  refine x_getR (pc' := 92) dX8_fits_89 rfl lf_8_36 rfl sh_45 rfl ?_
  refine x_iload (pc' := 94) dX8_fits_92 rfl rfl ?_
  obtain ⟨j94, hj94, h⟩ := Option.bind_eq_some_iff.mp h
  refine x_iaload (pc' := 95) (v := S 54 j94) dX8_fits_94 rfl sh_54 hj94 rfl ?_
  by_cases c95 : s0 = S 54 j94
  · replace h := (if_pos c95).symm.trans h
    refine x_icmp_eq_t (pc' := 101) dX8_fits_95 (by decide) c95 ?_
    refine x_iinc (pc' := 104) (w := (1 : Int32)) (ls' := [.ref 45, .int x1, .int x2, .int x3, .int x4, .int x5, .int x6, .int x7, .int (x8 + (1 : Int32)), w9]) dX8_fits_101 rfl rfl k_ic_1 rfl ?_
    refine x_goto (pc' := 49) dX8_fits_104 (by decide) ?_
    exact h
  · replace h := (if_neg c95).symm.trans h
    refine x_icmp_eq_f (pc' := 98) dX8_fits_95 (by decide) rfl c95 ?_
    refine x_iconst (pc' := 99) (w := (0 : Int32)) dX8_fits_98 rfl k_ic_0 ?_
    refine x_istore (pc' := 101) (ls' := [.ref 45, .int x1, .int x2, .int x3, .int x4, .int x5, .int x6, .int (0 : Int32), .int x8, w9]) dX8_fits_99 rfl rfl rfl ?_
    refine x_iinc (pc' := 104) (w := (1 : Int32)) (ls' := [.ref 45, .int x1, .int x2, .int x3, .int x4, .int x5, .int x6, .int (0 : Int32), .int (x8 + (1 : Int32)), w9]) dX8_fits_101 rfl rfl k_ic_1 rfl ?_
    refine x_goto (pc' := 49) dX8_fits_104 (by decide) ?_
    exact h
/-! X7_fits (1,) -/
theorem BX7_fits_0 {d : Nat} {x1 x2 x3 : Int32} {w4 w5 w6 : Value} {S : tb_St} {r : Int32 × tb_St} (h : ((tb_cI d mX7_isFlat [.ref 1, .int x1] S).bind fun q2 => (if q2.1 = 0 then some ((-1 : Int32), q2.2) else (tb_cI d mX5_has [.ref 2, .int x2] (q2.2)).bind fun q13 => (if q13.1 = 0 then some ((-1 : Int32), q13.2) else (if x3 < 0 then some ((-1 : Int32), q13.2) else (if x3 ≤ (1 : Int32) then (tb_cV d mX6_unfold [.ref 24, .int x2] (q13.2)).bind fun q35 => tb_E d mX7_fits tb_dI 49 [.ref 1, .int x1, .int x2, .int x3, .int (0 : Int32), .int (-5 : Int32), .int (99 : Int32)] [] tb_S q35 else some ((-1 : Int32), q13.2)))))) = some r) : tb_E d mX7_fits tb_dI 0 [.ref 1, .int x1, .int x2, .int x3, w4, w5, w6] [] tb_S S = some r := by
  refine x_aload_n (pc' := 1) dX7_fits_0 rfl rfl ?_
  refine x_iload_n (pc' := 2) dX7_fits_1 rfl rfl ?_
  obtain ⟨q2, hq2, h⟩ := Option.bind_eq_some_iff.mp h
  refine x_virtI (pc' := 5) (o := 1) (as := [.int x1]) (rest := []) dX7_fits_2 rfl lm_7_209 rfl rfl rfl sh_1 rfl hq2 ?_
  by_cases c5 : q2.1 = 0
  · replace h := (if_pos c5).symm.trans h
    refine x_if_eq_t (pc' := 28) dX7_fits_5 (by decide) c5 ?_
    refine x_iconst (pc' := 29) (w := (-1 : Int32)) dX7_fits_28 rfl k_ic_m1 ?_
    exact x_iret dX7_fits_29 rfl ((tb_dI_ok _ _).trans h)
  · replace h := (if_neg c5).symm.trans h
    refine x_if_eq_f (pc' := 8) dX7_fits_5 (by decide) rfl c5 ?_
    refine x_aload_n (pc' := 9) dX7_fits_8 rfl rfl ?_
    refine x_getR (pc' := 12) dX7_fits_9 rfl lf_7_12 rfl sh_1 rfl ?_
    refine x_iload_n (pc' := 13) dX7_fits_12 rfl rfl ?_
    obtain ⟨q13, hq13, h⟩ := Option.bind_eq_some_iff.mp h
    refine x_virtI (pc' := 16) (o := 2) (as := [.int x2]) (rest := []) dX7_fits_13 rfl lm_7_80 rfl rfl rfl sh_2 rfl hq13 ?_
    by_cases c16 : q13.1 = 0
    · replace h := (if_pos c16).symm.trans h
      refine x_if_eq_t (pc' := 28) dX7_fits_16 (by decide) c16 ?_
      refine x_iconst (pc' := 29) (w := (-1 : Int32)) dX7_fits_28 rfl k_ic_m1 ?_
      exact x_iret dX7_fits_29 rfl ((tb_dI_ok _ _).trans h)
    · replace h := (if_neg c16).symm.trans h
      refine x_if_eq_f (pc' := 19) dX7_fits_16 (by decide) rfl c16 ?_
      refine x_iload_n (pc' := 20) dX7_fits_19 rfl rfl ?_
      by_cases c20 : x3 < 0
      · replace h := (if_pos c20).symm.trans h
        refine x_if_lt_t (pc' := 28) dX7_fits_20 (by decide) c20 ?_
        refine x_iconst (pc' := 29) (w := (-1 : Int32)) dX7_fits_28 rfl k_ic_m1 ?_
        exact x_iret dX7_fits_29 rfl ((tb_dI_ok _ _).trans h)
      · replace h := (if_neg c20).symm.trans h
        refine x_if_lt_f (pc' := 23) dX7_fits_20 (by decide) rfl c20 ?_
        refine x_iload_n (pc' := 24) dX7_fits_23 rfl rfl ?_
        refine x_iconst (pc' := 25) (w := (1 : Int32)) dX7_fits_24 rfl k_ic_1 ?_
        by_cases c25 : x3 ≤ (1 : Int32)
        · replace h := (if_pos c25).symm.trans h
          refine x_icmp_le_t (pc' := 30) dX7_fits_25 (by decide) c25 ?_
          refine x_aload_n (pc' := 31) dX7_fits_30 rfl rfl ?_
          refine x_getR (pc' := 34) dX7_fits_31 rfl lf_7_40 rfl sh_1 rfl ?_
          refine x_iload_n (pc' := 35) dX7_fits_34 rfl rfl ?_
          obtain ⟨q35, hq35, h⟩ := Option.bind_eq_some_iff.mp h
          refine x_virtV (pc' := 38) (o := 24) (as := [.int x2]) (rest := []) dX7_fits_35 rfl lm_7_152 rfl rfl rfl sh_24 rfl hq35 ?_
          refine x_iconst (pc' := 39) (w := (0 : Int32)) dX7_fits_38 rfl k_ic_0 ?_
          refine x_istore (pc' := 41) (ls' := [.ref 1, .int x1, .int x2, .int x3, .int (0 : Int32), w5, w6]) dX7_fits_39 rfl rfl rfl ?_
          refine x_bipush (pc' := 43) (w := (-5 : Int32)) dX7_fits_41 rfl k_bi_m5 ?_
          refine x_istore (pc' := 45) (ls' := [.ref 1, .int x1, .int x2, .int x3, .int (0 : Int32), .int (-5 : Int32), w6]) dX7_fits_43 rfl rfl rfl ?_
          refine x_bipush (pc' := 47) (w := (99 : Int32)) dX7_fits_45 rfl k_bi_99 ?_
          refine x_istore (pc' := 49) (ls' := [.ref 1, .int x1, .int x2, .int x3, .int (0 : Int32), .int (-5 : Int32), .int (99 : Int32)]) dX7_fits_47 rfl rfl rfl ?_
          exact h
        · replace h := (if_neg c25).symm.trans h
          refine x_icmp_le_f (pc' := 28) dX7_fits_25 (by decide) rfl c25 ?_
          refine x_iconst (pc' := 29) (w := (-1 : Int32)) dX7_fits_28 rfl k_ic_m1 ?_
          exact x_iret dX7_fits_29 rfl ((tb_dI_ok _ _).trans h)
theorem MX7_fits {d : Nat} {x1 : Int32} {x2 : Int32} {x3 : Int32} {S : tb_St} {r : Int32 × tb_St} (h : ((tb_cI d mX7_isFlat [.ref 1, .int x1] S).bind fun q2 => (if q2.1 = 0 then some ((-1 : Int32), q2.2) else (tb_cI d mX5_has [.ref 2, .int x2] (q2.2)).bind fun q13 => (if q13.1 = 0 then some ((-1 : Int32), q13.2) else (if x3 < 0 then some ((-1 : Int32), q13.2) else (if x3 ≤ (1 : Int32) then (tb_cV d mX6_unfold [.ref 24, .int x2] (q13.2)).bind fun q35 => tb_E d mX7_fits tb_dI 49 [.ref 1, .int x1, .int x2, .int x3, .int (0 : Int32), .int (-5 : Int32), .int (99 : Int32)] [] tb_S q35 else some ((-1 : Int32), q13.2)))))) = some r) : tb_cI (d + 1) mX7_fits [.ref 1, .int x1, .int x2, .int x3] S = some r := tb_enI rfl rfl (BX7_fits_0 h)
theorem BX7_fits_49 {d : Nat} {x1 x3 x4 x5 x6 : Int32} {w2 : Value} {S : tb_St} {r : Int32 × tb_St} (h : ((if x6 < 0 then (if ¬ x3 = 0 then some (x5, S) else some (x4, S)) else (tb_cV d mX6_suppose [.ref 24, .int x1, .int x6] S).bind fun q61 => (tb_cI d mX7_saysWhatWasPaid [.ref 1] q61).bind fun q65 => (if q65.1 = 0 then tb_E d mX7_fits tb_dI 49 [.ref 1, .int x1, w2, .int x3, .int x4, .int x5, .int (x6 + (-1 : Int32))] [] tb_S (q65.2) else tb_E d mX7_fits tb_dI 49 [.ref 1, .int x1, w2, .int x3, .int (x4 + (1 : Int32)), .int x6, .int (x6 + (-1 : Int32))] [] tb_S (q65.2)))) = some r) : tb_E d mX7_fits tb_dI 49 [.ref 1, .int x1, w2, .int x3, .int x4, .int x5, .int x6] [] tb_S S = some r := by
  refine x_iload (pc' := 51) dX7_fits_49 rfl rfl ?_
  by_cases c51 : x6 < 0
  · replace h := (if_pos c51).symm.trans h
    refine x_if_lt_t (pc' := 84) dX7_fits_51 (by decide) c51 ?_
    refine x_iload_n (pc' := 85) dX7_fits_84 rfl rfl ?_
    by_cases c85 : ¬ x3 = 0
    · replace h := (if_pos c85).symm.trans h
      refine x_if_ne_t (pc' := 93) dX7_fits_85 (by decide) c85 ?_
      refine x_iload (pc' := 95) dX7_fits_93 rfl rfl ?_
      exact x_iret dX7_fits_95 rfl ((tb_dI_ok _ _).trans h)
    · replace h := (if_neg c85).symm.trans h
      refine x_if_ne_f (pc' := 88) dX7_fits_85 (by decide) rfl c85 ?_
      refine x_iload (pc' := 90) dX7_fits_88 rfl rfl ?_
      refine x_goto (pc' := 95) dX7_fits_90 (by decide) ?_
      exact x_iret dX7_fits_95 rfl ((tb_dI_ok _ _).trans h)
  · replace h := (if_neg c51).symm.trans h
    refine x_if_lt_f (pc' := 54) dX7_fits_51 (by decide) rfl c51 ?_
    refine x_aload_n (pc' := 55) dX7_fits_54 rfl rfl ?_
    refine x_getR (pc' := 58) dX7_fits_55 rfl lf_7_40 rfl sh_1 rfl ?_
    refine x_iload_n (pc' := 59) dX7_fits_58 rfl rfl ?_
    refine x_iload (pc' := 61) dX7_fits_59 rfl rfl ?_
    obtain ⟨q61, hq61, h⟩ := Option.bind_eq_some_iff.mp h
    refine x_virtV (pc' := 64) (o := 24) (as := [.int x1, .int x6]) (rest := []) dX7_fits_61 rfl lm_7_212 rfl rfl rfl sh_24 rfl hq61 ?_
    refine x_aload_n (pc' := 65) dX7_fits_64 rfl rfl ?_
    obtain ⟨q65, hq65, h⟩ := Option.bind_eq_some_iff.mp h
    refine x_virtI (pc' := 68) (o := 1) (as := []) (rest := []) dX7_fits_65 rfl lm_7_221 rfl rfl rfl sh_1 rfl hq65 ?_
    by_cases c68 : q65.1 = 0
    · replace h := (if_pos c68).symm.trans h
      refine x_if_eq_t (pc' := 78) dX7_fits_68 (by decide) c68 ?_
      refine x_iinc (pc' := 81) (w := (-1 : Int32)) (ls' := [.ref 1, .int x1, w2, .int x3, .int x4, .int x5, .int (x6 + (-1 : Int32))]) dX7_fits_78 rfl rfl k_ic_m1 rfl ?_
      refine x_goto (pc' := 49) dX7_fits_81 (by decide) ?_
      exact h
    · replace h := (if_neg c68).symm.trans h
      refine x_if_eq_f (pc' := 71) dX7_fits_68 (by decide) rfl c68 ?_
      refine x_iinc (pc' := 74) (w := (1 : Int32)) (ls' := [.ref 1, .int x1, w2, .int x3, .int (x4 + (1 : Int32)), .int x5, .int x6]) dX7_fits_71 rfl rfl k_ic_1 rfl ?_
      refine x_iload (pc' := 76) dX7_fits_74 rfl rfl ?_
      refine x_istore (pc' := 78) (ls' := [.ref 1, .int x1, w2, .int x3, .int (x4 + (1 : Int32)), .int x6, .int x6]) dX7_fits_76 rfl rfl rfl ?_
      refine x_iinc (pc' := 81) (w := (-1 : Int32)) (ls' := [.ref 1, .int x1, w2, .int x3, .int (x4 + (1 : Int32)), .int x6, .int (x6 + (-1 : Int32))]) dX7_fits_78 rfl rfl k_ic_m1 rfl ?_
      refine x_goto (pc' := 49) dX7_fits_81 (by decide) ?_
      exact h
/-! X8_paid (45,) -/
theorem BX8_paid_0 {d : Nat} {x1 x2 : Int32} {S : tb_St} {r : Int32 × tb_St} (h : ((if ¬ x1 = (-1 : Int32) then (tb_cI d mX8_isCase [.int x1] S).bind fun q13 => (if ¬ q13.1 = 0 then (tb_cI d mX8_within [.int x2, .int (-1 : Int32), .int (99 : Int32)] (q13.2)).bind fun q25 => (if ¬ q25.1 = 0 then (if ¬ (q25.2) 45 8 = (8 : Int32) then (tb_ix ((q25.2) 45 8) 8).bind fun j55 => (tb_ix ((q25.2) 45 8) 8).bind fun j65 => some (((q25.2) 45 8) + (1 : Int32), tb_up (tb_up (tb_up (q25.2) 53 j55 x1) 54 j65 x2) 45 8 (((q25.2) 45 8) + (1 : Int32))) else some ((-4 : Int32), q25.2)) else some ((-2 : Int32), q25.2)) else some ((-1 : Int32), q13.2)) else some ((0 : Int32), tb_up S 45 8 (0 : Int32)))) = some r) : tb_E d mX8_paid tb_dI 0 [.ref 45, .int x1, .int x2] [] tb_S S = some r := by
  refine x_iload_n (pc' := 1) dX8_paid_0 rfl rfl ?_
  refine x_iconst (pc' := 2) (w := (-1 : Int32)) dX8_paid_1 rfl k_ic_m1 ?_
  by_cases c2 : ¬ x1 = (-1 : Int32)
  · replace h := (if_pos c2).symm.trans h
    refine x_icmp_ne_t (pc' := 12) dX8_paid_2 (by decide) c2 ?_
    refine x_iload_n (pc' := 13) dX8_paid_12 rfl rfl ?_
    obtain ⟨q13, hq13, h⟩ := Option.bind_eq_some_iff.mp h
    refine x_statI (pc' := 16) (as := [.int x1]) (rest := []) dX8_paid_13 rfl lm_8_210 (by decide) rfl rfl rfl rfl hq13 ?_
    by_cases c16 : ¬ q13.1 = 0
    · replace h := (if_pos c16).symm.trans h
      refine x_if_ne_t (pc' := 21) dX8_paid_16 (by decide) c16 ?_
      refine x_iload_n (pc' := 22) dX8_paid_21 rfl rfl ?_
      refine x_iconst (pc' := 23) (w := (-1 : Int32)) dX8_paid_22 rfl k_ic_m1 ?_
      refine x_bipush (pc' := 25) (w := (99 : Int32)) dX8_paid_23 rfl k_bi_99 ?_
      obtain ⟨q25, hq25, h⟩ := Option.bind_eq_some_iff.mp h
      refine x_statI (pc' := 28) (as := [.int x2, .int (-1 : Int32), .int (99 : Int32)]) (rest := []) dX8_paid_25 rfl lm_8_80 (by decide) rfl rfl rfl rfl hq25 ?_
      by_cases c28 : ¬ q25.1 = 0
      · replace h := (if_pos c28).symm.trans h
        refine x_if_ne_t (pc' := 34) dX8_paid_28 (by decide) c28 ?_
        refine x_aload_n (pc' := 35) dX8_paid_34 rfl rfl ?_
        refine x_getI (pc' := 38) (v := (q25.2) 45 8) dX8_paid_35 rfl lf_8_258 rfl sh_45 rfl ?_
        refine x_bipush (pc' := 40) (w := (8 : Int32)) dX8_paid_38 rfl k_bi_8 ?_
        by_cases c40 : ¬ (q25.2) 45 8 = (8 : Int32)
        · replace h := (if_pos c40).symm.trans h
          refine x_icmp_ne_t (pc' := 46) dX8_paid_40 (by decide) c40 ?_
          refine x_aload_n (pc' := 47) dX8_paid_46 rfl rfl ?_
          refine x_getR (pc' := 50) dX8_paid_47 rfl lf_8_33 rfl sh_45 rfl ?_
          refine x_aload_n (pc' := 51) dX8_paid_50 rfl rfl ?_
          refine x_getI (pc' := 54) (v := (q25.2) 45 8) dX8_paid_51 rfl lf_8_258 rfl sh_45 rfl ?_
          refine x_iload_n (pc' := 55) dX8_paid_54 rfl rfl ?_
          obtain ⟨j55, hj55, h⟩ := Option.bind_eq_some_iff.mp h
          refine x_iastore (pc' := 56) dX8_paid_55 rfl sh_53 hj55 ?_
          refine x_aload_n (pc' := 57) dX8_paid_56 rfl rfl ?_
          refine x_getR (pc' := 60) dX8_paid_57 rfl lf_8_36 rfl sh_45 rfl ?_
          refine x_aload_n (pc' := 61) dX8_paid_60 rfl rfl ?_
          refine x_getI (pc' := 64) (v := (q25.2) 45 8) dX8_paid_61 rfl lf_8_258 rfl sh_45 rfl ?_
          refine x_iload_n (pc' := 65) dX8_paid_64 rfl rfl ?_
          obtain ⟨j65, hj65, h⟩ := Option.bind_eq_some_iff.mp h
          refine x_iastore (pc' := 66) dX8_paid_65 rfl sh_54 hj65 ?_
          refine x_aload_n (pc' := 67) dX8_paid_66 rfl rfl ?_
          refine x_dup (pc' := 68) dX8_paid_67 rfl rfl ?_
          refine x_getI (pc' := 71) (v := (q25.2) 45 8) dX8_paid_68 rfl lf_8_258 rfl sh_45 rfl ?_
          refine x_iconst (pc' := 72) (w := (1 : Int32)) dX8_paid_71 rfl k_ic_1 ?_
          refine x_iadd (pc' := 73) dX8_paid_72 rfl ?_
          refine x_putI (pc' := 76) dX8_paid_73 rfl lf_8_258 (Or.inl rfl) sh_45 ?_
          refine x_aload_n (pc' := 77) dX8_paid_76 rfl rfl ?_
          refine x_getI (pc' := 80) (v := ((q25.2) 45 8) + (1 : Int32)) dX8_paid_77 rfl lf_8_258 rfl sh_45 rfl ?_
          exact x_iret dX8_paid_80 rfl ((tb_dI_ok _ _).trans h)
        · replace h := (if_neg c40).symm.trans h
          refine x_icmp_ne_f (pc' := 43) dX8_paid_40 (by decide) rfl c40 ?_
          refine x_bipush (pc' := 45) (w := (-4 : Int32)) dX8_paid_43 rfl k_bi_m4 ?_
          exact x_iret dX8_paid_45 rfl ((tb_dI_ok _ _).trans h)
      · replace h := (if_neg c28).symm.trans h
        refine x_if_ne_f (pc' := 31) dX8_paid_28 (by decide) rfl c28 ?_
        refine x_bipush (pc' := 33) (w := (-2 : Int32)) dX8_paid_31 rfl k_bi_m2 ?_
        exact x_iret dX8_paid_33 rfl ((tb_dI_ok _ _).trans h)
    · replace h := (if_neg c16).symm.trans h
      refine x_if_ne_f (pc' := 19) dX8_paid_16 (by decide) rfl c16 ?_
      refine x_iconst (pc' := 20) (w := (-1 : Int32)) dX8_paid_19 rfl k_ic_m1 ?_
      exact x_iret dX8_paid_20 rfl ((tb_dI_ok _ _).trans h)
  · replace h := (if_neg c2).symm.trans h
    refine x_icmp_ne_f (pc' := 5) dX8_paid_2 (by decide) rfl c2 ?_
    refine x_aload_n (pc' := 6) dX8_paid_5 rfl rfl ?_
    refine x_iconst (pc' := 7) (w := (0 : Int32)) dX8_paid_6 rfl k_ic_0 ?_
    refine x_putI (pc' := 10) dX8_paid_7 rfl lf_8_258 (Or.inl rfl) sh_45 ?_
    refine x_iconst (pc' := 11) (w := (0 : Int32)) dX8_paid_10 rfl k_ic_0 ?_
    exact x_iret dX8_paid_11 rfl ((tb_dI_ok _ _).trans h)
theorem MX8_paid {d : Nat} {x1 : Int32} {x2 : Int32} {S : tb_St} {r : Int32 × tb_St} (h : ((if ¬ x1 = (-1 : Int32) then (tb_cI d mX8_isCase [.int x1] S).bind fun q13 => (if ¬ q13.1 = 0 then (tb_cI d mX8_within [.int x2, .int (-1 : Int32), .int (99 : Int32)] (q13.2)).bind fun q25 => (if ¬ q25.1 = 0 then (if ¬ (q25.2) 45 8 = (8 : Int32) then (tb_ix ((q25.2) 45 8) 8).bind fun j55 => (tb_ix ((q25.2) 45 8) 8).bind fun j65 => some (((q25.2) 45 8) + (1 : Int32), tb_up (tb_up (tb_up (q25.2) 53 j55 x1) 54 j65 x2) 45 8 (((q25.2) 45 8) + (1 : Int32))) else some ((-4 : Int32), q25.2)) else some ((-2 : Int32), q25.2)) else some ((-1 : Int32), q13.2)) else some ((0 : Int32), tb_up S 45 8 (0 : Int32)))) = some r) : tb_cI (d + 1) mX8_paid [.ref 45, .int x1, .int x2] S = some r := tb_enI rfl rfl (BX8_paid_0 h)
/-! X7_paid (1,) -/
theorem BX7_paid_0 {d : Nat} {x1 x2 : Int32} {S : tb_St} {r : Int32 × tb_St} (h : ((if ¬ x1 = (-1 : Int32) then (tb_cI d mX7_isCase [.int x1] S).bind fun q15 => (if ¬ q15.1 = 0 then (if x2 = (-1 : Int32) then tb_E d mX7_paid tb_dI 38 [.ref 1, .int x1, .int x2] [] tb_S (q15.2) else (tb_cI d mX7_isFee [.int x2] (q15.2)).bind fun q29 => (if ¬ q29.1 = 0 then tb_E d mX7_paid tb_dI 38 [.ref 1, .int x1, .int x2] [] tb_S (q29.2) else some ((-2 : Int32), q29.2))) else some ((-1 : Int32), q15.2)) else (tb_cV d mX1_forget [.ref 10] S).bind fun q9 => some ((0 : Int32), q9))) = some r) : tb_E d mX7_paid tb_dI 0 [.ref 1, .int x1, .int x2] [] tb_S S = some r := by
  refine x_iload_n (pc' := 1) dX7_paid_0 rfl rfl ?_
  refine x_iconst (pc' := 2) (w := (-1 : Int32)) dX7_paid_1 rfl k_ic_m1 ?_
  by_cases c2 : ¬ x1 = (-1 : Int32)
  · replace h := (if_pos c2).symm.trans h
    refine x_icmp_ne_t (pc' := 14) dX7_paid_2 (by decide) c2 ?_
    refine x_iload_n (pc' := 15) dX7_paid_14 rfl rfl ?_
    obtain ⟨q15, hq15, h⟩ := Option.bind_eq_some_iff.mp h
    refine x_statI (pc' := 18) (as := [.int x1]) (rest := []) dX7_paid_15 rfl lm_7_149 (by decide) rfl rfl rfl rfl hq15 ?_
    by_cases c18 : ¬ q15.1 = 0
    · replace h := (if_pos c18).symm.trans h
      refine x_if_ne_t (pc' := 23) dX7_paid_18 (by decide) c18 ?_
      refine x_iload_n (pc' := 24) dX7_paid_23 rfl rfl ?_
      refine x_iconst (pc' := 25) (w := (-1 : Int32)) dX7_paid_24 rfl k_ic_m1 ?_
      by_cases c25 : x2 = (-1 : Int32)
      · replace h := (if_pos c25).symm.trans h
        refine x_icmp_eq_t (pc' := 38) dX7_paid_25 (by decide) c25 ?_
        exact h
      · replace h := (if_neg c25).symm.trans h
        refine x_icmp_eq_f (pc' := 28) dX7_paid_25 (by decide) rfl c25 ?_
        refine x_iload_n (pc' := 29) dX7_paid_28 rfl rfl ?_
        obtain ⟨q29, hq29, h⟩ := Option.bind_eq_some_iff.mp h
        refine x_statI (pc' := 32) (as := [.int x2]) (rest := []) dX7_paid_29 rfl lm_7_72 (by decide) rfl rfl rfl rfl hq29 ?_
        by_cases c32 : ¬ q29.1 = 0
        · replace h := (if_pos c32).symm.trans h
          refine x_if_ne_t (pc' := 38) dX7_paid_32 (by decide) c32 ?_
          exact h
        · replace h := (if_neg c32).symm.trans h
          refine x_if_ne_f (pc' := 35) dX7_paid_32 (by decide) rfl c32 ?_
          refine x_bipush (pc' := 37) (w := (-2 : Int32)) dX7_paid_35 rfl k_bi_m2 ?_
          exact x_iret dX7_paid_37 rfl ((tb_dI_ok _ _).trans h)
    · replace h := (if_neg c18).symm.trans h
      refine x_if_ne_f (pc' := 21) dX7_paid_18 (by decide) rfl c18 ?_
      refine x_iconst (pc' := 22) (w := (-1 : Int32)) dX7_paid_21 rfl k_ic_m1 ?_
      exact x_iret dX7_paid_22 rfl ((tb_dI_ok _ _).trans h)
  · replace h := (if_neg c2).symm.trans h
    refine x_icmp_ne_f (pc' := 5) dX7_paid_2 (by decide) rfl c2 ?_
    refine x_aload_n (pc' := 6) dX7_paid_5 rfl rfl ?_
    refine x_getR (pc' := 9) dX7_paid_6 rfl lf_7_21 rfl sh_1 rfl ?_
    obtain ⟨q9, hq9, h⟩ := Option.bind_eq_some_iff.mp h
    refine x_virtV (pc' := 12) (o := 10) (as := []) (rest := []) dX7_paid_9 rfl lm_7_215 rfl rfl rfl sh_10 rfl hq9 ?_
    refine x_iconst (pc' := 13) (w := (0 : Int32)) dX7_paid_12 rfl k_ic_0 ?_
    exact x_iret dX7_paid_13 rfl ((tb_dI_ok _ _).trans h)
theorem MX7_paid {d : Nat} {x1 : Int32} {x2 : Int32} {S : tb_St} {r : Int32 × tb_St} (h : ((if ¬ x1 = (-1 : Int32) then (tb_cI d mX7_isCase [.int x1] S).bind fun q15 => (if ¬ q15.1 = 0 then (if x2 = (-1 : Int32) then tb_E d mX7_paid tb_dI 38 [.ref 1, .int x1, .int x2] [] tb_S (q15.2) else (tb_cI d mX7_isFee [.int x2] (q15.2)).bind fun q29 => (if ¬ q29.1 = 0 then tb_E d mX7_paid tb_dI 38 [.ref 1, .int x1, .int x2] [] tb_S (q29.2) else some ((-2 : Int32), q29.2))) else some ((-1 : Int32), q15.2)) else (tb_cV d mX1_forget [.ref 10] S).bind fun q9 => some ((0 : Int32), q9))) = some r) : tb_cI (d + 1) mX7_paid [.ref 1, .int x1, .int x2] S = some r := tb_enI rfl rfl (BX7_paid_0 h)
theorem BX7_paid_38 {d : Nat} {x1 x2 : Int32} {S : tb_St} {r : Int32 × tb_St} (h : ((if ¬ x2 = (-1 : Int32) then (tb_cI d mX1_note [.ref 10, .int x1, .int x2] S).bind fun q54 => some (q54.1, q54.2) else (tb_cI d mX1_note [.ref 10, .int x1, .int (-5 : Int32)] S).bind fun q54 => some (q54.1, q54.2))) = some r) : tb_E d mX7_paid tb_dI 38 [.ref 1, .int x1, .int x2] [] tb_S S = some r := by
  refine x_aload_n (pc' := 39) dX7_paid_38 rfl rfl ?_
  refine x_getR (pc' := 42) dX7_paid_39 rfl lf_7_21 rfl sh_1 rfl ?_
  refine x_iload_n (pc' := 43) dX7_paid_42 rfl rfl ?_
  refine x_iload_n (pc' := 44) dX7_paid_43 rfl rfl ?_
  refine x_iconst (pc' := 45) (w := (-1 : Int32)) dX7_paid_44 rfl k_ic_m1 ?_
  by_cases c45 : ¬ x2 = (-1 : Int32)
  · replace h := (if_pos c45).symm.trans h
    refine x_icmp_ne_t (pc' := 53) dX7_paid_45 (by decide) c45 ?_
    refine x_iload_n (pc' := 54) dX7_paid_53 rfl rfl ?_
    obtain ⟨q54, hq54, h⟩ := Option.bind_eq_some_iff.mp h
    refine x_virtI (pc' := 57) (o := 10) (as := [.int x1, .int x2]) (rest := []) dX7_paid_54 rfl lm_7_218 rfl rfl rfl sh_10 rfl hq54 ?_
    exact x_iret dX7_paid_57 rfl ((tb_dI_ok _ _).trans h)
  · replace h := (if_neg c45).symm.trans h
    refine x_icmp_ne_f (pc' := 48) dX7_paid_45 (by decide) rfl c45 ?_
    refine x_bipush (pc' := 50) (w := (-5 : Int32)) dX7_paid_48 rfl k_bi_m5 ?_
    refine x_goto (pc' := 54) dX7_paid_50 (by decide) ?_
    obtain ⟨q54, hq54, h⟩ := Option.bind_eq_some_iff.mp h
    refine x_virtI (pc' := 57) (o := 10) (as := [.int x1, .int (-5 : Int32)]) (rest := []) dX7_paid_54 rfl lm_7_218 rfl rfl rfl sh_10 rfl hq54 ?_
    exact x_iret dX7_paid_57 rfl ((tb_dI_ok _ _).trans h)
/-! X8_would (45,) -/
theorem BX8_would_0 {d : Nat} {x1 x2 x3 x4 : Int32} {S : tb_St} {r : Int32 × tb_St} (h : ((tb_cI d mX8_isFlat [.ref 45, .int x1] S).bind fun q2 => (if q2.1 = 0 then some ((-1 : Int32), q2.2) else (tb_cI d mX8_isTerm [.ref 45, .int x3] (q2.2)).bind fun q10 => (if q10.1 = 0 then some ((-1 : Int32), q10.2) else (tb_cI d mX8_isCase [.int x4] (q10.2)).bind fun q18 => (if ¬ q18.1 = 0 then (tb_cI d mX8_within [.int x2, .int (0 : Int32), .int (99 : Int32)] (q18.2)).bind fun q30 => (if q30.1 = 0 then some ((-2 : Int32), q30.2) else (tb_cI d mX8_wouldSay [.ref 45, .int x1, .int x2, .int x3, .int x4] (q30.2)).bind fun q42 => some (q42.1, q42.2)) else some ((-1 : Int32), q18.2))))) = some r) : tb_E d mX8_would tb_dI 0 [.ref 45, .int x1, .int x2, .int x3, .int x4] [] tb_S S = some r := by
  refine x_aload_n (pc' := 1) dX8_would_0 rfl rfl ?_
  refine x_iload_n (pc' := 2) dX8_would_1 rfl rfl ?_
  obtain ⟨q2, hq2, h⟩ := Option.bind_eq_some_iff.mp h
  refine x_virtI (pc' := 5) (o := 45) (as := [.int x1]) (rest := []) dX8_would_2 rfl lm_8_251 rfl rfl rfl sh_45 rfl hq2 ?_
  by_cases c5 : q2.1 = 0
  · replace h := (if_pos c5).symm.trans h
    refine x_if_eq_t (pc' := 24) dX8_would_5 (by decide) c5 ?_
    refine x_iconst (pc' := 25) (w := (-1 : Int32)) dX8_would_24 rfl k_ic_m1 ?_
    exact x_iret dX8_would_25 rfl ((tb_dI_ok _ _).trans h)
  · replace h := (if_neg c5).symm.trans h
    refine x_if_eq_f (pc' := 8) dX8_would_5 (by decide) rfl c5 ?_
    refine x_aload_n (pc' := 9) dX8_would_8 rfl rfl ?_
    refine x_iload_n (pc' := 10) dX8_would_9 rfl rfl ?_
    obtain ⟨q10, hq10, h⟩ := Option.bind_eq_some_iff.mp h
    refine x_virtI (pc' := 13) (o := 45) (as := [.int x3]) (rest := []) dX8_would_10 rfl lm_8_109 rfl rfl rfl sh_45 rfl hq10 ?_
    by_cases c13 : q10.1 = 0
    · replace h := (if_pos c13).symm.trans h
      refine x_if_eq_t (pc' := 24) dX8_would_13 (by decide) c13 ?_
      refine x_iconst (pc' := 25) (w := (-1 : Int32)) dX8_would_24 rfl k_ic_m1 ?_
      exact x_iret dX8_would_25 rfl ((tb_dI_ok _ _).trans h)
    · replace h := (if_neg c13).symm.trans h
      refine x_if_eq_f (pc' := 16) dX8_would_13 (by decide) rfl c13 ?_
      refine x_iload (pc' := 18) dX8_would_16 rfl rfl ?_
      obtain ⟨q18, hq18, h⟩ := Option.bind_eq_some_iff.mp h
      refine x_statI (pc' := 21) (as := [.int x4]) (rest := []) dX8_would_18 rfl lm_8_210 (by decide) rfl rfl rfl rfl hq18 ?_
      by_cases c21 : ¬ q18.1 = 0
      · replace h := (if_pos c21).symm.trans h
        refine x_if_ne_t (pc' := 26) dX8_would_21 (by decide) c21 ?_
        refine x_iload_n (pc' := 27) dX8_would_26 rfl rfl ?_
        refine x_iconst (pc' := 28) (w := (0 : Int32)) dX8_would_27 rfl k_ic_0 ?_
        refine x_bipush (pc' := 30) (w := (99 : Int32)) dX8_would_28 rfl k_bi_99 ?_
        obtain ⟨q30, hq30, h⟩ := Option.bind_eq_some_iff.mp h
        refine x_statI (pc' := 33) (as := [.int x2, .int (0 : Int32), .int (99 : Int32)]) (rest := []) dX8_would_30 rfl lm_8_80 (by decide) rfl rfl rfl rfl hq30 ?_
        by_cases c33 : q30.1 = 0
        · replace h := (if_pos c33).symm.trans h
          refine x_if_eq_t (pc' := 48) dX8_would_33 (by decide) c33 ?_
          refine x_bipush (pc' := 50) (w := (-2 : Int32)) dX8_would_48 rfl k_bi_m2 ?_
          exact x_iret dX8_would_50 rfl ((tb_dI_ok _ _).trans h)
        · replace h := (if_neg c33).symm.trans h
          refine x_if_eq_f (pc' := 36) dX8_would_33 (by decide) rfl c33 ?_
          refine x_aload_n (pc' := 37) dX8_would_36 rfl rfl ?_
          refine x_iload_n (pc' := 38) dX8_would_37 rfl rfl ?_
          refine x_iload_n (pc' := 39) dX8_would_38 rfl rfl ?_
          refine x_iload_n (pc' := 40) dX8_would_39 rfl rfl ?_
          refine x_iload (pc' := 42) dX8_would_40 rfl rfl ?_
          obtain ⟨q42, hq42, h⟩ := Option.bind_eq_some_iff.mp h
          refine x_virtI (pc' := 45) (o := 45) (as := [.int x1, .int x2, .int x3, .int x4]) (rest := []) dX8_would_42 rfl lm_8_254 rfl rfl rfl sh_45 rfl hq42 ?_
          refine x_goto (pc' := 50) dX8_would_45 (by decide) ?_
          exact x_iret dX8_would_50 rfl ((tb_dI_ok _ _).trans h)
      · replace h := (if_neg c21).symm.trans h
        refine x_if_ne_f (pc' := 24) dX8_would_21 (by decide) rfl c21 ?_
        refine x_iconst (pc' := 25) (w := (-1 : Int32)) dX8_would_24 rfl k_ic_m1 ?_
        exact x_iret dX8_would_25 rfl ((tb_dI_ok _ _).trans h)
theorem MX8_would {d : Nat} {x1 : Int32} {x2 : Int32} {x3 : Int32} {x4 : Int32} {S : tb_St} {r : Int32 × tb_St} (h : ((tb_cI d mX8_isFlat [.ref 45, .int x1] S).bind fun q2 => (if q2.1 = 0 then some ((-1 : Int32), q2.2) else (tb_cI d mX8_isTerm [.ref 45, .int x3] (q2.2)).bind fun q10 => (if q10.1 = 0 then some ((-1 : Int32), q10.2) else (tb_cI d mX8_isCase [.int x4] (q10.2)).bind fun q18 => (if ¬ q18.1 = 0 then (tb_cI d mX8_within [.int x2, .int (0 : Int32), .int (99 : Int32)] (q18.2)).bind fun q30 => (if q30.1 = 0 then some ((-2 : Int32), q30.2) else (tb_cI d mX8_wouldSay [.ref 45, .int x1, .int x2, .int x3, .int x4] (q30.2)).bind fun q42 => some (q42.1, q42.2)) else some ((-1 : Int32), q18.2))))) = some r) : tb_cI (d + 1) mX8_would [.ref 45, .int x1, .int x2, .int x3, .int x4] S = some r := tb_enI rfl rfl (BX8_would_0 h)
/-! X7_would (1,) -/
theorem BX7_would_0 {d : Nat} {x1 x2 x3 x4 : Int32} {S : tb_St} {r : Int32 × tb_St} (h : ((tb_cI d mX7_isFlat [.ref 1, .int x1] S).bind fun q2 => (if q2.1 = 0 then some ((-1 : Int32), q2.2) else (tb_cI d mX5_has [.ref 2, .int x3] (q2.2)).bind fun q13 => (if q13.1 = 0 then some ((-1 : Int32), q13.2) else (tb_cI d mX7_isCase [.int x4] (q13.2)).bind fun q21 => (if ¬ q21.1 = 0 then (tb_cI d mX7_isFee [.int x2] (q21.2)).bind fun q30 => (if ¬ q30.1 = 0 then (tb_cV d mX6_unfold [.ref 24, .int x3] (q30.2)).bind fun q44 => (tb_cV d mX6_suppose [.ref 24, .int x1, .int x2] q44).bind fun q53 => (tb_cI d mX6_answer [.ref 24, .int x4] q53).bind fun q62 => some (q62.1, q62.2) else some ((-2 : Int32), q30.2)) else some ((-1 : Int32), q21.2))))) = some r) : tb_E d mX7_would tb_dI 0 [.ref 1, .int x1, .int x2, .int x3, .int x4] [] tb_S S = some r := by
  refine x_aload_n (pc' := 1) dX7_would_0 rfl rfl ?_
  refine x_iload_n (pc' := 2) dX7_would_1 rfl rfl ?_
  obtain ⟨q2, hq2, h⟩ := Option.bind_eq_some_iff.mp h
  refine x_virtI (pc' := 5) (o := 1) (as := [.int x1]) (rest := []) dX7_would_2 rfl lm_7_209 rfl rfl rfl sh_1 rfl hq2 ?_
  by_cases c5 : q2.1 = 0
  · replace h := (if_pos c5).symm.trans h
    refine x_if_eq_t (pc' := 27) dX7_would_5 (by decide) c5 ?_
    refine x_iconst (pc' := 28) (w := (-1 : Int32)) dX7_would_27 rfl k_ic_m1 ?_
    exact x_iret dX7_would_28 rfl ((tb_dI_ok _ _).trans h)
  · replace h := (if_neg c5).symm.trans h
    refine x_if_eq_f (pc' := 8) dX7_would_5 (by decide) rfl c5 ?_
    refine x_aload_n (pc' := 9) dX7_would_8 rfl rfl ?_
    refine x_getR (pc' := 12) dX7_would_9 rfl lf_7_12 rfl sh_1 rfl ?_
    refine x_iload_n (pc' := 13) dX7_would_12 rfl rfl ?_
    obtain ⟨q13, hq13, h⟩ := Option.bind_eq_some_iff.mp h
    refine x_virtI (pc' := 16) (o := 2) (as := [.int x3]) (rest := []) dX7_would_13 rfl lm_7_80 rfl rfl rfl sh_2 rfl hq13 ?_
    by_cases c16 : q13.1 = 0
    · replace h := (if_pos c16).symm.trans h
      refine x_if_eq_t (pc' := 27) dX7_would_16 (by decide) c16 ?_
      refine x_iconst (pc' := 28) (w := (-1 : Int32)) dX7_would_27 rfl k_ic_m1 ?_
      exact x_iret dX7_would_28 rfl ((tb_dI_ok _ _).trans h)
    · replace h := (if_neg c16).symm.trans h
      refine x_if_eq_f (pc' := 19) dX7_would_16 (by decide) rfl c16 ?_
      refine x_iload (pc' := 21) dX7_would_19 rfl rfl ?_
      obtain ⟨q21, hq21, h⟩ := Option.bind_eq_some_iff.mp h
      refine x_statI (pc' := 24) (as := [.int x4]) (rest := []) dX7_would_21 rfl lm_7_149 (by decide) rfl rfl rfl rfl hq21 ?_
      by_cases c24 : ¬ q21.1 = 0
      · replace h := (if_pos c24).symm.trans h
        refine x_if_ne_t (pc' := 29) dX7_would_24 (by decide) c24 ?_
        refine x_iload_n (pc' := 30) dX7_would_29 rfl rfl ?_
        obtain ⟨q30, hq30, h⟩ := Option.bind_eq_some_iff.mp h
        refine x_statI (pc' := 33) (as := [.int x2]) (rest := []) dX7_would_30 rfl lm_7_72 (by decide) rfl rfl rfl rfl hq30 ?_
        by_cases c33 : ¬ q30.1 = 0
        · replace h := (if_pos c33).symm.trans h
          refine x_if_ne_t (pc' := 39) dX7_would_33 (by decide) c33 ?_
          refine x_aload_n (pc' := 40) dX7_would_39 rfl rfl ?_
          refine x_getR (pc' := 43) dX7_would_40 rfl lf_7_40 rfl sh_1 rfl ?_
          refine x_iload_n (pc' := 44) dX7_would_43 rfl rfl ?_
          obtain ⟨q44, hq44, h⟩ := Option.bind_eq_some_iff.mp h
          refine x_virtV (pc' := 47) (o := 24) (as := [.int x3]) (rest := []) dX7_would_44 rfl lm_7_152 rfl rfl rfl sh_24 rfl hq44 ?_
          refine x_aload_n (pc' := 48) dX7_would_47 rfl rfl ?_
          refine x_getR (pc' := 51) dX7_would_48 rfl lf_7_40 rfl sh_1 rfl ?_
          refine x_iload_n (pc' := 52) dX7_would_51 rfl rfl ?_
          refine x_iload_n (pc' := 53) dX7_would_52 rfl rfl ?_
          obtain ⟨q53, hq53, h⟩ := Option.bind_eq_some_iff.mp h
          refine x_virtV (pc' := 56) (o := 24) (as := [.int x1, .int x2]) (rest := []) dX7_would_53 rfl lm_7_212 rfl rfl rfl sh_24 rfl hq53 ?_
          refine x_aload_n (pc' := 57) dX7_would_56 rfl rfl ?_
          refine x_getR (pc' := 60) dX7_would_57 rfl lf_7_40 rfl sh_1 rfl ?_
          refine x_iload (pc' := 62) dX7_would_60 rfl rfl ?_
          obtain ⟨q62, hq62, h⟩ := Option.bind_eq_some_iff.mp h
          refine x_virtI (pc' := 65) (o := 24) (as := [.int x4]) (rest := []) dX7_would_62 rfl lm_7_155 rfl rfl rfl sh_24 rfl hq62 ?_
          exact x_iret dX7_would_65 rfl ((tb_dI_ok _ _).trans h)
        · replace h := (if_neg c33).symm.trans h
          refine x_if_ne_f (pc' := 36) dX7_would_33 (by decide) rfl c33 ?_
          refine x_bipush (pc' := 38) (w := (-2 : Int32)) dX7_would_36 rfl k_bi_m2 ?_
          exact x_iret dX7_would_38 rfl ((tb_dI_ok _ _).trans h)
      · replace h := (if_neg c24).symm.trans h
        refine x_if_ne_f (pc' := 27) dX7_would_24 (by decide) rfl c24 ?_
        refine x_iconst (pc' := 28) (w := (-1 : Int32)) dX7_would_27 rfl k_ic_m1 ?_
        exact x_iret dX7_would_28 rfl ((tb_dI_ok _ _).trans h)
theorem MX7_would {d : Nat} {x1 : Int32} {x2 : Int32} {x3 : Int32} {x4 : Int32} {S : tb_St} {r : Int32 × tb_St} (h : ((tb_cI d mX7_isFlat [.ref 1, .int x1] S).bind fun q2 => (if q2.1 = 0 then some ((-1 : Int32), q2.2) else (tb_cI d mX5_has [.ref 2, .int x3] (q2.2)).bind fun q13 => (if q13.1 = 0 then some ((-1 : Int32), q13.2) else (tb_cI d mX7_isCase [.int x4] (q13.2)).bind fun q21 => (if ¬ q21.1 = 0 then (tb_cI d mX7_isFee [.int x2] (q21.2)).bind fun q30 => (if ¬ q30.1 = 0 then (tb_cV d mX6_unfold [.ref 24, .int x3] (q30.2)).bind fun q44 => (tb_cV d mX6_suppose [.ref 24, .int x1, .int x2] q44).bind fun q53 => (tb_cI d mX6_answer [.ref 24, .int x4] q53).bind fun q62 => some (q62.1, q62.2) else some ((-2 : Int32), q30.2)) else some ((-1 : Int32), q21.2))))) = some r) : tb_cI (d + 1) mX7_would [.ref 1, .int x1, .int x2, .int x3, .int x4] S = some r := tb_enI rfl rfl (BX7_would_0 h)
/-! X8_overlap (45,) -/
theorem BX8_overlap_0 {d : Nat} {x1 x2 : Int32} {w3 w4 : Value} {S : tb_St} {r : Int32 × tb_St} (h : ((tb_cI d mX8_isTerm [.ref 45, .int x1] S).bind fun q2 => (if q2.1 = 0 then some ((-1 : Int32), q2.2) else (tb_cI d mX8_isTerm [.ref 45, .int x2] (q2.2)).bind fun q10 => (if ¬ q10.1 = 0 then (tb_ix x1 96).bind fun j23 => (if (q10.2) 50 j23 = (-5 : Int32) then some ((-5 : Int32), q10.2) else (tb_ix x2 96).bind fun j34 => (if ¬ (q10.2) 50 j34 = (-5 : Int32) then tb_E d mX8_overlap tb_dI 48 [.ref 45, .int x1, .int x2, .int (0 : Int32), .int (0 : Int32)] [] tb_S (q10.2) else some ((-5 : Int32), q10.2))) else some ((-1 : Int32), q10.2)))) = some r) : tb_E d mX8_overlap tb_dI 0 [.ref 45, .int x1, .int x2, w3, w4] [] tb_S S = some r := by
  refine x_aload_n (pc' := 1) dX8_overlap_0 rfl rfl ?_
  refine x_iload_n (pc' := 2) dX8_overlap_1 rfl rfl ?_
  obtain ⟨q2, hq2, h⟩ := Option.bind_eq_some_iff.mp h
  refine x_virtI (pc' := 5) (o := 45) (as := [.int x1]) (rest := []) dX8_overlap_2 rfl lm_8_109 rfl rfl rfl sh_45 rfl hq2 ?_
  by_cases c5 : q2.1 = 0
  · replace h := (if_pos c5).symm.trans h
    refine x_if_eq_t (pc' := 16) dX8_overlap_5 (by decide) c5 ?_
    refine x_iconst (pc' := 17) (w := (-1 : Int32)) dX8_overlap_16 rfl k_ic_m1 ?_
    exact x_iret dX8_overlap_17 rfl ((tb_dI_ok _ _).trans h)
  · replace h := (if_neg c5).symm.trans h
    refine x_if_eq_f (pc' := 8) dX8_overlap_5 (by decide) rfl c5 ?_
    refine x_aload_n (pc' := 9) dX8_overlap_8 rfl rfl ?_
    refine x_iload_n (pc' := 10) dX8_overlap_9 rfl rfl ?_
    obtain ⟨q10, hq10, h⟩ := Option.bind_eq_some_iff.mp h
    refine x_virtI (pc' := 13) (o := 45) (as := [.int x2]) (rest := []) dX8_overlap_10 rfl lm_8_109 rfl rfl rfl sh_45 rfl hq10 ?_
    by_cases c13 : ¬ q10.1 = 0
    · replace h := (if_pos c13).symm.trans h
      refine x_if_ne_t (pc' := 18) dX8_overlap_13 (by decide) c13 ?_
      refine x_aload_n (pc' := 19) dX8_overlap_18 rfl rfl ?_
      refine x_getR (pc' := 22) dX8_overlap_19 rfl lf_8_24 rfl sh_45 rfl ?_
      refine x_iload_n (pc' := 23) dX8_overlap_22 rfl rfl ?_
      obtain ⟨j23, hj23, h⟩ := Option.bind_eq_some_iff.mp h
      refine x_iaload (pc' := 24) (v := (q10.2) 50 j23) dX8_overlap_23 rfl sh_50 hj23 rfl ?_
      refine x_bipush (pc' := 26) (w := (-5 : Int32)) dX8_overlap_24 rfl k_bi_m5 ?_
      by_cases c26 : (q10.2) 50 j23 = (-5 : Int32)
      · replace h := (if_pos c26).symm.trans h
        refine x_icmp_eq_t (pc' := 40) dX8_overlap_26 (by decide) c26 ?_
        refine x_bipush (pc' := 42) (w := (-5 : Int32)) dX8_overlap_40 rfl k_bi_m5 ?_
        exact x_iret dX8_overlap_42 rfl ((tb_dI_ok _ _).trans h)
      · replace h := (if_neg c26).symm.trans h
        refine x_icmp_eq_f (pc' := 29) dX8_overlap_26 (by decide) rfl c26 ?_
        refine x_aload_n (pc' := 30) dX8_overlap_29 rfl rfl ?_
        refine x_getR (pc' := 33) dX8_overlap_30 rfl lf_8_24 rfl sh_45 rfl ?_
        refine x_iload_n (pc' := 34) dX8_overlap_33 rfl rfl ?_
        obtain ⟨j34, hj34, h⟩ := Option.bind_eq_some_iff.mp h
        refine x_iaload (pc' := 35) (v := (q10.2) 50 j34) dX8_overlap_34 rfl sh_50 hj34 rfl ?_
        refine x_bipush (pc' := 37) (w := (-5 : Int32)) dX8_overlap_35 rfl k_bi_m5 ?_
        by_cases c37 : ¬ (q10.2) 50 j34 = (-5 : Int32)
        · replace h := (if_pos c37).symm.trans h
          refine x_icmp_ne_t (pc' := 43) dX8_overlap_37 (by decide) c37 ?_
          refine x_iconst (pc' := 44) (w := (0 : Int32)) dX8_overlap_43 rfl k_ic_0 ?_
          refine x_istore_n (pc' := 45) (ls' := [.ref 45, .int x1, .int x2, .int (0 : Int32), w4]) dX8_overlap_44 rfl rfl rfl ?_
          refine x_iconst (pc' := 46) (w := (0 : Int32)) dX8_overlap_45 rfl k_ic_0 ?_
          refine x_istore (pc' := 48) (ls' := [.ref 45, .int x1, .int x2, .int (0 : Int32), .int (0 : Int32)]) dX8_overlap_46 rfl rfl rfl ?_
          exact h
        · replace h := (if_neg c37).symm.trans h
          refine x_icmp_ne_f (pc' := 40) dX8_overlap_37 (by decide) rfl c37 ?_
          refine x_bipush (pc' := 42) (w := (-5 : Int32)) dX8_overlap_40 rfl k_bi_m5 ?_
          exact x_iret dX8_overlap_42 rfl ((tb_dI_ok _ _).trans h)
    · replace h := (if_neg c13).symm.trans h
      refine x_if_ne_f (pc' := 16) dX8_overlap_13 (by decide) rfl c13 ?_
      refine x_iconst (pc' := 17) (w := (-1 : Int32)) dX8_overlap_16 rfl k_ic_m1 ?_
      exact x_iret dX8_overlap_17 rfl ((tb_dI_ok _ _).trans h)
theorem MX8_overlap {d : Nat} {x1 : Int32} {x2 : Int32} {S : tb_St} {r : Int32 × tb_St} (h : ((tb_cI d mX8_isTerm [.ref 45, .int x1] S).bind fun q2 => (if q2.1 = 0 then some ((-1 : Int32), q2.2) else (tb_cI d mX8_isTerm [.ref 45, .int x2] (q2.2)).bind fun q10 => (if ¬ q10.1 = 0 then (tb_ix x1 96).bind fun j23 => (if (q10.2) 50 j23 = (-5 : Int32) then some ((-5 : Int32), q10.2) else (tb_ix x2 96).bind fun j34 => (if ¬ (q10.2) 50 j34 = (-5 : Int32) then tb_E d mX8_overlap tb_dI 48 [.ref 45, .int x1, .int x2, .int (0 : Int32), .int (0 : Int32)] [] tb_S (q10.2) else some ((-5 : Int32), q10.2))) else some ((-1 : Int32), q10.2)))) = some r) : tb_cI (d + 1) mX8_overlap [.ref 45, .int x1, .int x2] S = some r := tb_enI rfl rfl (BX8_overlap_0 h)
theorem BX8_overlap_48 {d : Nat} {x1 x2 x3 x4 : Int32} {S : tb_St} {r : Int32 × tb_St} (h : ((if (224 : Int32) ≤ x4 then some (x3, S) else (tb_ix x1 96).bind fun j63 => (tb_cI d mX8_isIn [.int x4, .int (S 50 j63)] S).bind fun q64 => (if q64.1 = 0 then tb_E d mX8_overlap tb_dI 48 [.ref 45, .int x1, .int x2, .int x3, .int (x4 + (1 : Int32))] [] tb_S (q64.2) else (tb_ix x2 96).bind fun j77 => (tb_cI d mX8_isIn [.int x4, .int ((q64.2) 50 j77)] (q64.2)).bind fun q78 => (if q78.1 = 0 then tb_E d mX8_overlap tb_dI 48 [.ref 45, .int x1, .int x2, .int x3, .int (x4 + (1 : Int32))] [] tb_S (q78.2) else tb_E d mX8_overlap tb_dI 48 [.ref 45, .int x1, .int x2, .int (x3 + (1 : Int32)), .int (x4 + (1 : Int32))] [] tb_S (q78.2))))) = some r) : tb_E d mX8_overlap tb_dI 48 [.ref 45, .int x1, .int x2, .int x3, .int x4] [] tb_S S = some r := by
  refine x_iload (pc' := 50) dX8_overlap_48 rfl rfl ?_
  refine x_sipush (pc' := 53) (w := (224 : Int32)) dX8_overlap_50 rfl k_si_224 ?_
  by_cases c53 : (224 : Int32) ≤ x4
  · replace h := (if_pos c53).symm.trans h
    refine x_icmp_ge_t (pc' := 93) dX8_overlap_53 (by decide) c53 ?_
    refine x_iload_n (pc' := 94) dX8_overlap_93 rfl rfl ?_
    exact x_iret dX8_overlap_94 rfl ((tb_dI_ok _ _).trans h)
  · replace h := (if_neg c53).symm.trans h
    refine x_icmp_ge_f (pc' := 56) dX8_overlap_53 (by decide) rfl c53 ?_
    refine x_iload (pc' := 58) dX8_overlap_56 rfl rfl ?_
    refine x_aload_n (pc' := 59) dX8_overlap_58 rfl rfl ?_
    refine x_getR (pc' := 62) dX8_overlap_59 rfl lf_8_24 rfl sh_45 rfl ?_
    refine x_iload_n (pc' := 63) dX8_overlap_62 rfl rfl ?_
    obtain ⟨j63, hj63, h⟩ := Option.bind_eq_some_iff.mp h
    refine x_iaload (pc' := 64) (v := S 50 j63) dX8_overlap_63 rfl sh_50 hj63 rfl ?_
    obtain ⟨q64, hq64, h⟩ := Option.bind_eq_some_iff.mp h
    refine x_statI (pc' := 67) (as := [.int x4, .int (S 50 j63)]) (rest := []) dX8_overlap_64 rfl lm_8_197 (by decide) rfl rfl rfl rfl hq64 ?_
    by_cases c67 : q64.1 = 0
    · replace h := (if_pos c67).symm.trans h
      refine x_if_eq_t (pc' := 87) dX8_overlap_67 (by decide) c67 ?_
      refine x_iinc (pc' := 90) (w := (1 : Int32)) (ls' := [.ref 45, .int x1, .int x2, .int x3, .int (x4 + (1 : Int32))]) dX8_overlap_87 rfl rfl k_ic_1 rfl ?_
      refine x_goto (pc' := 48) dX8_overlap_90 (by decide) ?_
      exact h
    · replace h := (if_neg c67).symm.trans h
      refine x_if_eq_f (pc' := 70) dX8_overlap_67 (by decide) rfl c67 ?_
      refine x_iload (pc' := 72) dX8_overlap_70 rfl rfl ?_
      refine x_aload_n (pc' := 73) dX8_overlap_72 rfl rfl ?_
      refine x_getR (pc' := 76) dX8_overlap_73 rfl lf_8_24 rfl sh_45 rfl ?_
      refine x_iload_n (pc' := 77) dX8_overlap_76 rfl rfl ?_
      obtain ⟨j77, hj77, h⟩ := Option.bind_eq_some_iff.mp h
      refine x_iaload (pc' := 78) (v := (q64.2) 50 j77) dX8_overlap_77 rfl sh_50 hj77 rfl ?_
      obtain ⟨q78, hq78, h⟩ := Option.bind_eq_some_iff.mp h
      refine x_statI (pc' := 81) (as := [.int x4, .int ((q64.2) 50 j77)]) (rest := []) dX8_overlap_78 rfl lm_8_197 (by decide) rfl rfl rfl rfl hq78 ?_
      by_cases c81 : q78.1 = 0
      · replace h := (if_pos c81).symm.trans h
        refine x_if_eq_t (pc' := 87) dX8_overlap_81 (by decide) c81 ?_
        refine x_iinc (pc' := 90) (w := (1 : Int32)) (ls' := [.ref 45, .int x1, .int x2, .int x3, .int (x4 + (1 : Int32))]) dX8_overlap_87 rfl rfl k_ic_1 rfl ?_
        refine x_goto (pc' := 48) dX8_overlap_90 (by decide) ?_
        exact h
      · replace h := (if_neg c81).symm.trans h
        refine x_if_eq_f (pc' := 84) dX8_overlap_81 (by decide) rfl c81 ?_
        refine x_iinc (pc' := 87) (w := (1 : Int32)) (ls' := [.ref 45, .int x1, .int x2, .int (x3 + (1 : Int32)), .int x4]) dX8_overlap_84 rfl rfl k_ic_1 rfl ?_
        refine x_iinc (pc' := 90) (w := (1 : Int32)) (ls' := [.ref 45, .int x1, .int x2, .int (x3 + (1 : Int32)), .int (x4 + (1 : Int32))]) dX8_overlap_87 rfl rfl k_ic_1 rfl ?_
        refine x_goto (pc' := 48) dX8_overlap_90 (by decide) ?_
        exact h
/-! X7_overlap (1,) -/
theorem BX7_overlap_0 {d : Nat} {x1 x2 : Int32} {w3 w4 : Value} {S : tb_St} {r : Int32 × tb_St} (h : ((tb_cI d mX5_has [.ref 2, .int x1] S).bind fun q5 => (if q5.1 = 0 then some ((-1 : Int32), q5.2) else (tb_cI d mX5_has [.ref 2, .int x2] (q5.2)).bind fun q16 => (if ¬ q16.1 = 0 then (tb_ix x1 24).bind fun j32 => (tb_ix x2 24).bind fun j42 => (if (q16.2) 5 j32 = (-5 : Int32) then some ((-5 : Int32), q16.2) else (if ¬ (q16.2) 5 j42 = (-5 : Int32) then (tb_cI d mX7_sharedSide [.int ((q16.2) 5 j32), .int ((q16.2) 5 j42), .int (0 : Int32)] (q16.2)).bind fun q65 => (tb_cI d mX7_sharedSide [.int ((q16.2) 5 j32), .int ((q16.2) 5 j42), .int (2 : Int32)] (q65.2)).bind fun q72 => (tb_cI d mX7_sharedSide [.int ((q16.2) 5 j32), .int ((q16.2) 5 j42), .int (4 : Int32)] (q72.2)).bind fun q80 => some (((q65.1) * (q72.1)) * (q80.1), q80.2) else some ((-5 : Int32), q16.2))) else some ((-1 : Int32), q16.2)))) = some r) : tb_E d mX7_overlap tb_dI 0 [.ref 1, .int x1, .int x2, w3, w4] [] tb_S S = some r := by
  refine x_aload_n (pc' := 1) dX7_overlap_0 rfl rfl ?_
  refine x_getR (pc' := 4) dX7_overlap_1 rfl lf_7_12 rfl sh_1 rfl ?_
  refine x_iload_n (pc' := 5) dX7_overlap_4 rfl rfl ?_
  obtain ⟨q5, hq5, h⟩ := Option.bind_eq_some_iff.mp h
  refine x_virtI (pc' := 8) (o := 2) (as := [.int x1]) (rest := []) dX7_overlap_5 rfl lm_7_80 rfl rfl rfl sh_2 rfl hq5 ?_
  by_cases c8 : q5.1 = 0
  · replace h := (if_pos c8).symm.trans h
    refine x_if_eq_t (pc' := 22) dX7_overlap_8 (by decide) c8 ?_
    refine x_iconst (pc' := 23) (w := (-1 : Int32)) dX7_overlap_22 rfl k_ic_m1 ?_
    exact x_iret dX7_overlap_23 rfl ((tb_dI_ok _ _).trans h)
  · replace h := (if_neg c8).symm.trans h
    refine x_if_eq_f (pc' := 11) dX7_overlap_8 (by decide) rfl c8 ?_
    refine x_aload_n (pc' := 12) dX7_overlap_11 rfl rfl ?_
    refine x_getR (pc' := 15) dX7_overlap_12 rfl lf_7_12 rfl sh_1 rfl ?_
    refine x_iload_n (pc' := 16) dX7_overlap_15 rfl rfl ?_
    obtain ⟨q16, hq16, h⟩ := Option.bind_eq_some_iff.mp h
    refine x_virtI (pc' := 19) (o := 2) (as := [.int x2]) (rest := []) dX7_overlap_16 rfl lm_7_80 rfl rfl rfl sh_2 rfl hq16 ?_
    by_cases c19 : ¬ q16.1 = 0
    · replace h := (if_pos c19).symm.trans h
      refine x_if_ne_t (pc' := 24) dX7_overlap_19 (by decide) c19 ?_
      refine x_aload_n (pc' := 25) dX7_overlap_24 rfl rfl ?_
      refine x_getR (pc' := 28) dX7_overlap_25 rfl lf_7_12 rfl sh_1 rfl ?_
      refine x_getR (pc' := 31) dX7_overlap_28 rfl lf_7_133 rfl sh_2 rfl ?_
      refine x_iload_n (pc' := 32) dX7_overlap_31 rfl rfl ?_
      obtain ⟨j32, hj32, h⟩ := Option.bind_eq_some_iff.mp h
      refine x_iaload (pc' := 33) (v := (q16.2) 5 j32) dX7_overlap_32 rfl sh_5 hj32 rfl ?_
      refine x_istore_n (pc' := 34) (ls' := [.ref 1, .int x1, .int x2, .int ((q16.2) 5 j32), w4]) dX7_overlap_33 rfl rfl rfl ?_
      refine x_aload_n (pc' := 35) dX7_overlap_34 rfl rfl ?_
      refine x_getR (pc' := 38) dX7_overlap_35 rfl lf_7_12 rfl sh_1 rfl ?_
      refine x_getR (pc' := 41) dX7_overlap_38 rfl lf_7_133 rfl sh_2 rfl ?_
      refine x_iload_n (pc' := 42) dX7_overlap_41 rfl rfl ?_
      obtain ⟨j42, hj42, h⟩ := Option.bind_eq_some_iff.mp h
      refine x_iaload (pc' := 43) (v := (q16.2) 5 j42) dX7_overlap_42 rfl sh_5 hj42 rfl ?_
      refine x_istore (pc' := 45) (ls' := [.ref 1, .int x1, .int x2, .int ((q16.2) 5 j32), .int ((q16.2) 5 j42)]) dX7_overlap_43 rfl rfl rfl ?_
      refine x_iload_n (pc' := 46) dX7_overlap_45 rfl rfl ?_
      refine x_bipush (pc' := 48) (w := (-5 : Int32)) dX7_overlap_46 rfl k_bi_m5 ?_
      by_cases c48 : (q16.2) 5 j32 = (-5 : Int32)
      · replace h := (if_pos c48).symm.trans h
        refine x_icmp_eq_t (pc' := 58) dX7_overlap_48 (by decide) c48 ?_
        refine x_bipush (pc' := 60) (w := (-5 : Int32)) dX7_overlap_58 rfl k_bi_m5 ?_
        exact x_iret dX7_overlap_60 rfl ((tb_dI_ok _ _).trans h)
      · replace h := (if_neg c48).symm.trans h
        refine x_icmp_eq_f (pc' := 51) dX7_overlap_48 (by decide) rfl c48 ?_
        refine x_iload (pc' := 53) dX7_overlap_51 rfl rfl ?_
        refine x_bipush (pc' := 55) (w := (-5 : Int32)) dX7_overlap_53 rfl k_bi_m5 ?_
        by_cases c55 : ¬ (q16.2) 5 j42 = (-5 : Int32)
        · replace h := (if_pos c55).symm.trans h
          refine x_icmp_ne_t (pc' := 61) dX7_overlap_55 (by decide) c55 ?_
          refine x_iload_n (pc' := 62) dX7_overlap_61 rfl rfl ?_
          refine x_iload (pc' := 64) dX7_overlap_62 rfl rfl ?_
          refine x_iconst (pc' := 65) (w := (0 : Int32)) dX7_overlap_64 rfl k_ic_0 ?_
          obtain ⟨q65, hq65, h⟩ := Option.bind_eq_some_iff.mp h
          refine x_statI (pc' := 68) (as := [.int ((q16.2) 5 j32), .int ((q16.2) 5 j42), .int (0 : Int32)]) (rest := []) dX7_overlap_65 rfl lm_7_205 (by decide) rfl rfl rfl rfl hq65 ?_
          refine x_iload_n (pc' := 69) dX7_overlap_68 rfl rfl ?_
          refine x_iload (pc' := 71) dX7_overlap_69 rfl rfl ?_
          refine x_iconst (pc' := 72) (w := (2 : Int32)) dX7_overlap_71 rfl k_ic_2 ?_
          obtain ⟨q72, hq72, h⟩ := Option.bind_eq_some_iff.mp h
          refine x_statI (pc' := 75) (as := [.int ((q16.2) 5 j32), .int ((q16.2) 5 j42), .int (2 : Int32)]) (rest := [.int (q65.1)]) dX7_overlap_72 rfl lm_7_205 (by decide) rfl rfl rfl rfl hq72 ?_
          refine x_imul (pc' := 76) dX7_overlap_75 rfl ?_
          refine x_iload_n (pc' := 77) dX7_overlap_76 rfl rfl ?_
          refine x_iload (pc' := 79) dX7_overlap_77 rfl rfl ?_
          refine x_iconst (pc' := 80) (w := (4 : Int32)) dX7_overlap_79 rfl k_ic_4 ?_
          obtain ⟨q80, hq80, h⟩ := Option.bind_eq_some_iff.mp h
          refine x_statI (pc' := 83) (as := [.int ((q16.2) 5 j32), .int ((q16.2) 5 j42), .int (4 : Int32)]) (rest := [.int ((q65.1) * (q72.1))]) dX7_overlap_80 rfl lm_7_205 (by decide) rfl rfl rfl rfl hq80 ?_
          refine x_imul (pc' := 84) dX7_overlap_83 rfl ?_
          exact x_iret dX7_overlap_84 rfl ((tb_dI_ok _ _).trans h)
        · replace h := (if_neg c55).symm.trans h
          refine x_icmp_ne_f (pc' := 58) dX7_overlap_55 (by decide) rfl c55 ?_
          refine x_bipush (pc' := 60) (w := (-5 : Int32)) dX7_overlap_58 rfl k_bi_m5 ?_
          exact x_iret dX7_overlap_60 rfl ((tb_dI_ok _ _).trans h)
    · replace h := (if_neg c19).symm.trans h
      refine x_if_ne_f (pc' := 22) dX7_overlap_19 (by decide) rfl c19 ?_
      refine x_iconst (pc' := 23) (w := (-1 : Int32)) dX7_overlap_22 rfl k_ic_m1 ?_
      exact x_iret dX7_overlap_23 rfl ((tb_dI_ok _ _).trans h)
theorem MX7_overlap {d : Nat} {x1 : Int32} {x2 : Int32} {S : tb_St} {r : Int32 × tb_St} (h : ((tb_cI d mX5_has [.ref 2, .int x1] S).bind fun q5 => (if q5.1 = 0 then some ((-1 : Int32), q5.2) else (tb_cI d mX5_has [.ref 2, .int x2] (q5.2)).bind fun q16 => (if ¬ q16.1 = 0 then (tb_ix x1 24).bind fun j32 => (tb_ix x2 24).bind fun j42 => (if (q16.2) 5 j32 = (-5 : Int32) then some ((-5 : Int32), q16.2) else (if ¬ (q16.2) 5 j42 = (-5 : Int32) then (tb_cI d mX7_sharedSide [.int ((q16.2) 5 j32), .int ((q16.2) 5 j42), .int (0 : Int32)] (q16.2)).bind fun q65 => (tb_cI d mX7_sharedSide [.int ((q16.2) 5 j32), .int ((q16.2) 5 j42), .int (2 : Int32)] (q65.2)).bind fun q72 => (tb_cI d mX7_sharedSide [.int ((q16.2) 5 j32), .int ((q16.2) 5 j42), .int (4 : Int32)] (q72.2)).bind fun q80 => some (((q65.1) * (q72.1)) * (q80.1), q80.2) else some ((-5 : Int32), q16.2))) else some ((-1 : Int32), q16.2)))) = some r) : tb_cI (d + 1) mX7_overlap [.ref 1, .int x1, .int x2] S = some r := tb_enI rfl rfl (BX7_overlap_0 h)
/-! X8_idle (45,) -/
theorem BX8_idle_0 {d : Nat} {x1 x2 : Int32} {w3 : Value} {S : tb_St} {r : Int32 × tb_St} (h : ((if x2 < 0 then some ((-1 : Int32), S) else (tb_cI d mX8_rule [.ref 45, .int x1, .int x2] S).bind fun q7 => (if ¬ q7.1 = (-1 : Int32) then (tb_cV d mX8_tells [.ref 45, .int x1, .ref 55] (tb_up (q7.2) 45 17 (-1 : Int32))).bind fun q27 => (tb_cV d mX8_tells [.ref 45, .int x1, .ref 56] (tb_up q27 45 17 x2)).bind fun q41 => tb_E d mX8_idle tb_dI 46 [.ref 45, .int x1, .int x2, .int (0 : Int32)] [] tb_S q41 else some ((-1 : Int32), q7.2)))) = some r) : tb_E d mX8_idle tb_dI 0 [.ref 45, .int x1, .int x2, w3] [] tb_S S = some r := by
  refine x_iload_n (pc' := 1) dX8_idle_0 rfl rfl ?_
  by_cases c1 : x2 < 0
  · replace h := (if_pos c1).symm.trans h
    refine x_if_lt_t (pc' := 14) dX8_idle_1 (by decide) c1 ?_
    refine x_iconst (pc' := 15) (w := (-1 : Int32)) dX8_idle_14 rfl k_ic_m1 ?_
    exact x_iret dX8_idle_15 rfl ((tb_dI_ok _ _).trans h)
  · replace h := (if_neg c1).symm.trans h
    refine x_if_lt_f (pc' := 4) dX8_idle_1 (by decide) rfl c1 ?_
    refine x_aload_n (pc' := 5) dX8_idle_4 rfl rfl ?_
    refine x_iload_n (pc' := 6) dX8_idle_5 rfl rfl ?_
    refine x_iload_n (pc' := 7) dX8_idle_6 rfl rfl ?_
    obtain ⟨q7, hq7, h⟩ := Option.bind_eq_some_iff.mp h
    refine x_virtI (pc' := 10) (o := 45) (as := [.int x1, .int x2]) (rest := []) dX8_idle_7 rfl lm_8_248 rfl rfl rfl sh_45 rfl hq7 ?_
    refine x_iconst (pc' := 11) (w := (-1 : Int32)) dX8_idle_10 rfl k_ic_m1 ?_
    by_cases c11 : ¬ q7.1 = (-1 : Int32)
    · replace h := (if_pos c11).symm.trans h
      refine x_icmp_ne_t (pc' := 16) dX8_idle_11 (by decide) c11 ?_
      refine x_aload_n (pc' := 17) dX8_idle_16 rfl rfl ?_
      refine x_iconst (pc' := 18) (w := (-1 : Int32)) dX8_idle_17 rfl k_ic_m1 ?_
      refine x_putI (pc' := 21) dX8_idle_18 rfl lf_8_194 (Or.inl rfl) sh_45 ?_
      refine x_aload_n (pc' := 22) dX8_idle_21 rfl rfl ?_
      refine x_iload_n (pc' := 23) dX8_idle_22 rfl rfl ?_
      refine x_aload_n (pc' := 24) dX8_idle_23 rfl rfl ?_
      refine x_getR (pc' := 27) dX8_idle_24 rfl lf_8_39 rfl sh_45 rfl ?_
      obtain ⟨q27, hq27, h⟩ := Option.bind_eq_some_iff.mp h
      refine x_virtV (pc' := 30) (o := 45) (as := [.int x1, .ref 55]) (rest := []) dX8_idle_27 rfl lm_8_213 rfl rfl rfl sh_45 rfl hq27 ?_
      refine x_aload_n (pc' := 31) dX8_idle_30 rfl rfl ?_
      refine x_iload_n (pc' := 32) dX8_idle_31 rfl rfl ?_
      refine x_putI (pc' := 35) dX8_idle_32 rfl lf_8_194 (Or.inl rfl) sh_45 ?_
      refine x_aload_n (pc' := 36) dX8_idle_35 rfl rfl ?_
      refine x_iload_n (pc' := 37) dX8_idle_36 rfl rfl ?_
      refine x_aload_n (pc' := 38) dX8_idle_37 rfl rfl ?_
      refine x_getR (pc' := 41) dX8_idle_38 rfl lf_8_42 rfl sh_45 rfl ?_
      obtain ⟨q41, hq41, h⟩ := Option.bind_eq_some_iff.mp h
      refine x_virtV (pc' := 44) (o := 45) (as := [.int x1, .ref 56]) (rest := []) dX8_idle_41 rfl lm_8_213 rfl rfl rfl sh_45 rfl hq41 ?_
      refine x_iconst (pc' := 45) (w := (0 : Int32)) dX8_idle_44 rfl k_ic_0 ?_
      refine x_istore_n (pc' := 46) (ls' := [.ref 45, .int x1, .int x2, .int (0 : Int32)]) dX8_idle_45 rfl rfl rfl ?_
      exact h
    · replace h := (if_neg c11).symm.trans h
      refine x_icmp_ne_f (pc' := 14) dX8_idle_11 (by decide) rfl c11 ?_
      refine x_iconst (pc' := 15) (w := (-1 : Int32)) dX8_idle_14 rfl k_ic_m1 ?_
      exact x_iret dX8_idle_15 rfl ((tb_dI_ok _ _).trans h)
theorem MX8_idle {d : Nat} {x1 : Int32} {x2 : Int32} {S : tb_St} {r : Int32 × tb_St} (h : ((if x2 < 0 then some ((-1 : Int32), S) else (tb_cI d mX8_rule [.ref 45, .int x1, .int x2] S).bind fun q7 => (if ¬ q7.1 = (-1 : Int32) then (tb_cV d mX8_tells [.ref 45, .int x1, .ref 55] (tb_up (q7.2) 45 17 (-1 : Int32))).bind fun q27 => (tb_cV d mX8_tells [.ref 45, .int x1, .ref 56] (tb_up q27 45 17 x2)).bind fun q41 => tb_E d mX8_idle tb_dI 46 [.ref 45, .int x1, .int x2, .int (0 : Int32)] [] tb_S q41 else some ((-1 : Int32), q7.2)))) = some r) : tb_cI (d + 1) mX8_idle [.ref 45, .int x1, .int x2] S = some r := tb_enI rfl rfl (BX8_idle_0 h)
theorem BX8_idle_46 {d : Nat} {x3 : Int32} {w1 w2 : Value} {S : tb_St} {r : Int32 × tb_St} (h : ((if (224 : Int32) ≤ x3 then some ((1 : Int32), S) else (tb_ix x3 224).bind fun j58 => (tb_ix x3 224).bind fun j64 => (if S 55 j58 = S 56 j64 then tb_E d mX8_idle tb_dI 46 [.ref 45, w1, w2, .int (x3 + (1 : Int32))] [] tb_S S else some ((0 : Int32), S)))) = some r) : tb_E d mX8_idle tb_dI 46 [.ref 45, w1, w2, .int x3] [] tb_S S = some r := by
  refine x_iload_n (pc' := 47) dX8_idle_46 rfl rfl ?_
  refine x_sipush (pc' := 50) (w := (224 : Int32)) dX8_idle_47 rfl k_si_224 ?_
  by_cases c50 : (224 : Int32) ≤ x3
  · replace h := (if_pos c50).symm.trans h
    refine x_icmp_ge_t (pc' := 76) dX8_idle_50 (by decide) c50 ?_
    refine x_iconst (pc' := 77) (w := (1 : Int32)) dX8_idle_76 rfl k_ic_1 ?_
    exact x_iret dX8_idle_77 rfl ((tb_dI_ok _ _).trans h)
  · replace h := (if_neg c50).symm.trans h
    refine x_icmp_ge_f (pc' := 53) dX8_idle_50 (by decide) rfl c50 ?_
    refine x_aload_n (pc' := 54) dX8_idle_53 rfl rfl ?_
    refine x_getR (pc' := 57) dX8_idle_54 rfl lf_8_39 rfl sh_45 rfl ?_
    refine x_iload_n (pc' := 58) dX8_idle_57 rfl rfl ?_
    obtain ⟨j58, hj58, h⟩ := Option.bind_eq_some_iff.mp h
    refine x_iaload (pc' := 59) (v := S 55 j58) dX8_idle_58 rfl sh_55 hj58 rfl ?_
    refine x_aload_n (pc' := 60) dX8_idle_59 rfl rfl ?_
    refine x_getR (pc' := 63) dX8_idle_60 rfl lf_8_42 rfl sh_45 rfl ?_
    refine x_iload_n (pc' := 64) dX8_idle_63 rfl rfl ?_
    obtain ⟨j64, hj64, h⟩ := Option.bind_eq_some_iff.mp h
    refine x_iaload (pc' := 65) (v := S 56 j64) dX8_idle_64 rfl sh_56 hj64 rfl ?_
    by_cases c65 : S 55 j58 = S 56 j64
    · replace h := (if_pos c65).symm.trans h
      refine x_icmp_eq_t (pc' := 70) dX8_idle_65 (by decide) c65 ?_
      refine x_iinc (pc' := 73) (w := (1 : Int32)) (ls' := [.ref 45, w1, w2, .int (x3 + (1 : Int32))]) dX8_idle_70 rfl rfl k_ic_1 rfl ?_
      refine x_goto (pc' := 46) dX8_idle_73 (by decide) ?_
      exact h
    · replace h := (if_neg c65).symm.trans h
      refine x_icmp_eq_f (pc' := 68) dX8_idle_65 (by decide) rfl c65 ?_
      refine x_iconst (pc' := 69) (w := (0 : Int32)) dX8_idle_68 rfl k_ic_0 ?_
      exact x_iret dX8_idle_69 rfl ((tb_dI_ok _ _).trans h)
/-! X7_idle (1,) -/
theorem BX7_idle_0 {d : Nat} {x1 x2 : Int32} {w3 : Value} {S : tb_St} {r : Int32 × tb_St} (h : ((tb_cI d mX5_has [.ref 2, .int x1] S).bind fun q5 => (if ¬ q5.1 = 0 then (tb_cV d mX6_unfold [.ref 24, .int x1] (q5.2)).bind fun q18 => (tb_cI d mX6_placeOfRule [.ref 24, .int x2] q18).bind fun q26 => (if ¬ q26.1 = (-1 : Int32) then (tb_cI d mX7_isIdle [.ref 1, .int (q26.1)] (q26.2)).bind fun q39 => (if q39.1 = 0 then some ((0 : Int32), q39.2) else some ((1 : Int32), q39.2)) else some ((-1 : Int32), q26.2)) else some ((-1 : Int32), q5.2))) = some r) : tb_E d mX7_idle tb_dI 0 [.ref 1, .int x1, .int x2, w3] [] tb_S S = some r := by
  refine x_aload_n (pc' := 1) dX7_idle_0 rfl rfl ?_
  refine x_getR (pc' := 4) dX7_idle_1 rfl lf_7_12 rfl sh_1 rfl ?_
  refine x_iload_n (pc' := 5) dX7_idle_4 rfl rfl ?_
  obtain ⟨q5, hq5, h⟩ := Option.bind_eq_some_iff.mp h
  refine x_virtI (pc' := 8) (o := 2) (as := [.int x1]) (rest := []) dX7_idle_5 rfl lm_7_80 rfl rfl rfl sh_2 rfl hq5 ?_
  by_cases c8 : ¬ q5.1 = 0
  · replace h := (if_pos c8).symm.trans h
    refine x_if_ne_t (pc' := 13) dX7_idle_8 (by decide) c8 ?_
    refine x_aload_n (pc' := 14) dX7_idle_13 rfl rfl ?_
    refine x_getR (pc' := 17) dX7_idle_14 rfl lf_7_40 rfl sh_1 rfl ?_
    refine x_iload_n (pc' := 18) dX7_idle_17 rfl rfl ?_
    obtain ⟨q18, hq18, h⟩ := Option.bind_eq_some_iff.mp h
    refine x_virtV (pc' := 21) (o := 24) (as := [.int x1]) (rest := []) dX7_idle_18 rfl lm_7_152 rfl rfl rfl sh_24 rfl hq18 ?_
    refine x_aload_n (pc' := 22) dX7_idle_21 rfl rfl ?_
    refine x_getR (pc' := 25) dX7_idle_22 rfl lf_7_40 rfl sh_1 rfl ?_
    refine x_iload_n (pc' := 26) dX7_idle_25 rfl rfl ?_
    obtain ⟨q26, hq26, h⟩ := Option.bind_eq_some_iff.mp h
    refine x_virtI (pc' := 29) (o := 24) (as := [.int x2]) (rest := []) dX7_idle_26 rfl lm_7_196 rfl rfl rfl sh_24 rfl hq26 ?_
    refine x_istore_n (pc' := 30) (ls' := [.ref 1, .int x1, .int x2, .int (q26.1)]) dX7_idle_29 rfl rfl rfl ?_
    refine x_iload_n (pc' := 31) dX7_idle_30 rfl rfl ?_
    refine x_iconst (pc' := 32) (w := (-1 : Int32)) dX7_idle_31 rfl k_ic_m1 ?_
    by_cases c32 : ¬ q26.1 = (-1 : Int32)
    · replace h := (if_pos c32).symm.trans h
      refine x_icmp_ne_t (pc' := 37) dX7_idle_32 (by decide) c32 ?_
      refine x_aload_n (pc' := 38) dX7_idle_37 rfl rfl ?_
      refine x_iload_n (pc' := 39) dX7_idle_38 rfl rfl ?_
      obtain ⟨q39, hq39, h⟩ := Option.bind_eq_some_iff.mp h
      refine x_virtI (pc' := 42) (o := 1) (as := [.int (q26.1)]) (rest := []) dX7_idle_39 rfl lm_7_202 rfl rfl rfl sh_1 rfl hq39 ?_
      by_cases c42 : q39.1 = 0
      · replace h := (if_pos c42).symm.trans h
        refine x_if_eq_t (pc' := 49) dX7_idle_42 (by decide) c42 ?_
        refine x_iconst (pc' := 50) (w := (0 : Int32)) dX7_idle_49 rfl k_ic_0 ?_
        exact x_iret dX7_idle_50 rfl ((tb_dI_ok _ _).trans h)
      · replace h := (if_neg c42).symm.trans h
        refine x_if_eq_f (pc' := 45) dX7_idle_42 (by decide) rfl c42 ?_
        refine x_iconst (pc' := 46) (w := (1 : Int32)) dX7_idle_45 rfl k_ic_1 ?_
        refine x_goto (pc' := 50) dX7_idle_46 (by decide) ?_
        exact x_iret dX7_idle_50 rfl ((tb_dI_ok _ _).trans h)
    · replace h := (if_neg c32).symm.trans h
      refine x_icmp_ne_f (pc' := 35) dX7_idle_32 (by decide) rfl c32 ?_
      refine x_iconst (pc' := 36) (w := (-1 : Int32)) dX7_idle_35 rfl k_ic_m1 ?_
      exact x_iret dX7_idle_36 rfl ((tb_dI_ok _ _).trans h)
  · replace h := (if_neg c8).symm.trans h
    refine x_if_ne_f (pc' := 11) dX7_idle_8 (by decide) rfl c8 ?_
    refine x_iconst (pc' := 12) (w := (-1 : Int32)) dX7_idle_11 rfl k_ic_m1 ?_
    exact x_iret dX7_idle_12 rfl ((tb_dI_ok _ _).trans h)
theorem MX7_idle {d : Nat} {x1 : Int32} {x2 : Int32} {S : tb_St} {r : Int32 × tb_St} (h : ((tb_cI d mX5_has [.ref 2, .int x1] S).bind fun q5 => (if ¬ q5.1 = 0 then (tb_cV d mX6_unfold [.ref 24, .int x1] (q5.2)).bind fun q18 => (tb_cI d mX6_placeOfRule [.ref 24, .int x2] q18).bind fun q26 => (if ¬ q26.1 = (-1 : Int32) then (tb_cI d mX7_isIdle [.ref 1, .int (q26.1)] (q26.2)).bind fun q39 => (if q39.1 = 0 then some ((0 : Int32), q39.2) else some ((1 : Int32), q39.2)) else some ((-1 : Int32), q26.2)) else some ((-1 : Int32), q5.2))) = some r) : tb_cI (d + 1) mX7_idle [.ref 1, .int x1, .int x2] S = some r := tb_enI rfl rfl (BX7_idle_0 h)
/-! X8_rule (45,) -/
theorem BX8_rule_0 {d : Nat} {x1 x2 : Int32} {S : tb_St} {r : Int32 × tb_St} (h : ((tb_cI d mX8_isTerm [.ref 45, .int x1] S).bind fun q2 => (if ¬ q2.1 = 0 then (tb_cV d mX8_meets [.ref 45, .int x1] (tb_up (tb_up (tb_up (q2.2) 45 16 (0 : Int32)) 45 17 x2) 45 18 (-1 : Int32))).bind fun q27 => (if ¬ x2 = (-1 : Int32) then some (q27 45 18, q27) else some (q27 45 16, q27)) else some ((-1 : Int32), q2.2))) = some r) : tb_E d mX8_rule tb_dI 0 [.ref 45, .int x1, .int x2] [] tb_S S = some r := by
  refine x_aload_n (pc' := 1) dX8_rule_0 rfl rfl ?_
  refine x_iload_n (pc' := 2) dX8_rule_1 rfl rfl ?_
  obtain ⟨q2, hq2, h⟩ := Option.bind_eq_some_iff.mp h
  refine x_virtI (pc' := 5) (o := 45) (as := [.int x1]) (rest := []) dX8_rule_2 rfl lm_8_109 rfl rfl rfl sh_45 rfl hq2 ?_
  by_cases c5 : ¬ q2.1 = 0
  · replace h := (if_pos c5).symm.trans h
    refine x_if_ne_t (pc' := 10) dX8_rule_5 (by decide) c5 ?_
    refine x_aload_n (pc' := 11) dX8_rule_10 rfl rfl ?_
    refine x_iconst (pc' := 12) (w := (0 : Int32)) dX8_rule_11 rfl k_ic_0 ?_
    refine x_putI (pc' := 15) dX8_rule_12 rfl lf_8_188 (Or.inl rfl) sh_45 ?_
    refine x_aload_n (pc' := 16) dX8_rule_15 rfl rfl ?_
    refine x_iload_n (pc' := 17) dX8_rule_16 rfl rfl ?_
    refine x_putI (pc' := 20) dX8_rule_17 rfl lf_8_194 (Or.inl rfl) sh_45 ?_
    refine x_aload_n (pc' := 21) dX8_rule_20 rfl rfl ?_
    refine x_iconst (pc' := 22) (w := (-1 : Int32)) dX8_rule_21 rfl k_ic_m1 ?_
    refine x_putI (pc' := 25) dX8_rule_22 rfl lf_8_242 (Or.inl rfl) sh_45 ?_
    refine x_aload_n (pc' := 26) dX8_rule_25 rfl rfl ?_
    refine x_iload_n (pc' := 27) dX8_rule_26 rfl rfl ?_
    obtain ⟨q27, hq27, h⟩ := Option.bind_eq_some_iff.mp h
    refine x_virtV (pc' := 30) (o := 45) (as := [.int x1]) (rest := []) dX8_rule_27 rfl lm_8_245 rfl rfl rfl sh_45 rfl hq27 ?_
    refine x_iload_n (pc' := 31) dX8_rule_30 rfl rfl ?_
    refine x_iconst (pc' := 32) (w := (-1 : Int32)) dX8_rule_31 rfl k_ic_m1 ?_
    by_cases c32 : ¬ x2 = (-1 : Int32)
    · replace h := (if_pos c32).symm.trans h
      refine x_icmp_ne_t (pc' := 42) dX8_rule_32 (by decide) c32 ?_
      refine x_aload_n (pc' := 43) dX8_rule_42 rfl rfl ?_
      refine x_getI (pc' := 46) (v := q27 45 18) dX8_rule_43 rfl lf_8_242 rfl sh_45 rfl ?_
      exact x_iret dX8_rule_46 rfl ((tb_dI_ok _ _).trans h)
    · replace h := (if_neg c32).symm.trans h
      refine x_icmp_ne_f (pc' := 35) dX8_rule_32 (by decide) rfl c32 ?_
      refine x_aload_n (pc' := 36) dX8_rule_35 rfl rfl ?_
      refine x_getI (pc' := 39) (v := q27 45 16) dX8_rule_36 rfl lf_8_188 rfl sh_45 rfl ?_
      refine x_goto (pc' := 46) dX8_rule_39 (by decide) ?_
      exact x_iret dX8_rule_46 rfl ((tb_dI_ok _ _).trans h)
  · replace h := (if_neg c5).symm.trans h
    refine x_if_ne_f (pc' := 8) dX8_rule_5 (by decide) rfl c5 ?_
    refine x_iconst (pc' := 9) (w := (-1 : Int32)) dX8_rule_8 rfl k_ic_m1 ?_
    exact x_iret dX8_rule_9 rfl ((tb_dI_ok _ _).trans h)
theorem MX8_rule {d : Nat} {x1 : Int32} {x2 : Int32} {S : tb_St} {r : Int32 × tb_St} (h : ((tb_cI d mX8_isTerm [.ref 45, .int x1] S).bind fun q2 => (if ¬ q2.1 = 0 then (tb_cV d mX8_meets [.ref 45, .int x1] (tb_up (tb_up (tb_up (q2.2) 45 16 (0 : Int32)) 45 17 x2) 45 18 (-1 : Int32))).bind fun q27 => (if ¬ x2 = (-1 : Int32) then some (q27 45 18, q27) else some (q27 45 16, q27)) else some ((-1 : Int32), q2.2))) = some r) : tb_cI (d + 1) mX8_rule [.ref 45, .int x1, .int x2] S = some r := tb_enI rfl rfl (BX8_rule_0 h)
/-! X7_rule (1,) -/
theorem BX7_rule_0 {d : Nat} {x1 x2 : Int32} {w3 : Value} {S : tb_St} {r : Int32 × tb_St} (h : ((tb_cI d mX5_has [.ref 2, .int x1] S).bind fun q5 => (if ¬ q5.1 = 0 then (tb_cV d mX6_unfold [.ref 24, .int x1] (q5.2)).bind fun q18 => (if ¬ x2 = (-1 : Int32) then (tb_cI d mX6_placeOfRule [.ref 24, .int x2] q18).bind fun q39 => (tb_cI d mX6_termAt [.ref 24, .int (q39.1)] (q39.2)).bind fun q48 => some (q48.1, q48.2) else (tb_cI d mX6_ruleCount [.ref 24] q18).bind fun q30 => some (q30.1, q30.2)) else some ((-1 : Int32), q5.2))) = some r) : tb_E d mX7_rule tb_dI 0 [.ref 1, .int x1, .int x2, w3] [] tb_S S = some r := by
  refine x_aload_n (pc' := 1) dX7_rule_0 rfl rfl ?_
  refine x_getR (pc' := 4) dX7_rule_1 rfl lf_7_12 rfl sh_1 rfl ?_
  refine x_iload_n (pc' := 5) dX7_rule_4 rfl rfl ?_
  obtain ⟨q5, hq5, h⟩ := Option.bind_eq_some_iff.mp h
  refine x_virtI (pc' := 8) (o := 2) (as := [.int x1]) (rest := []) dX7_rule_5 rfl lm_7_80 rfl rfl rfl sh_2 rfl hq5 ?_
  by_cases c8 : ¬ q5.1 = 0
  · replace h := (if_pos c8).symm.trans h
    refine x_if_ne_t (pc' := 13) dX7_rule_8 (by decide) c8 ?_
    refine x_aload_n (pc' := 14) dX7_rule_13 rfl rfl ?_
    refine x_getR (pc' := 17) dX7_rule_14 rfl lf_7_40 rfl sh_1 rfl ?_
    refine x_iload_n (pc' := 18) dX7_rule_17 rfl rfl ?_
    obtain ⟨q18, hq18, h⟩ := Option.bind_eq_some_iff.mp h
    refine x_virtV (pc' := 21) (o := 24) (as := [.int x1]) (rest := []) dX7_rule_18 rfl lm_7_152 rfl rfl rfl sh_24 rfl hq18 ?_
    refine x_iload_n (pc' := 22) dX7_rule_21 rfl rfl ?_
    refine x_iconst (pc' := 23) (w := (-1 : Int32)) dX7_rule_22 rfl k_ic_m1 ?_
    by_cases c23 : ¬ x2 = (-1 : Int32)
    · replace h := (if_pos c23).symm.trans h
      refine x_icmp_ne_t (pc' := 34) dX7_rule_23 (by decide) c23 ?_
      refine x_aload_n (pc' := 35) dX7_rule_34 rfl rfl ?_
      refine x_getR (pc' := 38) dX7_rule_35 rfl lf_7_40 rfl sh_1 rfl ?_
      refine x_iload_n (pc' := 39) dX7_rule_38 rfl rfl ?_
      obtain ⟨q39, hq39, h⟩ := Option.bind_eq_some_iff.mp h
      refine x_virtI (pc' := 42) (o := 24) (as := [.int x2]) (rest := []) dX7_rule_39 rfl lm_7_196 rfl rfl rfl sh_24 rfl hq39 ?_
      refine x_istore_n (pc' := 43) (ls' := [.ref 1, .int x1, .int x2, .int (q39.1)]) dX7_rule_42 rfl rfl rfl ?_
      refine x_aload_n (pc' := 44) dX7_rule_43 rfl rfl ?_
      refine x_getR (pc' := 47) dX7_rule_44 rfl lf_7_40 rfl sh_1 rfl ?_
      refine x_iload_n (pc' := 48) dX7_rule_47 rfl rfl ?_
      obtain ⟨q48, hq48, h⟩ := Option.bind_eq_some_iff.mp h
      refine x_virtI (pc' := 51) (o := 24) (as := [.int (q39.1)]) (rest := []) dX7_rule_48 rfl lm_7_199 rfl rfl rfl sh_24 rfl hq48 ?_
      exact x_iret dX7_rule_51 rfl ((tb_dI_ok _ _).trans h)
    · replace h := (if_neg c23).symm.trans h
      refine x_icmp_ne_f (pc' := 26) dX7_rule_23 (by decide) rfl c23 ?_
      refine x_aload_n (pc' := 27) dX7_rule_26 rfl rfl ?_
      refine x_getR (pc' := 30) dX7_rule_27 rfl lf_7_40 rfl sh_1 rfl ?_
      obtain ⟨q30, hq30, h⟩ := Option.bind_eq_some_iff.mp h
      refine x_virtI (pc' := 33) (o := 24) (as := []) (rest := []) dX7_rule_30 rfl lm_7_193 rfl rfl rfl sh_24 rfl hq30 ?_
      exact x_iret dX7_rule_33 rfl ((tb_dI_ok _ _).trans h)
  · replace h := (if_neg c8).symm.trans h
    refine x_if_ne_f (pc' := 11) dX7_rule_8 (by decide) rfl c8 ?_
    refine x_iconst (pc' := 12) (w := (-1 : Int32)) dX7_rule_11 rfl k_ic_m1 ?_
    exact x_iret dX7_rule_12 rfl ((tb_dI_ok _ _).trans h)
theorem MX7_rule {d : Nat} {x1 : Int32} {x2 : Int32} {S : tb_St} {r : Int32 × tb_St} (h : ((tb_cI d mX5_has [.ref 2, .int x1] S).bind fun q5 => (if ¬ q5.1 = 0 then (tb_cV d mX6_unfold [.ref 24, .int x1] (q5.2)).bind fun q18 => (if ¬ x2 = (-1 : Int32) then (tb_cI d mX6_placeOfRule [.ref 24, .int x2] q18).bind fun q39 => (tb_cI d mX6_termAt [.ref 24, .int (q39.1)] (q39.2)).bind fun q48 => some (q48.1, q48.2) else (tb_cI d mX6_ruleCount [.ref 24] q18).bind fun q30 => some (q30.1, q30.2)) else some ((-1 : Int32), q5.2))) = some r) : tb_cI (d + 1) mX7_rule [.ref 1, .int x1, .int x2] S = some r := tb_enI rfl rfl (BX7_rule_0 h)
/-! X8_diff (45,) -/
theorem BX8_diff_0 {d : Nat} {x1 x2 x3 x4 : Int32} {S : tb_St} {r : Int32 × tb_St} (h : ((tb_cI d mX8_isTerm [.ref 45, .int x1] S).bind fun q2 => (if q2.1 = 0 then some ((-1 : Int32), q2.2) else (tb_cI d mX8_isTerm [.ref 45, .int x2] (q2.2)).bind fun q10 => (if ¬ q10.1 = 0 then (tb_cV d mX8_finds [.ref 45, .int x1, .int x2, .int (2 : Int32)] (q10.2)).bind fun q22 => (tb_cI d mX8_found [.ref 45, .int x3, .int x4, .int (7 : Int32)] q22).bind fun q31 => some (q31.1, q31.2) else some ((-1 : Int32), q10.2)))) = some r) : tb_E d mX8_diff tb_dI 0 [.ref 45, .int x1, .int x2, .int x3, .int x4] [] tb_S S = some r := by
  refine x_aload_n (pc' := 1) dX8_diff_0 rfl rfl ?_
  refine x_iload_n (pc' := 2) dX8_diff_1 rfl rfl ?_
  obtain ⟨q2, hq2, h⟩ := Option.bind_eq_some_iff.mp h
  refine x_virtI (pc' := 5) (o := 45) (as := [.int x1]) (rest := []) dX8_diff_2 rfl lm_8_109 rfl rfl rfl sh_45 rfl hq2 ?_
  by_cases c5 : q2.1 = 0
  · replace h := (if_pos c5).symm.trans h
    refine x_if_eq_t (pc' := 16) dX8_diff_5 (by decide) c5 ?_
    refine x_iconst (pc' := 17) (w := (-1 : Int32)) dX8_diff_16 rfl k_ic_m1 ?_
    exact x_iret dX8_diff_17 rfl ((tb_dI_ok _ _).trans h)
  · replace h := (if_neg c5).symm.trans h
    refine x_if_eq_f (pc' := 8) dX8_diff_5 (by decide) rfl c5 ?_
    refine x_aload_n (pc' := 9) dX8_diff_8 rfl rfl ?_
    refine x_iload_n (pc' := 10) dX8_diff_9 rfl rfl ?_
    obtain ⟨q10, hq10, h⟩ := Option.bind_eq_some_iff.mp h
    refine x_virtI (pc' := 13) (o := 45) (as := [.int x2]) (rest := []) dX8_diff_10 rfl lm_8_109 rfl rfl rfl sh_45 rfl hq10 ?_
    by_cases c13 : ¬ q10.1 = 0
    · replace h := (if_pos c13).symm.trans h
      refine x_if_ne_t (pc' := 18) dX8_diff_13 (by decide) c13 ?_
      refine x_aload_n (pc' := 19) dX8_diff_18 rfl rfl ?_
      refine x_iload_n (pc' := 20) dX8_diff_19 rfl rfl ?_
      refine x_iload_n (pc' := 21) dX8_diff_20 rfl rfl ?_
      refine x_iconst (pc' := 22) (w := (2 : Int32)) dX8_diff_21 rfl k_ic_2 ?_
      obtain ⟨q22, hq22, h⟩ := Option.bind_eq_some_iff.mp h
      refine x_virtV (pc' := 25) (o := 45) (as := [.int x1, .int x2, .int (2 : Int32)]) (rest := []) dX8_diff_22 rfl lm_8_235 rfl rfl rfl sh_45 rfl hq22 ?_
      refine x_aload_n (pc' := 26) dX8_diff_25 rfl rfl ?_
      refine x_iload_n (pc' := 27) dX8_diff_26 rfl rfl ?_
      refine x_iload (pc' := 29) dX8_diff_27 rfl rfl ?_
      refine x_bipush (pc' := 31) (w := (7 : Int32)) dX8_diff_29 rfl k_bi_7 ?_
      obtain ⟨q31, hq31, h⟩ := Option.bind_eq_some_iff.mp h
      refine x_virtI (pc' := 34) (o := 45) (as := [.int x3, .int x4, .int (7 : Int32)]) (rest := []) dX8_diff_31 rfl lm_8_239 rfl rfl rfl sh_45 rfl hq31 ?_
      exact x_iret dX8_diff_34 rfl ((tb_dI_ok _ _).trans h)
    · replace h := (if_neg c13).symm.trans h
      refine x_if_ne_f (pc' := 16) dX8_diff_13 (by decide) rfl c13 ?_
      refine x_iconst (pc' := 17) (w := (-1 : Int32)) dX8_diff_16 rfl k_ic_m1 ?_
      exact x_iret dX8_diff_17 rfl ((tb_dI_ok _ _).trans h)
theorem MX8_diff {d : Nat} {x1 : Int32} {x2 : Int32} {x3 : Int32} {x4 : Int32} {S : tb_St} {r : Int32 × tb_St} (h : ((tb_cI d mX8_isTerm [.ref 45, .int x1] S).bind fun q2 => (if q2.1 = 0 then some ((-1 : Int32), q2.2) else (tb_cI d mX8_isTerm [.ref 45, .int x2] (q2.2)).bind fun q10 => (if ¬ q10.1 = 0 then (tb_cV d mX8_finds [.ref 45, .int x1, .int x2, .int (2 : Int32)] (q10.2)).bind fun q22 => (tb_cI d mX8_found [.ref 45, .int x3, .int x4, .int (7 : Int32)] q22).bind fun q31 => some (q31.1, q31.2) else some ((-1 : Int32), q10.2)))) = some r) : tb_cI (d + 1) mX8_diff [.ref 45, .int x1, .int x2, .int x3, .int x4] S = some r := tb_enI rfl rfl (BX8_diff_0 h)
/-! X7_diff (1,) -/
theorem BX7_diff_0 {d : Nat} {x1 x2 x3 x4 : Int32} {S : tb_St} {r : Int32 × tb_St} (h : ((tb_cI d mX5_has [.ref 2, .int x1] S).bind fun q5 => (if q5.1 = 0 then some ((-1 : Int32), q5.2) else (tb_cI d mX5_has [.ref 2, .int x2] (q5.2)).bind fun q16 => (if ¬ q16.1 = 0 then (tb_cV d mX7_boxDiffs [.ref 1, .int x1, .int x2] (q16.2)).bind fun q27 => (if ¬ x4 = (6 : Int32) then tb_E d mX7_diff tb_dI 61 [.ref 1, .int x1, .int x2, .int x3, .int x4] [] tb_S q27 else (tb_cI d mX0_has [.ref 28, .int x3] q27).bind fun q42 => (if q42.1 = 0 then tb_E d mX7_diff tb_dI 61 [.ref 1, .int x1, .int x2, .int x3, .int x4] [] tb_S (q42.2) else (tb_ix x3 224).bind fun j56 => (tb_cI d mX7_firstOfPair [.int ((q42.2) 31 j56)] (q42.2)).bind fun q57 => some (q57.1, q57.2))) else some ((-1 : Int32), q16.2)))) = some r) : tb_E d mX7_diff tb_dI 0 [.ref 1, .int x1, .int x2, .int x3, .int x4] [] tb_S S = some r := by
  refine x_aload_n (pc' := 1) dX7_diff_0 rfl rfl ?_
  refine x_getR (pc' := 4) dX7_diff_1 rfl lf_7_12 rfl sh_1 rfl ?_
  refine x_iload_n (pc' := 5) dX7_diff_4 rfl rfl ?_
  obtain ⟨q5, hq5, h⟩ := Option.bind_eq_some_iff.mp h
  refine x_virtI (pc' := 8) (o := 2) (as := [.int x1]) (rest := []) dX7_diff_5 rfl lm_7_80 rfl rfl rfl sh_2 rfl hq5 ?_
  by_cases c8 : q5.1 = 0
  · replace h := (if_pos c8).symm.trans h
    refine x_if_eq_t (pc' := 22) dX7_diff_8 (by decide) c8 ?_
    refine x_iconst (pc' := 23) (w := (-1 : Int32)) dX7_diff_22 rfl k_ic_m1 ?_
    exact x_iret dX7_diff_23 rfl ((tb_dI_ok _ _).trans h)
  · replace h := (if_neg c8).symm.trans h
    refine x_if_eq_f (pc' := 11) dX7_diff_8 (by decide) rfl c8 ?_
    refine x_aload_n (pc' := 12) dX7_diff_11 rfl rfl ?_
    refine x_getR (pc' := 15) dX7_diff_12 rfl lf_7_12 rfl sh_1 rfl ?_
    refine x_iload_n (pc' := 16) dX7_diff_15 rfl rfl ?_
    obtain ⟨q16, hq16, h⟩ := Option.bind_eq_some_iff.mp h
    refine x_virtI (pc' := 19) (o := 2) (as := [.int x2]) (rest := []) dX7_diff_16 rfl lm_7_80 rfl rfl rfl sh_2 rfl hq16 ?_
    by_cases c19 : ¬ q16.1 = 0
    · replace h := (if_pos c19).symm.trans h
      refine x_if_ne_t (pc' := 24) dX7_diff_19 (by decide) c19 ?_
      refine x_aload_n (pc' := 25) dX7_diff_24 rfl rfl ?_
      refine x_iload_n (pc' := 26) dX7_diff_25 rfl rfl ?_
      refine x_iload_n (pc' := 27) dX7_diff_26 rfl rfl ?_
      obtain ⟨q27, hq27, h⟩ := Option.bind_eq_some_iff.mp h
      refine x_virtV (pc' := 30) (o := 1) (as := [.int x1, .int x2]) (rest := []) dX7_diff_27 rfl lm_7_183 rfl rfl rfl sh_1 rfl hq27 ?_
      refine x_iload (pc' := 32) dX7_diff_30 rfl rfl ?_
      refine x_bipush (pc' := 34) (w := (6 : Int32)) dX7_diff_32 rfl k_bi_6 ?_
      by_cases c34 : ¬ x4 = (6 : Int32)
      · replace h := (if_pos c34).symm.trans h
        refine x_icmp_ne_t (pc' := 61) dX7_diff_34 (by decide) c34 ?_
        exact h
      · replace h := (if_neg c34).symm.trans h
        refine x_icmp_ne_f (pc' := 37) dX7_diff_34 (by decide) rfl c34 ?_
        refine x_aload_n (pc' := 38) dX7_diff_37 rfl rfl ?_
        refine x_getR (pc' := 41) dX7_diff_38 rfl lf_7_47 rfl sh_1 rfl ?_
        refine x_iload_n (pc' := 42) dX7_diff_41 rfl rfl ?_
        obtain ⟨q42, hq42, h⟩ := Option.bind_eq_some_iff.mp h
        refine x_virtI (pc' := 45) (o := 28) (as := [.int x3]) (rest := []) dX7_diff_42 rfl lm_7_173 rfl rfl rfl sh_28 rfl hq42 ?_
        by_cases c45 : q42.1 = 0
        · replace h := (if_pos c45).symm.trans h
          refine x_if_eq_t (pc' := 61) dX7_diff_45 (by decide) c45 ?_
          exact h
        · replace h := (if_neg c45).symm.trans h
          refine x_if_eq_f (pc' := 48) dX7_diff_45 (by decide) rfl c45 ?_
          refine x_aload_n (pc' := 49) dX7_diff_48 rfl rfl ?_
          refine x_getR (pc' := 52) dX7_diff_49 rfl lf_7_47 rfl sh_1 rfl ?_
          refine x_getR (pc' := 55) dX7_diff_52 rfl lf_7_174 rfl sh_28 rfl ?_
          refine x_iload_n (pc' := 56) dX7_diff_55 rfl rfl ?_
          obtain ⟨j56, hj56, h⟩ := Option.bind_eq_some_iff.mp h
          refine x_iaload (pc' := 57) (v := (q42.2) 31 j56) dX7_diff_56 rfl sh_31 hj56 rfl ?_
          obtain ⟨q57, hq57, h⟩ := Option.bind_eq_some_iff.mp h
          refine x_statI (pc' := 60) (as := [.int ((q42.2) 31 j56)]) (rest := []) dX7_diff_57 rfl lm_7_187 (by decide) rfl rfl rfl rfl hq57 ?_
          exact x_iret dX7_diff_60 rfl ((tb_dI_ok _ _).trans h)
    · replace h := (if_neg c19).symm.trans h
      refine x_if_ne_f (pc' := 22) dX7_diff_19 (by decide) rfl c19 ?_
      refine x_iconst (pc' := 23) (w := (-1 : Int32)) dX7_diff_22 rfl k_ic_m1 ?_
      exact x_iret dX7_diff_23 rfl ((tb_dI_ok _ _).trans h)
theorem MX7_diff {d : Nat} {x1 : Int32} {x2 : Int32} {x3 : Int32} {x4 : Int32} {S : tb_St} {r : Int32 × tb_St} (h : ((tb_cI d mX5_has [.ref 2, .int x1] S).bind fun q5 => (if q5.1 = 0 then some ((-1 : Int32), q5.2) else (tb_cI d mX5_has [.ref 2, .int x2] (q5.2)).bind fun q16 => (if ¬ q16.1 = 0 then (tb_cV d mX7_boxDiffs [.ref 1, .int x1, .int x2] (q16.2)).bind fun q27 => (if ¬ x4 = (6 : Int32) then tb_E d mX7_diff tb_dI 61 [.ref 1, .int x1, .int x2, .int x3, .int x4] [] tb_S q27 else (tb_cI d mX0_has [.ref 28, .int x3] q27).bind fun q42 => (if q42.1 = 0 then tb_E d mX7_diff tb_dI 61 [.ref 1, .int x1, .int x2, .int x3, .int x4] [] tb_S (q42.2) else (tb_ix x3 224).bind fun j56 => (tb_cI d mX7_firstOfPair [.int ((q42.2) 31 j56)] (q42.2)).bind fun q57 => some (q57.1, q57.2))) else some ((-1 : Int32), q16.2)))) = some r) : tb_cI (d + 1) mX7_diff [.ref 1, .int x1, .int x2, .int x3, .int x4] S = some r := tb_enI rfl rfl (BX7_diff_0 h)
theorem BX7_diff_61 {d : Nat} {x3 x4 : Int32} {w1 w2 : Value} {S : tb_St} {r : Int32 × tb_St} (h : ((if ¬ x4 = (7 : Int32) then (tb_cI d mX0_tell [.ref 28, .int x3, .int x4] S).bind fun q99 => some (q99.1, q99.2) else (tb_cI d mX0_has [.ref 28, .int x3] S).bind fun q73 => (if q73.1 = 0 then (tb_cI d mX0_tell [.ref 28, .int x3, .int x4] (q73.2)).bind fun q99 => some (q99.1, q99.2) else (tb_ix x3 224).bind fun j87 => (tb_cI d mX7_secondOfPair [.int ((q73.2) 31 j87)] (q73.2)).bind fun q88 => some (q88.1, q88.2)))) = some r) : tb_E d mX7_diff tb_dI 61 [.ref 1, w1, w2, .int x3, .int x4] [] tb_S S = some r := by
  refine x_iload (pc' := 63) dX7_diff_61 rfl rfl ?_
  refine x_bipush (pc' := 65) (w := (7 : Int32)) dX7_diff_63 rfl k_bi_7 ?_
  by_cases c65 : ¬ x4 = (7 : Int32)
  · replace h := (if_pos c65).symm.trans h
    refine x_icmp_ne_t (pc' := 92) dX7_diff_65 (by decide) c65 ?_
    refine x_aload_n (pc' := 93) dX7_diff_92 rfl rfl ?_
    refine x_getR (pc' := 96) dX7_diff_93 rfl lf_7_47 rfl sh_1 rfl ?_
    refine x_iload_n (pc' := 97) dX7_diff_96 rfl rfl ?_
    refine x_iload (pc' := 99) dX7_diff_97 rfl rfl ?_
    obtain ⟨q99, hq99, h⟩ := Option.bind_eq_some_iff.mp h
    refine x_virtI (pc' := 102) (o := 28) (as := [.int x3, .int x4]) (rest := []) dX7_diff_99 rfl lm_7_177 rfl rfl rfl sh_28 rfl hq99 ?_
    exact x_iret dX7_diff_102 rfl ((tb_dI_ok _ _).trans h)
  · replace h := (if_neg c65).symm.trans h
    refine x_icmp_ne_f (pc' := 68) dX7_diff_65 (by decide) rfl c65 ?_
    refine x_aload_n (pc' := 69) dX7_diff_68 rfl rfl ?_
    refine x_getR (pc' := 72) dX7_diff_69 rfl lf_7_47 rfl sh_1 rfl ?_
    refine x_iload_n (pc' := 73) dX7_diff_72 rfl rfl ?_
    obtain ⟨q73, hq73, h⟩ := Option.bind_eq_some_iff.mp h
    refine x_virtI (pc' := 76) (o := 28) (as := [.int x3]) (rest := []) dX7_diff_73 rfl lm_7_173 rfl rfl rfl sh_28 rfl hq73 ?_
    by_cases c76 : q73.1 = 0
    · replace h := (if_pos c76).symm.trans h
      refine x_if_eq_t (pc' := 92) dX7_diff_76 (by decide) c76 ?_
      refine x_aload_n (pc' := 93) dX7_diff_92 rfl rfl ?_
      refine x_getR (pc' := 96) dX7_diff_93 rfl lf_7_47 rfl sh_1 rfl ?_
      refine x_iload_n (pc' := 97) dX7_diff_96 rfl rfl ?_
      refine x_iload (pc' := 99) dX7_diff_97 rfl rfl ?_
      obtain ⟨q99, hq99, h⟩ := Option.bind_eq_some_iff.mp h
      refine x_virtI (pc' := 102) (o := 28) (as := [.int x3, .int x4]) (rest := []) dX7_diff_99 rfl lm_7_177 rfl rfl rfl sh_28 rfl hq99 ?_
      exact x_iret dX7_diff_102 rfl ((tb_dI_ok _ _).trans h)
    · replace h := (if_neg c76).symm.trans h
      refine x_if_eq_f (pc' := 79) dX7_diff_76 (by decide) rfl c76 ?_
      refine x_aload_n (pc' := 80) dX7_diff_79 rfl rfl ?_
      refine x_getR (pc' := 83) dX7_diff_80 rfl lf_7_47 rfl sh_1 rfl ?_
      refine x_getR (pc' := 86) dX7_diff_83 rfl lf_7_174 rfl sh_28 rfl ?_
      refine x_iload_n (pc' := 87) dX7_diff_86 rfl rfl ?_
      obtain ⟨j87, hj87, h⟩ := Option.bind_eq_some_iff.mp h
      refine x_iaload (pc' := 88) (v := (q73.2) 31 j87) dX7_diff_87 rfl sh_31 hj87 rfl ?_
      obtain ⟨q88, hq88, h⟩ := Option.bind_eq_some_iff.mp h
      refine x_statI (pc' := 91) (as := [.int ((q73.2) 31 j87)]) (rest := []) dX7_diff_88 rfl lm_7_190 (by decide) rfl rfl rfl rfl hq88 ?_
      exact x_iret dX7_diff_91 rfl ((tb_dI_ok _ _).trans h)
/-! X8_gap (45,) -/
theorem BX8_gap_0 {d : Nat} {x1 x2 x3 : Int32} {S : tb_St} {r : Int32 × tb_St} (h : ((tb_cI d mX8_isTerm [.ref 45, .int x1] S).bind fun q2 => (if ¬ q2.1 = 0 then (tb_cV d mX8_finds [.ref 45, .int x1, .int x1, .int (1 : Int32)] (q2.2)).bind fun q14 => (tb_cI d mX8_found [.ref 45, .int x2, .int x3, .int (5 : Int32)] q14).bind fun q21 => some (q21.1, q21.2) else some ((-1 : Int32), q2.2))) = some r) : tb_E d mX8_gap tb_dI 0 [.ref 45, .int x1, .int x2, .int x3] [] tb_S S = some r := by
  refine x_aload_n (pc' := 1) dX8_gap_0 rfl rfl ?_
  refine x_iload_n (pc' := 2) dX8_gap_1 rfl rfl ?_
  obtain ⟨q2, hq2, h⟩ := Option.bind_eq_some_iff.mp h
  refine x_virtI (pc' := 5) (o := 45) (as := [.int x1]) (rest := []) dX8_gap_2 rfl lm_8_109 rfl rfl rfl sh_45 rfl hq2 ?_
  by_cases c5 : ¬ q2.1 = 0
  · replace h := (if_pos c5).symm.trans h
    refine x_if_ne_t (pc' := 10) dX8_gap_5 (by decide) c5 ?_
    refine x_aload_n (pc' := 11) dX8_gap_10 rfl rfl ?_
    refine x_iload_n (pc' := 12) dX8_gap_11 rfl rfl ?_
    refine x_iload_n (pc' := 13) dX8_gap_12 rfl rfl ?_
    refine x_iconst (pc' := 14) (w := (1 : Int32)) dX8_gap_13 rfl k_ic_1 ?_
    obtain ⟨q14, hq14, h⟩ := Option.bind_eq_some_iff.mp h
    refine x_virtV (pc' := 17) (o := 45) (as := [.int x1, .int x1, .int (1 : Int32)]) (rest := []) dX8_gap_14 rfl lm_8_235 rfl rfl rfl sh_45 rfl hq14 ?_
    refine x_aload_n (pc' := 18) dX8_gap_17 rfl rfl ?_
    refine x_iload_n (pc' := 19) dX8_gap_18 rfl rfl ?_
    refine x_iload_n (pc' := 20) dX8_gap_19 rfl rfl ?_
    refine x_iconst (pc' := 21) (w := (5 : Int32)) dX8_gap_20 rfl k_ic_5 ?_
    obtain ⟨q21, hq21, h⟩ := Option.bind_eq_some_iff.mp h
    refine x_virtI (pc' := 24) (o := 45) (as := [.int x2, .int x3, .int (5 : Int32)]) (rest := []) dX8_gap_21 rfl lm_8_239 rfl rfl rfl sh_45 rfl hq21 ?_
    exact x_iret dX8_gap_24 rfl ((tb_dI_ok _ _).trans h)
  · replace h := (if_neg c5).symm.trans h
    refine x_if_ne_f (pc' := 8) dX8_gap_5 (by decide) rfl c5 ?_
    refine x_iconst (pc' := 9) (w := (-1 : Int32)) dX8_gap_8 rfl k_ic_m1 ?_
    exact x_iret dX8_gap_9 rfl ((tb_dI_ok _ _).trans h)
theorem MX8_gap {d : Nat} {x1 : Int32} {x2 : Int32} {x3 : Int32} {S : tb_St} {r : Int32 × tb_St} (h : ((tb_cI d mX8_isTerm [.ref 45, .int x1] S).bind fun q2 => (if ¬ q2.1 = 0 then (tb_cV d mX8_finds [.ref 45, .int x1, .int x1, .int (1 : Int32)] (q2.2)).bind fun q14 => (tb_cI d mX8_found [.ref 45, .int x2, .int x3, .int (5 : Int32)] q14).bind fun q21 => some (q21.1, q21.2) else some ((-1 : Int32), q2.2))) = some r) : tb_cI (d + 1) mX8_gap [.ref 45, .int x1, .int x2, .int x3] S = some r := tb_enI rfl rfl (BX8_gap_0 h)
/-! X7_gap (1,) -/
theorem BX7_gap_0 {d : Nat} {x1 x2 x3 : Int32} {S : tb_St} {r : Int32 × tb_St} (h : ((tb_cI d mX5_has [.ref 2, .int x1] S).bind fun q5 => (if ¬ q5.1 = 0 then (tb_cV d mX7_boxGaps [.ref 1, .int x1] (q5.2)).bind fun q15 => (tb_cI d mX0_tell [.ref 28, .int x2, .int x3] q15).bind fun q24 => some (q24.1, q24.2) else some ((-1 : Int32), q5.2))) = some r) : tb_E d mX7_gap tb_dI 0 [.ref 1, .int x1, .int x2, .int x3] [] tb_S S = some r := by
  refine x_aload_n (pc' := 1) dX7_gap_0 rfl rfl ?_
  refine x_getR (pc' := 4) dX7_gap_1 rfl lf_7_12 rfl sh_1 rfl ?_
  refine x_iload_n (pc' := 5) dX7_gap_4 rfl rfl ?_
  obtain ⟨q5, hq5, h⟩ := Option.bind_eq_some_iff.mp h
  refine x_virtI (pc' := 8) (o := 2) (as := [.int x1]) (rest := []) dX7_gap_5 rfl lm_7_80 rfl rfl rfl sh_2 rfl hq5 ?_
  by_cases c8 : ¬ q5.1 = 0
  · replace h := (if_pos c8).symm.trans h
    refine x_if_ne_t (pc' := 13) dX7_gap_8 (by decide) c8 ?_
    refine x_aload_n (pc' := 14) dX7_gap_13 rfl rfl ?_
    refine x_iload_n (pc' := 15) dX7_gap_14 rfl rfl ?_
    obtain ⟨q15, hq15, h⟩ := Option.bind_eq_some_iff.mp h
    refine x_virtV (pc' := 18) (o := 1) (as := [.int x1]) (rest := []) dX7_gap_15 rfl lm_7_180 rfl rfl rfl sh_1 rfl hq15 ?_
    refine x_aload_n (pc' := 19) dX7_gap_18 rfl rfl ?_
    refine x_getR (pc' := 22) dX7_gap_19 rfl lf_7_47 rfl sh_1 rfl ?_
    refine x_iload_n (pc' := 23) dX7_gap_22 rfl rfl ?_
    refine x_iload_n (pc' := 24) dX7_gap_23 rfl rfl ?_
    obtain ⟨q24, hq24, h⟩ := Option.bind_eq_some_iff.mp h
    refine x_virtI (pc' := 27) (o := 28) (as := [.int x2, .int x3]) (rest := []) dX7_gap_24 rfl lm_7_177 rfl rfl rfl sh_28 rfl hq24 ?_
    exact x_iret dX7_gap_27 rfl ((tb_dI_ok _ _).trans h)
  · replace h := (if_neg c8).symm.trans h
    refine x_if_ne_f (pc' := 11) dX7_gap_8 (by decide) rfl c8 ?_
    refine x_iconst (pc' := 12) (w := (-1 : Int32)) dX7_gap_11 rfl k_ic_m1 ?_
    exact x_iret dX7_gap_12 rfl ((tb_dI_ok _ _).trans h)
theorem MX7_gap {d : Nat} {x1 : Int32} {x2 : Int32} {x3 : Int32} {S : tb_St} {r : Int32 × tb_St} (h : ((tb_cI d mX5_has [.ref 2, .int x1] S).bind fun q5 => (if ¬ q5.1 = 0 then (tb_cV d mX7_boxGaps [.ref 1, .int x1] (q5.2)).bind fun q15 => (tb_cI d mX0_tell [.ref 28, .int x2, .int x3] q15).bind fun q24 => some (q24.1, q24.2) else some ((-1 : Int32), q5.2))) = some r) : tb_cI (d + 1) mX7_gap [.ref 1, .int x1, .int x2, .int x3] S = some r := tb_enI rfl rfl (BX7_gap_0 h)
/-! X8_part_ (45,) -/
theorem BX8_part__0 {d : Nat} {x1 x2 x3 : Int32} {S : tb_St} {r : Int32 × tb_St} (h : ((tb_cI d mX8_isTerm [.ref 45, .int x1] S).bind fun q2 => (if ¬ q2.1 = 0 then (tb_cV d mX8_finds [.ref 45, .int x1, .int x1, .int (0 : Int32)] (q2.2)).bind fun q14 => (tb_cI d mX8_found [.ref 45, .int x2, .int x3, .int (6 : Int32)] q14).bind fun q22 => some (q22.1, q22.2) else some ((-1 : Int32), q2.2))) = some r) : tb_E d mX8_part_ tb_dI 0 [.ref 45, .int x1, .int x2, .int x3] [] tb_S S = some r := by
  refine x_aload_n (pc' := 1) dX8_part__0 rfl rfl ?_
  refine x_iload_n (pc' := 2) dX8_part__1 rfl rfl ?_
  obtain ⟨q2, hq2, h⟩ := Option.bind_eq_some_iff.mp h
  refine x_virtI (pc' := 5) (o := 45) (as := [.int x1]) (rest := []) dX8_part__2 rfl lm_8_109 rfl rfl rfl sh_45 rfl hq2 ?_
  by_cases c5 : ¬ q2.1 = 0
  · replace h := (if_pos c5).symm.trans h
    refine x_if_ne_t (pc' := 10) dX8_part__5 (by decide) c5 ?_
    refine x_aload_n (pc' := 11) dX8_part__10 rfl rfl ?_
    refine x_iload_n (pc' := 12) dX8_part__11 rfl rfl ?_
    refine x_iload_n (pc' := 13) dX8_part__12 rfl rfl ?_
    refine x_iconst (pc' := 14) (w := (0 : Int32)) dX8_part__13 rfl k_ic_0 ?_
    obtain ⟨q14, hq14, h⟩ := Option.bind_eq_some_iff.mp h
    refine x_virtV (pc' := 17) (o := 45) (as := [.int x1, .int x1, .int (0 : Int32)]) (rest := []) dX8_part__14 rfl lm_8_235 rfl rfl rfl sh_45 rfl hq14 ?_
    refine x_aload_n (pc' := 18) dX8_part__17 rfl rfl ?_
    refine x_iload_n (pc' := 19) dX8_part__18 rfl rfl ?_
    refine x_iload_n (pc' := 20) dX8_part__19 rfl rfl ?_
    refine x_bipush (pc' := 22) (w := (6 : Int32)) dX8_part__20 rfl k_bi_6 ?_
    obtain ⟨q22, hq22, h⟩ := Option.bind_eq_some_iff.mp h
    refine x_virtI (pc' := 25) (o := 45) (as := [.int x2, .int x3, .int (6 : Int32)]) (rest := []) dX8_part__22 rfl lm_8_239 rfl rfl rfl sh_45 rfl hq22 ?_
    exact x_iret dX8_part__25 rfl ((tb_dI_ok _ _).trans h)
  · replace h := (if_neg c5).symm.trans h
    refine x_if_ne_f (pc' := 8) dX8_part__5 (by decide) rfl c5 ?_
    refine x_iconst (pc' := 9) (w := (-1 : Int32)) dX8_part__8 rfl k_ic_m1 ?_
    exact x_iret dX8_part__9 rfl ((tb_dI_ok _ _).trans h)
theorem MX8_part_ {d : Nat} {x1 : Int32} {x2 : Int32} {x3 : Int32} {S : tb_St} {r : Int32 × tb_St} (h : ((tb_cI d mX8_isTerm [.ref 45, .int x1] S).bind fun q2 => (if ¬ q2.1 = 0 then (tb_cV d mX8_finds [.ref 45, .int x1, .int x1, .int (0 : Int32)] (q2.2)).bind fun q14 => (tb_cI d mX8_found [.ref 45, .int x2, .int x3, .int (6 : Int32)] q14).bind fun q22 => some (q22.1, q22.2) else some ((-1 : Int32), q2.2))) = some r) : tb_cI (d + 1) mX8_part_ [.ref 45, .int x1, .int x2, .int x3] S = some r := tb_enI rfl rfl (BX8_part__0 h)
/-! X7_part (1,) -/
theorem BX7_part_0 {d : Nat} {x1 x2 x3 : Int32} {S : tb_St} {r : Int32 × tb_St} (h : ((tb_cI d mX5_has [.ref 2, .int x1] S).bind fun q5 => (if ¬ q5.1 = 0 then (tb_cV d mX7_boxFees [.ref 1, .int x1] (q5.2)).bind fun q15 => (if ¬ x3 = (6 : Int32) then (tb_cI d mX0_tell [.ref 28, .int x2, .int x3] q15).bind fun q51 => some (q51.1, q51.2) else (tb_cI d mX0_has [.ref 28, .int x2] q15).bind fun q29 => (if q29.1 = 0 then (tb_cI d mX0_tell [.ref 28, .int x2, .int x3] (q29.2)).bind fun q51 => some (q51.1, q51.2) else (tb_ix x2 224).bind fun j43 => some ((q29.2) 31 j43, q29.2))) else some ((-1 : Int32), q5.2))) = some r) : tb_E d mX7_part tb_dI 0 [.ref 1, .int x1, .int x2, .int x3] [] tb_S S = some r := by
  refine x_aload_n (pc' := 1) dX7_part_0 rfl rfl ?_
  refine x_getR (pc' := 4) dX7_part_1 rfl lf_7_12 rfl sh_1 rfl ?_
  refine x_iload_n (pc' := 5) dX7_part_4 rfl rfl ?_
  obtain ⟨q5, hq5, h⟩ := Option.bind_eq_some_iff.mp h
  refine x_virtI (pc' := 8) (o := 2) (as := [.int x1]) (rest := []) dX7_part_5 rfl lm_7_80 rfl rfl rfl sh_2 rfl hq5 ?_
  by_cases c8 : ¬ q5.1 = 0
  · replace h := (if_pos c8).symm.trans h
    refine x_if_ne_t (pc' := 13) dX7_part_8 (by decide) c8 ?_
    refine x_aload_n (pc' := 14) dX7_part_13 rfl rfl ?_
    refine x_iload_n (pc' := 15) dX7_part_14 rfl rfl ?_
    obtain ⟨q15, hq15, h⟩ := Option.bind_eq_some_iff.mp h
    refine x_virtV (pc' := 18) (o := 1) (as := [.int x1]) (rest := []) dX7_part_15 rfl lm_7_170 rfl rfl rfl sh_1 rfl hq15 ?_
    refine x_iload_n (pc' := 19) dX7_part_18 rfl rfl ?_
    refine x_bipush (pc' := 21) (w := (6 : Int32)) dX7_part_19 rfl k_bi_6 ?_
    by_cases c21 : ¬ x3 = (6 : Int32)
    · replace h := (if_pos c21).symm.trans h
      refine x_icmp_ne_t (pc' := 45) dX7_part_21 (by decide) c21 ?_
      refine x_aload_n (pc' := 46) dX7_part_45 rfl rfl ?_
      refine x_getR (pc' := 49) dX7_part_46 rfl lf_7_47 rfl sh_1 rfl ?_
      refine x_iload_n (pc' := 50) dX7_part_49 rfl rfl ?_
      refine x_iload_n (pc' := 51) dX7_part_50 rfl rfl ?_
      obtain ⟨q51, hq51, h⟩ := Option.bind_eq_some_iff.mp h
      refine x_virtI (pc' := 54) (o := 28) (as := [.int x2, .int x3]) (rest := []) dX7_part_51 rfl lm_7_177 rfl rfl rfl sh_28 rfl hq51 ?_
      exact x_iret dX7_part_54 rfl ((tb_dI_ok _ _).trans h)
    · replace h := (if_neg c21).symm.trans h
      refine x_icmp_ne_f (pc' := 24) dX7_part_21 (by decide) rfl c21 ?_
      refine x_aload_n (pc' := 25) dX7_part_24 rfl rfl ?_
      refine x_getR (pc' := 28) dX7_part_25 rfl lf_7_47 rfl sh_1 rfl ?_
      refine x_iload_n (pc' := 29) dX7_part_28 rfl rfl ?_
      obtain ⟨q29, hq29, h⟩ := Option.bind_eq_some_iff.mp h
      refine x_virtI (pc' := 32) (o := 28) (as := [.int x2]) (rest := []) dX7_part_29 rfl lm_7_173 rfl rfl rfl sh_28 rfl hq29 ?_
      by_cases c32 : q29.1 = 0
      · replace h := (if_pos c32).symm.trans h
        refine x_if_eq_t (pc' := 45) dX7_part_32 (by decide) c32 ?_
        refine x_aload_n (pc' := 46) dX7_part_45 rfl rfl ?_
        refine x_getR (pc' := 49) dX7_part_46 rfl lf_7_47 rfl sh_1 rfl ?_
        refine x_iload_n (pc' := 50) dX7_part_49 rfl rfl ?_
        refine x_iload_n (pc' := 51) dX7_part_50 rfl rfl ?_
        obtain ⟨q51, hq51, h⟩ := Option.bind_eq_some_iff.mp h
        refine x_virtI (pc' := 54) (o := 28) (as := [.int x2, .int x3]) (rest := []) dX7_part_51 rfl lm_7_177 rfl rfl rfl sh_28 rfl hq51 ?_
        exact x_iret dX7_part_54 rfl ((tb_dI_ok _ _).trans h)
      · replace h := (if_neg c32).symm.trans h
        refine x_if_eq_f (pc' := 35) dX7_part_32 (by decide) rfl c32 ?_
        refine x_aload_n (pc' := 36) dX7_part_35 rfl rfl ?_
        refine x_getR (pc' := 39) dX7_part_36 rfl lf_7_47 rfl sh_1 rfl ?_
        refine x_getR (pc' := 42) dX7_part_39 rfl lf_7_174 rfl sh_28 rfl ?_
        refine x_iload_n (pc' := 43) dX7_part_42 rfl rfl ?_
        obtain ⟨j43, hj43, h⟩ := Option.bind_eq_some_iff.mp h
        refine x_iaload (pc' := 44) (v := (q29.2) 31 j43) dX7_part_43 rfl sh_31 hj43 rfl ?_
        exact x_iret dX7_part_44 rfl ((tb_dI_ok _ _).trans h)
  · replace h := (if_neg c8).symm.trans h
    refine x_if_ne_f (pc' := 11) dX7_part_8 (by decide) rfl c8 ?_
    refine x_iconst (pc' := 12) (w := (-1 : Int32)) dX7_part_11 rfl k_ic_m1 ?_
    exact x_iret dX7_part_12 rfl ((tb_dI_ok _ _).trans h)
theorem MX7_part {d : Nat} {x1 : Int32} {x2 : Int32} {x3 : Int32} {S : tb_St} {r : Int32 × tb_St} (h : ((tb_cI d mX5_has [.ref 2, .int x1] S).bind fun q5 => (if ¬ q5.1 = 0 then (tb_cV d mX7_boxFees [.ref 1, .int x1] (q5.2)).bind fun q15 => (if ¬ x3 = (6 : Int32) then (tb_cI d mX0_tell [.ref 28, .int x2, .int x3] q15).bind fun q51 => some (q51.1, q51.2) else (tb_cI d mX0_has [.ref 28, .int x2] q15).bind fun q29 => (if q29.1 = 0 then (tb_cI d mX0_tell [.ref 28, .int x2, .int x3] (q29.2)).bind fun q51 => some (q51.1, q51.2) else (tb_ix x2 224).bind fun j43 => some ((q29.2) 31 j43, q29.2))) else some ((-1 : Int32), q5.2))) = some r) : tb_cI (d + 1) mX7_part [.ref 1, .int x1, .int x2, .int x3] S = some r := tb_enI rfl rfl (BX7_part_0 h)
/-! X8_odds (45,) -/
theorem BX8_odds_0 {d : Nat} {x1 x2 : Int32} {w3 w4 w5 w6 : Value} {S : tb_St} {r : Int64 × tb_St} (h : ((tb_cI d mX8_isTerm [.ref 45, .int x1] S).bind fun q2 => (if q2.1 = 0 then some ((-9223372036854775808 : Int64), q2.2) else (tb_cI d mX8_within [.int x2, .int (0 : Int32), .int (1 : Int32)] (q2.2)).bind fun q11 => (if ¬ q11.1 = 0 then (tb_cI d mX8_sum [.ref 45, .int x1, .int (1 : Int32)] (q11.2)).bind fun q24 => tb_E d mX8_odds tb_dL 36 [.ref 45, .int x1, .int x2, .int (q24.1), .int (q24.1), .int (224 : Int32), w6] [] tb_S (q24.2) else some ((-9223372036854775808 : Int64), q11.2)))) = some r) : tb_E d mX8_odds tb_dL 0 [.ref 45, .int x1, .int x2, w3, w4, w5, w6] [] tb_S S = some r := by
  refine x_aload_n (pc' := 1) dX8_odds_0 rfl rfl ?_
  refine x_iload_n (pc' := 2) dX8_odds_1 rfl rfl ?_
  obtain ⟨q2, hq2, h⟩ := Option.bind_eq_some_iff.mp h
  refine x_virtI (pc' := 5) (o := 45) (as := [.int x1]) (rest := []) dX8_odds_2 rfl lm_8_109 rfl rfl rfl sh_45 rfl hq2 ?_
  by_cases c5 : q2.1 = 0
  · replace h := (if_pos c5).symm.trans h
    refine x_if_eq_t (pc' := 17) dX8_odds_5 (by decide) c5 ?_
    refine x_ldc2_w (pc' := 20) dX8_odds_17 rfl ll_8_217 ?_
    exact x_lret dX8_odds_20 rfl ((tb_dL_ok _ _).trans h)
  · replace h := (if_neg c5).symm.trans h
    refine x_if_eq_f (pc' := 8) dX8_odds_5 (by decide) rfl c5 ?_
    refine x_iload_n (pc' := 9) dX8_odds_8 rfl rfl ?_
    refine x_iconst (pc' := 10) (w := (0 : Int32)) dX8_odds_9 rfl k_ic_0 ?_
    refine x_iconst (pc' := 11) (w := (1 : Int32)) dX8_odds_10 rfl k_ic_1 ?_
    obtain ⟨q11, hq11, h⟩ := Option.bind_eq_some_iff.mp h
    refine x_statI (pc' := 14) (as := [.int x2, .int (0 : Int32), .int (1 : Int32)]) (rest := []) dX8_odds_11 rfl lm_8_80 (by decide) rfl rfl rfl rfl hq11 ?_
    by_cases c14 : ¬ q11.1 = 0
    · replace h := (if_pos c14).symm.trans h
      refine x_if_ne_t (pc' := 21) dX8_odds_14 (by decide) c14 ?_
      refine x_aload_n (pc' := 22) dX8_odds_21 rfl rfl ?_
      refine x_iload_n (pc' := 23) dX8_odds_22 rfl rfl ?_
      refine x_iconst (pc' := 24) (w := (1 : Int32)) dX8_odds_23 rfl k_ic_1 ?_
      obtain ⟨q24, hq24, h⟩ := Option.bind_eq_some_iff.mp h
      refine x_virtI (pc' := 27) (o := 45) (as := [.int x1, .int (1 : Int32)]) (rest := []) dX8_odds_24 rfl lm_8_219 rfl rfl rfl sh_45 rfl hq24 ?_
      refine x_istore_n (pc' := 28) (ls' := [.ref 45, .int x1, .int x2, .int (q24.1), w4, w5, w6]) dX8_odds_27 rfl rfl rfl ?_
      refine x_iload_n (pc' := 29) dX8_odds_28 rfl rfl ?_
      refine x_istore (pc' := 31) (ls' := [.ref 45, .int x1, .int x2, .int (q24.1), .int (q24.1), w5, w6]) dX8_odds_29 rfl rfl rfl ?_
      refine x_sipush (pc' := 34) (w := (224 : Int32)) dX8_odds_31 rfl k_si_224 ?_
      refine x_istore (pc' := 36) (ls' := [.ref 45, .int x1, .int x2, .int (q24.1), .int (q24.1), .int (224 : Int32), w6]) dX8_odds_34 rfl rfl rfl ?_
      exact h
    · replace h := (if_neg c14).symm.trans h
      refine x_if_ne_f (pc' := 17) dX8_odds_14 (by decide) rfl c14 ?_
      refine x_ldc2_w (pc' := 20) dX8_odds_17 rfl ll_8_217 ?_
      exact x_lret dX8_odds_20 rfl ((tb_dL_ok _ _).trans h)
theorem MX8_odds {d : Nat} {x1 : Int32} {x2 : Int32} {S : tb_St} {r : Int64 × tb_St} (h : ((tb_cI d mX8_isTerm [.ref 45, .int x1] S).bind fun q2 => (if q2.1 = 0 then some ((-9223372036854775808 : Int64), q2.2) else (tb_cI d mX8_within [.int x2, .int (0 : Int32), .int (1 : Int32)] (q2.2)).bind fun q11 => (if ¬ q11.1 = 0 then (tb_cI d mX8_sum [.ref 45, .int x1, .int (1 : Int32)] (q11.2)).bind fun q24 => tb_E d mX8_odds tb_dL 36 [.ref 45, .int x1, .int x2, .int (q24.1), .int (q24.1), .int (224 : Int32), tb_jk] [] tb_S (q24.2) else some ((-9223372036854775808 : Int64), q11.2)))) = some r) : tb_cL (d + 1) mX8_odds [.ref 45, .int x1, .int x2] S = some r := tb_enL rfl rfl (BX8_odds_0 h)
theorem BX8_odds_36 {d : Nat} {x2 x3 x4 x5 : Int32} {w1 w6 : Value} {S : tb_St} {r : Int64 × tb_St} (h : ((if x5 = 0 then (if ¬ x2 = 0 then if x4 = 0 then none else some (((224 : Int32) / x4).toInt64, S) else if x4 = 0 then none else some ((x3 / x4).toInt64, S)) else if x5 = 0 then none else tb_E d mX8_odds tb_dL 36 [.ref 45, w1, .int x2, .int x3, .int x5, .int (tb_rem x4 x5), .int (tb_rem x4 x5)] [] tb_S S)) = some r) : tb_E d mX8_odds tb_dL 36 [.ref 45, w1, .int x2, .int x3, .int x4, .int x5, w6] [] tb_S S = some r := by
  refine x_iload (pc' := 38) dX8_odds_36 rfl rfl ?_
  by_cases c38 : x5 = 0
  · replace h := (if_pos c38).symm.trans h
    refine x_if_eq_t (pc' := 59) dX8_odds_38 (by decide) c38 ?_
    refine x_iload_n (pc' := 60) dX8_odds_59 rfl rfl ?_
    by_cases c60 : ¬ x2 = 0
    · replace h := (if_pos c60).symm.trans h
      refine x_if_ne_t (pc' := 71) dX8_odds_60 (by decide) c60 ?_
      refine x_sipush (pc' := 74) (w := (224 : Int32)) dX8_odds_71 rfl k_si_224 ?_
      refine x_iload (pc' := 76) dX8_odds_74 rfl rfl ?_
      by_cases c76 : x4 = 0
      · replace h := (if_pos c76).symm.trans h
        cases h
      · replace h := (if_neg c76).symm.trans h
        refine x_idiv (pc' := 77) dX8_odds_76 rfl c76 ?_
        refine x_i2l (pc' := 78) dX8_odds_77 rfl ?_
        exact x_lret dX8_odds_78 rfl ((tb_dL_ok _ _).trans h)
    · replace h := (if_neg c60).symm.trans h
      refine x_if_ne_f (pc' := 63) dX8_odds_60 (by decide) rfl c60 ?_
      refine x_iload_n (pc' := 64) dX8_odds_63 rfl rfl ?_
      refine x_iload (pc' := 66) dX8_odds_64 rfl rfl ?_
      by_cases c66 : x4 = 0
      · replace h := (if_pos c66).symm.trans h
        cases h
      · replace h := (if_neg c66).symm.trans h
        refine x_idiv (pc' := 67) dX8_odds_66 rfl c66 ?_
        refine x_i2l (pc' := 68) dX8_odds_67 rfl ?_
        refine x_goto (pc' := 78) dX8_odds_68 (by decide) ?_
        exact x_lret dX8_odds_78 rfl ((tb_dL_ok _ _).trans h)
  · replace h := (if_neg c38).symm.trans h
    refine x_if_eq_f (pc' := 41) dX8_odds_38 (by decide) rfl c38 ?_
    refine x_iload (pc' := 43) dX8_odds_41 rfl rfl ?_
    refine x_iload (pc' := 45) dX8_odds_43 rfl rfl ?_
    by_cases c45 : x5 = 0
    · replace h := (if_pos c45).symm.trans h
      cases h
    · replace h := (if_neg c45).symm.trans h
      refine x_irem (pc' := 46) dX8_odds_45 rfl c45 ?_
      refine x_istore (pc' := 48) (ls' := [.ref 45, w1, .int x2, .int x3, .int x4, .int x5, .int (tb_rem x4 x5)]) dX8_odds_46 rfl rfl rfl ?_
      refine x_iload (pc' := 50) dX8_odds_48 rfl rfl ?_
      refine x_istore (pc' := 52) (ls' := [.ref 45, w1, .int x2, .int x3, .int x5, .int x5, .int (tb_rem x4 x5)]) dX8_odds_50 rfl rfl rfl ?_
      refine x_iload (pc' := 54) dX8_odds_52 rfl rfl ?_
      refine x_istore (pc' := 56) (ls' := [.ref 45, w1, .int x2, .int x3, .int x5, .int (tb_rem x4 x5), .int (tb_rem x4 x5)]) dX8_odds_54 rfl rfl rfl ?_
      refine x_goto (pc' := 36) dX8_odds_56 (by decide) ?_
      exact h
/-! X7_odds (1,) -/
theorem BX7_odds_0 {d : Nat} {x1 x2 : Int32} {w3 : Value} {S : tb_St} {r : Int64 × tb_St} (h : ((tb_cI d mX5_has [.ref 2, .int x1] S).bind fun q5 => (if q5.1 = 0 then some ((-9223372036854775808 : Int64), q5.2) else (if x2 < 0 then some ((-9223372036854775808 : Int64), q5.2) else (if x2 ≤ (1 : Int32) then (tb_cI d mX7_covered [.ref 1, .int x1] (q5.2)).bind fun q26 => (if ¬ x2 = 0 then (tb_cI d mX7_inLowestTerms [.int (224 : Int32), .int (q26.1)] (q26.2)).bind fun q42 => some ((q42.1).toInt64, q42.2) else (tb_cI d mX7_inLowestTerms [.int (q26.1), .int (q26.1)] (q26.2)).bind fun q42 => some ((q42.1).toInt64, q42.2)) else some ((-9223372036854775808 : Int64), q5.2))))) = some r) : tb_E d mX7_odds tb_dL 0 [.ref 1, .int x1, .int x2, w3] [] tb_S S = some r := by
  refine x_aload_n (pc' := 1) dX7_odds_0 rfl rfl ?_
  refine x_getR (pc' := 4) dX7_odds_1 rfl lf_7_12 rfl sh_1 rfl ?_
  refine x_iload_n (pc' := 5) dX7_odds_4 rfl rfl ?_
  obtain ⟨q5, hq5, h⟩ := Option.bind_eq_some_iff.mp h
  refine x_virtI (pc' := 8) (o := 2) (as := [.int x1]) (rest := []) dX7_odds_5 rfl lm_7_80 rfl rfl rfl sh_2 rfl hq5 ?_
  by_cases c8 : q5.1 = 0
  · replace h := (if_pos c8).symm.trans h
    refine x_if_eq_t (pc' := 20) dX7_odds_8 (by decide) c8 ?_
    refine x_ldc2_w (pc' := 23) dX7_odds_20 rfl ll_7_164 ?_
    exact x_lret dX7_odds_23 rfl ((tb_dL_ok _ _).trans h)
  · replace h := (if_neg c8).symm.trans h
    refine x_if_eq_f (pc' := 11) dX7_odds_8 (by decide) rfl c8 ?_
    refine x_iload_n (pc' := 12) dX7_odds_11 rfl rfl ?_
    by_cases c12 : x2 < 0
    · replace h := (if_pos c12).symm.trans h
      refine x_if_lt_t (pc' := 20) dX7_odds_12 (by decide) c12 ?_
      refine x_ldc2_w (pc' := 23) dX7_odds_20 rfl ll_7_164 ?_
      exact x_lret dX7_odds_23 rfl ((tb_dL_ok _ _).trans h)
    · replace h := (if_neg c12).symm.trans h
      refine x_if_lt_f (pc' := 15) dX7_odds_12 (by decide) rfl c12 ?_
      refine x_iload_n (pc' := 16) dX7_odds_15 rfl rfl ?_
      refine x_iconst (pc' := 17) (w := (1 : Int32)) dX7_odds_16 rfl k_ic_1 ?_
      by_cases c17 : x2 ≤ (1 : Int32)
      · replace h := (if_pos c17).symm.trans h
        refine x_icmp_le_t (pc' := 24) dX7_odds_17 (by decide) c17 ?_
        refine x_aload_n (pc' := 25) dX7_odds_24 rfl rfl ?_
        refine x_iload_n (pc' := 26) dX7_odds_25 rfl rfl ?_
        obtain ⟨q26, hq26, h⟩ := Option.bind_eq_some_iff.mp h
        refine x_virtI (pc' := 29) (o := 1) (as := [.int x1]) (rest := []) dX7_odds_26 rfl lm_7_161 rfl rfl rfl sh_1 rfl hq26 ?_
        refine x_istore_n (pc' := 30) (ls' := [.ref 1, .int x1, .int x2, .int (q26.1)]) dX7_odds_29 rfl rfl rfl ?_
        refine x_iload_n (pc' := 31) dX7_odds_30 rfl rfl ?_
        by_cases c31 : ¬ x2 = 0
        · replace h := (if_pos c31).symm.trans h
          refine x_if_ne_t (pc' := 38) dX7_odds_31 (by decide) c31 ?_
          refine x_sipush (pc' := 41) (w := (224 : Int32)) dX7_odds_38 rfl k_si_224 ?_
          refine x_iload_n (pc' := 42) dX7_odds_41 rfl rfl ?_
          obtain ⟨q42, hq42, h⟩ := Option.bind_eq_some_iff.mp h
          refine x_statI (pc' := 45) (as := [.int (224 : Int32), .int (q26.1)]) (rest := []) dX7_odds_42 rfl lm_7_166 (by decide) rfl rfl rfl rfl hq42 ?_
          refine x_i2l (pc' := 46) dX7_odds_45 rfl ?_
          exact x_lret dX7_odds_46 rfl ((tb_dL_ok _ _).trans h)
        · replace h := (if_neg c31).symm.trans h
          refine x_if_ne_f (pc' := 34) dX7_odds_31 (by decide) rfl c31 ?_
          refine x_iload_n (pc' := 35) dX7_odds_34 rfl rfl ?_
          refine x_goto (pc' := 41) dX7_odds_35 (by decide) ?_
          refine x_iload_n (pc' := 42) dX7_odds_41 rfl rfl ?_
          obtain ⟨q42, hq42, h⟩ := Option.bind_eq_some_iff.mp h
          refine x_statI (pc' := 45) (as := [.int (q26.1), .int (q26.1)]) (rest := []) dX7_odds_42 rfl lm_7_166 (by decide) rfl rfl rfl rfl hq42 ?_
          refine x_i2l (pc' := 46) dX7_odds_45 rfl ?_
          exact x_lret dX7_odds_46 rfl ((tb_dL_ok _ _).trans h)
      · replace h := (if_neg c17).symm.trans h
        refine x_icmp_le_f (pc' := 20) dX7_odds_17 (by decide) rfl c17 ?_
        refine x_ldc2_w (pc' := 23) dX7_odds_20 rfl ll_7_164 ?_
        exact x_lret dX7_odds_23 rfl ((tb_dL_ok _ _).trans h)
theorem MX7_odds {d : Nat} {x1 : Int32} {x2 : Int32} {S : tb_St} {r : Int64 × tb_St} (h : ((tb_cI d mX5_has [.ref 2, .int x1] S).bind fun q5 => (if q5.1 = 0 then some ((-9223372036854775808 : Int64), q5.2) else (if x2 < 0 then some ((-9223372036854775808 : Int64), q5.2) else (if x2 ≤ (1 : Int32) then (tb_cI d mX7_covered [.ref 1, .int x1] (q5.2)).bind fun q26 => (if ¬ x2 = 0 then (tb_cI d mX7_inLowestTerms [.int (224 : Int32), .int (q26.1)] (q26.2)).bind fun q42 => some ((q42.1).toInt64, q42.2) else (tb_cI d mX7_inLowestTerms [.int (q26.1), .int (q26.1)] (q26.2)).bind fun q42 => some ((q42.1).toInt64, q42.2)) else some ((-9223372036854775808 : Int64), q5.2))))) = some r) : tb_cL (d + 1) mX7_odds [.ref 1, .int x1, .int x2] S = some r := tb_enL rfl rfl (BX7_odds_0 h)
/-! X8_sum (45,) -/
theorem BX8_sum_0 {d : Nat} {x1 x2 : Int32} {w3 w4 : Value} {S : tb_St} {r : Int32 × tb_St} (h : ((tb_cI d mX8_isTerm [.ref 45, .int x1] S).bind fun q2 => (if q2.1 = 0 then some ((-1 : Int32), q2.2) else (tb_cI d mX8_within [.int x2, .int (0 : Int32), .int (1 : Int32)] (q2.2)).bind fun q11 => (if ¬ q11.1 = 0 then (tb_cV d mX8_tells [.ref 45, .int x1, .ref 55] (tb_up (q11.2) 45 17 (-1 : Int32))).bind fun q30 => tb_E d mX8_sum tb_dI 38 [.ref 45, .int x1, .int x2, .int (0 : Int32), .int (0 : Int32)] [] tb_S q30 else some ((-1 : Int32), q11.2)))) = some r) : tb_E d mX8_sum tb_dI 0 [.ref 45, .int x1, .int x2, w3, w4] [] tb_S S = some r := by
  refine x_aload_n (pc' := 1) dX8_sum_0 rfl rfl ?_
  refine x_iload_n (pc' := 2) dX8_sum_1 rfl rfl ?_
  obtain ⟨q2, hq2, h⟩ := Option.bind_eq_some_iff.mp h
  refine x_virtI (pc' := 5) (o := 45) (as := [.int x1]) (rest := []) dX8_sum_2 rfl lm_8_109 rfl rfl rfl sh_45 rfl hq2 ?_
  by_cases c5 : q2.1 = 0
  · replace h := (if_pos c5).symm.trans h
    refine x_if_eq_t (pc' := 17) dX8_sum_5 (by decide) c5 ?_
    refine x_iconst (pc' := 18) (w := (-1 : Int32)) dX8_sum_17 rfl k_ic_m1 ?_
    exact x_iret dX8_sum_18 rfl ((tb_dI_ok _ _).trans h)
  · replace h := (if_neg c5).symm.trans h
    refine x_if_eq_f (pc' := 8) dX8_sum_5 (by decide) rfl c5 ?_
    refine x_iload_n (pc' := 9) dX8_sum_8 rfl rfl ?_
    refine x_iconst (pc' := 10) (w := (0 : Int32)) dX8_sum_9 rfl k_ic_0 ?_
    refine x_iconst (pc' := 11) (w := (1 : Int32)) dX8_sum_10 rfl k_ic_1 ?_
    obtain ⟨q11, hq11, h⟩ := Option.bind_eq_some_iff.mp h
    refine x_statI (pc' := 14) (as := [.int x2, .int (0 : Int32), .int (1 : Int32)]) (rest := []) dX8_sum_11 rfl lm_8_80 (by decide) rfl rfl rfl rfl hq11 ?_
    by_cases c14 : ¬ q11.1 = 0
    · replace h := (if_pos c14).symm.trans h
      refine x_if_ne_t (pc' := 19) dX8_sum_14 (by decide) c14 ?_
      refine x_aload_n (pc' := 20) dX8_sum_19 rfl rfl ?_
      refine x_iconst (pc' := 21) (w := (-1 : Int32)) dX8_sum_20 rfl k_ic_m1 ?_
      refine x_putI (pc' := 24) dX8_sum_21 rfl lf_8_194 (Or.inl rfl) sh_45 ?_
      refine x_aload_n (pc' := 25) dX8_sum_24 rfl rfl ?_
      refine x_iload_n (pc' := 26) dX8_sum_25 rfl rfl ?_
      refine x_aload_n (pc' := 27) dX8_sum_26 rfl rfl ?_
      refine x_getR (pc' := 30) dX8_sum_27 rfl lf_8_39 rfl sh_45 rfl ?_
      obtain ⟨q30, hq30, h⟩ := Option.bind_eq_some_iff.mp h
      refine x_virtV (pc' := 33) (o := 45) (as := [.int x1, .ref 55]) (rest := []) dX8_sum_30 rfl lm_8_213 rfl rfl rfl sh_45 rfl hq30 ?_
      refine x_iconst (pc' := 34) (w := (0 : Int32)) dX8_sum_33 rfl k_ic_0 ?_
      refine x_istore_n (pc' := 35) (ls' := [.ref 45, .int x1, .int x2, .int (0 : Int32), w4]) dX8_sum_34 rfl rfl rfl ?_
      refine x_iconst (pc' := 36) (w := (0 : Int32)) dX8_sum_35 rfl k_ic_0 ?_
      refine x_istore (pc' := 38) (ls' := [.ref 45, .int x1, .int x2, .int (0 : Int32), .int (0 : Int32)]) dX8_sum_36 rfl rfl rfl ?_
      exact h
    · replace h := (if_neg c14).symm.trans h
      refine x_if_ne_f (pc' := 17) dX8_sum_14 (by decide) rfl c14 ?_
      refine x_iconst (pc' := 18) (w := (-1 : Int32)) dX8_sum_17 rfl k_ic_m1 ?_
      exact x_iret dX8_sum_18 rfl ((tb_dI_ok _ _).trans h)
theorem MX8_sum {d : Nat} {x1 : Int32} {x2 : Int32} {S : tb_St} {r : Int32 × tb_St} (h : ((tb_cI d mX8_isTerm [.ref 45, .int x1] S).bind fun q2 => (if q2.1 = 0 then some ((-1 : Int32), q2.2) else (tb_cI d mX8_within [.int x2, .int (0 : Int32), .int (1 : Int32)] (q2.2)).bind fun q11 => (if ¬ q11.1 = 0 then (tb_cV d mX8_tells [.ref 45, .int x1, .ref 55] (tb_up (q11.2) 45 17 (-1 : Int32))).bind fun q30 => tb_E d mX8_sum tb_dI 38 [.ref 45, .int x1, .int x2, .int (0 : Int32), .int (0 : Int32)] [] tb_S q30 else some ((-1 : Int32), q11.2)))) = some r) : tb_cI (d + 1) mX8_sum [.ref 45, .int x1, .int x2] S = some r := tb_enI rfl rfl (BX8_sum_0 h)
theorem BX8_sum_38 {d : Nat} {x2 x3 x4 : Int32} {w1 : Value} {S : tb_St} {r : Int32 × tb_St} (h : ((if (224 : Int32) ≤ x4 then some (x3, S) else (tb_ix x4 224).bind fun j52 => (if S 55 j52 = (-5 : Int32) then tb_E d mX8_sum tb_dI 38 [.ref 45, w1, .int x2, .int x3, .int (x4 + (1 : Int32))] [] tb_S S else (if ¬ x2 = 0 then tb_E d mX8_sum tb_dI 38 [.ref 45, w1, .int x2, .int (x3 + (1 : Int32)), .int (x4 + (1 : Int32))] [] tb_S S else (tb_ix x4 224).bind fun j69 => tb_E d mX8_sum tb_dI 38 [.ref 45, w1, .int x2, .int (x3 + (S 55 j69)), .int (x4 + (1 : Int32))] [] tb_S S)))) = some r) : tb_E d mX8_sum tb_dI 38 [.ref 45, w1, .int x2, .int x3, .int x4] [] tb_S S = some r := by
  refine x_iload (pc' := 40) dX8_sum_38 rfl rfl ?_
  refine x_sipush (pc' := 43) (w := (224 : Int32)) dX8_sum_40 rfl k_si_224 ?_
  by_cases c43 : (224 : Int32) ≤ x4
  · replace h := (if_pos c43).symm.trans h
    refine x_icmp_ge_t (pc' := 82) dX8_sum_43 (by decide) c43 ?_
    refine x_iload_n (pc' := 83) dX8_sum_82 rfl rfl ?_
    exact x_iret dX8_sum_83 rfl ((tb_dI_ok _ _).trans h)
  · replace h := (if_neg c43).symm.trans h
    refine x_icmp_ge_f (pc' := 46) dX8_sum_43 (by decide) rfl c43 ?_
    refine x_aload_n (pc' := 47) dX8_sum_46 rfl rfl ?_
    refine x_getR (pc' := 50) dX8_sum_47 rfl lf_8_39 rfl sh_45 rfl ?_
    refine x_iload (pc' := 52) dX8_sum_50 rfl rfl ?_
    obtain ⟨j52, hj52, h⟩ := Option.bind_eq_some_iff.mp h
    refine x_iaload (pc' := 53) (v := S 55 j52) dX8_sum_52 rfl sh_55 hj52 rfl ?_
    refine x_bipush (pc' := 55) (w := (-5 : Int32)) dX8_sum_53 rfl k_bi_m5 ?_
    by_cases c55 : S 55 j52 = (-5 : Int32)
    · replace h := (if_pos c55).symm.trans h
      refine x_icmp_eq_t (pc' := 76) dX8_sum_55 (by decide) c55 ?_
      refine x_iinc (pc' := 79) (w := (1 : Int32)) (ls' := [.ref 45, w1, .int x2, .int x3, .int (x4 + (1 : Int32))]) dX8_sum_76 rfl rfl k_ic_1 rfl ?_
      refine x_goto (pc' := 38) dX8_sum_79 (by decide) ?_
      exact h
    · replace h := (if_neg c55).symm.trans h
      refine x_icmp_eq_f (pc' := 58) dX8_sum_55 (by decide) rfl c55 ?_
      refine x_iload_n (pc' := 59) dX8_sum_58 rfl rfl ?_
      refine x_iload_n (pc' := 60) dX8_sum_59 rfl rfl ?_
      by_cases c60 : ¬ x2 = 0
      · replace h := (if_pos c60).symm.trans h
        refine x_if_ne_t (pc' := 73) dX8_sum_60 (by decide) c60 ?_
        refine x_iconst (pc' := 74) (w := (1 : Int32)) dX8_sum_73 rfl k_ic_1 ?_
        refine x_iadd (pc' := 75) dX8_sum_74 rfl ?_
        refine x_istore_n (pc' := 76) (ls' := [.ref 45, w1, .int x2, .int (x3 + (1 : Int32)), .int x4]) dX8_sum_75 rfl rfl rfl ?_
        refine x_iinc (pc' := 79) (w := (1 : Int32)) (ls' := [.ref 45, w1, .int x2, .int (x3 + (1 : Int32)), .int (x4 + (1 : Int32))]) dX8_sum_76 rfl rfl k_ic_1 rfl ?_
        refine x_goto (pc' := 38) dX8_sum_79 (by decide) ?_
        exact h
      · replace h := (if_neg c60).symm.trans h
        refine x_if_ne_f (pc' := 63) dX8_sum_60 (by decide) rfl c60 ?_
        refine x_aload_n (pc' := 64) dX8_sum_63 rfl rfl ?_
        refine x_getR (pc' := 67) dX8_sum_64 rfl lf_8_39 rfl sh_45 rfl ?_
        refine x_iload (pc' := 69) dX8_sum_67 rfl rfl ?_
        obtain ⟨j69, hj69, h⟩ := Option.bind_eq_some_iff.mp h
        refine x_iaload (pc' := 70) (v := S 55 j69) dX8_sum_69 rfl sh_55 hj69 rfl ?_
        refine x_goto (pc' := 74) dX8_sum_70 (by decide) ?_
        refine x_iadd (pc' := 75) dX8_sum_74 rfl ?_
        refine x_istore_n (pc' := 76) (ls' := [.ref 45, w1, .int x2, .int (x3 + (S 55 j69)), .int x4]) dX8_sum_75 rfl rfl rfl ?_
        refine x_iinc (pc' := 79) (w := (1 : Int32)) (ls' := [.ref 45, w1, .int x2, .int (x3 + (S 55 j69)), .int (x4 + (1 : Int32))]) dX8_sum_76 rfl rfl k_ic_1 rfl ?_
        refine x_goto (pc' := 38) dX8_sum_79 (by decide) ?_
        exact h
/-! X7_sum (1,) -/
theorem BX7_sum_0 {d : Nat} {x1 x2 : Int32} {S : tb_St} {r : Int32 × tb_St} (h : ((tb_cI d mX5_has [.ref 2, .int x1] S).bind fun q5 => (if q5.1 = 0 then some ((-1 : Int32), q5.2) else (if x2 < 0 then some ((-1 : Int32), q5.2) else (if x2 ≤ (1 : Int32) then (if ¬ x2 = 0 then (tb_cI d mX7_covered [.ref 1, .int x1] (q5.2)).bind fun q36 => some (q36.1, q36.2) else (tb_cI d mX7_earned [.ref 1, .int x1] (q5.2)).bind fun q28 => some (q28.1, q28.2)) else some ((-1 : Int32), q5.2))))) = some r) : tb_E d mX7_sum tb_dI 0 [.ref 1, .int x1, .int x2] [] tb_S S = some r := by
  refine x_aload_n (pc' := 1) dX7_sum_0 rfl rfl ?_
  refine x_getR (pc' := 4) dX7_sum_1 rfl lf_7_12 rfl sh_1 rfl ?_
  refine x_iload_n (pc' := 5) dX7_sum_4 rfl rfl ?_
  obtain ⟨q5, hq5, h⟩ := Option.bind_eq_some_iff.mp h
  refine x_virtI (pc' := 8) (o := 2) (as := [.int x1]) (rest := []) dX7_sum_5 rfl lm_7_80 rfl rfl rfl sh_2 rfl hq5 ?_
  by_cases c8 : q5.1 = 0
  · replace h := (if_pos c8).symm.trans h
    refine x_if_eq_t (pc' := 20) dX7_sum_8 (by decide) c8 ?_
    refine x_iconst (pc' := 21) (w := (-1 : Int32)) dX7_sum_20 rfl k_ic_m1 ?_
    exact x_iret dX7_sum_21 rfl ((tb_dI_ok _ _).trans h)
  · replace h := (if_neg c8).symm.trans h
    refine x_if_eq_f (pc' := 11) dX7_sum_8 (by decide) rfl c8 ?_
    refine x_iload_n (pc' := 12) dX7_sum_11 rfl rfl ?_
    by_cases c12 : x2 < 0
    · replace h := (if_pos c12).symm.trans h
      refine x_if_lt_t (pc' := 20) dX7_sum_12 (by decide) c12 ?_
      refine x_iconst (pc' := 21) (w := (-1 : Int32)) dX7_sum_20 rfl k_ic_m1 ?_
      exact x_iret dX7_sum_21 rfl ((tb_dI_ok _ _).trans h)
    · replace h := (if_neg c12).symm.trans h
      refine x_if_lt_f (pc' := 15) dX7_sum_12 (by decide) rfl c12 ?_
      refine x_iload_n (pc' := 16) dX7_sum_15 rfl rfl ?_
      refine x_iconst (pc' := 17) (w := (1 : Int32)) dX7_sum_16 rfl k_ic_1 ?_
      by_cases c17 : x2 ≤ (1 : Int32)
      · replace h := (if_pos c17).symm.trans h
        refine x_icmp_le_t (pc' := 22) dX7_sum_17 (by decide) c17 ?_
        refine x_iload_n (pc' := 23) dX7_sum_22 rfl rfl ?_
        by_cases c23 : ¬ x2 = 0
        · replace h := (if_pos c23).symm.trans h
          refine x_if_ne_t (pc' := 34) dX7_sum_23 (by decide) c23 ?_
          refine x_aload_n (pc' := 35) dX7_sum_34 rfl rfl ?_
          refine x_iload_n (pc' := 36) dX7_sum_35 rfl rfl ?_
          obtain ⟨q36, hq36, h⟩ := Option.bind_eq_some_iff.mp h
          refine x_virtI (pc' := 39) (o := 1) (as := [.int x1]) (rest := []) dX7_sum_36 rfl lm_7_161 rfl rfl rfl sh_1 rfl hq36 ?_
          exact x_iret dX7_sum_39 rfl ((tb_dI_ok _ _).trans h)
        · replace h := (if_neg c23).symm.trans h
          refine x_if_ne_f (pc' := 26) dX7_sum_23 (by decide) rfl c23 ?_
          refine x_aload_n (pc' := 27) dX7_sum_26 rfl rfl ?_
          refine x_iload_n (pc' := 28) dX7_sum_27 rfl rfl ?_
          obtain ⟨q28, hq28, h⟩ := Option.bind_eq_some_iff.mp h
          refine x_virtI (pc' := 31) (o := 1) (as := [.int x1]) (rest := []) dX7_sum_28 rfl lm_7_158 rfl rfl rfl sh_1 rfl hq28 ?_
          refine x_goto (pc' := 39) dX7_sum_31 (by decide) ?_
          exact x_iret dX7_sum_39 rfl ((tb_dI_ok _ _).trans h)
      · replace h := (if_neg c17).symm.trans h
        refine x_icmp_le_f (pc' := 20) dX7_sum_17 (by decide) rfl c17 ?_
        refine x_iconst (pc' := 21) (w := (-1 : Int32)) dX7_sum_20 rfl k_ic_m1 ?_
        exact x_iret dX7_sum_21 rfl ((tb_dI_ok _ _).trans h)
theorem MX7_sum {d : Nat} {x1 : Int32} {x2 : Int32} {S : tb_St} {r : Int32 × tb_St} (h : ((tb_cI d mX5_has [.ref 2, .int x1] S).bind fun q5 => (if q5.1 = 0 then some ((-1 : Int32), q5.2) else (if x2 < 0 then some ((-1 : Int32), q5.2) else (if x2 ≤ (1 : Int32) then (if ¬ x2 = 0 then (tb_cI d mX7_covered [.ref 1, .int x1] (q5.2)).bind fun q36 => some (q36.1, q36.2) else (tb_cI d mX7_earned [.ref 1, .int x1] (q5.2)).bind fun q28 => some (q28.1, q28.2)) else some ((-1 : Int32), q5.2))))) = some r) : tb_cI (d + 1) mX7_sum [.ref 1, .int x1, .int x2] S = some r := tb_enI rfl rfl (BX7_sum_0 h)
/-! X8_says (45,) -/
theorem BX8_says_0 {d : Nat} {x1 x2 : Int32} {S : tb_St} {r : Int32 × tb_St} (h : ((tb_cI d mX8_isTerm [.ref 45, .int x1] (tb_up S 45 17 (-1 : Int32))).bind fun q7 => (if q7.1 = 0 then some ((-1 : Int32), q7.2) else (tb_cI d mX8_isCase [.int x2] (q7.2)).bind fun q14 => (if q14.1 = 0 then some ((-1 : Int32), q14.2) else (tb_cI d mX8_sayOf [.ref 45, .int x1, .int x2] (q14.2)).bind fun q23 => some (q23.1, q23.2)))) = some r) : tb_E d mX8_says tb_dI 0 [.ref 45, .int x1, .int x2] [] tb_S S = some r := by
  refine x_aload_n (pc' := 1) dX8_says_0 rfl rfl ?_
  refine x_iconst (pc' := 2) (w := (-1 : Int32)) dX8_says_1 rfl k_ic_m1 ?_
  refine x_putI (pc' := 5) dX8_says_2 rfl lf_8_194 (Or.inl rfl) sh_45 ?_
  refine x_aload_n (pc' := 6) dX8_says_5 rfl rfl ?_
  refine x_iload_n (pc' := 7) dX8_says_6 rfl rfl ?_
  obtain ⟨q7, hq7, h⟩ := Option.bind_eq_some_iff.mp h
  refine x_virtI (pc' := 10) (o := 45) (as := [.int x1]) (rest := []) dX8_says_7 rfl lm_8_109 rfl rfl rfl sh_45 rfl hq7 ?_
  by_cases c10 : q7.1 = 0
  · replace h := (if_pos c10).symm.trans h
    refine x_if_eq_t (pc' := 29) dX8_says_10 (by decide) c10 ?_
    refine x_iconst (pc' := 30) (w := (-1 : Int32)) dX8_says_29 rfl k_ic_m1 ?_
    exact x_iret dX8_says_30 rfl ((tb_dI_ok _ _).trans h)
  · replace h := (if_neg c10).symm.trans h
    refine x_if_eq_f (pc' := 13) dX8_says_10 (by decide) rfl c10 ?_
    refine x_iload_n (pc' := 14) dX8_says_13 rfl rfl ?_
    obtain ⟨q14, hq14, h⟩ := Option.bind_eq_some_iff.mp h
    refine x_statI (pc' := 17) (as := [.int x2]) (rest := []) dX8_says_14 rfl lm_8_210 (by decide) rfl rfl rfl rfl hq14 ?_
    by_cases c17 : q14.1 = 0
    · replace h := (if_pos c17).symm.trans h
      refine x_if_eq_t (pc' := 29) dX8_says_17 (by decide) c17 ?_
      refine x_iconst (pc' := 30) (w := (-1 : Int32)) dX8_says_29 rfl k_ic_m1 ?_
      exact x_iret dX8_says_30 rfl ((tb_dI_ok _ _).trans h)
    · replace h := (if_neg c17).symm.trans h
      refine x_if_eq_f (pc' := 20) dX8_says_17 (by decide) rfl c17 ?_
      refine x_aload_n (pc' := 21) dX8_says_20 rfl rfl ?_
      refine x_iload_n (pc' := 22) dX8_says_21 rfl rfl ?_
      refine x_iload_n (pc' := 23) dX8_says_22 rfl rfl ?_
      obtain ⟨q23, hq23, h⟩ := Option.bind_eq_some_iff.mp h
      refine x_virtI (pc' := 26) (o := 45) (as := [.int x1, .int x2]) (rest := []) dX8_says_23 rfl lm_8_207 rfl rfl rfl sh_45 rfl hq23 ?_
      refine x_goto (pc' := 30) dX8_says_26 (by decide) ?_
      exact x_iret dX8_says_30 rfl ((tb_dI_ok _ _).trans h)
theorem MX8_says {d : Nat} {x1 : Int32} {x2 : Int32} {S : tb_St} {r : Int32 × tb_St} (h : ((tb_cI d mX8_isTerm [.ref 45, .int x1] (tb_up S 45 17 (-1 : Int32))).bind fun q7 => (if q7.1 = 0 then some ((-1 : Int32), q7.2) else (tb_cI d mX8_isCase [.int x2] (q7.2)).bind fun q14 => (if q14.1 = 0 then some ((-1 : Int32), q14.2) else (tb_cI d mX8_sayOf [.ref 45, .int x1, .int x2] (q14.2)).bind fun q23 => some (q23.1, q23.2)))) = some r) : tb_cI (d + 1) mX8_says [.ref 45, .int x1, .int x2] S = some r := tb_enI rfl rfl (BX8_says_0 h)
/-! X7_says (1,) -/
theorem BX7_says_0 {d : Nat} {x1 x2 : Int32} {S : tb_St} {r : Int32 × tb_St} (h : ((tb_cI d mX5_has [.ref 2, .int x1] S).bind fun q5 => (if q5.1 = 0 then some ((-1 : Int32), q5.2) else (tb_cI d mX7_isCase [.int x2] (q5.2)).bind fun q12 => (if ¬ q12.1 = 0 then (tb_cV d mX6_unfold [.ref 24, .int x1] (q12.2)).bind fun q25 => (tb_cI d mX6_answer [.ref 24, .int x2] q25).bind fun q33 => some (q33.1, q33.2) else some ((-1 : Int32), q12.2)))) = some r) : tb_E d mX7_says tb_dI 0 [.ref 1, .int x1, .int x2] [] tb_S S = some r := by
  refine x_aload_n (pc' := 1) dX7_says_0 rfl rfl ?_
  refine x_getR (pc' := 4) dX7_says_1 rfl lf_7_12 rfl sh_1 rfl ?_
  refine x_iload_n (pc' := 5) dX7_says_4 rfl rfl ?_
  obtain ⟨q5, hq5, h⟩ := Option.bind_eq_some_iff.mp h
  refine x_virtI (pc' := 8) (o := 2) (as := [.int x1]) (rest := []) dX7_says_5 rfl lm_7_80 rfl rfl rfl sh_2 rfl hq5 ?_
  by_cases c8 : q5.1 = 0
  · replace h := (if_pos c8).symm.trans h
    refine x_if_eq_t (pc' := 18) dX7_says_8 (by decide) c8 ?_
    refine x_iconst (pc' := 19) (w := (-1 : Int32)) dX7_says_18 rfl k_ic_m1 ?_
    exact x_iret dX7_says_19 rfl ((tb_dI_ok _ _).trans h)
  · replace h := (if_neg c8).symm.trans h
    refine x_if_eq_f (pc' := 11) dX7_says_8 (by decide) rfl c8 ?_
    refine x_iload_n (pc' := 12) dX7_says_11 rfl rfl ?_
    obtain ⟨q12, hq12, h⟩ := Option.bind_eq_some_iff.mp h
    refine x_statI (pc' := 15) (as := [.int x2]) (rest := []) dX7_says_12 rfl lm_7_149 (by decide) rfl rfl rfl rfl hq12 ?_
    by_cases c15 : ¬ q12.1 = 0
    · replace h := (if_pos c15).symm.trans h
      refine x_if_ne_t (pc' := 20) dX7_says_15 (by decide) c15 ?_
      refine x_aload_n (pc' := 21) dX7_says_20 rfl rfl ?_
      refine x_getR (pc' := 24) dX7_says_21 rfl lf_7_40 rfl sh_1 rfl ?_
      refine x_iload_n (pc' := 25) dX7_says_24 rfl rfl ?_
      obtain ⟨q25, hq25, h⟩ := Option.bind_eq_some_iff.mp h
      refine x_virtV (pc' := 28) (o := 24) (as := [.int x1]) (rest := []) dX7_says_25 rfl lm_7_152 rfl rfl rfl sh_24 rfl hq25 ?_
      refine x_aload_n (pc' := 29) dX7_says_28 rfl rfl ?_
      refine x_getR (pc' := 32) dX7_says_29 rfl lf_7_40 rfl sh_1 rfl ?_
      refine x_iload_n (pc' := 33) dX7_says_32 rfl rfl ?_
      obtain ⟨q33, hq33, h⟩ := Option.bind_eq_some_iff.mp h
      refine x_virtI (pc' := 36) (o := 24) (as := [.int x2]) (rest := []) dX7_says_33 rfl lm_7_155 rfl rfl rfl sh_24 rfl hq33 ?_
      exact x_iret dX7_says_36 rfl ((tb_dI_ok _ _).trans h)
    · replace h := (if_neg c15).symm.trans h
      refine x_if_ne_f (pc' := 18) dX7_says_15 (by decide) rfl c15 ?_
      refine x_iconst (pc' := 19) (w := (-1 : Int32)) dX7_says_18 rfl k_ic_m1 ?_
      exact x_iret dX7_says_19 rfl ((tb_dI_ok _ _).trans h)
theorem MX7_says {d : Nat} {x1 : Int32} {x2 : Int32} {S : tb_St} {r : Int32 × tb_St} (h : ((tb_cI d mX5_has [.ref 2, .int x1] S).bind fun q5 => (if q5.1 = 0 then some ((-1 : Int32), q5.2) else (tb_cI d mX7_isCase [.int x2] (q5.2)).bind fun q12 => (if ¬ q12.1 = 0 then (tb_cV d mX6_unfold [.ref 24, .int x1] (q12.2)).bind fun q25 => (tb_cI d mX6_answer [.ref 24, .int x2] q25).bind fun q33 => some (q33.1, q33.2) else some ((-1 : Int32), q12.2)))) = some r) : tb_cI (d + 1) mX7_says [.ref 1, .int x1, .int x2] S = some r := tb_enI rfl rfl (BX7_says_0 h)
/-! X8_paper (45,) -/
theorem BX8_paper_0 {d : Nat} {x1 : Int32} {S : tb_St} {r : Int32 × tb_St} (h : ((tb_cI d mX8_within [.int x1, .int (0 : Int32), .int ((S 45 30) - (1 : Int32))] S).bind fun q8 => (if q8.1 = 0 then some ((-1 : Int32), q8.2) else (tb_ix x1 700).bind fun j19 => some ((q8.2) 62 j19, q8.2))) = some r) : tb_E d mX8_paper tb_dI 0 [.ref 45, .int x1] [] tb_S S = some r := by
  refine x_iload_n (pc' := 1) dX8_paper_0 rfl rfl ?_
  refine x_iconst (pc' := 2) (w := (0 : Int32)) dX8_paper_1 rfl k_ic_0 ?_
  refine x_aload_n (pc' := 3) dX8_paper_2 rfl rfl ?_
  refine x_getI (pc' := 6) (v := S 45 30) dX8_paper_3 rfl lf_8_172 rfl sh_45 rfl ?_
  refine x_iconst (pc' := 7) (w := (1 : Int32)) dX8_paper_6 rfl k_ic_1 ?_
  refine x_isub (pc' := 8) dX8_paper_7 rfl ?_
  obtain ⟨q8, hq8, h⟩ := Option.bind_eq_some_iff.mp h
  refine x_statI (pc' := 11) (as := [.int x1, .int (0 : Int32), .int ((S 45 30) - (1 : Int32))]) (rest := []) dX8_paper_8 rfl lm_8_80 (by decide) rfl rfl rfl rfl hq8 ?_
  by_cases c11 : q8.1 = 0
  · replace h := (if_pos c11).symm.trans h
    refine x_if_eq_t (pc' := 23) dX8_paper_11 (by decide) c11 ?_
    refine x_iconst (pc' := 24) (w := (-1 : Int32)) dX8_paper_23 rfl k_ic_m1 ?_
    exact x_iret dX8_paper_24 rfl ((tb_dI_ok _ _).trans h)
  · replace h := (if_neg c11).symm.trans h
    refine x_if_eq_f (pc' := 14) dX8_paper_11 (by decide) rfl c11 ?_
    refine x_aload_n (pc' := 15) dX8_paper_14 rfl rfl ?_
    refine x_getR (pc' := 18) dX8_paper_15 rfl lf_8_65 rfl sh_45 rfl ?_
    refine x_iload_n (pc' := 19) dX8_paper_18 rfl rfl ?_
    obtain ⟨j19, hj19, h⟩ := Option.bind_eq_some_iff.mp h
    refine x_iaload (pc' := 20) (v := (q8.2) 62 j19) dX8_paper_19 rfl sh_62 hj19 rfl ?_
    refine x_goto (pc' := 24) dX8_paper_20 (by decide) ?_
    exact x_iret dX8_paper_24 rfl ((tb_dI_ok _ _).trans h)
theorem MX8_paper {d : Nat} {x1 : Int32} {S : tb_St} {r : Int32 × tb_St} (h : ((tb_cI d mX8_within [.int x1, .int (0 : Int32), .int ((S 45 30) - (1 : Int32))] S).bind fun q8 => (if q8.1 = 0 then some ((-1 : Int32), q8.2) else (tb_ix x1 700).bind fun j19 => some ((q8.2) 62 j19, q8.2))) = some r) : tb_cI (d + 1) mX8_paper [.ref 45, .int x1] S = some r := tb_enI rfl rfl (BX8_paper_0 h)
/-! X7_paper (1,) -/
theorem BX7_paper_0 {d : Nat} {x1 : Int32} {S : tb_St} {r : Int32 × tb_St} (h : ((if x1 < 0 then some ((-1 : Int32), S) else (if S 36 2 ≤ x1 then some ((-1 : Int32), S) else (tb_ix x1 470).bind fun j23 => some (S 37 j23, S)))) = some r) : tb_E d mX7_paper tb_dI 0 [.ref 1, .int x1] [] tb_S S = some r := by
  refine x_iload_n (pc' := 1) dX7_paper_0 rfl rfl ?_
  by_cases c1 : x1 < 0
  · replace h := (if_pos c1).symm.trans h
    refine x_if_lt_t (pc' := 27) dX7_paper_1 (by decide) c1 ?_
    refine x_iconst (pc' := 28) (w := (-1 : Int32)) dX7_paper_27 rfl k_ic_m1 ?_
    exact x_iret dX7_paper_28 rfl ((tb_dI_ok _ _).trans h)
  · replace h := (if_neg c1).symm.trans h
    refine x_if_lt_f (pc' := 4) dX7_paper_1 (by decide) rfl c1 ?_
    refine x_iload_n (pc' := 5) dX7_paper_4 rfl rfl ?_
    refine x_aload_n (pc' := 6) dX7_paper_5 rfl rfl ?_
    refine x_getR (pc' := 9) dX7_paper_6 rfl lf_7_61 rfl sh_1 rfl ?_
    refine x_getI (pc' := 12) (v := S 36 2) dX7_paper_9 rfl lf_7_142 rfl sh_36 rfl ?_
    by_cases c12 : S 36 2 ≤ x1
    · replace h := (if_pos c12).symm.trans h
      refine x_icmp_ge_t (pc' := 27) dX7_paper_12 (by decide) c12 ?_
      refine x_iconst (pc' := 28) (w := (-1 : Int32)) dX7_paper_27 rfl k_ic_m1 ?_
      exact x_iret dX7_paper_28 rfl ((tb_dI_ok _ _).trans h)
    · replace h := (if_neg c12).symm.trans h
      refine x_icmp_ge_f (pc' := 15) dX7_paper_12 (by decide) rfl c12 ?_
      refine x_aload_n (pc' := 16) dX7_paper_15 rfl rfl ?_
      refine x_getR (pc' := 19) dX7_paper_16 rfl lf_7_61 rfl sh_1 rfl ?_
      refine x_getR (pc' := 22) dX7_paper_19 rfl lf_7_145 rfl sh_36 rfl ?_
      refine x_iload_n (pc' := 23) dX7_paper_22 rfl rfl ?_
      obtain ⟨j23, hj23, h⟩ := Option.bind_eq_some_iff.mp h
      refine x_baload (pc' := 24) (v := S 37 j23) dX7_paper_23 rfl (by decide) sh_37 hj23 rfl ?_
      refine x_goto (pc' := 28) dX7_paper_24 (by decide) ?_
      exact x_iret dX7_paper_28 rfl ((tb_dI_ok _ _).trans h)
theorem MX7_paper {d : Nat} {x1 : Int32} {S : tb_St} {r : Int32 × tb_St} (h : ((if x1 < 0 then some ((-1 : Int32), S) else (if S 36 2 ≤ x1 then some ((-1 : Int32), S) else (tb_ix x1 470).bind fun j23 => some (S 37 j23, S)))) = some r) : tb_cI (d + 1) mX7_paper [.ref 1, .int x1] S = some r := tb_enI rfl rfl (BX7_paper_0 h)
/-! X8_spell (45,) -/
theorem BX8_spell_0 {d : Nat} {x1 : Int32} {S : tb_St} {r : Int32 × tb_St} (h : ((tb_cI d mX8_isTerm [.ref 45, .int x1] S).bind fun q2 => (if ¬ q2.1 = 0 then (tb_cV d mX8_spells [.ref 45, .int x1] (tb_up (q2.2) 45 30 (0 : Int32))).bind fun q17 => some (q17 45 30, q17) else some ((-1 : Int32), q2.2))) = some r) : tb_E d mX8_spell tb_dI 0 [.ref 45, .int x1] [] tb_S S = some r := by
  refine x_aload_n (pc' := 1) dX8_spell_0 rfl rfl ?_
  refine x_iload_n (pc' := 2) dX8_spell_1 rfl rfl ?_
  obtain ⟨q2, hq2, h⟩ := Option.bind_eq_some_iff.mp h
  refine x_virtI (pc' := 5) (o := 45) (as := [.int x1]) (rest := []) dX8_spell_2 rfl lm_8_109 rfl rfl rfl sh_45 rfl hq2 ?_
  by_cases c5 : ¬ q2.1 = 0
  · replace h := (if_pos c5).symm.trans h
    refine x_if_ne_t (pc' := 10) dX8_spell_5 (by decide) c5 ?_
    refine x_aload_n (pc' := 11) dX8_spell_10 rfl rfl ?_
    refine x_iconst (pc' := 12) (w := (0 : Int32)) dX8_spell_11 rfl k_ic_0 ?_
    refine x_putI (pc' := 15) dX8_spell_12 rfl lf_8_172 (Or.inl rfl) sh_45 ?_
    refine x_aload_n (pc' := 16) dX8_spell_15 rfl rfl ?_
    refine x_iload_n (pc' := 17) dX8_spell_16 rfl rfl ?_
    obtain ⟨q17, hq17, h⟩ := Option.bind_eq_some_iff.mp h
    refine x_virtV (pc' := 20) (o := 45) (as := [.int x1]) (rest := []) dX8_spell_17 rfl lm_8_185 rfl rfl rfl sh_45 rfl hq17 ?_
    refine x_aload_n (pc' := 21) dX8_spell_20 rfl rfl ?_
    refine x_getI (pc' := 24) (v := q17 45 30) dX8_spell_21 rfl lf_8_172 rfl sh_45 rfl ?_
    exact x_iret dX8_spell_24 rfl ((tb_dI_ok _ _).trans h)
  · replace h := (if_neg c5).symm.trans h
    refine x_if_ne_f (pc' := 8) dX8_spell_5 (by decide) rfl c5 ?_
    refine x_iconst (pc' := 9) (w := (-1 : Int32)) dX8_spell_8 rfl k_ic_m1 ?_
    exact x_iret dX8_spell_9 rfl ((tb_dI_ok _ _).trans h)
theorem MX8_spell {d : Nat} {x1 : Int32} {S : tb_St} {r : Int32 × tb_St} (h : ((tb_cI d mX8_isTerm [.ref 45, .int x1] S).bind fun q2 => (if ¬ q2.1 = 0 then (tb_cV d mX8_spells [.ref 45, .int x1] (tb_up (q2.2) 45 30 (0 : Int32))).bind fun q17 => some (q17 45 30, q17) else some ((-1 : Int32), q2.2))) = some r) : tb_cI (d + 1) mX8_spell [.ref 45, .int x1] S = some r := tb_enI rfl rfl (BX8_spell_0 h)
/-! X7_spell (1,) -/
theorem BX7_spell_0 {d : Nat} {x1 : Int32} {S : tb_St} {r : Int32 × tb_St} (h : ((tb_cI d mX5_has [.ref 2, .int x1] S).bind fun q5 => (if ¬ q5.1 = 0 then (tb_cI d mX2_write [.ref 36, .int x1] (q5.2)).bind fun q18 => some (q18.1, q18.2) else some ((-1 : Int32), q5.2))) = some r) : tb_E d mX7_spell tb_dI 0 [.ref 1, .int x1] [] tb_S S = some r := by
  refine x_aload_n (pc' := 1) dX7_spell_0 rfl rfl ?_
  refine x_getR (pc' := 4) dX7_spell_1 rfl lf_7_12 rfl sh_1 rfl ?_
  refine x_iload_n (pc' := 5) dX7_spell_4 rfl rfl ?_
  obtain ⟨q5, hq5, h⟩ := Option.bind_eq_some_iff.mp h
  refine x_virtI (pc' := 8) (o := 2) (as := [.int x1]) (rest := []) dX7_spell_5 rfl lm_7_80 rfl rfl rfl sh_2 rfl hq5 ?_
  by_cases c8 : ¬ q5.1 = 0
  · replace h := (if_pos c8).symm.trans h
    refine x_if_ne_t (pc' := 13) dX7_spell_8 (by decide) c8 ?_
    refine x_aload_n (pc' := 14) dX7_spell_13 rfl rfl ?_
    refine x_getR (pc' := 17) dX7_spell_14 rfl lf_7_61 rfl sh_1 rfl ?_
    refine x_iload_n (pc' := 18) dX7_spell_17 rfl rfl ?_
    obtain ⟨q18, hq18, h⟩ := Option.bind_eq_some_iff.mp h
    refine x_virtI (pc' := 21) (o := 36) (as := [.int x1]) (rest := []) dX7_spell_18 rfl lm_7_139 rfl rfl rfl sh_36 rfl hq18 ?_
    exact x_iret dX7_spell_21 rfl ((tb_dI_ok _ _).trans h)
  · replace h := (if_neg c8).symm.trans h
    refine x_if_ne_f (pc' := 11) dX7_spell_8 (by decide) rfl c8 ?_
    refine x_iconst (pc' := 12) (w := (-1 : Int32)) dX7_spell_11 rfl k_ic_m1 ?_
    exact x_iret dX7_spell_12 rfl ((tb_dI_ok _ _).trans h)
theorem MX7_spell {d : Nat} {x1 : Int32} {S : tb_St} {r : Int32 × tb_St} (h : ((tb_cI d mX5_has [.ref 2, .int x1] S).bind fun q5 => (if ¬ q5.1 = 0 then (tb_cI d mX2_write [.ref 36, .int x1] (q5.2)).bind fun q18 => some (q18.1, q18.2) else some ((-1 : Int32), q5.2))) = some r) : tb_cI (d + 1) mX7_spell [.ref 1, .int x1] S = some r := tb_enI rfl rfl (BX7_spell_0 h)
/-! X8_taken (45,) -/
theorem BX8_taken_0 {d : Nat} {x1 x2 : Int32} {w3 : Value} {S : tb_St} {r : Int32 × tb_St} (h : ((tb_cI d mX8_isTerm [.ref 45, .int x1] S).bind fun q2 => (if q2.1 = 0 then some ((-1 : Int32), q2.2) else (tb_cI d mX8_within [.int x2, .int (0 : Int32), .int (7 : Int32)] (q2.2)).bind fun q12 => (if ¬ q12.1 = 0 then (tb_ix x1 96).bind fun j25 => (if (q12.2) 46 j25 = x2 then tb_E d mX8_taken tb_dI 67 [.ref 45, .int x1, .int x2, w3] [.int (1 : Int32)] tb_S (q12.2) else (if ¬ x2 = (2 : Int32) then tb_E d mX8_taken tb_dI 46 [.ref 45, .int x1, .int x2, w3] [] tb_S (q12.2) else (tb_ix x1 96).bind fun j40 => (if (q12.2) 46 j40 = (6 : Int32) then tb_E d mX8_taken tb_dI 67 [.ref 45, .int x1, .int x2, w3] [.int (1 : Int32)] tb_S (q12.2) else tb_E d mX8_taken tb_dI 46 [.ref 45, .int x1, .int x2, w3] [] tb_S (q12.2)))) else some ((-1 : Int32), q12.2)))) = some r) : tb_E d mX8_taken tb_dI 0 [.ref 45, .int x1, .int x2, w3] [] tb_S S = some r := by
  refine x_aload_n (pc' := 1) dX8_taken_0 rfl rfl ?_
  refine x_iload_n (pc' := 2) dX8_taken_1 rfl rfl ?_
  obtain ⟨q2, hq2, h⟩ := Option.bind_eq_some_iff.mp h
  refine x_virtI (pc' := 5) (o := 45) (as := [.int x1]) (rest := []) dX8_taken_2 rfl lm_8_109 rfl rfl rfl sh_45 rfl hq2 ?_
  by_cases c5 : q2.1 = 0
  · replace h := (if_pos c5).symm.trans h
    refine x_if_eq_t (pc' := 18) dX8_taken_5 (by decide) c5 ?_
    refine x_iconst (pc' := 19) (w := (-1 : Int32)) dX8_taken_18 rfl k_ic_m1 ?_
    exact x_iret dX8_taken_19 rfl ((tb_dI_ok _ _).trans h)
  · replace h := (if_neg c5).symm.trans h
    refine x_if_eq_f (pc' := 8) dX8_taken_5 (by decide) rfl c5 ?_
    refine x_iload_n (pc' := 9) dX8_taken_8 rfl rfl ?_
    refine x_iconst (pc' := 10) (w := (0 : Int32)) dX8_taken_9 rfl k_ic_0 ?_
    refine x_bipush (pc' := 12) (w := (7 : Int32)) dX8_taken_10 rfl k_bi_7 ?_
    obtain ⟨q12, hq12, h⟩ := Option.bind_eq_some_iff.mp h
    refine x_statI (pc' := 15) (as := [.int x2, .int (0 : Int32), .int (7 : Int32)]) (rest := []) dX8_taken_12 rfl lm_8_80 (by decide) rfl rfl rfl rfl hq12 ?_
    by_cases c15 : ¬ q12.1 = 0
    · replace h := (if_pos c15).symm.trans h
      refine x_if_ne_t (pc' := 20) dX8_taken_15 (by decide) c15 ?_
      refine x_aload_n (pc' := 21) dX8_taken_20 rfl rfl ?_
      refine x_getR (pc' := 24) dX8_taken_21 rfl lf_8_9 rfl sh_45 rfl ?_
      refine x_iload_n (pc' := 25) dX8_taken_24 rfl rfl ?_
      obtain ⟨j25, hj25, h⟩ := Option.bind_eq_some_iff.mp h
      refine x_iaload (pc' := 26) (v := (q12.2) 46 j25) dX8_taken_25 rfl sh_46 hj25 rfl ?_
      refine x_iload_n (pc' := 27) dX8_taken_26 rfl rfl ?_
      by_cases c27 : (q12.2) 46 j25 = x2
      · replace h := (if_pos c27).symm.trans h
        refine x_icmp_eq_t (pc' := 62) dX8_taken_27 (by decide) c27 ?_
        refine x_iconst (pc' := 63) (w := (1 : Int32)) dX8_taken_62 rfl k_ic_1 ?_
        refine x_goto (pc' := 67) dX8_taken_63 (by decide) ?_
        exact h
      · replace h := (if_neg c27).symm.trans h
        refine x_icmp_eq_f (pc' := 30) dX8_taken_27 (by decide) rfl c27 ?_
        refine x_iload_n (pc' := 31) dX8_taken_30 rfl rfl ?_
        refine x_iconst (pc' := 32) (w := (2 : Int32)) dX8_taken_31 rfl k_ic_2 ?_
        by_cases c32 : ¬ x2 = (2 : Int32)
        · replace h := (if_pos c32).symm.trans h
          refine x_icmp_ne_t (pc' := 46) dX8_taken_32 (by decide) c32 ?_
          exact h
        · replace h := (if_neg c32).symm.trans h
          refine x_icmp_ne_f (pc' := 35) dX8_taken_32 (by decide) rfl c32 ?_
          refine x_aload_n (pc' := 36) dX8_taken_35 rfl rfl ?_
          refine x_getR (pc' := 39) dX8_taken_36 rfl lf_8_9 rfl sh_45 rfl ?_
          refine x_iload_n (pc' := 40) dX8_taken_39 rfl rfl ?_
          obtain ⟨j40, hj40, h⟩ := Option.bind_eq_some_iff.mp h
          refine x_iaload (pc' := 41) (v := (q12.2) 46 j40) dX8_taken_40 rfl sh_46 hj40 rfl ?_
          refine x_bipush (pc' := 43) (w := (6 : Int32)) dX8_taken_41 rfl k_bi_6 ?_
          by_cases c43 : (q12.2) 46 j40 = (6 : Int32)
          · replace h := (if_pos c43).symm.trans h
            refine x_icmp_eq_t (pc' := 62) dX8_taken_43 (by decide) c43 ?_
            refine x_iconst (pc' := 63) (w := (1 : Int32)) dX8_taken_62 rfl k_ic_1 ?_
            refine x_goto (pc' := 67) dX8_taken_63 (by decide) ?_
            exact h
          · replace h := (if_neg c43).symm.trans h
            refine x_icmp_eq_f (pc' := 46) dX8_taken_43 (by decide) rfl c43 ?_
            exact h
    · replace h := (if_neg c15).symm.trans h
      refine x_if_ne_f (pc' := 18) dX8_taken_15 (by decide) rfl c15 ?_
      refine x_iconst (pc' := 19) (w := (-1 : Int32)) dX8_taken_18 rfl k_ic_m1 ?_
      exact x_iret dX8_taken_19 rfl ((tb_dI_ok _ _).trans h)
theorem MX8_taken {d : Nat} {x1 : Int32} {x2 : Int32} {S : tb_St} {r : Int32 × tb_St} (h : ((tb_cI d mX8_isTerm [.ref 45, .int x1] S).bind fun q2 => (if q2.1 = 0 then some ((-1 : Int32), q2.2) else (tb_cI d mX8_within [.int x2, .int (0 : Int32), .int (7 : Int32)] (q2.2)).bind fun q12 => (if ¬ q12.1 = 0 then (tb_ix x1 96).bind fun j25 => (if (q12.2) 46 j25 = x2 then tb_E d mX8_taken tb_dI 67 [.ref 45, .int x1, .int x2, tb_jk] [.int (1 : Int32)] tb_S (q12.2) else (if ¬ x2 = (2 : Int32) then tb_E d mX8_taken tb_dI 46 [.ref 45, .int x1, .int x2, tb_jk] [] tb_S (q12.2) else (tb_ix x1 96).bind fun j40 => (if (q12.2) 46 j40 = (6 : Int32) then tb_E d mX8_taken tb_dI 67 [.ref 45, .int x1, .int x2, tb_jk] [.int (1 : Int32)] tb_S (q12.2) else tb_E d mX8_taken tb_dI 46 [.ref 45, .int x1, .int x2, tb_jk] [] tb_S (q12.2)))) else some ((-1 : Int32), q12.2)))) = some r) : tb_cI (d + 1) mX8_taken [.ref 45, .int x1, .int x2] S = some r := tb_enI rfl rfl (BX8_taken_0 h)
theorem BX8_taken_46 {d : Nat} {x1 x2 : Int32} {w3 : Value} {S : tb_St} {r : Int32 × tb_St} (h : ((if ¬ x2 = (3 : Int32) then tb_E d mX8_taken tb_dI 67 [.ref 45, .int x1, .int x2, w3] [.int (0 : Int32)] tb_S S else (tb_ix x1 96).bind fun j56 => (if ¬ S 46 j56 = (7 : Int32) then tb_E d mX8_taken tb_dI 67 [.ref 45, .int x1, .int x2, w3] [.int (0 : Int32)] tb_S S else tb_E d mX8_taken tb_dI 67 [.ref 45, .int x1, .int x2, w3] [.int (1 : Int32)] tb_S S))) = some r) : tb_E d mX8_taken tb_dI 46 [.ref 45, .int x1, .int x2, w3] [] tb_S S = some r := by
  refine x_iload_n (pc' := 47) dX8_taken_46 rfl rfl ?_
  refine x_iconst (pc' := 48) (w := (3 : Int32)) dX8_taken_47 rfl k_ic_3 ?_
  by_cases c48 : ¬ x2 = (3 : Int32)
  · replace h := (if_pos c48).symm.trans h
    refine x_icmp_ne_t (pc' := 66) dX8_taken_48 (by decide) c48 ?_
    refine x_iconst (pc' := 67) (w := (0 : Int32)) dX8_taken_66 rfl k_ic_0 ?_
    exact h
  · replace h := (if_neg c48).symm.trans h
    refine x_icmp_ne_f (pc' := 51) dX8_taken_48 (by decide) rfl c48 ?_
    refine x_aload_n (pc' := 52) dX8_taken_51 rfl rfl ?_
    refine x_getR (pc' := 55) dX8_taken_52 rfl lf_8_9 rfl sh_45 rfl ?_
    refine x_iload_n (pc' := 56) dX8_taken_55 rfl rfl ?_
    obtain ⟨j56, hj56, h⟩ := Option.bind_eq_some_iff.mp h
    refine x_iaload (pc' := 57) (v := S 46 j56) dX8_taken_56 rfl sh_46 hj56 rfl ?_
    refine x_bipush (pc' := 59) (w := (7 : Int32)) dX8_taken_57 rfl k_bi_7 ?_
    by_cases c59 : ¬ S 46 j56 = (7 : Int32)
    · replace h := (if_pos c59).symm.trans h
      refine x_icmp_ne_t (pc' := 66) dX8_taken_59 (by decide) c59 ?_
      refine x_iconst (pc' := 67) (w := (0 : Int32)) dX8_taken_66 rfl k_ic_0 ?_
      exact h
    · replace h := (if_neg c59).symm.trans h
      refine x_icmp_ne_f (pc' := 62) dX8_taken_59 (by decide) rfl c59 ?_
      refine x_iconst (pc' := 63) (w := (1 : Int32)) dX8_taken_62 rfl k_ic_1 ?_
      refine x_goto (pc' := 67) dX8_taken_63 (by decide) ?_
      exact h
theorem BX8_taken_67 {d : Nat} {x1 s0 : Int32} {w2 w3 : Value} {S : tb_St} {r : Int32 × tb_St} (h : ((if s0 = 0 then some ((-12 : Int32), S) else (tb_ix x1 96).bind fun j77 => some (S 51 j77, S))) = some r) : tb_E d mX8_taken tb_dI 67 [.ref 45, .int x1, w2, w3] [.int s0] tb_S S = some r := by
  refine x_istore_n (pc' := 68) (ls' := [.ref 45, .int x1, w2, .int s0]) dX8_taken_67 rfl rfl rfl ?_
  refine x_iload_n (pc' := 69) dX8_taken_68 rfl rfl ?_
  by_cases c69 : s0 = 0
  · replace h := (if_pos c69).symm.trans h
    refine x_if_eq_t (pc' := 81) dX8_taken_69 (by decide) c69 ?_
    refine x_bipush (pc' := 83) (w := (-12 : Int32)) dX8_taken_81 rfl k_bi_m12 ?_
    exact x_iret dX8_taken_83 rfl ((tb_dI_ok _ _).trans h)
  · replace h := (if_neg c69).symm.trans h
    refine x_if_eq_f (pc' := 72) dX8_taken_69 (by decide) rfl c69 ?_
    refine x_aload_n (pc' := 73) dX8_taken_72 rfl rfl ?_
    refine x_getR (pc' := 76) dX8_taken_73 rfl lf_8_27 rfl sh_45 rfl ?_
    refine x_iload_n (pc' := 77) dX8_taken_76 rfl rfl ?_
    obtain ⟨j77, hj77, h⟩ := Option.bind_eq_some_iff.mp h
    refine x_iaload (pc' := 78) (v := S 51 j77) dX8_taken_77 rfl sh_51 hj77 rfl ?_
    refine x_goto (pc' := 83) dX8_taken_78 (by decide) ?_
    exact x_iret dX8_taken_83 rfl ((tb_dI_ok _ _).trans h)
/-! X7_taken (1,) -/
theorem BX7_taken_0 {d : Nat} {x1 x2 : Int32} {w3 : Value} {S : tb_St} {r : Int32 × tb_St} (h : ((tb_cI d mX5_has [.ref 2, .int x1] S).bind fun q5 => (if q5.1 = 0 then some ((-1 : Int32), q5.2) else (if x2 < 0 then some ((-1 : Int32), q5.2) else (if x2 < (8 : Int32) then (tb_ix x1 24).bind fun j31 => (if (q5.2) 3 j31 = x2 then (tb_ix x1 24).bind fun j54 => some ((q5.2) 8 j54, q5.2) else (tb_cI d mX7_kindAbove [.int ((q5.2) 3 j31)] (q5.2)).bind fun q39 => (if ¬ q39.1 = x2 then some ((-12 : Int32), q39.2) else (tb_ix x1 24).bind fun j54 => some ((q39.2) 8 j54, q39.2))) else some ((-1 : Int32), q5.2))))) = some r) : tb_E d mX7_taken tb_dI 0 [.ref 1, .int x1, .int x2, w3] [] tb_S S = some r := by
  refine x_aload_n (pc' := 1) dX7_taken_0 rfl rfl ?_
  refine x_getR (pc' := 4) dX7_taken_1 rfl lf_7_12 rfl sh_1 rfl ?_
  refine x_iload_n (pc' := 5) dX7_taken_4 rfl rfl ?_
  obtain ⟨q5, hq5, h⟩ := Option.bind_eq_some_iff.mp h
  refine x_virtI (pc' := 8) (o := 2) (as := [.int x1]) (rest := []) dX7_taken_5 rfl lm_7_80 rfl rfl rfl sh_2 rfl hq5 ?_
  by_cases c8 : q5.1 = 0
  · replace h := (if_pos c8).symm.trans h
    refine x_if_eq_t (pc' := 21) dX7_taken_8 (by decide) c8 ?_
    refine x_iconst (pc' := 22) (w := (-1 : Int32)) dX7_taken_21 rfl k_ic_m1 ?_
    exact x_iret dX7_taken_22 rfl ((tb_dI_ok _ _).trans h)
  · replace h := (if_neg c8).symm.trans h
    refine x_if_eq_f (pc' := 11) dX7_taken_8 (by decide) rfl c8 ?_
    refine x_iload_n (pc' := 12) dX7_taken_11 rfl rfl ?_
    by_cases c12 : x2 < 0
    · replace h := (if_pos c12).symm.trans h
      refine x_if_lt_t (pc' := 21) dX7_taken_12 (by decide) c12 ?_
      refine x_iconst (pc' := 22) (w := (-1 : Int32)) dX7_taken_21 rfl k_ic_m1 ?_
      exact x_iret dX7_taken_22 rfl ((tb_dI_ok _ _).trans h)
    · replace h := (if_neg c12).symm.trans h
      refine x_if_lt_f (pc' := 15) dX7_taken_12 (by decide) rfl c12 ?_
      refine x_iload_n (pc' := 16) dX7_taken_15 rfl rfl ?_
      refine x_bipush (pc' := 18) (w := (8 : Int32)) dX7_taken_16 rfl k_bi_8 ?_
      by_cases c18 : x2 < (8 : Int32)
      · replace h := (if_pos c18).symm.trans h
        refine x_icmp_lt_t (pc' := 23) dX7_taken_18 (by decide) c18 ?_
        refine x_aload_n (pc' := 24) dX7_taken_23 rfl rfl ?_
        refine x_getR (pc' := 27) dX7_taken_24 rfl lf_7_12 rfl sh_1 rfl ?_
        refine x_getR (pc' := 30) dX7_taken_27 rfl lf_7_115 rfl sh_2 rfl ?_
        refine x_iload_n (pc' := 31) dX7_taken_30 rfl rfl ?_
        obtain ⟨j31, hj31, h⟩ := Option.bind_eq_some_iff.mp h
        refine x_iaload (pc' := 32) (v := (q5.2) 3 j31) dX7_taken_31 rfl sh_3 hj31 rfl ?_
        refine x_istore_n (pc' := 33) (ls' := [.ref 1, .int x1, .int x2, .int ((q5.2) 3 j31)]) dX7_taken_32 rfl rfl rfl ?_
        refine x_iload_n (pc' := 34) dX7_taken_33 rfl rfl ?_
        refine x_iload_n (pc' := 35) dX7_taken_34 rfl rfl ?_
        by_cases c35 : (q5.2) 3 j31 = x2
        · replace h := (if_pos c35).symm.trans h
          refine x_icmp_eq_t (pc' := 46) dX7_taken_35 (by decide) c35 ?_
          refine x_aload_n (pc' := 47) dX7_taken_46 rfl rfl ?_
          refine x_getR (pc' := 50) dX7_taken_47 rfl lf_7_12 rfl sh_1 rfl ?_
          refine x_getR (pc' := 53) dX7_taken_50 rfl lf_7_127 rfl sh_2 rfl ?_
          refine x_iload_n (pc' := 54) dX7_taken_53 rfl rfl ?_
          obtain ⟨j54, hj54, h⟩ := Option.bind_eq_some_iff.mp h
          refine x_iaload (pc' := 55) (v := (q5.2) 8 j54) dX7_taken_54 rfl sh_8 hj54 rfl ?_
          refine x_goto (pc' := 60) dX7_taken_55 (by decide) ?_
          exact x_iret dX7_taken_60 rfl ((tb_dI_ok _ _).trans h)
        · replace h := (if_neg c35).symm.trans h
          refine x_icmp_eq_f (pc' := 38) dX7_taken_35 (by decide) rfl c35 ?_
          refine x_iload_n (pc' := 39) dX7_taken_38 rfl rfl ?_
          obtain ⟨q39, hq39, h⟩ := Option.bind_eq_some_iff.mp h
          refine x_statI (pc' := 42) (as := [.int ((q5.2) 3 j31)]) (rest := []) dX7_taken_39 rfl lm_7_136 (by decide) rfl rfl rfl rfl hq39 ?_
          refine x_iload_n (pc' := 43) dX7_taken_42 rfl rfl ?_
          by_cases c43 : ¬ q39.1 = x2
          · replace h := (if_pos c43).symm.trans h
            refine x_icmp_ne_t (pc' := 58) dX7_taken_43 (by decide) c43 ?_
            refine x_bipush (pc' := 60) (w := (-12 : Int32)) dX7_taken_58 rfl k_bi_m12 ?_
            exact x_iret dX7_taken_60 rfl ((tb_dI_ok _ _).trans h)
          · replace h := (if_neg c43).symm.trans h
            refine x_icmp_ne_f (pc' := 46) dX7_taken_43 (by decide) rfl c43 ?_
            refine x_aload_n (pc' := 47) dX7_taken_46 rfl rfl ?_
            refine x_getR (pc' := 50) dX7_taken_47 rfl lf_7_12 rfl sh_1 rfl ?_
            refine x_getR (pc' := 53) dX7_taken_50 rfl lf_7_127 rfl sh_2 rfl ?_
            refine x_iload_n (pc' := 54) dX7_taken_53 rfl rfl ?_
            obtain ⟨j54, hj54, h⟩ := Option.bind_eq_some_iff.mp h
            refine x_iaload (pc' := 55) (v := (q39.2) 8 j54) dX7_taken_54 rfl sh_8 hj54 rfl ?_
            refine x_goto (pc' := 60) dX7_taken_55 (by decide) ?_
            exact x_iret dX7_taken_60 rfl ((tb_dI_ok _ _).trans h)
      · replace h := (if_neg c18).symm.trans h
        refine x_icmp_lt_f (pc' := 21) dX7_taken_18 (by decide) rfl c18 ?_
        refine x_iconst (pc' := 22) (w := (-1 : Int32)) dX7_taken_21 rfl k_ic_m1 ?_
        exact x_iret dX7_taken_22 rfl ((tb_dI_ok _ _).trans h)
theorem MX7_taken {d : Nat} {x1 : Int32} {x2 : Int32} {S : tb_St} {r : Int32 × tb_St} (h : ((tb_cI d mX5_has [.ref 2, .int x1] S).bind fun q5 => (if q5.1 = 0 then some ((-1 : Int32), q5.2) else (if x2 < 0 then some ((-1 : Int32), q5.2) else (if x2 < (8 : Int32) then (tb_ix x1 24).bind fun j31 => (if (q5.2) 3 j31 = x2 then (tb_ix x1 24).bind fun j54 => some ((q5.2) 8 j54, q5.2) else (tb_cI d mX7_kindAbove [.int ((q5.2) 3 j31)] (q5.2)).bind fun q39 => (if ¬ q39.1 = x2 then some ((-12 : Int32), q39.2) else (tb_ix x1 24).bind fun j54 => some ((q39.2) 8 j54, q39.2))) else some ((-1 : Int32), q5.2))))) = some r) : tb_cI (d + 1) mX7_taken [.ref 1, .int x1, .int x2] S = some r := tb_enI rfl rfl (BX7_taken_0 h)
/-! X8_of (45,) -/
theorem BX8_of_0 {d : Nat} {x1 x2 : Int32} {S : tb_St} {r : Int32 × tb_St} (h : ((tb_cI d mX8_isTerm [.ref 45, .int x1] S).bind fun q2 => (if ¬ q2.1 = 0 then (if x2 = (0 : Int32) then (tb_ix x1 96).bind fun j57 => some ((q2.2) 46 j57, q2.2) else (if x2 = (1 : Int32) then (tb_ix x1 96).bind fun j64 => some ((q2.2) 47 j64, q2.2) else (if x2 = (2 : Int32) then (tb_ix x1 96).bind fun j71 => some ((q2.2) 48 j71, q2.2) else (if x2 = (3 : Int32) then (tb_ix x1 96).bind fun j78 => some ((q2.2) 49 j78, q2.2) else (if x2 = (4 : Int32) then (tb_ix x1 96).bind fun j85 => some ((q2.2) 51 j85, q2.2) else (if x2 = (5 : Int32) then (tb_ix x1 96).bind fun j92 => some ((q2.2) 52 j92, q2.2) else (if x2 = (6 : Int32) then (tb_ix x1 96).bind fun j99 => some ((q2.2) 50 j99, q2.2) else some ((-1 : Int32), q2.2)))))))) else some ((-1 : Int32), q2.2))) = some r) : tb_E d mX8_of tb_dI 0 [.ref 45, .int x1, .int x2] [] tb_S S = some r := by
  refine x_aload_n (pc' := 1) dX8_of_0 rfl rfl ?_
  refine x_iload_n (pc' := 2) dX8_of_1 rfl rfl ?_
  obtain ⟨q2, hq2, h⟩ := Option.bind_eq_some_iff.mp h
  refine x_virtI (pc' := 5) (o := 45) (as := [.int x1]) (rest := []) dX8_of_2 rfl lm_8_109 rfl rfl rfl sh_45 rfl hq2 ?_
  by_cases c5 : ¬ q2.1 = 0
  · replace h := (if_pos c5).symm.trans h
    refine x_if_ne_t (pc' := 10) dX8_of_5 (by decide) c5 ?_
    refine x_iload_n (pc' := 11) dX8_of_10 rfl rfl ?_
    by_cases c11_0 : x2 = (0 : Int32)
    · replace h := (if_pos c11_0).symm.trans h
      refine x_tsw_in (pc' := 52) (w := (0 : Int32)) (off := 41) dX8_of_11 c11_0 (by decide) (by decide) (by decide) (by decide) ?_
      refine x_aload_n (pc' := 53) dX8_of_52 rfl rfl ?_
      refine x_getR (pc' := 56) dX8_of_53 rfl lf_8_9 rfl sh_45 rfl ?_
      refine x_iload_n (pc' := 57) dX8_of_56 rfl rfl ?_
      obtain ⟨j57, hj57, h⟩ := Option.bind_eq_some_iff.mp h
      refine x_iaload (pc' := 58) (v := (q2.2) 46 j57) dX8_of_57 rfl sh_46 hj57 rfl ?_
      exact x_iret dX8_of_58 rfl ((tb_dI_ok _ _).trans h)
    · replace h := (if_neg c11_0).symm.trans h
      by_cases c11_1 : x2 = (1 : Int32)
      · replace h := (if_pos c11_1).symm.trans h
        refine x_tsw_in (pc' := 59) (w := (1 : Int32)) (off := 48) dX8_of_11 c11_1 (by decide) (by decide) (by decide) (by decide) ?_
        refine x_aload_n (pc' := 60) dX8_of_59 rfl rfl ?_
        refine x_getR (pc' := 63) dX8_of_60 rfl lf_8_15 rfl sh_45 rfl ?_
        refine x_iload_n (pc' := 64) dX8_of_63 rfl rfl ?_
        obtain ⟨j64, hj64, h⟩ := Option.bind_eq_some_iff.mp h
        refine x_iaload (pc' := 65) (v := (q2.2) 47 j64) dX8_of_64 rfl sh_47 hj64 rfl ?_
        exact x_iret dX8_of_65 rfl ((tb_dI_ok _ _).trans h)
      · replace h := (if_neg c11_1).symm.trans h
        by_cases c11_2 : x2 = (2 : Int32)
        · replace h := (if_pos c11_2).symm.trans h
          refine x_tsw_in (pc' := 66) (w := (2 : Int32)) (off := 55) dX8_of_11 c11_2 (by decide) (by decide) (by decide) (by decide) ?_
          refine x_aload_n (pc' := 67) dX8_of_66 rfl rfl ?_
          refine x_getR (pc' := 70) dX8_of_67 rfl lf_8_18 rfl sh_45 rfl ?_
          refine x_iload_n (pc' := 71) dX8_of_70 rfl rfl ?_
          obtain ⟨j71, hj71, h⟩ := Option.bind_eq_some_iff.mp h
          refine x_iaload (pc' := 72) (v := (q2.2) 48 j71) dX8_of_71 rfl sh_48 hj71 rfl ?_
          exact x_iret dX8_of_72 rfl ((tb_dI_ok _ _).trans h)
        · replace h := (if_neg c11_2).symm.trans h
          by_cases c11_3 : x2 = (3 : Int32)
          · replace h := (if_pos c11_3).symm.trans h
            refine x_tsw_in (pc' := 73) (w := (3 : Int32)) (off := 62) dX8_of_11 c11_3 (by decide) (by decide) (by decide) (by decide) ?_
            refine x_aload_n (pc' := 74) dX8_of_73 rfl rfl ?_
            refine x_getR (pc' := 77) dX8_of_74 rfl lf_8_21 rfl sh_45 rfl ?_
            refine x_iload_n (pc' := 78) dX8_of_77 rfl rfl ?_
            obtain ⟨j78, hj78, h⟩ := Option.bind_eq_some_iff.mp h
            refine x_iaload (pc' := 79) (v := (q2.2) 49 j78) dX8_of_78 rfl sh_49 hj78 rfl ?_
            exact x_iret dX8_of_79 rfl ((tb_dI_ok _ _).trans h)
          · replace h := (if_neg c11_3).symm.trans h
            by_cases c11_4 : x2 = (4 : Int32)
            · replace h := (if_pos c11_4).symm.trans h
              refine x_tsw_in (pc' := 80) (w := (4 : Int32)) (off := 69) dX8_of_11 c11_4 (by decide) (by decide) (by decide) (by decide) ?_
              refine x_aload_n (pc' := 81) dX8_of_80 rfl rfl ?_
              refine x_getR (pc' := 84) dX8_of_81 rfl lf_8_27 rfl sh_45 rfl ?_
              refine x_iload_n (pc' := 85) dX8_of_84 rfl rfl ?_
              obtain ⟨j85, hj85, h⟩ := Option.bind_eq_some_iff.mp h
              refine x_iaload (pc' := 86) (v := (q2.2) 51 j85) dX8_of_85 rfl sh_51 hj85 rfl ?_
              exact x_iret dX8_of_86 rfl ((tb_dI_ok _ _).trans h)
            · replace h := (if_neg c11_4).symm.trans h
              by_cases c11_5 : x2 = (5 : Int32)
              · replace h := (if_pos c11_5).symm.trans h
                refine x_tsw_in (pc' := 87) (w := (5 : Int32)) (off := 76) dX8_of_11 c11_5 (by decide) (by decide) (by decide) (by decide) ?_
                refine x_aload_n (pc' := 88) dX8_of_87 rfl rfl ?_
                refine x_getR (pc' := 91) dX8_of_88 rfl lf_8_30 rfl sh_45 rfl ?_
                refine x_iload_n (pc' := 92) dX8_of_91 rfl rfl ?_
                obtain ⟨j92, hj92, h⟩ := Option.bind_eq_some_iff.mp h
                refine x_iaload (pc' := 93) (v := (q2.2) 52 j92) dX8_of_92 rfl sh_52 hj92 rfl ?_
                exact x_iret dX8_of_93 rfl ((tb_dI_ok _ _).trans h)
              · replace h := (if_neg c11_5).symm.trans h
                by_cases c11_6 : x2 = (6 : Int32)
                · replace h := (if_pos c11_6).symm.trans h
                  refine x_tsw_in (pc' := 94) (w := (6 : Int32)) (off := 83) dX8_of_11 c11_6 (by decide) (by decide) (by decide) (by decide) ?_
                  refine x_aload_n (pc' := 95) dX8_of_94 rfl rfl ?_
                  refine x_getR (pc' := 98) dX8_of_95 rfl lf_8_24 rfl sh_45 rfl ?_
                  refine x_iload_n (pc' := 99) dX8_of_98 rfl rfl ?_
                  obtain ⟨j99, hj99, h⟩ := Option.bind_eq_some_iff.mp h
                  refine x_iaload (pc' := 100) (v := (q2.2) 50 j99) dX8_of_99 rfl sh_50 hj99 rfl ?_
                  exact x_iret dX8_of_100 rfl ((tb_dI_ok _ _).trans h)
                · replace h := (if_neg c11_6).symm.trans h
                  refine x_tsw_out (pc' := 101) dX8_of_11 (fun k0 g1 g2 g3 => ?_) (by decide) ?_
                  · obtain rfl | rfl | rfl | rfl | rfl | rfl | rfl : k0 = 0 ∨ k0 = 1 ∨ k0 = 2 ∨ k0 = 3 ∨ k0 = 4 ∨ k0 = 5 ∨ k0 = 6 := by omega
                    · exact absurd (Int32.toInt_inj.mp (g3.trans (by decide +kernel : (0 : Int) = (0 : Int32).toInt))) c11_0
                    · exact absurd (Int32.toInt_inj.mp (g3.trans (by decide +kernel : (1 : Int) = (1 : Int32).toInt))) c11_1
                    · exact absurd (Int32.toInt_inj.mp (g3.trans (by decide +kernel : (2 : Int) = (2 : Int32).toInt))) c11_2
                    · exact absurd (Int32.toInt_inj.mp (g3.trans (by decide +kernel : (3 : Int) = (3 : Int32).toInt))) c11_3
                    · exact absurd (Int32.toInt_inj.mp (g3.trans (by decide +kernel : (4 : Int) = (4 : Int32).toInt))) c11_4
                    · exact absurd (Int32.toInt_inj.mp (g3.trans (by decide +kernel : (5 : Int) = (5 : Int32).toInt))) c11_5
                    · exact absurd (Int32.toInt_inj.mp (g3.trans (by decide +kernel : (6 : Int) = (6 : Int32).toInt))) c11_6
                  · refine x_iconst (pc' := 102) (w := (-1 : Int32)) dX8_of_101 rfl k_ic_m1 ?_
                    exact x_iret dX8_of_102 rfl ((tb_dI_ok _ _).trans h)
  · replace h := (if_neg c5).symm.trans h
    refine x_if_ne_f (pc' := 8) dX8_of_5 (by decide) rfl c5 ?_
    refine x_iconst (pc' := 9) (w := (-1 : Int32)) dX8_of_8 rfl k_ic_m1 ?_
    exact x_iret dX8_of_9 rfl ((tb_dI_ok _ _).trans h)
theorem MX8_of {d : Nat} {x1 : Int32} {x2 : Int32} {S : tb_St} {r : Int32 × tb_St} (h : ((tb_cI d mX8_isTerm [.ref 45, .int x1] S).bind fun q2 => (if ¬ q2.1 = 0 then (if x2 = (0 : Int32) then (tb_ix x1 96).bind fun j57 => some ((q2.2) 46 j57, q2.2) else (if x2 = (1 : Int32) then (tb_ix x1 96).bind fun j64 => some ((q2.2) 47 j64, q2.2) else (if x2 = (2 : Int32) then (tb_ix x1 96).bind fun j71 => some ((q2.2) 48 j71, q2.2) else (if x2 = (3 : Int32) then (tb_ix x1 96).bind fun j78 => some ((q2.2) 49 j78, q2.2) else (if x2 = (4 : Int32) then (tb_ix x1 96).bind fun j85 => some ((q2.2) 51 j85, q2.2) else (if x2 = (5 : Int32) then (tb_ix x1 96).bind fun j92 => some ((q2.2) 52 j92, q2.2) else (if x2 = (6 : Int32) then (tb_ix x1 96).bind fun j99 => some ((q2.2) 50 j99, q2.2) else some ((-1 : Int32), q2.2)))))))) else some ((-1 : Int32), q2.2))) = some r) : tb_cI (d + 1) mX8_of [.ref 45, .int x1, .int x2] S = some r := tb_enI rfl rfl (BX8_of_0 h)
/-! X7_of (1,) -/
theorem BX7_of_0 {d : Nat} {x1 x2 : Int32} {S : tb_St} {r : Int32 × tb_St} (h : ((tb_cI d mX5_has [.ref 2, .int x1] S).bind fun q5 => (if ¬ q5.1 = 0 then (if x2 = (0 : Int32) then (tb_ix x1 24).bind fun j64 => some ((q5.2) 3 j64, q5.2) else (if x2 = (1 : Int32) then (tb_ix x1 24).bind fun j74 => some ((q5.2) 4 j74, q5.2) else (if x2 = (2 : Int32) then (tb_ix x1 24).bind fun j84 => some ((q5.2) 6 j84, q5.2) else (if x2 = (3 : Int32) then (tb_ix x1 24).bind fun j94 => some ((q5.2) 7 j94, q5.2) else (if x2 = (4 : Int32) then (tb_ix x1 24).bind fun j104 => some ((q5.2) 8 j104, q5.2) else (if x2 = (5 : Int32) then (tb_ix x1 24).bind fun j114 => some ((q5.2) 9 j114, q5.2) else (if x2 = (6 : Int32) then (tb_ix x1 24).bind fun j124 => some ((q5.2) 5 j124, q5.2) else some ((-1 : Int32), q5.2)))))))) else some ((-1 : Int32), q5.2))) = some r) : tb_E d mX7_of tb_dI 0 [.ref 1, .int x1, .int x2] [] tb_S S = some r := by
  refine x_aload_n (pc' := 1) dX7_of_0 rfl rfl ?_
  refine x_getR (pc' := 4) dX7_of_1 rfl lf_7_12 rfl sh_1 rfl ?_
  refine x_iload_n (pc' := 5) dX7_of_4 rfl rfl ?_
  obtain ⟨q5, hq5, h⟩ := Option.bind_eq_some_iff.mp h
  refine x_virtI (pc' := 8) (o := 2) (as := [.int x1]) (rest := []) dX7_of_5 rfl lm_7_80 rfl rfl rfl sh_2 rfl hq5 ?_
  by_cases c8 : ¬ q5.1 = 0
  · replace h := (if_pos c8).symm.trans h
    refine x_if_ne_t (pc' := 13) dX7_of_8 (by decide) c8 ?_
    refine x_iload_n (pc' := 14) dX7_of_13 rfl rfl ?_
    by_cases c14_0 : x2 = (0 : Int32)
    · replace h := (if_pos c14_0).symm.trans h
      refine x_tsw_in (pc' := 56) (w := (0 : Int32)) (off := 42) dX7_of_14 c14_0 (by decide) (by decide) (by decide) (by decide) ?_
      refine x_aload_n (pc' := 57) dX7_of_56 rfl rfl ?_
      refine x_getR (pc' := 60) dX7_of_57 rfl lf_7_12 rfl sh_1 rfl ?_
      refine x_getR (pc' := 63) dX7_of_60 rfl lf_7_115 rfl sh_2 rfl ?_
      refine x_iload_n (pc' := 64) dX7_of_63 rfl rfl ?_
      obtain ⟨j64, hj64, h⟩ := Option.bind_eq_some_iff.mp h
      refine x_iaload (pc' := 65) (v := (q5.2) 3 j64) dX7_of_64 rfl sh_3 hj64 rfl ?_
      exact x_iret dX7_of_65 rfl ((tb_dI_ok _ _).trans h)
    · replace h := (if_neg c14_0).symm.trans h
      by_cases c14_1 : x2 = (1 : Int32)
      · replace h := (if_pos c14_1).symm.trans h
        refine x_tsw_in (pc' := 66) (w := (1 : Int32)) (off := 52) dX7_of_14 c14_1 (by decide) (by decide) (by decide) (by decide) ?_
        refine x_aload_n (pc' := 67) dX7_of_66 rfl rfl ?_
        refine x_getR (pc' := 70) dX7_of_67 rfl lf_7_12 rfl sh_1 rfl ?_
        refine x_getR (pc' := 73) dX7_of_70 rfl lf_7_118 rfl sh_2 rfl ?_
        refine x_iload_n (pc' := 74) dX7_of_73 rfl rfl ?_
        obtain ⟨j74, hj74, h⟩ := Option.bind_eq_some_iff.mp h
        refine x_iaload (pc' := 75) (v := (q5.2) 4 j74) dX7_of_74 rfl sh_4 hj74 rfl ?_
        exact x_iret dX7_of_75 rfl ((tb_dI_ok _ _).trans h)
      · replace h := (if_neg c14_1).symm.trans h
        by_cases c14_2 : x2 = (2 : Int32)
        · replace h := (if_pos c14_2).symm.trans h
          refine x_tsw_in (pc' := 76) (w := (2 : Int32)) (off := 62) dX7_of_14 c14_2 (by decide) (by decide) (by decide) (by decide) ?_
          refine x_aload_n (pc' := 77) dX7_of_76 rfl rfl ?_
          refine x_getR (pc' := 80) dX7_of_77 rfl lf_7_12 rfl sh_1 rfl ?_
          refine x_getR (pc' := 83) dX7_of_80 rfl lf_7_121 rfl sh_2 rfl ?_
          refine x_iload_n (pc' := 84) dX7_of_83 rfl rfl ?_
          obtain ⟨j84, hj84, h⟩ := Option.bind_eq_some_iff.mp h
          refine x_iaload (pc' := 85) (v := (q5.2) 6 j84) dX7_of_84 rfl sh_6 hj84 rfl ?_
          exact x_iret dX7_of_85 rfl ((tb_dI_ok _ _).trans h)
        · replace h := (if_neg c14_2).symm.trans h
          by_cases c14_3 : x2 = (3 : Int32)
          · replace h := (if_pos c14_3).symm.trans h
            refine x_tsw_in (pc' := 86) (w := (3 : Int32)) (off := 72) dX7_of_14 c14_3 (by decide) (by decide) (by decide) (by decide) ?_
            refine x_aload_n (pc' := 87) dX7_of_86 rfl rfl ?_
            refine x_getR (pc' := 90) dX7_of_87 rfl lf_7_12 rfl sh_1 rfl ?_
            refine x_getR (pc' := 93) dX7_of_90 rfl lf_7_124 rfl sh_2 rfl ?_
            refine x_iload_n (pc' := 94) dX7_of_93 rfl rfl ?_
            obtain ⟨j94, hj94, h⟩ := Option.bind_eq_some_iff.mp h
            refine x_iaload (pc' := 95) (v := (q5.2) 7 j94) dX7_of_94 rfl sh_7 hj94 rfl ?_
            exact x_iret dX7_of_95 rfl ((tb_dI_ok _ _).trans h)
          · replace h := (if_neg c14_3).symm.trans h
            by_cases c14_4 : x2 = (4 : Int32)
            · replace h := (if_pos c14_4).symm.trans h
              refine x_tsw_in (pc' := 96) (w := (4 : Int32)) (off := 82) dX7_of_14 c14_4 (by decide) (by decide) (by decide) (by decide) ?_
              refine x_aload_n (pc' := 97) dX7_of_96 rfl rfl ?_
              refine x_getR (pc' := 100) dX7_of_97 rfl lf_7_12 rfl sh_1 rfl ?_
              refine x_getR (pc' := 103) dX7_of_100 rfl lf_7_127 rfl sh_2 rfl ?_
              refine x_iload_n (pc' := 104) dX7_of_103 rfl rfl ?_
              obtain ⟨j104, hj104, h⟩ := Option.bind_eq_some_iff.mp h
              refine x_iaload (pc' := 105) (v := (q5.2) 8 j104) dX7_of_104 rfl sh_8 hj104 rfl ?_
              exact x_iret dX7_of_105 rfl ((tb_dI_ok _ _).trans h)
            · replace h := (if_neg c14_4).symm.trans h
              by_cases c14_5 : x2 = (5 : Int32)
              · replace h := (if_pos c14_5).symm.trans h
                refine x_tsw_in (pc' := 106) (w := (5 : Int32)) (off := 92) dX7_of_14 c14_5 (by decide) (by decide) (by decide) (by decide) ?_
                refine x_aload_n (pc' := 107) dX7_of_106 rfl rfl ?_
                refine x_getR (pc' := 110) dX7_of_107 rfl lf_7_12 rfl sh_1 rfl ?_
                refine x_getR (pc' := 113) dX7_of_110 rfl lf_7_130 rfl sh_2 rfl ?_
                refine x_iload_n (pc' := 114) dX7_of_113 rfl rfl ?_
                obtain ⟨j114, hj114, h⟩ := Option.bind_eq_some_iff.mp h
                refine x_iaload (pc' := 115) (v := (q5.2) 9 j114) dX7_of_114 rfl sh_9 hj114 rfl ?_
                exact x_iret dX7_of_115 rfl ((tb_dI_ok _ _).trans h)
              · replace h := (if_neg c14_5).symm.trans h
                by_cases c14_6 : x2 = (6 : Int32)
                · replace h := (if_pos c14_6).symm.trans h
                  refine x_tsw_in (pc' := 116) (w := (6 : Int32)) (off := 102) dX7_of_14 c14_6 (by decide) (by decide) (by decide) (by decide) ?_
                  refine x_aload_n (pc' := 117) dX7_of_116 rfl rfl ?_
                  refine x_getR (pc' := 120) dX7_of_117 rfl lf_7_12 rfl sh_1 rfl ?_
                  refine x_getR (pc' := 123) dX7_of_120 rfl lf_7_133 rfl sh_2 rfl ?_
                  refine x_iload_n (pc' := 124) dX7_of_123 rfl rfl ?_
                  obtain ⟨j124, hj124, h⟩ := Option.bind_eq_some_iff.mp h
                  refine x_iaload (pc' := 125) (v := (q5.2) 5 j124) dX7_of_124 rfl sh_5 hj124 rfl ?_
                  exact x_iret dX7_of_125 rfl ((tb_dI_ok _ _).trans h)
                · replace h := (if_neg c14_6).symm.trans h
                  refine x_tsw_out (pc' := 126) dX7_of_14 (fun k0 g1 g2 g3 => ?_) (by decide) ?_
                  · obtain rfl | rfl | rfl | rfl | rfl | rfl | rfl : k0 = 0 ∨ k0 = 1 ∨ k0 = 2 ∨ k0 = 3 ∨ k0 = 4 ∨ k0 = 5 ∨ k0 = 6 := by omega
                    · exact absurd (Int32.toInt_inj.mp (g3.trans (by decide +kernel : (0 : Int) = (0 : Int32).toInt))) c14_0
                    · exact absurd (Int32.toInt_inj.mp (g3.trans (by decide +kernel : (1 : Int) = (1 : Int32).toInt))) c14_1
                    · exact absurd (Int32.toInt_inj.mp (g3.trans (by decide +kernel : (2 : Int) = (2 : Int32).toInt))) c14_2
                    · exact absurd (Int32.toInt_inj.mp (g3.trans (by decide +kernel : (3 : Int) = (3 : Int32).toInt))) c14_3
                    · exact absurd (Int32.toInt_inj.mp (g3.trans (by decide +kernel : (4 : Int) = (4 : Int32).toInt))) c14_4
                    · exact absurd (Int32.toInt_inj.mp (g3.trans (by decide +kernel : (5 : Int) = (5 : Int32).toInt))) c14_5
                    · exact absurd (Int32.toInt_inj.mp (g3.trans (by decide +kernel : (6 : Int) = (6 : Int32).toInt))) c14_6
                  · refine x_iconst (pc' := 127) (w := (-1 : Int32)) dX7_of_126 rfl k_ic_m1 ?_
                    exact x_iret dX7_of_127 rfl ((tb_dI_ok _ _).trans h)
  · replace h := (if_neg c8).symm.trans h
    refine x_if_ne_f (pc' := 11) dX7_of_8 (by decide) rfl c8 ?_
    refine x_iconst (pc' := 12) (w := (-1 : Int32)) dX7_of_11 rfl k_ic_m1 ?_
    exact x_iret dX7_of_12 rfl ((tb_dI_ok _ _).trans h)
theorem MX7_of {d : Nat} {x1 : Int32} {x2 : Int32} {S : tb_St} {r : Int32 × tb_St} (h : ((tb_cI d mX5_has [.ref 2, .int x1] S).bind fun q5 => (if ¬ q5.1 = 0 then (if x2 = (0 : Int32) then (tb_ix x1 24).bind fun j64 => some ((q5.2) 3 j64, q5.2) else (if x2 = (1 : Int32) then (tb_ix x1 24).bind fun j74 => some ((q5.2) 4 j74, q5.2) else (if x2 = (2 : Int32) then (tb_ix x1 24).bind fun j84 => some ((q5.2) 6 j84, q5.2) else (if x2 = (3 : Int32) then (tb_ix x1 24).bind fun j94 => some ((q5.2) 7 j94, q5.2) else (if x2 = (4 : Int32) then (tb_ix x1 24).bind fun j104 => some ((q5.2) 8 j104, q5.2) else (if x2 = (5 : Int32) then (tb_ix x1 24).bind fun j114 => some ((q5.2) 9 j114, q5.2) else (if x2 = (6 : Int32) then (tb_ix x1 24).bind fun j124 => some ((q5.2) 5 j124, q5.2) else some ((-1 : Int32), q5.2)))))))) else some ((-1 : Int32), q5.2))) = some r) : tb_cI (d + 1) mX7_of [.ref 1, .int x1, .int x2] S = some r := tb_enI rfl rfl (BX7_of_0 h)
/-! X8_way (45,) -/
theorem BX8_way_0 {d : Nat} {x1 : Int32} {S : tb_St} {r : Int32 × tb_St} (h : ((if ¬ x1 = (-1 : Int32) then (tb_cI d mX8_within [.int x1, .int (0 : Int32), .int ((S 45 26) - (1 : Int32))] S).bind fun q18 => (if q18.1 = 0 then some ((-1 : Int32), q18.2) else (tb_ix x1 9).bind fun j29 => some ((q18.2) 61 j29, q18.2)) else some (S 45 26, S))) = some r) : tb_E d mX8_way tb_dI 0 [.ref 45, .int x1] [] tb_S S = some r := by
  refine x_iload_n (pc' := 1) dX8_way_0 rfl rfl ?_
  refine x_iconst (pc' := 2) (w := (-1 : Int32)) dX8_way_1 rfl k_ic_m1 ?_
  by_cases c2 : ¬ x1 = (-1 : Int32)
  · replace h := (if_pos c2).symm.trans h
    refine x_icmp_ne_t (pc' := 10) dX8_way_2 (by decide) c2 ?_
    refine x_iload_n (pc' := 11) dX8_way_10 rfl rfl ?_
    refine x_iconst (pc' := 12) (w := (0 : Int32)) dX8_way_11 rfl k_ic_0 ?_
    refine x_aload_n (pc' := 13) dX8_way_12 rfl rfl ?_
    refine x_getI (pc' := 16) (v := S 45 26) dX8_way_13 rfl lf_8_169 rfl sh_45 rfl ?_
    refine x_iconst (pc' := 17) (w := (1 : Int32)) dX8_way_16 rfl k_ic_1 ?_
    refine x_isub (pc' := 18) dX8_way_17 rfl ?_
    obtain ⟨q18, hq18, h⟩ := Option.bind_eq_some_iff.mp h
    refine x_statI (pc' := 21) (as := [.int x1, .int (0 : Int32), .int ((S 45 26) - (1 : Int32))]) (rest := []) dX8_way_18 rfl lm_8_80 (by decide) rfl rfl rfl rfl hq18 ?_
    by_cases c21 : q18.1 = 0
    · replace h := (if_pos c21).symm.trans h
      refine x_if_eq_t (pc' := 33) dX8_way_21 (by decide) c21 ?_
      refine x_iconst (pc' := 34) (w := (-1 : Int32)) dX8_way_33 rfl k_ic_m1 ?_
      exact x_iret dX8_way_34 rfl ((tb_dI_ok _ _).trans h)
    · replace h := (if_neg c21).symm.trans h
      refine x_if_eq_f (pc' := 24) dX8_way_21 (by decide) rfl c21 ?_
      refine x_aload_n (pc' := 25) dX8_way_24 rfl rfl ?_
      refine x_getR (pc' := 28) dX8_way_25 rfl lf_8_62 rfl sh_45 rfl ?_
      refine x_iload_n (pc' := 29) dX8_way_28 rfl rfl ?_
      obtain ⟨j29, hj29, h⟩ := Option.bind_eq_some_iff.mp h
      refine x_iaload (pc' := 30) (v := (q18.2) 61 j29) dX8_way_29 rfl sh_61 hj29 rfl ?_
      refine x_goto (pc' := 34) dX8_way_30 (by decide) ?_
      exact x_iret dX8_way_34 rfl ((tb_dI_ok _ _).trans h)
  · replace h := (if_neg c2).symm.trans h
    refine x_icmp_ne_f (pc' := 5) dX8_way_2 (by decide) rfl c2 ?_
    refine x_aload_n (pc' := 6) dX8_way_5 rfl rfl ?_
    refine x_getI (pc' := 9) (v := S 45 26) dX8_way_6 rfl lf_8_169 rfl sh_45 rfl ?_
    exact x_iret dX8_way_9 rfl ((tb_dI_ok _ _).trans h)
theorem MX8_way {d : Nat} {x1 : Int32} {S : tb_St} {r : Int32 × tb_St} (h : ((if ¬ x1 = (-1 : Int32) then (tb_cI d mX8_within [.int x1, .int (0 : Int32), .int ((S 45 26) - (1 : Int32))] S).bind fun q18 => (if q18.1 = 0 then some ((-1 : Int32), q18.2) else (tb_ix x1 9).bind fun j29 => some ((q18.2) 61 j29, q18.2)) else some (S 45 26, S))) = some r) : tb_cI (d + 1) mX8_way [.ref 45, .int x1] S = some r := tb_enI rfl rfl (BX8_way_0 h)
/-! X7_way (1,) -/
theorem BX7_way_0 {d : Nat} {x1 : Int32} {S : tb_St} {r : Int32 × tb_St} (h : ((if ¬ x1 = (-1 : Int32) then (if x1 < 0 then some ((-1 : Int32), S) else (if S 32 4 ≤ x1 then some ((-1 : Int32), S) else (tb_ix x1 7).bind fun j36 => some (S 34 j36, S))) else some (S 32 4, S))) = some r) : tb_E d mX7_way tb_dI 0 [.ref 1, .int x1] [] tb_S S = some r := by
  refine x_iload_n (pc' := 1) dX7_way_0 rfl rfl ?_
  refine x_iconst (pc' := 2) (w := (-1 : Int32)) dX7_way_1 rfl k_ic_m1 ?_
  by_cases c2 : ¬ x1 = (-1 : Int32)
  · replace h := (if_pos c2).symm.trans h
    refine x_icmp_ne_t (pc' := 13) dX7_way_2 (by decide) c2 ?_
    refine x_iload_n (pc' := 14) dX7_way_13 rfl rfl ?_
    by_cases c14 : x1 < 0
    · replace h := (if_pos c14).symm.trans h
      refine x_if_lt_t (pc' := 40) dX7_way_14 (by decide) c14 ?_
      refine x_iconst (pc' := 41) (w := (-1 : Int32)) dX7_way_40 rfl k_ic_m1 ?_
      exact x_iret dX7_way_41 rfl ((tb_dI_ok _ _).trans h)
    · replace h := (if_neg c14).symm.trans h
      refine x_if_lt_f (pc' := 17) dX7_way_14 (by decide) rfl c14 ?_
      refine x_iload_n (pc' := 18) dX7_way_17 rfl rfl ?_
      refine x_aload_n (pc' := 19) dX7_way_18 rfl rfl ?_
      refine x_getR (pc' := 22) dX7_way_19 rfl lf_7_54 rfl sh_1 rfl ?_
      refine x_getI (pc' := 25) (v := S 32 4) dX7_way_22 rfl lf_7_108 rfl sh_32 rfl ?_
      by_cases c25 : S 32 4 ≤ x1
      · replace h := (if_pos c25).symm.trans h
        refine x_icmp_ge_t (pc' := 40) dX7_way_25 (by decide) c25 ?_
        refine x_iconst (pc' := 41) (w := (-1 : Int32)) dX7_way_40 rfl k_ic_m1 ?_
        exact x_iret dX7_way_41 rfl ((tb_dI_ok _ _).trans h)
      · replace h := (if_neg c25).symm.trans h
        refine x_icmp_ge_f (pc' := 28) dX7_way_25 (by decide) rfl c25 ?_
        refine x_aload_n (pc' := 29) dX7_way_28 rfl rfl ?_
        refine x_getR (pc' := 32) dX7_way_29 rfl lf_7_54 rfl sh_1 rfl ?_
        refine x_getR (pc' := 35) dX7_way_32 rfl lf_7_111 rfl sh_32 rfl ?_
        refine x_iload_n (pc' := 36) dX7_way_35 rfl rfl ?_
        obtain ⟨j36, hj36, h⟩ := Option.bind_eq_some_iff.mp h
        refine x_iaload (pc' := 37) (v := S 34 j36) dX7_way_36 rfl sh_34 hj36 rfl ?_
        refine x_goto (pc' := 41) dX7_way_37 (by decide) ?_
        exact x_iret dX7_way_41 rfl ((tb_dI_ok _ _).trans h)
  · replace h := (if_neg c2).symm.trans h
    refine x_icmp_ne_f (pc' := 5) dX7_way_2 (by decide) rfl c2 ?_
    refine x_aload_n (pc' := 6) dX7_way_5 rfl rfl ?_
    refine x_getR (pc' := 9) dX7_way_6 rfl lf_7_54 rfl sh_1 rfl ?_
    refine x_getI (pc' := 12) (v := S 32 4) dX7_way_9 rfl lf_7_108 rfl sh_32 rfl ?_
    exact x_iret dX7_way_12 rfl ((tb_dI_ok _ _).trans h)
theorem MX7_way {d : Nat} {x1 : Int32} {S : tb_St} {r : Int32 × tb_St} (h : ((if ¬ x1 = (-1 : Int32) then (if x1 < 0 then some ((-1 : Int32), S) else (if S 32 4 ≤ x1 then some ((-1 : Int32), S) else (tb_ix x1 7).bind fun j36 => some (S 34 j36, S))) else some (S 32 4, S))) = some r) : tb_cI (d + 1) mX7_way [.ref 1, .int x1] S = some r := tb_enI rfl rfl (BX7_way_0 h)
/-! X8_read (45,) -/
theorem BX8_read_0 {d : Nat} {w1 w2 w3 : Value} {S : tb_St} {r : Int32 × tb_St} (h : ((tb_cI d mX8_term [.ref 45, .int (0 : Int32)] (tb_up (tb_up (tb_up S 45 23 (0 : Int32)) 45 29 (0 : Int32)) 45 24 (0 : Int32))).bind fun q17 => (if q17.1 < 0 then tb_E d mX8_read tb_dI 46 [.ref 45, .int (q17.1), w2, w3] [] tb_S (q17.2) else (if (q17.2) 45 21 ≤ (q17.2) 45 23 then tb_E d mX8_read tb_dI 46 [.ref 45, .int (q17.1), w2, w3] [] tb_S (q17.2) else tb_E d mX8_read tb_dI 46 [.ref 45, .int (-1 : Int32), w2, w3] [] tb_S (tb_up (q17.2) 45 28 ((q17.2) 45 23))))) = some r) : tb_E d mX8_read tb_dI 0 [.ref 45, w1, w2, w3] [] tb_S S = some r := by
  refine x_aload_n (pc' := 1) dX8_read_0 rfl rfl ?_
  refine x_iconst (pc' := 2) (w := (0 : Int32)) dX8_read_1 rfl k_ic_0 ?_
  refine x_putI (pc' := 5) dX8_read_2 rfl lf_8_122 (Or.inl rfl) sh_45 ?_
  refine x_aload_n (pc' := 6) dX8_read_5 rfl rfl ?_
  refine x_iconst (pc' := 7) (w := (0 : Int32)) dX8_read_6 rfl k_ic_0 ?_
  refine x_putI (pc' := 10) dX8_read_7 rfl lf_8_139 (Or.inl rfl) sh_45 ?_
  refine x_aload_n (pc' := 11) dX8_read_10 rfl rfl ?_
  refine x_iconst (pc' := 12) (w := (0 : Int32)) dX8_read_11 rfl k_ic_0 ?_
  refine x_putI (pc' := 15) dX8_read_12 rfl lf_8_151 (Or.inl rfl) sh_45 ?_
  refine x_aload_n (pc' := 16) dX8_read_15 rfl rfl ?_
  refine x_iconst (pc' := 17) (w := (0 : Int32)) dX8_read_16 rfl k_ic_0 ?_
  obtain ⟨q17, hq17, h⟩ := Option.bind_eq_some_iff.mp h
  refine x_virtI (pc' := 20) (o := 45) (as := [.int (0 : Int32)]) (rest := []) dX8_read_17 rfl lm_8_166 rfl rfl rfl sh_45 rfl hq17 ?_
  refine x_istore_n (pc' := 21) (ls' := [.ref 45, .int (q17.1), w2, w3]) dX8_read_20 rfl rfl rfl ?_
  refine x_iload_n (pc' := 22) dX8_read_21 rfl rfl ?_
  by_cases c22 : q17.1 < 0
  · replace h := (if_pos c22).symm.trans h
    refine x_if_lt_t (pc' := 46) dX8_read_22 (by decide) c22 ?_
    exact h
  · replace h := (if_neg c22).symm.trans h
    refine x_if_lt_f (pc' := 25) dX8_read_22 (by decide) rfl c22 ?_
    refine x_aload_n (pc' := 26) dX8_read_25 rfl rfl ?_
    refine x_getI (pc' := 29) (v := (q17.2) 45 23) dX8_read_26 rfl lf_8_122 rfl sh_45 rfl ?_
    refine x_aload_n (pc' := 30) dX8_read_29 rfl rfl ?_
    refine x_getI (pc' := 33) (v := (q17.2) 45 21) dX8_read_30 rfl lf_8_119 rfl sh_45 rfl ?_
    by_cases c33 : (q17.2) 45 21 ≤ (q17.2) 45 23
    · replace h := (if_pos c33).symm.trans h
      refine x_icmp_ge_t (pc' := 46) dX8_read_33 (by decide) c33 ?_
      exact h
    · replace h := (if_neg c33).symm.trans h
      refine x_icmp_ge_f (pc' := 36) dX8_read_33 (by decide) rfl c33 ?_
      refine x_aload_n (pc' := 37) dX8_read_36 rfl rfl ?_
      refine x_aload_n (pc' := 38) dX8_read_37 rfl rfl ?_
      refine x_getI (pc' := 41) (v := (q17.2) 45 23) dX8_read_38 rfl lf_8_122 rfl sh_45 rfl ?_
      refine x_putI (pc' := 44) dX8_read_41 rfl lf_8_132 (Or.inl rfl) sh_45 ?_
      refine x_iconst (pc' := 45) (w := (-1 : Int32)) dX8_read_44 rfl k_ic_m1 ?_
      refine x_istore_n (pc' := 46) (ls' := [.ref 45, .int (-1 : Int32), w2, w3]) dX8_read_45 rfl rfl rfl ?_
      exact h
theorem MX8_read {d : Nat} {S : tb_St} {r : Int32 × tb_St} (h : ((tb_cI d mX8_term [.ref 45, .int (0 : Int32)] (tb_up (tb_up (tb_up S 45 23 (0 : Int32)) 45 29 (0 : Int32)) 45 24 (0 : Int32))).bind fun q17 => (if q17.1 < 0 then tb_E d mX8_read tb_dI 46 [.ref 45, .int (q17.1), tb_jk, tb_jk] [] tb_S (q17.2) else (if (q17.2) 45 21 ≤ (q17.2) 45 23 then tb_E d mX8_read tb_dI 46 [.ref 45, .int (q17.1), tb_jk, tb_jk] [] tb_S (q17.2) else tb_E d mX8_read tb_dI 46 [.ref 45, .int (-1 : Int32), tb_jk, tb_jk] [] tb_S (tb_up (q17.2) 45 28 ((q17.2) 45 23))))) = some r) : tb_cI (d + 1) mX8_read [.ref 45] S = some r := tb_enI rfl rfl (BX8_read_0 h)
theorem BX8_read_46 {d : Nat} {x1 : Int32} {w2 w3 : Value} {S : tb_St} {r : Int32 × tb_St} (h : ((if 0 ≤ x1 then (if (24 : Int32) < (S 45 0) + (S 45 29) then tb_E d mX8_read tb_dI 128 [.ref 45, .int x1, .int (0 : Int32), .int (0 : Int32)] [] tb_S (tb_up S 45 21 (0 : Int32)) else tb_E d mX8_read tb_dI 128 [.ref 45, .int x1, .int (1 : Int32), .int (0 : Int32)] [] tb_S (tb_up S 45 21 (0 : Int32))) else tb_E d mX8_read tb_dI 65 [.ref 45, .int x1, .int (0 : Int32), w3] [] tb_S (tb_up (tb_up S 45 21 (0 : Int32)) 45 26 (S 45 24)))) = some r) : tb_E d mX8_read tb_dI 46 [.ref 45, .int x1, w2, w3] [] tb_S S = some r := by
  refine x_aload_n (pc' := 47) dX8_read_46 rfl rfl ?_
  refine x_iconst (pc' := 48) (w := (0 : Int32)) dX8_read_47 rfl k_ic_0 ?_
  refine x_putI (pc' := 51) dX8_read_48 rfl lf_8_119 (Or.inl rfl) sh_45 ?_
  refine x_iload_n (pc' := 52) dX8_read_51 rfl rfl ?_
  by_cases c52 : 0 ≤ x1
  · replace h := (if_pos c52).symm.trans h
    refine x_if_ge_t (pc' := 106) dX8_read_52 (by decide) c52 ?_
    refine x_aload_n (pc' := 107) dX8_read_106 rfl rfl ?_
    refine x_getI (pc' := 110) (v := S 45 0) dX8_read_107 rfl lf_8_77 rfl sh_45 rfl ?_
    refine x_aload_n (pc' := 111) dX8_read_110 rfl rfl ?_
    refine x_getI (pc' := 114) (v := S 45 29) dX8_read_111 rfl lf_8_139 rfl sh_45 rfl ?_
    refine x_iadd (pc' := 115) dX8_read_114 rfl ?_
    refine x_bipush (pc' := 117) (w := (24 : Int32)) dX8_read_115 rfl k_bi_24 ?_
    by_cases c117 : (24 : Int32) < (S 45 0) + (S 45 29)
    · replace h := (if_pos c117).symm.trans h
      refine x_icmp_gt_t (pc' := 124) dX8_read_117 (by decide) c117 ?_
      refine x_iconst (pc' := 125) (w := (0 : Int32)) dX8_read_124 rfl k_ic_0 ?_
      refine x_istore_n (pc' := 126) (ls' := [.ref 45, .int x1, .int (0 : Int32), w3]) dX8_read_125 rfl rfl rfl ?_
      refine x_iconst (pc' := 127) (w := (0 : Int32)) dX8_read_126 rfl k_ic_0 ?_
      refine x_istore_n (pc' := 128) (ls' := [.ref 45, .int x1, .int (0 : Int32), .int (0 : Int32)]) dX8_read_127 rfl rfl rfl ?_
      exact h
    · replace h := (if_neg c117).symm.trans h
      refine x_icmp_gt_f (pc' := 120) dX8_read_117 (by decide) rfl c117 ?_
      refine x_iconst (pc' := 121) (w := (1 : Int32)) dX8_read_120 rfl k_ic_1 ?_
      refine x_goto (pc' := 125) dX8_read_121 (by decide) ?_
      refine x_istore_n (pc' := 126) (ls' := [.ref 45, .int x1, .int (1 : Int32), w3]) dX8_read_125 rfl rfl rfl ?_
      refine x_iconst (pc' := 127) (w := (0 : Int32)) dX8_read_126 rfl k_ic_0 ?_
      refine x_istore_n (pc' := 128) (ls' := [.ref 45, .int x1, .int (1 : Int32), .int (0 : Int32)]) dX8_read_127 rfl rfl rfl ?_
      exact h
  · replace h := (if_neg c52).symm.trans h
    refine x_if_ge_f (pc' := 55) dX8_read_52 (by decide) rfl c52 ?_
    refine x_aload_n (pc' := 56) dX8_read_55 rfl rfl ?_
    refine x_aload_n (pc' := 57) dX8_read_56 rfl rfl ?_
    refine x_getI (pc' := 60) (v := S 45 24) dX8_read_57 rfl lf_8_151 rfl sh_45 rfl ?_
    refine x_putI (pc' := 63) dX8_read_60 rfl lf_8_169 (Or.inl rfl) sh_45 ?_
    refine x_iconst (pc' := 64) (w := (0 : Int32)) dX8_read_63 rfl k_ic_0 ?_
    refine x_istore_n (pc' := 65) (ls' := [.ref 45, .int x1, .int (0 : Int32), w3]) dX8_read_64 rfl rfl rfl ?_
    exact h
theorem BX8_read_65 {d : Nat} {x2 : Int32} {w1 w3 : Value} {S : tb_St} {r : Int32 × tb_St} (h : ((if S 45 24 ≤ x2 then some ((-100 : Int32) - (S 45 28), S) else (tb_ix (((S 45 24) - (1 : Int32)) - x2) 9).bind fun j90 => (tb_ix x2 9).bind fun j91 => tb_E d mX8_read tb_dI 65 [.ref 45, w1, .int (x2 + (1 : Int32)), w3] [] tb_S (tb_up S 61 j91 (S 60 j90)))) = some r) : tb_E d mX8_read tb_dI 65 [.ref 45, w1, .int x2, w3] [] tb_S S = some r := by
  refine x_iload_n (pc' := 66) dX8_read_65 rfl rfl ?_
  refine x_aload_n (pc' := 67) dX8_read_66 rfl rfl ?_
  refine x_getI (pc' := 70) (v := S 45 24) dX8_read_67 rfl lf_8_151 rfl sh_45 rfl ?_
  by_cases c70 : S 45 24 ≤ x2
  · replace h := (if_pos c70).symm.trans h
    refine x_icmp_ge_t (pc' := 98) dX8_read_70 (by decide) c70 ?_
    refine x_bipush (pc' := 100) (w := (-100 : Int32)) dX8_read_98 rfl k_bi_m100 ?_
    refine x_aload_n (pc' := 101) dX8_read_100 rfl rfl ?_
    refine x_getI (pc' := 104) (v := S 45 28) dX8_read_101 rfl lf_8_132 rfl sh_45 rfl ?_
    refine x_isub (pc' := 105) dX8_read_104 rfl ?_
    exact x_iret dX8_read_105 rfl ((tb_dI_ok _ _).trans h)
  · replace h := (if_neg c70).symm.trans h
    refine x_icmp_ge_f (pc' := 73) dX8_read_70 (by decide) rfl c70 ?_
    refine x_aload_n (pc' := 74) dX8_read_73 rfl rfl ?_
    refine x_getR (pc' := 77) dX8_read_74 rfl lf_8_62 rfl sh_45 rfl ?_
    refine x_iload_n (pc' := 78) dX8_read_77 rfl rfl ?_
    refine x_aload_n (pc' := 79) dX8_read_78 rfl rfl ?_
    refine x_getR (pc' := 82) dX8_read_79 rfl lf_8_59 rfl sh_45 rfl ?_
    refine x_aload_n (pc' := 83) dX8_read_82 rfl rfl ?_
    refine x_getI (pc' := 86) (v := S 45 24) dX8_read_83 rfl lf_8_151 rfl sh_45 rfl ?_
    refine x_iconst (pc' := 87) (w := (1 : Int32)) dX8_read_86 rfl k_ic_1 ?_
    refine x_isub (pc' := 88) dX8_read_87 rfl ?_
    refine x_iload_n (pc' := 89) dX8_read_88 rfl rfl ?_
    refine x_isub (pc' := 90) dX8_read_89 rfl ?_
    obtain ⟨j90, hj90, h⟩ := Option.bind_eq_some_iff.mp h
    refine x_iaload (pc' := 91) (v := S 60 j90) dX8_read_90 rfl sh_60 hj90 rfl ?_
    obtain ⟨j91, hj91, h⟩ := Option.bind_eq_some_iff.mp h
    refine x_iastore (pc' := 92) dX8_read_91 rfl sh_61 hj91 ?_
    refine x_iinc (pc' := 95) (w := (1 : Int32)) (ls' := [.ref 45, w1, .int (x2 + (1 : Int32)), w3]) dX8_read_92 rfl rfl k_ic_1 rfl ?_
    refine x_goto (pc' := 65) dX8_read_95 (by decide) ?_
    exact h
theorem BX8_read_128 {d : Nat} {x1 x2 x3 : Int32} {S : tb_St} {r : Int32 × tb_St} (h : ((if S 45 29 ≤ x3 then (if ¬ x2 = 0 then some (x1, tb_up S 45 0 ((S 45 0) + (S 45 29))) else some ((-4 : Int32), S)) else (tb_ix ((S 45 0) + x3) 96).bind fun j146 => (if S 51 j146 ≤ (40 : Int32) then tb_E d mX8_read tb_dI 128 [.ref 45, .int x1, .int x2, .int (x3 + (1 : Int32))] [] tb_S S else tb_E d mX8_read tb_dI 128 [.ref 45, .int x1, .int (0 : Int32), .int (x3 + (1 : Int32))] [] tb_S S))) = some r) : tb_E d mX8_read tb_dI 128 [.ref 45, .int x1, .int x2, .int x3] [] tb_S S = some r := by
  refine x_iload_n (pc' := 129) dX8_read_128 rfl rfl ?_
  refine x_aload_n (pc' := 130) dX8_read_129 rfl rfl ?_
  refine x_getI (pc' := 133) (v := S 45 29) dX8_read_130 rfl lf_8_139 rfl sh_45 rfl ?_
  by_cases c133 : S 45 29 ≤ x3
  · replace h := (if_pos c133).symm.trans h
    refine x_icmp_ge_t (pc' := 160) dX8_read_133 (by decide) c133 ?_
    refine x_iload_n (pc' := 161) dX8_read_160 rfl rfl ?_
    by_cases c161 : ¬ x2 = 0
    · replace h := (if_pos c161).symm.trans h
      refine x_if_ne_t (pc' := 167) dX8_read_161 (by decide) c161 ?_
      refine x_aload_n (pc' := 168) dX8_read_167 rfl rfl ?_
      refine x_dup (pc' := 169) dX8_read_168 rfl rfl ?_
      refine x_getI (pc' := 172) (v := S 45 0) dX8_read_169 rfl lf_8_77 rfl sh_45 rfl ?_
      refine x_aload_n (pc' := 173) dX8_read_172 rfl rfl ?_
      refine x_getI (pc' := 176) (v := S 45 29) dX8_read_173 rfl lf_8_139 rfl sh_45 rfl ?_
      refine x_iadd (pc' := 177) dX8_read_176 rfl ?_
      refine x_putI (pc' := 180) dX8_read_177 rfl lf_8_77 (Or.inl rfl) sh_45 ?_
      refine x_iload_n (pc' := 181) dX8_read_180 rfl rfl ?_
      exact x_iret dX8_read_181 rfl ((tb_dI_ok _ _).trans h)
    · replace h := (if_neg c161).symm.trans h
      refine x_if_ne_f (pc' := 164) dX8_read_161 (by decide) rfl c161 ?_
      refine x_bipush (pc' := 166) (w := (-4 : Int32)) dX8_read_164 rfl k_bi_m4 ?_
      exact x_iret dX8_read_166 rfl ((tb_dI_ok _ _).trans h)
  · replace h := (if_neg c133).symm.trans h
    refine x_icmp_ge_f (pc' := 136) dX8_read_133 (by decide) rfl c133 ?_
    refine x_aload_n (pc' := 137) dX8_read_136 rfl rfl ?_
    refine x_getR (pc' := 140) dX8_read_137 rfl lf_8_27 rfl sh_45 rfl ?_
    refine x_aload_n (pc' := 141) dX8_read_140 rfl rfl ?_
    refine x_getI (pc' := 144) (v := S 45 0) dX8_read_141 rfl lf_8_77 rfl sh_45 rfl ?_
    refine x_iload_n (pc' := 145) dX8_read_144 rfl rfl ?_
    refine x_iadd (pc' := 146) dX8_read_145 rfl ?_
    obtain ⟨j146, hj146, h⟩ := Option.bind_eq_some_iff.mp h
    refine x_iaload (pc' := 147) (v := S 51 j146) dX8_read_146 rfl sh_51 hj146 rfl ?_
    refine x_bipush (pc' := 149) (w := (40 : Int32)) dX8_read_147 rfl k_bi_40 ?_
    by_cases c149 : S 51 j146 ≤ (40 : Int32)
    · replace h := (if_pos c149).symm.trans h
      refine x_icmp_le_t (pc' := 154) dX8_read_149 (by decide) c149 ?_
      refine x_iinc (pc' := 157) (w := (1 : Int32)) (ls' := [.ref 45, .int x1, .int x2, .int (x3 + (1 : Int32))]) dX8_read_154 rfl rfl k_ic_1 rfl ?_
      refine x_goto (pc' := 128) dX8_read_157 (by decide) ?_
      exact h
    · replace h := (if_neg c149).symm.trans h
      refine x_icmp_le_f (pc' := 152) dX8_read_149 (by decide) rfl c149 ?_
      refine x_iconst (pc' := 153) (w := (0 : Int32)) dX8_read_152 rfl k_ic_0 ?_
      refine x_istore_n (pc' := 154) (ls' := [.ref 45, .int x1, .int (0 : Int32), .int x3]) dX8_read_153 rfl rfl rfl ?_
      refine x_iinc (pc' := 157) (w := (1 : Int32)) (ls' := [.ref 45, .int x1, .int (0 : Int32), .int (x3 + (1 : Int32))]) dX8_read_154 rfl rfl k_ic_1 rfl ?_
      refine x_goto (pc' := 128) dX8_read_157 (by decide) ?_
      exact h
/-! X7_read (1,) -/
theorem BX7_read_0 {d : Nat} {S : tb_St} {r : Int32 × tb_St} (h : ((tb_cI d mX4_readAll [.ref 32] S).bind fun q4 => some (q4.1, q4.2)) = some r) : tb_E d mX7_read tb_dI 0 [.ref 1] [] tb_S S = some r := by
  refine x_aload_n (pc' := 1) dX7_read_0 rfl rfl ?_
  refine x_getR (pc' := 4) dX7_read_1 rfl lf_7_54 rfl sh_1 rfl ?_
  obtain ⟨q4, hq4, h⟩ := Option.bind_eq_some_iff.mp h
  refine x_virtI (pc' := 7) (o := 32) (as := []) (rest := []) dX7_read_4 rfl lm_7_105 rfl rfl rfl sh_32 rfl hq4 ?_
  exact x_iret dX7_read_7 rfl ((tb_dI_ok _ _).trans h)
theorem MX7_read {d : Nat} {S : tb_St} {r : Int32 × tb_St} (h : ((tb_cI d mX4_readAll [.ref 32] S).bind fun q4 => some (q4.1, q4.2)) = some r) : tb_cI (d + 1) mX7_read [.ref 1] S = some r := tb_enI rfl rfl (BX7_read_0 h)
/-! X8_clear (45,) -/
theorem BX8_clear_0 {d : Nat} {w1 : Value} {S : tb_St} {r : Int32 × tb_St} (h : (some (S 45 21, tb_up S 45 21 (0 : Int32))) = some r) : tb_E d mX8_clear tb_dI 0 [.ref 45, w1] [] tb_S S = some r := by
  refine x_aload_n (pc' := 1) dX8_clear_0 rfl rfl ?_
  refine x_getI (pc' := 4) (v := S 45 21) dX8_clear_1 rfl lf_8_119 rfl sh_45 rfl ?_
  refine x_istore_n (pc' := 5) (ls' := [.ref 45, .int (S 45 21)]) dX8_clear_4 rfl rfl rfl ?_
  refine x_aload_n (pc' := 6) dX8_clear_5 rfl rfl ?_
  refine x_iconst (pc' := 7) (w := (0 : Int32)) dX8_clear_6 rfl k_ic_0 ?_
  refine x_putI (pc' := 10) dX8_clear_7 rfl lf_8_119 (Or.inl rfl) sh_45 ?_
  refine x_iload_n (pc' := 11) dX8_clear_10 rfl rfl ?_
  exact x_iret dX8_clear_11 rfl ((tb_dI_ok _ _).trans h)
theorem MX8_clear {d : Nat} {S : tb_St} {r : Int32 × tb_St} (h : (some (S 45 21, tb_up S 45 21 (0 : Int32))) = some r) : tb_cI (d + 1) mX8_clear [.ref 45] S = some r := tb_enI rfl rfl (BX8_clear_0 h)
