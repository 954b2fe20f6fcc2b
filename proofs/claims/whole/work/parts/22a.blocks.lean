/-! X7_caseOf () -/
theorem BX7_caseOf_0 {d : Nat} {x0 x1 x2 : Int32} {S : tb_St} {r : Int32 × tb_St} (h : (some ((((28 : Int32) * x0) + ((4 : Int32) * x1)) + x2, S)) = some r) : tb_E d mX7_caseOf tb_dI 0 [.int x0, .int x1, .int x2] [] tb_S S = some r := by
  refine x_bipush (pc' := 2) (w := (28 : Int32)) dX7_caseOf_0 rfl k_bi_28 ?_
  refine x_iload_n (pc' := 3) dX7_caseOf_2 rfl rfl ?_
  refine x_imul (pc' := 4) dX7_caseOf_3 rfl ?_
  refine x_iconst (pc' := 5) (w := (4 : Int32)) dX7_caseOf_4 rfl k_ic_4 ?_
  refine x_iload_n (pc' := 6) dX7_caseOf_5 rfl rfl ?_
  refine x_imul (pc' := 7) dX7_caseOf_6 rfl ?_
  refine x_iadd (pc' := 8) dX7_caseOf_7 rfl ?_
  refine x_iload_n (pc' := 9) dX7_caseOf_8 rfl rfl ?_
  refine x_iadd (pc' := 10) dX7_caseOf_9 rfl ?_
  exact x_iret dX7_caseOf_10 rfl ((tb_dI_ok _ _).trans h)
theorem MX7_caseOf {d : Nat} {x0 : Int32} {x1 : Int32} {x2 : Int32} {S : tb_St} {r : Int32 × tb_St} (h : (some ((((28 : Int32) * x0) + ((4 : Int32) * x1)) + x2, S)) = some r) : tb_cI (d + 1) mX7_caseOf [.int x0, .int x1, .int x2] S = some r := tb_enI rfl rfl (BX7_caseOf_0 h)
/-! X8_goesWith (45,) -/
theorem BX8_goesWith_0 {d : Nat} {x1 x2 : Int32} {S : tb_St} {r : Int32 × tb_St} (h : ((tb_ix x1 224).bind fun j5 => (if ¬ S 57 j5 = 0 then some ((0 : Int32), S) else (tb_ix x1 224).bind fun j14 => (tb_ix x2 224).bind fun j20 => (if ¬ S 55 j14 = S 55 j20 then some ((0 : Int32), S) else (tb_ix x1 224).bind fun j29 => (tb_ix x2 224).bind fun j35 => (if ¬ S 56 j29 = S 56 j35 then some ((0 : Int32), S) else some ((1 : Int32), S))))) = some r) : tb_E d mX8_goesWith tb_dI 0 [.ref 45, .int x1, .int x2] [] tb_S S = some r := by
  refine x_aload_n (pc' := 1) dX8_goesWith_0 rfl rfl ?_
  refine x_getR (pc' := 4) dX8_goesWith_1 rfl lf_8_45 rfl sh_45 rfl ?_
  refine x_iload_n (pc' := 5) dX8_goesWith_4 rfl rfl ?_
  obtain ⟨j5, hj5, h⟩ := Option.bind_eq_some_iff.mp h
  refine x_baload (pc' := 6) (v := S 57 j5) dX8_goesWith_5 rfl (by decide) sh_57 hj5 rfl ?_
  by_cases c6 : ¬ S 57 j5 = 0
  · replace h := (if_pos c6).symm.trans h
    refine x_if_ne_t (pc' := 43) dX8_goesWith_6 (by decide) c6 ?_
    refine x_iconst (pc' := 44) (w := (0 : Int32)) dX8_goesWith_43 rfl k_ic_0 ?_
    exact x_zret dX8_goesWith_44 rfl (Or.inl rfl) ((tb_dI_ok _ _).trans h)
  · replace h := (if_neg c6).symm.trans h
    refine x_if_ne_f (pc' := 9) dX8_goesWith_6 (by decide) rfl c6 ?_
    refine x_aload_n (pc' := 10) dX8_goesWith_9 rfl rfl ?_
    refine x_getR (pc' := 13) dX8_goesWith_10 rfl lf_8_39 rfl sh_45 rfl ?_
    refine x_iload_n (pc' := 14) dX8_goesWith_13 rfl rfl ?_
    obtain ⟨j14, hj14, h⟩ := Option.bind_eq_some_iff.mp h
    refine x_iaload (pc' := 15) (v := S 55 j14) dX8_goesWith_14 rfl sh_55 hj14 rfl ?_
    refine x_aload_n (pc' := 16) dX8_goesWith_15 rfl rfl ?_
    refine x_getR (pc' := 19) dX8_goesWith_16 rfl lf_8_39 rfl sh_45 rfl ?_
    refine x_iload_n (pc' := 20) dX8_goesWith_19 rfl rfl ?_
    obtain ⟨j20, hj20, h⟩ := Option.bind_eq_some_iff.mp h
    refine x_iaload (pc' := 21) (v := S 55 j20) dX8_goesWith_20 rfl sh_55 hj20 rfl ?_
    by_cases c21 : ¬ S 55 j14 = S 55 j20
    · replace h := (if_pos c21).symm.trans h
      refine x_icmp_ne_t (pc' := 43) dX8_goesWith_21 (by decide) c21 ?_
      refine x_iconst (pc' := 44) (w := (0 : Int32)) dX8_goesWith_43 rfl k_ic_0 ?_
      exact x_zret dX8_goesWith_44 rfl (Or.inl rfl) ((tb_dI_ok _ _).trans h)
    · replace h := (if_neg c21).symm.trans h
      refine x_icmp_ne_f (pc' := 24) dX8_goesWith_21 (by decide) rfl c21 ?_
      refine x_aload_n (pc' := 25) dX8_goesWith_24 rfl rfl ?_
      refine x_getR (pc' := 28) dX8_goesWith_25 rfl lf_8_42 rfl sh_45 rfl ?_
      refine x_iload_n (pc' := 29) dX8_goesWith_28 rfl rfl ?_
      obtain ⟨j29, hj29, h⟩ := Option.bind_eq_some_iff.mp h
      refine x_iaload (pc' := 30) (v := S 56 j29) dX8_goesWith_29 rfl sh_56 hj29 rfl ?_
      refine x_aload_n (pc' := 31) dX8_goesWith_30 rfl rfl ?_
      refine x_getR (pc' := 34) dX8_goesWith_31 rfl lf_8_42 rfl sh_45 rfl ?_
      refine x_iload_n (pc' := 35) dX8_goesWith_34 rfl rfl ?_
      obtain ⟨j35, hj35, h⟩ := Option.bind_eq_some_iff.mp h
      refine x_iaload (pc' := 36) (v := S 56 j35) dX8_goesWith_35 rfl sh_56 hj35 rfl ?_
      by_cases c36 : ¬ S 56 j29 = S 56 j35
      · replace h := (if_pos c36).symm.trans h
        refine x_icmp_ne_t (pc' := 43) dX8_goesWith_36 (by decide) c36 ?_
        refine x_iconst (pc' := 44) (w := (0 : Int32)) dX8_goesWith_43 rfl k_ic_0 ?_
        exact x_zret dX8_goesWith_44 rfl (Or.inl rfl) ((tb_dI_ok _ _).trans h)
      · replace h := (if_neg c36).symm.trans h
        refine x_icmp_ne_f (pc' := 39) dX8_goesWith_36 (by decide) rfl c36 ?_
        refine x_iconst (pc' := 40) (w := (1 : Int32)) dX8_goesWith_39 rfl k_ic_1 ?_
        refine x_goto (pc' := 44) dX8_goesWith_40 (by decide) ?_
        exact x_zret dX8_goesWith_44 rfl (Or.inr rfl) ((tb_dI_ok _ _).trans h)
theorem MX8_goesWith {d : Nat} {x1 : Int32} {x2 : Int32} {S : tb_St} {r : Int32 × tb_St} (h : ((tb_ix x1 224).bind fun j5 => (if ¬ S 57 j5 = 0 then some ((0 : Int32), S) else (tb_ix x1 224).bind fun j14 => (tb_ix x2 224).bind fun j20 => (if ¬ S 55 j14 = S 55 j20 then some ((0 : Int32), S) else (tb_ix x1 224).bind fun j29 => (tb_ix x2 224).bind fun j35 => (if ¬ S 56 j29 = S 56 j35 then some ((0 : Int32), S) else some ((1 : Int32), S))))) = some r) : tb_cI (d + 1) mX8_goesWith [.ref 45, .int x1, .int x2] S = some r := tb_enI rfl rfl (BX8_goesWith_0 h)
/-! X0_keep (28,) -/
theorem BX0_keep_0 {d : Nat} {x1 x2 : Int32} {w3 : Value} {S : tb_St} {r : tb_St} (h : ((if (224 : Int32) ≤ S 28 3 then tb_E d mX0_keep tb_dV 42 [.ref 28, .int x1, .int x2, .int (0 : Int32)] [] tb_S S else (tb_ix (S 28 3) 224).bind fun j19 => (tb_ix (S 28 3) 224).bind fun j29 => tb_E d mX0_keep tb_dV 42 [.ref 28, .int x1, .int x2, .int (0 : Int32)] [] tb_S (tb_up (tb_up (tb_up S 30 j19 x1) 31 j29 x2) 28 3 ((S 28 3) + (1 : Int32))))) = some r) : tb_E d mX0_keep tb_dV 0 [.ref 28, .int x1, .int x2, w3] [] tb_S S = some r := by
  refine x_aload_n (pc' := 1) dX0_keep_0 rfl rfl ?_
  refine x_getI (pc' := 4) (v := S 28 3) dX0_keep_1 rfl lf_0_21 rfl sh_28 rfl ?_
  refine x_sipush (pc' := 7) (w := (224 : Int32)) dX0_keep_4 rfl k_si_224 ?_
  by_cases c7 : (224 : Int32) ≤ S 28 3
  · replace h := (if_pos c7).symm.trans h
    refine x_icmp_ge_t (pc' := 40) dX0_keep_7 (by decide) c7 ?_
    refine x_iconst (pc' := 41) (w := (0 : Int32)) dX0_keep_40 rfl k_ic_0 ?_
    refine x_istore_n (pc' := 42) (ls' := [.ref 28, .int x1, .int x2, .int (0 : Int32)]) dX0_keep_41 rfl rfl rfl ?_
    exact h
  · replace h := (if_neg c7).symm.trans h
    refine x_icmp_ge_f (pc' := 10) dX0_keep_7 (by decide) rfl c7 ?_
    refine x_aload_n (pc' := 11) dX0_keep_10 rfl rfl ?_
    refine x_getR (pc' := 14) dX0_keep_11 rfl lf_0_15 rfl sh_28 rfl ?_
    refine x_aload_n (pc' := 15) dX0_keep_14 rfl rfl ?_
    refine x_getI (pc' := 18) (v := S 28 3) dX0_keep_15 rfl lf_0_21 rfl sh_28 rfl ?_
    refine x_iload_n (pc' := 19) dX0_keep_18 rfl rfl ?_
    obtain ⟨j19, hj19, h⟩ := Option.bind_eq_some_iff.mp h
    refine x_iastore (pc' := 20) dX0_keep_19 rfl sh_30 hj19 ?_
    refine x_aload_n (pc' := 21) dX0_keep_20 rfl rfl ?_
    refine x_getR (pc' := 24) dX0_keep_21 rfl lf_0_18 rfl sh_28 rfl ?_
    refine x_aload_n (pc' := 25) dX0_keep_24 rfl rfl ?_
    refine x_getI (pc' := 28) (v := S 28 3) dX0_keep_25 rfl lf_0_21 rfl sh_28 rfl ?_
    refine x_iload_n (pc' := 29) dX0_keep_28 rfl rfl ?_
    obtain ⟨j29, hj29, h⟩ := Option.bind_eq_some_iff.mp h
    refine x_iastore (pc' := 30) dX0_keep_29 rfl sh_31 hj29 ?_
    refine x_aload_n (pc' := 31) dX0_keep_30 rfl rfl ?_
    refine x_dup (pc' := 32) dX0_keep_31 rfl rfl ?_
    refine x_getI (pc' := 35) (v := S 28 3) dX0_keep_32 rfl lf_0_21 rfl sh_28 rfl ?_
    refine x_iconst (pc' := 36) (w := (1 : Int32)) dX0_keep_35 rfl k_ic_1 ?_
    refine x_iadd (pc' := 37) dX0_keep_36 rfl ?_
    refine x_putI (pc' := 40) dX0_keep_37 rfl lf_0_21 (Or.inl rfl) sh_28 ?_
    refine x_iconst (pc' := 41) (w := (0 : Int32)) dX0_keep_40 rfl k_ic_0 ?_
    refine x_istore_n (pc' := 42) (ls' := [.ref 28, .int x1, .int x2, .int (0 : Int32)]) dX0_keep_41 rfl rfl rfl ?_
    exact h
theorem MX0_keep {d : Nat} {x1 : Int32} {x2 : Int32} {S : tb_St} {r : tb_St} (h : ((if (224 : Int32) ≤ S 28 3 then tb_E d mX0_keep tb_dV 42 [.ref 28, .int x1, .int x2, .int (0 : Int32)] [] tb_S S else (tb_ix (S 28 3) 224).bind fun j19 => (tb_ix (S 28 3) 224).bind fun j29 => tb_E d mX0_keep tb_dV 42 [.ref 28, .int x1, .int x2, .int (0 : Int32)] [] tb_S (tb_up (tb_up (tb_up S 30 j19 x1) 31 j29 x2) 28 3 ((S 28 3) + (1 : Int32))))) = some r) : tb_cV (d + 1) mX0_keep [.ref 28, .int x1, .int x2] S = some r := tb_enV rfl rfl (BX0_keep_0 h)
theorem BX0_keep_42 {d : Nat} {x1 x2 x3 : Int32} {S : tb_St} {r : tb_St} (h : ((if (224 : Int32) ≤ x3 then some S else (tb_ix x3 224).bind fun j54 => (if ¬ S 29 j54 = x2 then tb_E d mX0_keep tb_dV 42 [.ref 28, .int x1, .int x2, .int (x3 + (1 : Int32))] [] tb_S S else (tb_cI d mX7_isInBox [.int x3, .int x1] S).bind fun q61 => (if q61.1 = 0 then tb_E d mX0_keep tb_dV 42 [.ref 28, .int x1, .int x2, .int (x3 + (1 : Int32))] [] tb_S (q61.2) else (tb_ix x3 224).bind fun j73 => tb_E d mX0_keep tb_dV 42 [.ref 28, .int x1, .int x2, .int (x3 + (1 : Int32))] [] tb_S (tb_up (q61.2) 29 j73 (-1 : Int32)))))) = some r) : tb_E d mX0_keep tb_dV 42 [.ref 28, .int x1, .int x2, .int x3] [] tb_S S = some r := by
  refine x_iload_n (pc' := 43) dX0_keep_42 rfl rfl ?_
  refine x_sipush (pc' := 46) (w := (224 : Int32)) dX0_keep_43 rfl k_si_224 ?_
  by_cases c46 : (224 : Int32) ≤ x3
  · replace h := (if_pos c46).symm.trans h
    refine x_icmp_ge_t (pc' := 80) dX0_keep_46 (by decide) c46 ?_
    exact x_vret dX0_keep_80 rfl ((tb_dV_ok _).trans h)
  · replace h := (if_neg c46).symm.trans h
    refine x_icmp_ge_f (pc' := 49) dX0_keep_46 (by decide) rfl c46 ?_
    refine x_aload_n (pc' := 50) dX0_keep_49 rfl rfl ?_
    refine x_getR (pc' := 53) dX0_keep_50 rfl lf_0_9 rfl sh_28 rfl ?_
    refine x_iload_n (pc' := 54) dX0_keep_53 rfl rfl ?_
    obtain ⟨j54, hj54, h⟩ := Option.bind_eq_some_iff.mp h
    refine x_iaload (pc' := 55) (v := S 29 j54) dX0_keep_54 rfl sh_29 hj54 rfl ?_
    refine x_iload_n (pc' := 56) dX0_keep_55 rfl rfl ?_
    by_cases c56 : ¬ S 29 j54 = x2
    · replace h := (if_pos c56).symm.trans h
      refine x_icmp_ne_t (pc' := 74) dX0_keep_56 (by decide) c56 ?_
      refine x_iinc (pc' := 77) (w := (1 : Int32)) (ls' := [.ref 28, .int x1, .int x2, .int (x3 + (1 : Int32))]) dX0_keep_74 rfl rfl k_ic_1 rfl ?_
      refine x_goto (pc' := 42) dX0_keep_77 (by decide) ?_
      exact h
    · replace h := (if_neg c56).symm.trans h
      refine x_icmp_ne_f (pc' := 59) dX0_keep_56 (by decide) rfl c56 ?_
      refine x_iload_n (pc' := 60) dX0_keep_59 rfl rfl ?_
      refine x_iload_n (pc' := 61) dX0_keep_60 rfl rfl ?_
      obtain ⟨q61, hq61, h⟩ := Option.bind_eq_some_iff.mp h
      refine x_statI (pc' := 64) (as := [.int x3, .int x1]) (rest := []) dX0_keep_61 rfl lm_0_67 (by decide) rfl rfl rfl rfl hq61 ?_
      by_cases c64 : q61.1 = 0
      · replace h := (if_pos c64).symm.trans h
        refine x_if_eq_t (pc' := 74) dX0_keep_64 (by decide) c64 ?_
        refine x_iinc (pc' := 77) (w := (1 : Int32)) (ls' := [.ref 28, .int x1, .int x2, .int (x3 + (1 : Int32))]) dX0_keep_74 rfl rfl k_ic_1 rfl ?_
        refine x_goto (pc' := 42) dX0_keep_77 (by decide) ?_
        exact h
      · replace h := (if_neg c64).symm.trans h
        refine x_if_eq_f (pc' := 67) dX0_keep_64 (by decide) rfl c64 ?_
        refine x_aload_n (pc' := 68) dX0_keep_67 rfl rfl ?_
        refine x_getR (pc' := 71) dX0_keep_68 rfl lf_0_9 rfl sh_28 rfl ?_
        refine x_iload_n (pc' := 72) dX0_keep_71 rfl rfl ?_
        refine x_iconst (pc' := 73) (w := (-1 : Int32)) dX0_keep_72 rfl k_ic_m1 ?_
        obtain ⟨j73, hj73, h⟩ := Option.bind_eq_some_iff.mp h
        refine x_iastore (pc' := 74) dX0_keep_73 rfl sh_29 hj73 ?_
        refine x_iinc (pc' := 77) (w := (1 : Int32)) (ls' := [.ref 28, .int x1, .int x2, .int (x3 + (1 : Int32))]) dX0_keep_74 rfl rfl k_ic_1 rfl ?_
        refine x_goto (pc' := 42) dX0_keep_77 (by decide) ?_
        exact h
/-! X0_daysAlike (28,) -/
theorem BX0_daysAlike_0 {d : Nat} {x1 x2 x3 x4 x5 x6 : Int32} {w7 : Value} {S : tb_St} {r : Int32 × tb_St} (h : (tb_E d mX0_daysAlike tb_dI 3 [.ref 28, .int x1, .int x2, .int x3, .int x4, .int x5, .int x6, .int x2] [] tb_S S) = some r) : tb_E d mX0_daysAlike tb_dI 0 [.ref 28, .int x1, .int x2, .int x3, .int x4, .int x5, .int x6, w7] [] tb_S S = some r := by
  refine x_iload_n (pc' := 1) dX0_daysAlike_0 rfl rfl ?_
  refine x_istore (pc' := 3) (ls' := [.ref 28, .int x1, .int x2, .int x3, .int x4, .int x5, .int x6, .int x2]) dX0_daysAlike_1 rfl rfl rfl ?_
  exact h
theorem MX0_daysAlike {d : Nat} {x1 : Int32} {x2 : Int32} {x3 : Int32} {x4 : Int32} {x5 : Int32} {x6 : Int32} {S : tb_St} {r : Int32 × tb_St} (h : (tb_E d mX0_daysAlike tb_dI 3 [.ref 28, .int x1, .int x2, .int x3, .int x4, .int x5, .int x6, .int x2] [] tb_S S) = some r) : tb_cI (d + 1) mX0_daysAlike [.ref 28, .int x1, .int x2, .int x3, .int x4, .int x5, .int x6] S = some r := tb_enI rfl rfl (BX0_daysAlike_0 h)
theorem BX0_daysAlike_3 {d : Nat} {x1 x3 x4 x5 x6 x7 : Int32} {w2 : Value} {S : tb_St} {r : Int32 × tb_St} (h : ((if x3 < x7 then some ((1 : Int32), S) else (tb_cI d mX0_hoursAlike [.ref 28, .int x1, .int x7, .int x4, .int x5, .int x6] S).bind fun q19 => (if ¬ q19.1 = 0 then tb_E d mX0_daysAlike tb_dI 3 [.ref 28, .int x1, w2, .int x3, .int x4, .int x5, .int x6, .int (x7 + (1 : Int32))] [] tb_S (q19.2) else some ((0 : Int32), q19.2)))) = some r) : tb_E d mX0_daysAlike tb_dI 3 [.ref 28, .int x1, w2, .int x3, .int x4, .int x5, .int x6, .int x7] [] tb_S S = some r := by
  refine x_iload (pc' := 5) dX0_daysAlike_3 rfl rfl ?_
  refine x_iload_n (pc' := 6) dX0_daysAlike_5 rfl rfl ?_
  by_cases c6 : x3 < x7
  · replace h := (if_pos c6).symm.trans h
    refine x_icmp_gt_t (pc' := 33) dX0_daysAlike_6 (by decide) c6 ?_
    refine x_iconst (pc' := 34) (w := (1 : Int32)) dX0_daysAlike_33 rfl k_ic_1 ?_
    exact x_zret dX0_daysAlike_34 rfl (Or.inr rfl) ((tb_dI_ok _ _).trans h)
  · replace h := (if_neg c6).symm.trans h
    refine x_icmp_gt_f (pc' := 9) dX0_daysAlike_6 (by decide) rfl c6 ?_
    refine x_aload_n (pc' := 10) dX0_daysAlike_9 rfl rfl ?_
    refine x_iload_n (pc' := 11) dX0_daysAlike_10 rfl rfl ?_
    refine x_iload (pc' := 13) dX0_daysAlike_11 rfl rfl ?_
    refine x_iload (pc' := 15) dX0_daysAlike_13 rfl rfl ?_
    refine x_iload (pc' := 17) dX0_daysAlike_15 rfl rfl ?_
    refine x_iload (pc' := 19) dX0_daysAlike_17 rfl rfl ?_
    obtain ⟨q19, hq19, h⟩ := Option.bind_eq_some_iff.mp h
    refine x_virtI (pc' := 22) (o := 28) (as := [.int x1, .int x7, .int x4, .int x5, .int x6]) (rest := []) dX0_daysAlike_19 rfl lm_0_47 rfl rfl rfl sh_28 rfl hq19 ?_
    by_cases c22 : ¬ q19.1 = 0
    · replace h := (if_pos c22).symm.trans h
      refine x_if_ne_t (pc' := 27) dX0_daysAlike_22 (by decide) c22 ?_
      refine x_iinc (pc' := 30) (w := (1 : Int32)) (ls' := [.ref 28, .int x1, w2, .int x3, .int x4, .int x5, .int x6, .int (x7 + (1 : Int32))]) dX0_daysAlike_27 rfl rfl k_ic_1 rfl ?_
      refine x_goto (pc' := 3) dX0_daysAlike_30 (by decide) ?_
      exact h
    · replace h := (if_neg c22).symm.trans h
      refine x_if_ne_f (pc' := 25) dX0_daysAlike_22 (by decide) rfl c22 ?_
      refine x_iconst (pc' := 26) (w := (0 : Int32)) dX0_daysAlike_25 rfl k_ic_0 ?_
      exact x_zret dX0_daysAlike_26 rfl (Or.inl rfl) ((tb_dI_ok _ _).trans h)
/-! X0_hoursAlike (28,) -/
theorem BX0_hoursAlike_0 {d : Nat} {x1 x2 x3 x4 x5 : Int32} {w6 w7 : Value} {S : tb_St} {r : Int32 × tb_St} (h : (tb_E d mX0_hoursAlike tb_dI 3 [.ref 28, .int x1, .int x2, .int x3, .int x4, .int x5, .int x3, w7] [] tb_S S) = some r) : tb_E d mX0_hoursAlike tb_dI 0 [.ref 28, .int x1, .int x2, .int x3, .int x4, .int x5, w6, w7] [] tb_S S = some r := by
  refine x_iload_n (pc' := 1) dX0_hoursAlike_0 rfl rfl ?_
  refine x_istore (pc' := 3) (ls' := [.ref 28, .int x1, .int x2, .int x3, .int x4, .int x5, .int x3, w7]) dX0_hoursAlike_1 rfl rfl rfl ?_
  exact h
theorem MX0_hoursAlike {d : Nat} {x1 : Int32} {x2 : Int32} {x3 : Int32} {x4 : Int32} {x5 : Int32} {S : tb_St} {r : Int32 × tb_St} (h : (tb_E d mX0_hoursAlike tb_dI 3 [.ref 28, .int x1, .int x2, .int x3, .int x4, .int x5, .int x3, tb_jk] [] tb_S S) = some r) : tb_cI (d + 1) mX0_hoursAlike [.ref 28, .int x1, .int x2, .int x3, .int x4, .int x5] S = some r := tb_enI rfl rfl (BX0_hoursAlike_0 h)
theorem BX0_hoursAlike_3 {d : Nat} {x1 x2 x4 x5 x6 : Int32} {w3 w7 : Value} {S : tb_St} {r : Int32 × tb_St} (h : ((if x4 < x6 then some ((1 : Int32), S) else (tb_cI d mX7_caseOf [.int x1, .int x2, .int x6] S).bind fun q14 => (tb_cI d mX7_isCase [.int (q14.1)] (q14.2)).bind fun q21 => (if q21.1 = 0 then some ((0 : Int32), q21.2) else (tb_ix (q14.1) 224).bind fun j33 => (if (q21.2) 29 j33 = x5 then tb_E d mX0_hoursAlike tb_dI 3 [.ref 28, .int x1, .int x2, w3, .int x4, .int x5, .int (x6 + (1 : Int32)), .int (q14.1)] [] tb_S (q21.2) else some ((0 : Int32), q21.2))))) = some r) : tb_E d mX0_hoursAlike tb_dI 3 [.ref 28, .int x1, .int x2, w3, .int x4, .int x5, .int x6, w7] [] tb_S S = some r := by
  refine x_iload (pc' := 5) dX0_hoursAlike_3 rfl rfl ?_
  refine x_iload (pc' := 7) dX0_hoursAlike_5 rfl rfl ?_
  by_cases c7 : x4 < x6
  · replace h := (if_pos c7).symm.trans h
    refine x_icmp_gt_t (pc' := 47) dX0_hoursAlike_7 (by decide) c7 ?_
    refine x_iconst (pc' := 48) (w := (1 : Int32)) dX0_hoursAlike_47 rfl k_ic_1 ?_
    exact x_zret dX0_hoursAlike_48 rfl (Or.inr rfl) ((tb_dI_ok _ _).trans h)
  · replace h := (if_neg c7).symm.trans h
    refine x_icmp_gt_f (pc' := 10) dX0_hoursAlike_7 (by decide) rfl c7 ?_
    refine x_iload_n (pc' := 11) dX0_hoursAlike_10 rfl rfl ?_
    refine x_iload_n (pc' := 12) dX0_hoursAlike_11 rfl rfl ?_
    refine x_iload (pc' := 14) dX0_hoursAlike_12 rfl rfl ?_
    obtain ⟨q14, hq14, h⟩ := Option.bind_eq_some_iff.mp h
    refine x_statI (pc' := 17) (as := [.int x1, .int x2, .int x6]) (rest := []) dX0_hoursAlike_14 rfl lm_0_60 (by decide) rfl rfl rfl rfl hq14 ?_
    refine x_istore (pc' := 19) (ls' := [.ref 28, .int x1, .int x2, w3, .int x4, .int x5, .int x6, .int (q14.1)]) dX0_hoursAlike_17 rfl rfl rfl ?_
    refine x_iload (pc' := 21) dX0_hoursAlike_19 rfl rfl ?_
    obtain ⟨q21, hq21, h⟩ := Option.bind_eq_some_iff.mp h
    refine x_statI (pc' := 24) (as := [.int (q14.1)]) (rest := []) dX0_hoursAlike_21 rfl lm_0_64 (by decide) rfl rfl rfl rfl hq21 ?_
    by_cases c24 : q21.1 = 0
    · replace h := (if_pos c24).symm.trans h
      refine x_if_eq_t (pc' := 39) dX0_hoursAlike_24 (by decide) c24 ?_
      refine x_iconst (pc' := 40) (w := (0 : Int32)) dX0_hoursAlike_39 rfl k_ic_0 ?_
      exact x_zret dX0_hoursAlike_40 rfl (Or.inl rfl) ((tb_dI_ok _ _).trans h)
    · replace h := (if_neg c24).symm.trans h
      refine x_if_eq_f (pc' := 27) dX0_hoursAlike_24 (by decide) rfl c24 ?_
      refine x_aload_n (pc' := 28) dX0_hoursAlike_27 rfl rfl ?_
      refine x_getR (pc' := 31) dX0_hoursAlike_28 rfl lf_0_9 rfl sh_28 rfl ?_
      refine x_iload (pc' := 33) dX0_hoursAlike_31 rfl rfl ?_
      obtain ⟨j33, hj33, h⟩ := Option.bind_eq_some_iff.mp h
      refine x_iaload (pc' := 34) (v := (q21.2) 29 j33) dX0_hoursAlike_33 rfl sh_29 hj33 rfl ?_
      refine x_iload (pc' := 36) dX0_hoursAlike_34 rfl rfl ?_
      by_cases c36 : (q21.2) 29 j33 = x5
      · replace h := (if_pos c36).symm.trans h
        refine x_icmp_eq_t (pc' := 41) dX0_hoursAlike_36 (by decide) c36 ?_
        refine x_iinc (pc' := 44) (w := (1 : Int32)) (ls' := [.ref 28, .int x1, .int x2, w3, .int x4, .int x5, .int (x6 + (1 : Int32)), .int (q14.1)]) dX0_hoursAlike_41 rfl rfl k_ic_1 rfl ?_
        refine x_goto (pc' := 3) dX0_hoursAlike_44 (by decide) ?_
        exact h
      · replace h := (if_neg c36).symm.trans h
        refine x_icmp_eq_f (pc' := 39) dX0_hoursAlike_36 (by decide) rfl c36 ?_
        refine x_iconst (pc' := 40) (w := (0 : Int32)) dX0_hoursAlike_39 rfl k_ic_0 ?_
        exact x_zret dX0_hoursAlike_40 rfl (Or.inl rfl) ((tb_dI_ok _ _).trans h)
/-! X4_goOver (32,) -/
theorem BX4_goOver_0 {d : Nat} {x1 : Int32} {S : tb_St} {r : Int32 × tb_St} (h : ((if ¬ S 32 7 = (-1 : Int32) then tb_E d mX4_goOver tb_dI 24 [.ref 32, .int x1] [] tb_S S else (tb_cI d mX4_here [.ref 32] S).bind fun q9 => (if q9.1 = x1 then tb_E d mX4_goOver tb_dI 24 [.ref 32, .int x1] [] tb_S (q9.2) else (tb_cV d mX4_fail [.ref 32, .int ((q9.2) 32 5)] (q9.2)).bind fun q21 => tb_E d mX4_goOver tb_dI 24 [.ref 32, .int x1] [] tb_S q21))) = some r) : tb_E d mX4_goOver tb_dI 0 [.ref 32, .int x1] [] tb_S S = some r := by
  refine x_aload_n (pc' := 1) dX4_goOver_0 rfl rfl ?_
  refine x_getI (pc' := 4) (v := S 32 7) dX4_goOver_1 rfl lf_4_31 rfl sh_32 rfl ?_
  refine x_iconst (pc' := 5) (w := (-1 : Int32)) dX4_goOver_4 rfl k_ic_m1 ?_
  by_cases c5 : ¬ S 32 7 = (-1 : Int32)
  · replace h := (if_pos c5).symm.trans h
    refine x_icmp_ne_t (pc' := 24) dX4_goOver_5 (by decide) c5 ?_
    exact h
  · replace h := (if_neg c5).symm.trans h
    refine x_icmp_ne_f (pc' := 8) dX4_goOver_5 (by decide) rfl c5 ?_
    refine x_aload_n (pc' := 9) dX4_goOver_8 rfl rfl ?_
    obtain ⟨q9, hq9, h⟩ := Option.bind_eq_some_iff.mp h
    refine x_virtI (pc' := 12) (o := 32) (as := []) (rest := []) dX4_goOver_9 rfl lm_4_64 rfl rfl rfl sh_32 rfl hq9 ?_
    refine x_iload_n (pc' := 13) dX4_goOver_12 rfl rfl ?_
    by_cases c13 : q9.1 = x1
    · replace h := (if_pos c13).symm.trans h
      refine x_icmp_eq_t (pc' := 24) dX4_goOver_13 (by decide) c13 ?_
      exact h
    · replace h := (if_neg c13).symm.trans h
      refine x_icmp_eq_f (pc' := 16) dX4_goOver_13 (by decide) rfl c13 ?_
      refine x_aload_n (pc' := 17) dX4_goOver_16 rfl rfl ?_
      refine x_aload_n (pc' := 18) dX4_goOver_17 rfl rfl ?_
      refine x_getI (pc' := 21) (v := (q9.2) 32 5) dX4_goOver_18 rfl lf_4_25 rfl sh_32 rfl ?_
      obtain ⟨q21, hq21, h⟩ := Option.bind_eq_some_iff.mp h
      refine x_virtV (pc' := 24) (o := 32) (as := [.int ((q9.2) 32 5)]) (rest := []) dX4_goOver_21 rfl lm_4_57 rfl rfl rfl sh_32 rfl hq21 ?_
      exact h
theorem MX4_goOver {d : Nat} {x1 : Int32} {S : tb_St} {r : Int32 × tb_St} (h : ((if ¬ S 32 7 = (-1 : Int32) then tb_E d mX4_goOver tb_dI 24 [.ref 32, .int x1] [] tb_S S else (tb_cI d mX4_here [.ref 32] S).bind fun q9 => (if q9.1 = x1 then tb_E d mX4_goOver tb_dI 24 [.ref 32, .int x1] [] tb_S (q9.2) else (tb_cV d mX4_fail [.ref 32, .int ((q9.2) 32 5)] (q9.2)).bind fun q21 => tb_E d mX4_goOver tb_dI 24 [.ref 32, .int x1] [] tb_S q21))) = some r) : tb_cI (d + 1) mX4_goOver [.ref 32, .int x1] S = some r := tb_enI rfl rfl (BX4_goOver_0 h)
theorem BX4_goOver_24 {d : Nat} {w1 : Value} {S : tb_St} {r : Int32 × tb_St} (h : ((if S 32 7 = (-1 : Int32) then some ((1 : Int32), tb_up S 32 5 ((S 32 5) + (1 : Int32))) else some ((0 : Int32), S))) = some r) : tb_E d mX4_goOver tb_dI 24 [.ref 32, w1] [] tb_S S = some r := by
  refine x_aload_n (pc' := 25) dX4_goOver_24 rfl rfl ?_
  refine x_getI (pc' := 28) (v := S 32 7) dX4_goOver_25 rfl lf_4_31 rfl sh_32 rfl ?_
  refine x_iconst (pc' := 29) (w := (-1 : Int32)) dX4_goOver_28 rfl k_ic_m1 ?_
  by_cases c29 : S 32 7 = (-1 : Int32)
  · replace h := (if_pos c29).symm.trans h
    refine x_icmp_eq_t (pc' := 34) dX4_goOver_29 (by decide) c29 ?_
    refine x_aload_n (pc' := 35) dX4_goOver_34 rfl rfl ?_
    refine x_dup (pc' := 36) dX4_goOver_35 rfl rfl ?_
    refine x_getI (pc' := 39) (v := S 32 5) dX4_goOver_36 rfl lf_4_25 rfl sh_32 rfl ?_
    refine x_iconst (pc' := 40) (w := (1 : Int32)) dX4_goOver_39 rfl k_ic_1 ?_
    refine x_iadd (pc' := 41) dX4_goOver_40 rfl ?_
    refine x_putI (pc' := 44) dX4_goOver_41 rfl lf_4_25 (Or.inl rfl) sh_32 ?_
    refine x_iconst (pc' := 45) (w := (1 : Int32)) dX4_goOver_44 rfl k_ic_1 ?_
    exact x_zret dX4_goOver_45 rfl (Or.inr rfl) ((tb_dI_ok _ _).trans h)
  · replace h := (if_neg c29).symm.trans h
    refine x_icmp_eq_f (pc' := 32) dX4_goOver_29 (by decide) rfl c29 ?_
    refine x_iconst (pc' := 33) (w := (0 : Int32)) dX4_goOver_32 rfl k_ic_0 ?_
    exact x_zret dX4_goOver_33 rfl (Or.inl rfl) ((tb_dI_ok _ _).trans h)
/-! X4_readBox (32,) -/
theorem BX4_readBox_0 {d : Nat} {w1 w2 w3 w4 : Value} {S : tb_St} {r : Int32 × tb_St} (h : (tb_E d mX4_readBox tb_dI 6 [.ref 32, .int (0 : Int32), .int (0 : Int32), .int (0 : Int32), w4] [] tb_S S) = some r) : tb_E d mX4_readBox tb_dI 0 [.ref 32, w1, w2, w3, w4] [] tb_S S = some r := by
  refine x_iconst (pc' := 1) (w := (0 : Int32)) dX4_readBox_0 rfl k_ic_0 ?_
  refine x_istore_n (pc' := 2) (ls' := [.ref 32, .int (0 : Int32), w2, w3, w4]) dX4_readBox_1 rfl rfl rfl ?_
  refine x_iconst (pc' := 3) (w := (0 : Int32)) dX4_readBox_2 rfl k_ic_0 ?_
  refine x_istore_n (pc' := 4) (ls' := [.ref 32, .int (0 : Int32), .int (0 : Int32), w3, w4]) dX4_readBox_3 rfl rfl rfl ?_
  refine x_iconst (pc' := 5) (w := (0 : Int32)) dX4_readBox_4 rfl k_ic_0 ?_
  refine x_istore_n (pc' := 6) (ls' := [.ref 32, .int (0 : Int32), .int (0 : Int32), .int (0 : Int32), w4]) dX4_readBox_5 rfl rfl rfl ?_
  exact h
theorem MX4_readBox {d : Nat} {S : tb_St} {r : Int32 × tb_St} (h : (tb_E d mX4_readBox tb_dI 6 [.ref 32, .int (0 : Int32), .int (0 : Int32), .int (0 : Int32), tb_jk] [] tb_S S) = some r) : tb_cI (d + 1) mX4_readBox [.ref 32] S = some r := tb_enI rfl rfl (BX4_readBox_0 h)
theorem BX4_readBox_6 {d : Nat} {x1 x2 x3 : Int32} {w4 : Value} {S : tb_St} {r : Int32 × tb_St} (h : ((if (6 : Int32) ≤ x3 then some (x1, S) else (if ¬ S 32 7 = (-1 : Int32) then some (x1, S) else (tb_cI d mX4_here [.ref 32] S).bind fun q21 => (tb_cI d mX7_canBe [.int ((q21.1) - (48 : Int32)), .int x3, .int x2] (q21.2)).bind fun q33 => (if q33.1 = 0 then (tb_cV d mX4_fail [.ref 32, .int ((q33.2) 32 5)] (q33.2)).bind fun q57 => tb_E d mX4_readBox tb_dI 60 [.ref 32, .int x1, .int x2, .int x3, .int ((q21.1) - (48 : Int32))] [] tb_S q57 else tb_E d mX4_readBox tb_dI 60 [.ref 32, .int x1, .int x2, .int x3, .int ((q21.1) - (48 : Int32))] [] tb_S (tb_up (q33.2) 32 5 (((q33.2) 32 5) + (1 : Int32))))))) = some r) : tb_E d mX4_readBox tb_dI 6 [.ref 32, .int x1, .int x2, .int x3, w4] [] tb_S S = some r := by
  refine x_iload_n (pc' := 7) dX4_readBox_6 rfl rfl ?_
  refine x_bipush (pc' := 9) (w := (6 : Int32)) dX4_readBox_7 rfl k_bi_6 ?_
  by_cases c9 : (6 : Int32) ≤ x3
  · replace h := (if_pos c9).symm.trans h
    refine x_icmp_ge_t (pc' := 77) dX4_readBox_9 (by decide) c9 ?_
    refine x_iload_n (pc' := 78) dX4_readBox_77 rfl rfl ?_
    exact x_iret dX4_readBox_78 rfl ((tb_dI_ok _ _).trans h)
  · replace h := (if_neg c9).symm.trans h
    refine x_icmp_ge_f (pc' := 12) dX4_readBox_9 (by decide) rfl c9 ?_
    refine x_aload_n (pc' := 13) dX4_readBox_12 rfl rfl ?_
    refine x_getI (pc' := 16) (v := S 32 7) dX4_readBox_13 rfl lf_4_31 rfl sh_32 rfl ?_
    refine x_iconst (pc' := 17) (w := (-1 : Int32)) dX4_readBox_16 rfl k_ic_m1 ?_
    by_cases c17 : ¬ S 32 7 = (-1 : Int32)
    · replace h := (if_pos c17).symm.trans h
      refine x_icmp_ne_t (pc' := 77) dX4_readBox_17 (by decide) c17 ?_
      refine x_iload_n (pc' := 78) dX4_readBox_77 rfl rfl ?_
      exact x_iret dX4_readBox_78 rfl ((tb_dI_ok _ _).trans h)
    · replace h := (if_neg c17).symm.trans h
      refine x_icmp_ne_f (pc' := 20) dX4_readBox_17 (by decide) rfl c17 ?_
      refine x_aload_n (pc' := 21) dX4_readBox_20 rfl rfl ?_
      obtain ⟨q21, hq21, h⟩ := Option.bind_eq_some_iff.mp h
      refine x_virtI (pc' := 24) (o := 32) (as := []) (rest := []) dX4_readBox_21 rfl lm_4_64 rfl rfl rfl sh_32 rfl hq21 ?_
      refine x_bipush (pc' := 26) (w := (48 : Int32)) dX4_readBox_24 rfl k_bi_48 ?_
      refine x_isub (pc' := 27) dX4_readBox_26 rfl ?_
      refine x_istore (pc' := 29) (ls' := [.ref 32, .int x1, .int x2, .int x3, .int ((q21.1) - (48 : Int32))]) dX4_readBox_27 rfl rfl rfl ?_
      refine x_iload (pc' := 31) dX4_readBox_29 rfl rfl ?_
      refine x_iload_n (pc' := 32) dX4_readBox_31 rfl rfl ?_
      refine x_iload_n (pc' := 33) dX4_readBox_32 rfl rfl ?_
      obtain ⟨q33, hq33, h⟩ := Option.bind_eq_some_iff.mp h
      refine x_statI (pc' := 36) (as := [.int ((q21.1) - (48 : Int32)), .int x3, .int x2]) (rest := []) dX4_readBox_33 rfl lm_4_95 (by decide) rfl rfl rfl rfl hq33 ?_
      by_cases c36 : q33.1 = 0
      · replace h := (if_pos c36).symm.trans h
        refine x_if_eq_t (pc' := 52) dX4_readBox_36 (by decide) c36 ?_
        refine x_aload_n (pc' := 53) dX4_readBox_52 rfl rfl ?_
        refine x_aload_n (pc' := 54) dX4_readBox_53 rfl rfl ?_
        refine x_getI (pc' := 57) (v := (q33.2) 32 5) dX4_readBox_54 rfl lf_4_25 rfl sh_32 rfl ?_
        obtain ⟨q57, hq57, h⟩ := Option.bind_eq_some_iff.mp h
        refine x_virtV (pc' := 60) (o := 32) (as := [.int ((q33.2) 32 5)]) (rest := []) dX4_readBox_57 rfl lm_4_57 rfl rfl rfl sh_32 rfl hq57 ?_
        exact h
      · replace h := (if_neg c36).symm.trans h
        refine x_if_eq_f (pc' := 39) dX4_readBox_36 (by decide) rfl c36 ?_
        refine x_aload_n (pc' := 40) dX4_readBox_39 rfl rfl ?_
        refine x_dup (pc' := 41) dX4_readBox_40 rfl rfl ?_
        refine x_getI (pc' := 44) (v := (q33.2) 32 5) dX4_readBox_41 rfl lf_4_25 rfl sh_32 rfl ?_
        refine x_iconst (pc' := 45) (w := (1 : Int32)) dX4_readBox_44 rfl k_ic_1 ?_
        refine x_iadd (pc' := 46) dX4_readBox_45 rfl ?_
        refine x_putI (pc' := 49) dX4_readBox_46 rfl lf_4_25 (Or.inl rfl) sh_32 ?_
        refine x_goto (pc' := 60) dX4_readBox_49 (by decide) ?_
        exact h
theorem BX4_readBox_60 {d : Nat} {x1 x3 x4 : Int32} {w2 : Value} {S : tb_St} {r : Int32 × tb_St} (h : (tb_E d mX4_readBox tb_dI 6 [.ref 32, .int (((10 : Int32) * x1) + x4), .int x4, .int (x3 + (1 : Int32)), .int x4] [] tb_S S) = some r) : tb_E d mX4_readBox tb_dI 60 [.ref 32, .int x1, w2, .int x3, .int x4] [] tb_S S = some r := by
  refine x_bipush (pc' := 62) (w := (10 : Int32)) dX4_readBox_60 rfl k_bi_10 ?_
  refine x_iload_n (pc' := 63) dX4_readBox_62 rfl rfl ?_
  refine x_imul (pc' := 64) dX4_readBox_63 rfl ?_
  refine x_iload (pc' := 66) dX4_readBox_64 rfl rfl ?_
  refine x_iadd (pc' := 67) dX4_readBox_66 rfl ?_
  refine x_istore_n (pc' := 68) (ls' := [.ref 32, .int (((10 : Int32) * x1) + x4), w2, .int x3, .int x4]) dX4_readBox_67 rfl rfl rfl ?_
  refine x_iload (pc' := 70) dX4_readBox_68 rfl rfl ?_
  refine x_istore_n (pc' := 71) (ls' := [.ref 32, .int (((10 : Int32) * x1) + x4), .int x4, .int x3, .int x4]) dX4_readBox_70 rfl rfl rfl ?_
  refine x_iinc (pc' := 74) (w := (1 : Int32)) (ls' := [.ref 32, .int (((10 : Int32) * x1) + x4), .int x4, .int (x3 + (1 : Int32)), .int x4]) dX4_readBox_71 rfl rfl k_ic_1 rfl ?_
  refine x_goto (pc' := 6) dX4_readBox_74 (by decide) ?_
  exact h
/-! X7_hourOf () -/
theorem BX7_hourOf_0 {d : Nat} {x0 : Int32} {S : tb_St} {r : Int32 × tb_St} (h : (some (tb_rem x0 (4 : Int32), S)) = some r) : tb_E d mX7_hourOf tb_dI 0 [.int x0] [] tb_S S = some r := by
  refine x_iload_n (pc' := 1) dX7_hourOf_0 rfl rfl ?_
  refine x_iconst (pc' := 2) (w := (4 : Int32)) dX7_hourOf_1 rfl k_ic_4 ?_
  refine x_irem (pc' := 3) dX7_hourOf_2 rfl (by decide) ?_
  exact x_iret dX7_hourOf_3 rfl ((tb_dI_ok _ _).trans h)
theorem MX7_hourOf {d : Nat} {x0 : Int32} {S : tb_St} {r : Int32 × tb_St} (h : (some (tb_rem x0 (4 : Int32), S)) = some r) : tb_cI (d + 1) mX7_hourOf [.int x0] S = some r := tb_enI rfl rfl (BX7_hourOf_0 h)
/-! X7_dayOf () -/
theorem BX7_dayOf_0 {d : Nat} {x0 : Int32} {S : tb_St} {r : Int32 × tb_St} (h : (some (tb_rem (x0 / (4 : Int32)) (7 : Int32), S)) = some r) : tb_E d mX7_dayOf tb_dI 0 [.int x0] [] tb_S S = some r := by
  refine x_iload_n (pc' := 1) dX7_dayOf_0 rfl rfl ?_
  refine x_iconst (pc' := 2) (w := (4 : Int32)) dX7_dayOf_1 rfl k_ic_4 ?_
  refine x_idiv (pc' := 3) dX7_dayOf_2 rfl (by decide) ?_
  refine x_bipush (pc' := 5) (w := (7 : Int32)) dX7_dayOf_3 rfl k_bi_7 ?_
  refine x_irem (pc' := 6) dX7_dayOf_5 rfl (by decide) ?_
  exact x_iret dX7_dayOf_6 rfl ((tb_dI_ok _ _).trans h)
theorem MX7_dayOf {d : Nat} {x0 : Int32} {S : tb_St} {r : Int32 × tb_St} (h : (some (tb_rem (x0 / (4 : Int32)) (7 : Int32), S)) = some r) : tb_cI (d + 1) mX7_dayOf [.int x0] S = some r := tb_enI rfl rfl (BX7_dayOf_0 h)
/-! X3_isWithin (38,) -/
theorem BX3_isWithin_0 {d : Nat} {x1 x2 x3 : Int32} {S : tb_St} {r : Int32 × tb_St} (h : ((tb_cI d mX3_at [.ref 38, .int x2, .int x3] S).bind fun q4 => (if x1 < q4.1 then some ((0 : Int32), q4.2) else (tb_cI d mX3_at [.ref 38, .int x2, .int (x3 + (1 : Int32))] (q4.2)).bind fun q16 => (if q16.1 < x1 then some ((0 : Int32), q16.2) else some ((1 : Int32), q16.2)))) = some r) : tb_E d mX3_isWithin tb_dI 0 [.ref 38, .int x1, .int x2, .int x3] [] tb_S S = some r := by
  refine x_iload_n (pc' := 1) dX3_isWithin_0 rfl rfl ?_
  refine x_aload_n (pc' := 2) dX3_isWithin_1 rfl rfl ?_
  refine x_iload_n (pc' := 3) dX3_isWithin_2 rfl rfl ?_
  refine x_iload_n (pc' := 4) dX3_isWithin_3 rfl rfl ?_
  obtain ⟨q4, hq4, h⟩ := Option.bind_eq_some_iff.mp h
  refine x_virtI (pc' := 7) (o := 38) (as := [.int x2, .int x3]) (rest := [.int x1]) dX3_isWithin_4 rfl lm_3_35 rfl rfl rfl sh_38 rfl hq4 ?_
  by_cases c7 : x1 < q4.1
  · replace h := (if_pos c7).symm.trans h
    refine x_icmp_lt_t (pc' := 26) dX3_isWithin_7 (by decide) c7 ?_
    refine x_iconst (pc' := 27) (w := (0 : Int32)) dX3_isWithin_26 rfl k_ic_0 ?_
    exact x_zret dX3_isWithin_27 rfl (Or.inl rfl) ((tb_dI_ok _ _).trans h)
  · replace h := (if_neg c7).symm.trans h
    refine x_icmp_lt_f (pc' := 10) dX3_isWithin_7 (by decide) rfl c7 ?_
    refine x_iload_n (pc' := 11) dX3_isWithin_10 rfl rfl ?_
    refine x_aload_n (pc' := 12) dX3_isWithin_11 rfl rfl ?_
    refine x_iload_n (pc' := 13) dX3_isWithin_12 rfl rfl ?_
    refine x_iload_n (pc' := 14) dX3_isWithin_13 rfl rfl ?_
    refine x_iconst (pc' := 15) (w := (1 : Int32)) dX3_isWithin_14 rfl k_ic_1 ?_
    refine x_iadd (pc' := 16) dX3_isWithin_15 rfl ?_
    obtain ⟨q16, hq16, h⟩ := Option.bind_eq_some_iff.mp h
    refine x_virtI (pc' := 19) (o := 38) (as := [.int x2, .int (x3 + (1 : Int32))]) (rest := [.int x1]) dX3_isWithin_16 rfl lm_3_35 rfl rfl rfl sh_38 rfl hq16 ?_
    by_cases c19 : q16.1 < x1
    · replace h := (if_pos c19).symm.trans h
      refine x_icmp_gt_t (pc' := 26) dX3_isWithin_19 (by decide) c19 ?_
      refine x_iconst (pc' := 27) (w := (0 : Int32)) dX3_isWithin_26 rfl k_ic_0 ?_
      exact x_zret dX3_isWithin_27 rfl (Or.inl rfl) ((tb_dI_ok _ _).trans h)
    · replace h := (if_neg c19).symm.trans h
      refine x_icmp_gt_f (pc' := 22) dX3_isWithin_19 (by decide) rfl c19 ?_
      refine x_iconst (pc' := 23) (w := (1 : Int32)) dX3_isWithin_22 rfl k_ic_1 ?_
      refine x_goto (pc' := 27) dX3_isWithin_23 (by decide) ?_
      exact x_zret dX3_isWithin_27 rfl (Or.inr rfl) ((tb_dI_ok _ _).trans h)
theorem MX3_isWithin {d : Nat} {x1 : Int32} {x2 : Int32} {x3 : Int32} {S : tb_St} {r : Int32 × tb_St} (h : ((tb_cI d mX3_at [.ref 38, .int x2, .int x3] S).bind fun q4 => (if x1 < q4.1 then some ((0 : Int32), q4.2) else (tb_cI d mX3_at [.ref 38, .int x2, .int (x3 + (1 : Int32))] (q4.2)).bind fun q16 => (if q16.1 < x1 then some ((0 : Int32), q16.2) else some ((1 : Int32), q16.2)))) = some r) : tb_cI (d + 1) mX3_isWithin [.ref 38, .int x1, .int x2, .int x3] S = some r := tb_enI rfl rfl (BX3_isWithin_0 h)
/-! X7_ageOf () -/
theorem BX7_ageOf_0 {d : Nat} {x0 : Int32} {S : tb_St} {r : Int32 × tb_St} (h : (some (x0 / (28 : Int32), S)) = some r) : tb_E d mX7_ageOf tb_dI 0 [.int x0] [] tb_S S = some r := by
  refine x_iload_n (pc' := 1) dX7_ageOf_0 rfl rfl ?_
  refine x_bipush (pc' := 3) (w := (28 : Int32)) dX7_ageOf_1 rfl k_bi_28 ?_
  refine x_idiv (pc' := 4) dX7_ageOf_3 rfl (by decide) ?_
  exact x_iret dX7_ageOf_4 rfl ((tb_dI_ok _ _).trans h)
theorem MX7_ageOf {d : Nat} {x0 : Int32} {S : tb_St} {r : Int32 × tb_St} (h : (some (x0 / (28 : Int32), S)) = some r) : tb_cI (d + 1) mX7_ageOf [.int x0] S = some r := tb_enI rfl rfl (BX7_ageOf_0 h)
/-! X8_all (45,) -/
theorem BX8_all_0 {d : Nat} {x1 x2 x3 x4 x5 x6 x7 : Int32} {w8 w9 w10 : Value} {S : tb_St} {r : Int32 × tb_St} (h : (tb_E d mX8_all tb_dI 3 [.ref 45, .int x1, .int x2, .int x3, .int x4, .int x5, .int x6, .int x7, .int x1, w9, w10] [] tb_S S) = some r) : tb_E d mX8_all tb_dI 0 [.ref 45, .int x1, .int x2, .int x3, .int x4, .int x5, .int x6, .int x7, w8, w9, w10] [] tb_S S = some r := by
  refine x_iload_n (pc' := 1) dX8_all_0 rfl rfl ?_
  refine x_istore (pc' := 3) (ls' := [.ref 45, .int x1, .int x2, .int x3, .int x4, .int x5, .int x6, .int x7, .int x1, w9, w10]) dX8_all_1 rfl rfl rfl ?_
  exact h
theorem MX8_all {d : Nat} {x1 : Int32} {x2 : Int32} {x3 : Int32} {x4 : Int32} {x5 : Int32} {x6 : Int32} {x7 : Int32} {S : tb_St} {r : Int32 × tb_St} (h : (tb_E d mX8_all tb_dI 3 [.ref 45, .int x1, .int x2, .int x3, .int x4, .int x5, .int x6, .int x7, .int x1, tb_jk, tb_jk] [] tb_S S) = some r) : tb_cI (d + 1) mX8_all [.ref 45, .int x1, .int x2, .int x3, .int x4, .int x5, .int x6, .int x7] S = some r := tb_enI rfl rfl (BX8_all_0 h)
theorem BX8_all_3 {d : Nat} {x2 x3 x4 x5 x6 x7 x8 : Int32} {w1 w9 w10 : Value} {S : tb_St} {r : Int32 × tb_St} (h : ((if x2 < x8 then some ((1 : Int32), S) else tb_E d mX8_all tb_dI 12 [.ref 45, w1, .int x2, .int x3, .int x4, .int x5, .int x6, .int x7, .int x8, .int x3, w10] [] tb_S S)) = some r) : tb_E d mX8_all tb_dI 3 [.ref 45, w1, .int x2, .int x3, .int x4, .int x5, .int x6, .int x7, .int x8, w9, w10] [] tb_S S = some r := by
  refine x_iload (pc' := 5) dX8_all_3 rfl rfl ?_
  refine x_iload_n (pc' := 6) dX8_all_5 rfl rfl ?_
  by_cases c6 : x2 < x8
  · replace h := (if_pos c6).symm.trans h
    refine x_icmp_gt_t (pc' := 72) dX8_all_6 (by decide) c6 ?_
    refine x_iconst (pc' := 73) (w := (1 : Int32)) dX8_all_72 rfl k_ic_1 ?_
    exact x_zret dX8_all_73 rfl (Or.inr rfl) ((tb_dI_ok _ _).trans h)
  · replace h := (if_neg c6).symm.trans h
    refine x_icmp_gt_f (pc' := 9) dX8_all_6 (by decide) rfl c6 ?_
    refine x_iload_n (pc' := 10) dX8_all_9 rfl rfl ?_
    refine x_istore (pc' := 12) (ls' := [.ref 45, w1, .int x2, .int x3, .int x4, .int x5, .int x6, .int x7, .int x8, .int x3, w10]) dX8_all_10 rfl rfl rfl ?_
    exact h
theorem BX8_all_12 {d : Nat} {x2 x3 x4 x5 x6 x7 x8 x9 : Int32} {w1 w10 : Value} {S : tb_St} {r : Int32 × tb_St} (h : ((if x4 < x9 then tb_E d mX8_all tb_dI 3 [.ref 45, w1, .int x2, .int x3, .int x4, .int x5, .int x6, .int x7, .int (x8 + (1 : Int32)), .int x9, w10] [] tb_S S else tb_E d mX8_all tb_dI 23 [.ref 45, w1, .int x2, .int x3, .int x4, .int x5, .int x6, .int x7, .int x8, .int x9, .int x5] [] tb_S S)) = some r) : tb_E d mX8_all tb_dI 12 [.ref 45, w1, .int x2, .int x3, .int x4, .int x5, .int x6, .int x7, .int x8, .int x9, w10] [] tb_S S = some r := by
  refine x_iload (pc' := 14) dX8_all_12 rfl rfl ?_
  refine x_iload (pc' := 16) dX8_all_14 rfl rfl ?_
  by_cases c16 : x4 < x9
  · replace h := (if_pos c16).symm.trans h
    refine x_icmp_gt_t (pc' := 66) dX8_all_16 (by decide) c16 ?_
    refine x_iinc (pc' := 69) (w := (1 : Int32)) (ls' := [.ref 45, w1, .int x2, .int x3, .int x4, .int x5, .int x6, .int x7, .int (x8 + (1 : Int32)), .int x9, w10]) dX8_all_66 rfl rfl k_ic_1 rfl ?_
    refine x_goto (pc' := 3) dX8_all_69 (by decide) ?_
    exact h
  · replace h := (if_neg c16).symm.trans h
    refine x_icmp_gt_f (pc' := 19) dX8_all_16 (by decide) rfl c16 ?_
    refine x_iload (pc' := 21) dX8_all_19 rfl rfl ?_
    refine x_istore (pc' := 23) (ls' := [.ref 45, w1, .int x2, .int x3, .int x4, .int x5, .int x6, .int x7, .int x8, .int x9, .int x5]) dX8_all_21 rfl rfl rfl ?_
    exact h
theorem BX8_all_23 {d : Nat} {x2 x3 x4 x5 x6 x7 x8 x9 x10 : Int32} {w1 : Value} {S : tb_St} {r : Int32 × tb_St} (h : ((if x6 < x10 then tb_E d mX8_all tb_dI 12 [.ref 45, w1, .int x2, .int x3, .int x4, .int x5, .int x6, .int x7, .int x8, .int (x9 + (1 : Int32)), .int x10] [] tb_S S else (tb_cI d mX8_goesWith [.ref 45, .int ((((28 : Int32) * x8) + ((4 : Int32) * x9)) + x10), .int x7] S).bind fun q46 => (if ¬ q46.1 = 0 then tb_E d mX8_all tb_dI 23 [.ref 45, w1, .int x2, .int x3, .int x4, .int x5, .int x6, .int x7, .int x8, .int x9, .int (x10 + (1 : Int32))] [] tb_S (q46.2) else some ((0 : Int32), q46.2)))) = some r) : tb_E d mX8_all tb_dI 23 [.ref 45, w1, .int x2, .int x3, .int x4, .int x5, .int x6, .int x7, .int x8, .int x9, .int x10] [] tb_S S = some r := by
  refine x_iload (pc' := 25) dX8_all_23 rfl rfl ?_
  refine x_iload (pc' := 27) dX8_all_25 rfl rfl ?_
  by_cases c27 : x6 < x10
  · replace h := (if_pos c27).symm.trans h
    refine x_icmp_gt_t (pc' := 60) dX8_all_27 (by decide) c27 ?_
    refine x_iinc (pc' := 63) (w := (1 : Int32)) (ls' := [.ref 45, w1, .int x2, .int x3, .int x4, .int x5, .int x6, .int x7, .int x8, .int (x9 + (1 : Int32)), .int x10]) dX8_all_60 rfl rfl k_ic_1 rfl ?_
    refine x_goto (pc' := 12) dX8_all_63 (by decide) ?_
    exact h
  · replace h := (if_neg c27).symm.trans h
    refine x_icmp_gt_f (pc' := 30) dX8_all_27 (by decide) rfl c27 ?_
    refine x_aload_n (pc' := 31) dX8_all_30 rfl rfl ?_
    refine x_bipush (pc' := 33) (w := (28 : Int32)) dX8_all_31 rfl k_bi_28 ?_
    refine x_iload (pc' := 35) dX8_all_33 rfl rfl ?_
    refine x_imul (pc' := 36) dX8_all_35 rfl ?_
    refine x_iconst (pc' := 37) (w := (4 : Int32)) dX8_all_36 rfl k_ic_4 ?_
    refine x_iload (pc' := 39) dX8_all_37 rfl rfl ?_
    refine x_imul (pc' := 40) dX8_all_39 rfl ?_
    refine x_iadd (pc' := 41) dX8_all_40 rfl ?_
    refine x_iload (pc' := 43) dX8_all_41 rfl rfl ?_
    refine x_iadd (pc' := 44) dX8_all_43 rfl ?_
    refine x_iload (pc' := 46) dX8_all_44 rfl rfl ?_
    obtain ⟨q46, hq46, h⟩ := Option.bind_eq_some_iff.mp h
    refine x_virtI (pc' := 49) (o := 45) (as := [.int ((((28 : Int32) * x8) + ((4 : Int32) * x9)) + x10), .int x7]) (rest := []) dX8_all_46 rfl lm_8_222 rfl rfl rfl sh_45 rfl hq46 ?_
    by_cases c49 : ¬ q46.1 = 0
    · replace h := (if_pos c49).symm.trans h
      refine x_if_ne_t (pc' := 54) dX8_all_49 (by decide) c49 ?_
      refine x_iinc (pc' := 57) (w := (1 : Int32)) (ls' := [.ref 45, w1, .int x2, .int x3, .int x4, .int x5, .int x6, .int x7, .int x8, .int x9, .int (x10 + (1 : Int32))]) dX8_all_54 rfl rfl k_ic_1 rfl ?_
      refine x_goto (pc' := 23) dX8_all_57 (by decide) ?_
      exact h
    · replace h := (if_neg c49).symm.trans h
      refine x_if_ne_f (pc' := 52) dX8_all_49 (by decide) rfl c49 ?_
      refine x_iconst (pc' := 53) (w := (0 : Int32)) dX8_all_52 rfl k_ic_0 ?_
      exact x_zret dX8_all_53 rfl (Or.inl rfl) ((tb_dI_ok _ _).trans h)
/-! X0_takeFrom (28,) -/
theorem BX0_takeFrom_0 {d : Nat} {x1 : Int32} {w2 w3 w4 w5 w6 w7 w8 : Value} {S : tb_St} {r : tb_St} (h : ((tb_ix x1 224).bind fun j5 => (tb_cI d mX7_ageOf [.int x1] S).bind fun q8 => (tb_cI d mX7_dayOf [.int x1] (q8.2)).bind fun q13 => (tb_cI d mX7_hourOf [.int x1] (q13.2)).bind fun q19 => tb_E d mX0_takeFrom tb_dV 28 [.ref 28, .int x1, .int (S 29 j5), .int (q8.1), .int (q13.1), .int (q19.1), .int (q19.1), w7, w8] [] tb_S (q19.2)) = some r) : tb_E d mX0_takeFrom tb_dV 0 [.ref 28, .int x1, w2, w3, w4, w5, w6, w7, w8] [] tb_S S = some r := by
  refine x_aload_n (pc' := 1) dX0_takeFrom_0 rfl rfl ?_
  refine x_getR (pc' := 4) dX0_takeFrom_1 rfl lf_0_9 rfl sh_28 rfl ?_
  refine x_iload_n (pc' := 5) dX0_takeFrom_4 rfl rfl ?_
  obtain ⟨j5, hj5, h⟩ := Option.bind_eq_some_iff.mp h
  refine x_iaload (pc' := 6) (v := S 29 j5) dX0_takeFrom_5 rfl sh_29 hj5 rfl ?_
  refine x_istore_n (pc' := 7) (ls' := [.ref 28, .int x1, .int (S 29 j5), w3, w4, w5, w6, w7, w8]) dX0_takeFrom_6 rfl rfl rfl ?_
  refine x_iload_n (pc' := 8) dX0_takeFrom_7 rfl rfl ?_
  obtain ⟨q8, hq8, h⟩ := Option.bind_eq_some_iff.mp h
  refine x_statI (pc' := 11) (as := [.int x1]) (rest := []) dX0_takeFrom_8 rfl lm_0_37 (by decide) rfl rfl rfl rfl hq8 ?_
  refine x_istore_n (pc' := 12) (ls' := [.ref 28, .int x1, .int (S 29 j5), .int (q8.1), w4, w5, w6, w7, w8]) dX0_takeFrom_11 rfl rfl rfl ?_
  refine x_iload_n (pc' := 13) dX0_takeFrom_12 rfl rfl ?_
  obtain ⟨q13, hq13, h⟩ := Option.bind_eq_some_iff.mp h
  refine x_statI (pc' := 16) (as := [.int x1]) (rest := []) dX0_takeFrom_13 rfl lm_0_41 (by decide) rfl rfl rfl rfl hq13 ?_
  refine x_istore (pc' := 18) (ls' := [.ref 28, .int x1, .int (S 29 j5), .int (q8.1), .int (q13.1), w5, w6, w7, w8]) dX0_takeFrom_16 rfl rfl rfl ?_
  refine x_iload_n (pc' := 19) dX0_takeFrom_18 rfl rfl ?_
  obtain ⟨q19, hq19, h⟩ := Option.bind_eq_some_iff.mp h
  refine x_statI (pc' := 22) (as := [.int x1]) (rest := []) dX0_takeFrom_19 rfl lm_0_44 (by decide) rfl rfl rfl rfl hq19 ?_
  refine x_istore (pc' := 24) (ls' := [.ref 28, .int x1, .int (S 29 j5), .int (q8.1), .int (q13.1), .int (q19.1), w6, w7, w8]) dX0_takeFrom_22 rfl rfl rfl ?_
  refine x_iload (pc' := 26) dX0_takeFrom_24 rfl rfl ?_
  refine x_istore (pc' := 28) (ls' := [.ref 28, .int x1, .int (S 29 j5), .int (q8.1), .int (q13.1), .int (q19.1), .int (q19.1), w7, w8]) dX0_takeFrom_26 rfl rfl rfl ?_
  exact h
theorem MX0_takeFrom {d : Nat} {x1 : Int32} {S : tb_St} {r : tb_St} (h : ((tb_ix x1 224).bind fun j5 => (tb_cI d mX7_ageOf [.int x1] S).bind fun q8 => (tb_cI d mX7_dayOf [.int x1] (q8.2)).bind fun q13 => (tb_cI d mX7_hourOf [.int x1] (q13.2)).bind fun q19 => tb_E d mX0_takeFrom tb_dV 28 [.ref 28, .int x1, .int (S 29 j5), .int (q8.1), .int (q13.1), .int (q19.1), .int (q19.1), tb_jk, tb_jk] [] tb_S (q19.2)) = some r) : tb_cV (d + 1) mX0_takeFrom [.ref 28, .int x1] S = some r := tb_enV rfl rfl (BX0_takeFrom_0 h)
theorem BX0_takeFrom_28 {d : Nat} {x2 x3 x4 x5 x6 : Int32} {w1 w7 w8 : Value} {S : tb_St} {r : tb_St} (h : ((if (3 : Int32) ≤ x6 then tb_E d mX0_takeFrom tb_dV 63 [.ref 28, w1, .int x2, .int x3, .int x4, .int x5, .int x6, .int x4, w8] [] tb_S S else (tb_cI d mX0_hoursAlike [.ref 28, .int x3, .int x4, .int (x6 + (1 : Int32)), .int (x6 + (1 : Int32)), .int x2] S).bind fun q47 => (if q47.1 = 0 then tb_E d mX0_takeFrom tb_dV 63 [.ref 28, w1, .int x2, .int x3, .int x4, .int x5, .int x6, .int x4, w8] [] tb_S (q47.2) else tb_E d mX0_takeFrom tb_dV 28 [.ref 28, w1, .int x2, .int x3, .int x4, .int x5, .int (x6 + (1 : Int32)), w7, w8] [] tb_S (q47.2)))) = some r) : tb_E d mX0_takeFrom tb_dV 28 [.ref 28, w1, .int x2, .int x3, .int x4, .int x5, .int x6, w7, w8] [] tb_S S = some r := by
  refine x_iload (pc' := 30) dX0_takeFrom_28 rfl rfl ?_
  refine x_iconst (pc' := 31) (w := (3 : Int32)) dX0_takeFrom_30 rfl k_ic_3 ?_
  by_cases c31 : (3 : Int32) ≤ x6
  · replace h := (if_pos c31).symm.trans h
    refine x_icmp_ge_t (pc' := 59) dX0_takeFrom_31 (by decide) c31 ?_
    refine x_iload (pc' := 61) dX0_takeFrom_59 rfl rfl ?_
    refine x_istore (pc' := 63) (ls' := [.ref 28, w1, .int x2, .int x3, .int x4, .int x5, .int x6, .int x4, w8]) dX0_takeFrom_61 rfl rfl rfl ?_
    exact h
  · replace h := (if_neg c31).symm.trans h
    refine x_icmp_ge_f (pc' := 34) dX0_takeFrom_31 (by decide) rfl c31 ?_
    refine x_aload_n (pc' := 35) dX0_takeFrom_34 rfl rfl ?_
    refine x_iload_n (pc' := 36) dX0_takeFrom_35 rfl rfl ?_
    refine x_iload (pc' := 38) dX0_takeFrom_36 rfl rfl ?_
    refine x_iload (pc' := 40) dX0_takeFrom_38 rfl rfl ?_
    refine x_iconst (pc' := 41) (w := (1 : Int32)) dX0_takeFrom_40 rfl k_ic_1 ?_
    refine x_iadd (pc' := 42) dX0_takeFrom_41 rfl ?_
    refine x_iload (pc' := 44) dX0_takeFrom_42 rfl rfl ?_
    refine x_iconst (pc' := 45) (w := (1 : Int32)) dX0_takeFrom_44 rfl k_ic_1 ?_
    refine x_iadd (pc' := 46) dX0_takeFrom_45 rfl ?_
    refine x_iload_n (pc' := 47) dX0_takeFrom_46 rfl rfl ?_
    obtain ⟨q47, hq47, h⟩ := Option.bind_eq_some_iff.mp h
    refine x_virtI (pc' := 50) (o := 28) (as := [.int x3, .int x4, .int (x6 + (1 : Int32)), .int (x6 + (1 : Int32)), .int x2]) (rest := []) dX0_takeFrom_47 rfl lm_0_47 rfl rfl rfl sh_28 rfl hq47 ?_
    by_cases c50 : q47.1 = 0
    · replace h := (if_pos c50).symm.trans h
      refine x_if_eq_t (pc' := 59) dX0_takeFrom_50 (by decide) c50 ?_
      refine x_iload (pc' := 61) dX0_takeFrom_59 rfl rfl ?_
      refine x_istore (pc' := 63) (ls' := [.ref 28, w1, .int x2, .int x3, .int x4, .int x5, .int x6, .int x4, w8]) dX0_takeFrom_61 rfl rfl rfl ?_
      exact h
    · replace h := (if_neg c50).symm.trans h
      refine x_if_eq_f (pc' := 53) dX0_takeFrom_50 (by decide) rfl c50 ?_
      refine x_iinc (pc' := 56) (w := (1 : Int32)) (ls' := [.ref 28, w1, .int x2, .int x3, .int x4, .int x5, .int (x6 + (1 : Int32)), w7, w8]) dX0_takeFrom_53 rfl rfl k_ic_1 rfl ?_
      refine x_goto (pc' := 28) dX0_takeFrom_56 (by decide) ?_
      exact h
theorem BX0_takeFrom_63 {d : Nat} {x2 x3 x4 x5 x6 x7 : Int32} {w1 w8 : Value} {S : tb_St} {r : tb_St} (h : ((if (6 : Int32) ≤ x7 then tb_E d mX0_takeFrom tb_dV 96 [.ref 28, w1, .int x2, .int x3, .int x4, .int x5, .int x6, .int x7, .int x3] [] tb_S S else (tb_cI d mX0_hoursAlike [.ref 28, .int x3, .int (x7 + (1 : Int32)), .int x5, .int x6, .int x2] S).bind fun q81 => (if q81.1 = 0 then tb_E d mX0_takeFrom tb_dV 96 [.ref 28, w1, .int x2, .int x3, .int x4, .int x5, .int x6, .int x7, .int x3] [] tb_S (q81.2) else tb_E d mX0_takeFrom tb_dV 63 [.ref 28, w1, .int x2, .int x3, .int x4, .int x5, .int x6, .int (x7 + (1 : Int32)), w8] [] tb_S (q81.2)))) = some r) : tb_E d mX0_takeFrom tb_dV 63 [.ref 28, w1, .int x2, .int x3, .int x4, .int x5, .int x6, .int x7, w8] [] tb_S S = some r := by
  refine x_iload (pc' := 65) dX0_takeFrom_63 rfl rfl ?_
  refine x_bipush (pc' := 67) (w := (6 : Int32)) dX0_takeFrom_65 rfl k_bi_6 ?_
  by_cases c67 : (6 : Int32) ≤ x7
  · replace h := (if_pos c67).symm.trans h
    refine x_icmp_ge_t (pc' := 93) dX0_takeFrom_67 (by decide) c67 ?_
    refine x_iload_n (pc' := 94) dX0_takeFrom_93 rfl rfl ?_
    refine x_istore (pc' := 96) (ls' := [.ref 28, w1, .int x2, .int x3, .int x4, .int x5, .int x6, .int x7, .int x3]) dX0_takeFrom_94 rfl rfl rfl ?_
    exact h
  · replace h := (if_neg c67).symm.trans h
    refine x_icmp_ge_f (pc' := 70) dX0_takeFrom_67 (by decide) rfl c67 ?_
    refine x_aload_n (pc' := 71) dX0_takeFrom_70 rfl rfl ?_
    refine x_iload_n (pc' := 72) dX0_takeFrom_71 rfl rfl ?_
    refine x_iload (pc' := 74) dX0_takeFrom_72 rfl rfl ?_
    refine x_iconst (pc' := 75) (w := (1 : Int32)) dX0_takeFrom_74 rfl k_ic_1 ?_
    refine x_iadd (pc' := 76) dX0_takeFrom_75 rfl ?_
    refine x_iload (pc' := 78) dX0_takeFrom_76 rfl rfl ?_
    refine x_iload (pc' := 80) dX0_takeFrom_78 rfl rfl ?_
    refine x_iload_n (pc' := 81) dX0_takeFrom_80 rfl rfl ?_
    obtain ⟨q81, hq81, h⟩ := Option.bind_eq_some_iff.mp h
    refine x_virtI (pc' := 84) (o := 28) (as := [.int x3, .int (x7 + (1 : Int32)), .int x5, .int x6, .int x2]) (rest := []) dX0_takeFrom_81 rfl lm_0_47 rfl rfl rfl sh_28 rfl hq81 ?_
    by_cases c84 : q81.1 = 0
    · replace h := (if_pos c84).symm.trans h
      refine x_if_eq_t (pc' := 93) dX0_takeFrom_84 (by decide) c84 ?_
      refine x_iload_n (pc' := 94) dX0_takeFrom_93 rfl rfl ?_
      refine x_istore (pc' := 96) (ls' := [.ref 28, w1, .int x2, .int x3, .int x4, .int x5, .int x6, .int x7, .int x3]) dX0_takeFrom_94 rfl rfl rfl ?_
      exact h
    · replace h := (if_neg c84).symm.trans h
      refine x_if_eq_f (pc' := 87) dX0_takeFrom_84 (by decide) rfl c84 ?_
      refine x_iinc (pc' := 90) (w := (1 : Int32)) (ls' := [.ref 28, w1, .int x2, .int x3, .int x4, .int x5, .int x6, .int (x7 + (1 : Int32)), w8]) dX0_takeFrom_87 rfl rfl k_ic_1 rfl ?_
      refine x_goto (pc' := 63) dX0_takeFrom_90 (by decide) ?_
      exact h
theorem BX0_takeFrom_96 {d : Nat} {x2 x3 x4 x5 x6 x7 x8 : Int32} {w1 : Value} {S : tb_St} {r : tb_St} (h : ((if (7 : Int32) ≤ x8 then tb_E d mX0_takeFrom tb_dV 129 [.ref 28, w1, .int x2, .int x3, .int x4, .int x5, .int x6, .int x7, .int x8] [] tb_S S else (tb_cI d mX0_daysAlike [.ref 28, .int (x8 + (1 : Int32)), .int x4, .int x7, .int x5, .int x6, .int x2] S).bind fun q117 => (if q117.1 = 0 then tb_E d mX0_takeFrom tb_dV 129 [.ref 28, w1, .int x2, .int x3, .int x4, .int x5, .int x6, .int x7, .int x8] [] tb_S (q117.2) else tb_E d mX0_takeFrom tb_dV 96 [.ref 28, w1, .int x2, .int x3, .int x4, .int x5, .int x6, .int x7, .int (x8 + (1 : Int32))] [] tb_S (q117.2)))) = some r) : tb_E d mX0_takeFrom tb_dV 96 [.ref 28, w1, .int x2, .int x3, .int x4, .int x5, .int x6, .int x7, .int x8] [] tb_S S = some r := by
  refine x_iload (pc' := 98) dX0_takeFrom_96 rfl rfl ?_
  refine x_bipush (pc' := 100) (w := (7 : Int32)) dX0_takeFrom_98 rfl k_bi_7 ?_
  by_cases c100 : (7 : Int32) ≤ x8
  · replace h := (if_pos c100).symm.trans h
    refine x_icmp_ge_t (pc' := 129) dX0_takeFrom_100 (by decide) c100 ?_
    exact h
  · replace h := (if_neg c100).symm.trans h
    refine x_icmp_ge_f (pc' := 103) dX0_takeFrom_100 (by decide) rfl c100 ?_
    refine x_aload_n (pc' := 104) dX0_takeFrom_103 rfl rfl ?_
    refine x_iload (pc' := 106) dX0_takeFrom_104 rfl rfl ?_
    refine x_iconst (pc' := 107) (w := (1 : Int32)) dX0_takeFrom_106 rfl k_ic_1 ?_
    refine x_iadd (pc' := 108) dX0_takeFrom_107 rfl ?_
    refine x_iload (pc' := 110) dX0_takeFrom_108 rfl rfl ?_
    refine x_iload (pc' := 112) dX0_takeFrom_110 rfl rfl ?_
    refine x_iload (pc' := 114) dX0_takeFrom_112 rfl rfl ?_
    refine x_iload (pc' := 116) dX0_takeFrom_114 rfl rfl ?_
    refine x_iload_n (pc' := 117) dX0_takeFrom_116 rfl rfl ?_
    obtain ⟨q117, hq117, h⟩ := Option.bind_eq_some_iff.mp h
    refine x_virtI (pc' := 120) (o := 28) (as := [.int (x8 + (1 : Int32)), .int x4, .int x7, .int x5, .int x6, .int x2]) (rest := []) dX0_takeFrom_117 rfl lm_0_51 rfl rfl rfl sh_28 rfl hq117 ?_
    by_cases c120 : q117.1 = 0
    · replace h := (if_pos c120).symm.trans h
      refine x_if_eq_t (pc' := 129) dX0_takeFrom_120 (by decide) c120 ?_
      exact h
    · replace h := (if_neg c120).symm.trans h
      refine x_if_eq_f (pc' := 123) dX0_takeFrom_120 (by decide) rfl c120 ?_
      refine x_iinc (pc' := 126) (w := (1 : Int32)) (ls' := [.ref 28, w1, .int x2, .int x3, .int x4, .int x5, .int x6, .int x7, .int (x8 + (1 : Int32))]) dX0_takeFrom_123 rfl rfl k_ic_1 rfl ?_
      refine x_goto (pc' := 96) dX0_takeFrom_126 (by decide) ?_
      exact h
theorem BX0_takeFrom_129 {d : Nat} {x2 x3 x4 x5 x6 x7 x8 : Int32} {w1 : Value} {S : tb_St} {r : tb_St} (h : ((tb_cV d mX0_keep [.ref 28, .int (((((((100000 : Int32) * x3) + ((10000 : Int32) * x8)) + ((1000 : Int32) * x4)) + ((100 : Int32) * x7)) + ((10 : Int32) * x5)) + x6), .int x2] S).bind fun q164 => some q164) = some r) : tb_E d mX0_takeFrom tb_dV 129 [.ref 28, w1, .int x2, .int x3, .int x4, .int x5, .int x6, .int x7, .int x8] [] tb_S S = some r := by
  refine x_aload_n (pc' := 130) dX0_takeFrom_129 rfl rfl ?_
  refine x_ldc (pc' := 132) dX0_takeFrom_130 rfl lk_0_55 ?_
  refine x_iload_n (pc' := 133) dX0_takeFrom_132 rfl rfl ?_
  refine x_imul (pc' := 134) dX0_takeFrom_133 rfl ?_
  refine x_sipush (pc' := 137) (w := (10000 : Int32)) dX0_takeFrom_134 rfl k_si_10000 ?_
  refine x_iload (pc' := 139) dX0_takeFrom_137 rfl rfl ?_
  refine x_imul (pc' := 140) dX0_takeFrom_139 rfl ?_
  refine x_iadd (pc' := 141) dX0_takeFrom_140 rfl ?_
  refine x_sipush (pc' := 144) (w := (1000 : Int32)) dX0_takeFrom_141 rfl k_si_1000 ?_
  refine x_iload (pc' := 146) dX0_takeFrom_144 rfl rfl ?_
  refine x_imul (pc' := 147) dX0_takeFrom_146 rfl ?_
  refine x_iadd (pc' := 148) dX0_takeFrom_147 rfl ?_
  refine x_bipush (pc' := 150) (w := (100 : Int32)) dX0_takeFrom_148 rfl k_bi_100 ?_
  refine x_iload (pc' := 152) dX0_takeFrom_150 rfl rfl ?_
  refine x_imul (pc' := 153) dX0_takeFrom_152 rfl ?_
  refine x_iadd (pc' := 154) dX0_takeFrom_153 rfl ?_
  refine x_bipush (pc' := 156) (w := (10 : Int32)) dX0_takeFrom_154 rfl k_bi_10 ?_
  refine x_iload (pc' := 158) dX0_takeFrom_156 rfl rfl ?_
  refine x_imul (pc' := 159) dX0_takeFrom_158 rfl ?_
  refine x_iadd (pc' := 160) dX0_takeFrom_159 rfl ?_
  refine x_iload (pc' := 162) dX0_takeFrom_160 rfl rfl ?_
  refine x_iadd (pc' := 163) dX0_takeFrom_162 rfl ?_
  refine x_iload_n (pc' := 164) dX0_takeFrom_163 rfl rfl ?_
  obtain ⟨q164, hq164, h⟩ := Option.bind_eq_some_iff.mp h
  refine x_virtV (pc' := 167) (o := 28) (as := [.int (((((((100000 : Int32) * x3) + ((10000 : Int32) * x8)) + ((1000 : Int32) * x4)) + ((100 : Int32) * x7)) + ((10 : Int32) * x5)) + x6), .int x2]) (rest := []) dX0_takeFrom_164 rfl lm_0_56 rfl rfl rfl sh_28 rfl hq164 ?_
  exact x_vret dX0_takeFrom_167 rfl ((tb_dV_ok _).trans h)
/-! X6_capped (24,) -/
theorem BX6_capped_0 {d : Nat} {x1 x2 x3 : Int32} {S : tb_St} {r : Int32 × tb_St} (h : ((if x1 = (-5 : Int32) then some (x1, S) else (tb_ix x2 24).bind fun j15 => (tb_cI d mX7_isInBox [.int x3, .int (S 5 j15)] S).bind fun q16 => (if ¬ q16.1 = 0 then (tb_ix x2 24).bind fun j33 => some (tb_min x1 ((q16.2) 4 j33), q16.2) else some (x1, q16.2)))) = some r) : tb_E d mX6_capped tb_dI 0 [.ref 24, .int x1, .int x2, .int x3] [] tb_S S = some r := by
  refine x_iload_n (pc' := 1) dX6_capped_0 rfl rfl ?_
  refine x_bipush (pc' := 3) (w := (-5 : Int32)) dX6_capped_1 rfl k_bi_m5 ?_
  by_cases c3 : x1 = (-5 : Int32)
  · replace h := (if_pos c3).symm.trans h
    refine x_icmp_eq_t (pc' := 22) dX6_capped_3 (by decide) c3 ?_
    refine x_iload_n (pc' := 23) dX6_capped_22 rfl rfl ?_
    exact x_iret dX6_capped_23 rfl ((tb_dI_ok _ _).trans h)
  · replace h := (if_neg c3).symm.trans h
    refine x_icmp_eq_f (pc' := 6) dX6_capped_3 (by decide) rfl c3 ?_
    refine x_iload_n (pc' := 7) dX6_capped_6 rfl rfl ?_
    refine x_aload_n (pc' := 8) dX6_capped_7 rfl rfl ?_
    refine x_getR (pc' := 11) dX6_capped_8 rfl lf_6_34 rfl sh_24 rfl ?_
    refine x_getR (pc' := 14) dX6_capped_11 rfl lf_6_79 rfl sh_2 rfl ?_
    refine x_iload_n (pc' := 15) dX6_capped_14 rfl rfl ?_
    obtain ⟨j15, hj15, h⟩ := Option.bind_eq_some_iff.mp h
    refine x_iaload (pc' := 16) (v := S 5 j15) dX6_capped_15 rfl sh_5 hj15 rfl ?_
    obtain ⟨q16, hq16, h⟩ := Option.bind_eq_some_iff.mp h
    refine x_statI (pc' := 19) (as := [.int x3, .int (S 5 j15)]) (rest := []) dX6_capped_16 rfl lm_6_82 (by decide) rfl rfl rfl rfl hq16 ?_
    by_cases c19 : ¬ q16.1 = 0
    · replace h := (if_pos c19).symm.trans h
      refine x_if_ne_t (pc' := 24) dX6_capped_19 (by decide) c19 ?_
      refine x_iload_n (pc' := 25) dX6_capped_24 rfl rfl ?_
      refine x_aload_n (pc' := 26) dX6_capped_25 rfl rfl ?_
      refine x_getR (pc' := 29) dX6_capped_26 rfl lf_6_34 rfl sh_24 rfl ?_
      refine x_getR (pc' := 32) dX6_capped_29 rfl lf_6_76 rfl sh_2 rfl ?_
      refine x_iload_n (pc' := 33) dX6_capped_32 rfl rfl ?_
      obtain ⟨j33, hj33, h⟩ := Option.bind_eq_some_iff.mp h
      refine x_iaload (pc' := 34) (v := (q16.2) 4 j33) dX6_capped_33 rfl sh_4 hj33 rfl ?_
      refine x_mm (pc' := 37) (w := tb_min x1 ((q16.2) 4 j33)) dX6_capped_34 rfl ln_6_44 lx_6_44 rfl rfl ?_
      exact x_iret dX6_capped_37 rfl ((tb_dI_ok _ _).trans h)
    · replace h := (if_neg c19).symm.trans h
      refine x_if_ne_f (pc' := 22) dX6_capped_19 (by decide) rfl c19 ?_
      refine x_iload_n (pc' := 23) dX6_capped_22 rfl rfl ?_
      exact x_iret dX6_capped_23 rfl ((tb_dI_ok _ _).trans h)
theorem MX6_capped {d : Nat} {x1 : Int32} {x2 : Int32} {x3 : Int32} {S : tb_St} {r : Int32 × tb_St} (h : ((if x1 = (-5 : Int32) then some (x1, S) else (tb_ix x2 24).bind fun j15 => (tb_cI d mX7_isInBox [.int x3, .int (S 5 j15)] S).bind fun q16 => (if ¬ q16.1 = 0 then (tb_ix x2 24).bind fun j33 => some (tb_min x1 ((q16.2) 4 j33), q16.2) else some (x1, q16.2)))) = some r) : tb_cI (d + 1) mX6_capped [.ref 24, .int x1, .int x2, .int x3] S = some r := tb_enI rfl rfl (BX6_capped_0 h)
/-! X7_isInBox () -/
theorem BX7_isInBox_0 {d : Nat} {x0 x1 : Int32} {w2 w3 w4 : Value} {S : tb_St} {r : Int32 × tb_St} (h : ((tb_cI d mX7_ageOf [.int x0] S).bind fun q1 => (tb_cI d mX7_dayOf [.int x0] (q1.2)).bind fun q6 => (tb_cI d mX7_hourOf [.int x0] (q6.2)).bind fun q11 => (if q1.1 < x1 / (100000 : Int32) then some ((0 : Int32), q11.2) else (if tb_rem (x1 / (10000 : Int32)) (10 : Int32) < q1.1 then some ((0 : Int32), q11.2) else (if q6.1 < tb_rem (x1 / (1000 : Int32)) (10 : Int32) then some ((0 : Int32), q11.2) else (if tb_rem (x1 / (100 : Int32)) (10 : Int32) < q6.1 then some ((0 : Int32), q11.2) else (if q11.1 < tb_rem (x1 / (10 : Int32)) (10 : Int32) then some ((0 : Int32), q11.2) else (if tb_rem x1 (10 : Int32) < q11.1 then some ((0 : Int32), q11.2) else some ((1 : Int32), q11.2)))))))) = some r) : tb_E d mX7_isInBox tb_dI 0 [.int x0, .int x1, w2, w3, w4] [] tb_S S = some r := by
  refine x_iload_n (pc' := 1) dX7_isInBox_0 rfl rfl ?_
  obtain ⟨q1, hq1, h⟩ := Option.bind_eq_some_iff.mp h
  refine x_statI (pc' := 4) (as := [.int x0]) (rest := []) dX7_isInBox_1 rfl lm_7_282 (by decide) rfl rfl rfl rfl hq1 ?_
  refine x_istore_n (pc' := 5) (ls' := [.int x0, .int x1, .int (q1.1), w3, w4]) dX7_isInBox_4 rfl rfl rfl ?_
  refine x_iload_n (pc' := 6) dX7_isInBox_5 rfl rfl ?_
  obtain ⟨q6, hq6, h⟩ := Option.bind_eq_some_iff.mp h
  refine x_statI (pc' := 9) (as := [.int x0]) (rest := []) dX7_isInBox_6 rfl lm_7_285 (by decide) rfl rfl rfl rfl hq6 ?_
  refine x_istore_n (pc' := 10) (ls' := [.int x0, .int x1, .int (q1.1), .int (q6.1), w4]) dX7_isInBox_9 rfl rfl rfl ?_
  refine x_iload_n (pc' := 11) dX7_isInBox_10 rfl rfl ?_
  obtain ⟨q11, hq11, h⟩ := Option.bind_eq_some_iff.mp h
  refine x_statI (pc' := 14) (as := [.int x0]) (rest := []) dX7_isInBox_11 rfl lm_7_288 (by decide) rfl rfl rfl rfl hq11 ?_
  refine x_istore (pc' := 16) (ls' := [.int x0, .int x1, .int (q1.1), .int (q6.1), .int (q11.1)]) dX7_isInBox_14 rfl rfl rfl ?_
  refine x_iload_n (pc' := 17) dX7_isInBox_16 rfl rfl ?_
  refine x_iload_n (pc' := 18) dX7_isInBox_17 rfl rfl ?_
  refine x_ldc_w (pc' := 21) dX7_isInBox_18 rfl lk_7_291 ?_
  refine x_idiv (pc' := 22) dX7_isInBox_21 rfl (by decide) ?_
  by_cases c22 : q1.1 < x1 / (100000 : Int32)
  · replace h := (if_pos c22).symm.trans h
    refine x_icmp_lt_t (pc' := 85) dX7_isInBox_22 (by decide) c22 ?_
    refine x_iconst (pc' := 86) (w := (0 : Int32)) dX7_isInBox_85 rfl k_ic_0 ?_
    exact x_zret dX7_isInBox_86 rfl (Or.inl rfl) ((tb_dI_ok _ _).trans h)
  · replace h := (if_neg c22).symm.trans h
    refine x_icmp_lt_f (pc' := 25) dX7_isInBox_22 (by decide) rfl c22 ?_
    refine x_iload_n (pc' := 26) dX7_isInBox_25 rfl rfl ?_
    refine x_iload_n (pc' := 27) dX7_isInBox_26 rfl rfl ?_
    refine x_sipush (pc' := 30) (w := (10000 : Int32)) dX7_isInBox_27 rfl k_si_10000 ?_
    refine x_idiv (pc' := 31) dX7_isInBox_30 rfl (by decide) ?_
    refine x_bipush (pc' := 33) (w := (10 : Int32)) dX7_isInBox_31 rfl k_bi_10 ?_
    refine x_irem (pc' := 34) dX7_isInBox_33 rfl (by decide) ?_
    by_cases c34 : tb_rem (x1 / (10000 : Int32)) (10 : Int32) < q1.1
    · replace h := (if_pos c34).symm.trans h
      refine x_icmp_gt_t (pc' := 85) dX7_isInBox_34 (by decide) c34 ?_
      refine x_iconst (pc' := 86) (w := (0 : Int32)) dX7_isInBox_85 rfl k_ic_0 ?_
      exact x_zret dX7_isInBox_86 rfl (Or.inl rfl) ((tb_dI_ok _ _).trans h)
    · replace h := (if_neg c34).symm.trans h
      refine x_icmp_gt_f (pc' := 37) dX7_isInBox_34 (by decide) rfl c34 ?_
      refine x_iload_n (pc' := 38) dX7_isInBox_37 rfl rfl ?_
      refine x_iload_n (pc' := 39) dX7_isInBox_38 rfl rfl ?_
      refine x_sipush (pc' := 42) (w := (1000 : Int32)) dX7_isInBox_39 rfl k_si_1000 ?_
      refine x_idiv (pc' := 43) dX7_isInBox_42 rfl (by decide) ?_
      refine x_bipush (pc' := 45) (w := (10 : Int32)) dX7_isInBox_43 rfl k_bi_10 ?_
      refine x_irem (pc' := 46) dX7_isInBox_45 rfl (by decide) ?_
      by_cases c46 : q6.1 < tb_rem (x1 / (1000 : Int32)) (10 : Int32)
      · replace h := (if_pos c46).symm.trans h
        refine x_icmp_lt_t (pc' := 85) dX7_isInBox_46 (by decide) c46 ?_
        refine x_iconst (pc' := 86) (w := (0 : Int32)) dX7_isInBox_85 rfl k_ic_0 ?_
        exact x_zret dX7_isInBox_86 rfl (Or.inl rfl) ((tb_dI_ok _ _).trans h)
      · replace h := (if_neg c46).symm.trans h
        refine x_icmp_lt_f (pc' := 49) dX7_isInBox_46 (by decide) rfl c46 ?_
        refine x_iload_n (pc' := 50) dX7_isInBox_49 rfl rfl ?_
        refine x_iload_n (pc' := 51) dX7_isInBox_50 rfl rfl ?_
        refine x_bipush (pc' := 53) (w := (100 : Int32)) dX7_isInBox_51 rfl k_bi_100 ?_
        refine x_idiv (pc' := 54) dX7_isInBox_53 rfl (by decide) ?_
        refine x_bipush (pc' := 56) (w := (10 : Int32)) dX7_isInBox_54 rfl k_bi_10 ?_
        refine x_irem (pc' := 57) dX7_isInBox_56 rfl (by decide) ?_
        by_cases c57 : tb_rem (x1 / (100 : Int32)) (10 : Int32) < q6.1
        · replace h := (if_pos c57).symm.trans h
          refine x_icmp_gt_t (pc' := 85) dX7_isInBox_57 (by decide) c57 ?_
          refine x_iconst (pc' := 86) (w := (0 : Int32)) dX7_isInBox_85 rfl k_ic_0 ?_
          exact x_zret dX7_isInBox_86 rfl (Or.inl rfl) ((tb_dI_ok _ _).trans h)
        · replace h := (if_neg c57).symm.trans h
          refine x_icmp_gt_f (pc' := 60) dX7_isInBox_57 (by decide) rfl c57 ?_
          refine x_iload (pc' := 62) dX7_isInBox_60 rfl rfl ?_
          refine x_iload_n (pc' := 63) dX7_isInBox_62 rfl rfl ?_
          refine x_bipush (pc' := 65) (w := (10 : Int32)) dX7_isInBox_63 rfl k_bi_10 ?_
          refine x_idiv (pc' := 66) dX7_isInBox_65 rfl (by decide) ?_
          refine x_bipush (pc' := 68) (w := (10 : Int32)) dX7_isInBox_66 rfl k_bi_10 ?_
          refine x_irem (pc' := 69) dX7_isInBox_68 rfl (by decide) ?_
          by_cases c69 : q11.1 < tb_rem (x1 / (10 : Int32)) (10 : Int32)
          · replace h := (if_pos c69).symm.trans h
            refine x_icmp_lt_t (pc' := 85) dX7_isInBox_69 (by decide) c69 ?_
            refine x_iconst (pc' := 86) (w := (0 : Int32)) dX7_isInBox_85 rfl k_ic_0 ?_
            exact x_zret dX7_isInBox_86 rfl (Or.inl rfl) ((tb_dI_ok _ _).trans h)
          · replace h := (if_neg c69).symm.trans h
            refine x_icmp_lt_f (pc' := 72) dX7_isInBox_69 (by decide) rfl c69 ?_
            refine x_iload (pc' := 74) dX7_isInBox_72 rfl rfl ?_
            refine x_iload_n (pc' := 75) dX7_isInBox_74 rfl rfl ?_
            refine x_bipush (pc' := 77) (w := (10 : Int32)) dX7_isInBox_75 rfl k_bi_10 ?_
            refine x_irem (pc' := 78) dX7_isInBox_77 rfl (by decide) ?_
            by_cases c78 : tb_rem x1 (10 : Int32) < q11.1
            · replace h := (if_pos c78).symm.trans h
              refine x_icmp_gt_t (pc' := 85) dX7_isInBox_78 (by decide) c78 ?_
              refine x_iconst (pc' := 86) (w := (0 : Int32)) dX7_isInBox_85 rfl k_ic_0 ?_
              exact x_zret dX7_isInBox_86 rfl (Or.inl rfl) ((tb_dI_ok _ _).trans h)
            · replace h := (if_neg c78).symm.trans h
              refine x_icmp_gt_f (pc' := 81) dX7_isInBox_78 (by decide) rfl c78 ?_
              refine x_iconst (pc' := 82) (w := (1 : Int32)) dX7_isInBox_81 rfl k_ic_1 ?_
              refine x_goto (pc' := 86) dX7_isInBox_82 (by decide) ?_
              exact x_zret dX7_isInBox_86 rfl (Or.inr rfl) ((tb_dI_ok _ _).trans h)
theorem MX7_isInBox {d : Nat} {x0 : Int32} {x1 : Int32} {S : tb_St} {r : Int32 × tb_St} (h : ((tb_cI d mX7_ageOf [.int x0] S).bind fun q1 => (tb_cI d mX7_dayOf [.int x0] (q1.2)).bind fun q6 => (tb_cI d mX7_hourOf [.int x0] (q6.2)).bind fun q11 => (if q1.1 < x1 / (100000 : Int32) then some ((0 : Int32), q11.2) else (if tb_rem (x1 / (10000 : Int32)) (10 : Int32) < q1.1 then some ((0 : Int32), q11.2) else (if q6.1 < tb_rem (x1 / (1000 : Int32)) (10 : Int32) then some ((0 : Int32), q11.2) else (if tb_rem (x1 / (100 : Int32)) (10 : Int32) < q6.1 then some ((0 : Int32), q11.2) else (if q11.1 < tb_rem (x1 / (10 : Int32)) (10 : Int32) then some ((0 : Int32), q11.2) else (if tb_rem x1 (10 : Int32) < q11.1 then some ((0 : Int32), q11.2) else some ((1 : Int32), q11.2)))))))) = some r) : tb_cI (d + 1) mX7_isInBox [.int x0, .int x1] S = some r := tb_enI rfl rfl (BX7_isInBox_0 h)
/-! X2_writeFee (36,) -/
theorem BX2_writeFee_0 {d : Nat} {x1 : Int32} {S : tb_St} {r : tb_St} (h : ((if x1 < (10 : Int32) then (tb_cV d mX2_writeByte [.ref 36, .int ((48 : Int32) + (tb_rem x1 (10 : Int32)))] S).bind fun q25 => some q25 else (tb_cV d mX2_writeByte [.ref 36, .int ((48 : Int32) + (x1 / (10 : Int32)))] S).bind fun q14 => (tb_cV d mX2_writeByte [.ref 36, .int ((48 : Int32) + (tb_rem x1 (10 : Int32)))] q14).bind fun q25 => some q25)) = some r) : tb_E d mX2_writeFee tb_dV 0 [.ref 36, .int x1] [] tb_S S = some r := by
  refine x_iload_n (pc' := 1) dX2_writeFee_0 rfl rfl ?_
  refine x_bipush (pc' := 3) (w := (10 : Int32)) dX2_writeFee_1 rfl k_bi_10 ?_
  by_cases c3 : x1 < (10 : Int32)
  · replace h := (if_pos c3).symm.trans h
    refine x_icmp_lt_t (pc' := 17) dX2_writeFee_3 (by decide) c3 ?_
    refine x_aload_n (pc' := 18) dX2_writeFee_17 rfl rfl ?_
    refine x_bipush (pc' := 20) (w := (48 : Int32)) dX2_writeFee_18 rfl k_bi_48 ?_
    refine x_iload_n (pc' := 21) dX2_writeFee_20 rfl rfl ?_
    refine x_bipush (pc' := 23) (w := (10 : Int32)) dX2_writeFee_21 rfl k_bi_10 ?_
    refine x_irem (pc' := 24) dX2_writeFee_23 rfl (by decide) ?_
    refine x_iadd (pc' := 25) dX2_writeFee_24 rfl ?_
    obtain ⟨q25, hq25, h⟩ := Option.bind_eq_some_iff.mp h
    refine x_virtV (pc' := 28) (o := 36) (as := [.int ((48 : Int32) + (tb_rem x1 (10 : Int32)))]) (rest := []) dX2_writeFee_25 rfl lm_2_48 rfl rfl rfl sh_36 rfl hq25 ?_
    exact x_vret dX2_writeFee_28 rfl ((tb_dV_ok _).trans h)
  · replace h := (if_neg c3).symm.trans h
    refine x_icmp_lt_f (pc' := 6) dX2_writeFee_3 (by decide) rfl c3 ?_
    refine x_aload_n (pc' := 7) dX2_writeFee_6 rfl rfl ?_
    refine x_bipush (pc' := 9) (w := (48 : Int32)) dX2_writeFee_7 rfl k_bi_48 ?_
    refine x_iload_n (pc' := 10) dX2_writeFee_9 rfl rfl ?_
    refine x_bipush (pc' := 12) (w := (10 : Int32)) dX2_writeFee_10 rfl k_bi_10 ?_
    refine x_idiv (pc' := 13) dX2_writeFee_12 rfl (by decide) ?_
    refine x_iadd (pc' := 14) dX2_writeFee_13 rfl ?_
    obtain ⟨q14, hq14, h⟩ := Option.bind_eq_some_iff.mp h
    refine x_virtV (pc' := 17) (o := 36) (as := [.int ((48 : Int32) + (x1 / (10 : Int32)))]) (rest := []) dX2_writeFee_14 rfl lm_2_48 rfl rfl rfl sh_36 rfl hq14 ?_
    refine x_aload_n (pc' := 18) dX2_writeFee_17 rfl rfl ?_
    refine x_bipush (pc' := 20) (w := (48 : Int32)) dX2_writeFee_18 rfl k_bi_48 ?_
    refine x_iload_n (pc' := 21) dX2_writeFee_20 rfl rfl ?_
    refine x_bipush (pc' := 23) (w := (10 : Int32)) dX2_writeFee_21 rfl k_bi_10 ?_
    refine x_irem (pc' := 24) dX2_writeFee_23 rfl (by decide) ?_
    refine x_iadd (pc' := 25) dX2_writeFee_24 rfl ?_
    obtain ⟨q25, hq25, h⟩ := Option.bind_eq_some_iff.mp h
    refine x_virtV (pc' := 28) (o := 36) (as := [.int ((48 : Int32) + (tb_rem x1 (10 : Int32)))]) (rest := []) dX2_writeFee_25 rfl lm_2_48 rfl rfl rfl sh_36 rfl hq25 ?_
    exact x_vret dX2_writeFee_28 rfl ((tb_dV_ok _).trans h)
theorem MX2_writeFee {d : Nat} {x1 : Int32} {S : tb_St} {r : tb_St} (h : ((if x1 < (10 : Int32) then (tb_cV d mX2_writeByte [.ref 36, .int ((48 : Int32) + (tb_rem x1 (10 : Int32)))] S).bind fun q25 => some q25 else (tb_cV d mX2_writeByte [.ref 36, .int ((48 : Int32) + (x1 / (10 : Int32)))] S).bind fun q14 => (tb_cV d mX2_writeByte [.ref 36, .int ((48 : Int32) + (tb_rem x1 (10 : Int32)))] q14).bind fun q25 => some q25)) = some r) : tb_cV (d + 1) mX2_writeFee [.ref 36, .int x1] S = some r := tb_enV rfl rfl (BX2_writeFee_0 h)
/-! X2_writeHead (36,) -/
theorem BX2_writeHead_0 {d : Nat} {x1 : Int32} {w2 : Value} {S : tb_St} {r : tb_St} (h : ((tb_ix x1 24).bind fun j8 => (if ¬ S 5 j8 = (-5 : Int32) then tb_E d mX2_writeHead tb_dV 17 [.ref 36, .int x1, .int (0 : Int32)] [] tb_S S else some S)) = some r) : tb_E d mX2_writeHead tb_dV 0 [.ref 36, .int x1, w2] [] tb_S S = some r := by
  refine x_aload_n (pc' := 1) dX2_writeHead_0 rfl rfl ?_
  refine x_getR (pc' := 4) dX2_writeHead_1 rfl lf_2_19 rfl sh_36 rfl ?_
  refine x_getR (pc' := 7) dX2_writeHead_4 rfl lf_2_63 rfl sh_2 rfl ?_
  refine x_iload_n (pc' := 8) dX2_writeHead_7 rfl rfl ?_
  obtain ⟨j8, hj8, h⟩ := Option.bind_eq_some_iff.mp h
  refine x_iaload (pc' := 9) (v := S 5 j8) dX2_writeHead_8 rfl sh_5 hj8 rfl ?_
  refine x_bipush (pc' := 11) (w := (-5 : Int32)) dX2_writeHead_9 rfl k_bi_m5 ?_
  by_cases c11 : ¬ S 5 j8 = (-5 : Int32)
  · replace h := (if_pos c11).symm.trans h
    refine x_icmp_ne_t (pc' := 15) dX2_writeHead_11 (by decide) c11 ?_
    refine x_iconst (pc' := 16) (w := (0 : Int32)) dX2_writeHead_15 rfl k_ic_0 ?_
    refine x_istore_n (pc' := 17) (ls' := [.ref 36, .int x1, .int (0 : Int32)]) dX2_writeHead_16 rfl rfl rfl ?_
    exact h
  · replace h := (if_neg c11).symm.trans h
    refine x_icmp_ne_f (pc' := 14) dX2_writeHead_11 (by decide) rfl c11 ?_
    exact x_vret dX2_writeHead_14 rfl ((tb_dV_ok _).trans h)
theorem MX2_writeHead {d : Nat} {x1 : Int32} {S : tb_St} {r : tb_St} (h : ((tb_ix x1 24).bind fun j8 => (if ¬ S 5 j8 = (-5 : Int32) then tb_E d mX2_writeHead tb_dV 17 [.ref 36, .int x1, .int (0 : Int32)] [] tb_S S else some S)) = some r) : tb_cV (d + 1) mX2_writeHead [.ref 36, .int x1] S = some r := tb_enV rfl rfl (BX2_writeHead_0 h)
theorem BX2_writeHead_17 {d : Nat} {x1 x2 : Int32} {S : tb_St} {r : tb_St} (h : ((if (6 : Int32) ≤ x2 then (tb_ix x1 24).bind fun j57 => (if ¬ S 3 j57 = (6 : Int32) then some S else (tb_cV d mX2_writeByte [.ref 36, .int (58 : Int32)] S).bind fun q66 => (tb_ix x1 24).bind fun j78 => (tb_cV d mX2_writeFee [.ref 36, .int (q66 4 j78)] q66).bind fun q79 => some q79) else (tb_ix x1 24).bind fun j34 => (tb_cI d mX7_figure [.int (S 5 j34), .int x2] S).bind fun q36 => (tb_cV d mX2_writeByte [.ref 36, .int ((48 : Int32) + (q36.1))] (q36.2)).bind fun q40 => tb_E d mX2_writeHead tb_dV 17 [.ref 36, .int x1, .int (x2 + (1 : Int32))] [] tb_S q40)) = some r) : tb_E d mX2_writeHead tb_dV 17 [.ref 36, .int x1, .int x2] [] tb_S S = some r := by
  refine x_iload_n (pc' := 18) dX2_writeHead_17 rfl rfl ?_
  refine x_bipush (pc' := 20) (w := (6 : Int32)) dX2_writeHead_18 rfl k_bi_6 ?_
  by_cases c20 : (6 : Int32) ≤ x2
  · replace h := (if_pos c20).symm.trans h
    refine x_icmp_ge_t (pc' := 49) dX2_writeHead_20 (by decide) c20 ?_
    refine x_aload_n (pc' := 50) dX2_writeHead_49 rfl rfl ?_
    refine x_getR (pc' := 53) dX2_writeHead_50 rfl lf_2_19 rfl sh_36 rfl ?_
    refine x_getR (pc' := 56) dX2_writeHead_53 rfl lf_2_33 rfl sh_2 rfl ?_
    refine x_iload_n (pc' := 57) dX2_writeHead_56 rfl rfl ?_
    obtain ⟨j57, hj57, h⟩ := Option.bind_eq_some_iff.mp h
    refine x_iaload (pc' := 58) (v := S 3 j57) dX2_writeHead_57 rfl sh_3 hj57 rfl ?_
    refine x_bipush (pc' := 60) (w := (6 : Int32)) dX2_writeHead_58 rfl k_bi_6 ?_
    by_cases c60 : ¬ S 3 j57 = (6 : Int32)
    · replace h := (if_pos c60).symm.trans h
      refine x_icmp_ne_t (pc' := 82) dX2_writeHead_60 (by decide) c60 ?_
      exact x_vret dX2_writeHead_82 rfl ((tb_dV_ok _).trans h)
    · replace h := (if_neg c60).symm.trans h
      refine x_icmp_ne_f (pc' := 63) dX2_writeHead_60 (by decide) rfl c60 ?_
      refine x_aload_n (pc' := 64) dX2_writeHead_63 rfl rfl ?_
      refine x_bipush (pc' := 66) (w := (58 : Int32)) dX2_writeHead_64 rfl k_bi_58 ?_
      obtain ⟨q66, hq66, h⟩ := Option.bind_eq_some_iff.mp h
      refine x_virtV (pc' := 69) (o := 36) (as := [.int (58 : Int32)]) (rest := []) dX2_writeHead_66 rfl lm_2_48 rfl rfl rfl sh_36 rfl hq66 ?_
      refine x_aload_n (pc' := 70) dX2_writeHead_69 rfl rfl ?_
      refine x_aload_n (pc' := 71) dX2_writeHead_70 rfl rfl ?_
      refine x_getR (pc' := 74) dX2_writeHead_71 rfl lf_2_19 rfl sh_36 rfl ?_
      refine x_getR (pc' := 77) dX2_writeHead_74 rfl lf_2_37 rfl sh_2 rfl ?_
      refine x_iload_n (pc' := 78) dX2_writeHead_77 rfl rfl ?_
      obtain ⟨j78, hj78, h⟩ := Option.bind_eq_some_iff.mp h
      refine x_iaload (pc' := 79) (v := q66 4 j78) dX2_writeHead_78 rfl sh_4 hj78 rfl ?_
      obtain ⟨q79, hq79, h⟩ := Option.bind_eq_some_iff.mp h
      refine x_virtV (pc' := 82) (o := 36) (as := [.int (q66 4 j78)]) (rest := []) dX2_writeHead_79 rfl lm_2_40 rfl rfl rfl sh_36 rfl hq79 ?_
      exact x_vret dX2_writeHead_82 rfl ((tb_dV_ok _).trans h)
  · replace h := (if_neg c20).symm.trans h
    refine x_icmp_ge_f (pc' := 23) dX2_writeHead_20 (by decide) rfl c20 ?_
    refine x_aload_n (pc' := 24) dX2_writeHead_23 rfl rfl ?_
    refine x_bipush (pc' := 26) (w := (48 : Int32)) dX2_writeHead_24 rfl k_bi_48 ?_
    refine x_aload_n (pc' := 27) dX2_writeHead_26 rfl rfl ?_
    refine x_getR (pc' := 30) dX2_writeHead_27 rfl lf_2_19 rfl sh_36 rfl ?_
    refine x_getR (pc' := 33) dX2_writeHead_30 rfl lf_2_63 rfl sh_2 rfl ?_
    refine x_iload_n (pc' := 34) dX2_writeHead_33 rfl rfl ?_
    obtain ⟨j34, hj34, h⟩ := Option.bind_eq_some_iff.mp h
    refine x_iaload (pc' := 35) (v := S 5 j34) dX2_writeHead_34 rfl sh_5 hj34 rfl ?_
    refine x_iload_n (pc' := 36) dX2_writeHead_35 rfl rfl ?_
    obtain ⟨q36, hq36, h⟩ := Option.bind_eq_some_iff.mp h
    refine x_statI (pc' := 39) (as := [.int (S 5 j34), .int x2]) (rest := [.int (48 : Int32), .ref 36]) dX2_writeHead_36 rfl lm_2_66 (by decide) rfl rfl rfl rfl hq36 ?_
    refine x_iadd (pc' := 40) dX2_writeHead_39 rfl ?_
    obtain ⟨q40, hq40, h⟩ := Option.bind_eq_some_iff.mp h
    refine x_virtV (pc' := 43) (o := 36) (as := [.int ((48 : Int32) + (q36.1))]) (rest := []) dX2_writeHead_40 rfl lm_2_48 rfl rfl rfl sh_36 rfl hq40 ?_
    refine x_iinc (pc' := 46) (w := (1 : Int32)) (ls' := [.ref 36, .int x1, .int (x2 + (1 : Int32))]) dX2_writeHead_43 rfl rfl k_ic_1 rfl ?_
    refine x_goto (pc' := 17) dX2_writeHead_46 (by decide) ?_
    exact h
/-! X2_writeByte (36,) -/
theorem BX2_writeByte_0 {d : Nat} {x1 : Int32} {S : tb_St} {r : tb_St} (h : ((if (470 : Int32) ≤ S 36 2 then some S else (tb_ix (S 36 2) 470).bind fun j20 => some (tb_up (tb_up S 37 j20 (tb_b8 x1)) 36 2 ((S 36 2) + (1 : Int32))))) = some r) : tb_E d mX2_writeByte tb_dV 0 [.ref 36, .int x1] [] tb_S S = some r := by
  refine x_aload_n (pc' := 1) dX2_writeByte_0 rfl rfl ?_
  refine x_getI (pc' := 4) (v := S 36 2) dX2_writeByte_1 rfl lf_2_15 rfl sh_36 rfl ?_
  refine x_sipush (pc' := 7) (w := (470 : Int32)) dX2_writeByte_4 rfl k_si_470 ?_
  by_cases c7 : (470 : Int32) ≤ S 36 2
  · replace h := (if_pos c7).symm.trans h
    refine x_icmp_ge_t (pc' := 31) dX2_writeByte_7 (by decide) c7 ?_
    exact x_vret dX2_writeByte_31 rfl ((tb_dV_ok _).trans h)
  · replace h := (if_neg c7).symm.trans h
    refine x_icmp_ge_f (pc' := 10) dX2_writeByte_7 (by decide) rfl c7 ?_
    refine x_aload_n (pc' := 11) dX2_writeByte_10 rfl rfl ?_
    refine x_getR (pc' := 14) dX2_writeByte_11 rfl lf_2_9 rfl sh_36 rfl ?_
    refine x_aload_n (pc' := 15) dX2_writeByte_14 rfl rfl ?_
    refine x_getI (pc' := 18) (v := S 36 2) dX2_writeByte_15 rfl lf_2_15 rfl sh_36 rfl ?_
    refine x_iload_n (pc' := 19) dX2_writeByte_18 rfl rfl ?_
    refine x_i2b (pc' := 20) dX2_writeByte_19 rfl ?_
    obtain ⟨j20, hj20, h⟩ := Option.bind_eq_some_iff.mp h
    refine x_bastore52 (pc' := 21) dX2_writeByte_20 rfl sh_37 hj20 ?_
    refine x_aload_n (pc' := 22) dX2_writeByte_21 rfl rfl ?_
    refine x_dup (pc' := 23) dX2_writeByte_22 rfl rfl ?_
    refine x_getI (pc' := 26) (v := S 36 2) dX2_writeByte_23 rfl lf_2_15 rfl sh_36 rfl ?_
    refine x_iconst (pc' := 27) (w := (1 : Int32)) dX2_writeByte_26 rfl k_ic_1 ?_
    refine x_iadd (pc' := 28) dX2_writeByte_27 rfl ?_
    refine x_putI (pc' := 31) dX2_writeByte_28 rfl lf_2_15 (Or.inl rfl) sh_36 ?_
    exact x_vret dX2_writeByte_31 rfl ((tb_dV_ok _).trans h)
theorem MX2_writeByte {d : Nat} {x1 : Int32} {S : tb_St} {r : tb_St} (h : ((if (470 : Int32) ≤ S 36 2 then some S else (tb_ix (S 36 2) 470).bind fun j20 => some (tb_up (tb_up S 37 j20 (tb_b8 x1)) 36 2 ((S 36 2) + (1 : Int32))))) = some r) : tb_cV (d + 1) mX2_writeByte [.ref 36, .int x1] S = some r := tb_enV rfl rfl (BX2_writeByte_0 h)
/-! X2_signOf (36,) -/
theorem BX2_signOf_0 {d : Nat} {x1 : Int32} {S : tb_St} {r : Int32 × tb_St} (h : ((if x1 = (2 : Int32) then some ((63 : Int32), S) else (if x1 = (3 : Int32) then some ((47 : Int32), S) else (if x1 = (4 : Int32) then some ((43 : Int32), S) else (if x1 = (5 : Int32) then some ((60 : Int32), S) else (if x1 = (6 : Int32) then some ((94 : Int32), S) else (if x1 = (7 : Int32) then some ((33 : Int32), S) else some ((45 : Int32), S)))))))) = some r) : tb_E d mX2_signOf tb_dI 0 [.ref 36, .int x1] [] tb_S S = some r := by
  refine x_iload_n (pc' := 1) dX2_signOf_0 rfl rfl ?_
  by_cases c1_2 : x1 = (2 : Int32)
  · replace h := (if_pos c1_2).symm.trans h
    refine x_tsw_in (pc' := 40) (w := (2 : Int32)) (off := 39) dX2_signOf_1 c1_2 (by decide) (by decide) (by decide) (by decide) ?_
    refine x_bipush (pc' := 42) (w := (63 : Int32)) dX2_signOf_40 rfl k_bi_63 ?_
    exact x_iret dX2_signOf_42 rfl ((tb_dI_ok _ _).trans h)
  · replace h := (if_neg c1_2).symm.trans h
    by_cases c1_3 : x1 = (3 : Int32)
    · replace h := (if_pos c1_3).symm.trans h
      refine x_tsw_in (pc' := 46) (w := (3 : Int32)) (off := 45) dX2_signOf_1 c1_3 (by decide) (by decide) (by decide) (by decide) ?_
      refine x_bipush (pc' := 48) (w := (47 : Int32)) dX2_signOf_46 rfl k_bi_47 ?_
      exact x_iret dX2_signOf_48 rfl ((tb_dI_ok _ _).trans h)
    · replace h := (if_neg c1_3).symm.trans h
      by_cases c1_4 : x1 = (4 : Int32)
      · replace h := (if_pos c1_4).symm.trans h
        refine x_tsw_in (pc' := 49) (w := (4 : Int32)) (off := 48) dX2_signOf_1 c1_4 (by decide) (by decide) (by decide) (by decide) ?_
        refine x_bipush (pc' := 51) (w := (43 : Int32)) dX2_signOf_49 rfl k_bi_43 ?_
        exact x_iret dX2_signOf_51 rfl ((tb_dI_ok _ _).trans h)
      · replace h := (if_neg c1_4).symm.trans h
        by_cases c1_5 : x1 = (5 : Int32)
        · replace h := (if_pos c1_5).symm.trans h
          refine x_tsw_in (pc' := 52) (w := (5 : Int32)) (off := 51) dX2_signOf_1 c1_5 (by decide) (by decide) (by decide) (by decide) ?_
          refine x_bipush (pc' := 54) (w := (60 : Int32)) dX2_signOf_52 rfl k_bi_60 ?_
          exact x_iret dX2_signOf_54 rfl ((tb_dI_ok _ _).trans h)
        · replace h := (if_neg c1_5).symm.trans h
          by_cases c1_6 : x1 = (6 : Int32)
          · replace h := (if_pos c1_6).symm.trans h
            refine x_tsw_in (pc' := 43) (w := (6 : Int32)) (off := 42) dX2_signOf_1 c1_6 (by decide) (by decide) (by decide) (by decide) ?_
            refine x_bipush (pc' := 45) (w := (94 : Int32)) dX2_signOf_43 rfl k_bi_94 ?_
            exact x_iret dX2_signOf_45 rfl ((tb_dI_ok _ _).trans h)
          · replace h := (if_neg c1_6).symm.trans h
            by_cases c1_7 : x1 = (7 : Int32)
            · replace h := (if_pos c1_7).symm.trans h
              refine x_tsw_in (pc' := 55) (w := (7 : Int32)) (off := 54) dX2_signOf_1 c1_7 (by decide) (by decide) (by decide) (by decide) ?_
              refine x_bipush (pc' := 57) (w := (33 : Int32)) dX2_signOf_55 rfl k_bi_33 ?_
              exact x_iret dX2_signOf_57 rfl ((tb_dI_ok _ _).trans h)
            · replace h := (if_neg c1_7).symm.trans h
              refine x_tsw_out (pc' := 58) dX2_signOf_1 (fun k0 g1 g2 g3 => ?_) (by decide) ?_
              · obtain rfl | rfl | rfl | rfl | rfl | rfl : k0 = 2 ∨ k0 = 3 ∨ k0 = 4 ∨ k0 = 5 ∨ k0 = 6 ∨ k0 = 7 := by omega
                · exact absurd (Int32.toInt_inj.mp (g3.trans (by decide +kernel : (2 : Int) = (2 : Int32).toInt))) c1_2
                · exact absurd (Int32.toInt_inj.mp (g3.trans (by decide +kernel : (3 : Int) = (3 : Int32).toInt))) c1_3
                · exact absurd (Int32.toInt_inj.mp (g3.trans (by decide +kernel : (4 : Int) = (4 : Int32).toInt))) c1_4
                · exact absurd (Int32.toInt_inj.mp (g3.trans (by decide +kernel : (5 : Int) = (5 : Int32).toInt))) c1_5
                · exact absurd (Int32.toInt_inj.mp (g3.trans (by decide +kernel : (6 : Int) = (6 : Int32).toInt))) c1_6
                · exact absurd (Int32.toInt_inj.mp (g3.trans (by decide +kernel : (7 : Int) = (7 : Int32).toInt))) c1_7
              · refine x_bipush (pc' := 60) (w := (45 : Int32)) dX2_signOf_58 rfl k_bi_45 ?_
                exact x_iret dX2_signOf_60 rfl ((tb_dI_ok _ _).trans h)
theorem MX2_signOf {d : Nat} {x1 : Int32} {S : tb_St} {r : Int32 × tb_St} (h : ((if x1 = (2 : Int32) then some ((63 : Int32), S) else (if x1 = (3 : Int32) then some ((47 : Int32), S) else (if x1 = (4 : Int32) then some ((43 : Int32), S) else (if x1 = (5 : Int32) then some ((60 : Int32), S) else (if x1 = (6 : Int32) then some ((94 : Int32), S) else (if x1 = (7 : Int32) then some ((33 : Int32), S) else some ((45 : Int32), S)))))))) = some r) : tb_cI (d + 1) mX2_signOf [.ref 36, .int x1] S = some r := tb_enI rfl rfl (BX2_signOf_0 h)
/-! X8_wrong (45,) -/
theorem BX8_wrong_0 {d : Nat} {x1 : Int32} {S : tb_St} {r : Int32 × tb_St} (h : (some ((0 : Int32), tb_up S 45 28 x1)) = some r) : tb_E d mX8_wrong tb_dI 0 [.ref 45, .int x1] [] tb_S S = some r := by
  refine x_aload_n (pc' := 1) dX8_wrong_0 rfl rfl ?_
  refine x_iload_n (pc' := 2) dX8_wrong_1 rfl rfl ?_
  refine x_putI (pc' := 5) dX8_wrong_2 rfl lf_8_132 (Or.inl rfl) sh_45 ?_
  refine x_iconst (pc' := 6) (w := (0 : Int32)) dX8_wrong_5 rfl k_ic_0 ?_
  exact x_zret dX8_wrong_6 rfl (Or.inl rfl) ((tb_dI_ok _ _).trans h)
theorem MX8_wrong {d : Nat} {x1 : Int32} {S : tb_St} {r : Int32 × tb_St} (h : (some ((0 : Int32), tb_up S 45 28 x1)) = some r) : tb_cI (d + 1) mX8_wrong [.ref 45, .int x1] S = some r := tb_enI rfl rfl (BX8_wrong_0 h)
/-! X4_readNumber (32,) -/
theorem BX4_readNumber_0 {d : Nat} {w1 : Value} {S : tb_St} {r : Int32 × tb_St} (h : ((tb_cI d mX4_here [.ref 32] S).bind fun q2 => (tb_cI d mX4_isFigure [.ref 32, .int (q2.1)] (q2.2)).bind fun q5 => (if ¬ q5.1 = 0 then (tb_cI d mX4_here [.ref 32] (q5.2)).bind fun q22 => (tb_cI d mX4_here [.ref 32] (tb_up (q22.2) 32 5 (((q22.2) 32 5) + (1 : Int32)))).bind fun q41 => (tb_cI d mX4_isFigure [.ref 32, .int (q41.1)] (q41.2)).bind fun q44 => (if q44.1 = 0 then some ((q22.1) - (48 : Int32), q44.2) else (tb_cI d mX4_here [.ref 32] (q44.2)).bind fun q55 => some ((((10 : Int32) * ((q22.1) - (48 : Int32))) + (q55.1)) - (48 : Int32), tb_up (q55.2) 32 5 (((q55.2) 32 5) + (1 : Int32)))) else (tb_cV d mX4_fail [.ref 32, .int ((q5.2) 32 5)] (q5.2)).bind fun q16 => some ((-1 : Int32), q16))) = some r) : tb_E d mX4_readNumber tb_dI 0 [.ref 32, w1] [] tb_S S = some r := by
  refine x_aload_n (pc' := 1) dX4_readNumber_0 rfl rfl ?_
  refine x_aload_n (pc' := 2) dX4_readNumber_1 rfl rfl ?_
  obtain ⟨q2, hq2, h⟩ := Option.bind_eq_some_iff.mp h
  refine x_virtI (pc' := 5) (o := 32) (as := []) (rest := [.ref 32]) dX4_readNumber_2 rfl lm_4_64 rfl rfl rfl sh_32 rfl hq2 ?_
  obtain ⟨q5, hq5, h⟩ := Option.bind_eq_some_iff.mp h
  refine x_virtI (pc' := 8) (o := 32) (as := [.int (q2.1)]) (rest := []) dX4_readNumber_5 rfl lm_4_68 rfl rfl rfl sh_32 rfl hq5 ?_
  by_cases c8 : ¬ q5.1 = 0
  · replace h := (if_pos c8).symm.trans h
    refine x_if_ne_t (pc' := 21) dX4_readNumber_8 (by decide) c8 ?_
    refine x_aload_n (pc' := 22) dX4_readNumber_21 rfl rfl ?_
    obtain ⟨q22, hq22, h⟩ := Option.bind_eq_some_iff.mp h
    refine x_virtI (pc' := 25) (o := 32) (as := []) (rest := []) dX4_readNumber_22 rfl lm_4_64 rfl rfl rfl sh_32 rfl hq22 ?_
    refine x_bipush (pc' := 27) (w := (48 : Int32)) dX4_readNumber_25 rfl k_bi_48 ?_
    refine x_isub (pc' := 28) dX4_readNumber_27 rfl ?_
    refine x_istore_n (pc' := 29) (ls' := [.ref 32, .int ((q22.1) - (48 : Int32))]) dX4_readNumber_28 rfl rfl rfl ?_
    refine x_aload_n (pc' := 30) dX4_readNumber_29 rfl rfl ?_
    refine x_dup (pc' := 31) dX4_readNumber_30 rfl rfl ?_
    refine x_getI (pc' := 34) (v := (q22.2) 32 5) dX4_readNumber_31 rfl lf_4_25 rfl sh_32 rfl ?_
    refine x_iconst (pc' := 35) (w := (1 : Int32)) dX4_readNumber_34 rfl k_ic_1 ?_
    refine x_iadd (pc' := 36) dX4_readNumber_35 rfl ?_
    refine x_putI (pc' := 39) dX4_readNumber_36 rfl lf_4_25 (Or.inl rfl) sh_32 ?_
    refine x_aload_n (pc' := 40) dX4_readNumber_39 rfl rfl ?_
    refine x_aload_n (pc' := 41) dX4_readNumber_40 rfl rfl ?_
    obtain ⟨q41, hq41, h⟩ := Option.bind_eq_some_iff.mp h
    refine x_virtI (pc' := 44) (o := 32) (as := []) (rest := [.ref 32]) dX4_readNumber_41 rfl lm_4_64 rfl rfl rfl sh_32 rfl hq41 ?_
    obtain ⟨q44, hq44, h⟩ := Option.bind_eq_some_iff.mp h
    refine x_virtI (pc' := 47) (o := 32) (as := [.int (q41.1)]) (rest := []) dX4_readNumber_44 rfl lm_4_68 rfl rfl rfl sh_32 rfl hq44 ?_
    by_cases c47 : q44.1 = 0
    · replace h := (if_pos c47).symm.trans h
      refine x_if_eq_t (pc' := 73) dX4_readNumber_47 (by decide) c47 ?_
      refine x_iload_n (pc' := 74) dX4_readNumber_73 rfl rfl ?_
      exact x_iret dX4_readNumber_74 rfl ((tb_dI_ok _ _).trans h)
    · replace h := (if_neg c47).symm.trans h
      refine x_if_eq_f (pc' := 50) dX4_readNumber_47 (by decide) rfl c47 ?_
      refine x_bipush (pc' := 52) (w := (10 : Int32)) dX4_readNumber_50 rfl k_bi_10 ?_
      refine x_iload_n (pc' := 53) dX4_readNumber_52 rfl rfl ?_
      refine x_imul (pc' := 54) dX4_readNumber_53 rfl ?_
      refine x_aload_n (pc' := 55) dX4_readNumber_54 rfl rfl ?_
      obtain ⟨q55, hq55, h⟩ := Option.bind_eq_some_iff.mp h
      refine x_virtI (pc' := 58) (o := 32) (as := []) (rest := [.int ((10 : Int32) * ((q22.1) - (48 : Int32)))]) dX4_readNumber_55 rfl lm_4_64 rfl rfl rfl sh_32 rfl hq55 ?_
      refine x_iadd (pc' := 59) dX4_readNumber_58 rfl ?_
      refine x_bipush (pc' := 61) (w := (48 : Int32)) dX4_readNumber_59 rfl k_bi_48 ?_
      refine x_isub (pc' := 62) dX4_readNumber_61 rfl ?_
      refine x_istore_n (pc' := 63) (ls' := [.ref 32, .int ((((10 : Int32) * ((q22.1) - (48 : Int32))) + (q55.1)) - (48 : Int32))]) dX4_readNumber_62 rfl rfl rfl ?_
      refine x_aload_n (pc' := 64) dX4_readNumber_63 rfl rfl ?_
      refine x_dup (pc' := 65) dX4_readNumber_64 rfl rfl ?_
      refine x_getI (pc' := 68) (v := (q55.2) 32 5) dX4_readNumber_65 rfl lf_4_25 rfl sh_32 rfl ?_
      refine x_iconst (pc' := 69) (w := (1 : Int32)) dX4_readNumber_68 rfl k_ic_1 ?_
      refine x_iadd (pc' := 70) dX4_readNumber_69 rfl ?_
      refine x_putI (pc' := 73) dX4_readNumber_70 rfl lf_4_25 (Or.inl rfl) sh_32 ?_
      refine x_iload_n (pc' := 74) dX4_readNumber_73 rfl rfl ?_
      exact x_iret dX4_readNumber_74 rfl ((tb_dI_ok _ _).trans h)
  · replace h := (if_neg c8).symm.trans h
    refine x_if_ne_f (pc' := 11) dX4_readNumber_8 (by decide) rfl c8 ?_
    refine x_aload_n (pc' := 12) dX4_readNumber_11 rfl rfl ?_
    refine x_aload_n (pc' := 13) dX4_readNumber_12 rfl rfl ?_
    refine x_getI (pc' := 16) (v := (q5.2) 32 5) dX4_readNumber_13 rfl lf_4_25 rfl sh_32 rfl ?_
    obtain ⟨q16, hq16, h⟩ := Option.bind_eq_some_iff.mp h
    refine x_virtV (pc' := 19) (o := 32) (as := [.int ((q5.2) 32 5)]) (rest := []) dX4_readNumber_16 rfl lm_4_57 rfl rfl rfl sh_32 rfl hq16 ?_
    refine x_iconst (pc' := 20) (w := (-1 : Int32)) dX4_readNumber_19 rfl k_ic_m1 ?_
    exact x_iret dX4_readNumber_20 rfl ((tb_dI_ok _ _).trans h)
theorem MX4_readNumber {d : Nat} {S : tb_St} {r : Int32 × tb_St} (h : ((tb_cI d mX4_here [.ref 32] S).bind fun q2 => (tb_cI d mX4_isFigure [.ref 32, .int (q2.1)] (q2.2)).bind fun q5 => (if ¬ q5.1 = 0 then (tb_cI d mX4_here [.ref 32] (q5.2)).bind fun q22 => (tb_cI d mX4_here [.ref 32] (tb_up (q22.2) 32 5 (((q22.2) 32 5) + (1 : Int32)))).bind fun q41 => (tb_cI d mX4_isFigure [.ref 32, .int (q41.1)] (q41.2)).bind fun q44 => (if q44.1 = 0 then some ((q22.1) - (48 : Int32), q44.2) else (tb_cI d mX4_here [.ref 32] (q44.2)).bind fun q55 => some ((((10 : Int32) * ((q22.1) - (48 : Int32))) + (q55.1)) - (48 : Int32), tb_up (q55.2) 32 5 (((q55.2) 32 5) + (1 : Int32)))) else (tb_cV d mX4_fail [.ref 32, .int ((q5.2) 32 5)] (q5.2)).bind fun q16 => some ((-1 : Int32), q16))) = some r) : tb_cI (d + 1) mX4_readNumber [.ref 32] S = some r := tb_enI rfl rfl (BX4_readNumber_0 h)
/-! X4_take (32,) -/
theorem BX4_take_0 {d : Nat} {x1 x2 x3 x4 x5 : Int32} {w6 : Value} {S : tb_St} {r : Int32 × tb_St} (h : ((if S 32 8 = 0 then (tb_cI d mX5_add [.ref 2, .int x1, .int x2, .int x3, .int x4, .int x5] S).bind fun q23 => tb_E d mX4_take tb_dI 26 [.ref 32, .int x1, .int x2, .int x3, .int x4, .int x5, w6] [.int (q23.1)] tb_S (q23.2) else tb_E d mX4_take tb_dI 26 [.ref 32, .int x1, .int x2, .int x3, .int x4, .int x5, w6] [.int (-4 : Int32)] tb_S S)) = some r) : tb_E d mX4_take tb_dI 0 [.ref 32, .int x1, .int x2, .int x3, .int x4, .int x5, w6] [] tb_S S = some r := by
  refine x_aload_n (pc' := 1) dX4_take_0 rfl rfl ?_
  refine x_getI (pc' := 4) (v := S 32 8) dX4_take_1 rfl lf_4_34 rfl sh_32 rfl ?_
  by_cases c4 : S 32 8 = 0
  · replace h := (if_pos c4).symm.trans h
    refine x_if_eq_t (pc' := 12) dX4_take_4 (by decide) c4 ?_
    refine x_aload_n (pc' := 13) dX4_take_12 rfl rfl ?_
    refine x_getR (pc' := 16) dX4_take_13 rfl lf_4_44 rfl sh_32 rfl ?_
    refine x_iload_n (pc' := 17) dX4_take_16 rfl rfl ?_
    refine x_iload_n (pc' := 18) dX4_take_17 rfl rfl ?_
    refine x_iload_n (pc' := 19) dX4_take_18 rfl rfl ?_
    refine x_iload (pc' := 21) dX4_take_19 rfl rfl ?_
    refine x_iload (pc' := 23) dX4_take_21 rfl rfl ?_
    obtain ⟨q23, hq23, h⟩ := Option.bind_eq_some_iff.mp h
    refine x_virtI (pc' := 26) (o := 2) (as := [.int x1, .int x2, .int x3, .int x4, .int x5]) (rest := []) dX4_take_23 rfl lm_4_99 rfl rfl rfl sh_2 rfl hq23 ?_
    exact h
  · replace h := (if_neg c4).symm.trans h
    refine x_if_eq_f (pc' := 7) dX4_take_4 (by decide) rfl c4 ?_
    refine x_bipush (pc' := 9) (w := (-4 : Int32)) dX4_take_7 rfl k_bi_m4 ?_
    refine x_goto (pc' := 26) dX4_take_9 (by decide) ?_
    exact h
theorem MX4_take {d : Nat} {x1 : Int32} {x2 : Int32} {x3 : Int32} {x4 : Int32} {x5 : Int32} {S : tb_St} {r : Int32 × tb_St} (h : ((if S 32 8 = 0 then (tb_cI d mX5_add [.ref 2, .int x1, .int x2, .int x3, .int x4, .int x5] S).bind fun q23 => tb_E d mX4_take tb_dI 26 [.ref 32, .int x1, .int x2, .int x3, .int x4, .int x5, tb_jk] [.int (q23.1)] tb_S (q23.2) else tb_E d mX4_take tb_dI 26 [.ref 32, .int x1, .int x2, .int x3, .int x4, .int x5, tb_jk] [.int (-4 : Int32)] tb_S S)) = some r) : tb_cI (d + 1) mX4_take [.ref 32, .int x1, .int x2, .int x3, .int x4, .int x5] S = some r := tb_enI rfl rfl (BX4_take_0 h)
theorem BX4_take_26 {d : Nat} {s0 : Int32} {w1 w2 w3 w4 w5 w6 : Value} {S : tb_St} {r : Int32 × tb_St} (h : ((if ¬ s0 = (-4 : Int32) then some (s0, S) else some (s0, tb_up S 32 8 (1 : Int32)))) = some r) : tb_E d mX4_take tb_dI 26 [.ref 32, w1, w2, w3, w4, w5, w6] [.int s0] tb_S S = some r := by
  refine x_istore (pc' := 28) (ls' := [.ref 32, w1, w2, w3, w4, w5, .int s0]) dX4_take_26 rfl rfl rfl ?_
  refine x_iload (pc' := 30) dX4_take_28 rfl rfl ?_
  refine x_bipush (pc' := 32) (w := (-4 : Int32)) dX4_take_30 rfl k_bi_m4 ?_
  by_cases c32 : ¬ s0 = (-4 : Int32)
  · replace h := (if_pos c32).symm.trans h
    refine x_icmp_ne_t (pc' := 40) dX4_take_32 (by decide) c32 ?_
    refine x_iload (pc' := 42) dX4_take_40 rfl rfl ?_
    exact x_iret dX4_take_42 rfl ((tb_dI_ok _ _).trans h)
  · replace h := (if_neg c32).symm.trans h
    refine x_icmp_ne_f (pc' := 35) dX4_take_32 (by decide) rfl c32 ?_
    refine x_aload_n (pc' := 36) dX4_take_35 rfl rfl ?_
    refine x_iconst (pc' := 37) (w := (1 : Int32)) dX4_take_36 rfl k_ic_1 ?_
    refine x_putI (pc' := 40) dX4_take_37 rfl lf_4_34 (Or.inr ⟨rfl, Or.inr rfl⟩) sh_32 ?_
    refine x_iload (pc' := 42) dX4_take_40 rfl rfl ?_
    exact x_iret dX4_take_42 rfl ((tb_dI_ok _ _).trans h)
/-! X4_readNamed (32,) -/
theorem BX4_readNamed_0 {d : Nat} {w1 w2 : Value} {S : tb_St} {r : Int32 × tb_St} (h : ((tb_cI d mX4_readNumber [.ref 32] S).bind fun q6 => (if ¬ (q6.2) 32 7 = (-1 : Int32) then (if ¬ (q6.2) 32 7 = (-1 : Int32) then some ((-1 : Int32), q6.2) else some (q6.1, q6.2)) else (if q6.1 < (q6.2) 32 6 then (if ¬ (q6.2) 32 7 = (-1 : Int32) then some ((-1 : Int32), q6.2) else some (q6.1, q6.2)) else (tb_cV d mX4_fail [.ref 32, .int (S 32 5)] (q6.2)).bind fun q28 => (if ¬ q28 32 7 = (-1 : Int32) then some ((-1 : Int32), q28) else some (q6.1, q28))))) = some r) : tb_E d mX4_readNamed tb_dI 0 [.ref 32, w1, w2] [] tb_S S = some r := by
  refine x_aload_n (pc' := 1) dX4_readNamed_0 rfl rfl ?_
  refine x_getI (pc' := 4) (v := S 32 5) dX4_readNamed_1 rfl lf_4_25 rfl sh_32 rfl ?_
  refine x_istore_n (pc' := 5) (ls' := [.ref 32, .int (S 32 5), w2]) dX4_readNamed_4 rfl rfl rfl ?_
  refine x_aload_n (pc' := 6) dX4_readNamed_5 rfl rfl ?_
  obtain ⟨q6, hq6, h⟩ := Option.bind_eq_some_iff.mp h
  refine x_virtI (pc' := 9) (o := 32) (as := []) (rest := []) dX4_readNamed_6 rfl lm_4_72 rfl rfl rfl sh_32 rfl hq6 ?_
  refine x_istore_n (pc' := 10) (ls' := [.ref 32, .int (S 32 5), .int (q6.1)]) dX4_readNamed_9 rfl rfl rfl ?_
  refine x_aload_n (pc' := 11) dX4_readNamed_10 rfl rfl ?_
  refine x_getI (pc' := 14) (v := (q6.2) 32 7) dX4_readNamed_11 rfl lf_4_31 rfl sh_32 rfl ?_
  refine x_iconst (pc' := 15) (w := (-1 : Int32)) dX4_readNamed_14 rfl k_ic_m1 ?_
  by_cases c15 : ¬ (q6.2) 32 7 = (-1 : Int32)
  · replace h := (if_pos c15).symm.trans h
    refine x_icmp_ne_t (pc' := 31) dX4_readNamed_15 (by decide) c15 ?_
    refine x_aload_n (pc' := 32) dX4_readNamed_31 rfl rfl ?_
    refine x_getI (pc' := 35) (v := (q6.2) 32 7) dX4_readNamed_32 rfl lf_4_31 rfl sh_32 rfl ?_
    refine x_iconst (pc' := 36) (w := (-1 : Int32)) dX4_readNamed_35 rfl k_ic_m1 ?_
    by_cases c36 : ¬ (q6.2) 32 7 = (-1 : Int32)
    · replace h := (if_pos c36).symm.trans h
      refine x_icmp_ne_t (pc' := 43) dX4_readNamed_36 (by decide) c36 ?_
      refine x_iconst (pc' := 44) (w := (-1 : Int32)) dX4_readNamed_43 rfl k_ic_m1 ?_
      exact x_iret dX4_readNamed_44 rfl ((tb_dI_ok _ _).trans h)
    · replace h := (if_neg c36).symm.trans h
      refine x_icmp_ne_f (pc' := 39) dX4_readNamed_36 (by decide) rfl c36 ?_
      refine x_iload_n (pc' := 40) dX4_readNamed_39 rfl rfl ?_
      refine x_goto (pc' := 44) dX4_readNamed_40 (by decide) ?_
      exact x_iret dX4_readNamed_44 rfl ((tb_dI_ok _ _).trans h)
  · replace h := (if_neg c15).symm.trans h
    refine x_icmp_ne_f (pc' := 18) dX4_readNamed_15 (by decide) rfl c15 ?_
    refine x_iload_n (pc' := 19) dX4_readNamed_18 rfl rfl ?_
    refine x_aload_n (pc' := 20) dX4_readNamed_19 rfl rfl ?_
    refine x_getI (pc' := 23) (v := (q6.2) 32 6) dX4_readNamed_20 rfl lf_4_28 rfl sh_32 rfl ?_
    by_cases c23 : q6.1 < (q6.2) 32 6
    · replace h := (if_pos c23).symm.trans h
      refine x_icmp_lt_t (pc' := 31) dX4_readNamed_23 (by decide) c23 ?_
      refine x_aload_n (pc' := 32) dX4_readNamed_31 rfl rfl ?_
      refine x_getI (pc' := 35) (v := (q6.2) 32 7) dX4_readNamed_32 rfl lf_4_31 rfl sh_32 rfl ?_
      refine x_iconst (pc' := 36) (w := (-1 : Int32)) dX4_readNamed_35 rfl k_ic_m1 ?_
      by_cases c36 : ¬ (q6.2) 32 7 = (-1 : Int32)
      · replace h := (if_pos c36).symm.trans h
        refine x_icmp_ne_t (pc' := 43) dX4_readNamed_36 (by decide) c36 ?_
        refine x_iconst (pc' := 44) (w := (-1 : Int32)) dX4_readNamed_43 rfl k_ic_m1 ?_
        exact x_iret dX4_readNamed_44 rfl ((tb_dI_ok _ _).trans h)
      · replace h := (if_neg c36).symm.trans h
        refine x_icmp_ne_f (pc' := 39) dX4_readNamed_36 (by decide) rfl c36 ?_
        refine x_iload_n (pc' := 40) dX4_readNamed_39 rfl rfl ?_
        refine x_goto (pc' := 44) dX4_readNamed_40 (by decide) ?_
        exact x_iret dX4_readNamed_44 rfl ((tb_dI_ok _ _).trans h)
    · replace h := (if_neg c23).symm.trans h
      refine x_icmp_lt_f (pc' := 26) dX4_readNamed_23 (by decide) rfl c23 ?_
      refine x_aload_n (pc' := 27) dX4_readNamed_26 rfl rfl ?_
      refine x_iload_n (pc' := 28) dX4_readNamed_27 rfl rfl ?_
      obtain ⟨q28, hq28, h⟩ := Option.bind_eq_some_iff.mp h
      refine x_virtV (pc' := 31) (o := 32) (as := [.int (S 32 5)]) (rest := []) dX4_readNamed_28 rfl lm_4_57 rfl rfl rfl sh_32 rfl hq28 ?_
      refine x_aload_n (pc' := 32) dX4_readNamed_31 rfl rfl ?_
      refine x_getI (pc' := 35) (v := q28 32 7) dX4_readNamed_32 rfl lf_4_31 rfl sh_32 rfl ?_
      refine x_iconst (pc' := 36) (w := (-1 : Int32)) dX4_readNamed_35 rfl k_ic_m1 ?_
      by_cases c36 : ¬ q28 32 7 = (-1 : Int32)
      · replace h := (if_pos c36).symm.trans h
        refine x_icmp_ne_t (pc' := 43) dX4_readNamed_36 (by decide) c36 ?_
        refine x_iconst (pc' := 44) (w := (-1 : Int32)) dX4_readNamed_43 rfl k_ic_m1 ?_
        exact x_iret dX4_readNamed_44 rfl ((tb_dI_ok _ _).trans h)
      · replace h := (if_neg c36).symm.trans h
        refine x_icmp_ne_f (pc' := 39) dX4_readNamed_36 (by decide) rfl c36 ?_
        refine x_iload_n (pc' := 40) dX4_readNamed_39 rfl rfl ?_
        refine x_goto (pc' := 44) dX4_readNamed_40 (by decide) ?_
        exact x_iret dX4_readNamed_44 rfl ((tb_dI_ok _ _).trans h)
theorem MX4_readNamed {d : Nat} {S : tb_St} {r : Int32 × tb_St} (h : ((tb_cI d mX4_readNumber [.ref 32] S).bind fun q6 => (if ¬ (q6.2) 32 7 = (-1 : Int32) then (if ¬ (q6.2) 32 7 = (-1 : Int32) then some ((-1 : Int32), q6.2) else some (q6.1, q6.2)) else (if q6.1 < (q6.2) 32 6 then (if ¬ (q6.2) 32 7 = (-1 : Int32) then some ((-1 : Int32), q6.2) else some (q6.1, q6.2)) else (tb_cV d mX4_fail [.ref 32, .int (S 32 5)] (q6.2)).bind fun q28 => (if ¬ q28 32 7 = (-1 : Int32) then some ((-1 : Int32), q28) else some (q6.1, q28))))) = some r) : tb_cI (d + 1) mX4_readNamed [.ref 32] S = some r := tb_enI rfl rfl (BX4_readNamed_0 h)
/-! X4_readComposed (32,) -/
theorem BX4_readComposed_0 {d : Nat} {x1 x2 : Int32} {w3 w4 w5 w6 w7 : Value} {S : tb_St} {r : Int32 × tb_St} (h : ((if x1 = (2 : Int32) then tb_E d mX4_readComposed tb_dI 11 [.ref 32, .int x1, .int x2, w3, w4, w5, w6, w7] [] tb_S S else (if ¬ x1 = (6 : Int32) then (if (0 : Int32) = 0 then tb_E d mX4_readComposed tb_dI 30 [.ref 32, .int x1, .int x2, .int (0 : Int32), w4, w5, w6, w7] [.int (-5 : Int32)] tb_S S else (tb_cI d mX4_readBox [.ref 32] S).bind fun q22 => tb_E d mX4_readComposed tb_dI 30 [.ref 32, .int x1, .int x2, .int (0 : Int32), w4, w5, w6, w7] [.int (q22.1)] tb_S (q22.2)) else tb_E d mX4_readComposed tb_dI 11 [.ref 32, .int x1, .int x2, w3, w4, w5, w6, w7] [] tb_S S))) = some r) : tb_E d mX4_readComposed tb_dI 0 [.ref 32, .int x1, .int x2, w3, w4, w5, w6, w7] [] tb_S S = some r := by
  refine x_iload_n (pc' := 1) dX4_readComposed_0 rfl rfl ?_
  refine x_iconst (pc' := 2) (w := (2 : Int32)) dX4_readComposed_1 rfl k_ic_2 ?_
  by_cases c2 : x1 = (2 : Int32)
  · replace h := (if_pos c2).symm.trans h
    refine x_icmp_eq_t (pc' := 11) dX4_readComposed_2 (by decide) c2 ?_
    exact h
  · replace h := (if_neg c2).symm.trans h
    refine x_icmp_eq_f (pc' := 5) dX4_readComposed_2 (by decide) rfl c2 ?_
    refine x_iload_n (pc' := 6) dX4_readComposed_5 rfl rfl ?_
    refine x_bipush (pc' := 8) (w := (6 : Int32)) dX4_readComposed_6 rfl k_bi_6 ?_
    by_cases c8 : ¬ x1 = (6 : Int32)
    · replace h := (if_pos c8).symm.trans h
      refine x_icmp_ne_t (pc' := 15) dX4_readComposed_8 (by decide) c8 ?_
      refine x_iconst (pc' := 16) (w := (0 : Int32)) dX4_readComposed_15 rfl k_ic_0 ?_
      refine x_istore_n (pc' := 17) (ls' := [.ref 32, .int x1, .int x2, .int (0 : Int32), w4, w5, w6, w7]) dX4_readComposed_16 rfl rfl rfl ?_
      refine x_iload_n (pc' := 18) dX4_readComposed_17 rfl rfl ?_
      by_cases c18 : (0 : Int32) = 0
      · replace h := (if_pos c18).symm.trans h
        refine x_if_eq_t (pc' := 28) dX4_readComposed_18 (by decide) c18 ?_
        refine x_bipush (pc' := 30) (w := (-5 : Int32)) dX4_readComposed_28 rfl k_bi_m5 ?_
        exact h
      · replace h := (if_neg c18).symm.trans h
        refine x_if_eq_f (pc' := 21) dX4_readComposed_18 (by decide) rfl c18 ?_
        refine x_aload_n (pc' := 22) dX4_readComposed_21 rfl rfl ?_
        obtain ⟨q22, hq22, h⟩ := Option.bind_eq_some_iff.mp h
        refine x_virtI (pc' := 25) (o := 32) (as := []) (rest := []) dX4_readComposed_22 rfl lm_4_89 rfl rfl rfl sh_32 rfl hq22 ?_
        refine x_goto (pc' := 30) dX4_readComposed_25 (by decide) ?_
        exact h
    · replace h := (if_neg c8).symm.trans h
      refine x_icmp_ne_f (pc' := 11) dX4_readComposed_8 (by decide) rfl c8 ?_
      exact h
theorem MX4_readComposed {d : Nat} {x1 : Int32} {x2 : Int32} {S : tb_St} {r : Int32 × tb_St} (h : ((if x1 = (2 : Int32) then tb_E d mX4_readComposed tb_dI 11 [.ref 32, .int x1, .int x2, tb_jk, tb_jk, tb_jk, tb_jk, tb_jk] [] tb_S S else (if ¬ x1 = (6 : Int32) then (if (0 : Int32) = 0 then tb_E d mX4_readComposed tb_dI 30 [.ref 32, .int x1, .int x2, .int (0 : Int32), tb_jk, tb_jk, tb_jk, tb_jk] [.int (-5 : Int32)] tb_S S else (tb_cI d mX4_readBox [.ref 32] S).bind fun q22 => tb_E d mX4_readComposed tb_dI 30 [.ref 32, .int x1, .int x2, .int (0 : Int32), tb_jk, tb_jk, tb_jk, tb_jk] [.int (q22.1)] tb_S (q22.2)) else tb_E d mX4_readComposed tb_dI 11 [.ref 32, .int x1, .int x2, tb_jk, tb_jk, tb_jk, tb_jk, tb_jk] [] tb_S S))) = some r) : tb_cI (d + 1) mX4_readComposed [.ref 32, .int x1, .int x2] S = some r := tb_enI rfl rfl (BX4_readComposed_0 h)
theorem BX4_readComposed_11 {d : Nat} {x1 x2 : Int32} {w3 w4 w5 w6 w7 : Value} {S : tb_St} {r : Int32 × tb_St} (h : ((if (1 : Int32) = 0 then tb_E d mX4_readComposed tb_dI 30 [.ref 32, .int x1, .int x2, .int (1 : Int32), w4, w5, w6, w7] [.int (-5 : Int32)] tb_S S else (tb_cI d mX4_readBox [.ref 32] S).bind fun q22 => tb_E d mX4_readComposed tb_dI 30 [.ref 32, .int x1, .int x2, .int (1 : Int32), w4, w5, w6, w7] [.int (q22.1)] tb_S (q22.2))) = some r) : tb_E d mX4_readComposed tb_dI 11 [.ref 32, .int x1, .int x2, w3, w4, w5, w6, w7] [] tb_S S = some r := by
  refine x_iconst (pc' := 12) (w := (1 : Int32)) dX4_readComposed_11 rfl k_ic_1 ?_
  refine x_goto (pc' := 16) dX4_readComposed_12 (by decide) ?_
  refine x_istore_n (pc' := 17) (ls' := [.ref 32, .int x1, .int x2, .int (1 : Int32), w4, w5, w6, w7]) dX4_readComposed_16 rfl rfl rfl ?_
  refine x_iload_n (pc' := 18) dX4_readComposed_17 rfl rfl ?_
  by_cases c18 : (1 : Int32) = 0
  · replace h := (if_pos c18).symm.trans h
    refine x_if_eq_t (pc' := 28) dX4_readComposed_18 (by decide) c18 ?_
    refine x_bipush (pc' := 30) (w := (-5 : Int32)) dX4_readComposed_28 rfl k_bi_m5 ?_
    exact h
  · replace h := (if_neg c18).symm.trans h
    refine x_if_eq_f (pc' := 21) dX4_readComposed_18 (by decide) rfl c18 ?_
    refine x_aload_n (pc' := 22) dX4_readComposed_21 rfl rfl ?_
    obtain ⟨q22, hq22, h⟩ := Option.bind_eq_some_iff.mp h
    refine x_virtI (pc' := 25) (o := 32) (as := []) (rest := []) dX4_readComposed_22 rfl lm_4_89 rfl rfl rfl sh_32 rfl hq22 ?_
    refine x_goto (pc' := 30) dX4_readComposed_25 (by decide) ?_
    exact h
theorem BX4_readComposed_30 {d : Nat} {x1 x2 x3 s0 : Int32} {w4 w5 w6 w7 : Value} {S : tb_St} {r : Int32 × tb_St} (h : ((if ¬ x1 = (6 : Int32) then tb_E d mX4_readComposed tb_dI 54 [.ref 32, .int x1, .int x2, .int x3, .int s0, w5, w6, w7] [] tb_S S else (tb_cI d mX4_goOver [.ref 32, .int (58 : Int32)] S).bind fun q41 => (if q41.1 = 0 then tb_E d mX4_readComposed tb_dI 54 [.ref 32, .int x1, .int x2, .int x3, .int s0, w5, w6, w7] [] tb_S (q41.2) else (tb_cI d mX4_readNumber [.ref 32] (q41.2)).bind fun q48 => (if x2 < (6 : Int32) then tb_E d mX4_readComposed tb_dI 72 [.ref 32, .int x1, .int x2, .int x3, .int s0, .int (q48.1), w6, w7] [] tb_S (q48.2) else (tb_cV d mX4_fail [.ref 32, .int ((q48.2) 32 5)] (q48.2)).bind fun q69 => tb_E d mX4_readComposed tb_dI 72 [.ref 32, .int x1, .int x2, .int x3, .int s0, .int (q48.1), w6, w7] [] tb_S q69)))) = some r) : tb_E d mX4_readComposed tb_dI 30 [.ref 32, .int x1, .int x2, .int x3, w4, w5, w6, w7] [.int s0] tb_S S = some r := by
  refine x_istore (pc' := 32) (ls' := [.ref 32, .int x1, .int x2, .int x3, .int s0, w5, w6, w7]) dX4_readComposed_30 rfl rfl rfl ?_
  refine x_iload_n (pc' := 33) dX4_readComposed_32 rfl rfl ?_
  refine x_bipush (pc' := 35) (w := (6 : Int32)) dX4_readComposed_33 rfl k_bi_6 ?_
  by_cases c35 : ¬ x1 = (6 : Int32)
  · replace h := (if_pos c35).symm.trans h
    refine x_icmp_ne_t (pc' := 54) dX4_readComposed_35 (by decide) c35 ?_
    exact h
  · replace h := (if_neg c35).symm.trans h
    refine x_icmp_ne_f (pc' := 38) dX4_readComposed_35 (by decide) rfl c35 ?_
    refine x_aload_n (pc' := 39) dX4_readComposed_38 rfl rfl ?_
    refine x_bipush (pc' := 41) (w := (58 : Int32)) dX4_readComposed_39 rfl k_bi_58 ?_
    obtain ⟨q41, hq41, h⟩ := Option.bind_eq_some_iff.mp h
    refine x_virtI (pc' := 44) (o := 32) (as := [.int (58 : Int32)]) (rest := []) dX4_readComposed_41 rfl lm_4_92 rfl rfl rfl sh_32 rfl hq41 ?_
    by_cases c44 : q41.1 = 0
    · replace h := (if_pos c44).symm.trans h
      refine x_if_eq_t (pc' := 54) dX4_readComposed_44 (by decide) c44 ?_
      exact h
    · replace h := (if_neg c44).symm.trans h
      refine x_if_eq_f (pc' := 47) dX4_readComposed_44 (by decide) rfl c44 ?_
      refine x_aload_n (pc' := 48) dX4_readComposed_47 rfl rfl ?_
      obtain ⟨q48, hq48, h⟩ := Option.bind_eq_some_iff.mp h
      refine x_virtI (pc' := 51) (o := 32) (as := []) (rest := []) dX4_readComposed_48 rfl lm_4_72 rfl rfl rfl sh_32 rfl hq48 ?_
      refine x_goto (pc' := 56) dX4_readComposed_51 (by decide) ?_
      refine x_istore (pc' := 58) (ls' := [.ref 32, .int x1, .int x2, .int x3, .int s0, .int (q48.1), w6, w7]) dX4_readComposed_56 rfl rfl rfl ?_
      refine x_iload_n (pc' := 59) dX4_readComposed_58 rfl rfl ?_
      refine x_bipush (pc' := 61) (w := (6 : Int32)) dX4_readComposed_59 rfl k_bi_6 ?_
      by_cases c61 : x2 < (6 : Int32)
      · replace h := (if_pos c61).symm.trans h
        refine x_icmp_lt_t (pc' := 72) dX4_readComposed_61 (by decide) c61 ?_
        exact h
      · replace h := (if_neg c61).symm.trans h
        refine x_icmp_lt_f (pc' := 64) dX4_readComposed_61 (by decide) rfl c61 ?_
        refine x_aload_n (pc' := 65) dX4_readComposed_64 rfl rfl ?_
        refine x_aload_n (pc' := 66) dX4_readComposed_65 rfl rfl ?_
        refine x_getI (pc' := 69) (v := (q48.2) 32 5) dX4_readComposed_66 rfl lf_4_25 rfl sh_32 rfl ?_
        obtain ⟨q69, hq69, h⟩ := Option.bind_eq_some_iff.mp h
        refine x_virtV (pc' := 72) (o := 32) (as := [.int ((q48.2) 32 5)]) (rest := []) dX4_readComposed_69 rfl lm_4_57 rfl rfl rfl sh_32 rfl hq69 ?_
        exact h
theorem BX4_readComposed_54 {d : Nat} {x1 x2 x3 x4 : Int32} {w5 w6 w7 : Value} {S : tb_St} {r : Int32 × tb_St} (h : ((if x2 < (6 : Int32) then tb_E d mX4_readComposed tb_dI 72 [.ref 32, .int x1, .int x2, .int x3, .int x4, .int (-5 : Int32), w6, w7] [] tb_S S else (tb_cV d mX4_fail [.ref 32, .int (S 32 5)] S).bind fun q69 => tb_E d mX4_readComposed tb_dI 72 [.ref 32, .int x1, .int x2, .int x3, .int x4, .int (-5 : Int32), w6, w7] [] tb_S q69)) = some r) : tb_E d mX4_readComposed tb_dI 54 [.ref 32, .int x1, .int x2, .int x3, .int x4, w5, w6, w7] [] tb_S S = some r := by
  refine x_bipush (pc' := 56) (w := (-5 : Int32)) dX4_readComposed_54 rfl k_bi_m5 ?_
  refine x_istore (pc' := 58) (ls' := [.ref 32, .int x1, .int x2, .int x3, .int x4, .int (-5 : Int32), w6, w7]) dX4_readComposed_56 rfl rfl rfl ?_
  refine x_iload_n (pc' := 59) dX4_readComposed_58 rfl rfl ?_
  refine x_bipush (pc' := 61) (w := (6 : Int32)) dX4_readComposed_59 rfl k_bi_6 ?_
  by_cases c61 : x2 < (6 : Int32)
  · replace h := (if_pos c61).symm.trans h
    refine x_icmp_lt_t (pc' := 72) dX4_readComposed_61 (by decide) c61 ?_
    exact h
  · replace h := (if_neg c61).symm.trans h
    refine x_icmp_lt_f (pc' := 64) dX4_readComposed_61 (by decide) rfl c61 ?_
    refine x_aload_n (pc' := 65) dX4_readComposed_64 rfl rfl ?_
    refine x_aload_n (pc' := 66) dX4_readComposed_65 rfl rfl ?_
    refine x_getI (pc' := 69) (v := S 32 5) dX4_readComposed_66 rfl lf_4_25 rfl sh_32 rfl ?_
    obtain ⟨q69, hq69, h⟩ := Option.bind_eq_some_iff.mp h
    refine x_virtV (pc' := 72) (o := 32) (as := [.int (S 32 5)]) (rest := []) dX4_readComposed_69 rfl lm_4_57 rfl rfl rfl sh_32 rfl hq69 ?_
    exact h
theorem BX4_readComposed_72 {d : Nat} {x1 x2 x3 x4 x5 : Int32} {w6 w7 : Value} {S : tb_St} {r : Int32 × tb_St} (h : ((tb_cI d mX4_goOver [.ref 32, .int (40 : Int32)] S).bind fun q75 => (if ¬ q75.1 = 0 then (tb_cI d mX4_readTerm [.ref 32, .int (x2 + (1 : Int32))] (q75.2)).bind fun q87 => (if ¬ x3 = 0 then tb_E d mX4_readComposed tb_dI 120 [.ref 32, .int x1, .int x2, .int x3, .int x4, .int x5, .int (q87.1), .int (-5 : Int32)] [] tb_S (q87.2) else (tb_cI d mX4_goOver [.ref 32, .int (44 : Int32)] (q87.2)).bind fun q103 => (if ¬ q103.1 = 0 then (tb_cI d mX4_readTerm [.ref 32, .int (x2 + (1 : Int32))] (q103.2)).bind fun q115 => tb_E d mX4_readComposed tb_dI 120 [.ref 32, .int x1, .int x2, .int x3, .int x4, .int x5, .int (q87.1), .int (q115.1)] [] tb_S (q115.2) else some ((-1 : Int32), q103.2))) else some ((-1 : Int32), q75.2))) = some r) : tb_E d mX4_readComposed tb_dI 72 [.ref 32, .int x1, .int x2, .int x3, .int x4, .int x5, w6, w7] [] tb_S S = some r := by
  refine x_aload_n (pc' := 73) dX4_readComposed_72 rfl rfl ?_
  refine x_bipush (pc' := 75) (w := (40 : Int32)) dX4_readComposed_73 rfl k_bi_40 ?_
  obtain ⟨q75, hq75, h⟩ := Option.bind_eq_some_iff.mp h
  refine x_virtI (pc' := 78) (o := 32) (as := [.int (40 : Int32)]) (rest := []) dX4_readComposed_75 rfl lm_4_92 rfl rfl rfl sh_32 rfl hq75 ?_
  by_cases c78 : ¬ q75.1 = 0
  · replace h := (if_pos c78).symm.trans h
    refine x_if_ne_t (pc' := 83) dX4_readComposed_78 (by decide) c78 ?_
    refine x_aload_n (pc' := 84) dX4_readComposed_83 rfl rfl ?_
    refine x_iload_n (pc' := 85) dX4_readComposed_84 rfl rfl ?_
    refine x_iconst (pc' := 86) (w := (1 : Int32)) dX4_readComposed_85 rfl k_ic_1 ?_
    refine x_iadd (pc' := 87) dX4_readComposed_86 rfl ?_
    obtain ⟨q87, hq87, h⟩ := Option.bind_eq_some_iff.mp h
    refine x_virtI (pc' := 90) (o := 32) (as := [.int (x2 + (1 : Int32))]) (rest := []) dX4_readComposed_87 rfl lm_4_53 rfl rfl rfl sh_32 rfl hq87 ?_
    refine x_istore (pc' := 92) (ls' := [.ref 32, .int x1, .int x2, .int x3, .int x4, .int x5, .int (q87.1), w7]) dX4_readComposed_90 rfl rfl rfl ?_
    refine x_bipush (pc' := 94) (w := (-5 : Int32)) dX4_readComposed_92 rfl k_bi_m5 ?_
    refine x_istore (pc' := 96) (ls' := [.ref 32, .int x1, .int x2, .int x3, .int x4, .int x5, .int (q87.1), .int (-5 : Int32)]) dX4_readComposed_94 rfl rfl rfl ?_
    refine x_iload_n (pc' := 97) dX4_readComposed_96 rfl rfl ?_
    by_cases c97 : ¬ x3 = 0
    · replace h := (if_pos c97).symm.trans h
      refine x_if_ne_t (pc' := 120) dX4_readComposed_97 (by decide) c97 ?_
      exact h
    · replace h := (if_neg c97).symm.trans h
      refine x_if_ne_f (pc' := 100) dX4_readComposed_97 (by decide) rfl c97 ?_
      refine x_aload_n (pc' := 101) dX4_readComposed_100 rfl rfl ?_
      refine x_bipush (pc' := 103) (w := (44 : Int32)) dX4_readComposed_101 rfl k_bi_44 ?_
      obtain ⟨q103, hq103, h⟩ := Option.bind_eq_some_iff.mp h
      refine x_virtI (pc' := 106) (o := 32) (as := [.int (44 : Int32)]) (rest := []) dX4_readComposed_103 rfl lm_4_92 rfl rfl rfl sh_32 rfl hq103 ?_
      by_cases c106 : ¬ q103.1 = 0
      · replace h := (if_pos c106).symm.trans h
        refine x_if_ne_t (pc' := 111) dX4_readComposed_106 (by decide) c106 ?_
        refine x_aload_n (pc' := 112) dX4_readComposed_111 rfl rfl ?_
        refine x_iload_n (pc' := 113) dX4_readComposed_112 rfl rfl ?_
        refine x_iconst (pc' := 114) (w := (1 : Int32)) dX4_readComposed_113 rfl k_ic_1 ?_
        refine x_iadd (pc' := 115) dX4_readComposed_114 rfl ?_
        obtain ⟨q115, hq115, h⟩ := Option.bind_eq_some_iff.mp h
        refine x_virtI (pc' := 118) (o := 32) (as := [.int (x2 + (1 : Int32))]) (rest := []) dX4_readComposed_115 rfl lm_4_53 rfl rfl rfl sh_32 rfl hq115 ?_
        refine x_istore (pc' := 120) (ls' := [.ref 32, .int x1, .int x2, .int x3, .int x4, .int x5, .int (q87.1), .int (q115.1)]) dX4_readComposed_118 rfl rfl rfl ?_
        exact h
      · replace h := (if_neg c106).symm.trans h
        refine x_if_ne_f (pc' := 109) dX4_readComposed_106 (by decide) rfl c106 ?_
        refine x_iconst (pc' := 110) (w := (-1 : Int32)) dX4_readComposed_109 rfl k_ic_m1 ?_
        exact x_iret dX4_readComposed_110 rfl ((tb_dI_ok _ _).trans h)
  · replace h := (if_neg c78).symm.trans h
    refine x_if_ne_f (pc' := 81) dX4_readComposed_78 (by decide) rfl c78 ?_
    refine x_iconst (pc' := 82) (w := (-1 : Int32)) dX4_readComposed_81 rfl k_ic_m1 ?_
    exact x_iret dX4_readComposed_82 rfl ((tb_dI_ok _ _).trans h)
theorem BX4_readComposed_120 {d : Nat} {x1 x4 x5 x6 x7 : Int32} {w2 w3 : Value} {S : tb_St} {r : Int32 × tb_St} (h : ((tb_cI d mX4_goOver [.ref 32, .int (41 : Int32)] S).bind fun q123 => (if q123.1 = 0 then some ((-1 : Int32), q123.2) else (tb_cI d mX4_take [.ref 32, .int x1, .int x5, .int x4, .int x6, .int x7] (q123.2)).bind fun q139 => some (q139.1, q139.2))) = some r) : tb_E d mX4_readComposed tb_dI 120 [.ref 32, .int x1, w2, w3, .int x4, .int x5, .int x6, .int x7] [] tb_S S = some r := by
  refine x_aload_n (pc' := 121) dX4_readComposed_120 rfl rfl ?_
  refine x_bipush (pc' := 123) (w := (41 : Int32)) dX4_readComposed_121 rfl k_bi_41 ?_
  obtain ⟨q123, hq123, h⟩ := Option.bind_eq_some_iff.mp h
  refine x_virtI (pc' := 126) (o := 32) (as := [.int (41 : Int32)]) (rest := []) dX4_readComposed_123 rfl lm_4_92 rfl rfl rfl sh_32 rfl hq123 ?_
  by_cases c126 : q123.1 = 0
  · replace h := (if_pos c126).symm.trans h
    refine x_if_eq_t (pc' := 145) dX4_readComposed_126 (by decide) c126 ?_
    refine x_iconst (pc' := 146) (w := (-1 : Int32)) dX4_readComposed_145 rfl k_ic_m1 ?_
    exact x_iret dX4_readComposed_146 rfl ((tb_dI_ok _ _).trans h)
  · replace h := (if_neg c126).symm.trans h
    refine x_if_eq_f (pc' := 129) dX4_readComposed_126 (by decide) rfl c126 ?_
    refine x_aload_n (pc' := 130) dX4_readComposed_129 rfl rfl ?_
    refine x_iload_n (pc' := 131) dX4_readComposed_130 rfl rfl ?_
    refine x_iload (pc' := 133) dX4_readComposed_131 rfl rfl ?_
    refine x_iload (pc' := 135) dX4_readComposed_133 rfl rfl ?_
    refine x_iload (pc' := 137) dX4_readComposed_135 rfl rfl ?_
    refine x_iload (pc' := 139) dX4_readComposed_137 rfl rfl ?_
    obtain ⟨q139, hq139, h⟩ := Option.bind_eq_some_iff.mp h
    refine x_virtI (pc' := 142) (o := 32) (as := [.int x1, .int x5, .int x4, .int x6, .int x7]) (rest := []) dX4_readComposed_139 rfl lm_4_75 rfl rfl rfl sh_32 rfl hq139 ?_
    refine x_goto (pc' := 146) dX4_readComposed_142 (by decide) ?_
    exact x_iret dX4_readComposed_146 rfl ((tb_dI_ok _ _).trans h)
/-! X4_kindBySign (32,) -/
theorem BX4_kindBySign_0 {d : Nat} {x1 : Int32} {S : tb_St} {r : Int32 × tb_St} (h : ((if x1 = (33 : Int32) then some ((7 : Int32), S) else (if x1 = (35 : Int32) then some ((8 : Int32), S) else (if x1 = (43 : Int32) then some ((4 : Int32), S) else (if x1 = (47 : Int32) then some ((3 : Int32), S) else (if x1 = (60 : Int32) then some ((5 : Int32), S) else (if x1 = (63 : Int32) then some ((2 : Int32), S) else (if x1 = (94 : Int32) then some ((6 : Int32), S) else some ((-1 : Int32), S))))))))) = some r) : tb_E d mX4_kindBySign tb_dI 0 [.ref 32, .int x1] [] tb_S S = some r := by
  refine x_iload_n (pc' := 1) dX4_kindBySign_0 rfl rfl ?_
  by_cases c1_33 : x1 = (33 : Int32)
  · replace h := (if_pos c1_33).symm.trans h
    refine x_lsw (pc' := 82) dX4_kindBySign_1 (by decide) (off := 81) ?_ (by decide) ?_
    · show Op.lookupswitch.offset [(33, 81), (35, 67), (43, 77), (47, 75), (60, 79), (63, 70), (94, 72)] (84) (x1).toInt = _
      rw [c1_33]
      decide +kernel
    · refine x_bipush (pc' := 84) (w := (7 : Int32)) dX4_kindBySign_82 rfl k_bi_7 ?_
      exact x_iret dX4_kindBySign_84 rfl ((tb_dI_ok _ _).trans h)
  · replace h := (if_neg c1_33).symm.trans h
    by_cases c1_35 : x1 = (35 : Int32)
    · replace h := (if_pos c1_35).symm.trans h
      refine x_lsw (pc' := 68) dX4_kindBySign_1 (by decide) (off := 67) ?_ (by decide) ?_
      · show Op.lookupswitch.offset [(33, 81), (35, 67), (43, 77), (47, 75), (60, 79), (63, 70), (94, 72)] (84) (x1).toInt = _
        rw [lv_osw (k := (33 : Int32)) c1_33 (by decide +kernel)]
        rw [c1_35]
        decide +kernel
      · refine x_bipush (pc' := 70) (w := (8 : Int32)) dX4_kindBySign_68 rfl k_bi_8 ?_
        exact x_iret dX4_kindBySign_70 rfl ((tb_dI_ok _ _).trans h)
    · replace h := (if_neg c1_35).symm.trans h
      by_cases c1_43 : x1 = (43 : Int32)
      · replace h := (if_pos c1_43).symm.trans h
        refine x_lsw (pc' := 78) dX4_kindBySign_1 (by decide) (off := 77) ?_ (by decide) ?_
        · show Op.lookupswitch.offset [(33, 81), (35, 67), (43, 77), (47, 75), (60, 79), (63, 70), (94, 72)] (84) (x1).toInt = _
          rw [lv_osw (k := (33 : Int32)) c1_33 (by decide +kernel)]
          rw [lv_osw (k := (35 : Int32)) c1_35 (by decide +kernel)]
          rw [c1_43]
          decide +kernel
        · refine x_iconst (pc' := 79) (w := (4 : Int32)) dX4_kindBySign_78 rfl k_ic_4 ?_
          exact x_iret dX4_kindBySign_79 rfl ((tb_dI_ok _ _).trans h)
      · replace h := (if_neg c1_43).symm.trans h
        by_cases c1_47 : x1 = (47 : Int32)
        · replace h := (if_pos c1_47).symm.trans h
          refine x_lsw (pc' := 76) dX4_kindBySign_1 (by decide) (off := 75) ?_ (by decide) ?_
          · show Op.lookupswitch.offset [(33, 81), (35, 67), (43, 77), (47, 75), (60, 79), (63, 70), (94, 72)] (84) (x1).toInt = _
            rw [lv_osw (k := (33 : Int32)) c1_33 (by decide +kernel)]
            rw [lv_osw (k := (35 : Int32)) c1_35 (by decide +kernel)]
            rw [lv_osw (k := (43 : Int32)) c1_43 (by decide +kernel)]
            rw [c1_47]
            decide +kernel
          · refine x_iconst (pc' := 77) (w := (3 : Int32)) dX4_kindBySign_76 rfl k_ic_3 ?_
            exact x_iret dX4_kindBySign_77 rfl ((tb_dI_ok _ _).trans h)
        · replace h := (if_neg c1_47).symm.trans h
          by_cases c1_60 : x1 = (60 : Int32)
          · replace h := (if_pos c1_60).symm.trans h
            refine x_lsw (pc' := 80) dX4_kindBySign_1 (by decide) (off := 79) ?_ (by decide) ?_
            · show Op.lookupswitch.offset [(33, 81), (35, 67), (43, 77), (47, 75), (60, 79), (63, 70), (94, 72)] (84) (x1).toInt = _
              rw [lv_osw (k := (33 : Int32)) c1_33 (by decide +kernel)]
              rw [lv_osw (k := (35 : Int32)) c1_35 (by decide +kernel)]
              rw [lv_osw (k := (43 : Int32)) c1_43 (by decide +kernel)]
              rw [lv_osw (k := (47 : Int32)) c1_47 (by decide +kernel)]
              rw [c1_60]
              decide +kernel
            · refine x_iconst (pc' := 81) (w := (5 : Int32)) dX4_kindBySign_80 rfl k_ic_5 ?_
              exact x_iret dX4_kindBySign_81 rfl ((tb_dI_ok _ _).trans h)
          · replace h := (if_neg c1_60).symm.trans h
            by_cases c1_63 : x1 = (63 : Int32)
            · replace h := (if_pos c1_63).symm.trans h
              refine x_lsw (pc' := 71) dX4_kindBySign_1 (by decide) (off := 70) ?_ (by decide) ?_
              · show Op.lookupswitch.offset [(33, 81), (35, 67), (43, 77), (47, 75), (60, 79), (63, 70), (94, 72)] (84) (x1).toInt = _
                rw [lv_osw (k := (33 : Int32)) c1_33 (by decide +kernel)]
                rw [lv_osw (k := (35 : Int32)) c1_35 (by decide +kernel)]
                rw [lv_osw (k := (43 : Int32)) c1_43 (by decide +kernel)]
                rw [lv_osw (k := (47 : Int32)) c1_47 (by decide +kernel)]
                rw [lv_osw (k := (60 : Int32)) c1_60 (by decide +kernel)]
                rw [c1_63]
                decide +kernel
              · refine x_iconst (pc' := 72) (w := (2 : Int32)) dX4_kindBySign_71 rfl k_ic_2 ?_
                exact x_iret dX4_kindBySign_72 rfl ((tb_dI_ok _ _).trans h)
            · replace h := (if_neg c1_63).symm.trans h
              by_cases c1_94 : x1 = (94 : Int32)
              · replace h := (if_pos c1_94).symm.trans h
                refine x_lsw (pc' := 73) dX4_kindBySign_1 (by decide) (off := 72) ?_ (by decide) ?_
                · show Op.lookupswitch.offset [(33, 81), (35, 67), (43, 77), (47, 75), (60, 79), (63, 70), (94, 72)] (84) (x1).toInt = _
                  rw [lv_osw (k := (33 : Int32)) c1_33 (by decide +kernel)]
                  rw [lv_osw (k := (35 : Int32)) c1_35 (by decide +kernel)]
                  rw [lv_osw (k := (43 : Int32)) c1_43 (by decide +kernel)]
                  rw [lv_osw (k := (47 : Int32)) c1_47 (by decide +kernel)]
                  rw [lv_osw (k := (60 : Int32)) c1_60 (by decide +kernel)]
                  rw [lv_osw (k := (63 : Int32)) c1_63 (by decide +kernel)]
                  rw [c1_94]
                  decide +kernel
                · refine x_bipush (pc' := 75) (w := (6 : Int32)) dX4_kindBySign_73 rfl k_bi_6 ?_
                  exact x_iret dX4_kindBySign_75 rfl ((tb_dI_ok _ _).trans h)
              · replace h := (if_neg c1_94).symm.trans h
                refine x_lsw (pc' := 85) dX4_kindBySign_1 (by decide) (off := 84) ?_ (by decide) ?_
                · show Op.lookupswitch.offset [(33, 81), (35, 67), (43, 77), (47, 75), (60, 79), (63, 70), (94, 72)] (84) (x1).toInt = _
                  rw [lv_osw (k := (33 : Int32)) c1_33 (by decide +kernel)]
                  rw [lv_osw (k := (35 : Int32)) c1_35 (by decide +kernel)]
                  rw [lv_osw (k := (43 : Int32)) c1_43 (by decide +kernel)]
                  rw [lv_osw (k := (47 : Int32)) c1_47 (by decide +kernel)]
                  rw [lv_osw (k := (60 : Int32)) c1_60 (by decide +kernel)]
                  rw [lv_osw (k := (63 : Int32)) c1_63 (by decide +kernel)]
                  rw [lv_osw (k := (94 : Int32)) c1_94 (by decide +kernel)]
                  rfl
                · refine x_iconst (pc' := 86) (w := (-1 : Int32)) dX4_kindBySign_85 rfl k_ic_m1 ?_
                  exact x_iret dX4_kindBySign_86 rfl ((tb_dI_ok _ _).trans h)
theorem MX4_kindBySign {d : Nat} {x1 : Int32} {S : tb_St} {r : Int32 × tb_St} (h : ((if x1 = (33 : Int32) then some ((7 : Int32), S) else (if x1 = (35 : Int32) then some ((8 : Int32), S) else (if x1 = (43 : Int32) then some ((4 : Int32), S) else (if x1 = (47 : Int32) then some ((3 : Int32), S) else (if x1 = (60 : Int32) then some ((5 : Int32), S) else (if x1 = (63 : Int32) then some ((2 : Int32), S) else (if x1 = (94 : Int32) then some ((6 : Int32), S) else some ((-1 : Int32), S))))))))) = some r) : tb_cI (d + 1) mX4_kindBySign [.ref 32, .int x1] S = some r := tb_enI rfl rfl (BX4_kindBySign_0 h)
/-! X4_isFigure (32,) -/
theorem BX4_isFigure_0 {d : Nat} {x1 : Int32} {S : tb_St} {r : Int32 × tb_St} (h : ((if x1 < (48 : Int32) then some ((0 : Int32), S) else (if (57 : Int32) < x1 then some ((0 : Int32), S) else some ((1 : Int32), S)))) = some r) : tb_E d mX4_isFigure tb_dI 0 [.ref 32, .int x1] [] tb_S S = some r := by
  refine x_iload_n (pc' := 1) dX4_isFigure_0 rfl rfl ?_
  refine x_bipush (pc' := 3) (w := (48 : Int32)) dX4_isFigure_1 rfl k_bi_48 ?_
  by_cases c3 : x1 < (48 : Int32)
  · replace h := (if_pos c3).symm.trans h
    refine x_icmp_lt_t (pc' := 16) dX4_isFigure_3 (by decide) c3 ?_
    refine x_iconst (pc' := 17) (w := (0 : Int32)) dX4_isFigure_16 rfl k_ic_0 ?_
    exact x_zret dX4_isFigure_17 rfl (Or.inl rfl) ((tb_dI_ok _ _).trans h)
  · replace h := (if_neg c3).symm.trans h
    refine x_icmp_lt_f (pc' := 6) dX4_isFigure_3 (by decide) rfl c3 ?_
    refine x_iload_n (pc' := 7) dX4_isFigure_6 rfl rfl ?_
    refine x_bipush (pc' := 9) (w := (57 : Int32)) dX4_isFigure_7 rfl k_bi_57 ?_
    by_cases c9 : (57 : Int32) < x1
    · replace h := (if_pos c9).symm.trans h
      refine x_icmp_gt_t (pc' := 16) dX4_isFigure_9 (by decide) c9 ?_
      refine x_iconst (pc' := 17) (w := (0 : Int32)) dX4_isFigure_16 rfl k_ic_0 ?_
      exact x_zret dX4_isFigure_17 rfl (Or.inl rfl) ((tb_dI_ok _ _).trans h)
    · replace h := (if_neg c9).symm.trans h
      refine x_icmp_gt_f (pc' := 12) dX4_isFigure_9 (by decide) rfl c9 ?_
      refine x_iconst (pc' := 13) (w := (1 : Int32)) dX4_isFigure_12 rfl k_ic_1 ?_
      refine x_goto (pc' := 17) dX4_isFigure_13 (by decide) ?_
      exact x_zret dX4_isFigure_17 rfl (Or.inr rfl) ((tb_dI_ok _ _).trans h)
theorem MX4_isFigure {d : Nat} {x1 : Int32} {S : tb_St} {r : Int32 × tb_St} (h : ((if x1 < (48 : Int32) then some ((0 : Int32), S) else (if (57 : Int32) < x1 then some ((0 : Int32), S) else some ((1 : Int32), S)))) = some r) : tb_cI (d + 1) mX4_isFigure [.ref 32, .int x1] S = some r := tb_enI rfl rfl (BX4_isFigure_0 h)
/-! X4_here (32,) -/
theorem BX4_here_0 {d : Nat} {S : tb_St} {r : Int32 × tb_St} (h : ((if S 32 5 < 0 then some ((0 : Int32), S) else (if S 32 2 ≤ S 32 5 then some ((0 : Int32), S) else (tb_ix (S 32 5) 60).bind fun j26 => some (S 33 j26, S)))) = some r) : tb_E d mX4_here tb_dI 0 [.ref 32] [] tb_S S = some r := by
  refine x_aload_n (pc' := 1) dX4_here_0 rfl rfl ?_
  refine x_getI (pc' := 4) (v := S 32 5) dX4_here_1 rfl lf_4_25 rfl sh_32 rfl ?_
  by_cases c4 : S 32 5 < 0
  · replace h := (if_pos c4).symm.trans h
    refine x_if_lt_t (pc' := 30) dX4_here_4 (by decide) c4 ?_
    refine x_iconst (pc' := 31) (w := (0 : Int32)) dX4_here_30 rfl k_ic_0 ?_
    exact x_iret dX4_here_31 rfl ((tb_dI_ok _ _).trans h)
  · replace h := (if_neg c4).symm.trans h
    refine x_if_lt_f (pc' := 7) dX4_here_4 (by decide) rfl c4 ?_
    refine x_aload_n (pc' := 8) dX4_here_7 rfl rfl ?_
    refine x_getI (pc' := 11) (v := S 32 5) dX4_here_8 rfl lf_4_25 rfl sh_32 rfl ?_
    refine x_aload_n (pc' := 12) dX4_here_11 rfl rfl ?_
    refine x_getI (pc' := 15) (v := S 32 2) dX4_here_12 rfl lf_4_15 rfl sh_32 rfl ?_
    by_cases c15 : S 32 2 ≤ S 32 5
    · replace h := (if_pos c15).symm.trans h
      refine x_icmp_ge_t (pc' := 30) dX4_here_15 (by decide) c15 ?_
      refine x_iconst (pc' := 31) (w := (0 : Int32)) dX4_here_30 rfl k_ic_0 ?_
      exact x_iret dX4_here_31 rfl ((tb_dI_ok _ _).trans h)
    · replace h := (if_neg c15).symm.trans h
      refine x_icmp_ge_f (pc' := 18) dX4_here_15 (by decide) rfl c15 ?_
      refine x_aload_n (pc' := 19) dX4_here_18 rfl rfl ?_
      refine x_getR (pc' := 22) dX4_here_19 rfl lf_4_9 rfl sh_32 rfl ?_
      refine x_aload_n (pc' := 23) dX4_here_22 rfl rfl ?_
      refine x_getI (pc' := 26) (v := S 32 5) dX4_here_23 rfl lf_4_25 rfl sh_32 rfl ?_
      obtain ⟨j26, hj26, h⟩ := Option.bind_eq_some_iff.mp h
      refine x_iaload (pc' := 27) (v := S 33 j26) dX4_here_26 rfl sh_33 hj26 rfl ?_
      refine x_goto (pc' := 31) dX4_here_27 (by decide) ?_
      exact x_iret dX4_here_31 rfl ((tb_dI_ok _ _).trans h)
theorem MX4_here {d : Nat} {S : tb_St} {r : Int32 × tb_St} (h : ((if S 32 5 < 0 then some ((0 : Int32), S) else (if S 32 2 ≤ S 32 5 then some ((0 : Int32), S) else (tb_ix (S 32 5) 60).bind fun j26 => some (S 33 j26, S)))) = some r) : tb_cI (d + 1) mX4_here [.ref 32] S = some r := tb_enI rfl rfl (BX4_here_0 h)
/-! X3_isInPart (38,) -/
theorem BX3_isInPart_0 {d : Nat} {x1 x2 x3 : Int32} {S : tb_St} {r : Int32 × tb_St} (h : ((tb_cI d mX7_ageOf [.int x3] S).bind fun q2 => (tb_cI d mX3_isWithin [.ref 38, .int (q2.1), .int x1, .int x2] (q2.2)).bind fun q7 => (if q7.1 = 0 then some ((0 : Int32), q7.2) else (tb_cI d mX7_dayOf [.int x3] (q7.2)).bind fun q15 => (tb_cI d mX3_isWithin [.ref 38, .int (q15.1), .int x1, .int (x2 + (2 : Int32))] (q15.2)).bind fun q22 => (if q22.1 = 0 then some ((0 : Int32), q22.2) else (tb_cI d mX7_hourOf [.int x3] (q22.2)).bind fun q30 => (tb_cI d mX3_isWithin [.ref 38, .int (q30.1), .int x1, .int (x2 + (4 : Int32))] (q30.2)).bind fun q37 => (if q37.1 = 0 then some ((0 : Int32), q37.2) else some ((1 : Int32), q37.2))))) = some r) : tb_E d mX3_isInPart tb_dI 0 [.ref 38, .int x1, .int x2, .int x3] [] tb_S S = some r := by
  refine x_aload_n (pc' := 1) dX3_isInPart_0 rfl rfl ?_
  refine x_iload_n (pc' := 2) dX3_isInPart_1 rfl rfl ?_
  obtain ⟨q2, hq2, h⟩ := Option.bind_eq_some_iff.mp h
  refine x_statI (pc' := 5) (as := [.int x3]) (rest := [.ref 38]) dX3_isInPart_2 rfl lm_3_49 (by decide) rfl rfl rfl rfl hq2 ?_
  refine x_iload_n (pc' := 6) dX3_isInPart_5 rfl rfl ?_
  refine x_iload_n (pc' := 7) dX3_isInPart_6 rfl rfl ?_
  obtain ⟨q7, hq7, h⟩ := Option.bind_eq_some_iff.mp h
  refine x_virtI (pc' := 10) (o := 38) (as := [.int (q2.1), .int x1, .int x2]) (rest := []) dX3_isInPart_7 rfl lm_3_52 rfl rfl rfl sh_38 rfl hq7 ?_
  by_cases c10 : q7.1 = 0
  · replace h := (if_pos c10).symm.trans h
    refine x_if_eq_t (pc' := 47) dX3_isInPart_10 (by decide) c10 ?_
    refine x_iconst (pc' := 48) (w := (0 : Int32)) dX3_isInPart_47 rfl k_ic_0 ?_
    exact x_zret dX3_isInPart_48 rfl (Or.inl rfl) ((tb_dI_ok _ _).trans h)
  · replace h := (if_neg c10).symm.trans h
    refine x_if_eq_f (pc' := 13) dX3_isInPart_10 (by decide) rfl c10 ?_
    refine x_aload_n (pc' := 14) dX3_isInPart_13 rfl rfl ?_
    refine x_iload_n (pc' := 15) dX3_isInPart_14 rfl rfl ?_
    obtain ⟨q15, hq15, h⟩ := Option.bind_eq_some_iff.mp h
    refine x_statI (pc' := 18) (as := [.int x3]) (rest := [.ref 38]) dX3_isInPart_15 rfl lm_3_55 (by decide) rfl rfl rfl rfl hq15 ?_
    refine x_iload_n (pc' := 19) dX3_isInPart_18 rfl rfl ?_
    refine x_iload_n (pc' := 20) dX3_isInPart_19 rfl rfl ?_
    refine x_iconst (pc' := 21) (w := (2 : Int32)) dX3_isInPart_20 rfl k_ic_2 ?_
    refine x_iadd (pc' := 22) dX3_isInPart_21 rfl ?_
    obtain ⟨q22, hq22, h⟩ := Option.bind_eq_some_iff.mp h
    refine x_virtI (pc' := 25) (o := 38) (as := [.int (q15.1), .int x1, .int (x2 + (2 : Int32))]) (rest := []) dX3_isInPart_22 rfl lm_3_52 rfl rfl rfl sh_38 rfl hq22 ?_
    by_cases c25 : q22.1 = 0
    · replace h := (if_pos c25).symm.trans h
      refine x_if_eq_t (pc' := 47) dX3_isInPart_25 (by decide) c25 ?_
      refine x_iconst (pc' := 48) (w := (0 : Int32)) dX3_isInPart_47 rfl k_ic_0 ?_
      exact x_zret dX3_isInPart_48 rfl (Or.inl rfl) ((tb_dI_ok _ _).trans h)
    · replace h := (if_neg c25).symm.trans h
      refine x_if_eq_f (pc' := 28) dX3_isInPart_25 (by decide) rfl c25 ?_
      refine x_aload_n (pc' := 29) dX3_isInPart_28 rfl rfl ?_
      refine x_iload_n (pc' := 30) dX3_isInPart_29 rfl rfl ?_
      obtain ⟨q30, hq30, h⟩ := Option.bind_eq_some_iff.mp h
      refine x_statI (pc' := 33) (as := [.int x3]) (rest := [.ref 38]) dX3_isInPart_30 rfl lm_3_58 (by decide) rfl rfl rfl rfl hq30 ?_
      refine x_iload_n (pc' := 34) dX3_isInPart_33 rfl rfl ?_
      refine x_iload_n (pc' := 35) dX3_isInPart_34 rfl rfl ?_
      refine x_iconst (pc' := 36) (w := (4 : Int32)) dX3_isInPart_35 rfl k_ic_4 ?_
      refine x_iadd (pc' := 37) dX3_isInPart_36 rfl ?_
      obtain ⟨q37, hq37, h⟩ := Option.bind_eq_some_iff.mp h
      refine x_virtI (pc' := 40) (o := 38) (as := [.int (q30.1), .int x1, .int (x2 + (4 : Int32))]) (rest := []) dX3_isInPart_37 rfl lm_3_52 rfl rfl rfl sh_38 rfl hq37 ?_
      by_cases c40 : q37.1 = 0
      · replace h := (if_pos c40).symm.trans h
        refine x_if_eq_t (pc' := 47) dX3_isInPart_40 (by decide) c40 ?_
        refine x_iconst (pc' := 48) (w := (0 : Int32)) dX3_isInPart_47 rfl k_ic_0 ?_
        exact x_zret dX3_isInPart_48 rfl (Or.inl rfl) ((tb_dI_ok _ _).trans h)
      · replace h := (if_neg c40).symm.trans h
        refine x_if_eq_f (pc' := 43) dX3_isInPart_40 (by decide) rfl c40 ?_
        refine x_iconst (pc' := 44) (w := (1 : Int32)) dX3_isInPart_43 rfl k_ic_1 ?_
        refine x_goto (pc' := 48) dX3_isInPart_44 (by decide) ?_
        exact x_zret dX3_isInPart_48 rfl (Or.inr rfl) ((tb_dI_ok _ _).trans h)
theorem MX3_isInPart {d : Nat} {x1 : Int32} {x2 : Int32} {x3 : Int32} {S : tb_St} {r : Int32 × tb_St} (h : ((tb_cI d mX7_ageOf [.int x3] S).bind fun q2 => (tb_cI d mX3_isWithin [.ref 38, .int (q2.1), .int x1, .int x2] (q2.2)).bind fun q7 => (if q7.1 = 0 then some ((0 : Int32), q7.2) else (tb_cI d mX7_dayOf [.int x3] (q7.2)).bind fun q15 => (tb_cI d mX3_isWithin [.ref 38, .int (q15.1), .int x1, .int (x2 + (2 : Int32))] (q15.2)).bind fun q22 => (if q22.1 = 0 then some ((0 : Int32), q22.2) else (tb_cI d mX7_hourOf [.int x3] (q22.2)).bind fun q30 => (tb_cI d mX3_isWithin [.ref 38, .int (q30.1), .int x1, .int (x2 + (4 : Int32))] (q30.2)).bind fun q37 => (if q37.1 = 0 then some ((0 : Int32), q37.2) else some ((1 : Int32), q37.2))))) = some r) : tb_cI (d + 1) mX3_isInPart [.ref 38, .int x1, .int x2, .int x3] S = some r := tb_enI rfl rfl (BX3_isInPart_0 h)
/-! X3_numberCanBe (38,) -/
theorem BX3_numberCanBe_0 {d : Nat} {x1 x2 : Int32} {w3 w4 : Value} {S : tb_St} {r : Int32 × tb_St} (h : ((tb_cI d mX3_at [.ref 38, .int x1, .int x2] S).bind fun q8 => (if ¬ tb_rem x2 (7 : Int32) = (6 : Int32) then (tb_cI d mX3_at [.ref 38, .int x1, .int (x2 - (1 : Int32))] (q8.2)).bind fun q35 => (tb_cI d mX7_canBe [.int (q8.1), .int (tb_rem x2 (7 : Int32)), .int (q35.1)] (q35.2)).bind fun q38 => (if q38.1 = 0 ∨ q38.1 = 1 then some (q38.1, q38.2) else none) else (tb_cI d mX7_isFee [.int (q8.1)] (q8.2)).bind fun q21 => (if q21.1 = 0 ∨ q21.1 = 1 then some (q21.1, q21.2) else none))) = some r) : tb_E d mX3_numberCanBe tb_dI 0 [.ref 38, .int x1, .int x2, w3, w4] [] tb_S S = some r := by
  refine x_iload_n (pc' := 1) dX3_numberCanBe_0 rfl rfl ?_
  refine x_bipush (pc' := 3) (w := (7 : Int32)) dX3_numberCanBe_1 rfl k_bi_7 ?_
  refine x_irem (pc' := 4) dX3_numberCanBe_3 rfl (by decide) ?_
  refine x_istore_n (pc' := 5) (ls' := [.ref 38, .int x1, .int x2, .int (tb_rem x2 (7 : Int32)), w4]) dX3_numberCanBe_4 rfl rfl rfl ?_
  refine x_aload_n (pc' := 6) dX3_numberCanBe_5 rfl rfl ?_
  refine x_iload_n (pc' := 7) dX3_numberCanBe_6 rfl rfl ?_
  refine x_iload_n (pc' := 8) dX3_numberCanBe_7 rfl rfl ?_
  obtain ⟨q8, hq8, h⟩ := Option.bind_eq_some_iff.mp h
  refine x_virtI (pc' := 11) (o := 38) (as := [.int x1, .int x2]) (rest := []) dX3_numberCanBe_8 rfl lm_3_35 rfl rfl rfl sh_38 rfl hq8 ?_
  refine x_istore (pc' := 13) (ls' := [.ref 38, .int x1, .int x2, .int (tb_rem x2 (7 : Int32)), .int (q8.1)]) dX3_numberCanBe_11 rfl rfl rfl ?_
  refine x_iload_n (pc' := 14) dX3_numberCanBe_13 rfl rfl ?_
  refine x_bipush (pc' := 16) (w := (6 : Int32)) dX3_numberCanBe_14 rfl k_bi_6 ?_
  by_cases c16 : ¬ tb_rem x2 (7 : Int32) = (6 : Int32)
  · replace h := (if_pos c16).symm.trans h
    refine x_icmp_ne_t (pc' := 27) dX3_numberCanBe_16 (by decide) c16 ?_
    refine x_iload (pc' := 29) dX3_numberCanBe_27 rfl rfl ?_
    refine x_iload_n (pc' := 30) dX3_numberCanBe_29 rfl rfl ?_
    refine x_aload_n (pc' := 31) dX3_numberCanBe_30 rfl rfl ?_
    refine x_iload_n (pc' := 32) dX3_numberCanBe_31 rfl rfl ?_
    refine x_iload_n (pc' := 33) dX3_numberCanBe_32 rfl rfl ?_
    refine x_iconst (pc' := 34) (w := (1 : Int32)) dX3_numberCanBe_33 rfl k_ic_1 ?_
    refine x_isub (pc' := 35) dX3_numberCanBe_34 rfl ?_
    obtain ⟨q35, hq35, h⟩ := Option.bind_eq_some_iff.mp h
    refine x_virtI (pc' := 38) (o := 38) (as := [.int x1, .int (x2 - (1 : Int32))]) (rest := [.int (tb_rem x2 (7 : Int32)), .int (q8.1)]) dX3_numberCanBe_35 rfl lm_3_35 rfl rfl rfl sh_38 rfl hq35 ?_
    obtain ⟨q38, hq38, h⟩ := Option.bind_eq_some_iff.mp h
    refine x_statI (pc' := 41) (as := [.int (q8.1), .int (tb_rem x2 (7 : Int32)), .int (q35.1)]) (rest := []) dX3_numberCanBe_38 rfl lm_3_42 (by decide) rfl rfl rfl rfl hq38 ?_
    by_cases c41 : q38.1 = 0 ∨ q38.1 = 1
    · replace h := (if_pos c41).symm.trans h
      exact x_zret dX3_numberCanBe_41 rfl c41 ((tb_dI_ok _ _).trans h)
    · replace h := (if_neg c41).symm.trans h
      cases h
  · replace h := (if_neg c16).symm.trans h
    refine x_icmp_ne_f (pc' := 19) dX3_numberCanBe_16 (by decide) rfl c16 ?_
    refine x_iload (pc' := 21) dX3_numberCanBe_19 rfl rfl ?_
    obtain ⟨q21, hq21, h⟩ := Option.bind_eq_some_iff.mp h
    refine x_statI (pc' := 24) (as := [.int (q8.1)]) (rest := []) dX3_numberCanBe_21 rfl lm_3_39 (by decide) rfl rfl rfl rfl hq21 ?_
    refine x_goto (pc' := 41) dX3_numberCanBe_24 (by decide) ?_
    by_cases c41 : q21.1 = 0 ∨ q21.1 = 1
    · replace h := (if_pos c41).symm.trans h
      exact x_zret dX3_numberCanBe_41 rfl c41 ((tb_dI_ok _ _).trans h)
    · replace h := (if_neg c41).symm.trans h
      cases h
theorem MX3_numberCanBe {d : Nat} {x1 : Int32} {x2 : Int32} {S : tb_St} {r : Int32 × tb_St} (h : ((tb_cI d mX3_at [.ref 38, .int x1, .int x2] S).bind fun q8 => (if ¬ tb_rem x2 (7 : Int32) = (6 : Int32) then (tb_cI d mX3_at [.ref 38, .int x1, .int (x2 - (1 : Int32))] (q8.2)).bind fun q35 => (tb_cI d mX7_canBe [.int (q8.1), .int (tb_rem x2 (7 : Int32)), .int (q35.1)] (q35.2)).bind fun q38 => (if q38.1 = 0 ∨ q38.1 = 1 then some (q38.1, q38.2) else none) else (tb_cI d mX7_isFee [.int (q8.1)] (q8.2)).bind fun q21 => (if q21.1 = 0 ∨ q21.1 = 1 then some (q21.1, q21.2) else none))) = some r) : tb_cI (d + 1) mX3_numberCanBe [.ref 38, .int x1, .int x2] S = some r := tb_enI rfl rfl (BX3_numberCanBe_0 h)
/-! X3_partsOf (38,) -/
theorem BX3_partsOf_0 {d : Nat} {x1 : Int32} {S : tb_St} {r : Int32 × tb_St} (h : ((tb_cI d mX3_has [.ref 38, .int x1] S).bind fun q2 => (if q2.1 = 0 then some ((0 : Int32), q2.2) else (tb_ix x1 4).bind fun j13 => some (((((q2.2) 44 j13) + (7 : Int32)) - (1 : Int32)) / (7 : Int32), q2.2))) = some r) : tb_E d mX3_partsOf tb_dI 0 [.ref 38, .int x1] [] tb_S S = some r := by
  refine x_aload_n (pc' := 1) dX3_partsOf_0 rfl rfl ?_
  refine x_iload_n (pc' := 2) dX3_partsOf_1 rfl rfl ?_
  obtain ⟨q2, hq2, h⟩ := Option.bind_eq_some_iff.mp h
  refine x_virtI (pc' := 5) (o := 38) (as := [.int x1]) (rest := []) dX3_partsOf_2 rfl lm_3_20 rfl rfl rfl sh_38 rfl hq2 ?_
  by_cases c5 : q2.1 = 0
  · replace h := (if_pos c5).symm.trans h
    refine x_if_eq_t (pc' := 25) dX3_partsOf_5 (by decide) c5 ?_
    refine x_iconst (pc' := 26) (w := (0 : Int32)) dX3_partsOf_25 rfl k_ic_0 ?_
    exact x_iret dX3_partsOf_26 rfl ((tb_dI_ok _ _).trans h)
  · replace h := (if_neg c5).symm.trans h
    refine x_if_eq_f (pc' := 8) dX3_partsOf_5 (by decide) rfl c5 ?_
    refine x_aload_n (pc' := 9) dX3_partsOf_8 rfl rfl ?_
    refine x_getR (pc' := 12) dX3_partsOf_9 rfl lf_3_16 rfl sh_38 rfl ?_
    refine x_iload_n (pc' := 13) dX3_partsOf_12 rfl rfl ?_
    obtain ⟨j13, hj13, h⟩ := Option.bind_eq_some_iff.mp h
    refine x_iaload (pc' := 14) (v := (q2.2) 44 j13) dX3_partsOf_13 rfl sh_44 hj13 rfl ?_
    refine x_bipush (pc' := 16) (w := (7 : Int32)) dX3_partsOf_14 rfl k_bi_7 ?_
    refine x_iadd (pc' := 17) dX3_partsOf_16 rfl ?_
    refine x_iconst (pc' := 18) (w := (1 : Int32)) dX3_partsOf_17 rfl k_ic_1 ?_
    refine x_isub (pc' := 19) dX3_partsOf_18 rfl ?_
    refine x_bipush (pc' := 21) (w := (7 : Int32)) dX3_partsOf_19 rfl k_bi_7 ?_
    refine x_idiv (pc' := 22) dX3_partsOf_21 rfl (by decide) ?_
    refine x_goto (pc' := 26) dX3_partsOf_22 (by decide) ?_
    exact x_iret dX3_partsOf_26 rfl ((tb_dI_ok _ _).trans h)
theorem MX3_partsOf {d : Nat} {x1 : Int32} {S : tb_St} {r : Int32 × tb_St} (h : ((tb_cI d mX3_has [.ref 38, .int x1] S).bind fun q2 => (if q2.1 = 0 then some ((0 : Int32), q2.2) else (tb_ix x1 4).bind fun j13 => some (((((q2.2) 44 j13) + (7 : Int32)) - (1 : Int32)) / (7 : Int32), q2.2))) = some r) : tb_cI (d + 1) mX3_partsOf [.ref 38, .int x1] S = some r := tb_enI rfl rfl (BX3_partsOf_0 h)
/-! X8_part () -/
theorem BX8_part_0 {d : Nat} {x0 x1 : Int32} {S : tb_St} {r : Int32 × tb_St} (h : ((if ¬ x1 = 0 then (if ¬ x1 = (1 : Int32) then some (tb_rem x0 (4 : Int32), S) else some (tb_rem (x0 / (4 : Int32)) (7 : Int32), S)) else some (x0 / (28 : Int32), S))) = some r) : tb_E d mX8_part tb_dI 0 [.int x0, .int x1] [] tb_S S = some r := by
  refine x_iload_n (pc' := 1) dX8_part_0 rfl rfl ?_
  by_cases c1 : ¬ x1 = 0
  · replace h := (if_pos c1).symm.trans h
    refine x_if_ne_t (pc' := 11) dX8_part_1 (by decide) c1 ?_
    refine x_iload_n (pc' := 12) dX8_part_11 rfl rfl ?_
    refine x_iconst (pc' := 13) (w := (1 : Int32)) dX8_part_12 rfl k_ic_1 ?_
    by_cases c13 : ¬ x1 = (1 : Int32)
    · replace h := (if_pos c13).symm.trans h
      refine x_icmp_ne_t (pc' := 25) dX8_part_13 (by decide) c13 ?_
      refine x_iload_n (pc' := 26) dX8_part_25 rfl rfl ?_
      refine x_iconst (pc' := 27) (w := (4 : Int32)) dX8_part_26 rfl k_ic_4 ?_
      refine x_irem (pc' := 28) dX8_part_27 rfl (by decide) ?_
      exact x_iret dX8_part_28 rfl ((tb_dI_ok _ _).trans h)
    · replace h := (if_neg c13).symm.trans h
      refine x_icmp_ne_f (pc' := 16) dX8_part_13 (by decide) rfl c13 ?_
      refine x_iload_n (pc' := 17) dX8_part_16 rfl rfl ?_
      refine x_iconst (pc' := 18) (w := (4 : Int32)) dX8_part_17 rfl k_ic_4 ?_
      refine x_idiv (pc' := 19) dX8_part_18 rfl (by decide) ?_
      refine x_bipush (pc' := 21) (w := (7 : Int32)) dX8_part_19 rfl k_bi_7 ?_
      refine x_irem (pc' := 22) dX8_part_21 rfl (by decide) ?_
      refine x_goto (pc' := 28) dX8_part_22 (by decide) ?_
      exact x_iret dX8_part_28 rfl ((tb_dI_ok _ _).trans h)
  · replace h := (if_neg c1).symm.trans h
    refine x_if_ne_f (pc' := 4) dX8_part_1 (by decide) rfl c1 ?_
    refine x_iload_n (pc' := 5) dX8_part_4 rfl rfl ?_
    refine x_bipush (pc' := 7) (w := (28 : Int32)) dX8_part_5 rfl k_bi_28 ?_
    refine x_idiv (pc' := 8) dX8_part_7 rfl (by decide) ?_
    refine x_goto (pc' := 28) dX8_part_8 (by decide) ?_
    exact x_iret dX8_part_28 rfl ((tb_dI_ok _ _).trans h)
theorem MX8_part {d : Nat} {x0 : Int32} {x1 : Int32} {S : tb_St} {r : Int32 × tb_St} (h : ((if ¬ x1 = 0 then (if ¬ x1 = (1 : Int32) then some (tb_rem x0 (4 : Int32), S) else some (tb_rem (x0 / (4 : Int32)) (7 : Int32), S)) else some (x0 / (28 : Int32), S))) = some r) : tb_cI (d + 1) mX8_part [.int x0, .int x1] S = some r := tb_enI rfl rfl (BX8_part_0 h)
/-! X6_silence (24,) -/
theorem BX6_silence_0 {d : Nat} {x1 : Int32} {S : tb_St} {r : tb_St} (h : (some (tb_up S 24 5 x1)) = some r) : tb_E d mX6_silence tb_dV 0 [.ref 24, .int x1] [] tb_S S = some r := by
  refine x_aload_n (pc' := 1) dX6_silence_0 rfl rfl ?_
  refine x_iload_n (pc' := 2) dX6_silence_1 rfl rfl ?_
  refine x_putI (pc' := 5) dX6_silence_2 rfl lf_6_25 (Or.inl rfl) sh_24 ?_
  exact x_vret dX6_silence_5 rfl ((tb_dV_ok _).trans h)
theorem MX6_silence {d : Nat} {x1 : Int32} {S : tb_St} {r : tb_St} (h : (some (tb_up S 24 5 x1)) = some r) : tb_cV (d + 1) mX6_silence [.ref 24, .int x1] S = some r := tb_enV rfl rfl (BX6_silence_0 h)
/-! X6_isRule (24,) -/
theorem BX6_isRule_0 {d : Nat} {x1 : Int32} {w2 : Value} {S : tb_St} {r : Int32 × tb_St} (h : ((tb_cI d mX6_termAt [.ref 24, .int x1] S).bind fun q2 => (tb_cI d mX5_has [.ref 2, .int (q2.1)] (q2.2)).bind fun q11 => (if q11.1 = 0 then some ((0 : Int32), q11.2) else (tb_ix (q2.1) 24).bind fun j25 => (if ¬ (q11.2) 3 j25 = (2 : Int32) then some ((0 : Int32), q11.2) else some ((1 : Int32), q11.2)))) = some r) : tb_E d mX6_isRule tb_dI 0 [.ref 24, .int x1, w2] [] tb_S S = some r := by
  refine x_aload_n (pc' := 1) dX6_isRule_0 rfl rfl ?_
  refine x_iload_n (pc' := 2) dX6_isRule_1 rfl rfl ?_
  obtain ⟨q2, hq2, h⟩ := Option.bind_eq_some_iff.mp h
  refine x_virtI (pc' := 5) (o := 24) (as := [.int x1]) (rest := []) dX6_isRule_2 rfl lm_6_70 rfl rfl rfl sh_24 rfl hq2 ?_
  refine x_istore_n (pc' := 6) (ls' := [.ref 24, .int x1, .int (q2.1)]) dX6_isRule_5 rfl rfl rfl ?_
  refine x_aload_n (pc' := 7) dX6_isRule_6 rfl rfl ?_
  refine x_getR (pc' := 10) dX6_isRule_7 rfl lf_6_34 rfl sh_24 rfl ?_
  refine x_iload_n (pc' := 11) dX6_isRule_10 rfl rfl ?_
  obtain ⟨q11, hq11, h⟩ := Option.bind_eq_some_iff.mp h
  refine x_virtI (pc' := 14) (o := 2) (as := [.int (q2.1)]) (rest := []) dX6_isRule_11 rfl lm_6_54 rfl rfl rfl sh_2 rfl hq11 ?_
  by_cases c14 : q11.1 = 0
  · replace h := (if_pos c14).symm.trans h
    refine x_if_eq_t (pc' := 34) dX6_isRule_14 (by decide) c14 ?_
    refine x_iconst (pc' := 35) (w := (0 : Int32)) dX6_isRule_34 rfl k_ic_0 ?_
    exact x_zret dX6_isRule_35 rfl (Or.inl rfl) ((tb_dI_ok _ _).trans h)
  · replace h := (if_neg c14).symm.trans h
    refine x_if_eq_f (pc' := 17) dX6_isRule_14 (by decide) rfl c14 ?_
    refine x_aload_n (pc' := 18) dX6_isRule_17 rfl rfl ?_
    refine x_getR (pc' := 21) dX6_isRule_18 rfl lf_6_34 rfl sh_24 rfl ?_
    refine x_getR (pc' := 24) dX6_isRule_21 rfl lf_6_73 rfl sh_2 rfl ?_
    refine x_iload_n (pc' := 25) dX6_isRule_24 rfl rfl ?_
    obtain ⟨j25, hj25, h⟩ := Option.bind_eq_some_iff.mp h
    refine x_iaload (pc' := 26) (v := (q11.2) 3 j25) dX6_isRule_25 rfl sh_3 hj25 rfl ?_
    refine x_iconst (pc' := 27) (w := (2 : Int32)) dX6_isRule_26 rfl k_ic_2 ?_
    by_cases c27 : ¬ (q11.2) 3 j25 = (2 : Int32)
    · replace h := (if_pos c27).symm.trans h
      refine x_icmp_ne_t (pc' := 34) dX6_isRule_27 (by decide) c27 ?_
      refine x_iconst (pc' := 35) (w := (0 : Int32)) dX6_isRule_34 rfl k_ic_0 ?_
      exact x_zret dX6_isRule_35 rfl (Or.inl rfl) ((tb_dI_ok _ _).trans h)
    · replace h := (if_neg c27).symm.trans h
      refine x_icmp_ne_f (pc' := 30) dX6_isRule_27 (by decide) rfl c27 ?_
      refine x_iconst (pc' := 31) (w := (1 : Int32)) dX6_isRule_30 rfl k_ic_1 ?_
      refine x_goto (pc' := 35) dX6_isRule_31 (by decide) ?_
      exact x_zret dX6_isRule_35 rfl (Or.inr rfl) ((tb_dI_ok _ _).trans h)
theorem MX6_isRule {d : Nat} {x1 : Int32} {S : tb_St} {r : Int32 × tb_St} (h : ((tb_cI d mX6_termAt [.ref 24, .int x1] S).bind fun q2 => (tb_cI d mX5_has [.ref 2, .int (q2.1)] (q2.2)).bind fun q11 => (if q11.1 = 0 then some ((0 : Int32), q11.2) else (tb_ix (q2.1) 24).bind fun j25 => (if ¬ (q11.2) 3 j25 = (2 : Int32) then some ((0 : Int32), q11.2) else some ((1 : Int32), q11.2)))) = some r) : tb_cI (d + 1) mX6_isRule [.ref 24, .int x1] S = some r := tb_enI rfl rfl (BX6_isRule_0 h)
/-! X7_pair () -/
theorem BX7_pair_0 {d : Nat} {x0 x1 : Int32} {S : tb_St} {r : Int32 × tb_St} (h : (some (((x0 - (-5 : Int32)) * (1000 : Int32)) + (x1 - (-5 : Int32)), S)) = some r) : tb_E d mX7_pair tb_dI 0 [.int x0, .int x1] [] tb_S S = some r := by
  refine x_iload_n (pc' := 1) dX7_pair_0 rfl rfl ?_
  refine x_bipush (pc' := 3) (w := (-5 : Int32)) dX7_pair_1 rfl k_bi_m5 ?_
  refine x_isub (pc' := 4) dX7_pair_3 rfl ?_
  refine x_sipush (pc' := 7) (w := (1000 : Int32)) dX7_pair_4 rfl k_si_1000 ?_
  refine x_imul (pc' := 8) dX7_pair_7 rfl ?_
  refine x_iload_n (pc' := 9) dX7_pair_8 rfl rfl ?_
  refine x_bipush (pc' := 11) (w := (-5 : Int32)) dX7_pair_9 rfl k_bi_m5 ?_
  refine x_isub (pc' := 12) dX7_pair_11 rfl ?_
  refine x_iadd (pc' := 13) dX7_pair_12 rfl ?_
  exact x_iret dX7_pair_13 rfl ((tb_dI_ok _ _).trans h)
theorem MX7_pair {d : Nat} {x0 : Int32} {x1 : Int32} {S : tb_St} {r : Int32 × tb_St} (h : (some (((x0 - (-5 : Int32)) * (1000 : Int32)) + (x1 - (-5 : Int32)), S)) = some r) : tb_cI (d + 1) mX7_pair [.int x0, .int x1] S = some r := tb_enI rfl rfl (BX7_pair_0 h)
/-! X8_packs (45,) -/
theorem BX8_packs_0 {d : Nat} {w1 w2 w3 w4 w5 w6 w7 w8 w9 w10 w11 : Value} {S : tb_St} {r : tb_St} (h : (tb_E d mX8_packs tb_dV 7 [.ref 45, .int (0 : Int32), w2, w3, w4, w5, w6, w7, w8, w9, w10, w11] [] tb_S (tb_up S 45 14 (0 : Int32))) = some r) : tb_E d mX8_packs tb_dV 0 [.ref 45, w1, w2, w3, w4, w5, w6, w7, w8, w9, w10, w11] [] tb_S S = some r := by
  refine x_aload_n (pc' := 1) dX8_packs_0 rfl rfl ?_
  refine x_iconst (pc' := 2) (w := (0 : Int32)) dX8_packs_1 rfl k_ic_0 ?_
  refine x_putI (pc' := 5) dX8_packs_2 rfl lf_8_225 (Or.inl rfl) sh_45 ?_
  refine x_iconst (pc' := 6) (w := (0 : Int32)) dX8_packs_5 rfl k_ic_0 ?_
  refine x_istore_n (pc' := 7) (ls' := [.ref 45, .int (0 : Int32), w2, w3, w4, w5, w6, w7, w8, w9, w10, w11]) dX8_packs_6 rfl rfl rfl ?_
  exact h
theorem MX8_packs {d : Nat} {S : tb_St} {r : tb_St} (h : (tb_E d mX8_packs tb_dV 7 [.ref 45, .int (0 : Int32), tb_jk, tb_jk, tb_jk, tb_jk, tb_jk, tb_jk, tb_jk, tb_jk, tb_jk, tb_jk] [] tb_S (tb_up S 45 14 (0 : Int32))) = some r) : tb_cV (d + 1) mX8_packs [.ref 45] S = some r := tb_enV rfl rfl (BX8_packs_0 h)
theorem BX8_packs_7 {d : Nat} {x1 : Int32} {w2 w3 w4 w5 w6 w7 w8 w9 w10 w11 : Value} {S : tb_St} {r : tb_St} (h : ((if (224 : Int32) ≤ x1 then some S else (tb_ix x1 224).bind fun j19 => (if S 57 j19 = 0 then (tb_cI d mX8_part [.int x1, .int (0 : Int32)] S).bind fun q28 => (tb_cI d mX8_part [.int x1, .int (1 : Int32)] (q28.2)).bind fun q34 => (tb_cI d mX8_part [.int x1, .int (2 : Int32)] (q34.2)).bind fun q40 => tb_E d mX8_packs tb_dV 55 [.ref 45, .int x1, .int (q28.1), .int (q34.1), .int (q40.1), .int (q28.1), .int (q34.1), .int (q40.1), w8, w9, w10, w11] [] tb_S (q40.2) else tb_E d mX8_packs tb_dV 7 [.ref 45, .int (x1 + (1 : Int32)), w2, w3, w4, w5, w6, w7, w8, w9, w10, w11] [] tb_S S))) = some r) : tb_E d mX8_packs tb_dV 7 [.ref 45, .int x1, w2, w3, w4, w5, w6, w7, w8, w9, w10, w11] [] tb_S S = some r := by
  refine x_iload_n (pc' := 8) dX8_packs_7 rfl rfl ?_
  refine x_sipush (pc' := 11) (w := (224 : Int32)) dX8_packs_8 rfl k_si_224 ?_
  by_cases c11 : (224 : Int32) ≤ x1
  · replace h := (if_pos c11).symm.trans h
    refine x_icmp_ge_t (pc' := 345) dX8_packs_11 (by decide) c11 ?_
    exact x_vret dX8_packs_345 rfl ((tb_dV_ok _).trans h)
  · replace h := (if_neg c11).symm.trans h
    refine x_icmp_ge_f (pc' := 14) dX8_packs_11 (by decide) rfl c11 ?_
    refine x_aload_n (pc' := 15) dX8_packs_14 rfl rfl ?_
    refine x_getR (pc' := 18) dX8_packs_15 rfl lf_8_45 rfl sh_45 rfl ?_
    refine x_iload_n (pc' := 19) dX8_packs_18 rfl rfl ?_
    obtain ⟨j19, hj19, h⟩ := Option.bind_eq_some_iff.mp h
    refine x_baload (pc' := 20) (v := S 57 j19) dX8_packs_19 rfl (by decide) sh_57 hj19 rfl ?_
    by_cases c20 : S 57 j19 = 0
    · replace h := (if_pos c20).symm.trans h
      refine x_if_eq_t (pc' := 26) dX8_packs_20 (by decide) c20 ?_
      refine x_iload_n (pc' := 27) dX8_packs_26 rfl rfl ?_
      refine x_iconst (pc' := 28) (w := (0 : Int32)) dX8_packs_27 rfl k_ic_0 ?_
      obtain ⟨q28, hq28, h⟩ := Option.bind_eq_some_iff.mp h
      refine x_statI (pc' := 31) (as := [.int x1, .int (0 : Int32)]) (rest := []) dX8_packs_28 rfl lm_8_93 (by decide) rfl rfl rfl rfl hq28 ?_
      refine x_istore_n (pc' := 32) (ls' := [.ref 45, .int x1, .int (q28.1), w3, w4, w5, w6, w7, w8, w9, w10, w11]) dX8_packs_31 rfl rfl rfl ?_
      refine x_iload_n (pc' := 33) dX8_packs_32 rfl rfl ?_
      refine x_iconst (pc' := 34) (w := (1 : Int32)) dX8_packs_33 rfl k_ic_1 ?_
      obtain ⟨q34, hq34, h⟩ := Option.bind_eq_some_iff.mp h
      refine x_statI (pc' := 37) (as := [.int x1, .int (1 : Int32)]) (rest := []) dX8_packs_34 rfl lm_8_93 (by decide) rfl rfl rfl rfl hq34 ?_
      refine x_istore_n (pc' := 38) (ls' := [.ref 45, .int x1, .int (q28.1), .int (q34.1), w4, w5, w6, w7, w8, w9, w10, w11]) dX8_packs_37 rfl rfl rfl ?_
      refine x_iload_n (pc' := 39) dX8_packs_38 rfl rfl ?_
      refine x_iconst (pc' := 40) (w := (2 : Int32)) dX8_packs_39 rfl k_ic_2 ?_
      obtain ⟨q40, hq40, h⟩ := Option.bind_eq_some_iff.mp h
      refine x_statI (pc' := 43) (as := [.int x1, .int (2 : Int32)]) (rest := []) dX8_packs_40 rfl lm_8_93 (by decide) rfl rfl rfl rfl hq40 ?_
      refine x_istore (pc' := 45) (ls' := [.ref 45, .int x1, .int (q28.1), .int (q34.1), .int (q40.1), w5, w6, w7, w8, w9, w10, w11]) dX8_packs_43 rfl rfl rfl ?_
      refine x_iload_n (pc' := 46) dX8_packs_45 rfl rfl ?_
      refine x_istore (pc' := 48) (ls' := [.ref 45, .int x1, .int (q28.1), .int (q34.1), .int (q40.1), .int (q28.1), w6, w7, w8, w9, w10, w11]) dX8_packs_46 rfl rfl rfl ?_
      refine x_iload_n (pc' := 49) dX8_packs_48 rfl rfl ?_
      refine x_istore (pc' := 51) (ls' := [.ref 45, .int x1, .int (q28.1), .int (q34.1), .int (q40.1), .int (q28.1), .int (q34.1), w7, w8, w9, w10, w11]) dX8_packs_49 rfl rfl rfl ?_
      refine x_iload (pc' := 53) dX8_packs_51 rfl rfl ?_
      refine x_istore (pc' := 55) (ls' := [.ref 45, .int x1, .int (q28.1), .int (q34.1), .int (q40.1), .int (q28.1), .int (q34.1), .int (q40.1), w8, w9, w10, w11]) dX8_packs_53 rfl rfl rfl ?_
      exact h
    · replace h := (if_neg c20).symm.trans h
      refine x_if_eq_f (pc' := 23) dX8_packs_20 (by decide) rfl c20 ?_
      refine x_goto (pc' := 339) dX8_packs_23 (by decide) ?_
      refine x_iinc (pc' := 342) (w := (1 : Int32)) (ls' := [.ref 45, .int (x1 + (1 : Int32)), w2, w3, w4, w5, w6, w7, w8, w9, w10, w11]) dX8_packs_339 rfl rfl k_ic_1 rfl ?_
      refine x_goto (pc' := 7) dX8_packs_342 (by decide) ?_
      exact h
theorem BX8_packs_55 {d : Nat} {x1 x2 x3 x4 x5 x6 x7 : Int32} {w8 w9 w10 w11 : Value} {S : tb_St} {r : tb_St} (h : ((if (3 : Int32) ≤ x7 then tb_E d mX8_packs tb_dV 87 [.ref 45, .int x1, .int x2, .int x3, .int x4, .int x5, .int x6, .int x7, w8, w9, w10, w11] [] tb_S S else (tb_cI d mX8_all [.ref 45, .int x2, .int x2, .int x3, .int x3, .int (x7 + (1 : Int32)), .int (x7 + (1 : Int32)), .int x1] S).bind fun q75 => (if q75.1 = 0 then tb_E d mX8_packs tb_dV 87 [.ref 45, .int x1, .int x2, .int x3, .int x4, .int x5, .int x6, .int x7, w8, w9, w10, w11] [] tb_S (q75.2) else tb_E d mX8_packs tb_dV 55 [.ref 45, .int x1, .int x2, .int x3, .int x4, .int x5, .int x6, .int (x7 + (1 : Int32)), w8, w9, w10, w11] [] tb_S (q75.2)))) = some r) : tb_E d mX8_packs tb_dV 55 [.ref 45, .int x1, .int x2, .int x3, .int x4, .int x5, .int x6, .int x7, w8, w9, w10, w11] [] tb_S S = some r := by
  refine x_iload (pc' := 57) dX8_packs_55 rfl rfl ?_
  refine x_iconst (pc' := 58) (w := (3 : Int32)) dX8_packs_57 rfl k_ic_3 ?_
  by_cases c58 : (3 : Int32) ≤ x7
  · replace h := (if_pos c58).symm.trans h
    refine x_icmp_ge_t (pc' := 87) dX8_packs_58 (by decide) c58 ?_
    exact h
  · replace h := (if_neg c58).symm.trans h
    refine x_icmp_ge_f (pc' := 61) dX8_packs_58 (by decide) rfl c58 ?_
    refine x_aload_n (pc' := 62) dX8_packs_61 rfl rfl ?_
    refine x_iload_n (pc' := 63) dX8_packs_62 rfl rfl ?_
    refine x_iload_n (pc' := 64) dX8_packs_63 rfl rfl ?_
    refine x_iload_n (pc' := 65) dX8_packs_64 rfl rfl ?_
    refine x_iload_n (pc' := 66) dX8_packs_65 rfl rfl ?_
    refine x_iload (pc' := 68) dX8_packs_66 rfl rfl ?_
    refine x_iconst (pc' := 69) (w := (1 : Int32)) dX8_packs_68 rfl k_ic_1 ?_
    refine x_iadd (pc' := 70) dX8_packs_69 rfl ?_
    refine x_iload (pc' := 72) dX8_packs_70 rfl rfl ?_
    refine x_iconst (pc' := 73) (w := (1 : Int32)) dX8_packs_72 rfl k_ic_1 ?_
    refine x_iadd (pc' := 74) dX8_packs_73 rfl ?_
    refine x_iload_n (pc' := 75) dX8_packs_74 rfl rfl ?_
    obtain ⟨q75, hq75, h⟩ := Option.bind_eq_some_iff.mp h
    refine x_virtI (pc' := 78) (o := 45) (as := [.int x2, .int x2, .int x3, .int x3, .int (x7 + (1 : Int32)), .int (x7 + (1 : Int32)), .int x1]) (rest := []) dX8_packs_75 rfl lm_8_228 rfl rfl rfl sh_45 rfl hq75 ?_
    by_cases c78 : q75.1 = 0
    · replace h := (if_pos c78).symm.trans h
      refine x_if_eq_t (pc' := 87) dX8_packs_78 (by decide) c78 ?_
      exact h
    · replace h := (if_neg c78).symm.trans h
      refine x_if_eq_f (pc' := 81) dX8_packs_78 (by decide) rfl c78 ?_
      refine x_iinc (pc' := 84) (w := (1 : Int32)) (ls' := [.ref 45, .int x1, .int x2, .int x3, .int x4, .int x5, .int x6, .int (x7 + (1 : Int32)), w8, w9, w10, w11]) dX8_packs_81 rfl rfl k_ic_1 rfl ?_
      refine x_goto (pc' := 55) dX8_packs_84 (by decide) ?_
      exact h
theorem BX8_packs_87 {d : Nat} {x1 x2 x3 x4 x5 x6 x7 : Int32} {w8 w9 w10 w11 : Value} {S : tb_St} {r : tb_St} (h : ((if (6 : Int32) ≤ x6 then tb_E d mX8_packs tb_dV 122 [.ref 45, .int x1, .int x2, .int x3, .int x4, .int x5, .int x6, .int x7, w8, w9, w10, w11] [] tb_S S else (tb_cI d mX8_all [.ref 45, .int x2, .int x2, .int (x6 + (1 : Int32)), .int (x6 + (1 : Int32)), .int x4, .int x7, .int x1] S).bind fun q110 => (if q110.1 = 0 then tb_E d mX8_packs tb_dV 122 [.ref 45, .int x1, .int x2, .int x3, .int x4, .int x5, .int x6, .int x7, w8, w9, w10, w11] [] tb_S (q110.2) else tb_E d mX8_packs tb_dV 87 [.ref 45, .int x1, .int x2, .int x3, .int x4, .int x5, .int (x6 + (1 : Int32)), .int x7, w8, w9, w10, w11] [] tb_S (q110.2)))) = some r) : tb_E d mX8_packs tb_dV 87 [.ref 45, .int x1, .int x2, .int x3, .int x4, .int x5, .int x6, .int x7, w8, w9, w10, w11] [] tb_S S = some r := by
  refine x_iload (pc' := 89) dX8_packs_87 rfl rfl ?_
  refine x_bipush (pc' := 91) (w := (6 : Int32)) dX8_packs_89 rfl k_bi_6 ?_
  by_cases c91 : (6 : Int32) ≤ x6
  · replace h := (if_pos c91).symm.trans h
    refine x_icmp_ge_t (pc' := 122) dX8_packs_91 (by decide) c91 ?_
    exact h
  · replace h := (if_neg c91).symm.trans h
    refine x_icmp_ge_f (pc' := 94) dX8_packs_91 (by decide) rfl c91 ?_
    refine x_aload_n (pc' := 95) dX8_packs_94 rfl rfl ?_
    refine x_iload_n (pc' := 96) dX8_packs_95 rfl rfl ?_
    refine x_iload_n (pc' := 97) dX8_packs_96 rfl rfl ?_
    refine x_iload (pc' := 99) dX8_packs_97 rfl rfl ?_
    refine x_iconst (pc' := 100) (w := (1 : Int32)) dX8_packs_99 rfl k_ic_1 ?_
    refine x_iadd (pc' := 101) dX8_packs_100 rfl ?_
    refine x_iload (pc' := 103) dX8_packs_101 rfl rfl ?_
    refine x_iconst (pc' := 104) (w := (1 : Int32)) dX8_packs_103 rfl k_ic_1 ?_
    refine x_iadd (pc' := 105) dX8_packs_104 rfl ?_
    refine x_iload (pc' := 107) dX8_packs_105 rfl rfl ?_
    refine x_iload (pc' := 109) dX8_packs_107 rfl rfl ?_
    refine x_iload_n (pc' := 110) dX8_packs_109 rfl rfl ?_
    obtain ⟨q110, hq110, h⟩ := Option.bind_eq_some_iff.mp h
    refine x_virtI (pc' := 113) (o := 45) (as := [.int x2, .int x2, .int (x6 + (1 : Int32)), .int (x6 + (1 : Int32)), .int x4, .int x7, .int x1]) (rest := []) dX8_packs_110 rfl lm_8_228 rfl rfl rfl sh_45 rfl hq110 ?_
    by_cases c113 : q110.1 = 0
    · replace h := (if_pos c113).symm.trans h
      refine x_if_eq_t (pc' := 122) dX8_packs_113 (by decide) c113 ?_
      exact h
    · replace h := (if_neg c113).symm.trans h
      refine x_if_eq_f (pc' := 116) dX8_packs_113 (by decide) rfl c113 ?_
      refine x_iinc (pc' := 119) (w := (1 : Int32)) (ls' := [.ref 45, .int x1, .int x2, .int x3, .int x4, .int x5, .int (x6 + (1 : Int32)), .int x7, w8, w9, w10, w11]) dX8_packs_116 rfl rfl k_ic_1 rfl ?_
      refine x_goto (pc' := 87) dX8_packs_119 (by decide) ?_
      exact h
theorem BX8_packs_122 {d : Nat} {x1 x2 x3 x4 x5 x6 x7 : Int32} {w8 w9 w10 w11 : Value} {S : tb_St} {r : tb_St} (h : ((if (7 : Int32) ≤ x5 then tb_E d mX8_packs tb_dV 158 [.ref 45, .int x1, .int x2, .int x3, .int x4, .int x5, .int x6, .int x7, w8, w9, w10, w11] [] tb_S S else (tb_cI d mX8_all [.ref 45, .int (x5 + (1 : Int32)), .int (x5 + (1 : Int32)), .int x3, .int x6, .int x4, .int x7, .int x1] S).bind fun q146 => (if q146.1 = 0 then tb_E d mX8_packs tb_dV 158 [.ref 45, .int x1, .int x2, .int x3, .int x4, .int x5, .int x6, .int x7, w8, w9, w10, w11] [] tb_S (q146.2) else tb_E d mX8_packs tb_dV 122 [.ref 45, .int x1, .int x2, .int x3, .int x4, .int (x5 + (1 : Int32)), .int x6, .int x7, w8, w9, w10, w11] [] tb_S (q146.2)))) = some r) : tb_E d mX8_packs tb_dV 122 [.ref 45, .int x1, .int x2, .int x3, .int x4, .int x5, .int x6, .int x7, w8, w9, w10, w11] [] tb_S S = some r := by
  refine x_iload (pc' := 124) dX8_packs_122 rfl rfl ?_
  refine x_bipush (pc' := 126) (w := (7 : Int32)) dX8_packs_124 rfl k_bi_7 ?_
  by_cases c126 : (7 : Int32) ≤ x5
  · replace h := (if_pos c126).symm.trans h
    refine x_icmp_ge_t (pc' := 158) dX8_packs_126 (by decide) c126 ?_
    exact h
  · replace h := (if_neg c126).symm.trans h
    refine x_icmp_ge_f (pc' := 129) dX8_packs_126 (by decide) rfl c126 ?_
    refine x_aload_n (pc' := 130) dX8_packs_129 rfl rfl ?_
    refine x_iload (pc' := 132) dX8_packs_130 rfl rfl ?_
    refine x_iconst (pc' := 133) (w := (1 : Int32)) dX8_packs_132 rfl k_ic_1 ?_
    refine x_iadd (pc' := 134) dX8_packs_133 rfl ?_
    refine x_iload (pc' := 136) dX8_packs_134 rfl rfl ?_
    refine x_iconst (pc' := 137) (w := (1 : Int32)) dX8_packs_136 rfl k_ic_1 ?_
    refine x_iadd (pc' := 138) dX8_packs_137 rfl ?_
    refine x_iload_n (pc' := 139) dX8_packs_138 rfl rfl ?_
    refine x_iload (pc' := 141) dX8_packs_139 rfl rfl ?_
    refine x_iload (pc' := 143) dX8_packs_141 rfl rfl ?_
    refine x_iload (pc' := 145) dX8_packs_143 rfl rfl ?_
    refine x_iload_n (pc' := 146) dX8_packs_145 rfl rfl ?_
    obtain ⟨q146, hq146, h⟩ := Option.bind_eq_some_iff.mp h
    refine x_virtI (pc' := 149) (o := 45) (as := [.int (x5 + (1 : Int32)), .int (x5 + (1 : Int32)), .int x3, .int x6, .int x4, .int x7, .int x1]) (rest := []) dX8_packs_146 rfl lm_8_228 rfl rfl rfl sh_45 rfl hq146 ?_
    by_cases c149 : q146.1 = 0
    · replace h := (if_pos c149).symm.trans h
      refine x_if_eq_t (pc' := 158) dX8_packs_149 (by decide) c149 ?_
      exact h
    · replace h := (if_neg c149).symm.trans h
      refine x_if_eq_f (pc' := 152) dX8_packs_149 (by decide) rfl c149 ?_
      refine x_iinc (pc' := 155) (w := (1 : Int32)) (ls' := [.ref 45, .int x1, .int x2, .int x3, .int x4, .int (x5 + (1 : Int32)), .int x6, .int x7, w8, w9, w10, w11]) dX8_packs_152 rfl rfl k_ic_1 rfl ?_
      refine x_goto (pc' := 122) dX8_packs_155 (by decide) ?_
      exact h
theorem BX8_packs_158 {d : Nat} {x1 x2 x3 x4 x5 x6 x7 : Int32} {w8 w9 w10 w11 : Value} {S : tb_St} {r : tb_St} (h : ((tb_ix ((8 : Int32) * (S 45 14)) 1792).bind fun j174 => (tb_ix (((8 : Int32) * (S 45 14)) + (1 : Int32)) 1792).bind fun j185 => (tb_ix (((8 : Int32) * (S 45 14)) + (2 : Int32)) 1792).bind fun j195 => (tb_ix (((8 : Int32) * (S 45 14)) + (3 : Int32)) 1792).bind fun j206 => (tb_ix (((8 : Int32) * (S 45 14)) + (4 : Int32)) 1792).bind fun j217 => (tb_ix (((8 : Int32) * (S 45 14)) + (5 : Int32)) 1792).bind fun j228 => (tb_ix x1 224).bind fun j243 => (tb_ix (((8 : Int32) * (S 45 14)) + (6 : Int32)) 1792).bind fun j244 => (tb_ix x1 224).bind fun j259 => (tb_ix (((8 : Int32) * (S 45 14)) + (7 : Int32)) 1792).bind fun j260 => tb_E d mX8_packs tb_dV 274 [.ref 45, .int x1, .int x2, .int x3, .int x4, .int x5, .int x6, .int x7, .int ((8 : Int32) * (S 45 14)), .int x2, w10, w11] [] tb_S (tb_up (tb_up (tb_up (tb_up (tb_up (tb_up (tb_up (tb_up (tb_up S 58 j174 x2) 58 j185 x5) 58 j195 x3) 58 j206 x6) 58 j217 x4) 58 j228 x7) 58 j244 (S 55 j243)) 58 j260 (S 56 j259)) 45 14 ((S 45 14) + (1 : Int32)))) = some r) : tb_E d mX8_packs tb_dV 158 [.ref 45, .int x1, .int x2, .int x3, .int x4, .int x5, .int x6, .int x7, w8, w9, w10, w11] [] tb_S S = some r := by
  refine x_bipush (pc' := 160) (w := (8 : Int32)) dX8_packs_158 rfl k_bi_8 ?_
  refine x_aload_n (pc' := 161) dX8_packs_160 rfl rfl ?_
  refine x_getI (pc' := 164) (v := S 45 14) dX8_packs_161 rfl lf_8_225 rfl sh_45 rfl ?_
  refine x_imul (pc' := 165) dX8_packs_164 rfl ?_
  refine x_istore (pc' := 167) (ls' := [.ref 45, .int x1, .int x2, .int x3, .int x4, .int x5, .int x6, .int x7, .int ((8 : Int32) * (S 45 14)), w9, w10, w11]) dX8_packs_165 rfl rfl rfl ?_
  refine x_aload_n (pc' := 168) dX8_packs_167 rfl rfl ?_
  refine x_getR (pc' := 171) dX8_packs_168 rfl lf_8_49 rfl sh_45 rfl ?_
  refine x_iload (pc' := 173) dX8_packs_171 rfl rfl ?_
  refine x_iload_n (pc' := 174) dX8_packs_173 rfl rfl ?_
  obtain ⟨j174, hj174, h⟩ := Option.bind_eq_some_iff.mp h
  refine x_iastore (pc' := 175) dX8_packs_174 rfl sh_58 hj174 ?_
  refine x_aload_n (pc' := 176) dX8_packs_175 rfl rfl ?_
  refine x_getR (pc' := 179) dX8_packs_176 rfl lf_8_49 rfl sh_45 rfl ?_
  refine x_iload (pc' := 181) dX8_packs_179 rfl rfl ?_
  refine x_iconst (pc' := 182) (w := (1 : Int32)) dX8_packs_181 rfl k_ic_1 ?_
  refine x_iadd (pc' := 183) dX8_packs_182 rfl ?_
  refine x_iload (pc' := 185) dX8_packs_183 rfl rfl ?_
  obtain ⟨j185, hj185, h⟩ := Option.bind_eq_some_iff.mp h
  refine x_iastore (pc' := 186) dX8_packs_185 rfl sh_58 hj185 ?_
  refine x_aload_n (pc' := 187) dX8_packs_186 rfl rfl ?_
  refine x_getR (pc' := 190) dX8_packs_187 rfl lf_8_49 rfl sh_45 rfl ?_
  refine x_iload (pc' := 192) dX8_packs_190 rfl rfl ?_
  refine x_iconst (pc' := 193) (w := (2 : Int32)) dX8_packs_192 rfl k_ic_2 ?_
  refine x_iadd (pc' := 194) dX8_packs_193 rfl ?_
  refine x_iload_n (pc' := 195) dX8_packs_194 rfl rfl ?_
  obtain ⟨j195, hj195, h⟩ := Option.bind_eq_some_iff.mp h
  refine x_iastore (pc' := 196) dX8_packs_195 rfl sh_58 hj195 ?_
  refine x_aload_n (pc' := 197) dX8_packs_196 rfl rfl ?_
  refine x_getR (pc' := 200) dX8_packs_197 rfl lf_8_49 rfl sh_45 rfl ?_
  refine x_iload (pc' := 202) dX8_packs_200 rfl rfl ?_
  refine x_iconst (pc' := 203) (w := (3 : Int32)) dX8_packs_202 rfl k_ic_3 ?_
  refine x_iadd (pc' := 204) dX8_packs_203 rfl ?_
  refine x_iload (pc' := 206) dX8_packs_204 rfl rfl ?_
  obtain ⟨j206, hj206, h⟩ := Option.bind_eq_some_iff.mp h
  refine x_iastore (pc' := 207) dX8_packs_206 rfl sh_58 hj206 ?_
  refine x_aload_n (pc' := 208) dX8_packs_207 rfl rfl ?_
  refine x_getR (pc' := 211) dX8_packs_208 rfl lf_8_49 rfl sh_45 rfl ?_
  refine x_iload (pc' := 213) dX8_packs_211 rfl rfl ?_
  refine x_iconst (pc' := 214) (w := (4 : Int32)) dX8_packs_213 rfl k_ic_4 ?_
  refine x_iadd (pc' := 215) dX8_packs_214 rfl ?_
  refine x_iload (pc' := 217) dX8_packs_215 rfl rfl ?_
  obtain ⟨j217, hj217, h⟩ := Option.bind_eq_some_iff.mp h
  refine x_iastore (pc' := 218) dX8_packs_217 rfl sh_58 hj217 ?_
  refine x_aload_n (pc' := 219) dX8_packs_218 rfl rfl ?_
  refine x_getR (pc' := 222) dX8_packs_219 rfl lf_8_49 rfl sh_45 rfl ?_
  refine x_iload (pc' := 224) dX8_packs_222 rfl rfl ?_
  refine x_iconst (pc' := 225) (w := (5 : Int32)) dX8_packs_224 rfl k_ic_5 ?_
  refine x_iadd (pc' := 226) dX8_packs_225 rfl ?_
  refine x_iload (pc' := 228) dX8_packs_226 rfl rfl ?_
  obtain ⟨j228, hj228, h⟩ := Option.bind_eq_some_iff.mp h
  refine x_iastore (pc' := 229) dX8_packs_228 rfl sh_58 hj228 ?_
  refine x_aload_n (pc' := 230) dX8_packs_229 rfl rfl ?_
  refine x_getR (pc' := 233) dX8_packs_230 rfl lf_8_49 rfl sh_45 rfl ?_
  refine x_iload (pc' := 235) dX8_packs_233 rfl rfl ?_
  refine x_bipush (pc' := 237) (w := (6 : Int32)) dX8_packs_235 rfl k_bi_6 ?_
  refine x_iadd (pc' := 238) dX8_packs_237 rfl ?_
  refine x_aload_n (pc' := 239) dX8_packs_238 rfl rfl ?_
  refine x_getR (pc' := 242) dX8_packs_239 rfl lf_8_39 rfl sh_45 rfl ?_
  refine x_iload_n (pc' := 243) dX8_packs_242 rfl rfl ?_
  obtain ⟨j243, hj243, h⟩ := Option.bind_eq_some_iff.mp h
  refine x_iaload (pc' := 244) (v := S 55 j243) dX8_packs_243 rfl sh_55 hj243 rfl ?_
  obtain ⟨j244, hj244, h⟩ := Option.bind_eq_some_iff.mp h
  refine x_iastore (pc' := 245) dX8_packs_244 rfl sh_58 hj244 ?_
  refine x_aload_n (pc' := 246) dX8_packs_245 rfl rfl ?_
  refine x_getR (pc' := 249) dX8_packs_246 rfl lf_8_49 rfl sh_45 rfl ?_
  refine x_iload (pc' := 251) dX8_packs_249 rfl rfl ?_
  refine x_bipush (pc' := 253) (w := (7 : Int32)) dX8_packs_251 rfl k_bi_7 ?_
  refine x_iadd (pc' := 254) dX8_packs_253 rfl ?_
  refine x_aload_n (pc' := 255) dX8_packs_254 rfl rfl ?_
  refine x_getR (pc' := 258) dX8_packs_255 rfl lf_8_42 rfl sh_45 rfl ?_
  refine x_iload_n (pc' := 259) dX8_packs_258 rfl rfl ?_
  obtain ⟨j259, hj259, h⟩ := Option.bind_eq_some_iff.mp h
  refine x_iaload (pc' := 260) (v := S 56 j259) dX8_packs_259 rfl sh_56 hj259 rfl ?_
  obtain ⟨j260, hj260, h⟩ := Option.bind_eq_some_iff.mp h
  refine x_iastore (pc' := 261) dX8_packs_260 rfl sh_58 hj260 ?_
  refine x_aload_n (pc' := 262) dX8_packs_261 rfl rfl ?_
  refine x_dup (pc' := 263) dX8_packs_262 rfl rfl ?_
  refine x_getI (pc' := 266) (v := S 45 14) dX8_packs_263 rfl lf_8_225 rfl sh_45 rfl ?_
  refine x_iconst (pc' := 267) (w := (1 : Int32)) dX8_packs_266 rfl k_ic_1 ?_
  refine x_iadd (pc' := 268) dX8_packs_267 rfl ?_
  refine x_putI (pc' := 271) dX8_packs_268 rfl lf_8_225 (Or.inl rfl) sh_45 ?_
  refine x_iload_n (pc' := 272) dX8_packs_271 rfl rfl ?_
  refine x_istore (pc' := 274) (ls' := [.ref 45, .int x1, .int x2, .int x3, .int x4, .int x5, .int x6, .int x7, .int ((8 : Int32) * (S 45 14)), .int x2, w10, w11]) dX8_packs_272 rfl rfl rfl ?_
  exact h
theorem BX8_packs_274 {d : Nat} {x1 x3 x4 x5 x6 x7 x9 : Int32} {w2 w8 w10 w11 : Value} {S : tb_St} {r : tb_St} (h : ((if x5 < x9 then tb_E d mX8_packs tb_dV 7 [.ref 45, .int (x1 + (1 : Int32)), w2, .int x3, .int x4, .int x5, .int x6, .int x7, w8, .int x9, w10, w11] [] tb_S S else tb_E d mX8_packs tb_dV 284 [.ref 45, .int x1, w2, .int x3, .int x4, .int x5, .int x6, .int x7, w8, .int x9, .int x3, w11] [] tb_S S)) = some r) : tb_E d mX8_packs tb_dV 274 [.ref 45, .int x1, w2, .int x3, .int x4, .int x5, .int x6, .int x7, w8, .int x9, w10, w11] [] tb_S S = some r := by
  refine x_iload (pc' := 276) dX8_packs_274 rfl rfl ?_
  refine x_iload (pc' := 278) dX8_packs_276 rfl rfl ?_
  by_cases c278 : x5 < x9
  · replace h := (if_pos c278).symm.trans h
    refine x_icmp_gt_t (pc' := 339) dX8_packs_278 (by decide) c278 ?_
    refine x_iinc (pc' := 342) (w := (1 : Int32)) (ls' := [.ref 45, .int (x1 + (1 : Int32)), w2, .int x3, .int x4, .int x5, .int x6, .int x7, w8, .int x9, w10, w11]) dX8_packs_339 rfl rfl k_ic_1 rfl ?_
    refine x_goto (pc' := 7) dX8_packs_342 (by decide) ?_
    exact h
  · replace h := (if_neg c278).symm.trans h
    refine x_icmp_gt_f (pc' := 281) dX8_packs_278 (by decide) rfl c278 ?_
    refine x_iload_n (pc' := 282) dX8_packs_281 rfl rfl ?_
    refine x_istore (pc' := 284) (ls' := [.ref 45, .int x1, w2, .int x3, .int x4, .int x5, .int x6, .int x7, w8, .int x9, .int x3, w11]) dX8_packs_282 rfl rfl rfl ?_
    exact h
theorem BX8_packs_284 {d : Nat} {x1 x3 x4 x5 x6 x7 x9 x10 : Int32} {w2 w8 w11 : Value} {S : tb_St} {r : tb_St} (h : ((if x6 < x10 then tb_E d mX8_packs tb_dV 274 [.ref 45, .int x1, w2, .int x3, .int x4, .int x5, .int x6, .int x7, w8, .int (x9 + (1 : Int32)), .int x10, w11] [] tb_S S else tb_E d mX8_packs tb_dV 295 [.ref 45, .int x1, w2, .int x3, .int x4, .int x5, .int x6, .int x7, w8, .int x9, .int x10, .int x4] [] tb_S S)) = some r) : tb_E d mX8_packs tb_dV 284 [.ref 45, .int x1, w2, .int x3, .int x4, .int x5, .int x6, .int x7, w8, .int x9, .int x10, w11] [] tb_S S = some r := by
  refine x_iload (pc' := 286) dX8_packs_284 rfl rfl ?_
  refine x_iload (pc' := 288) dX8_packs_286 rfl rfl ?_
  by_cases c288 : x6 < x10
  · replace h := (if_pos c288).symm.trans h
    refine x_icmp_gt_t (pc' := 333) dX8_packs_288 (by decide) c288 ?_
    refine x_iinc (pc' := 336) (w := (1 : Int32)) (ls' := [.ref 45, .int x1, w2, .int x3, .int x4, .int x5, .int x6, .int x7, w8, .int (x9 + (1 : Int32)), .int x10, w11]) dX8_packs_333 rfl rfl k_ic_1 rfl ?_
    refine x_goto (pc' := 274) dX8_packs_336 (by decide) ?_
    exact h
  · replace h := (if_neg c288).symm.trans h
    refine x_icmp_gt_f (pc' := 291) dX8_packs_288 (by decide) rfl c288 ?_
    refine x_iload (pc' := 293) dX8_packs_291 rfl rfl ?_
    refine x_istore (pc' := 295) (ls' := [.ref 45, .int x1, w2, .int x3, .int x4, .int x5, .int x6, .int x7, w8, .int x9, .int x10, .int x4]) dX8_packs_293 rfl rfl rfl ?_
    exact h
theorem BX8_packs_295 {d : Nat} {x1 x3 x4 x5 x6 x7 x9 x10 x11 : Int32} {w2 w8 : Value} {S : tb_St} {r : tb_St} (h : ((if x7 < x11 then tb_E d mX8_packs tb_dV 284 [.ref 45, .int x1, w2, .int x3, .int x4, .int x5, .int x6, .int x7, w8, .int x9, .int (x10 + (1 : Int32)), .int x11] [] tb_S S else (tb_ix ((((28 : Int32) * x9) + ((4 : Int32) * x10)) + x11) 224).bind fun j320 => tb_E d mX8_packs tb_dV 295 [.ref 45, .int x1, w2, .int x3, .int x4, .int x5, .int x6, .int x7, w8, .int x9, .int x10, .int (x11 + (1 : Int32))] [] tb_S (tb_up S 57 j320 (1 : Int32)))) = some r) : tb_E d mX8_packs tb_dV 295 [.ref 45, .int x1, w2, .int x3, .int x4, .int x5, .int x6, .int x7, w8, .int x9, .int x10, .int x11] [] tb_S S = some r := by
  refine x_iload (pc' := 297) dX8_packs_295 rfl rfl ?_
  refine x_iload (pc' := 299) dX8_packs_297 rfl rfl ?_
  by_cases c299 : x7 < x11
  · replace h := (if_pos c299).symm.trans h
    refine x_icmp_gt_t (pc' := 327) dX8_packs_299 (by decide) c299 ?_
    refine x_iinc (pc' := 330) (w := (1 : Int32)) (ls' := [.ref 45, .int x1, w2, .int x3, .int x4, .int x5, .int x6, .int x7, w8, .int x9, .int (x10 + (1 : Int32)), .int x11]) dX8_packs_327 rfl rfl k_ic_1 rfl ?_
    refine x_goto (pc' := 284) dX8_packs_330 (by decide) ?_
    exact h
  · replace h := (if_neg c299).symm.trans h
    refine x_icmp_gt_f (pc' := 302) dX8_packs_299 (by decide) rfl c299 ?_
    refine x_aload_n (pc' := 303) dX8_packs_302 rfl rfl ?_
    refine x_getR (pc' := 306) dX8_packs_303 rfl lf_8_45 rfl sh_45 rfl ?_
    refine x_bipush (pc' := 308) (w := (28 : Int32)) dX8_packs_306 rfl k_bi_28 ?_
    refine x_iload (pc' := 310) dX8_packs_308 rfl rfl ?_
    refine x_imul (pc' := 311) dX8_packs_310 rfl ?_
    refine x_iconst (pc' := 312) (w := (4 : Int32)) dX8_packs_311 rfl k_ic_4 ?_
    refine x_iload (pc' := 314) dX8_packs_312 rfl rfl ?_
    refine x_imul (pc' := 315) dX8_packs_314 rfl ?_
    refine x_iadd (pc' := 316) dX8_packs_315 rfl ?_
    refine x_iload (pc' := 318) dX8_packs_316 rfl rfl ?_
    refine x_iadd (pc' := 319) dX8_packs_318 rfl ?_
    refine x_iconst (pc' := 320) (w := (1 : Int32)) dX8_packs_319 rfl k_ic_1 ?_
    obtain ⟨j320, hj320, h⟩ := Option.bind_eq_some_iff.mp h
    refine x_bastore51 (pc' := 321) dX8_packs_320 rfl sh_57 hj320 tb_nz1 ?_
    refine x_iinc (pc' := 324) (w := (1 : Int32)) (ls' := [.ref 45, .int x1, w2, .int x3, .int x4, .int x5, .int x6, .int x7, w8, .int x9, .int x10, .int (x11 + (1 : Int32))]) dX8_packs_321 rfl rfl k_ic_1 rfl ?_
    refine x_goto (pc' := 295) dX8_packs_324 (by decide) ?_
    exact h
/-! X0_takeAll (28,) -/
theorem BX0_takeAll_0 {d : Nat} {w1 : Value} {S : tb_St} {r : tb_St} (h : (tb_E d mX0_takeAll tb_dV 7 [.ref 28, .int (0 : Int32)] [] tb_S (tb_up S 28 3 (0 : Int32))) = some r) : tb_E d mX0_takeAll tb_dV 0 [.ref 28, w1] [] tb_S S = some r := by
  refine x_aload_n (pc' := 1) dX0_takeAll_0 rfl rfl ?_
  refine x_iconst (pc' := 2) (w := (0 : Int32)) dX0_takeAll_1 rfl k_ic_0 ?_
  refine x_putI (pc' := 5) dX0_takeAll_2 rfl lf_0_21 (Or.inl rfl) sh_28 ?_
  refine x_iconst (pc' := 6) (w := (0 : Int32)) dX0_takeAll_5 rfl k_ic_0 ?_
  refine x_istore_n (pc' := 7) (ls' := [.ref 28, .int (0 : Int32)]) dX0_takeAll_6 rfl rfl rfl ?_
  exact h
theorem MX0_takeAll {d : Nat} {S : tb_St} {r : tb_St} (h : (tb_E d mX0_takeAll tb_dV 7 [.ref 28, .int (0 : Int32)] [] tb_S (tb_up S 28 3 (0 : Int32))) = some r) : tb_cV (d + 1) mX0_takeAll [.ref 28] S = some r := tb_enV rfl rfl (BX0_takeAll_0 h)
theorem BX0_takeAll_7 {d : Nat} {x1 : Int32} {S : tb_St} {r : tb_St} (h : ((if (224 : Int32) ≤ x1 then some S else (tb_ix x1 224).bind fun j19 => (if S 29 j19 = (-1 : Int32) then tb_E d mX0_takeAll tb_dV 7 [.ref 28, .int (x1 + (1 : Int32))] [] tb_S S else (tb_cV d mX0_takeFrom [.ref 28, .int x1] S).bind fun q26 => tb_E d mX0_takeAll tb_dV 7 [.ref 28, .int (x1 + (1 : Int32))] [] tb_S q26))) = some r) : tb_E d mX0_takeAll tb_dV 7 [.ref 28, .int x1] [] tb_S S = some r := by
  refine x_iload_n (pc' := 8) dX0_takeAll_7 rfl rfl ?_
  refine x_sipush (pc' := 11) (w := (224 : Int32)) dX0_takeAll_8 rfl k_si_224 ?_
  by_cases c11 : (224 : Int32) ≤ x1
  · replace h := (if_pos c11).symm.trans h
    refine x_icmp_ge_t (pc' := 35) dX0_takeAll_11 (by decide) c11 ?_
    exact x_vret dX0_takeAll_35 rfl ((tb_dV_ok _).trans h)
  · replace h := (if_neg c11).symm.trans h
    refine x_icmp_ge_f (pc' := 14) dX0_takeAll_11 (by decide) rfl c11 ?_
    refine x_aload_n (pc' := 15) dX0_takeAll_14 rfl rfl ?_
    refine x_getR (pc' := 18) dX0_takeAll_15 rfl lf_0_9 rfl sh_28 rfl ?_
    refine x_iload_n (pc' := 19) dX0_takeAll_18 rfl rfl ?_
    obtain ⟨j19, hj19, h⟩ := Option.bind_eq_some_iff.mp h
    refine x_iaload (pc' := 20) (v := S 29 j19) dX0_takeAll_19 rfl sh_29 hj19 rfl ?_
    refine x_iconst (pc' := 21) (w := (-1 : Int32)) dX0_takeAll_20 rfl k_ic_m1 ?_
    by_cases c21 : S 29 j19 = (-1 : Int32)
    · replace h := (if_pos c21).symm.trans h
      refine x_icmp_eq_t (pc' := 29) dX0_takeAll_21 (by decide) c21 ?_
      refine x_iinc (pc' := 32) (w := (1 : Int32)) (ls' := [.ref 28, .int (x1 + (1 : Int32))]) dX0_takeAll_29 rfl rfl k_ic_1 rfl ?_
      refine x_goto (pc' := 7) dX0_takeAll_32 (by decide) ?_
      exact h
    · replace h := (if_neg c21).symm.trans h
      refine x_icmp_eq_f (pc' := 24) dX0_takeAll_21 (by decide) rfl c21 ?_
      refine x_aload_n (pc' := 25) dX0_takeAll_24 rfl rfl ?_
      refine x_iload_n (pc' := 26) dX0_takeAll_25 rfl rfl ?_
      obtain ⟨q26, hq26, h⟩ := Option.bind_eq_some_iff.mp h
      refine x_virtV (pc' := 29) (o := 28) (as := [.int x1]) (rest := []) dX0_takeAll_26 rfl lm_0_33 rfl rfl rfl sh_28 rfl hq26 ?_
      refine x_iinc (pc' := 32) (w := (1 : Int32)) (ls' := [.ref 28, .int (x1 + (1 : Int32))]) dX0_takeAll_29 rfl rfl k_ic_1 rfl ?_
      refine x_goto (pc' := 7) dX0_takeAll_32 (by decide) ?_
      exact h
/-! X8_said (45,) -/
theorem BX8_said_0 {d : Nat} {x1 x2 : Int32} {w3 w4 w5 : Value} {S : tb_St} {r : Int32 × tb_St} (h : ((tb_ix x1 96).bind fun j5 => (if ¬ S 46 j5 = (2 : Int32) then (if ¬ S 46 j5 = 0 then (if ¬ S 46 j5 = (1 : Int32) then (tb_ix x1 96).bind fun j111 => (tb_cI d mX8_said [.ref 45, .int (S 48 j111), .int x2] S).bind fun q113 => (if ¬ S 46 j5 = (6 : Int32) then (tb_ix x1 96).bind fun j166 => (tb_cI d mX8_said [.ref 45, .int ((q113.2) 49 j166), .int x2] (q113.2)).bind fun q168 => (if ¬ S 46 j5 = (3 : Int32) then (if ¬ S 46 j5 = (7 : Int32) then (if q113.1 = (-5 : Int32) then (if ¬ q113.1 = (-5 : Int32) then some (q113.1, q168.2) else some (q168.1, q168.2)) else (if ¬ q168.1 = (-5 : Int32) then (if ¬ S 46 j5 = (4 : Int32) then some (tb_min (q113.1) (q168.1), q168.2) else some (tb_min (99 : Int32) ((q113.1) + (q168.1)), q168.2)) else (if ¬ q113.1 = (-5 : Int32) then some (q113.1, q168.2) else some (q168.1, q168.2)))) else (if ¬ q168.1 = (-5 : Int32) then some ((-5 : Int32), q168.2) else some (q113.1, q168.2))) else (if ¬ q113.1 = (-5 : Int32) then some (q113.1, q168.2) else some (q168.1, q168.2))) else (tb_ix x1 96).bind fun j131 => (if q113.1 ≤ (q113.2) 47 j131 then some (q113.1, q113.2) else (tb_ix x1 96).bind fun j141 => (tb_cI d mX8_isIn [.int x2, .int ((q113.2) 50 j141)] (q113.2)).bind fun q142 => (if q142.1 = 0 then some (q113.1, q142.2) else (tb_ix x1 96).bind fun j153 => some ((q142.2) 47 j153, q142.2)))) else some ((-5 : Int32), S)) else (if ¬ x1 = S 45 19 then (tb_ix x1 96).bind fun j95 => some (S 47 j95, S) else some (S 45 20, S))) else (tb_ix x1 96).bind fun j34 => (tb_cI d mX8_said [.ref 45, .int (S 48 j34), .int x2] (tb_up S 45 16 ((S 45 16) + (1 : Int32)))).bind fun q36 => (if S 45 16 = (q36.2) 45 17 then some ((-5 : Int32), q36.2) else (tb_ix x1 96).bind fun j56 => (tb_cI d mX8_isIn [.int x2, .int ((q36.2) 50 j56)] (q36.2)).bind fun q57 => (if ¬ q57.1 = 0 then some (q36.1, q57.2) else some ((-5 : Int32), q57.2))))) = some r) : tb_E d mX8_said tb_dI 0 [.ref 45, .int x1, .int x2, w3, w4, w5] [] tb_S S = some r := by
  refine x_aload_n (pc' := 1) dX8_said_0 rfl rfl ?_
  refine x_getR (pc' := 4) dX8_said_1 rfl lf_8_9 rfl sh_45 rfl ?_
  refine x_iload_n (pc' := 5) dX8_said_4 rfl rfl ?_
  obtain ⟨j5, hj5, h⟩ := Option.bind_eq_some_iff.mp h
  refine x_iaload (pc' := 6) (v := S 46 j5) dX8_said_5 rfl sh_46 hj5 rfl ?_
  refine x_istore_n (pc' := 7) (ls' := [.ref 45, .int x1, .int x2, .int (S 46 j5), w4, w5]) dX8_said_6 rfl rfl rfl ?_
  refine x_iload_n (pc' := 8) dX8_said_7 rfl rfl ?_
  refine x_iconst (pc' := 9) (w := (2 : Int32)) dX8_said_8 rfl k_ic_2 ?_
  by_cases c9 : ¬ S 46 j5 = (2 : Int32)
  · replace h := (if_pos c9).symm.trans h
    refine x_icmp_ne_t (pc' := 71) dX8_said_9 (by decide) c9 ?_
    refine x_iload_n (pc' := 72) dX8_said_71 rfl rfl ?_
    by_cases c72 : ¬ S 46 j5 = 0
    · replace h := (if_pos c72).symm.trans h
      refine x_if_ne_t (pc' := 97) dX8_said_72 (by decide) c72 ?_
      refine x_iload_n (pc' := 98) dX8_said_97 rfl rfl ?_
      refine x_iconst (pc' := 99) (w := (1 : Int32)) dX8_said_98 rfl k_ic_1 ?_
      by_cases c99 : ¬ S 46 j5 = (1 : Int32)
      · replace h := (if_pos c99).symm.trans h
        refine x_icmp_ne_t (pc' := 105) dX8_said_99 (by decide) c99 ?_
        refine x_aload_n (pc' := 106) dX8_said_105 rfl rfl ?_
        refine x_aload_n (pc' := 107) dX8_said_106 rfl rfl ?_
        refine x_getR (pc' := 110) dX8_said_107 rfl lf_8_18 rfl sh_45 rfl ?_
        refine x_iload_n (pc' := 111) dX8_said_110 rfl rfl ?_
        obtain ⟨j111, hj111, h⟩ := Option.bind_eq_some_iff.mp h
        refine x_iaload (pc' := 112) (v := S 48 j111) dX8_said_111 rfl sh_48 hj111 rfl ?_
        refine x_iload_n (pc' := 113) dX8_said_112 rfl rfl ?_
        obtain ⟨q113, hq113, h⟩ := Option.bind_eq_some_iff.mp h
        refine x_virtI (pc' := 116) (o := 45) (as := [.int (S 48 j111), .int x2]) (rest := []) dX8_said_113 rfl lm_8_191 rfl rfl rfl sh_45 rfl hq113 ?_
        refine x_istore (pc' := 118) (ls' := [.ref 45, .int x1, .int x2, .int (S 46 j5), .int (q113.1), w5]) dX8_said_116 rfl rfl rfl ?_
        refine x_iload_n (pc' := 119) dX8_said_118 rfl rfl ?_
        refine x_bipush (pc' := 121) (w := (6 : Int32)) dX8_said_119 rfl k_bi_6 ?_
        by_cases c121 : ¬ S 46 j5 = (6 : Int32)
        · replace h := (if_pos c121).symm.trans h
          refine x_icmp_ne_t (pc' := 160) dX8_said_121 (by decide) c121 ?_
          refine x_aload_n (pc' := 161) dX8_said_160 rfl rfl ?_
          refine x_aload_n (pc' := 162) dX8_said_161 rfl rfl ?_
          refine x_getR (pc' := 165) dX8_said_162 rfl lf_8_21 rfl sh_45 rfl ?_
          refine x_iload_n (pc' := 166) dX8_said_165 rfl rfl ?_
          obtain ⟨j166, hj166, h⟩ := Option.bind_eq_some_iff.mp h
          refine x_iaload (pc' := 167) (v := (q113.2) 49 j166) dX8_said_166 rfl sh_49 hj166 rfl ?_
          refine x_iload_n (pc' := 168) dX8_said_167 rfl rfl ?_
          obtain ⟨q168, hq168, h⟩ := Option.bind_eq_some_iff.mp h
          refine x_virtI (pc' := 171) (o := 45) (as := [.int ((q113.2) 49 j166), .int x2]) (rest := []) dX8_said_168 rfl lm_8_191 rfl rfl rfl sh_45 rfl hq168 ?_
          refine x_istore (pc' := 173) (ls' := [.ref 45, .int x1, .int x2, .int (S 46 j5), .int (q113.1), .int (q168.1)]) dX8_said_171 rfl rfl rfl ?_
          refine x_iload_n (pc' := 174) dX8_said_173 rfl rfl ?_
          refine x_iconst (pc' := 175) (w := (3 : Int32)) dX8_said_174 rfl k_ic_3 ?_
          by_cases c175 : ¬ S 46 j5 = (3 : Int32)
          · replace h := (if_pos c175).symm.trans h
            refine x_icmp_ne_t (pc' := 193) dX8_said_175 (by decide) c175 ?_
            refine x_iload_n (pc' := 194) dX8_said_193 rfl rfl ?_
            refine x_bipush (pc' := 196) (w := (7 : Int32)) dX8_said_194 rfl k_bi_7 ?_
            by_cases c196 : ¬ S 46 j5 = (7 : Int32)
            · replace h := (if_pos c196).symm.trans h
              refine x_icmp_ne_t (pc' := 214) dX8_said_196 (by decide) c196 ?_
              refine x_iload (pc' := 216) dX8_said_214 rfl rfl ?_
              refine x_bipush (pc' := 218) (w := (-5 : Int32)) dX8_said_216 rfl k_bi_m5 ?_
              by_cases c218 : q113.1 = (-5 : Int32)
              · replace h := (if_pos c218).symm.trans h
                refine x_icmp_eq_t (pc' := 228) dX8_said_218 (by decide) c218 ?_
                refine x_iload (pc' := 230) dX8_said_228 rfl rfl ?_
                refine x_bipush (pc' := 232) (w := (-5 : Int32)) dX8_said_230 rfl k_bi_m5 ?_
                by_cases c232 : ¬ q113.1 = (-5 : Int32)
                · replace h := (if_pos c232).symm.trans h
                  refine x_icmp_ne_t (pc' := 240) dX8_said_232 (by decide) c232 ?_
                  refine x_iload (pc' := 242) dX8_said_240 rfl rfl ?_
                  exact x_iret dX8_said_242 rfl ((tb_dI_ok _ _).trans h)
                · replace h := (if_neg c232).symm.trans h
                  refine x_icmp_ne_f (pc' := 235) dX8_said_232 (by decide) rfl c232 ?_
                  refine x_iload (pc' := 237) dX8_said_235 rfl rfl ?_
                  refine x_goto (pc' := 242) dX8_said_237 (by decide) ?_
                  exact x_iret dX8_said_242 rfl ((tb_dI_ok _ _).trans h)
              · replace h := (if_neg c218).symm.trans h
                refine x_icmp_eq_f (pc' := 221) dX8_said_218 (by decide) rfl c218 ?_
                refine x_iload (pc' := 223) dX8_said_221 rfl rfl ?_
                refine x_bipush (pc' := 225) (w := (-5 : Int32)) dX8_said_223 rfl k_bi_m5 ?_
                by_cases c225 : ¬ q168.1 = (-5 : Int32)
                · replace h := (if_pos c225).symm.trans h
                  refine x_icmp_ne_t (pc' := 243) dX8_said_225 (by decide) c225 ?_
                  refine x_iload_n (pc' := 244) dX8_said_243 rfl rfl ?_
                  refine x_iconst (pc' := 245) (w := (4 : Int32)) dX8_said_244 rfl k_ic_4 ?_
                  by_cases c245 : ¬ S 46 j5 = (4 : Int32)
                  · replace h := (if_pos c245).symm.trans h
                    refine x_icmp_ne_t (pc' := 261) dX8_said_245 (by decide) c245 ?_
                    refine x_iload (pc' := 263) dX8_said_261 rfl rfl ?_
                    refine x_iload (pc' := 265) dX8_said_263 rfl rfl ?_
                    refine x_mm (pc' := 268) (w := tb_min (q113.1) (q168.1)) dX8_said_265 rfl ln_8_204 lx_8_204 rfl rfl ?_
                    exact x_iret dX8_said_268 rfl ((tb_dI_ok _ _).trans h)
                  · replace h := (if_neg c245).symm.trans h
                    refine x_icmp_ne_f (pc' := 248) dX8_said_245 (by decide) rfl c245 ?_
                    refine x_bipush (pc' := 250) (w := (99 : Int32)) dX8_said_248 rfl k_bi_99 ?_
                    refine x_iload (pc' := 252) dX8_said_250 rfl rfl ?_
                    refine x_iload (pc' := 254) dX8_said_252 rfl rfl ?_
                    refine x_iadd (pc' := 255) dX8_said_254 rfl ?_
                    refine x_mm (pc' := 258) (w := tb_min (99 : Int32) ((q113.1) + (q168.1))) dX8_said_255 rfl ln_8_204 lx_8_204 rfl rfl ?_
                    refine x_goto (pc' := 268) dX8_said_258 (by decide) ?_
                    exact x_iret dX8_said_268 rfl ((tb_dI_ok _ _).trans h)
                · replace h := (if_neg c225).symm.trans h
                  refine x_icmp_ne_f (pc' := 228) dX8_said_225 (by decide) rfl c225 ?_
                  refine x_iload (pc' := 230) dX8_said_228 rfl rfl ?_
                  refine x_bipush (pc' := 232) (w := (-5 : Int32)) dX8_said_230 rfl k_bi_m5 ?_
                  by_cases c232 : ¬ q113.1 = (-5 : Int32)
                  · replace h := (if_pos c232).symm.trans h
                    refine x_icmp_ne_t (pc' := 240) dX8_said_232 (by decide) c232 ?_
                    refine x_iload (pc' := 242) dX8_said_240 rfl rfl ?_
                    exact x_iret dX8_said_242 rfl ((tb_dI_ok _ _).trans h)
                  · replace h := (if_neg c232).symm.trans h
                    refine x_icmp_ne_f (pc' := 235) dX8_said_232 (by decide) rfl c232 ?_
                    refine x_iload (pc' := 237) dX8_said_235 rfl rfl ?_
                    refine x_goto (pc' := 242) dX8_said_237 (by decide) ?_
                    exact x_iret dX8_said_242 rfl ((tb_dI_ok _ _).trans h)
            · replace h := (if_neg c196).symm.trans h
              refine x_icmp_ne_f (pc' := 199) dX8_said_196 (by decide) rfl c196 ?_
              refine x_iload (pc' := 201) dX8_said_199 rfl rfl ?_
              refine x_bipush (pc' := 203) (w := (-5 : Int32)) dX8_said_201 rfl k_bi_m5 ?_
              by_cases c203 : ¬ q168.1 = (-5 : Int32)
              · replace h := (if_pos c203).symm.trans h
                refine x_icmp_ne_t (pc' := 211) dX8_said_203 (by decide) c203 ?_
                refine x_bipush (pc' := 213) (w := (-5 : Int32)) dX8_said_211 rfl k_bi_m5 ?_
                exact x_iret dX8_said_213 rfl ((tb_dI_ok _ _).trans h)
              · replace h := (if_neg c203).symm.trans h
                refine x_icmp_ne_f (pc' := 206) dX8_said_203 (by decide) rfl c203 ?_
                refine x_iload (pc' := 208) dX8_said_206 rfl rfl ?_
                refine x_goto (pc' := 213) dX8_said_208 (by decide) ?_
                exact x_iret dX8_said_213 rfl ((tb_dI_ok _ _).trans h)
          · replace h := (if_neg c175).symm.trans h
            refine x_icmp_ne_f (pc' := 178) dX8_said_175 (by decide) rfl c175 ?_
            refine x_iload (pc' := 180) dX8_said_178 rfl rfl ?_
            refine x_bipush (pc' := 182) (w := (-5 : Int32)) dX8_said_180 rfl k_bi_m5 ?_
            by_cases c182 : ¬ q113.1 = (-5 : Int32)
            · replace h := (if_pos c182).symm.trans h
              refine x_icmp_ne_t (pc' := 190) dX8_said_182 (by decide) c182 ?_
              refine x_iload (pc' := 192) dX8_said_190 rfl rfl ?_
              exact x_iret dX8_said_192 rfl ((tb_dI_ok _ _).trans h)
            · replace h := (if_neg c182).symm.trans h
              refine x_icmp_ne_f (pc' := 185) dX8_said_182 (by decide) rfl c182 ?_
              refine x_iload (pc' := 187) dX8_said_185 rfl rfl ?_
              refine x_goto (pc' := 192) dX8_said_187 (by decide) ?_
              exact x_iret dX8_said_192 rfl ((tb_dI_ok _ _).trans h)
        · replace h := (if_neg c121).symm.trans h
          refine x_icmp_ne_f (pc' := 124) dX8_said_121 (by decide) rfl c121 ?_
          refine x_iload (pc' := 126) dX8_said_124 rfl rfl ?_
          refine x_aload_n (pc' := 127) dX8_said_126 rfl rfl ?_
          refine x_getR (pc' := 130) dX8_said_127 rfl lf_8_15 rfl sh_45 rfl ?_
          refine x_iload_n (pc' := 131) dX8_said_130 rfl rfl ?_
          obtain ⟨j131, hj131, h⟩ := Option.bind_eq_some_iff.mp h
          refine x_iaload (pc' := 132) (v := (q113.2) 47 j131) dX8_said_131 rfl sh_47 hj131 rfl ?_
          by_cases c132 : q113.1 ≤ (q113.2) 47 j131
          · replace h := (if_pos c132).symm.trans h
            refine x_icmp_le_t (pc' := 157) dX8_said_132 (by decide) c132 ?_
            refine x_iload (pc' := 159) dX8_said_157 rfl rfl ?_
            exact x_iret dX8_said_159 rfl ((tb_dI_ok _ _).trans h)
          · replace h := (if_neg c132).symm.trans h
            refine x_icmp_le_f (pc' := 135) dX8_said_132 (by decide) rfl c132 ?_
            refine x_iload_n (pc' := 136) dX8_said_135 rfl rfl ?_
            refine x_aload_n (pc' := 137) dX8_said_136 rfl rfl ?_
            refine x_getR (pc' := 140) dX8_said_137 rfl lf_8_24 rfl sh_45 rfl ?_
            refine x_iload_n (pc' := 141) dX8_said_140 rfl rfl ?_
            obtain ⟨j141, hj141, h⟩ := Option.bind_eq_some_iff.mp h
            refine x_iaload (pc' := 142) (v := (q113.2) 50 j141) dX8_said_141 rfl sh_50 hj141 rfl ?_
            obtain ⟨q142, hq142, h⟩ := Option.bind_eq_some_iff.mp h
            refine x_statI (pc' := 145) (as := [.int x2, .int ((q113.2) 50 j141)]) (rest := []) dX8_said_142 rfl lm_8_197 (by decide) rfl rfl rfl rfl hq142 ?_
            by_cases c145 : q142.1 = 0
            · replace h := (if_pos c145).symm.trans h
              refine x_if_eq_t (pc' := 157) dX8_said_145 (by decide) c145 ?_
              refine x_iload (pc' := 159) dX8_said_157 rfl rfl ?_
              exact x_iret dX8_said_159 rfl ((tb_dI_ok _ _).trans h)
            · replace h := (if_neg c145).symm.trans h
              refine x_if_eq_f (pc' := 148) dX8_said_145 (by decide) rfl c145 ?_
              refine x_aload_n (pc' := 149) dX8_said_148 rfl rfl ?_
              refine x_getR (pc' := 152) dX8_said_149 rfl lf_8_15 rfl sh_45 rfl ?_
              refine x_iload_n (pc' := 153) dX8_said_152 rfl rfl ?_
              obtain ⟨j153, hj153, h⟩ := Option.bind_eq_some_iff.mp h
              refine x_iaload (pc' := 154) (v := (q142.2) 47 j153) dX8_said_153 rfl sh_47 hj153 rfl ?_
              refine x_goto (pc' := 159) dX8_said_154 (by decide) ?_
              exact x_iret dX8_said_159 rfl ((tb_dI_ok _ _).trans h)
      · replace h := (if_neg c99).symm.trans h
        refine x_icmp_ne_f (pc' := 102) dX8_said_99 (by decide) rfl c99 ?_
        refine x_bipush (pc' := 104) (w := (-5 : Int32)) dX8_said_102 rfl k_bi_m5 ?_
        exact x_iret dX8_said_104 rfl ((tb_dI_ok _ _).trans h)
    · replace h := (if_neg c72).symm.trans h
      refine x_if_ne_f (pc' := 75) dX8_said_72 (by decide) rfl c72 ?_
      refine x_iload_n (pc' := 76) dX8_said_75 rfl rfl ?_
      refine x_aload_n (pc' := 77) dX8_said_76 rfl rfl ?_
      refine x_getI (pc' := 80) (v := S 45 19) dX8_said_77 rfl lf_8_52 rfl sh_45 rfl ?_
      by_cases c80 : ¬ x1 = S 45 19
      · replace h := (if_pos c80).symm.trans h
        refine x_icmp_ne_t (pc' := 90) dX8_said_80 (by decide) c80 ?_
        refine x_aload_n (pc' := 91) dX8_said_90 rfl rfl ?_
        refine x_getR (pc' := 94) dX8_said_91 rfl lf_8_15 rfl sh_45 rfl ?_
        refine x_iload_n (pc' := 95) dX8_said_94 rfl rfl ?_
        obtain ⟨j95, hj95, h⟩ := Option.bind_eq_some_iff.mp h
        refine x_iaload (pc' := 96) (v := S 47 j95) dX8_said_95 rfl sh_47 hj95 rfl ?_
        exact x_iret dX8_said_96 rfl ((tb_dI_ok _ _).trans h)
      · replace h := (if_neg c80).symm.trans h
        refine x_icmp_ne_f (pc' := 83) dX8_said_80 (by decide) rfl c80 ?_
        refine x_aload_n (pc' := 84) dX8_said_83 rfl rfl ?_
        refine x_getI (pc' := 87) (v := S 45 20) dX8_said_84 rfl lf_8_201 rfl sh_45 rfl ?_
        refine x_goto (pc' := 96) dX8_said_87 (by decide) ?_
        exact x_iret dX8_said_96 rfl ((tb_dI_ok _ _).trans h)
  · replace h := (if_neg c9).symm.trans h
    refine x_icmp_ne_f (pc' := 12) dX8_said_9 (by decide) rfl c9 ?_
    refine x_aload_n (pc' := 13) dX8_said_12 rfl rfl ?_
    refine x_getI (pc' := 16) (v := S 45 16) dX8_said_13 rfl lf_8_188 rfl sh_45 rfl ?_
    refine x_istore (pc' := 18) (ls' := [.ref 45, .int x1, .int x2, .int (S 46 j5), .int (S 45 16), w5]) dX8_said_16 rfl rfl rfl ?_
    refine x_aload_n (pc' := 19) dX8_said_18 rfl rfl ?_
    refine x_dup (pc' := 20) dX8_said_19 rfl rfl ?_
    refine x_getI (pc' := 23) (v := S 45 16) dX8_said_20 rfl lf_8_188 rfl sh_45 rfl ?_
    refine x_iconst (pc' := 24) (w := (1 : Int32)) dX8_said_23 rfl k_ic_1 ?_
    refine x_iadd (pc' := 25) dX8_said_24 rfl ?_
    refine x_putI (pc' := 28) dX8_said_25 rfl lf_8_188 (Or.inl rfl) sh_45 ?_
    refine x_aload_n (pc' := 29) dX8_said_28 rfl rfl ?_
    refine x_aload_n (pc' := 30) dX8_said_29 rfl rfl ?_
    refine x_getR (pc' := 33) dX8_said_30 rfl lf_8_18 rfl sh_45 rfl ?_
    refine x_iload_n (pc' := 34) dX8_said_33 rfl rfl ?_
    obtain ⟨j34, hj34, h⟩ := Option.bind_eq_some_iff.mp h
    refine x_iaload (pc' := 35) (v := S 48 j34) dX8_said_34 rfl sh_48 hj34 rfl ?_
    refine x_iload_n (pc' := 36) dX8_said_35 rfl rfl ?_
    obtain ⟨q36, hq36, h⟩ := Option.bind_eq_some_iff.mp h
    refine x_virtI (pc' := 39) (o := 45) (as := [.int (S 48 j34), .int x2]) (rest := []) dX8_said_36 rfl lm_8_191 rfl rfl rfl sh_45 rfl hq36 ?_
    refine x_istore (pc' := 41) (ls' := [.ref 45, .int x1, .int x2, .int (S 46 j5), .int (S 45 16), .int (q36.1)]) dX8_said_39 rfl rfl rfl ?_
    refine x_iload (pc' := 43) dX8_said_41 rfl rfl ?_
    refine x_aload_n (pc' := 44) dX8_said_43 rfl rfl ?_
    refine x_getI (pc' := 47) (v := (q36.2) 45 17) dX8_said_44 rfl lf_8_194 rfl sh_45 rfl ?_
    by_cases c47 : S 45 16 = (q36.2) 45 17
    · replace h := (if_pos c47).symm.trans h
      refine x_icmp_eq_t (pc' := 63) dX8_said_47 (by decide) c47 ?_
      refine x_bipush (pc' := 65) (w := (-5 : Int32)) dX8_said_63 rfl k_bi_m5 ?_
      refine x_goto (pc' := 70) dX8_said_65 (by decide) ?_
      exact x_iret dX8_said_70 rfl ((tb_dI_ok _ _).trans h)
    · replace h := (if_neg c47).symm.trans h
      refine x_icmp_eq_f (pc' := 50) dX8_said_47 (by decide) rfl c47 ?_
      refine x_iload_n (pc' := 51) dX8_said_50 rfl rfl ?_
      refine x_aload_n (pc' := 52) dX8_said_51 rfl rfl ?_
      refine x_getR (pc' := 55) dX8_said_52 rfl lf_8_24 rfl sh_45 rfl ?_
      refine x_iload_n (pc' := 56) dX8_said_55 rfl rfl ?_
      obtain ⟨j56, hj56, h⟩ := Option.bind_eq_some_iff.mp h
      refine x_iaload (pc' := 57) (v := (q36.2) 50 j56) dX8_said_56 rfl sh_50 hj56 rfl ?_
      obtain ⟨q57, hq57, h⟩ := Option.bind_eq_some_iff.mp h
      refine x_statI (pc' := 60) (as := [.int x2, .int ((q36.2) 50 j56)]) (rest := []) dX8_said_57 rfl lm_8_197 (by decide) rfl rfl rfl rfl hq57 ?_
      by_cases c60 : ¬ q57.1 = 0
      · replace h := (if_pos c60).symm.trans h
        refine x_if_ne_t (pc' := 68) dX8_said_60 (by decide) c60 ?_
        refine x_iload (pc' := 70) dX8_said_68 rfl rfl ?_
        exact x_iret dX8_said_70 rfl ((tb_dI_ok _ _).trans h)
      · replace h := (if_neg c60).symm.trans h
        refine x_if_ne_f (pc' := 63) dX8_said_60 (by decide) rfl c60 ?_
        refine x_bipush (pc' := 65) (w := (-5 : Int32)) dX8_said_63 rfl k_bi_m5 ?_
        refine x_goto (pc' := 70) dX8_said_65 (by decide) ?_
        exact x_iret dX8_said_70 rfl ((tb_dI_ok _ _).trans h)
theorem MX8_said {d : Nat} {x1 : Int32} {x2 : Int32} {S : tb_St} {r : Int32 × tb_St} (h : ((tb_ix x1 96).bind fun j5 => (if ¬ S 46 j5 = (2 : Int32) then (if ¬ S 46 j5 = 0 then (if ¬ S 46 j5 = (1 : Int32) then (tb_ix x1 96).bind fun j111 => (tb_cI d mX8_said [.ref 45, .int (S 48 j111), .int x2] S).bind fun q113 => (if ¬ S 46 j5 = (6 : Int32) then (tb_ix x1 96).bind fun j166 => (tb_cI d mX8_said [.ref 45, .int ((q113.2) 49 j166), .int x2] (q113.2)).bind fun q168 => (if ¬ S 46 j5 = (3 : Int32) then (if ¬ S 46 j5 = (7 : Int32) then (if q113.1 = (-5 : Int32) then (if ¬ q113.1 = (-5 : Int32) then some (q113.1, q168.2) else some (q168.1, q168.2)) else (if ¬ q168.1 = (-5 : Int32) then (if ¬ S 46 j5 = (4 : Int32) then some (tb_min (q113.1) (q168.1), q168.2) else some (tb_min (99 : Int32) ((q113.1) + (q168.1)), q168.2)) else (if ¬ q113.1 = (-5 : Int32) then some (q113.1, q168.2) else some (q168.1, q168.2)))) else (if ¬ q168.1 = (-5 : Int32) then some ((-5 : Int32), q168.2) else some (q113.1, q168.2))) else (if ¬ q113.1 = (-5 : Int32) then some (q113.1, q168.2) else some (q168.1, q168.2))) else (tb_ix x1 96).bind fun j131 => (if q113.1 ≤ (q113.2) 47 j131 then some (q113.1, q113.2) else (tb_ix x1 96).bind fun j141 => (tb_cI d mX8_isIn [.int x2, .int ((q113.2) 50 j141)] (q113.2)).bind fun q142 => (if q142.1 = 0 then some (q113.1, q142.2) else (tb_ix x1 96).bind fun j153 => some ((q142.2) 47 j153, q142.2)))) else some ((-5 : Int32), S)) else (if ¬ x1 = S 45 19 then (tb_ix x1 96).bind fun j95 => some (S 47 j95, S) else some (S 45 20, S))) else (tb_ix x1 96).bind fun j34 => (tb_cI d mX8_said [.ref 45, .int (S 48 j34), .int x2] (tb_up S 45 16 ((S 45 16) + (1 : Int32)))).bind fun q36 => (if S 45 16 = (q36.2) 45 17 then some ((-5 : Int32), q36.2) else (tb_ix x1 96).bind fun j56 => (tb_cI d mX8_isIn [.int x2, .int ((q36.2) 50 j56)] (q36.2)).bind fun q57 => (if ¬ q57.1 = 0 then some (q36.1, q57.2) else some ((-5 : Int32), q57.2))))) = some r) : tb_cI (d + 1) mX8_said [.ref 45, .int x1, .int x2] S = some r := tb_enI rfl rfl (BX8_said_0 h)
/-! X6_answerAt (24,) -/
theorem BX6_answerAt_0 {d : Nat} {x1 x2 : Int32} {w3 w4 w5 : Value} {S : tb_St} {r : Int32 × tb_St} (h : ((tb_cI d mX6_termAt [.ref 24, .int x1] S).bind fun q2 => (tb_cI d mX5_has [.ref 2, .int (q2.1)] (q2.2)).bind fun q11 => (if ¬ q11.1 = 0 then (tb_cI d mX6_saidAt [.ref 24, .int (x1 + (1 : Int32))] (q11.2)).bind fun q24 => (tb_ix x1 40).bind fun j35 => (tb_cI d mX6_saidAt [.ref 24, .int ((q24.2) 26 j35)] (q24.2)).bind fun q36 => (tb_ix (q2.1) 24).bind fun j49 => (if (q36.2) 3 j49 = (0 : Int32) then (if ¬ q2.1 = (q36.2) 24 6 then (tb_ix (q2.1) 24).bind fun j119 => some ((q36.2) 4 j119, q36.2) else some ((q36.2) 24 7, q36.2)) else (if (q36.2) 3 j49 = (2 : Int32) then (tb_ix (q2.1) 24).bind fun j130 => (tb_cI d mX7_isInBox [.int x2, .int ((q36.2) 5 j130)] (q36.2)).bind fun q131 => (if q131.1 = 0 then some ((-5 : Int32), q131.2) else some (q24.1, q131.2)) else (if (q36.2) 3 j49 = (3 : Int32) then (if ¬ q24.1 = (-5 : Int32) then some (q24.1, q36.2) else some (q36.1, q36.2)) else (if (q36.2) 3 j49 = (4 : Int32) then (if ¬ q24.1 = (-5 : Int32) then (if ¬ q36.1 = (-5 : Int32) then some (tb_min ((q24.1) + (q36.1)) (99 : Int32), q36.2) else some (q24.1, q36.2)) else some (q36.1, q36.2)) else (if (q36.2) 3 j49 = (5 : Int32) then (if ¬ q24.1 = (-5 : Int32) then (if ¬ q36.1 = (-5 : Int32) then some (tb_min (q24.1) (q36.1), q36.2) else some (q24.1, q36.2)) else some (q36.1, q36.2)) else (if (q36.2) 3 j49 = (6 : Int32) then (tb_cI d mX6_capped [.ref 24, .int (q24.1), .int (q2.1), .int x2] (q36.2)).bind fun q150 => some (q150.1, q150.2) else (if (q36.2) 3 j49 = (7 : Int32) then (if ¬ q36.1 = (-5 : Int32) then some ((-5 : Int32), q36.2) else some (q24.1, q36.2)) else some ((-5 : Int32), q36.2)))))))) else some ((-5 : Int32), q11.2))) = some r) : tb_E d mX6_answerAt tb_dI 0 [.ref 24, .int x1, .int x2, w3, w4, w5] [] tb_S S = some r := by
  refine x_aload_n (pc' := 1) dX6_answerAt_0 rfl rfl ?_
  refine x_iload_n (pc' := 2) dX6_answerAt_1 rfl rfl ?_
  obtain ⟨q2, hq2, h⟩ := Option.bind_eq_some_iff.mp h
  refine x_virtI (pc' := 5) (o := 24) (as := [.int x1]) (rest := []) dX6_answerAt_2 rfl lm_6_70 rfl rfl rfl sh_24 rfl hq2 ?_
  refine x_istore_n (pc' := 6) (ls' := [.ref 24, .int x1, .int x2, .int (q2.1), w4, w5]) dX6_answerAt_5 rfl rfl rfl ?_
  refine x_aload_n (pc' := 7) dX6_answerAt_6 rfl rfl ?_
  refine x_getR (pc' := 10) dX6_answerAt_7 rfl lf_6_34 rfl sh_24 rfl ?_
  refine x_iload_n (pc' := 11) dX6_answerAt_10 rfl rfl ?_
  obtain ⟨q11, hq11, h⟩ := Option.bind_eq_some_iff.mp h
  refine x_virtI (pc' := 14) (o := 2) (as := [.int (q2.1)]) (rest := []) dX6_answerAt_11 rfl lm_6_54 rfl rfl rfl sh_2 rfl hq11 ?_
  by_cases c14 : ¬ q11.1 = 0
  · replace h := (if_pos c14).symm.trans h
    refine x_if_ne_t (pc' := 20) dX6_answerAt_14 (by decide) c14 ?_
    refine x_aload_n (pc' := 21) dX6_answerAt_20 rfl rfl ?_
    refine x_iload_n (pc' := 22) dX6_answerAt_21 rfl rfl ?_
    refine x_iconst (pc' := 23) (w := (1 : Int32)) dX6_answerAt_22 rfl k_ic_1 ?_
    refine x_iadd (pc' := 24) dX6_answerAt_23 rfl ?_
    obtain ⟨q24, hq24, h⟩ := Option.bind_eq_some_iff.mp h
    refine x_virtI (pc' := 27) (o := 24) (as := [.int (x1 + (1 : Int32))]) (rest := []) dX6_answerAt_24 rfl lm_6_67 rfl rfl rfl sh_24 rfl hq24 ?_
    refine x_istore (pc' := 29) (ls' := [.ref 24, .int x1, .int x2, .int (q2.1), .int (q24.1), w5]) dX6_answerAt_27 rfl rfl rfl ?_
    refine x_aload_n (pc' := 30) dX6_answerAt_29 rfl rfl ?_
    refine x_aload_n (pc' := 31) dX6_answerAt_30 rfl rfl ?_
    refine x_getR (pc' := 34) dX6_answerAt_31 rfl lf_6_15 rfl sh_24 rfl ?_
    refine x_iload_n (pc' := 35) dX6_answerAt_34 rfl rfl ?_
    obtain ⟨j35, hj35, h⟩ := Option.bind_eq_some_iff.mp h
    refine x_iaload (pc' := 36) (v := (q24.2) 26 j35) dX6_answerAt_35 rfl sh_26 hj35 rfl ?_
    obtain ⟨q36, hq36, h⟩ := Option.bind_eq_some_iff.mp h
    refine x_virtI (pc' := 39) (o := 24) (as := [.int ((q24.2) 26 j35)]) (rest := []) dX6_answerAt_36 rfl lm_6_67 rfl rfl rfl sh_24 rfl hq36 ?_
    refine x_istore (pc' := 41) (ls' := [.ref 24, .int x1, .int x2, .int (q2.1), .int (q24.1), .int (q36.1)]) dX6_answerAt_39 rfl rfl rfl ?_
    refine x_aload_n (pc' := 42) dX6_answerAt_41 rfl rfl ?_
    refine x_getR (pc' := 45) dX6_answerAt_42 rfl lf_6_34 rfl sh_24 rfl ?_
    refine x_getR (pc' := 48) dX6_answerAt_45 rfl lf_6_73 rfl sh_2 rfl ?_
    refine x_iload_n (pc' := 49) dX6_answerAt_48 rfl rfl ?_
    obtain ⟨j49, hj49, h⟩ := Option.bind_eq_some_iff.mp h
    refine x_iaload (pc' := 50) (v := (q36.2) 3 j49) dX6_answerAt_49 rfl sh_3 hj49 rfl ?_
    by_cases c50_0 : (q36.2) 3 j49 = (0 : Int32)
    · replace h := (if_pos c50_0).symm.trans h
      refine x_tsw_in (pc' := 96) (w := (0 : Int32)) (off := 46) dX6_answerAt_50 c50_0 (by decide) (by decide) (by decide) (by decide) ?_
      refine x_iload_n (pc' := 97) dX6_answerAt_96 rfl rfl ?_
      refine x_aload_n (pc' := 98) dX6_answerAt_97 rfl rfl ?_
      refine x_getI (pc' := 101) (v := (q36.2) 24 6) dX6_answerAt_98 rfl lf_6_28 rfl sh_24 rfl ?_
      by_cases c101 : ¬ q2.1 = (q36.2) 24 6
      · replace h := (if_pos c101).symm.trans h
        refine x_icmp_ne_t (pc' := 111) dX6_answerAt_101 (by decide) c101 ?_
        refine x_aload_n (pc' := 112) dX6_answerAt_111 rfl rfl ?_
        refine x_getR (pc' := 115) dX6_answerAt_112 rfl lf_6_34 rfl sh_24 rfl ?_
        refine x_getR (pc' := 118) dX6_answerAt_115 rfl lf_6_76 rfl sh_2 rfl ?_
        refine x_iload_n (pc' := 119) dX6_answerAt_118 rfl rfl ?_
        obtain ⟨j119, hj119, h⟩ := Option.bind_eq_some_iff.mp h
        refine x_iaload (pc' := 120) (v := (q36.2) 4 j119) dX6_answerAt_119 rfl sh_4 hj119 rfl ?_
        exact x_iret dX6_answerAt_120 rfl ((tb_dI_ok _ _).trans h)
      · replace h := (if_neg c101).symm.trans h
        refine x_icmp_ne_f (pc' := 104) dX6_answerAt_101 (by decide) rfl c101 ?_
        refine x_aload_n (pc' := 105) dX6_answerAt_104 rfl rfl ?_
        refine x_getI (pc' := 108) (v := (q36.2) 24 7) dX6_answerAt_105 rfl lf_6_31 rfl sh_24 rfl ?_
        refine x_goto (pc' := 120) dX6_answerAt_108 (by decide) ?_
        exact x_iret dX6_answerAt_120 rfl ((tb_dI_ok _ _).trans h)
    · replace h := (if_neg c50_0).symm.trans h
      by_cases c50_2 : (q36.2) 3 j49 = (2 : Int32)
      · replace h := (if_pos c50_2).symm.trans h
        refine x_tsw_in (pc' := 121) (w := (2 : Int32)) (off := 71) dX6_answerAt_50 c50_2 (by decide) (by decide) (by decide) (by decide) ?_
        refine x_iload_n (pc' := 122) dX6_answerAt_121 rfl rfl ?_
        refine x_aload_n (pc' := 123) dX6_answerAt_122 rfl rfl ?_
        refine x_getR (pc' := 126) dX6_answerAt_123 rfl lf_6_34 rfl sh_24 rfl ?_
        refine x_getR (pc' := 129) dX6_answerAt_126 rfl lf_6_79 rfl sh_2 rfl ?_
        refine x_iload_n (pc' := 130) dX6_answerAt_129 rfl rfl ?_
        obtain ⟨j130, hj130, h⟩ := Option.bind_eq_some_iff.mp h
        refine x_iaload (pc' := 131) (v := (q36.2) 5 j130) dX6_answerAt_130 rfl sh_5 hj130 rfl ?_
        obtain ⟨q131, hq131, h⟩ := Option.bind_eq_some_iff.mp h
        refine x_statI (pc' := 134) (as := [.int x2, .int ((q36.2) 5 j130)]) (rest := []) dX6_answerAt_131 rfl lm_6_82 (by decide) rfl rfl rfl rfl hq131 ?_
        by_cases c134 : q131.1 = 0
        · replace h := (if_pos c134).symm.trans h
          refine x_if_eq_t (pc' := 142) dX6_answerAt_134 (by decide) c134 ?_
          refine x_bipush (pc' := 144) (w := (-5 : Int32)) dX6_answerAt_142 rfl k_bi_m5 ?_
          exact x_iret dX6_answerAt_144 rfl ((tb_dI_ok _ _).trans h)
        · replace h := (if_neg c134).symm.trans h
          refine x_if_eq_f (pc' := 137) dX6_answerAt_134 (by decide) rfl c134 ?_
          refine x_iload (pc' := 139) dX6_answerAt_137 rfl rfl ?_
          refine x_goto (pc' := 144) dX6_answerAt_139 (by decide) ?_
          exact x_iret dX6_answerAt_144 rfl ((tb_dI_ok _ _).trans h)
      · replace h := (if_neg c50_2).symm.trans h
        by_cases c50_3 : (q36.2) 3 j49 = (3 : Int32)
        · replace h := (if_pos c50_3).symm.trans h
          refine x_tsw_in (pc' := 154) (w := (3 : Int32)) (off := 104) dX6_answerAt_50 c50_3 (by decide) (by decide) (by decide) (by decide) ?_
          refine x_iload (pc' := 156) dX6_answerAt_154 rfl rfl ?_
          refine x_bipush (pc' := 158) (w := (-5 : Int32)) dX6_answerAt_156 rfl k_bi_m5 ?_
          by_cases c158 : ¬ q24.1 = (-5 : Int32)
          · replace h := (if_pos c158).symm.trans h
            refine x_icmp_ne_t (pc' := 166) dX6_answerAt_158 (by decide) c158 ?_
            refine x_iload (pc' := 168) dX6_answerAt_166 rfl rfl ?_
            exact x_iret dX6_answerAt_168 rfl ((tb_dI_ok _ _).trans h)
          · replace h := (if_neg c158).symm.trans h
            refine x_icmp_ne_f (pc' := 161) dX6_answerAt_158 (by decide) rfl c158 ?_
            refine x_iload (pc' := 163) dX6_answerAt_161 rfl rfl ?_
            refine x_goto (pc' := 168) dX6_answerAt_163 (by decide) ?_
            exact x_iret dX6_answerAt_168 rfl ((tb_dI_ok _ _).trans h)
        · replace h := (if_neg c50_3).symm.trans h
          by_cases c50_4 : (q36.2) 3 j49 = (4 : Int32)
          · replace h := (if_pos c50_4).symm.trans h
            refine x_tsw_in (pc' := 184) (w := (4 : Int32)) (off := 134) dX6_answerAt_50 c50_4 (by decide) (by decide) (by decide) (by decide) ?_
            refine x_iload (pc' := 186) dX6_answerAt_184 rfl rfl ?_
            refine x_bipush (pc' := 188) (w := (-5 : Int32)) dX6_answerAt_186 rfl k_bi_m5 ?_
            by_cases c188 : ¬ q24.1 = (-5 : Int32)
            · replace h := (if_pos c188).symm.trans h
              refine x_icmp_ne_t (pc' := 196) dX6_answerAt_188 (by decide) c188 ?_
              refine x_iload (pc' := 198) dX6_answerAt_196 rfl rfl ?_
              refine x_bipush (pc' := 200) (w := (-5 : Int32)) dX6_answerAt_198 rfl k_bi_m5 ?_
              by_cases c200 : ¬ q36.1 = (-5 : Int32)
              · replace h := (if_pos c200).symm.trans h
                refine x_icmp_ne_t (pc' := 208) dX6_answerAt_200 (by decide) c200 ?_
                refine x_iload (pc' := 210) dX6_answerAt_208 rfl rfl ?_
                refine x_iload (pc' := 212) dX6_answerAt_210 rfl rfl ?_
                refine x_iadd (pc' := 213) dX6_answerAt_212 rfl ?_
                refine x_bipush (pc' := 215) (w := (99 : Int32)) dX6_answerAt_213 rfl k_bi_99 ?_
                refine x_mm (pc' := 218) (w := tb_min ((q24.1) + (q36.1)) (99 : Int32)) dX6_answerAt_215 rfl ln_6_44 lx_6_44 rfl rfl ?_
                exact x_iret dX6_answerAt_218 rfl ((tb_dI_ok _ _).trans h)
              · replace h := (if_neg c200).symm.trans h
                refine x_icmp_ne_f (pc' := 203) dX6_answerAt_200 (by decide) rfl c200 ?_
                refine x_iload (pc' := 205) dX6_answerAt_203 rfl rfl ?_
                refine x_goto (pc' := 218) dX6_answerAt_205 (by decide) ?_
                exact x_iret dX6_answerAt_218 rfl ((tb_dI_ok _ _).trans h)
            · replace h := (if_neg c188).symm.trans h
              refine x_icmp_ne_f (pc' := 191) dX6_answerAt_188 (by decide) rfl c188 ?_
              refine x_iload (pc' := 193) dX6_answerAt_191 rfl rfl ?_
              refine x_goto (pc' := 218) dX6_answerAt_193 (by decide) ?_
              exact x_iret dX6_answerAt_218 rfl ((tb_dI_ok _ _).trans h)
          · replace h := (if_neg c50_4).symm.trans h
            by_cases c50_5 : (q36.2) 3 j49 = (5 : Int32)
            · replace h := (if_pos c50_5).symm.trans h
              refine x_tsw_in (pc' := 219) (w := (5 : Int32)) (off := 169) dX6_answerAt_50 c50_5 (by decide) (by decide) (by decide) (by decide) ?_
              refine x_iload (pc' := 221) dX6_answerAt_219 rfl rfl ?_
              refine x_bipush (pc' := 223) (w := (-5 : Int32)) dX6_answerAt_221 rfl k_bi_m5 ?_
              by_cases c223 : ¬ q24.1 = (-5 : Int32)
              · replace h := (if_pos c223).symm.trans h
                refine x_icmp_ne_t (pc' := 231) dX6_answerAt_223 (by decide) c223 ?_
                refine x_iload (pc' := 233) dX6_answerAt_231 rfl rfl ?_
                refine x_bipush (pc' := 235) (w := (-5 : Int32)) dX6_answerAt_233 rfl k_bi_m5 ?_
                by_cases c235 : ¬ q36.1 = (-5 : Int32)
                · replace h := (if_pos c235).symm.trans h
                  refine x_icmp_ne_t (pc' := 243) dX6_answerAt_235 (by decide) c235 ?_
                  refine x_iload (pc' := 245) dX6_answerAt_243 rfl rfl ?_
                  refine x_iload (pc' := 247) dX6_answerAt_245 rfl rfl ?_
                  refine x_mm (pc' := 250) (w := tb_min (q24.1) (q36.1)) dX6_answerAt_247 rfl ln_6_44 lx_6_44 rfl rfl ?_
                  exact x_iret dX6_answerAt_250 rfl ((tb_dI_ok _ _).trans h)
                · replace h := (if_neg c235).symm.trans h
                  refine x_icmp_ne_f (pc' := 238) dX6_answerAt_235 (by decide) rfl c235 ?_
                  refine x_iload (pc' := 240) dX6_answerAt_238 rfl rfl ?_
                  refine x_goto (pc' := 250) dX6_answerAt_240 (by decide) ?_
                  exact x_iret dX6_answerAt_250 rfl ((tb_dI_ok _ _).trans h)
              · replace h := (if_neg c223).symm.trans h
                refine x_icmp_ne_f (pc' := 226) dX6_answerAt_223 (by decide) rfl c223 ?_
                refine x_iload (pc' := 228) dX6_answerAt_226 rfl rfl ?_
                refine x_goto (pc' := 250) dX6_answerAt_228 (by decide) ?_
                exact x_iret dX6_answerAt_250 rfl ((tb_dI_ok _ _).trans h)
            · replace h := (if_neg c50_5).symm.trans h
              by_cases c50_6 : (q36.2) 3 j49 = (6 : Int32)
              · replace h := (if_pos c50_6).symm.trans h
                refine x_tsw_in (pc' := 145) (w := (6 : Int32)) (off := 95) dX6_answerAt_50 c50_6 (by decide) (by decide) (by decide) (by decide) ?_
                refine x_aload_n (pc' := 146) dX6_answerAt_145 rfl rfl ?_
                refine x_iload (pc' := 148) dX6_answerAt_146 rfl rfl ?_
                refine x_iload_n (pc' := 149) dX6_answerAt_148 rfl rfl ?_
                refine x_iload_n (pc' := 150) dX6_answerAt_149 rfl rfl ?_
                obtain ⟨q150, hq150, h⟩ := Option.bind_eq_some_iff.mp h
                refine x_virtI (pc' := 153) (o := 24) (as := [.int (q24.1), .int (q2.1), .int x2]) (rest := []) dX6_answerAt_150 rfl lm_6_86 rfl rfl rfl sh_24 rfl hq150 ?_
                exact x_iret dX6_answerAt_153 rfl ((tb_dI_ok _ _).trans h)
              · replace h := (if_neg c50_6).symm.trans h
                by_cases c50_7 : (q36.2) 3 j49 = (7 : Int32)
                · replace h := (if_pos c50_7).symm.trans h
                  refine x_tsw_in (pc' := 169) (w := (7 : Int32)) (off := 119) dX6_answerAt_50 c50_7 (by decide) (by decide) (by decide) (by decide) ?_
                  refine x_iload (pc' := 171) dX6_answerAt_169 rfl rfl ?_
                  refine x_bipush (pc' := 173) (w := (-5 : Int32)) dX6_answerAt_171 rfl k_bi_m5 ?_
                  by_cases c173 : ¬ q36.1 = (-5 : Int32)
                  · replace h := (if_pos c173).symm.trans h
                    refine x_icmp_ne_t (pc' := 181) dX6_answerAt_173 (by decide) c173 ?_
                    refine x_bipush (pc' := 183) (w := (-5 : Int32)) dX6_answerAt_181 rfl k_bi_m5 ?_
                    exact x_iret dX6_answerAt_183 rfl ((tb_dI_ok _ _).trans h)
                  · replace h := (if_neg c173).symm.trans h
                    refine x_icmp_ne_f (pc' := 176) dX6_answerAt_173 (by decide) rfl c173 ?_
                    refine x_iload (pc' := 178) dX6_answerAt_176 rfl rfl ?_
                    refine x_goto (pc' := 183) dX6_answerAt_178 (by decide) ?_
                    exact x_iret dX6_answerAt_183 rfl ((tb_dI_ok _ _).trans h)
                · replace h := (if_neg c50_7).symm.trans h
                  refine x_tsw_out (pc' := 251) dX6_answerAt_50 (fun k0 g1 g2 g3 => ?_) (by decide) ?_
                  · obtain rfl | rfl | rfl | rfl | rfl | rfl | rfl | rfl : k0 = 0 ∨ k0 = 1 ∨ k0 = 2 ∨ k0 = 3 ∨ k0 = 4 ∨ k0 = 5 ∨ k0 = 6 ∨ k0 = 7 := by omega
                    · exact absurd (Int32.toInt_inj.mp (g3.trans (by decide +kernel : (0 : Int) = (0 : Int32).toInt))) c50_0
                    · rfl
                    · exact absurd (Int32.toInt_inj.mp (g3.trans (by decide +kernel : (2 : Int) = (2 : Int32).toInt))) c50_2
                    · exact absurd (Int32.toInt_inj.mp (g3.trans (by decide +kernel : (3 : Int) = (3 : Int32).toInt))) c50_3
                    · exact absurd (Int32.toInt_inj.mp (g3.trans (by decide +kernel : (4 : Int) = (4 : Int32).toInt))) c50_4
                    · exact absurd (Int32.toInt_inj.mp (g3.trans (by decide +kernel : (5 : Int) = (5 : Int32).toInt))) c50_5
                    · exact absurd (Int32.toInt_inj.mp (g3.trans (by decide +kernel : (6 : Int) = (6 : Int32).toInt))) c50_6
                    · exact absurd (Int32.toInt_inj.mp (g3.trans (by decide +kernel : (7 : Int) = (7 : Int32).toInt))) c50_7
                  · refine x_bipush (pc' := 253) (w := (-5 : Int32)) dX6_answerAt_251 rfl k_bi_m5 ?_
                    exact x_iret dX6_answerAt_253 rfl ((tb_dI_ok _ _).trans h)
  · replace h := (if_neg c14).symm.trans h
    refine x_if_ne_f (pc' := 17) dX6_answerAt_14 (by decide) rfl c14 ?_
    refine x_bipush (pc' := 19) (w := (-5 : Int32)) dX6_answerAt_17 rfl k_bi_m5 ?_
    exact x_iret dX6_answerAt_19 rfl ((tb_dI_ok _ _).trans h)
theorem MX6_answerAt {d : Nat} {x1 : Int32} {x2 : Int32} {S : tb_St} {r : Int32 × tb_St} (h : ((tb_cI d mX6_termAt [.ref 24, .int x1] S).bind fun q2 => (tb_cI d mX5_has [.ref 2, .int (q2.1)] (q2.2)).bind fun q11 => (if ¬ q11.1 = 0 then (tb_cI d mX6_saidAt [.ref 24, .int (x1 + (1 : Int32))] (q11.2)).bind fun q24 => (tb_ix x1 40).bind fun j35 => (tb_cI d mX6_saidAt [.ref 24, .int ((q24.2) 26 j35)] (q24.2)).bind fun q36 => (tb_ix (q2.1) 24).bind fun j49 => (if (q36.2) 3 j49 = (0 : Int32) then (if ¬ q2.1 = (q36.2) 24 6 then (tb_ix (q2.1) 24).bind fun j119 => some ((q36.2) 4 j119, q36.2) else some ((q36.2) 24 7, q36.2)) else (if (q36.2) 3 j49 = (2 : Int32) then (tb_ix (q2.1) 24).bind fun j130 => (tb_cI d mX7_isInBox [.int x2, .int ((q36.2) 5 j130)] (q36.2)).bind fun q131 => (if q131.1 = 0 then some ((-5 : Int32), q131.2) else some (q24.1, q131.2)) else (if (q36.2) 3 j49 = (3 : Int32) then (if ¬ q24.1 = (-5 : Int32) then some (q24.1, q36.2) else some (q36.1, q36.2)) else (if (q36.2) 3 j49 = (4 : Int32) then (if ¬ q24.1 = (-5 : Int32) then (if ¬ q36.1 = (-5 : Int32) then some (tb_min ((q24.1) + (q36.1)) (99 : Int32), q36.2) else some (q24.1, q36.2)) else some (q36.1, q36.2)) else (if (q36.2) 3 j49 = (5 : Int32) then (if ¬ q24.1 = (-5 : Int32) then (if ¬ q36.1 = (-5 : Int32) then some (tb_min (q24.1) (q36.1), q36.2) else some (q24.1, q36.2)) else some (q36.1, q36.2)) else (if (q36.2) 3 j49 = (6 : Int32) then (tb_cI d mX6_capped [.ref 24, .int (q24.1), .int (q2.1), .int x2] (q36.2)).bind fun q150 => some (q150.1, q150.2) else (if (q36.2) 3 j49 = (7 : Int32) then (if ¬ q36.1 = (-5 : Int32) then some ((-5 : Int32), q36.2) else some (q24.1, q36.2)) else some ((-5 : Int32), q36.2)))))))) else some ((-5 : Int32), q11.2))) = some r) : tb_cI (d + 1) mX6_answerAt [.ref 24, .int x1, .int x2] S = some r := tb_enI rfl rfl (BX6_answerAt_0 h)
/-! X6_saidAt (24,) -/
theorem BX6_saidAt_0 {d : Nat} {x1 : Int32} {S : tb_St} {r : Int32 × tb_St} (h : ((if x1 < 0 then some ((-5 : Int32), S) else (if S 24 4 ≤ x1 then some ((-5 : Int32), S) else (tb_ix x1 40).bind fun j17 => some (S 27 j17, S)))) = some r) : tb_E d mX6_saidAt tb_dI 0 [.ref 24, .int x1] [] tb_S S = some r := by
  refine x_iload_n (pc' := 1) dX6_saidAt_0 rfl rfl ?_
  by_cases c1 : x1 < 0
  · replace h := (if_pos c1).symm.trans h
    refine x_if_lt_t (pc' := 21) dX6_saidAt_1 (by decide) c1 ?_
    refine x_bipush (pc' := 23) (w := (-5 : Int32)) dX6_saidAt_21 rfl k_bi_m5 ?_
    exact x_iret dX6_saidAt_23 rfl ((tb_dI_ok _ _).trans h)
  · replace h := (if_neg c1).symm.trans h
    refine x_if_lt_f (pc' := 4) dX6_saidAt_1 (by decide) rfl c1 ?_
    refine x_iload_n (pc' := 5) dX6_saidAt_4 rfl rfl ?_
    refine x_aload_n (pc' := 6) dX6_saidAt_5 rfl rfl ?_
    refine x_getI (pc' := 9) (v := S 24 4) dX6_saidAt_6 rfl lf_6_21 rfl sh_24 rfl ?_
    by_cases c9 : S 24 4 ≤ x1
    · replace h := (if_pos c9).symm.trans h
      refine x_icmp_ge_t (pc' := 21) dX6_saidAt_9 (by decide) c9 ?_
      refine x_bipush (pc' := 23) (w := (-5 : Int32)) dX6_saidAt_21 rfl k_bi_m5 ?_
      exact x_iret dX6_saidAt_23 rfl ((tb_dI_ok _ _).trans h)
    · replace h := (if_neg c9).symm.trans h
      refine x_icmp_ge_f (pc' := 12) dX6_saidAt_9 (by decide) rfl c9 ?_
      refine x_aload_n (pc' := 13) dX6_saidAt_12 rfl rfl ?_
      refine x_getR (pc' := 16) dX6_saidAt_13 rfl lf_6_18 rfl sh_24 rfl ?_
      refine x_iload_n (pc' := 17) dX6_saidAt_16 rfl rfl ?_
      obtain ⟨j17, hj17, h⟩ := Option.bind_eq_some_iff.mp h
      refine x_iaload (pc' := 18) (v := S 27 j17) dX6_saidAt_17 rfl sh_27 hj17 rfl ?_
      refine x_goto (pc' := 23) dX6_saidAt_18 (by decide) ?_
      exact x_iret dX6_saidAt_23 rfl ((tb_dI_ok _ _).trans h)
theorem MX6_saidAt {d : Nat} {x1 : Int32} {S : tb_St} {r : Int32 × tb_St} (h : ((if x1 < 0 then some ((-5 : Int32), S) else (if S 24 4 ≤ x1 then some ((-5 : Int32), S) else (tb_ix x1 40).bind fun j17 => some (S 27 j17, S)))) = some r) : tb_cI (d + 1) mX6_saidAt [.ref 24, .int x1] S = some r := tb_enI rfl rfl (BX6_saidAt_0 h)
/-! X6_setPlace (24,) -/
theorem BX6_setPlace_0 {d : Nat} {x1 x2 : Int32} {S : tb_St} {r : tb_St} (h : ((if S 24 4 ≤ x1 then some S else (tb_cI d mX5_has [.ref 2, .int x2] S).bind fun q13 => (if q13.1 = 0 then some (q13.2) else (tb_ix x1 40).bind fun j25 => some (tb_up (q13.2) 25 j25 x2)))) = some r) : tb_E d mX6_setPlace tb_dV 0 [.ref 24, .int x1, .int x2] [] tb_S S = some r := by
  refine x_iload_n (pc' := 1) dX6_setPlace_0 rfl rfl ?_
  refine x_aload_n (pc' := 2) dX6_setPlace_1 rfl rfl ?_
  refine x_getI (pc' := 5) (v := S 24 4) dX6_setPlace_2 rfl lf_6_21 rfl sh_24 rfl ?_
  by_cases c5 : S 24 4 ≤ x1
  · replace h := (if_pos c5).symm.trans h
    refine x_icmp_ge_t (pc' := 26) dX6_setPlace_5 (by decide) c5 ?_
    exact x_vret dX6_setPlace_26 rfl ((tb_dV_ok _).trans h)
  · replace h := (if_neg c5).symm.trans h
    refine x_icmp_ge_f (pc' := 8) dX6_setPlace_5 (by decide) rfl c5 ?_
    refine x_aload_n (pc' := 9) dX6_setPlace_8 rfl rfl ?_
    refine x_getR (pc' := 12) dX6_setPlace_9 rfl lf_6_34 rfl sh_24 rfl ?_
    refine x_iload_n (pc' := 13) dX6_setPlace_12 rfl rfl ?_
    obtain ⟨q13, hq13, h⟩ := Option.bind_eq_some_iff.mp h
    refine x_virtI (pc' := 16) (o := 2) (as := [.int x2]) (rest := []) dX6_setPlace_13 rfl lm_6_54 rfl rfl rfl sh_2 rfl hq13 ?_
    by_cases c16 : q13.1 = 0
    · replace h := (if_pos c16).symm.trans h
      refine x_if_eq_t (pc' := 26) dX6_setPlace_16 (by decide) c16 ?_
      exact x_vret dX6_setPlace_26 rfl ((tb_dV_ok _).trans h)
    · replace h := (if_neg c16).symm.trans h
      refine x_if_eq_f (pc' := 19) dX6_setPlace_16 (by decide) rfl c16 ?_
      refine x_aload_n (pc' := 20) dX6_setPlace_19 rfl rfl ?_
      refine x_getR (pc' := 23) dX6_setPlace_20 rfl lf_6_9 rfl sh_24 rfl ?_
      refine x_iload_n (pc' := 24) dX6_setPlace_23 rfl rfl ?_
      refine x_iload_n (pc' := 25) dX6_setPlace_24 rfl rfl ?_
      obtain ⟨j25, hj25, h⟩ := Option.bind_eq_some_iff.mp h
      refine x_iastore (pc' := 26) dX6_setPlace_25 rfl sh_25 hj25 ?_
      exact x_vret dX6_setPlace_26 rfl ((tb_dV_ok _).trans h)
theorem MX6_setPlace {d : Nat} {x1 : Int32} {x2 : Int32} {S : tb_St} {r : tb_St} (h : ((if S 24 4 ≤ x1 then some S else (tb_cI d mX5_has [.ref 2, .int x2] S).bind fun q13 => (if q13.1 = 0 then some (q13.2) else (tb_ix x1 40).bind fun j25 => some (tb_up (q13.2) 25 j25 x2)))) = some r) : tb_cV (d + 1) mX6_setPlace [.ref 24, .int x1, .int x2] S = some r := tb_enV rfl rfl (BX6_setPlace_0 h)
/-! X8_writesNumber (45,) -/
theorem BX8_writesNumber_0 {d : Nat} {x1 : Int32} {S : tb_St} {r : tb_St} (h : ((if x1 ≤ (9 : Int32) then (tb_cV d mX8_writes [.ref 45, .int ((48 : Int32) + (tb_rem x1 (10 : Int32)))] S).bind fun q25 => some q25 else (tb_cV d mX8_writes [.ref 45, .int ((48 : Int32) + (x1 / (10 : Int32)))] S).bind fun q14 => (tb_cV d mX8_writes [.ref 45, .int ((48 : Int32) + (tb_rem x1 (10 : Int32)))] q14).bind fun q25 => some q25)) = some r) : tb_E d mX8_writesNumber tb_dV 0 [.ref 45, .int x1] [] tb_S S = some r := by
  refine x_iload_n (pc' := 1) dX8_writesNumber_0 rfl rfl ?_
  refine x_bipush (pc' := 3) (w := (9 : Int32)) dX8_writesNumber_1 rfl k_bi_9 ?_
  by_cases c3 : x1 ≤ (9 : Int32)
  · replace h := (if_pos c3).symm.trans h
    refine x_icmp_le_t (pc' := 17) dX8_writesNumber_3 (by decide) c3 ?_
    refine x_aload_n (pc' := 18) dX8_writesNumber_17 rfl rfl ?_
    refine x_bipush (pc' := 20) (w := (48 : Int32)) dX8_writesNumber_18 rfl k_bi_48 ?_
    refine x_iload_n (pc' := 21) dX8_writesNumber_20 rfl rfl ?_
    refine x_bipush (pc' := 23) (w := (10 : Int32)) dX8_writesNumber_21 rfl k_bi_10 ?_
    refine x_irem (pc' := 24) dX8_writesNumber_23 rfl (by decide) ?_
    refine x_iadd (pc' := 25) dX8_writesNumber_24 rfl ?_
    obtain ⟨q25, hq25, h⟩ := Option.bind_eq_some_iff.mp h
    refine x_virtV (pc' := 28) (o := 45) (as := [.int ((48 : Int32) + (tb_rem x1 (10 : Int32)))]) (rest := []) dX8_writesNumber_25 rfl lm_8_175 rfl rfl rfl sh_45 rfl hq25 ?_
    exact x_vret dX8_writesNumber_28 rfl ((tb_dV_ok _).trans h)
  · replace h := (if_neg c3).symm.trans h
    refine x_icmp_le_f (pc' := 6) dX8_writesNumber_3 (by decide) rfl c3 ?_
    refine x_aload_n (pc' := 7) dX8_writesNumber_6 rfl rfl ?_
    refine x_bipush (pc' := 9) (w := (48 : Int32)) dX8_writesNumber_7 rfl k_bi_48 ?_
    refine x_iload_n (pc' := 10) dX8_writesNumber_9 rfl rfl ?_
    refine x_bipush (pc' := 12) (w := (10 : Int32)) dX8_writesNumber_10 rfl k_bi_10 ?_
    refine x_idiv (pc' := 13) dX8_writesNumber_12 rfl (by decide) ?_
    refine x_iadd (pc' := 14) dX8_writesNumber_13 rfl ?_
    obtain ⟨q14, hq14, h⟩ := Option.bind_eq_some_iff.mp h
    refine x_virtV (pc' := 17) (o := 45) (as := [.int ((48 : Int32) + (x1 / (10 : Int32)))]) (rest := []) dX8_writesNumber_14 rfl lm_8_175 rfl rfl rfl sh_45 rfl hq14 ?_
    refine x_aload_n (pc' := 18) dX8_writesNumber_17 rfl rfl ?_
    refine x_bipush (pc' := 20) (w := (48 : Int32)) dX8_writesNumber_18 rfl k_bi_48 ?_
    refine x_iload_n (pc' := 21) dX8_writesNumber_20 rfl rfl ?_
    refine x_bipush (pc' := 23) (w := (10 : Int32)) dX8_writesNumber_21 rfl k_bi_10 ?_
    refine x_irem (pc' := 24) dX8_writesNumber_23 rfl (by decide) ?_
    refine x_iadd (pc' := 25) dX8_writesNumber_24 rfl ?_
    obtain ⟨q25, hq25, h⟩ := Option.bind_eq_some_iff.mp h
    refine x_virtV (pc' := 28) (o := 45) (as := [.int ((48 : Int32) + (tb_rem x1 (10 : Int32)))]) (rest := []) dX8_writesNumber_25 rfl lm_8_175 rfl rfl rfl sh_45 rfl hq25 ?_
    exact x_vret dX8_writesNumber_28 rfl ((tb_dV_ok _).trans h)
theorem MX8_writesNumber {d : Nat} {x1 : Int32} {S : tb_St} {r : tb_St} (h : ((if x1 ≤ (9 : Int32) then (tb_cV d mX8_writes [.ref 45, .int ((48 : Int32) + (tb_rem x1 (10 : Int32)))] S).bind fun q25 => some q25 else (tb_cV d mX8_writes [.ref 45, .int ((48 : Int32) + (x1 / (10 : Int32)))] S).bind fun q14 => (tb_cV d mX8_writes [.ref 45, .int ((48 : Int32) + (tb_rem x1 (10 : Int32)))] q14).bind fun q25 => some q25)) = some r) : tb_cV (d + 1) mX8_writesNumber [.ref 45, .int x1] S = some r := tb_enV rfl rfl (BX8_writesNumber_0 h)
/-! X8_writes (45,) -/
theorem BX8_writes_0 {d : Nat} {x1 : Int32} {S : tb_St} {r : tb_St} (h : ((tb_ix (S 45 30) 700).bind fun j16 => some (tb_up (tb_up S 45 30 ((S 45 30) + (1 : Int32))) 62 j16 x1)) = some r) : tb_E d mX8_writes tb_dV 0 [.ref 45, .int x1] [] tb_S S = some r := by
  refine x_aload_n (pc' := 1) dX8_writes_0 rfl rfl ?_
  refine x_getR (pc' := 4) dX8_writes_1 rfl lf_8_65 rfl sh_45 rfl ?_
  refine x_aload_n (pc' := 5) dX8_writes_4 rfl rfl ?_
  refine x_dup (pc' := 6) dX8_writes_5 rfl rfl ?_
  refine x_getI (pc' := 9) (v := S 45 30) dX8_writes_6 rfl lf_8_172 rfl sh_45 rfl ?_
  refine x_dup_x1 (pc' := 10) dX8_writes_9 rfl rfl ?_
  refine x_iconst (pc' := 11) (w := (1 : Int32)) dX8_writes_10 rfl k_ic_1 ?_
  refine x_iadd (pc' := 12) dX8_writes_11 rfl ?_
  refine x_putI (pc' := 15) dX8_writes_12 rfl lf_8_172 (Or.inl rfl) sh_45 ?_
  refine x_iload_n (pc' := 16) dX8_writes_15 rfl rfl ?_
  obtain ⟨j16, hj16, h⟩ := Option.bind_eq_some_iff.mp h
  refine x_iastore (pc' := 17) dX8_writes_16 rfl sh_62 hj16 ?_
  exact x_vret dX8_writes_17 rfl ((tb_dV_ok _).trans h)
theorem MX8_writes {d : Nat} {x1 : Int32} {S : tb_St} {r : tb_St} (h : ((tb_ix (S 45 30) 700).bind fun j16 => some (tb_up (tb_up S 45 30 ((S 45 30) + (1 : Int32))) 62 j16 x1)) = some r) : tb_cV (d + 1) mX8_writes [.ref 45, .int x1] S = some r := tb_enV rfl rfl (BX8_writes_0 h)
/-! X8_letterOf () -/
theorem BX8_letterOf_0 {d : Nat} {x0 : Int32} {S : tb_St} {r : Int32 × tb_St} (h : ((if x0 = (2 : Int32) then some ((63 : Int32), S) else (if x0 = (3 : Int32) then some ((47 : Int32), S) else (if x0 = (4 : Int32) then some ((43 : Int32), S) else (if x0 = (5 : Int32) then some ((60 : Int32), S) else (if x0 = (6 : Int32) then some ((94 : Int32), S) else some ((33 : Int32), S))))))) = some r) : tb_E d mX8_letterOf tb_dI 0 [.int x0] [] tb_S S = some r := by
  refine x_iload_n (pc' := 1) dX8_letterOf_0 rfl rfl ?_
  by_cases c1_2 : x0 = (2 : Int32)
  · replace h := (if_pos c1_2).symm.trans h
    refine x_tsw_in (pc' := 36) (w := (2 : Int32)) (off := 35) dX8_letterOf_1 c1_2 (by decide) (by decide) (by decide) (by decide) ?_
    refine x_bipush (pc' := 38) (w := (63 : Int32)) dX8_letterOf_36 rfl k_bi_63 ?_
    exact x_iret dX8_letterOf_38 rfl ((tb_dI_ok _ _).trans h)
  · replace h := (if_neg c1_2).symm.trans h
    by_cases c1_3 : x0 = (3 : Int32)
    · replace h := (if_pos c1_3).symm.trans h
      refine x_tsw_in (pc' := 42) (w := (3 : Int32)) (off := 41) dX8_letterOf_1 c1_3 (by decide) (by decide) (by decide) (by decide) ?_
      refine x_bipush (pc' := 44) (w := (47 : Int32)) dX8_letterOf_42 rfl k_bi_47 ?_
      exact x_iret dX8_letterOf_44 rfl ((tb_dI_ok _ _).trans h)
    · replace h := (if_neg c1_3).symm.trans h
      by_cases c1_4 : x0 = (4 : Int32)
      · replace h := (if_pos c1_4).symm.trans h
        refine x_tsw_in (pc' := 45) (w := (4 : Int32)) (off := 44) dX8_letterOf_1 c1_4 (by decide) (by decide) (by decide) (by decide) ?_
        refine x_bipush (pc' := 47) (w := (43 : Int32)) dX8_letterOf_45 rfl k_bi_43 ?_
        exact x_iret dX8_letterOf_47 rfl ((tb_dI_ok _ _).trans h)
      · replace h := (if_neg c1_4).symm.trans h
        by_cases c1_5 : x0 = (5 : Int32)
        · replace h := (if_pos c1_5).symm.trans h
          refine x_tsw_in (pc' := 48) (w := (5 : Int32)) (off := 47) dX8_letterOf_1 c1_5 (by decide) (by decide) (by decide) (by decide) ?_
          refine x_bipush (pc' := 50) (w := (60 : Int32)) dX8_letterOf_48 rfl k_bi_60 ?_
          exact x_iret dX8_letterOf_50 rfl ((tb_dI_ok _ _).trans h)
        · replace h := (if_neg c1_5).symm.trans h
          by_cases c1_6 : x0 = (6 : Int32)
          · replace h := (if_pos c1_6).symm.trans h
            refine x_tsw_in (pc' := 39) (w := (6 : Int32)) (off := 38) dX8_letterOf_1 c1_6 (by decide) (by decide) (by decide) (by decide) ?_
            refine x_bipush (pc' := 41) (w := (94 : Int32)) dX8_letterOf_39 rfl k_bi_94 ?_
            exact x_iret dX8_letterOf_41 rfl ((tb_dI_ok _ _).trans h)
          · replace h := (if_neg c1_6).symm.trans h
            refine x_tsw_out (pc' := 51) dX8_letterOf_1 (fun k0 g1 g2 g3 => ?_) (by decide) ?_
            · obtain rfl | rfl | rfl | rfl | rfl : k0 = 2 ∨ k0 = 3 ∨ k0 = 4 ∨ k0 = 5 ∨ k0 = 6 := by omega
              · exact absurd (Int32.toInt_inj.mp (g3.trans (by decide +kernel : (2 : Int) = (2 : Int32).toInt))) c1_2
              · exact absurd (Int32.toInt_inj.mp (g3.trans (by decide +kernel : (3 : Int) = (3 : Int32).toInt))) c1_3
              · exact absurd (Int32.toInt_inj.mp (g3.trans (by decide +kernel : (4 : Int) = (4 : Int32).toInt))) c1_4
              · exact absurd (Int32.toInt_inj.mp (g3.trans (by decide +kernel : (5 : Int) = (5 : Int32).toInt))) c1_5
              · exact absurd (Int32.toInt_inj.mp (g3.trans (by decide +kernel : (6 : Int) = (6 : Int32).toInt))) c1_6
            · refine x_bipush (pc' := 53) (w := (33 : Int32)) dX8_letterOf_51 rfl k_bi_33 ?_
              exact x_iret dX8_letterOf_53 rfl ((tb_dI_ok _ _).trans h)
theorem MX8_letterOf {d : Nat} {x0 : Int32} {S : tb_St} {r : Int32 × tb_St} (h : ((if x0 = (2 : Int32) then some ((63 : Int32), S) else (if x0 = (3 : Int32) then some ((47 : Int32), S) else (if x0 = (4 : Int32) then some ((43 : Int32), S) else (if x0 = (5 : Int32) then some ((60 : Int32), S) else (if x0 = (6 : Int32) then some ((94 : Int32), S) else some ((33 : Int32), S))))))) = some r) : tb_cI (d + 1) mX8_letterOf [.int x0] S = some r := tb_enI rfl rfl (BX8_letterOf_0 h)
/-! X2_writeTerm (36,) -/
theorem BX2_writeTerm_0 {d : Nat} {x1 x2 : Int32} {w3 : Value} {S : tb_St} {r : tb_St} (h : ((tb_cI d mX5_has [.ref 2, .int x1] S).bind fun q5 => (if q5.1 = 0 then some (q5.2) else (if x2 < (24 : Int32) then (tb_ix x1 24).bind fun j26 => (if ¬ (q5.2) 3 j26 = 0 then (tb_cI d mX2_signOf [.ref 36, .int ((q5.2) 3 j26)] (q5.2)).bind fun q49 => (tb_cV d mX2_writeByte [.ref 36, .int (q49.1)] (q49.2)).bind fun q52 => (if ¬ (q5.2) 3 j26 = (1 : Int32) then (tb_cV d mX2_writeHead [.ref 36, .int x1] q52).bind fun q63 => (tb_cV d mX2_writeByte [.ref 36, .int (40 : Int32)] q63).bind fun q69 => (tb_ix x1 24).bind fun j81 => (tb_cV d mX2_writeTerm [.ref 36, .int (q69 6 j81), .int (x2 + (1 : Int32))] q69).bind fun q85 => (tb_cI d mX7_isOfTwo [.int ((q5.2) 3 j26)] q85).bind fun q89 => (if q89.1 = 0 then (tb_cV d mX2_writeByte [.ref 36, .int (41 : Int32)] (q89.2)).bind fun q120 => some q120 else (tb_cV d mX2_writeByte [.ref 36, .int (44 : Int32)] (q89.2)).bind fun q98 => (tb_ix x1 24).bind fun j110 => (tb_cV d mX2_writeTerm [.ref 36, .int (q98 7 j110), .int (x2 + (1 : Int32))] q98).bind fun q114 => (tb_cV d mX2_writeByte [.ref 36, .int (41 : Int32)] q114).bind fun q120 => some q120) else some q52) else (tb_ix x1 24).bind fun j41 => (tb_cV d mX2_writeFee [.ref 36, .int ((q5.2) 4 j41)] (q5.2)).bind fun q42 => some q42) else some (q5.2)))) = some r) : tb_E d mX2_writeTerm tb_dV 0 [.ref 36, .int x1, .int x2, w3] [] tb_S S = some r := by
  refine x_aload_n (pc' := 1) dX2_writeTerm_0 rfl rfl ?_
  refine x_getR (pc' := 4) dX2_writeTerm_1 rfl lf_2_19 rfl sh_36 rfl ?_
  refine x_iload_n (pc' := 5) dX2_writeTerm_4 rfl rfl ?_
  obtain ⟨q5, hq5, h⟩ := Option.bind_eq_some_iff.mp h
  refine x_virtI (pc' := 8) (o := 2) (as := [.int x1]) (rest := []) dX2_writeTerm_5 rfl lm_2_27 rfl rfl rfl sh_2 rfl hq5 ?_
  by_cases c8 : q5.1 = 0
  · replace h := (if_pos c8).symm.trans h
    refine x_if_eq_t (pc' := 17) dX2_writeTerm_8 (by decide) c8 ?_
    exact x_vret dX2_writeTerm_17 rfl ((tb_dV_ok _).trans h)
  · replace h := (if_neg c8).symm.trans h
    refine x_if_eq_f (pc' := 11) dX2_writeTerm_8 (by decide) rfl c8 ?_
    refine x_iload_n (pc' := 12) dX2_writeTerm_11 rfl rfl ?_
    refine x_bipush (pc' := 14) (w := (24 : Int32)) dX2_writeTerm_12 rfl k_bi_24 ?_
    by_cases c14 : x2 < (24 : Int32)
    · replace h := (if_pos c14).symm.trans h
      refine x_icmp_lt_t (pc' := 18) dX2_writeTerm_14 (by decide) c14 ?_
      refine x_aload_n (pc' := 19) dX2_writeTerm_18 rfl rfl ?_
      refine x_getR (pc' := 22) dX2_writeTerm_19 rfl lf_2_19 rfl sh_36 rfl ?_
      refine x_getR (pc' := 25) dX2_writeTerm_22 rfl lf_2_33 rfl sh_2 rfl ?_
      refine x_iload_n (pc' := 26) dX2_writeTerm_25 rfl rfl ?_
      obtain ⟨j26, hj26, h⟩ := Option.bind_eq_some_iff.mp h
      refine x_iaload (pc' := 27) (v := (q5.2) 3 j26) dX2_writeTerm_26 rfl sh_3 hj26 rfl ?_
      refine x_istore_n (pc' := 28) (ls' := [.ref 36, .int x1, .int x2, .int ((q5.2) 3 j26)]) dX2_writeTerm_27 rfl rfl rfl ?_
      refine x_iload_n (pc' := 29) dX2_writeTerm_28 rfl rfl ?_
      by_cases c29 : ¬ (q5.2) 3 j26 = 0
      · replace h := (if_pos c29).symm.trans h
        refine x_if_ne_t (pc' := 46) dX2_writeTerm_29 (by decide) c29 ?_
        refine x_aload_n (pc' := 47) dX2_writeTerm_46 rfl rfl ?_
        refine x_aload_n (pc' := 48) dX2_writeTerm_47 rfl rfl ?_
        refine x_iload_n (pc' := 49) dX2_writeTerm_48 rfl rfl ?_
        obtain ⟨q49, hq49, h⟩ := Option.bind_eq_some_iff.mp h
        refine x_virtI (pc' := 52) (o := 36) (as := [.int ((q5.2) 3 j26)]) (rest := [.ref 36]) dX2_writeTerm_49 rfl lm_2_44 rfl rfl rfl sh_36 rfl hq49 ?_
        obtain ⟨q52, hq52, h⟩ := Option.bind_eq_some_iff.mp h
        refine x_virtV (pc' := 55) (o := 36) (as := [.int (q49.1)]) (rest := []) dX2_writeTerm_52 rfl lm_2_48 rfl rfl rfl sh_36 rfl hq52 ?_
        refine x_iload_n (pc' := 56) dX2_writeTerm_55 rfl rfl ?_
        refine x_iconst (pc' := 57) (w := (1 : Int32)) dX2_writeTerm_56 rfl k_ic_1 ?_
        by_cases c57 : ¬ (q5.2) 3 j26 = (1 : Int32)
        · replace h := (if_pos c57).symm.trans h
          refine x_icmp_ne_t (pc' := 61) dX2_writeTerm_57 (by decide) c57 ?_
          refine x_aload_n (pc' := 62) dX2_writeTerm_61 rfl rfl ?_
          refine x_iload_n (pc' := 63) dX2_writeTerm_62 rfl rfl ?_
          obtain ⟨q63, hq63, h⟩ := Option.bind_eq_some_iff.mp h
          refine x_virtV (pc' := 66) (o := 36) (as := [.int x1]) (rest := []) dX2_writeTerm_63 rfl lm_2_51 rfl rfl rfl sh_36 rfl hq63 ?_
          refine x_aload_n (pc' := 67) dX2_writeTerm_66 rfl rfl ?_
          refine x_bipush (pc' := 69) (w := (40 : Int32)) dX2_writeTerm_67 rfl k_bi_40 ?_
          obtain ⟨q69, hq69, h⟩ := Option.bind_eq_some_iff.mp h
          refine x_virtV (pc' := 72) (o := 36) (as := [.int (40 : Int32)]) (rest := []) dX2_writeTerm_69 rfl lm_2_48 rfl rfl rfl sh_36 rfl hq69 ?_
          refine x_aload_n (pc' := 73) dX2_writeTerm_72 rfl rfl ?_
          refine x_aload_n (pc' := 74) dX2_writeTerm_73 rfl rfl ?_
          refine x_getR (pc' := 77) dX2_writeTerm_74 rfl lf_2_19 rfl sh_36 rfl ?_
          refine x_getR (pc' := 80) dX2_writeTerm_77 rfl lf_2_54 rfl sh_2 rfl ?_
          refine x_iload_n (pc' := 81) dX2_writeTerm_80 rfl rfl ?_
          obtain ⟨j81, hj81, h⟩ := Option.bind_eq_some_iff.mp h
          refine x_iaload (pc' := 82) (v := q69 6 j81) dX2_writeTerm_81 rfl sh_6 hj81 rfl ?_
          refine x_iload_n (pc' := 83) dX2_writeTerm_82 rfl rfl ?_
          refine x_iconst (pc' := 84) (w := (1 : Int32)) dX2_writeTerm_83 rfl k_ic_1 ?_
          refine x_iadd (pc' := 85) dX2_writeTerm_84 rfl ?_
          obtain ⟨q85, hq85, h⟩ := Option.bind_eq_some_iff.mp h
          refine x_virtV (pc' := 88) (o := 36) (as := [.int (q69 6 j81), .int (x2 + (1 : Int32))]) (rest := []) dX2_writeTerm_85 rfl lm_2_23 rfl rfl rfl sh_36 rfl hq85 ?_
          refine x_iload_n (pc' := 89) dX2_writeTerm_88 rfl rfl ?_
          obtain ⟨q89, hq89, h⟩ := Option.bind_eq_some_iff.mp h
          refine x_statI (pc' := 92) (as := [.int ((q5.2) 3 j26)]) (rest := []) dX2_writeTerm_89 rfl lm_2_57 (by decide) rfl rfl rfl rfl hq89 ?_
          by_cases c92 : q89.1 = 0
          · replace h := (if_pos c92).symm.trans h
            refine x_if_eq_t (pc' := 117) dX2_writeTerm_92 (by decide) c92 ?_
            refine x_aload_n (pc' := 118) dX2_writeTerm_117 rfl rfl ?_
            refine x_bipush (pc' := 120) (w := (41 : Int32)) dX2_writeTerm_118 rfl k_bi_41 ?_
            obtain ⟨q120, hq120, h⟩ := Option.bind_eq_some_iff.mp h
            refine x_virtV (pc' := 123) (o := 36) (as := [.int (41 : Int32)]) (rest := []) dX2_writeTerm_120 rfl lm_2_48 rfl rfl rfl sh_36 rfl hq120 ?_
            exact x_vret dX2_writeTerm_123 rfl ((tb_dV_ok _).trans h)
          · replace h := (if_neg c92).symm.trans h
            refine x_if_eq_f (pc' := 95) dX2_writeTerm_92 (by decide) rfl c92 ?_
            refine x_aload_n (pc' := 96) dX2_writeTerm_95 rfl rfl ?_
            refine x_bipush (pc' := 98) (w := (44 : Int32)) dX2_writeTerm_96 rfl k_bi_44 ?_
            obtain ⟨q98, hq98, h⟩ := Option.bind_eq_some_iff.mp h
            refine x_virtV (pc' := 101) (o := 36) (as := [.int (44 : Int32)]) (rest := []) dX2_writeTerm_98 rfl lm_2_48 rfl rfl rfl sh_36 rfl hq98 ?_
            refine x_aload_n (pc' := 102) dX2_writeTerm_101 rfl rfl ?_
            refine x_aload_n (pc' := 103) dX2_writeTerm_102 rfl rfl ?_
            refine x_getR (pc' := 106) dX2_writeTerm_103 rfl lf_2_19 rfl sh_36 rfl ?_
            refine x_getR (pc' := 109) dX2_writeTerm_106 rfl lf_2_60 rfl sh_2 rfl ?_
            refine x_iload_n (pc' := 110) dX2_writeTerm_109 rfl rfl ?_
            obtain ⟨j110, hj110, h⟩ := Option.bind_eq_some_iff.mp h
            refine x_iaload (pc' := 111) (v := q98 7 j110) dX2_writeTerm_110 rfl sh_7 hj110 rfl ?_
            refine x_iload_n (pc' := 112) dX2_writeTerm_111 rfl rfl ?_
            refine x_iconst (pc' := 113) (w := (1 : Int32)) dX2_writeTerm_112 rfl k_ic_1 ?_
            refine x_iadd (pc' := 114) dX2_writeTerm_113 rfl ?_
            obtain ⟨q114, hq114, h⟩ := Option.bind_eq_some_iff.mp h
            refine x_virtV (pc' := 117) (o := 36) (as := [.int (q98 7 j110), .int (x2 + (1 : Int32))]) (rest := []) dX2_writeTerm_114 rfl lm_2_23 rfl rfl rfl sh_36 rfl hq114 ?_
            refine x_aload_n (pc' := 118) dX2_writeTerm_117 rfl rfl ?_
            refine x_bipush (pc' := 120) (w := (41 : Int32)) dX2_writeTerm_118 rfl k_bi_41 ?_
            obtain ⟨q120, hq120, h⟩ := Option.bind_eq_some_iff.mp h
            refine x_virtV (pc' := 123) (o := 36) (as := [.int (41 : Int32)]) (rest := []) dX2_writeTerm_120 rfl lm_2_48 rfl rfl rfl sh_36 rfl hq120 ?_
            exact x_vret dX2_writeTerm_123 rfl ((tb_dV_ok _).trans h)
        · replace h := (if_neg c57).symm.trans h
          refine x_icmp_ne_f (pc' := 60) dX2_writeTerm_57 (by decide) rfl c57 ?_
          exact x_vret dX2_writeTerm_60 rfl ((tb_dV_ok _).trans h)
      · replace h := (if_neg c29).symm.trans h
        refine x_if_ne_f (pc' := 32) dX2_writeTerm_29 (by decide) rfl c29 ?_
        refine x_aload_n (pc' := 33) dX2_writeTerm_32 rfl rfl ?_
        refine x_aload_n (pc' := 34) dX2_writeTerm_33 rfl rfl ?_
        refine x_getR (pc' := 37) dX2_writeTerm_34 rfl lf_2_19 rfl sh_36 rfl ?_
        refine x_getR (pc' := 40) dX2_writeTerm_37 rfl lf_2_37 rfl sh_2 rfl ?_
        refine x_iload_n (pc' := 41) dX2_writeTerm_40 rfl rfl ?_
        obtain ⟨j41, hj41, h⟩ := Option.bind_eq_some_iff.mp h
        refine x_iaload (pc' := 42) (v := (q5.2) 4 j41) dX2_writeTerm_41 rfl sh_4 hj41 rfl ?_
        obtain ⟨q42, hq42, h⟩ := Option.bind_eq_some_iff.mp h
        refine x_virtV (pc' := 45) (o := 36) (as := [.int ((q5.2) 4 j41)]) (rest := []) dX2_writeTerm_42 rfl lm_2_40 rfl rfl rfl sh_36 rfl hq42 ?_
        exact x_vret dX2_writeTerm_45 rfl ((tb_dV_ok _).trans h)
    · replace h := (if_neg c14).symm.trans h
      refine x_icmp_lt_f (pc' := 17) dX2_writeTerm_14 (by decide) rfl c14 ?_
      exact x_vret dX2_writeTerm_17 rfl ((tb_dV_ok _).trans h)
theorem MX2_writeTerm {d : Nat} {x1 : Int32} {x2 : Int32} {S : tb_St} {r : tb_St} (h : ((tb_cI d mX5_has [.ref 2, .int x1] S).bind fun q5 => (if q5.1 = 0 then some (q5.2) else (if x2 < (24 : Int32) then (tb_ix x1 24).bind fun j26 => (if ¬ (q5.2) 3 j26 = 0 then (tb_cI d mX2_signOf [.ref 36, .int ((q5.2) 3 j26)] (q5.2)).bind fun q49 => (tb_cV d mX2_writeByte [.ref 36, .int (q49.1)] (q49.2)).bind fun q52 => (if ¬ (q5.2) 3 j26 = (1 : Int32) then (tb_cV d mX2_writeHead [.ref 36, .int x1] q52).bind fun q63 => (tb_cV d mX2_writeByte [.ref 36, .int (40 : Int32)] q63).bind fun q69 => (tb_ix x1 24).bind fun j81 => (tb_cV d mX2_writeTerm [.ref 36, .int (q69 6 j81), .int (x2 + (1 : Int32))] q69).bind fun q85 => (tb_cI d mX7_isOfTwo [.int ((q5.2) 3 j26)] q85).bind fun q89 => (if q89.1 = 0 then (tb_cV d mX2_writeByte [.ref 36, .int (41 : Int32)] (q89.2)).bind fun q120 => some q120 else (tb_cV d mX2_writeByte [.ref 36, .int (44 : Int32)] (q89.2)).bind fun q98 => (tb_ix x1 24).bind fun j110 => (tb_cV d mX2_writeTerm [.ref 36, .int (q98 7 j110), .int (x2 + (1 : Int32))] q98).bind fun q114 => (tb_cV d mX2_writeByte [.ref 36, .int (41 : Int32)] q114).bind fun q120 => some q120) else some q52) else (tb_ix x1 24).bind fun j41 => (tb_cV d mX2_writeFee [.ref 36, .int ((q5.2) 4 j41)] (q5.2)).bind fun q42 => some q42) else some (q5.2)))) = some r) : tb_cV (d + 1) mX2_writeTerm [.ref 36, .int x1, .int x2] S = some r := tb_enV rfl rfl (BX2_writeTerm_0 h)
