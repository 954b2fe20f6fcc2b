/-! X7_clear (1,) -/
theorem BX7_clear_0 {d : Nat} {S : tb_St} {r : Int32 × tb_St} (h : ((tb_cI d mX4_wipe [.ref 32] S).bind fun q4 => some (q4.1, q4.2)) = some r) : tb_E d mX7_clear tb_dI 0 [.ref 1] [] tb_S S = some r := by
  refine x_aload_n (pc' := 1) dX7_clear_0 rfl rfl ?_
  refine x_getR (pc' := 4) dX7_clear_1 rfl lf_7_54 rfl sh_1 rfl ?_
  obtain ⟨q4, hq4, h⟩ := Option.bind_eq_some_iff.mp h
  refine x_virtI (pc' := 7) (o := 32) (as := []) (rest := []) dX7_clear_4 rfl lm_7_101 rfl rfl rfl sh_32 rfl hq4 ?_
  exact x_iret dX7_clear_7 rfl ((tb_dI_ok _ _).trans h)
theorem MX7_clear {d : Nat} {S : tb_St} {r : Int32 × tb_St} (h : ((tb_cI d mX4_wipe [.ref 32] S).bind fun q4 => some (q4.1, q4.2)) = some r) : tb_cI (d + 1) mX7_clear [.ref 1] S = some r := tb_enI rfl rfl (BX7_clear_0 h)
/-! X8_feed (45,) -/
theorem BX8_feed_0 {d : Nat} {x1 : Int32} {S : tb_St} {r : Int32 × tb_St} (h : ((tb_cI d mX8_within [.int x1, .int (1 : Int32), .int (127 : Int32)] S).bind fun q4 => (if ¬ q4.1 = 0 then (if ¬ (q4.2) 45 21 = (60 : Int32) then (tb_ix ((q4.2) 45 21) 60).bind fun j41 => some (((q4.2) 45 21) + (1 : Int32), tb_up (tb_up (q4.2) 45 21 (((q4.2) 45 21) + (1 : Int32))) 59 j41 x1) else some ((-4 : Int32), q4.2)) else some ((-2 : Int32), q4.2))) = some r) : tb_E d mX8_feed tb_dI 0 [.ref 45, .int x1] [] tb_S S = some r := by
  refine x_iload_n (pc' := 1) dX8_feed_0 rfl rfl ?_
  refine x_iconst (pc' := 2) (w := (1 : Int32)) dX8_feed_1 rfl k_ic_1 ?_
  refine x_bipush (pc' := 4) (w := (127 : Int32)) dX8_feed_2 rfl k_bi_127 ?_
  obtain ⟨q4, hq4, h⟩ := Option.bind_eq_some_iff.mp h
  refine x_statI (pc' := 7) (as := [.int x1, .int (1 : Int32), .int (127 : Int32)]) (rest := []) dX8_feed_4 rfl lm_8_80 (by decide) rfl rfl rfl rfl hq4 ?_
  by_cases c7 : ¬ q4.1 = 0
  · replace h := (if_pos c7).symm.trans h
    refine x_if_ne_t (pc' := 13) dX8_feed_7 (by decide) c7 ?_
    refine x_aload_n (pc' := 14) dX8_feed_13 rfl rfl ?_
    refine x_getI (pc' := 17) (v := (q4.2) 45 21) dX8_feed_14 rfl lf_8_119 rfl sh_45 rfl ?_
    refine x_bipush (pc' := 19) (w := (60 : Int32)) dX8_feed_17 rfl k_bi_60 ?_
    by_cases c19 : ¬ (q4.2) 45 21 = (60 : Int32)
    · replace h := (if_pos c19).symm.trans h
      refine x_icmp_ne_t (pc' := 25) dX8_feed_19 (by decide) c19 ?_
      refine x_aload_n (pc' := 26) dX8_feed_25 rfl rfl ?_
      refine x_getR (pc' := 29) dX8_feed_26 rfl lf_8_56 rfl sh_45 rfl ?_
      refine x_aload_n (pc' := 30) dX8_feed_29 rfl rfl ?_
      refine x_dup (pc' := 31) dX8_feed_30 rfl rfl ?_
      refine x_getI (pc' := 34) (v := (q4.2) 45 21) dX8_feed_31 rfl lf_8_119 rfl sh_45 rfl ?_
      refine x_dup_x1 (pc' := 35) dX8_feed_34 rfl rfl ?_
      refine x_iconst (pc' := 36) (w := (1 : Int32)) dX8_feed_35 rfl k_ic_1 ?_
      refine x_iadd (pc' := 37) dX8_feed_36 rfl ?_
      refine x_putI (pc' := 40) dX8_feed_37 rfl lf_8_119 (Or.inl rfl) sh_45 ?_
      refine x_iload_n (pc' := 41) dX8_feed_40 rfl rfl ?_
      obtain ⟨j41, hj41, h⟩ := Option.bind_eq_some_iff.mp h
      refine x_iastore (pc' := 42) dX8_feed_41 rfl sh_59 hj41 ?_
      refine x_aload_n (pc' := 43) dX8_feed_42 rfl rfl ?_
      refine x_getI (pc' := 46) (v := ((q4.2) 45 21) + (1 : Int32)) dX8_feed_43 rfl lf_8_119 rfl sh_45 rfl ?_
      exact x_iret dX8_feed_46 rfl ((tb_dI_ok _ _).trans h)
    · replace h := (if_neg c19).symm.trans h
      refine x_icmp_ne_f (pc' := 22) dX8_feed_19 (by decide) rfl c19 ?_
      refine x_bipush (pc' := 24) (w := (-4 : Int32)) dX8_feed_22 rfl k_bi_m4 ?_
      exact x_iret dX8_feed_24 rfl ((tb_dI_ok _ _).trans h)
  · replace h := (if_neg c7).symm.trans h
    refine x_if_ne_f (pc' := 10) dX8_feed_7 (by decide) rfl c7 ?_
    refine x_bipush (pc' := 12) (w := (-2 : Int32)) dX8_feed_10 rfl k_bi_m2 ?_
    exact x_iret dX8_feed_12 rfl ((tb_dI_ok _ _).trans h)
theorem MX8_feed {d : Nat} {x1 : Int32} {S : tb_St} {r : Int32 × tb_St} (h : ((tb_cI d mX8_within [.int x1, .int (1 : Int32), .int (127 : Int32)] S).bind fun q4 => (if ¬ q4.1 = 0 then (if ¬ (q4.2) 45 21 = (60 : Int32) then (tb_ix ((q4.2) 45 21) 60).bind fun j41 => some (((q4.2) 45 21) + (1 : Int32), tb_up (tb_up (q4.2) 45 21 (((q4.2) 45 21) + (1 : Int32))) 59 j41 x1) else some ((-4 : Int32), q4.2)) else some ((-2 : Int32), q4.2))) = some r) : tb_cI (d + 1) mX8_feed [.ref 45, .int x1] S = some r := tb_enI rfl rfl (BX8_feed_0 h)
/-! X7_feed (1,) -/
theorem BX7_feed_0 {d : Nat} {x1 : Int32} {S : tb_St} {r : Int32 × tb_St} (h : ((if x1 < (1 : Int32) then some ((-2 : Int32), S) else (if x1 ≤ (127 : Int32) then (tb_cI d mX4_append [.ref 32, .int x1] S).bind fun q19 => some (q19.1, q19.2) else some ((-2 : Int32), S)))) = some r) : tb_E d mX7_feed tb_dI 0 [.ref 1, .int x1] [] tb_S S = some r := by
  refine x_iload_n (pc' := 1) dX7_feed_0 rfl rfl ?_
  refine x_iconst (pc' := 2) (w := (1 : Int32)) dX7_feed_1 rfl k_ic_1 ?_
  by_cases c2 : x1 < (1 : Int32)
  · replace h := (if_pos c2).symm.trans h
    refine x_icmp_lt_t (pc' := 11) dX7_feed_2 (by decide) c2 ?_
    refine x_bipush (pc' := 13) (w := (-2 : Int32)) dX7_feed_11 rfl k_bi_m2 ?_
    exact x_iret dX7_feed_13 rfl ((tb_dI_ok _ _).trans h)
  · replace h := (if_neg c2).symm.trans h
    refine x_icmp_lt_f (pc' := 5) dX7_feed_2 (by decide) rfl c2 ?_
    refine x_iload_n (pc' := 6) dX7_feed_5 rfl rfl ?_
    refine x_bipush (pc' := 8) (w := (127 : Int32)) dX7_feed_6 rfl k_bi_127 ?_
    by_cases c8 : x1 ≤ (127 : Int32)
    · replace h := (if_pos c8).symm.trans h
      refine x_icmp_le_t (pc' := 14) dX7_feed_8 (by decide) c8 ?_
      refine x_aload_n (pc' := 15) dX7_feed_14 rfl rfl ?_
      refine x_getR (pc' := 18) dX7_feed_15 rfl lf_7_54 rfl sh_1 rfl ?_
      refine x_iload_n (pc' := 19) dX7_feed_18 rfl rfl ?_
      obtain ⟨q19, hq19, h⟩ := Option.bind_eq_some_iff.mp h
      refine x_virtI (pc' := 22) (o := 32) (as := [.int x1]) (rest := []) dX7_feed_19 rfl lm_7_97 rfl rfl rfl sh_32 rfl hq19 ?_
      exact x_iret dX7_feed_22 rfl ((tb_dI_ok _ _).trans h)
    · replace h := (if_neg c8).symm.trans h
      refine x_icmp_le_f (pc' := 11) dX7_feed_8 (by decide) rfl c8 ?_
      refine x_bipush (pc' := 13) (w := (-2 : Int32)) dX7_feed_11 rfl k_bi_m2 ?_
      exact x_iret dX7_feed_13 rfl ((tb_dI_ok _ _).trans h)
theorem MX7_feed {d : Nat} {x1 : Int32} {S : tb_St} {r : Int32 × tb_St} (h : ((if x1 < (1 : Int32) then some ((-2 : Int32), S) else (if x1 ≤ (127 : Int32) then (tb_cI d mX4_append [.ref 32, .int x1] S).bind fun q19 => some (q19.1, q19.2) else some ((-2 : Int32), S)))) = some r) : tb_cI (d + 1) mX7_feed [.ref 1, .int x1] S = some r := tb_enI rfl rfl (BX7_feed_0 h)
/-! X8_drop (45,) -/
theorem BX8_drop_0 {d : Nat} {S : tb_St} {r : Int32 × tb_St} (h : ((if ¬ S 45 0 = 0 then some ((S 45 0) - (1 : Int32), tb_up S 45 0 ((S 45 0) - (1 : Int32))) else some ((-3 : Int32), S))) = some r) : tb_E d mX8_drop tb_dI 0 [.ref 45] [] tb_S S = some r := by
  refine x_aload_n (pc' := 1) dX8_drop_0 rfl rfl ?_
  refine x_getI (pc' := 4) (v := S 45 0) dX8_drop_1 rfl lf_8_77 rfl sh_45 rfl ?_
  by_cases c4 : ¬ S 45 0 = 0
  · replace h := (if_pos c4).symm.trans h
    refine x_if_ne_t (pc' := 10) dX8_drop_4 (by decide) c4 ?_
    refine x_aload_n (pc' := 11) dX8_drop_10 rfl rfl ?_
    refine x_dup (pc' := 12) dX8_drop_11 rfl rfl ?_
    refine x_getI (pc' := 15) (v := S 45 0) dX8_drop_12 rfl lf_8_77 rfl sh_45 rfl ?_
    refine x_iconst (pc' := 16) (w := (1 : Int32)) dX8_drop_15 rfl k_ic_1 ?_
    refine x_isub (pc' := 17) dX8_drop_16 rfl ?_
    refine x_putI (pc' := 20) dX8_drop_17 rfl lf_8_77 (Or.inl rfl) sh_45 ?_
    refine x_aload_n (pc' := 21) dX8_drop_20 rfl rfl ?_
    refine x_getI (pc' := 24) (v := (S 45 0) - (1 : Int32)) dX8_drop_21 rfl lf_8_77 rfl sh_45 rfl ?_
    exact x_iret dX8_drop_24 rfl ((tb_dI_ok _ _).trans h)
  · replace h := (if_neg c4).symm.trans h
    refine x_if_ne_f (pc' := 7) dX8_drop_4 (by decide) rfl c4 ?_
    refine x_bipush (pc' := 9) (w := (-3 : Int32)) dX8_drop_7 rfl k_bi_m3 ?_
    exact x_iret dX8_drop_9 rfl ((tb_dI_ok _ _).trans h)
theorem MX8_drop {d : Nat} {S : tb_St} {r : Int32 × tb_St} (h : ((if ¬ S 45 0 = 0 then some ((S 45 0) - (1 : Int32), tb_up S 45 0 ((S 45 0) - (1 : Int32))) else some ((-3 : Int32), S))) = some r) : tb_cI (d + 1) mX8_drop [.ref 45] S = some r := tb_enI rfl rfl (BX8_drop_0 h)
/-! X7_drop (1,) -/
theorem BX7_drop_0 {d : Nat} {S : tb_St} {r : Int32 × tb_St} (h : ((if ¬ S 2 7 = 0 then (tb_cV d mX5_cutTo [.ref 2, .int ((S 2 7) - (1 : Int32))] S).bind fun q26 => some (q26 2 7, q26) else some ((-3 : Int32), S))) = some r) : tb_E d mX7_drop tb_dI 0 [.ref 1] [] tb_S S = some r := by
  refine x_aload_n (pc' := 1) dX7_drop_0 rfl rfl ?_
  refine x_getR (pc' := 4) dX7_drop_1 rfl lf_7_12 rfl sh_1 rfl ?_
  refine x_getI (pc' := 7) (v := S 2 7) dX7_drop_4 rfl lf_7_89 rfl sh_2 rfl ?_
  by_cases c7 : ¬ S 2 7 = 0
  · replace h := (if_pos c7).symm.trans h
    refine x_if_ne_t (pc' := 13) dX7_drop_7 (by decide) c7 ?_
    refine x_aload_n (pc' := 14) dX7_drop_13 rfl rfl ?_
    refine x_getR (pc' := 17) dX7_drop_14 rfl lf_7_12 rfl sh_1 rfl ?_
    refine x_aload_n (pc' := 18) dX7_drop_17 rfl rfl ?_
    refine x_getR (pc' := 21) dX7_drop_18 rfl lf_7_12 rfl sh_1 rfl ?_
    refine x_getI (pc' := 24) (v := S 2 7) dX7_drop_21 rfl lf_7_89 rfl sh_2 rfl ?_
    refine x_iconst (pc' := 25) (w := (1 : Int32)) dX7_drop_24 rfl k_ic_1 ?_
    refine x_isub (pc' := 26) dX7_drop_25 rfl ?_
    obtain ⟨q26, hq26, h⟩ := Option.bind_eq_some_iff.mp h
    refine x_virtV (pc' := 29) (o := 2) (as := [.int ((S 2 7) - (1 : Int32))]) (rest := []) dX7_drop_26 rfl lm_7_93 rfl rfl rfl sh_2 rfl hq26 ?_
    refine x_aload_n (pc' := 30) dX7_drop_29 rfl rfl ?_
    refine x_getR (pc' := 33) dX7_drop_30 rfl lf_7_12 rfl sh_1 rfl ?_
    refine x_getI (pc' := 36) (v := q26 2 7) dX7_drop_33 rfl lf_7_89 rfl sh_2 rfl ?_
    exact x_iret dX7_drop_36 rfl ((tb_dI_ok _ _).trans h)
  · replace h := (if_neg c7).symm.trans h
    refine x_if_ne_f (pc' := 10) dX7_drop_7 (by decide) rfl c7 ?_
    refine x_bipush (pc' := 12) (w := (-3 : Int32)) dX7_drop_10 rfl k_bi_m3 ?_
    exact x_iret dX7_drop_12 rfl ((tb_dI_ok _ _).trans h)
theorem MX7_drop {d : Nat} {S : tb_St} {r : Int32 × tb_St} (h : ((if ¬ S 2 7 = 0 then (tb_cV d mX5_cutTo [.ref 2, .int ((S 2 7) - (1 : Int32))] S).bind fun q26 => some (q26 2 7, q26) else some ((-3 : Int32), S))) = some r) : tb_cI (d + 1) mX7_drop [.ref 1] S = some r := tb_enI rfl rfl (BX7_drop_0 h)
/-! X8_two (45,) -/
theorem BX8_two_0 {d : Nat} {x1 x2 x3 : Int32} {S : tb_St} {r : Int32 × tb_St} (h : ((tb_cI d mX8_within [.int x1, .int (0 : Int32), .int (7 : Int32)] S).bind fun q4 => (if q4.1 = 0 then some ((-1 : Int32), q4.2) else (tb_cI d mX8_ofTwo [.int x1] (q4.2)).bind fun q11 => (if q11.1 = 0 then some ((-1 : Int32), q11.2) else (tb_cI d mX8_isTerm [.ref 45, .int x2] (q11.2)).bind fun q19 => (if q19.1 = 0 then some ((-1 : Int32), q19.2) else (tb_cI d mX8_isTerm [.ref 45, .int x3] (q19.2)).bind fun q27 => (if ¬ q27.1 = 0 then (tb_cI d mX8_adds [.ref 45, .int x1, .int (-5 : Int32), .int x2, .int x3, .int (-5 : Int32)] (q27.2)).bind fun q43 => some (q43.1, q43.2) else some ((-1 : Int32), q27.2)))))) = some r) : tb_E d mX8_two tb_dI 0 [.ref 45, .int x1, .int x2, .int x3] [] tb_S S = some r := by
  refine x_iload_n (pc' := 1) dX8_two_0 rfl rfl ?_
  refine x_iconst (pc' := 2) (w := (0 : Int32)) dX8_two_1 rfl k_ic_0 ?_
  refine x_bipush (pc' := 4) (w := (7 : Int32)) dX8_two_2 rfl k_bi_7 ?_
  obtain ⟨q4, hq4, h⟩ := Option.bind_eq_some_iff.mp h
  refine x_statI (pc' := 7) (as := [.int x1, .int (0 : Int32), .int (7 : Int32)]) (rest := []) dX8_two_4 rfl lm_8_80 (by decide) rfl rfl rfl rfl hq4 ?_
  by_cases c7 : q4.1 = 0
  · replace h := (if_pos c7).symm.trans h
    refine x_if_eq_t (pc' := 33) dX8_two_7 (by decide) c7 ?_
    refine x_iconst (pc' := 34) (w := (-1 : Int32)) dX8_two_33 rfl k_ic_m1 ?_
    exact x_iret dX8_two_34 rfl ((tb_dI_ok _ _).trans h)
  · replace h := (if_neg c7).symm.trans h
    refine x_if_eq_f (pc' := 10) dX8_two_7 (by decide) rfl c7 ?_
    refine x_iload_n (pc' := 11) dX8_two_10 rfl rfl ?_
    obtain ⟨q11, hq11, h⟩ := Option.bind_eq_some_iff.mp h
    refine x_statI (pc' := 14) (as := [.int x1]) (rest := []) dX8_two_11 rfl lm_8_116 (by decide) rfl rfl rfl rfl hq11 ?_
    by_cases c14 : q11.1 = 0
    · replace h := (if_pos c14).symm.trans h
      refine x_if_eq_t (pc' := 33) dX8_two_14 (by decide) c14 ?_
      refine x_iconst (pc' := 34) (w := (-1 : Int32)) dX8_two_33 rfl k_ic_m1 ?_
      exact x_iret dX8_two_34 rfl ((tb_dI_ok _ _).trans h)
    · replace h := (if_neg c14).symm.trans h
      refine x_if_eq_f (pc' := 17) dX8_two_14 (by decide) rfl c14 ?_
      refine x_aload_n (pc' := 18) dX8_two_17 rfl rfl ?_
      refine x_iload_n (pc' := 19) dX8_two_18 rfl rfl ?_
      obtain ⟨q19, hq19, h⟩ := Option.bind_eq_some_iff.mp h
      refine x_virtI (pc' := 22) (o := 45) (as := [.int x2]) (rest := []) dX8_two_19 rfl lm_8_109 rfl rfl rfl sh_45 rfl hq19 ?_
      by_cases c22 : q19.1 = 0
      · replace h := (if_pos c22).symm.trans h
        refine x_if_eq_t (pc' := 33) dX8_two_22 (by decide) c22 ?_
        refine x_iconst (pc' := 34) (w := (-1 : Int32)) dX8_two_33 rfl k_ic_m1 ?_
        exact x_iret dX8_two_34 rfl ((tb_dI_ok _ _).trans h)
      · replace h := (if_neg c22).symm.trans h
        refine x_if_eq_f (pc' := 25) dX8_two_22 (by decide) rfl c22 ?_
        refine x_aload_n (pc' := 26) dX8_two_25 rfl rfl ?_
        refine x_iload_n (pc' := 27) dX8_two_26 rfl rfl ?_
        obtain ⟨q27, hq27, h⟩ := Option.bind_eq_some_iff.mp h
        refine x_virtI (pc' := 30) (o := 45) (as := [.int x3]) (rest := []) dX8_two_27 rfl lm_8_109 rfl rfl rfl sh_45 rfl hq27 ?_
        by_cases c30 : ¬ q27.1 = 0
        · replace h := (if_pos c30).symm.trans h
          refine x_if_ne_t (pc' := 35) dX8_two_30 (by decide) c30 ?_
          refine x_aload_n (pc' := 36) dX8_two_35 rfl rfl ?_
          refine x_iload_n (pc' := 37) dX8_two_36 rfl rfl ?_
          refine x_bipush (pc' := 39) (w := (-5 : Int32)) dX8_two_37 rfl k_bi_m5 ?_
          refine x_iload_n (pc' := 40) dX8_two_39 rfl rfl ?_
          refine x_iload_n (pc' := 41) dX8_two_40 rfl rfl ?_
          refine x_bipush (pc' := 43) (w := (-5 : Int32)) dX8_two_41 rfl k_bi_m5 ?_
          obtain ⟨q43, hq43, h⟩ := Option.bind_eq_some_iff.mp h
          refine x_virtI (pc' := 46) (o := 45) (as := [.int x1, .int (-5 : Int32), .int x2, .int x3, .int (-5 : Int32)]) (rest := []) dX8_two_43 rfl lm_8_105 rfl rfl rfl sh_45 rfl hq43 ?_
          exact x_iret dX8_two_46 rfl ((tb_dI_ok _ _).trans h)
        · replace h := (if_neg c30).symm.trans h
          refine x_if_ne_f (pc' := 33) dX8_two_30 (by decide) rfl c30 ?_
          refine x_iconst (pc' := 34) (w := (-1 : Int32)) dX8_two_33 rfl k_ic_m1 ?_
          exact x_iret dX8_two_34 rfl ((tb_dI_ok _ _).trans h)
theorem MX8_two {d : Nat} {x1 : Int32} {x2 : Int32} {x3 : Int32} {S : tb_St} {r : Int32 × tb_St} (h : ((tb_cI d mX8_within [.int x1, .int (0 : Int32), .int (7 : Int32)] S).bind fun q4 => (if q4.1 = 0 then some ((-1 : Int32), q4.2) else (tb_cI d mX8_ofTwo [.int x1] (q4.2)).bind fun q11 => (if q11.1 = 0 then some ((-1 : Int32), q11.2) else (tb_cI d mX8_isTerm [.ref 45, .int x2] (q11.2)).bind fun q19 => (if q19.1 = 0 then some ((-1 : Int32), q19.2) else (tb_cI d mX8_isTerm [.ref 45, .int x3] (q19.2)).bind fun q27 => (if ¬ q27.1 = 0 then (tb_cI d mX8_adds [.ref 45, .int x1, .int (-5 : Int32), .int x2, .int x3, .int (-5 : Int32)] (q27.2)).bind fun q43 => some (q43.1, q43.2) else some ((-1 : Int32), q27.2)))))) = some r) : tb_cI (d + 1) mX8_two [.ref 45, .int x1, .int x2, .int x3] S = some r := tb_enI rfl rfl (BX8_two_0 h)
/-! X7_two (1,) -/
theorem BX7_two_0 {d : Nat} {x1 x2 x3 : Int32} {S : tb_St} {r : Int32 × tb_St} (h : ((tb_cI d mX7_isOfTwo [.int x1] S).bind fun q1 => (if q1.1 = 0 then some ((-1 : Int32), q1.2) else (tb_cI d mX5_has [.ref 2, .int x2] (q1.2)).bind fun q12 => (if q12.1 = 0 then some ((-1 : Int32), q12.2) else (tb_cI d mX5_has [.ref 2, .int x3] (q12.2)).bind fun q23 => (if ¬ q23.1 = 0 then (tb_cI d mX5_add [.ref 2, .int x1, .int (-5 : Int32), .int (-5 : Int32), .int x2, .int x3] (q23.2)).bind fun q42 => some (q42.1, q42.2) else some ((-1 : Int32), q23.2))))) = some r) : tb_E d mX7_two tb_dI 0 [.ref 1, .int x1, .int x2, .int x3] [] tb_S S = some r := by
  refine x_iload_n (pc' := 1) dX7_two_0 rfl rfl ?_
  obtain ⟨q1, hq1, h⟩ := Option.bind_eq_some_iff.mp h
  refine x_statI (pc' := 4) (as := [.int x1]) (rest := []) dX7_two_1 rfl lm_7_86 (by decide) rfl rfl rfl rfl hq1 ?_
  by_cases c4 : q1.1 = 0
  · replace h := (if_pos c4).symm.trans h
    refine x_if_eq_t (pc' := 29) dX7_two_4 (by decide) c4 ?_
    refine x_iconst (pc' := 30) (w := (-1 : Int32)) dX7_two_29 rfl k_ic_m1 ?_
    exact x_iret dX7_two_30 rfl ((tb_dI_ok _ _).trans h)
  · replace h := (if_neg c4).symm.trans h
    refine x_if_eq_f (pc' := 7) dX7_two_4 (by decide) rfl c4 ?_
    refine x_aload_n (pc' := 8) dX7_two_7 rfl rfl ?_
    refine x_getR (pc' := 11) dX7_two_8 rfl lf_7_12 rfl sh_1 rfl ?_
    refine x_iload_n (pc' := 12) dX7_two_11 rfl rfl ?_
    obtain ⟨q12, hq12, h⟩ := Option.bind_eq_some_iff.mp h
    refine x_virtI (pc' := 15) (o := 2) (as := [.int x2]) (rest := []) dX7_two_12 rfl lm_7_80 rfl rfl rfl sh_2 rfl hq12 ?_
    by_cases c15 : q12.1 = 0
    · replace h := (if_pos c15).symm.trans h
      refine x_if_eq_t (pc' := 29) dX7_two_15 (by decide) c15 ?_
      refine x_iconst (pc' := 30) (w := (-1 : Int32)) dX7_two_29 rfl k_ic_m1 ?_
      exact x_iret dX7_two_30 rfl ((tb_dI_ok _ _).trans h)
    · replace h := (if_neg c15).symm.trans h
      refine x_if_eq_f (pc' := 18) dX7_two_15 (by decide) rfl c15 ?_
      refine x_aload_n (pc' := 19) dX7_two_18 rfl rfl ?_
      refine x_getR (pc' := 22) dX7_two_19 rfl lf_7_12 rfl sh_1 rfl ?_
      refine x_iload_n (pc' := 23) dX7_two_22 rfl rfl ?_
      obtain ⟨q23, hq23, h⟩ := Option.bind_eq_some_iff.mp h
      refine x_virtI (pc' := 26) (o := 2) (as := [.int x3]) (rest := []) dX7_two_23 rfl lm_7_80 rfl rfl rfl sh_2 rfl hq23 ?_
      by_cases c26 : ¬ q23.1 = 0
      · replace h := (if_pos c26).symm.trans h
        refine x_if_ne_t (pc' := 31) dX7_two_26 (by decide) c26 ?_
        refine x_aload_n (pc' := 32) dX7_two_31 rfl rfl ?_
        refine x_getR (pc' := 35) dX7_two_32 rfl lf_7_12 rfl sh_1 rfl ?_
        refine x_iload_n (pc' := 36) dX7_two_35 rfl rfl ?_
        refine x_bipush (pc' := 38) (w := (-5 : Int32)) dX7_two_36 rfl k_bi_m5 ?_
        refine x_bipush (pc' := 40) (w := (-5 : Int32)) dX7_two_38 rfl k_bi_m5 ?_
        refine x_iload_n (pc' := 41) dX7_two_40 rfl rfl ?_
        refine x_iload_n (pc' := 42) dX7_two_41 rfl rfl ?_
        obtain ⟨q42, hq42, h⟩ := Option.bind_eq_some_iff.mp h
        refine x_virtI (pc' := 45) (o := 2) (as := [.int x1, .int (-5 : Int32), .int (-5 : Int32), .int x2, .int x3]) (rest := []) dX7_two_42 rfl lm_7_76 rfl rfl rfl sh_2 rfl hq42 ?_
        exact x_iret dX7_two_45 rfl ((tb_dI_ok _ _).trans h)
      · replace h := (if_neg c26).symm.trans h
        refine x_if_ne_f (pc' := 29) dX7_two_26 (by decide) rfl c26 ?_
        refine x_iconst (pc' := 30) (w := (-1 : Int32)) dX7_two_29 rfl k_ic_m1 ?_
        exact x_iret dX7_two_30 rfl ((tb_dI_ok _ _).trans h)
theorem MX7_two {d : Nat} {x1 : Int32} {x2 : Int32} {x3 : Int32} {S : tb_St} {r : Int32 × tb_St} (h : ((tb_cI d mX7_isOfTwo [.int x1] S).bind fun q1 => (if q1.1 = 0 then some ((-1 : Int32), q1.2) else (tb_cI d mX5_has [.ref 2, .int x2] (q1.2)).bind fun q12 => (if q12.1 = 0 then some ((-1 : Int32), q12.2) else (tb_cI d mX5_has [.ref 2, .int x3] (q12.2)).bind fun q23 => (if ¬ q23.1 = 0 then (tb_cI d mX5_add [.ref 2, .int x1, .int (-5 : Int32), .int (-5 : Int32), .int x2, .int x3] (q23.2)).bind fun q42 => some (q42.1, q42.2) else some ((-1 : Int32), q23.2))))) = some r) : tb_cI (d + 1) mX7_two [.ref 1, .int x1, .int x2, .int x3] S = some r := tb_enI rfl rfl (BX7_two_0 h)
/-! X8_cap (45,) -/
theorem BX8_cap_0 {d : Nat} {x1 x2 x3 : Int32} {S : tb_St} {r : Int32 × tb_St} (h : ((tb_cI d mX8_isTerm [.ref 45, .int x1] S).bind fun q2 => (if ¬ q2.1 = 0 then (tb_cI d mX8_isBox [.int x2] (q2.2)).bind fun q11 => (if q11.1 = 0 then some ((-2 : Int32), q11.2) else (tb_cI d mX8_within [.int x3, .int (0 : Int32), .int (99 : Int32)] (q11.2)).bind fun q21 => (if q21.1 = 0 then some ((-2 : Int32), q21.2) else (tb_cI d mX8_adds [.ref 45, .int (6 : Int32), .int x3, .int x1, .int (-5 : Int32), .int x2] (q21.2)).bind fun q35 => some (q35.1, q35.2))) else some ((-1 : Int32), q2.2))) = some r) : tb_E d mX8_cap tb_dI 0 [.ref 45, .int x1, .int x2, .int x3] [] tb_S S = some r := by
  refine x_aload_n (pc' := 1) dX8_cap_0 rfl rfl ?_
  refine x_iload_n (pc' := 2) dX8_cap_1 rfl rfl ?_
  obtain ⟨q2, hq2, h⟩ := Option.bind_eq_some_iff.mp h
  refine x_virtI (pc' := 5) (o := 45) (as := [.int x1]) (rest := []) dX8_cap_2 rfl lm_8_109 rfl rfl rfl sh_45 rfl hq2 ?_
  by_cases c5 : ¬ q2.1 = 0
  · replace h := (if_pos c5).symm.trans h
    refine x_if_ne_t (pc' := 10) dX8_cap_5 (by decide) c5 ?_
    refine x_iload_n (pc' := 11) dX8_cap_10 rfl rfl ?_
    obtain ⟨q11, hq11, h⟩ := Option.bind_eq_some_iff.mp h
    refine x_statI (pc' := 14) (as := [.int x2]) (rest := []) dX8_cap_11 rfl lm_8_113 (by decide) rfl rfl rfl rfl hq11 ?_
    by_cases c14 : q11.1 = 0
    · replace h := (if_pos c14).symm.trans h
      refine x_if_eq_t (pc' := 41) dX8_cap_14 (by decide) c14 ?_
      refine x_bipush (pc' := 43) (w := (-2 : Int32)) dX8_cap_41 rfl k_bi_m2 ?_
      exact x_iret dX8_cap_43 rfl ((tb_dI_ok _ _).trans h)
    · replace h := (if_neg c14).symm.trans h
      refine x_if_eq_f (pc' := 17) dX8_cap_14 (by decide) rfl c14 ?_
      refine x_iload_n (pc' := 18) dX8_cap_17 rfl rfl ?_
      refine x_iconst (pc' := 19) (w := (0 : Int32)) dX8_cap_18 rfl k_ic_0 ?_
      refine x_bipush (pc' := 21) (w := (99 : Int32)) dX8_cap_19 rfl k_bi_99 ?_
      obtain ⟨q21, hq21, h⟩ := Option.bind_eq_some_iff.mp h
      refine x_statI (pc' := 24) (as := [.int x3, .int (0 : Int32), .int (99 : Int32)]) (rest := []) dX8_cap_21 rfl lm_8_80 (by decide) rfl rfl rfl rfl hq21 ?_
      by_cases c24 : q21.1 = 0
      · replace h := (if_pos c24).symm.trans h
        refine x_if_eq_t (pc' := 41) dX8_cap_24 (by decide) c24 ?_
        refine x_bipush (pc' := 43) (w := (-2 : Int32)) dX8_cap_41 rfl k_bi_m2 ?_
        exact x_iret dX8_cap_43 rfl ((tb_dI_ok _ _).trans h)
      · replace h := (if_neg c24).symm.trans h
        refine x_if_eq_f (pc' := 27) dX8_cap_24 (by decide) rfl c24 ?_
        refine x_aload_n (pc' := 28) dX8_cap_27 rfl rfl ?_
        refine x_bipush (pc' := 30) (w := (6 : Int32)) dX8_cap_28 rfl k_bi_6 ?_
        refine x_iload_n (pc' := 31) dX8_cap_30 rfl rfl ?_
        refine x_iload_n (pc' := 32) dX8_cap_31 rfl rfl ?_
        refine x_bipush (pc' := 34) (w := (-5 : Int32)) dX8_cap_32 rfl k_bi_m5 ?_
        refine x_iload_n (pc' := 35) dX8_cap_34 rfl rfl ?_
        obtain ⟨q35, hq35, h⟩ := Option.bind_eq_some_iff.mp h
        refine x_virtI (pc' := 38) (o := 45) (as := [.int (6 : Int32), .int x3, .int x1, .int (-5 : Int32), .int x2]) (rest := []) dX8_cap_35 rfl lm_8_105 rfl rfl rfl sh_45 rfl hq35 ?_
        refine x_goto (pc' := 43) dX8_cap_38 (by decide) ?_
        exact x_iret dX8_cap_43 rfl ((tb_dI_ok _ _).trans h)
  · replace h := (if_neg c5).symm.trans h
    refine x_if_ne_f (pc' := 8) dX8_cap_5 (by decide) rfl c5 ?_
    refine x_iconst (pc' := 9) (w := (-1 : Int32)) dX8_cap_8 rfl k_ic_m1 ?_
    exact x_iret dX8_cap_9 rfl ((tb_dI_ok _ _).trans h)
theorem MX8_cap {d : Nat} {x1 : Int32} {x2 : Int32} {x3 : Int32} {S : tb_St} {r : Int32 × tb_St} (h : ((tb_cI d mX8_isTerm [.ref 45, .int x1] S).bind fun q2 => (if ¬ q2.1 = 0 then (tb_cI d mX8_isBox [.int x2] (q2.2)).bind fun q11 => (if q11.1 = 0 then some ((-2 : Int32), q11.2) else (tb_cI d mX8_within [.int x3, .int (0 : Int32), .int (99 : Int32)] (q11.2)).bind fun q21 => (if q21.1 = 0 then some ((-2 : Int32), q21.2) else (tb_cI d mX8_adds [.ref 45, .int (6 : Int32), .int x3, .int x1, .int (-5 : Int32), .int x2] (q21.2)).bind fun q35 => some (q35.1, q35.2))) else some ((-1 : Int32), q2.2))) = some r) : tb_cI (d + 1) mX8_cap [.ref 45, .int x1, .int x2, .int x3] S = some r := tb_enI rfl rfl (BX8_cap_0 h)
/-! X7_cap (1,) -/
theorem BX7_cap_0 {d : Nat} {x1 x2 x3 : Int32} {S : tb_St} {r : Int32 × tb_St} (h : ((tb_cI d mX5_has [.ref 2, .int x1] S).bind fun q5 => (if ¬ q5.1 = 0 then (tb_cI d mX7_isBox [.int x2] (q5.2)).bind fun q14 => (if q14.1 = 0 then some ((-2 : Int32), q14.2) else (tb_cI d mX7_isFee [.int x3] (q14.2)).bind fun q21 => (if ¬ q21.1 = 0 then (tb_cI d mX5_add [.ref 2, .int (6 : Int32), .int x3, .int x2, .int x1, .int (-5 : Int32)] (q21.2)).bind fun q41 => some (q41.1, q41.2) else some ((-2 : Int32), q21.2))) else some ((-1 : Int32), q5.2))) = some r) : tb_E d mX7_cap tb_dI 0 [.ref 1, .int x1, .int x2, .int x3] [] tb_S S = some r := by
  refine x_aload_n (pc' := 1) dX7_cap_0 rfl rfl ?_
  refine x_getR (pc' := 4) dX7_cap_1 rfl lf_7_12 rfl sh_1 rfl ?_
  refine x_iload_n (pc' := 5) dX7_cap_4 rfl rfl ?_
  obtain ⟨q5, hq5, h⟩ := Option.bind_eq_some_iff.mp h
  refine x_virtI (pc' := 8) (o := 2) (as := [.int x1]) (rest := []) dX7_cap_5 rfl lm_7_80 rfl rfl rfl sh_2 rfl hq5 ?_
  by_cases c8 : ¬ q5.1 = 0
  · replace h := (if_pos c8).symm.trans h
    refine x_if_ne_t (pc' := 13) dX7_cap_8 (by decide) c8 ?_
    refine x_iload_n (pc' := 14) dX7_cap_13 rfl rfl ?_
    obtain ⟨q14, hq14, h⟩ := Option.bind_eq_some_iff.mp h
    refine x_statI (pc' := 17) (as := [.int x2]) (rest := []) dX7_cap_14 rfl lm_7_83 (by decide) rfl rfl rfl rfl hq14 ?_
    by_cases c17 : q14.1 = 0
    · replace h := (if_pos c17).symm.trans h
      refine x_if_eq_t (pc' := 27) dX7_cap_17 (by decide) c17 ?_
      refine x_bipush (pc' := 29) (w := (-2 : Int32)) dX7_cap_27 rfl k_bi_m2 ?_
      exact x_iret dX7_cap_29 rfl ((tb_dI_ok _ _).trans h)
    · replace h := (if_neg c17).symm.trans h
      refine x_if_eq_f (pc' := 20) dX7_cap_17 (by decide) rfl c17 ?_
      refine x_iload_n (pc' := 21) dX7_cap_20 rfl rfl ?_
      obtain ⟨q21, hq21, h⟩ := Option.bind_eq_some_iff.mp h
      refine x_statI (pc' := 24) (as := [.int x3]) (rest := []) dX7_cap_21 rfl lm_7_72 (by decide) rfl rfl rfl rfl hq21 ?_
      by_cases c24 : ¬ q21.1 = 0
      · replace h := (if_pos c24).symm.trans h
        refine x_if_ne_t (pc' := 30) dX7_cap_24 (by decide) c24 ?_
        refine x_aload_n (pc' := 31) dX7_cap_30 rfl rfl ?_
        refine x_getR (pc' := 34) dX7_cap_31 rfl lf_7_12 rfl sh_1 rfl ?_
        refine x_bipush (pc' := 36) (w := (6 : Int32)) dX7_cap_34 rfl k_bi_6 ?_
        refine x_iload_n (pc' := 37) dX7_cap_36 rfl rfl ?_
        refine x_iload_n (pc' := 38) dX7_cap_37 rfl rfl ?_
        refine x_iload_n (pc' := 39) dX7_cap_38 rfl rfl ?_
        refine x_bipush (pc' := 41) (w := (-5 : Int32)) dX7_cap_39 rfl k_bi_m5 ?_
        obtain ⟨q41, hq41, h⟩ := Option.bind_eq_some_iff.mp h
        refine x_virtI (pc' := 44) (o := 2) (as := [.int (6 : Int32), .int x3, .int x2, .int x1, .int (-5 : Int32)]) (rest := []) dX7_cap_41 rfl lm_7_76 rfl rfl rfl sh_2 rfl hq41 ?_
        exact x_iret dX7_cap_44 rfl ((tb_dI_ok _ _).trans h)
      · replace h := (if_neg c24).symm.trans h
        refine x_if_ne_f (pc' := 27) dX7_cap_24 (by decide) rfl c24 ?_
        refine x_bipush (pc' := 29) (w := (-2 : Int32)) dX7_cap_27 rfl k_bi_m2 ?_
        exact x_iret dX7_cap_29 rfl ((tb_dI_ok _ _).trans h)
  · replace h := (if_neg c8).symm.trans h
    refine x_if_ne_f (pc' := 11) dX7_cap_8 (by decide) rfl c8 ?_
    refine x_iconst (pc' := 12) (w := (-1 : Int32)) dX7_cap_11 rfl k_ic_m1 ?_
    exact x_iret dX7_cap_12 rfl ((tb_dI_ok _ _).trans h)
theorem MX7_cap {d : Nat} {x1 : Int32} {x2 : Int32} {x3 : Int32} {S : tb_St} {r : Int32 × tb_St} (h : ((tb_cI d mX5_has [.ref 2, .int x1] S).bind fun q5 => (if ¬ q5.1 = 0 then (tb_cI d mX7_isBox [.int x2] (q5.2)).bind fun q14 => (if q14.1 = 0 then some ((-2 : Int32), q14.2) else (tb_cI d mX7_isFee [.int x3] (q14.2)).bind fun q21 => (if ¬ q21.1 = 0 then (tb_cI d mX5_add [.ref 2, .int (6 : Int32), .int x3, .int x2, .int x1, .int (-5 : Int32)] (q21.2)).bind fun q41 => some (q41.1, q41.2) else some ((-2 : Int32), q21.2))) else some ((-1 : Int32), q5.2))) = some r) : tb_cI (d + 1) mX7_cap [.ref 1, .int x1, .int x2, .int x3] S = some r := tb_enI rfl rfl (BX7_cap_0 h)
/-! X8_when (45,) -/
theorem BX8_when_0 {d : Nat} {x1 x2 : Int32} {S : tb_St} {r : Int32 × tb_St} (h : ((tb_cI d mX8_isTerm [.ref 45, .int x1] S).bind fun q2 => (if ¬ q2.1 = 0 then (tb_cI d mX8_isBox [.int x2] (q2.2)).bind fun q11 => (if q11.1 = 0 then some ((-2 : Int32), q11.2) else (tb_cI d mX8_adds [.ref 45, .int (2 : Int32), .int (-5 : Int32), .int x1, .int (-5 : Int32), .int x2] (q11.2)).bind fun q25 => some (q25.1, q25.2)) else some ((-1 : Int32), q2.2))) = some r) : tb_E d mX8_when tb_dI 0 [.ref 45, .int x1, .int x2] [] tb_S S = some r := by
  refine x_aload_n (pc' := 1) dX8_when_0 rfl rfl ?_
  refine x_iload_n (pc' := 2) dX8_when_1 rfl rfl ?_
  obtain ⟨q2, hq2, h⟩ := Option.bind_eq_some_iff.mp h
  refine x_virtI (pc' := 5) (o := 45) (as := [.int x1]) (rest := []) dX8_when_2 rfl lm_8_109 rfl rfl rfl sh_45 rfl hq2 ?_
  by_cases c5 : ¬ q2.1 = 0
  · replace h := (if_pos c5).symm.trans h
    refine x_if_ne_t (pc' := 10) dX8_when_5 (by decide) c5 ?_
    refine x_iload_n (pc' := 11) dX8_when_10 rfl rfl ?_
    obtain ⟨q11, hq11, h⟩ := Option.bind_eq_some_iff.mp h
    refine x_statI (pc' := 14) (as := [.int x2]) (rest := []) dX8_when_11 rfl lm_8_113 (by decide) rfl rfl rfl rfl hq11 ?_
    by_cases c14 : q11.1 = 0
    · replace h := (if_pos c14).symm.trans h
      refine x_if_eq_t (pc' := 31) dX8_when_14 (by decide) c14 ?_
      refine x_bipush (pc' := 33) (w := (-2 : Int32)) dX8_when_31 rfl k_bi_m2 ?_
      exact x_iret dX8_when_33 rfl ((tb_dI_ok _ _).trans h)
    · replace h := (if_neg c14).symm.trans h
      refine x_if_eq_f (pc' := 17) dX8_when_14 (by decide) rfl c14 ?_
      refine x_aload_n (pc' := 18) dX8_when_17 rfl rfl ?_
      refine x_iconst (pc' := 19) (w := (2 : Int32)) dX8_when_18 rfl k_ic_2 ?_
      refine x_bipush (pc' := 21) (w := (-5 : Int32)) dX8_when_19 rfl k_bi_m5 ?_
      refine x_iload_n (pc' := 22) dX8_when_21 rfl rfl ?_
      refine x_bipush (pc' := 24) (w := (-5 : Int32)) dX8_when_22 rfl k_bi_m5 ?_
      refine x_iload_n (pc' := 25) dX8_when_24 rfl rfl ?_
      obtain ⟨q25, hq25, h⟩ := Option.bind_eq_some_iff.mp h
      refine x_virtI (pc' := 28) (o := 45) (as := [.int (2 : Int32), .int (-5 : Int32), .int x1, .int (-5 : Int32), .int x2]) (rest := []) dX8_when_25 rfl lm_8_105 rfl rfl rfl sh_45 rfl hq25 ?_
      refine x_goto (pc' := 33) dX8_when_28 (by decide) ?_
      exact x_iret dX8_when_33 rfl ((tb_dI_ok _ _).trans h)
  · replace h := (if_neg c5).symm.trans h
    refine x_if_ne_f (pc' := 8) dX8_when_5 (by decide) rfl c5 ?_
    refine x_iconst (pc' := 9) (w := (-1 : Int32)) dX8_when_8 rfl k_ic_m1 ?_
    exact x_iret dX8_when_9 rfl ((tb_dI_ok _ _).trans h)
theorem MX8_when {d : Nat} {x1 : Int32} {x2 : Int32} {S : tb_St} {r : Int32 × tb_St} (h : ((tb_cI d mX8_isTerm [.ref 45, .int x1] S).bind fun q2 => (if ¬ q2.1 = 0 then (tb_cI d mX8_isBox [.int x2] (q2.2)).bind fun q11 => (if q11.1 = 0 then some ((-2 : Int32), q11.2) else (tb_cI d mX8_adds [.ref 45, .int (2 : Int32), .int (-5 : Int32), .int x1, .int (-5 : Int32), .int x2] (q11.2)).bind fun q25 => some (q25.1, q25.2)) else some ((-1 : Int32), q2.2))) = some r) : tb_cI (d + 1) mX8_when [.ref 45, .int x1, .int x2] S = some r := tb_enI rfl rfl (BX8_when_0 h)
/-! X7_when (1,) -/
theorem BX7_when_0 {d : Nat} {x1 x2 : Int32} {S : tb_St} {r : Int32 × tb_St} (h : ((tb_cI d mX5_has [.ref 2, .int x1] S).bind fun q5 => (if ¬ q5.1 = 0 then (tb_cI d mX7_isBox [.int x2] (q5.2)).bind fun q14 => (if ¬ q14.1 = 0 then (tb_cI d mX5_add [.ref 2, .int (2 : Int32), .int (-5 : Int32), .int x2, .int x1, .int (-5 : Int32)] (q14.2)).bind fun q34 => some (q34.1, q34.2) else some ((-2 : Int32), q14.2)) else some ((-1 : Int32), q5.2))) = some r) : tb_E d mX7_when tb_dI 0 [.ref 1, .int x1, .int x2] [] tb_S S = some r := by
  refine x_aload_n (pc' := 1) dX7_when_0 rfl rfl ?_
  refine x_getR (pc' := 4) dX7_when_1 rfl lf_7_12 rfl sh_1 rfl ?_
  refine x_iload_n (pc' := 5) dX7_when_4 rfl rfl ?_
  obtain ⟨q5, hq5, h⟩ := Option.bind_eq_some_iff.mp h
  refine x_virtI (pc' := 8) (o := 2) (as := [.int x1]) (rest := []) dX7_when_5 rfl lm_7_80 rfl rfl rfl sh_2 rfl hq5 ?_
  by_cases c8 : ¬ q5.1 = 0
  · replace h := (if_pos c8).symm.trans h
    refine x_if_ne_t (pc' := 13) dX7_when_8 (by decide) c8 ?_
    refine x_iload_n (pc' := 14) dX7_when_13 rfl rfl ?_
    obtain ⟨q14, hq14, h⟩ := Option.bind_eq_some_iff.mp h
    refine x_statI (pc' := 17) (as := [.int x2]) (rest := []) dX7_when_14 rfl lm_7_83 (by decide) rfl rfl rfl rfl hq14 ?_
    by_cases c17 : ¬ q14.1 = 0
    · replace h := (if_pos c17).symm.trans h
      refine x_if_ne_t (pc' := 23) dX7_when_17 (by decide) c17 ?_
      refine x_aload_n (pc' := 24) dX7_when_23 rfl rfl ?_
      refine x_getR (pc' := 27) dX7_when_24 rfl lf_7_12 rfl sh_1 rfl ?_
      refine x_iconst (pc' := 28) (w := (2 : Int32)) dX7_when_27 rfl k_ic_2 ?_
      refine x_bipush (pc' := 30) (w := (-5 : Int32)) dX7_when_28 rfl k_bi_m5 ?_
      refine x_iload_n (pc' := 31) dX7_when_30 rfl rfl ?_
      refine x_iload_n (pc' := 32) dX7_when_31 rfl rfl ?_
      refine x_bipush (pc' := 34) (w := (-5 : Int32)) dX7_when_32 rfl k_bi_m5 ?_
      obtain ⟨q34, hq34, h⟩ := Option.bind_eq_some_iff.mp h
      refine x_virtI (pc' := 37) (o := 2) (as := [.int (2 : Int32), .int (-5 : Int32), .int x2, .int x1, .int (-5 : Int32)]) (rest := []) dX7_when_34 rfl lm_7_76 rfl rfl rfl sh_2 rfl hq34 ?_
      exact x_iret dX7_when_37 rfl ((tb_dI_ok _ _).trans h)
    · replace h := (if_neg c17).symm.trans h
      refine x_if_ne_f (pc' := 20) dX7_when_17 (by decide) rfl c17 ?_
      refine x_bipush (pc' := 22) (w := (-2 : Int32)) dX7_when_20 rfl k_bi_m2 ?_
      exact x_iret dX7_when_22 rfl ((tb_dI_ok _ _).trans h)
  · replace h := (if_neg c8).symm.trans h
    refine x_if_ne_f (pc' := 11) dX7_when_8 (by decide) rfl c8 ?_
    refine x_iconst (pc' := 12) (w := (-1 : Int32)) dX7_when_11 rfl k_ic_m1 ?_
    exact x_iret dX7_when_12 rfl ((tb_dI_ok _ _).trans h)
theorem MX7_when {d : Nat} {x1 : Int32} {x2 : Int32} {S : tb_St} {r : Int32 × tb_St} (h : ((tb_cI d mX5_has [.ref 2, .int x1] S).bind fun q5 => (if ¬ q5.1 = 0 then (tb_cI d mX7_isBox [.int x2] (q5.2)).bind fun q14 => (if ¬ q14.1 = 0 then (tb_cI d mX5_add [.ref 2, .int (2 : Int32), .int (-5 : Int32), .int x2, .int x1, .int (-5 : Int32)] (q14.2)).bind fun q34 => some (q34.1, q34.2) else some ((-2 : Int32), q14.2)) else some ((-1 : Int32), q5.2))) = some r) : tb_cI (d + 1) mX7_when [.ref 1, .int x1, .int x2] S = some r := tb_enI rfl rfl (BX7_when_0 h)
/-! X8_empty (45,) -/
theorem BX8_empty_0 {d : Nat} {S : tb_St} {r : Int32 × tb_St} (h : ((tb_cI d mX8_adds [.ref 45, .int (1 : Int32), .int (-5 : Int32), .int (-5 : Int32), .int (-5 : Int32), .int (-5 : Int32)] S).bind fun q10 => some (q10.1, q10.2)) = some r) : tb_E d mX8_empty tb_dI 0 [.ref 45] [] tb_S S = some r := by
  refine x_aload_n (pc' := 1) dX8_empty_0 rfl rfl ?_
  refine x_iconst (pc' := 2) (w := (1 : Int32)) dX8_empty_1 rfl k_ic_1 ?_
  refine x_bipush (pc' := 4) (w := (-5 : Int32)) dX8_empty_2 rfl k_bi_m5 ?_
  refine x_bipush (pc' := 6) (w := (-5 : Int32)) dX8_empty_4 rfl k_bi_m5 ?_
  refine x_bipush (pc' := 8) (w := (-5 : Int32)) dX8_empty_6 rfl k_bi_m5 ?_
  refine x_bipush (pc' := 10) (w := (-5 : Int32)) dX8_empty_8 rfl k_bi_m5 ?_
  obtain ⟨q10, hq10, h⟩ := Option.bind_eq_some_iff.mp h
  refine x_virtI (pc' := 13) (o := 45) (as := [.int (1 : Int32), .int (-5 : Int32), .int (-5 : Int32), .int (-5 : Int32), .int (-5 : Int32)]) (rest := []) dX8_empty_10 rfl lm_8_105 rfl rfl rfl sh_45 rfl hq10 ?_
  exact x_iret dX8_empty_13 rfl ((tb_dI_ok _ _).trans h)
theorem MX8_empty {d : Nat} {S : tb_St} {r : Int32 × tb_St} (h : ((tb_cI d mX8_adds [.ref 45, .int (1 : Int32), .int (-5 : Int32), .int (-5 : Int32), .int (-5 : Int32), .int (-5 : Int32)] S).bind fun q10 => some (q10.1, q10.2)) = some r) : tb_cI (d + 1) mX8_empty [.ref 45] S = some r := tb_enI rfl rfl (BX8_empty_0 h)
/-! X7_empty (1,) -/
theorem BX7_empty_0 {d : Nat} {S : tb_St} {r : Int32 × tb_St} (h : ((tb_cI d mX5_add [.ref 2, .int (1 : Int32), .int (-5 : Int32), .int (-5 : Int32), .int (-5 : Int32), .int (-5 : Int32)] S).bind fun q13 => some (q13.1, q13.2)) = some r) : tb_E d mX7_empty tb_dI 0 [.ref 1] [] tb_S S = some r := by
  refine x_aload_n (pc' := 1) dX7_empty_0 rfl rfl ?_
  refine x_getR (pc' := 4) dX7_empty_1 rfl lf_7_12 rfl sh_1 rfl ?_
  refine x_iconst (pc' := 5) (w := (1 : Int32)) dX7_empty_4 rfl k_ic_1 ?_
  refine x_bipush (pc' := 7) (w := (-5 : Int32)) dX7_empty_5 rfl k_bi_m5 ?_
  refine x_bipush (pc' := 9) (w := (-5 : Int32)) dX7_empty_7 rfl k_bi_m5 ?_
  refine x_bipush (pc' := 11) (w := (-5 : Int32)) dX7_empty_9 rfl k_bi_m5 ?_
  refine x_bipush (pc' := 13) (w := (-5 : Int32)) dX7_empty_11 rfl k_bi_m5 ?_
  obtain ⟨q13, hq13, h⟩ := Option.bind_eq_some_iff.mp h
  refine x_virtI (pc' := 16) (o := 2) (as := [.int (1 : Int32), .int (-5 : Int32), .int (-5 : Int32), .int (-5 : Int32), .int (-5 : Int32)]) (rest := []) dX7_empty_13 rfl lm_7_76 rfl rfl rfl sh_2 rfl hq13 ?_
  exact x_iret dX7_empty_16 rfl ((tb_dI_ok _ _).trans h)
theorem MX7_empty {d : Nat} {S : tb_St} {r : Int32 × tb_St} (h : ((tb_cI d mX5_add [.ref 2, .int (1 : Int32), .int (-5 : Int32), .int (-5 : Int32), .int (-5 : Int32), .int (-5 : Int32)] S).bind fun q13 => some (q13.1, q13.2)) = some r) : tb_cI (d + 1) mX7_empty [.ref 1] S = some r := tb_enI rfl rfl (BX7_empty_0 h)
/-! X8_flat (45,) -/
theorem BX8_flat_0 {d : Nat} {x1 : Int32} {S : tb_St} {r : Int32 × tb_St} (h : ((tb_cI d mX8_within [.int x1, .int (0 : Int32), .int (99 : Int32)] S).bind fun q4 => (if q4.1 = 0 then some ((-2 : Int32), q4.2) else (tb_cI d mX8_adds [.ref 45, .int (0 : Int32), .int x1, .int (-5 : Int32), .int (-5 : Int32), .int (-5 : Int32)] (q4.2)).bind fun q19 => some (q19.1, q19.2))) = some r) : tb_E d mX8_flat tb_dI 0 [.ref 45, .int x1] [] tb_S S = some r := by
  refine x_iload_n (pc' := 1) dX8_flat_0 rfl rfl ?_
  refine x_iconst (pc' := 2) (w := (0 : Int32)) dX8_flat_1 rfl k_ic_0 ?_
  refine x_bipush (pc' := 4) (w := (99 : Int32)) dX8_flat_2 rfl k_bi_99 ?_
  obtain ⟨q4, hq4, h⟩ := Option.bind_eq_some_iff.mp h
  refine x_statI (pc' := 7) (as := [.int x1, .int (0 : Int32), .int (99 : Int32)]) (rest := []) dX8_flat_4 rfl lm_8_80 (by decide) rfl rfl rfl rfl hq4 ?_
  by_cases c7 : q4.1 = 0
  · replace h := (if_pos c7).symm.trans h
    refine x_if_eq_t (pc' := 25) dX8_flat_7 (by decide) c7 ?_
    refine x_bipush (pc' := 27) (w := (-2 : Int32)) dX8_flat_25 rfl k_bi_m2 ?_
    exact x_iret dX8_flat_27 rfl ((tb_dI_ok _ _).trans h)
  · replace h := (if_neg c7).symm.trans h
    refine x_if_eq_f (pc' := 10) dX8_flat_7 (by decide) rfl c7 ?_
    refine x_aload_n (pc' := 11) dX8_flat_10 rfl rfl ?_
    refine x_iconst (pc' := 12) (w := (0 : Int32)) dX8_flat_11 rfl k_ic_0 ?_
    refine x_iload_n (pc' := 13) dX8_flat_12 rfl rfl ?_
    refine x_bipush (pc' := 15) (w := (-5 : Int32)) dX8_flat_13 rfl k_bi_m5 ?_
    refine x_bipush (pc' := 17) (w := (-5 : Int32)) dX8_flat_15 rfl k_bi_m5 ?_
    refine x_bipush (pc' := 19) (w := (-5 : Int32)) dX8_flat_17 rfl k_bi_m5 ?_
    obtain ⟨q19, hq19, h⟩ := Option.bind_eq_some_iff.mp h
    refine x_virtI (pc' := 22) (o := 45) (as := [.int (0 : Int32), .int x1, .int (-5 : Int32), .int (-5 : Int32), .int (-5 : Int32)]) (rest := []) dX8_flat_19 rfl lm_8_105 rfl rfl rfl sh_45 rfl hq19 ?_
    refine x_goto (pc' := 27) dX8_flat_22 (by decide) ?_
    exact x_iret dX8_flat_27 rfl ((tb_dI_ok _ _).trans h)
theorem MX8_flat {d : Nat} {x1 : Int32} {S : tb_St} {r : Int32 × tb_St} (h : ((tb_cI d mX8_within [.int x1, .int (0 : Int32), .int (99 : Int32)] S).bind fun q4 => (if q4.1 = 0 then some ((-2 : Int32), q4.2) else (tb_cI d mX8_adds [.ref 45, .int (0 : Int32), .int x1, .int (-5 : Int32), .int (-5 : Int32), .int (-5 : Int32)] (q4.2)).bind fun q19 => some (q19.1, q19.2))) = some r) : tb_cI (d + 1) mX8_flat [.ref 45, .int x1] S = some r := tb_enI rfl rfl (BX8_flat_0 h)
/-! X7_flat (1,) -/
theorem BX7_flat_0 {d : Nat} {x1 : Int32} {S : tb_St} {r : Int32 × tb_St} (h : ((tb_cI d mX7_isFee [.int x1] S).bind fun q1 => (if ¬ q1.1 = 0 then (tb_cI d mX5_add [.ref 2, .int (0 : Int32), .int x1, .int (-5 : Int32), .int (-5 : Int32), .int (-5 : Int32)] (q1.2)).bind fun q22 => some (q22.1, q22.2) else some ((-2 : Int32), q1.2))) = some r) : tb_E d mX7_flat tb_dI 0 [.ref 1, .int x1] [] tb_S S = some r := by
  refine x_iload_n (pc' := 1) dX7_flat_0 rfl rfl ?_
  obtain ⟨q1, hq1, h⟩ := Option.bind_eq_some_iff.mp h
  refine x_statI (pc' := 4) (as := [.int x1]) (rest := []) dX7_flat_1 rfl lm_7_72 (by decide) rfl rfl rfl rfl hq1 ?_
  by_cases c4 : ¬ q1.1 = 0
  · replace h := (if_pos c4).symm.trans h
    refine x_if_ne_t (pc' := 10) dX7_flat_4 (by decide) c4 ?_
    refine x_aload_n (pc' := 11) dX7_flat_10 rfl rfl ?_
    refine x_getR (pc' := 14) dX7_flat_11 rfl lf_7_12 rfl sh_1 rfl ?_
    refine x_iconst (pc' := 15) (w := (0 : Int32)) dX7_flat_14 rfl k_ic_0 ?_
    refine x_iload_n (pc' := 16) dX7_flat_15 rfl rfl ?_
    refine x_bipush (pc' := 18) (w := (-5 : Int32)) dX7_flat_16 rfl k_bi_m5 ?_
    refine x_bipush (pc' := 20) (w := (-5 : Int32)) dX7_flat_18 rfl k_bi_m5 ?_
    refine x_bipush (pc' := 22) (w := (-5 : Int32)) dX7_flat_20 rfl k_bi_m5 ?_
    obtain ⟨q22, hq22, h⟩ := Option.bind_eq_some_iff.mp h
    refine x_virtI (pc' := 25) (o := 2) (as := [.int (0 : Int32), .int x1, .int (-5 : Int32), .int (-5 : Int32), .int (-5 : Int32)]) (rest := []) dX7_flat_22 rfl lm_7_76 rfl rfl rfl sh_2 rfl hq22 ?_
    exact x_iret dX7_flat_25 rfl ((tb_dI_ok _ _).trans h)
  · replace h := (if_neg c4).symm.trans h
    refine x_if_ne_f (pc' := 7) dX7_flat_4 (by decide) rfl c4 ?_
    refine x_bipush (pc' := 9) (w := (-2 : Int32)) dX7_flat_7 rfl k_bi_m2 ?_
    exact x_iret dX7_flat_9 rfl ((tb_dI_ok _ _).trans h)
theorem MX7_flat {d : Nat} {x1 : Int32} {S : tb_St} {r : Int32 × tb_St} (h : ((tb_cI d mX7_isFee [.int x1] S).bind fun q1 => (if ¬ q1.1 = 0 then (tb_cI d mX5_add [.ref 2, .int (0 : Int32), .int x1, .int (-5 : Int32), .int (-5 : Int32), .int (-5 : Int32)] (q1.2)).bind fun q22 => some (q22.1, q22.2) else some ((-2 : Int32), q1.2))) = some r) : tb_cI (d + 1) mX7_flat [.ref 1, .int x1] S = some r := tb_enI rfl rfl (BX7_flat_0 h)
/-! L_law () -/
theorem BL_law_18 {d : Nat} {x3 : Int32} {S : tb_St} {r : Int32 × tb_St} (h : ((if Int32.ofNat (S 0 2560).toNatClampNeg = S 0 2560 then (if (S 0 2560) - (5 : Int32) < x3 then some ((1 : Int32), S) else (tb_ix x3 (S 0 2560).toNatClampNeg).bind fun j28 => (if (S 0 j28) &&& (63 : Int32) = (0 : Int32) then tb_E d mL_law tb_dI 188 [.ref 0, .ref 1, .ref 45, .int x3] [] tb_S S else (if (S 0 j28) &&& (63 : Int32) = (1 : Int32) then tb_E d mL_law tb_dI 211 [.ref 0, .ref 1, .ref 45, .int x3] [] tb_S S else (if (S 0 j28) &&& (63 : Int32) = (2 : Int32) then tb_E d mL_law tb_dI 224 [.ref 0, .ref 1, .ref 45, .int x3] [] tb_S S else (if (S 0 j28) &&& (63 : Int32) = (3 : Int32) then tb_E d mL_law tb_dI 257 [.ref 0, .ref 1, .ref 45, .int x3] [] tb_S S else (if (S 0 j28) &&& (63 : Int32) = (4 : Int32) then tb_E d mL_law tb_dI 300 [.ref 0, .ref 1, .ref 45, .int x3] [] tb_S S else (if (S 0 j28) &&& (63 : Int32) = (5 : Int32) then tb_E d mL_law tb_dI 343 [.ref 0, .ref 1, .ref 45, .int x3] [] tb_S S else (if (S 0 j28) &&& (63 : Int32) = (6 : Int32) then tb_E d mL_law tb_dI 356 [.ref 0, .ref 1, .ref 45, .int x3] [] tb_S S else (if (S 0 j28) &&& (63 : Int32) = (7 : Int32) then tb_E d mL_law tb_dI 379 [.ref 0, .ref 1, .ref 45, .int x3] [] tb_S S else (if (S 0 j28) &&& (63 : Int32) = (8 : Int32) then tb_E d mL_law tb_dI 392 [.ref 0, .ref 1, .ref 45, .int x3] [] tb_S S else (if (S 0 j28) &&& (63 : Int32) = (9 : Int32) then tb_E d mL_law tb_dI 405 [.ref 0, .ref 1, .ref 45, .int x3] [] tb_S S else (if (S 0 j28) &&& (63 : Int32) = (10 : Int32) then tb_E d mL_law tb_dI 428 [.ref 0, .ref 1, .ref 45, .int x3] [] tb_S S else (if (S 0 j28) &&& (63 : Int32) = (11 : Int32) then tb_E d mL_law tb_dI 461 [.ref 0, .ref 1, .ref 45, .int x3] [] tb_S S else (if (S 0 j28) &&& (63 : Int32) = (12 : Int32) then tb_E d mL_law tb_dI 494 [.ref 0, .ref 1, .ref 45, .int x3] [] tb_S S else (if (S 0 j28) &&& (63 : Int32) = (13 : Int32) then tb_E d mL_law tb_dI 517 [.ref 0, .ref 1, .ref 45, .int x3] [] tb_S S else (if (S 0 j28) &&& (63 : Int32) = (14 : Int32) then tb_E d mL_law tb_dI 540 [.ref 0, .ref 1, .ref 45, .int x3] [] tb_S S else (if (S 0 j28) &&& (63 : Int32) = (15 : Int32) then tb_E d mL_law tb_dI 573 [.ref 0, .ref 1, .ref 45, .int x3] [] tb_S S else (if (S 0 j28) &&& (63 : Int32) = (16 : Int32) then tb_E d mL_law tb_dI 606 [.ref 0, .ref 1, .ref 45, .int x3] [] tb_S S else (if (S 0 j28) &&& (63 : Int32) = (17 : Int32) then tb_E d mL_law tb_dI 640 [.ref 0, .ref 1, .ref 45, .int x3] [] tb_S S else (if (S 0 j28) &&& (63 : Int32) = (18 : Int32) then tb_E d mL_law tb_dI 683 [.ref 0, .ref 1, .ref 45, .int x3] [] tb_S S else (if (S 0 j28) &&& (63 : Int32) = (19 : Int32) then tb_E d mL_law tb_dI 726 [.ref 0, .ref 1, .ref 45, .int x3] [] tb_S S else (if (S 0 j28) &&& (63 : Int32) = (20 : Int32) then tb_E d mL_law tb_dI 779 [.ref 0, .ref 1, .ref 45, .int x3] [] tb_S S else (if (S 0 j28) &&& (63 : Int32) = (21 : Int32) then tb_E d mL_law tb_dI 812 [.ref 0, .ref 1, .ref 45, .int x3] [] tb_S S else (if (S 0 j28) &&& (63 : Int32) = (22 : Int32) then tb_E d mL_law tb_dI 845 [.ref 0, .ref 1, .ref 45, .int x3] [] tb_S S else (if (S 0 j28) &&& (63 : Int32) = (23 : Int32) then tb_E d mL_law tb_dI 878 [.ref 0, .ref 1, .ref 45, .int x3] [] tb_S S else (if (S 0 j28) &&& (63 : Int32) = (24 : Int32) then tb_E d mL_law tb_dI 931 [.ref 0, .ref 1, .ref 45, .int x3] [] tb_S S else (if (S 0 j28) &&& (63 : Int32) = (25 : Int32) then tb_E d mL_law tb_dI 964 [.ref 0, .ref 1, .ref 45, .int x3] [] tb_S S else (if (S 0 j28) &&& (63 : Int32) = (26 : Int32) then tb_E d mL_law tb_dI 1007 [.ref 0, .ref 1, .ref 45, .int x3] [] tb_S S else (if (S 0 j28) &&& (63 : Int32) = (27 : Int32) then tb_E d mL_law tb_dI 1060 [.ref 0, .ref 1, .ref 45, .int x3] [] tb_S S else (if (S 0 j28) &&& (63 : Int32) = (28 : Int32) then tb_E d mL_law tb_dI 1093 [.ref 0, .ref 1, .ref 45, .int x3] [] tb_S S else (if (S 0 j28) &&& (63 : Int32) = (29 : Int32) then tb_E d mL_law tb_dI 1136 [.ref 0, .ref 1, .ref 45, .int x3] [] tb_S S else (if (S 0 j28) &&& (63 : Int32) = (30 : Int32) then tb_E d mL_law tb_dI 1170 [.ref 0, .ref 1, .ref 45, .int x3] [] tb_S S else (if (S 0 j28) &&& (63 : Int32) = (31 : Int32) then tb_E d mL_law tb_dI 1213 [.ref 0, .ref 1, .ref 45, .int x3] [] tb_S S else (if (S 0 j28) &&& (63 : Int32) = (32 : Int32) then tb_E d mL_law tb_dI 1246 [.ref 0, .ref 1, .ref 45, .int x3] [] tb_S S else (if (S 0 j28) &&& (63 : Int32) = (33 : Int32) then tb_E d mL_law tb_dI 1259 [.ref 0, .ref 1, .ref 45, .int x3] [] tb_S S else (if (S 0 j28) &&& (63 : Int32) = (34 : Int32) then tb_E d mL_law tb_dI 1272 [.ref 0, .ref 1, .ref 45, .int x3] [] tb_S S else tb_E d mL_law tb_dI 1295 [.ref 0, .ref 1, .ref 45, .int x3] [] tb_S S)))))))))))))))))))))))))))))))))))) else none)) = some r) : tb_E d mL_law tb_dI 18 [.ref 0, .ref 1, .ref 45, .int x3] [] tb_S S = some r := by
  refine x_iload_n (pc' := 19) dL_law_18 rfl rfl ?_
  refine x_aload_n (pc' := 20) dL_law_19 rfl rfl ?_
  by_cases c20 : Int32.ofNat (S 0 2560).toNatClampNeg = S 0 2560
  · replace h := (if_pos c20).symm.trans h
    refine x_arraylength (pc' := 21) dL_law_20 rfl sh_0 c20 ?_
    refine x_iconst (pc' := 22) (w := (5 : Int32)) dL_law_21 rfl k_ic_5 ?_
    refine x_isub (pc' := 23) dL_law_22 rfl ?_
    by_cases c23 : (S 0 2560) - (5 : Int32) < x3
    · replace h := (if_pos c23).symm.trans h
      refine x_icmp_gt_t (pc' := 1301) dL_law_23 (by decide) c23 ?_
      refine x_iconst (pc' := 1302) (w := (1 : Int32)) dL_law_1301 rfl k_ic_1 ?_
      exact x_zret dL_law_1302 rfl (Or.inr rfl) ((tb_dI_ok _ _).trans h)
    · replace h := (if_neg c23).symm.trans h
      refine x_icmp_gt_f (pc' := 26) dL_law_23 (by decide) rfl c23 ?_
      refine x_aload_n (pc' := 27) dL_law_26 rfl rfl ?_
      refine x_iload_n (pc' := 28) dL_law_27 rfl rfl ?_
      obtain ⟨j28, hj28, h⟩ := Option.bind_eq_some_iff.mp h
      refine x_iaload54 (pc' := 29) (v := S 0 j28) dL_law_28 rfl sh_0 hj28 rfl ?_
      refine x_bipush (pc' := 31) (w := (63 : Int32)) dL_law_29 rfl k_bi_63 ?_
      refine x_iand (pc' := 32) dL_law_31 rfl ?_
      by_cases c32_0 : (S 0 j28) &&& (63 : Int32) = (0 : Int32)
      · replace h := (if_pos c32_0).symm.trans h
        refine x_tsw_in (pc' := 188) (w := (0 : Int32)) (off := 156) dL_law_32 c32_0 (by decide) (by decide) (by decide) (by decide) ?_
        exact h
      · replace h := (if_neg c32_0).symm.trans h
        by_cases c32_1 : (S 0 j28) &&& (63 : Int32) = (1 : Int32)
        · replace h := (if_pos c32_1).symm.trans h
          refine x_tsw_in (pc' := 211) (w := (1 : Int32)) (off := 179) dL_law_32 c32_1 (by decide) (by decide) (by decide) (by decide) ?_
          exact h
        · replace h := (if_neg c32_1).symm.trans h
          by_cases c32_2 : (S 0 j28) &&& (63 : Int32) = (2 : Int32)
          · replace h := (if_pos c32_2).symm.trans h
            refine x_tsw_in (pc' := 224) (w := (2 : Int32)) (off := 192) dL_law_32 c32_2 (by decide) (by decide) (by decide) (by decide) ?_
            exact h
          · replace h := (if_neg c32_2).symm.trans h
            by_cases c32_3 : (S 0 j28) &&& (63 : Int32) = (3 : Int32)
            · replace h := (if_pos c32_3).symm.trans h
              refine x_tsw_in (pc' := 257) (w := (3 : Int32)) (off := 225) dL_law_32 c32_3 (by decide) (by decide) (by decide) (by decide) ?_
              exact h
            · replace h := (if_neg c32_3).symm.trans h
              by_cases c32_4 : (S 0 j28) &&& (63 : Int32) = (4 : Int32)
              · replace h := (if_pos c32_4).symm.trans h
                refine x_tsw_in (pc' := 300) (w := (4 : Int32)) (off := 268) dL_law_32 c32_4 (by decide) (by decide) (by decide) (by decide) ?_
                exact h
              · replace h := (if_neg c32_4).symm.trans h
                by_cases c32_5 : (S 0 j28) &&& (63 : Int32) = (5 : Int32)
                · replace h := (if_pos c32_5).symm.trans h
                  refine x_tsw_in (pc' := 343) (w := (5 : Int32)) (off := 311) dL_law_32 c32_5 (by decide) (by decide) (by decide) (by decide) ?_
                  exact h
                · replace h := (if_neg c32_5).symm.trans h
                  by_cases c32_6 : (S 0 j28) &&& (63 : Int32) = (6 : Int32)
                  · replace h := (if_pos c32_6).symm.trans h
                    refine x_tsw_in (pc' := 356) (w := (6 : Int32)) (off := 324) dL_law_32 c32_6 (by decide) (by decide) (by decide) (by decide) ?_
                    exact h
                  · replace h := (if_neg c32_6).symm.trans h
                    by_cases c32_7 : (S 0 j28) &&& (63 : Int32) = (7 : Int32)
                    · replace h := (if_pos c32_7).symm.trans h
                      refine x_tsw_in (pc' := 379) (w := (7 : Int32)) (off := 347) dL_law_32 c32_7 (by decide) (by decide) (by decide) (by decide) ?_
                      exact h
                    · replace h := (if_neg c32_7).symm.trans h
                      by_cases c32_8 : (S 0 j28) &&& (63 : Int32) = (8 : Int32)
                      · replace h := (if_pos c32_8).symm.trans h
                        refine x_tsw_in (pc' := 392) (w := (8 : Int32)) (off := 360) dL_law_32 c32_8 (by decide) (by decide) (by decide) (by decide) ?_
                        exact h
                      · replace h := (if_neg c32_8).symm.trans h
                        by_cases c32_9 : (S 0 j28) &&& (63 : Int32) = (9 : Int32)
                        · replace h := (if_pos c32_9).symm.trans h
                          refine x_tsw_in (pc' := 405) (w := (9 : Int32)) (off := 373) dL_law_32 c32_9 (by decide) (by decide) (by decide) (by decide) ?_
                          exact h
                        · replace h := (if_neg c32_9).symm.trans h
                          by_cases c32_10 : (S 0 j28) &&& (63 : Int32) = (10 : Int32)
                          · replace h := (if_pos c32_10).symm.trans h
                            refine x_tsw_in (pc' := 428) (w := (10 : Int32)) (off := 396) dL_law_32 c32_10 (by decide) (by decide) (by decide) (by decide) ?_
                            exact h
                          · replace h := (if_neg c32_10).symm.trans h
                            by_cases c32_11 : (S 0 j28) &&& (63 : Int32) = (11 : Int32)
                            · replace h := (if_pos c32_11).symm.trans h
                              refine x_tsw_in (pc' := 461) (w := (11 : Int32)) (off := 429) dL_law_32 c32_11 (by decide) (by decide) (by decide) (by decide) ?_
                              exact h
                            · replace h := (if_neg c32_11).symm.trans h
                              by_cases c32_12 : (S 0 j28) &&& (63 : Int32) = (12 : Int32)
                              · replace h := (if_pos c32_12).symm.trans h
                                refine x_tsw_in (pc' := 494) (w := (12 : Int32)) (off := 462) dL_law_32 c32_12 (by decide) (by decide) (by decide) (by decide) ?_
                                exact h
                              · replace h := (if_neg c32_12).symm.trans h
                                by_cases c32_13 : (S 0 j28) &&& (63 : Int32) = (13 : Int32)
                                · replace h := (if_pos c32_13).symm.trans h
                                  refine x_tsw_in (pc' := 517) (w := (13 : Int32)) (off := 485) dL_law_32 c32_13 (by decide) (by decide) (by decide) (by decide) ?_
                                  exact h
                                · replace h := (if_neg c32_13).symm.trans h
                                  by_cases c32_14 : (S 0 j28) &&& (63 : Int32) = (14 : Int32)
                                  · replace h := (if_pos c32_14).symm.trans h
                                    refine x_tsw_in (pc' := 540) (w := (14 : Int32)) (off := 508) dL_law_32 c32_14 (by decide) (by decide) (by decide) (by decide) ?_
                                    exact h
                                  · replace h := (if_neg c32_14).symm.trans h
                                    by_cases c32_15 : (S 0 j28) &&& (63 : Int32) = (15 : Int32)
                                    · replace h := (if_pos c32_15).symm.trans h
                                      refine x_tsw_in (pc' := 573) (w := (15 : Int32)) (off := 541) dL_law_32 c32_15 (by decide) (by decide) (by decide) (by decide) ?_
                                      exact h
                                    · replace h := (if_neg c32_15).symm.trans h
                                      by_cases c32_16 : (S 0 j28) &&& (63 : Int32) = (16 : Int32)
                                      · replace h := (if_pos c32_16).symm.trans h
                                        refine x_tsw_in (pc' := 606) (w := (16 : Int32)) (off := 574) dL_law_32 c32_16 (by decide) (by decide) (by decide) (by decide) ?_
                                        exact h
                                      · replace h := (if_neg c32_16).symm.trans h
                                        by_cases c32_17 : (S 0 j28) &&& (63 : Int32) = (17 : Int32)
                                        · replace h := (if_pos c32_17).symm.trans h
                                          refine x_tsw_in (pc' := 640) (w := (17 : Int32)) (off := 608) dL_law_32 c32_17 (by decide) (by decide) (by decide) (by decide) ?_
                                          exact h
                                        · replace h := (if_neg c32_17).symm.trans h
                                          by_cases c32_18 : (S 0 j28) &&& (63 : Int32) = (18 : Int32)
                                          · replace h := (if_pos c32_18).symm.trans h
                                            refine x_tsw_in (pc' := 683) (w := (18 : Int32)) (off := 651) dL_law_32 c32_18 (by decide) (by decide) (by decide) (by decide) ?_
                                            exact h
                                          · replace h := (if_neg c32_18).symm.trans h
                                            by_cases c32_19 : (S 0 j28) &&& (63 : Int32) = (19 : Int32)
                                            · replace h := (if_pos c32_19).symm.trans h
                                              refine x_tsw_in (pc' := 726) (w := (19 : Int32)) (off := 694) dL_law_32 c32_19 (by decide) (by decide) (by decide) (by decide) ?_
                                              exact h
                                            · replace h := (if_neg c32_19).symm.trans h
                                              by_cases c32_20 : (S 0 j28) &&& (63 : Int32) = (20 : Int32)
                                              · replace h := (if_pos c32_20).symm.trans h
                                                refine x_tsw_in (pc' := 779) (w := (20 : Int32)) (off := 747) dL_law_32 c32_20 (by decide) (by decide) (by decide) (by decide) ?_
                                                exact h
                                              · replace h := (if_neg c32_20).symm.trans h
                                                by_cases c32_21 : (S 0 j28) &&& (63 : Int32) = (21 : Int32)
                                                · replace h := (if_pos c32_21).symm.trans h
                                                  refine x_tsw_in (pc' := 812) (w := (21 : Int32)) (off := 780) dL_law_32 c32_21 (by decide) (by decide) (by decide) (by decide) ?_
                                                  exact h
                                                · replace h := (if_neg c32_21).symm.trans h
                                                  by_cases c32_22 : (S 0 j28) &&& (63 : Int32) = (22 : Int32)
                                                  · replace h := (if_pos c32_22).symm.trans h
                                                    refine x_tsw_in (pc' := 845) (w := (22 : Int32)) (off := 813) dL_law_32 c32_22 (by decide) (by decide) (by decide) (by decide) ?_
                                                    exact h
                                                  · replace h := (if_neg c32_22).symm.trans h
                                                    by_cases c32_23 : (S 0 j28) &&& (63 : Int32) = (23 : Int32)
                                                    · replace h := (if_pos c32_23).symm.trans h
                                                      refine x_tsw_in (pc' := 878) (w := (23 : Int32)) (off := 846) dL_law_32 c32_23 (by decide) (by decide) (by decide) (by decide) ?_
                                                      exact h
                                                    · replace h := (if_neg c32_23).symm.trans h
                                                      by_cases c32_24 : (S 0 j28) &&& (63 : Int32) = (24 : Int32)
                                                      · replace h := (if_pos c32_24).symm.trans h
                                                        refine x_tsw_in (pc' := 931) (w := (24 : Int32)) (off := 899) dL_law_32 c32_24 (by decide) (by decide) (by decide) (by decide) ?_
                                                        exact h
                                                      · replace h := (if_neg c32_24).symm.trans h
                                                        by_cases c32_25 : (S 0 j28) &&& (63 : Int32) = (25 : Int32)
                                                        · replace h := (if_pos c32_25).symm.trans h
                                                          refine x_tsw_in (pc' := 964) (w := (25 : Int32)) (off := 932) dL_law_32 c32_25 (by decide) (by decide) (by decide) (by decide) ?_
                                                          exact h
                                                        · replace h := (if_neg c32_25).symm.trans h
                                                          by_cases c32_26 : (S 0 j28) &&& (63 : Int32) = (26 : Int32)
                                                          · replace h := (if_pos c32_26).symm.trans h
                                                            refine x_tsw_in (pc' := 1007) (w := (26 : Int32)) (off := 975) dL_law_32 c32_26 (by decide) (by decide) (by decide) (by decide) ?_
                                                            exact h
                                                          · replace h := (if_neg c32_26).symm.trans h
                                                            by_cases c32_27 : (S 0 j28) &&& (63 : Int32) = (27 : Int32)
                                                            · replace h := (if_pos c32_27).symm.trans h
                                                              refine x_tsw_in (pc' := 1060) (w := (27 : Int32)) (off := 1028) dL_law_32 c32_27 (by decide) (by decide) (by decide) (by decide) ?_
                                                              exact h
                                                            · replace h := (if_neg c32_27).symm.trans h
                                                              by_cases c32_28 : (S 0 j28) &&& (63 : Int32) = (28 : Int32)
                                                              · replace h := (if_pos c32_28).symm.trans h
                                                                refine x_tsw_in (pc' := 1093) (w := (28 : Int32)) (off := 1061) dL_law_32 c32_28 (by decide) (by decide) (by decide) (by decide) ?_
                                                                exact h
                                                              · replace h := (if_neg c32_28).symm.trans h
                                                                by_cases c32_29 : (S 0 j28) &&& (63 : Int32) = (29 : Int32)
                                                                · replace h := (if_pos c32_29).symm.trans h
                                                                  refine x_tsw_in (pc' := 1136) (w := (29 : Int32)) (off := 1104) dL_law_32 c32_29 (by decide) (by decide) (by decide) (by decide) ?_
                                                                  exact h
                                                                · replace h := (if_neg c32_29).symm.trans h
                                                                  by_cases c32_30 : (S 0 j28) &&& (63 : Int32) = (30 : Int32)
                                                                  · replace h := (if_pos c32_30).symm.trans h
                                                                    refine x_tsw_in (pc' := 1170) (w := (30 : Int32)) (off := 1138) dL_law_32 c32_30 (by decide) (by decide) (by decide) (by decide) ?_
                                                                    exact h
                                                                  · replace h := (if_neg c32_30).symm.trans h
                                                                    by_cases c32_31 : (S 0 j28) &&& (63 : Int32) = (31 : Int32)
                                                                    · replace h := (if_pos c32_31).symm.trans h
                                                                      refine x_tsw_in (pc' := 1213) (w := (31 : Int32)) (off := 1181) dL_law_32 c32_31 (by decide) (by decide) (by decide) (by decide) ?_
                                                                      exact h
                                                                    · replace h := (if_neg c32_31).symm.trans h
                                                                      by_cases c32_32 : (S 0 j28) &&& (63 : Int32) = (32 : Int32)
                                                                      · replace h := (if_pos c32_32).symm.trans h
                                                                        refine x_tsw_in (pc' := 1246) (w := (32 : Int32)) (off := 1214) dL_law_32 c32_32 (by decide) (by decide) (by decide) (by decide) ?_
                                                                        exact h
                                                                      · replace h := (if_neg c32_32).symm.trans h
                                                                        by_cases c32_33 : (S 0 j28) &&& (63 : Int32) = (33 : Int32)
                                                                        · replace h := (if_pos c32_33).symm.trans h
                                                                          refine x_tsw_in (pc' := 1259) (w := (33 : Int32)) (off := 1227) dL_law_32 c32_33 (by decide) (by decide) (by decide) (by decide) ?_
                                                                          exact h
                                                                        · replace h := (if_neg c32_33).symm.trans h
                                                                          by_cases c32_34 : (S 0 j28) &&& (63 : Int32) = (34 : Int32)
                                                                          · replace h := (if_pos c32_34).symm.trans h
                                                                            refine x_tsw_in (pc' := 1272) (w := (34 : Int32)) (off := 1240) dL_law_32 c32_34 (by decide) (by decide) (by decide) (by decide) ?_
                                                                            exact h
                                                                          · replace h := (if_neg c32_34).symm.trans h
                                                                            refine x_tsw_out (pc' := 1295) dL_law_32 (fun k0 g1 g2 g3 => ?_) (by decide) ?_
                                                                            · obtain rfl | rfl | rfl | rfl | rfl | rfl | rfl | rfl | rfl | rfl | rfl | rfl | rfl | rfl | rfl | rfl | rfl | rfl | rfl | rfl | rfl | rfl | rfl | rfl | rfl | rfl | rfl | rfl | rfl | rfl | rfl | rfl | rfl | rfl | rfl : k0 = 0 ∨ k0 = 1 ∨ k0 = 2 ∨ k0 = 3 ∨ k0 = 4 ∨ k0 = 5 ∨ k0 = 6 ∨ k0 = 7 ∨ k0 = 8 ∨ k0 = 9 ∨ k0 = 10 ∨ k0 = 11 ∨ k0 = 12 ∨ k0 = 13 ∨ k0 = 14 ∨ k0 = 15 ∨ k0 = 16 ∨ k0 = 17 ∨ k0 = 18 ∨ k0 = 19 ∨ k0 = 20 ∨ k0 = 21 ∨ k0 = 22 ∨ k0 = 23 ∨ k0 = 24 ∨ k0 = 25 ∨ k0 = 26 ∨ k0 = 27 ∨ k0 = 28 ∨ k0 = 29 ∨ k0 = 30 ∨ k0 = 31 ∨ k0 = 32 ∨ k0 = 33 ∨ k0 = 34 := by omega
                                                                              · exact absurd (Int32.toInt_inj.mp (g3.trans (by decide +kernel : (0 : Int) = (0 : Int32).toInt))) c32_0
                                                                              · exact absurd (Int32.toInt_inj.mp (g3.trans (by decide +kernel : (1 : Int) = (1 : Int32).toInt))) c32_1
                                                                              · exact absurd (Int32.toInt_inj.mp (g3.trans (by decide +kernel : (2 : Int) = (2 : Int32).toInt))) c32_2
                                                                              · exact absurd (Int32.toInt_inj.mp (g3.trans (by decide +kernel : (3 : Int) = (3 : Int32).toInt))) c32_3
                                                                              · exact absurd (Int32.toInt_inj.mp (g3.trans (by decide +kernel : (4 : Int) = (4 : Int32).toInt))) c32_4
                                                                              · exact absurd (Int32.toInt_inj.mp (g3.trans (by decide +kernel : (5 : Int) = (5 : Int32).toInt))) c32_5
                                                                              · exact absurd (Int32.toInt_inj.mp (g3.trans (by decide +kernel : (6 : Int) = (6 : Int32).toInt))) c32_6
                                                                              · exact absurd (Int32.toInt_inj.mp (g3.trans (by decide +kernel : (7 : Int) = (7 : Int32).toInt))) c32_7
                                                                              · exact absurd (Int32.toInt_inj.mp (g3.trans (by decide +kernel : (8 : Int) = (8 : Int32).toInt))) c32_8
                                                                              · exact absurd (Int32.toInt_inj.mp (g3.trans (by decide +kernel : (9 : Int) = (9 : Int32).toInt))) c32_9
                                                                              · exact absurd (Int32.toInt_inj.mp (g3.trans (by decide +kernel : (10 : Int) = (10 : Int32).toInt))) c32_10
                                                                              · exact absurd (Int32.toInt_inj.mp (g3.trans (by decide +kernel : (11 : Int) = (11 : Int32).toInt))) c32_11
                                                                              · exact absurd (Int32.toInt_inj.mp (g3.trans (by decide +kernel : (12 : Int) = (12 : Int32).toInt))) c32_12
                                                                              · exact absurd (Int32.toInt_inj.mp (g3.trans (by decide +kernel : (13 : Int) = (13 : Int32).toInt))) c32_13
                                                                              · exact absurd (Int32.toInt_inj.mp (g3.trans (by decide +kernel : (14 : Int) = (14 : Int32).toInt))) c32_14
                                                                              · exact absurd (Int32.toInt_inj.mp (g3.trans (by decide +kernel : (15 : Int) = (15 : Int32).toInt))) c32_15
                                                                              · exact absurd (Int32.toInt_inj.mp (g3.trans (by decide +kernel : (16 : Int) = (16 : Int32).toInt))) c32_16
                                                                              · exact absurd (Int32.toInt_inj.mp (g3.trans (by decide +kernel : (17 : Int) = (17 : Int32).toInt))) c32_17
                                                                              · exact absurd (Int32.toInt_inj.mp (g3.trans (by decide +kernel : (18 : Int) = (18 : Int32).toInt))) c32_18
                                                                              · exact absurd (Int32.toInt_inj.mp (g3.trans (by decide +kernel : (19 : Int) = (19 : Int32).toInt))) c32_19
                                                                              · exact absurd (Int32.toInt_inj.mp (g3.trans (by decide +kernel : (20 : Int) = (20 : Int32).toInt))) c32_20
                                                                              · exact absurd (Int32.toInt_inj.mp (g3.trans (by decide +kernel : (21 : Int) = (21 : Int32).toInt))) c32_21
                                                                              · exact absurd (Int32.toInt_inj.mp (g3.trans (by decide +kernel : (22 : Int) = (22 : Int32).toInt))) c32_22
                                                                              · exact absurd (Int32.toInt_inj.mp (g3.trans (by decide +kernel : (23 : Int) = (23 : Int32).toInt))) c32_23
                                                                              · exact absurd (Int32.toInt_inj.mp (g3.trans (by decide +kernel : (24 : Int) = (24 : Int32).toInt))) c32_24
                                                                              · exact absurd (Int32.toInt_inj.mp (g3.trans (by decide +kernel : (25 : Int) = (25 : Int32).toInt))) c32_25
                                                                              · exact absurd (Int32.toInt_inj.mp (g3.trans (by decide +kernel : (26 : Int) = (26 : Int32).toInt))) c32_26
                                                                              · exact absurd (Int32.toInt_inj.mp (g3.trans (by decide +kernel : (27 : Int) = (27 : Int32).toInt))) c32_27
                                                                              · exact absurd (Int32.toInt_inj.mp (g3.trans (by decide +kernel : (28 : Int) = (28 : Int32).toInt))) c32_28
                                                                              · exact absurd (Int32.toInt_inj.mp (g3.trans (by decide +kernel : (29 : Int) = (29 : Int32).toInt))) c32_29
                                                                              · exact absurd (Int32.toInt_inj.mp (g3.trans (by decide +kernel : (30 : Int) = (30 : Int32).toInt))) c32_30
                                                                              · exact absurd (Int32.toInt_inj.mp (g3.trans (by decide +kernel : (31 : Int) = (31 : Int32).toInt))) c32_31
                                                                              · exact absurd (Int32.toInt_inj.mp (g3.trans (by decide +kernel : (32 : Int) = (32 : Int32).toInt))) c32_32
                                                                              · exact absurd (Int32.toInt_inj.mp (g3.trans (by decide +kernel : (33 : Int) = (33 : Int32).toInt))) c32_33
                                                                              · exact absurd (Int32.toInt_inj.mp (g3.trans (by decide +kernel : (34 : Int) = (34 : Int32).toInt))) c32_34
                                                                            · exact h
  · replace h := (if_neg c20).symm.trans h
    cases h
theorem BL_law_188 {d : Nat} {x3 : Int32} {S : tb_St} {r : Int32 × tb_St} (h : ((tb_ix (x3 + (1 : Int32)) (S 0 2560).toNatClampNeg).bind fun j193 => (tb_cI d mX7_flat [.ref 1, .int (S 0 j193)] S).bind fun q194 => (tb_ix (x3 + (1 : Int32)) ((q194.2) 0 2560).toNatClampNeg).bind fun j202 => (tb_cI d mX8_flat [.ref 45, .int ((q194.2) 0 j202)] (q194.2)).bind fun q203 => (if q194.1 = q203.1 then tb_E d mL_law tb_dI 1295 [.ref 0, .ref 1, .ref 45, .int x3] [] tb_S (q203.2) else some ((0 : Int32), q203.2))) = some r) : tb_E d mL_law tb_dI 188 [.ref 0, .ref 1, .ref 45, .int x3] [] tb_S S = some r := by
  refine x_aload_n (pc' := 189) dL_law_188 rfl rfl ?_
  refine x_aload_n (pc' := 190) dL_law_189 rfl rfl ?_
  refine x_iload_n (pc' := 191) dL_law_190 rfl rfl ?_
  refine x_iconst (pc' := 192) (w := (1 : Int32)) dL_law_191 rfl k_ic_1 ?_
  refine x_iadd (pc' := 193) dL_law_192 rfl ?_
  obtain ⟨j193, hj193, h⟩ := Option.bind_eq_some_iff.mp h
  refine x_iaload54 (pc' := 194) (v := S 0 j193) dL_law_193 rfl sh_0 hj193 rfl ?_
  obtain ⟨q194, hq194, h⟩ := Option.bind_eq_some_iff.mp h
  refine x_virtI (pc' := 197) (o := 1) (as := [.int (S 0 j193)]) (rest := []) dL_law_194 rfl lm_9_13 rfl rfl rfl sh_1 rfl hq194 ?_
  refine x_aload_n (pc' := 198) dL_law_197 rfl rfl ?_
  refine x_aload_n (pc' := 199) dL_law_198 rfl rfl ?_
  refine x_iload_n (pc' := 200) dL_law_199 rfl rfl ?_
  refine x_iconst (pc' := 201) (w := (1 : Int32)) dL_law_200 rfl k_ic_1 ?_
  refine x_iadd (pc' := 202) dL_law_201 rfl ?_
  obtain ⟨j202, hj202, h⟩ := Option.bind_eq_some_iff.mp h
  refine x_iaload54 (pc' := 203) (v := (q194.2) 0 j202) dL_law_202 rfl sh_0 hj202 rfl ?_
  obtain ⟨q203, hq203, h⟩ := Option.bind_eq_some_iff.mp h
  refine x_virtI (pc' := 206) (o := 45) (as := [.int ((q194.2) 0 j202)]) (rest := [.int (q194.1)]) dL_law_203 rfl lm_9_17 rfl rfl rfl sh_45 rfl hq203 ?_
  by_cases c206 : q194.1 = q203.1
  · replace h := (if_pos c206).symm.trans h
    refine x_icmp_eq_t (pc' := 1295) dL_law_206 (by decide) c206 ?_
    exact h
  · replace h := (if_neg c206).symm.trans h
    refine x_icmp_eq_f (pc' := 209) dL_law_206 (by decide) rfl c206 ?_
    refine x_iconst (pc' := 210) (w := (0 : Int32)) dL_law_209 rfl k_ic_0 ?_
    exact x_zret dL_law_210 rfl (Or.inl rfl) ((tb_dI_ok _ _).trans h)
theorem BL_law_211 {d : Nat} {x3 : Int32} {S : tb_St} {r : Int32 × tb_St} (h : ((tb_cI d mX7_empty [.ref 1] S).bind fun q212 => (tb_cI d mX8_empty [.ref 45] (q212.2)).bind fun q216 => (if q212.1 = q216.1 then tb_E d mL_law tb_dI 1295 [.ref 0, .ref 1, .ref 45, .int x3] [] tb_S (q216.2) else some ((0 : Int32), q216.2))) = some r) : tb_E d mL_law tb_dI 211 [.ref 0, .ref 1, .ref 45, .int x3] [] tb_S S = some r := by
  refine x_aload_n (pc' := 212) dL_law_211 rfl rfl ?_
  obtain ⟨q212, hq212, h⟩ := Option.bind_eq_some_iff.mp h
  refine x_virtI (pc' := 215) (o := 1) (as := []) (rest := []) dL_law_212 rfl lm_9_18 rfl rfl rfl sh_1 rfl hq212 ?_
  refine x_aload_n (pc' := 216) dL_law_215 rfl rfl ?_
  obtain ⟨q216, hq216, h⟩ := Option.bind_eq_some_iff.mp h
  refine x_virtI (pc' := 219) (o := 45) (as := []) (rest := [.int (q212.1)]) dL_law_216 rfl lm_9_22 rfl rfl rfl sh_45 rfl hq216 ?_
  by_cases c219 : q212.1 = q216.1
  · replace h := (if_pos c219).symm.trans h
    refine x_icmp_eq_t (pc' := 1295) dL_law_219 (by decide) c219 ?_
    exact h
  · replace h := (if_neg c219).symm.trans h
    refine x_icmp_eq_f (pc' := 222) dL_law_219 (by decide) rfl c219 ?_
    refine x_iconst (pc' := 223) (w := (0 : Int32)) dL_law_222 rfl k_ic_0 ?_
    exact x_zret dL_law_223 rfl (Or.inl rfl) ((tb_dI_ok _ _).trans h)
theorem BL_law_224 {d : Nat} {x3 : Int32} {S : tb_St} {r : Int32 × tb_St} (h : ((tb_ix (x3 + (1 : Int32)) (S 0 2560).toNatClampNeg).bind fun j229 => (tb_ix (x3 + (2 : Int32)) (S 0 2560).toNatClampNeg).bind fun j234 => (tb_cI d mX7_when [.ref 1, .int (S 0 j229), .int (S 0 j234)] S).bind fun q235 => (tb_ix (x3 + (1 : Int32)) ((q235.2) 0 2560).toNatClampNeg).bind fun j243 => (tb_ix (x3 + (2 : Int32)) ((q235.2) 0 2560).toNatClampNeg).bind fun j248 => (tb_cI d mX8_when [.ref 45, .int ((q235.2) 0 j243), .int ((q235.2) 0 j248)] (q235.2)).bind fun q249 => (if q235.1 = q249.1 then tb_E d mL_law tb_dI 1295 [.ref 0, .ref 1, .ref 45, .int x3] [] tb_S (q249.2) else some ((0 : Int32), q249.2))) = some r) : tb_E d mL_law tb_dI 224 [.ref 0, .ref 1, .ref 45, .int x3] [] tb_S S = some r := by
  refine x_aload_n (pc' := 225) dL_law_224 rfl rfl ?_
  refine x_aload_n (pc' := 226) dL_law_225 rfl rfl ?_
  refine x_iload_n (pc' := 227) dL_law_226 rfl rfl ?_
  refine x_iconst (pc' := 228) (w := (1 : Int32)) dL_law_227 rfl k_ic_1 ?_
  refine x_iadd (pc' := 229) dL_law_228 rfl ?_
  obtain ⟨j229, hj229, h⟩ := Option.bind_eq_some_iff.mp h
  refine x_iaload54 (pc' := 230) (v := S 0 j229) dL_law_229 rfl sh_0 hj229 rfl ?_
  refine x_aload_n (pc' := 231) dL_law_230 rfl rfl ?_
  refine x_iload_n (pc' := 232) dL_law_231 rfl rfl ?_
  refine x_iconst (pc' := 233) (w := (2 : Int32)) dL_law_232 rfl k_ic_2 ?_
  refine x_iadd (pc' := 234) dL_law_233 rfl ?_
  obtain ⟨j234, hj234, h⟩ := Option.bind_eq_some_iff.mp h
  refine x_iaload54 (pc' := 235) (v := S 0 j234) dL_law_234 rfl sh_0 hj234 rfl ?_
  obtain ⟨q235, hq235, h⟩ := Option.bind_eq_some_iff.mp h
  refine x_virtI (pc' := 238) (o := 1) (as := [.int (S 0 j229), .int (S 0 j234)]) (rest := []) dL_law_235 rfl lm_9_23 rfl rfl rfl sh_1 rfl hq235 ?_
  refine x_aload_n (pc' := 239) dL_law_238 rfl rfl ?_
  refine x_aload_n (pc' := 240) dL_law_239 rfl rfl ?_
  refine x_iload_n (pc' := 241) dL_law_240 rfl rfl ?_
  refine x_iconst (pc' := 242) (w := (1 : Int32)) dL_law_241 rfl k_ic_1 ?_
  refine x_iadd (pc' := 243) dL_law_242 rfl ?_
  obtain ⟨j243, hj243, h⟩ := Option.bind_eq_some_iff.mp h
  refine x_iaload54 (pc' := 244) (v := (q235.2) 0 j243) dL_law_243 rfl sh_0 hj243 rfl ?_
  refine x_aload_n (pc' := 245) dL_law_244 rfl rfl ?_
  refine x_iload_n (pc' := 246) dL_law_245 rfl rfl ?_
  refine x_iconst (pc' := 247) (w := (2 : Int32)) dL_law_246 rfl k_ic_2 ?_
  refine x_iadd (pc' := 248) dL_law_247 rfl ?_
  obtain ⟨j248, hj248, h⟩ := Option.bind_eq_some_iff.mp h
  refine x_iaload54 (pc' := 249) (v := (q235.2) 0 j248) dL_law_248 rfl sh_0 hj248 rfl ?_
  obtain ⟨q249, hq249, h⟩ := Option.bind_eq_some_iff.mp h
  refine x_virtI (pc' := 252) (o := 45) (as := [.int ((q235.2) 0 j243), .int ((q235.2) 0 j248)]) (rest := [.int (q235.1)]) dL_law_249 rfl lm_9_27 rfl rfl rfl sh_45 rfl hq249 ?_
  by_cases c252 : q235.1 = q249.1
  · replace h := (if_pos c252).symm.trans h
    refine x_icmp_eq_t (pc' := 1295) dL_law_252 (by decide) c252 ?_
    exact h
  · replace h := (if_neg c252).symm.trans h
    refine x_icmp_eq_f (pc' := 255) dL_law_252 (by decide) rfl c252 ?_
    refine x_iconst (pc' := 256) (w := (0 : Int32)) dL_law_255 rfl k_ic_0 ?_
    exact x_zret dL_law_256 rfl (Or.inl rfl) ((tb_dI_ok _ _).trans h)
theorem BL_law_257 {d : Nat} {x3 : Int32} {S : tb_St} {r : Int32 × tb_St} (h : ((tb_ix (x3 + (1 : Int32)) (S 0 2560).toNatClampNeg).bind fun j262 => (tb_ix (x3 + (2 : Int32)) (S 0 2560).toNatClampNeg).bind fun j267 => (tb_ix (x3 + (3 : Int32)) (S 0 2560).toNatClampNeg).bind fun j272 => (tb_cI d mX7_cap [.ref 1, .int (S 0 j262), .int (S 0 j267), .int (S 0 j272)] S).bind fun q273 => (tb_ix (x3 + (1 : Int32)) ((q273.2) 0 2560).toNatClampNeg).bind fun j281 => (tb_ix (x3 + (2 : Int32)) ((q273.2) 0 2560).toNatClampNeg).bind fun j286 => (tb_ix (x3 + (3 : Int32)) ((q273.2) 0 2560).toNatClampNeg).bind fun j291 => (tb_cI d mX8_cap [.ref 45, .int ((q273.2) 0 j281), .int ((q273.2) 0 j286), .int ((q273.2) 0 j291)] (q273.2)).bind fun q292 => (if q273.1 = q292.1 then tb_E d mL_law tb_dI 1295 [.ref 0, .ref 1, .ref 45, .int x3] [] tb_S (q292.2) else some ((0 : Int32), q292.2))) = some r) : tb_E d mL_law tb_dI 257 [.ref 0, .ref 1, .ref 45, .int x3] [] tb_S S = some r := by
  refine x_aload_n (pc' := 258) dL_law_257 rfl rfl ?_
  refine x_aload_n (pc' := 259) dL_law_258 rfl rfl ?_
  refine x_iload_n (pc' := 260) dL_law_259 rfl rfl ?_
  refine x_iconst (pc' := 261) (w := (1 : Int32)) dL_law_260 rfl k_ic_1 ?_
  refine x_iadd (pc' := 262) dL_law_261 rfl ?_
  obtain ⟨j262, hj262, h⟩ := Option.bind_eq_some_iff.mp h
  refine x_iaload54 (pc' := 263) (v := S 0 j262) dL_law_262 rfl sh_0 hj262 rfl ?_
  refine x_aload_n (pc' := 264) dL_law_263 rfl rfl ?_
  refine x_iload_n (pc' := 265) dL_law_264 rfl rfl ?_
  refine x_iconst (pc' := 266) (w := (2 : Int32)) dL_law_265 rfl k_ic_2 ?_
  refine x_iadd (pc' := 267) dL_law_266 rfl ?_
  obtain ⟨j267, hj267, h⟩ := Option.bind_eq_some_iff.mp h
  refine x_iaload54 (pc' := 268) (v := S 0 j267) dL_law_267 rfl sh_0 hj267 rfl ?_
  refine x_aload_n (pc' := 269) dL_law_268 rfl rfl ?_
  refine x_iload_n (pc' := 270) dL_law_269 rfl rfl ?_
  refine x_iconst (pc' := 271) (w := (3 : Int32)) dL_law_270 rfl k_ic_3 ?_
  refine x_iadd (pc' := 272) dL_law_271 rfl ?_
  obtain ⟨j272, hj272, h⟩ := Option.bind_eq_some_iff.mp h
  refine x_iaload54 (pc' := 273) (v := S 0 j272) dL_law_272 rfl sh_0 hj272 rfl ?_
  obtain ⟨q273, hq273, h⟩ := Option.bind_eq_some_iff.mp h
  refine x_virtI (pc' := 276) (o := 1) (as := [.int (S 0 j262), .int (S 0 j267), .int (S 0 j272)]) (rest := []) dL_law_273 rfl lm_9_28 rfl rfl rfl sh_1 rfl hq273 ?_
  refine x_aload_n (pc' := 277) dL_law_276 rfl rfl ?_
  refine x_aload_n (pc' := 278) dL_law_277 rfl rfl ?_
  refine x_iload_n (pc' := 279) dL_law_278 rfl rfl ?_
  refine x_iconst (pc' := 280) (w := (1 : Int32)) dL_law_279 rfl k_ic_1 ?_
  refine x_iadd (pc' := 281) dL_law_280 rfl ?_
  obtain ⟨j281, hj281, h⟩ := Option.bind_eq_some_iff.mp h
  refine x_iaload54 (pc' := 282) (v := (q273.2) 0 j281) dL_law_281 rfl sh_0 hj281 rfl ?_
  refine x_aload_n (pc' := 283) dL_law_282 rfl rfl ?_
  refine x_iload_n (pc' := 284) dL_law_283 rfl rfl ?_
  refine x_iconst (pc' := 285) (w := (2 : Int32)) dL_law_284 rfl k_ic_2 ?_
  refine x_iadd (pc' := 286) dL_law_285 rfl ?_
  obtain ⟨j286, hj286, h⟩ := Option.bind_eq_some_iff.mp h
  refine x_iaload54 (pc' := 287) (v := (q273.2) 0 j286) dL_law_286 rfl sh_0 hj286 rfl ?_
  refine x_aload_n (pc' := 288) dL_law_287 rfl rfl ?_
  refine x_iload_n (pc' := 289) dL_law_288 rfl rfl ?_
  refine x_iconst (pc' := 290) (w := (3 : Int32)) dL_law_289 rfl k_ic_3 ?_
  refine x_iadd (pc' := 291) dL_law_290 rfl ?_
  obtain ⟨j291, hj291, h⟩ := Option.bind_eq_some_iff.mp h
  refine x_iaload54 (pc' := 292) (v := (q273.2) 0 j291) dL_law_291 rfl sh_0 hj291 rfl ?_
  obtain ⟨q292, hq292, h⟩ := Option.bind_eq_some_iff.mp h
  refine x_virtI (pc' := 295) (o := 45) (as := [.int ((q273.2) 0 j281), .int ((q273.2) 0 j286), .int ((q273.2) 0 j291)]) (rest := [.int (q273.1)]) dL_law_292 rfl lm_9_32 rfl rfl rfl sh_45 rfl hq292 ?_
  by_cases c295 : q273.1 = q292.1
  · replace h := (if_pos c295).symm.trans h
    refine x_icmp_eq_t (pc' := 1295) dL_law_295 (by decide) c295 ?_
    exact h
  · replace h := (if_neg c295).symm.trans h
    refine x_icmp_eq_f (pc' := 298) dL_law_295 (by decide) rfl c295 ?_
    refine x_iconst (pc' := 299) (w := (0 : Int32)) dL_law_298 rfl k_ic_0 ?_
    exact x_zret dL_law_299 rfl (Or.inl rfl) ((tb_dI_ok _ _).trans h)
theorem BL_law_300 {d : Nat} {x3 : Int32} {S : tb_St} {r : Int32 × tb_St} (h : ((tb_ix (x3 + (1 : Int32)) (S 0 2560).toNatClampNeg).bind fun j305 => (tb_ix (x3 + (2 : Int32)) (S 0 2560).toNatClampNeg).bind fun j310 => (tb_ix (x3 + (3 : Int32)) (S 0 2560).toNatClampNeg).bind fun j315 => (tb_cI d mX7_two [.ref 1, .int (S 0 j305), .int (S 0 j310), .int (S 0 j315)] S).bind fun q316 => (tb_ix (x3 + (1 : Int32)) ((q316.2) 0 2560).toNatClampNeg).bind fun j324 => (tb_ix (x3 + (2 : Int32)) ((q316.2) 0 2560).toNatClampNeg).bind fun j329 => (tb_ix (x3 + (3 : Int32)) ((q316.2) 0 2560).toNatClampNeg).bind fun j334 => (tb_cI d mX8_two [.ref 45, .int ((q316.2) 0 j324), .int ((q316.2) 0 j329), .int ((q316.2) 0 j334)] (q316.2)).bind fun q335 => (if q316.1 = q335.1 then tb_E d mL_law tb_dI 1295 [.ref 0, .ref 1, .ref 45, .int x3] [] tb_S (q335.2) else some ((0 : Int32), q335.2))) = some r) : tb_E d mL_law tb_dI 300 [.ref 0, .ref 1, .ref 45, .int x3] [] tb_S S = some r := by
  refine x_aload_n (pc' := 301) dL_law_300 rfl rfl ?_
  refine x_aload_n (pc' := 302) dL_law_301 rfl rfl ?_
  refine x_iload_n (pc' := 303) dL_law_302 rfl rfl ?_
  refine x_iconst (pc' := 304) (w := (1 : Int32)) dL_law_303 rfl k_ic_1 ?_
  refine x_iadd (pc' := 305) dL_law_304 rfl ?_
  obtain ⟨j305, hj305, h⟩ := Option.bind_eq_some_iff.mp h
  refine x_iaload54 (pc' := 306) (v := S 0 j305) dL_law_305 rfl sh_0 hj305 rfl ?_
  refine x_aload_n (pc' := 307) dL_law_306 rfl rfl ?_
  refine x_iload_n (pc' := 308) dL_law_307 rfl rfl ?_
  refine x_iconst (pc' := 309) (w := (2 : Int32)) dL_law_308 rfl k_ic_2 ?_
  refine x_iadd (pc' := 310) dL_law_309 rfl ?_
  obtain ⟨j310, hj310, h⟩ := Option.bind_eq_some_iff.mp h
  refine x_iaload54 (pc' := 311) (v := S 0 j310) dL_law_310 rfl sh_0 hj310 rfl ?_
  refine x_aload_n (pc' := 312) dL_law_311 rfl rfl ?_
  refine x_iload_n (pc' := 313) dL_law_312 rfl rfl ?_
  refine x_iconst (pc' := 314) (w := (3 : Int32)) dL_law_313 rfl k_ic_3 ?_
  refine x_iadd (pc' := 315) dL_law_314 rfl ?_
  obtain ⟨j315, hj315, h⟩ := Option.bind_eq_some_iff.mp h
  refine x_iaload54 (pc' := 316) (v := S 0 j315) dL_law_315 rfl sh_0 hj315 rfl ?_
  obtain ⟨q316, hq316, h⟩ := Option.bind_eq_some_iff.mp h
  refine x_virtI (pc' := 319) (o := 1) (as := [.int (S 0 j305), .int (S 0 j310), .int (S 0 j315)]) (rest := []) dL_law_316 rfl lm_9_33 rfl rfl rfl sh_1 rfl hq316 ?_
  refine x_aload_n (pc' := 320) dL_law_319 rfl rfl ?_
  refine x_aload_n (pc' := 321) dL_law_320 rfl rfl ?_
  refine x_iload_n (pc' := 322) dL_law_321 rfl rfl ?_
  refine x_iconst (pc' := 323) (w := (1 : Int32)) dL_law_322 rfl k_ic_1 ?_
  refine x_iadd (pc' := 324) dL_law_323 rfl ?_
  obtain ⟨j324, hj324, h⟩ := Option.bind_eq_some_iff.mp h
  refine x_iaload54 (pc' := 325) (v := (q316.2) 0 j324) dL_law_324 rfl sh_0 hj324 rfl ?_
  refine x_aload_n (pc' := 326) dL_law_325 rfl rfl ?_
  refine x_iload_n (pc' := 327) dL_law_326 rfl rfl ?_
  refine x_iconst (pc' := 328) (w := (2 : Int32)) dL_law_327 rfl k_ic_2 ?_
  refine x_iadd (pc' := 329) dL_law_328 rfl ?_
  obtain ⟨j329, hj329, h⟩ := Option.bind_eq_some_iff.mp h
  refine x_iaload54 (pc' := 330) (v := (q316.2) 0 j329) dL_law_329 rfl sh_0 hj329 rfl ?_
  refine x_aload_n (pc' := 331) dL_law_330 rfl rfl ?_
  refine x_iload_n (pc' := 332) dL_law_331 rfl rfl ?_
  refine x_iconst (pc' := 333) (w := (3 : Int32)) dL_law_332 rfl k_ic_3 ?_
  refine x_iadd (pc' := 334) dL_law_333 rfl ?_
  obtain ⟨j334, hj334, h⟩ := Option.bind_eq_some_iff.mp h
  refine x_iaload54 (pc' := 335) (v := (q316.2) 0 j334) dL_law_334 rfl sh_0 hj334 rfl ?_
  obtain ⟨q335, hq335, h⟩ := Option.bind_eq_some_iff.mp h
  refine x_virtI (pc' := 338) (o := 45) (as := [.int ((q316.2) 0 j324), .int ((q316.2) 0 j329), .int ((q316.2) 0 j334)]) (rest := [.int (q316.1)]) dL_law_335 rfl lm_9_36 rfl rfl rfl sh_45 rfl hq335 ?_
  by_cases c338 : q316.1 = q335.1
  · replace h := (if_pos c338).symm.trans h
    refine x_icmp_eq_t (pc' := 1295) dL_law_338 (by decide) c338 ?_
    exact h
  · replace h := (if_neg c338).symm.trans h
    refine x_icmp_eq_f (pc' := 341) dL_law_338 (by decide) rfl c338 ?_
    refine x_iconst (pc' := 342) (w := (0 : Int32)) dL_law_341 rfl k_ic_0 ?_
    exact x_zret dL_law_342 rfl (Or.inl rfl) ((tb_dI_ok _ _).trans h)
theorem BL_law_343 {d : Nat} {x3 : Int32} {S : tb_St} {r : Int32 × tb_St} (h : ((tb_cI d mX7_drop [.ref 1] S).bind fun q344 => (tb_cI d mX8_drop [.ref 45] (q344.2)).bind fun q348 => (if q344.1 = q348.1 then tb_E d mL_law tb_dI 1295 [.ref 0, .ref 1, .ref 45, .int x3] [] tb_S (q348.2) else some ((0 : Int32), q348.2))) = some r) : tb_E d mL_law tb_dI 343 [.ref 0, .ref 1, .ref 45, .int x3] [] tb_S S = some r := by
  refine x_aload_n (pc' := 344) dL_law_343 rfl rfl ?_
  obtain ⟨q344, hq344, h⟩ := Option.bind_eq_some_iff.mp h
  refine x_virtI (pc' := 347) (o := 1) (as := []) (rest := []) dL_law_344 rfl lm_9_37 rfl rfl rfl sh_1 rfl hq344 ?_
  refine x_aload_n (pc' := 348) dL_law_347 rfl rfl ?_
  obtain ⟨q348, hq348, h⟩ := Option.bind_eq_some_iff.mp h
  refine x_virtI (pc' := 351) (o := 45) (as := []) (rest := [.int (q344.1)]) dL_law_348 rfl lm_9_40 rfl rfl rfl sh_45 rfl hq348 ?_
  by_cases c351 : q344.1 = q348.1
  · replace h := (if_pos c351).symm.trans h
    refine x_icmp_eq_t (pc' := 1295) dL_law_351 (by decide) c351 ?_
    exact h
  · replace h := (if_neg c351).symm.trans h
    refine x_icmp_eq_f (pc' := 354) dL_law_351 (by decide) rfl c351 ?_
    refine x_iconst (pc' := 355) (w := (0 : Int32)) dL_law_354 rfl k_ic_0 ?_
    exact x_zret dL_law_355 rfl (Or.inl rfl) ((tb_dI_ok _ _).trans h)
theorem BL_law_356 {d : Nat} {x3 : Int32} {S : tb_St} {r : Int32 × tb_St} (h : ((tb_ix (x3 + (1 : Int32)) (S 0 2560).toNatClampNeg).bind fun j361 => (tb_cI d mX7_feed [.ref 1, .int (S 0 j361)] S).bind fun q362 => (tb_ix (x3 + (1 : Int32)) ((q362.2) 0 2560).toNatClampNeg).bind fun j370 => (tb_cI d mX8_feed [.ref 45, .int ((q362.2) 0 j370)] (q362.2)).bind fun q371 => (if q362.1 = q371.1 then tb_E d mL_law tb_dI 1295 [.ref 0, .ref 1, .ref 45, .int x3] [] tb_S (q371.2) else some ((0 : Int32), q371.2))) = some r) : tb_E d mL_law tb_dI 356 [.ref 0, .ref 1, .ref 45, .int x3] [] tb_S S = some r := by
  refine x_aload_n (pc' := 357) dL_law_356 rfl rfl ?_
  refine x_aload_n (pc' := 358) dL_law_357 rfl rfl ?_
  refine x_iload_n (pc' := 359) dL_law_358 rfl rfl ?_
  refine x_iconst (pc' := 360) (w := (1 : Int32)) dL_law_359 rfl k_ic_1 ?_
  refine x_iadd (pc' := 361) dL_law_360 rfl ?_
  obtain ⟨j361, hj361, h⟩ := Option.bind_eq_some_iff.mp h
  refine x_iaload54 (pc' := 362) (v := S 0 j361) dL_law_361 rfl sh_0 hj361 rfl ?_
  obtain ⟨q362, hq362, h⟩ := Option.bind_eq_some_iff.mp h
  refine x_virtI (pc' := 365) (o := 1) (as := [.int (S 0 j361)]) (rest := []) dL_law_362 rfl lm_9_41 rfl rfl rfl sh_1 rfl hq362 ?_
  refine x_aload_n (pc' := 366) dL_law_365 rfl rfl ?_
  refine x_aload_n (pc' := 367) dL_law_366 rfl rfl ?_
  refine x_iload_n (pc' := 368) dL_law_367 rfl rfl ?_
  refine x_iconst (pc' := 369) (w := (1 : Int32)) dL_law_368 rfl k_ic_1 ?_
  refine x_iadd (pc' := 370) dL_law_369 rfl ?_
  obtain ⟨j370, hj370, h⟩ := Option.bind_eq_some_iff.mp h
  refine x_iaload54 (pc' := 371) (v := (q362.2) 0 j370) dL_law_370 rfl sh_0 hj370 rfl ?_
  obtain ⟨q371, hq371, h⟩ := Option.bind_eq_some_iff.mp h
  refine x_virtI (pc' := 374) (o := 45) (as := [.int ((q362.2) 0 j370)]) (rest := [.int (q362.1)]) dL_law_371 rfl lm_9_44 rfl rfl rfl sh_45 rfl hq371 ?_
  by_cases c374 : q362.1 = q371.1
  · replace h := (if_pos c374).symm.trans h
    refine x_icmp_eq_t (pc' := 1295) dL_law_374 (by decide) c374 ?_
    exact h
  · replace h := (if_neg c374).symm.trans h
    refine x_icmp_eq_f (pc' := 377) dL_law_374 (by decide) rfl c374 ?_
    refine x_iconst (pc' := 378) (w := (0 : Int32)) dL_law_377 rfl k_ic_0 ?_
    exact x_zret dL_law_378 rfl (Or.inl rfl) ((tb_dI_ok _ _).trans h)
theorem BL_law_379 {d : Nat} {x3 : Int32} {S : tb_St} {r : Int32 × tb_St} (h : ((tb_cI d mX7_clear [.ref 1] S).bind fun q380 => (tb_cI d mX8_clear [.ref 45] (q380.2)).bind fun q384 => (if q380.1 = q384.1 then tb_E d mL_law tb_dI 1295 [.ref 0, .ref 1, .ref 45, .int x3] [] tb_S (q384.2) else some ((0 : Int32), q384.2))) = some r) : tb_E d mL_law tb_dI 379 [.ref 0, .ref 1, .ref 45, .int x3] [] tb_S S = some r := by
  refine x_aload_n (pc' := 380) dL_law_379 rfl rfl ?_
  obtain ⟨q380, hq380, h⟩ := Option.bind_eq_some_iff.mp h
  refine x_virtI (pc' := 383) (o := 1) (as := []) (rest := []) dL_law_380 rfl lm_9_45 rfl rfl rfl sh_1 rfl hq380 ?_
  refine x_aload_n (pc' := 384) dL_law_383 rfl rfl ?_
  obtain ⟨q384, hq384, h⟩ := Option.bind_eq_some_iff.mp h
  refine x_virtI (pc' := 387) (o := 45) (as := []) (rest := [.int (q380.1)]) dL_law_384 rfl lm_9_48 rfl rfl rfl sh_45 rfl hq384 ?_
  by_cases c387 : q380.1 = q384.1
  · replace h := (if_pos c387).symm.trans h
    refine x_icmp_eq_t (pc' := 1295) dL_law_387 (by decide) c387 ?_
    exact h
  · replace h := (if_neg c387).symm.trans h
    refine x_icmp_eq_f (pc' := 390) dL_law_387 (by decide) rfl c387 ?_
    refine x_iconst (pc' := 391) (w := (0 : Int32)) dL_law_390 rfl k_ic_0 ?_
    exact x_zret dL_law_391 rfl (Or.inl rfl) ((tb_dI_ok _ _).trans h)
theorem BL_law_392 {d : Nat} {x3 : Int32} {S : tb_St} {r : Int32 × tb_St} (h : ((tb_cI d mX7_read [.ref 1] S).bind fun q393 => (tb_cI d mX8_read [.ref 45] (q393.2)).bind fun q397 => (if q393.1 = q397.1 then tb_E d mL_law tb_dI 1295 [.ref 0, .ref 1, .ref 45, .int x3] [] tb_S (q397.2) else some ((0 : Int32), q397.2))) = some r) : tb_E d mL_law tb_dI 392 [.ref 0, .ref 1, .ref 45, .int x3] [] tb_S S = some r := by
  refine x_aload_n (pc' := 393) dL_law_392 rfl rfl ?_
  obtain ⟨q393, hq393, h⟩ := Option.bind_eq_some_iff.mp h
  refine x_virtI (pc' := 396) (o := 1) (as := []) (rest := []) dL_law_393 rfl lm_9_49 rfl rfl rfl sh_1 rfl hq393 ?_
  refine x_aload_n (pc' := 397) dL_law_396 rfl rfl ?_
  obtain ⟨q397, hq397, h⟩ := Option.bind_eq_some_iff.mp h
  refine x_virtI (pc' := 400) (o := 45) (as := []) (rest := [.int (q393.1)]) dL_law_397 rfl lm_9_52 rfl rfl rfl sh_45 rfl hq397 ?_
  by_cases c400 : q393.1 = q397.1
  · replace h := (if_pos c400).symm.trans h
    refine x_icmp_eq_t (pc' := 1295) dL_law_400 (by decide) c400 ?_
    exact h
  · replace h := (if_neg c400).symm.trans h
    refine x_icmp_eq_f (pc' := 403) dL_law_400 (by decide) rfl c400 ?_
    refine x_iconst (pc' := 404) (w := (0 : Int32)) dL_law_403 rfl k_ic_0 ?_
    exact x_zret dL_law_404 rfl (Or.inl rfl) ((tb_dI_ok _ _).trans h)
theorem BL_law_405 {d : Nat} {x3 : Int32} {S : tb_St} {r : Int32 × tb_St} (h : ((tb_ix (x3 + (1 : Int32)) (S 0 2560).toNatClampNeg).bind fun j410 => (tb_cI d mX7_way [.ref 1, .int (S 0 j410)] S).bind fun q411 => (tb_ix (x3 + (1 : Int32)) ((q411.2) 0 2560).toNatClampNeg).bind fun j419 => (tb_cI d mX8_way [.ref 45, .int ((q411.2) 0 j419)] (q411.2)).bind fun q420 => (if q411.1 = q420.1 then tb_E d mL_law tb_dI 1295 [.ref 0, .ref 1, .ref 45, .int x3] [] tb_S (q420.2) else some ((0 : Int32), q420.2))) = some r) : tb_E d mL_law tb_dI 405 [.ref 0, .ref 1, .ref 45, .int x3] [] tb_S S = some r := by
  refine x_aload_n (pc' := 406) dL_law_405 rfl rfl ?_
  refine x_aload_n (pc' := 407) dL_law_406 rfl rfl ?_
  refine x_iload_n (pc' := 408) dL_law_407 rfl rfl ?_
  refine x_iconst (pc' := 409) (w := (1 : Int32)) dL_law_408 rfl k_ic_1 ?_
  refine x_iadd (pc' := 410) dL_law_409 rfl ?_
  obtain ⟨j410, hj410, h⟩ := Option.bind_eq_some_iff.mp h
  refine x_iaload54 (pc' := 411) (v := S 0 j410) dL_law_410 rfl sh_0 hj410 rfl ?_
  obtain ⟨q411, hq411, h⟩ := Option.bind_eq_some_iff.mp h
  refine x_virtI (pc' := 414) (o := 1) (as := [.int (S 0 j410)]) (rest := []) dL_law_411 rfl lm_9_53 rfl rfl rfl sh_1 rfl hq411 ?_
  refine x_aload_n (pc' := 415) dL_law_414 rfl rfl ?_
  refine x_aload_n (pc' := 416) dL_law_415 rfl rfl ?_
  refine x_iload_n (pc' := 417) dL_law_416 rfl rfl ?_
  refine x_iconst (pc' := 418) (w := (1 : Int32)) dL_law_417 rfl k_ic_1 ?_
  refine x_iadd (pc' := 419) dL_law_418 rfl ?_
  obtain ⟨j419, hj419, h⟩ := Option.bind_eq_some_iff.mp h
  refine x_iaload54 (pc' := 420) (v := (q411.2) 0 j419) dL_law_419 rfl sh_0 hj419 rfl ?_
  obtain ⟨q420, hq420, h⟩ := Option.bind_eq_some_iff.mp h
  refine x_virtI (pc' := 423) (o := 45) (as := [.int ((q411.2) 0 j419)]) (rest := [.int (q411.1)]) dL_law_420 rfl lm_9_56 rfl rfl rfl sh_45 rfl hq420 ?_
  by_cases c423 : q411.1 = q420.1
  · replace h := (if_pos c423).symm.trans h
    refine x_icmp_eq_t (pc' := 1295) dL_law_423 (by decide) c423 ?_
    exact h
  · replace h := (if_neg c423).symm.trans h
    refine x_icmp_eq_f (pc' := 426) dL_law_423 (by decide) rfl c423 ?_
    refine x_iconst (pc' := 427) (w := (0 : Int32)) dL_law_426 rfl k_ic_0 ?_
    exact x_zret dL_law_427 rfl (Or.inl rfl) ((tb_dI_ok _ _).trans h)
theorem BL_law_428 {d : Nat} {x3 : Int32} {S : tb_St} {r : Int32 × tb_St} (h : ((tb_ix (x3 + (1 : Int32)) (S 0 2560).toNatClampNeg).bind fun j433 => (tb_ix (x3 + (2 : Int32)) (S 0 2560).toNatClampNeg).bind fun j438 => (tb_cI d mX7_of [.ref 1, .int (S 0 j433), .int (S 0 j438)] S).bind fun q439 => (tb_ix (x3 + (1 : Int32)) ((q439.2) 0 2560).toNatClampNeg).bind fun j447 => (tb_ix (x3 + (2 : Int32)) ((q439.2) 0 2560).toNatClampNeg).bind fun j452 => (tb_cI d mX8_of [.ref 45, .int ((q439.2) 0 j447), .int ((q439.2) 0 j452)] (q439.2)).bind fun q453 => (if q439.1 = q453.1 then tb_E d mL_law tb_dI 1295 [.ref 0, .ref 1, .ref 45, .int x3] [] tb_S (q453.2) else some ((0 : Int32), q453.2))) = some r) : tb_E d mL_law tb_dI 428 [.ref 0, .ref 1, .ref 45, .int x3] [] tb_S S = some r := by
  refine x_aload_n (pc' := 429) dL_law_428 rfl rfl ?_
  refine x_aload_n (pc' := 430) dL_law_429 rfl rfl ?_
  refine x_iload_n (pc' := 431) dL_law_430 rfl rfl ?_
  refine x_iconst (pc' := 432) (w := (1 : Int32)) dL_law_431 rfl k_ic_1 ?_
  refine x_iadd (pc' := 433) dL_law_432 rfl ?_
  obtain ⟨j433, hj433, h⟩ := Option.bind_eq_some_iff.mp h
  refine x_iaload54 (pc' := 434) (v := S 0 j433) dL_law_433 rfl sh_0 hj433 rfl ?_
  refine x_aload_n (pc' := 435) dL_law_434 rfl rfl ?_
  refine x_iload_n (pc' := 436) dL_law_435 rfl rfl ?_
  refine x_iconst (pc' := 437) (w := (2 : Int32)) dL_law_436 rfl k_ic_2 ?_
  refine x_iadd (pc' := 438) dL_law_437 rfl ?_
  obtain ⟨j438, hj438, h⟩ := Option.bind_eq_some_iff.mp h
  refine x_iaload54 (pc' := 439) (v := S 0 j438) dL_law_438 rfl sh_0 hj438 rfl ?_
  obtain ⟨q439, hq439, h⟩ := Option.bind_eq_some_iff.mp h
  refine x_virtI (pc' := 442) (o := 1) (as := [.int (S 0 j433), .int (S 0 j438)]) (rest := []) dL_law_439 rfl lm_9_57 rfl rfl rfl sh_1 rfl hq439 ?_
  refine x_aload_n (pc' := 443) dL_law_442 rfl rfl ?_
  refine x_aload_n (pc' := 444) dL_law_443 rfl rfl ?_
  refine x_iload_n (pc' := 445) dL_law_444 rfl rfl ?_
  refine x_iconst (pc' := 446) (w := (1 : Int32)) dL_law_445 rfl k_ic_1 ?_
  refine x_iadd (pc' := 447) dL_law_446 rfl ?_
  obtain ⟨j447, hj447, h⟩ := Option.bind_eq_some_iff.mp h
  refine x_iaload54 (pc' := 448) (v := (q439.2) 0 j447) dL_law_447 rfl sh_0 hj447 rfl ?_
  refine x_aload_n (pc' := 449) dL_law_448 rfl rfl ?_
  refine x_iload_n (pc' := 450) dL_law_449 rfl rfl ?_
  refine x_iconst (pc' := 451) (w := (2 : Int32)) dL_law_450 rfl k_ic_2 ?_
  refine x_iadd (pc' := 452) dL_law_451 rfl ?_
  obtain ⟨j452, hj452, h⟩ := Option.bind_eq_some_iff.mp h
  refine x_iaload54 (pc' := 453) (v := (q439.2) 0 j452) dL_law_452 rfl sh_0 hj452 rfl ?_
  obtain ⟨q453, hq453, h⟩ := Option.bind_eq_some_iff.mp h
  refine x_virtI (pc' := 456) (o := 45) (as := [.int ((q439.2) 0 j447), .int ((q439.2) 0 j452)]) (rest := [.int (q439.1)]) dL_law_453 rfl lm_9_60 rfl rfl rfl sh_45 rfl hq453 ?_
  by_cases c456 : q439.1 = q453.1
  · replace h := (if_pos c456).symm.trans h
    refine x_icmp_eq_t (pc' := 1295) dL_law_456 (by decide) c456 ?_
    exact h
  · replace h := (if_neg c456).symm.trans h
    refine x_icmp_eq_f (pc' := 459) dL_law_456 (by decide) rfl c456 ?_
    refine x_iconst (pc' := 460) (w := (0 : Int32)) dL_law_459 rfl k_ic_0 ?_
    exact x_zret dL_law_460 rfl (Or.inl rfl) ((tb_dI_ok _ _).trans h)
theorem BL_law_461 {d : Nat} {x3 : Int32} {S : tb_St} {r : Int32 × tb_St} (h : ((tb_ix (x3 + (1 : Int32)) (S 0 2560).toNatClampNeg).bind fun j466 => (tb_ix (x3 + (2 : Int32)) (S 0 2560).toNatClampNeg).bind fun j471 => (tb_cI d mX7_taken [.ref 1, .int (S 0 j466), .int (S 0 j471)] S).bind fun q472 => (tb_ix (x3 + (1 : Int32)) ((q472.2) 0 2560).toNatClampNeg).bind fun j480 => (tb_ix (x3 + (2 : Int32)) ((q472.2) 0 2560).toNatClampNeg).bind fun j485 => (tb_cI d mX8_taken [.ref 45, .int ((q472.2) 0 j480), .int ((q472.2) 0 j485)] (q472.2)).bind fun q486 => (if q472.1 = q486.1 then tb_E d mL_law tb_dI 1295 [.ref 0, .ref 1, .ref 45, .int x3] [] tb_S (q486.2) else some ((0 : Int32), q486.2))) = some r) : tb_E d mL_law tb_dI 461 [.ref 0, .ref 1, .ref 45, .int x3] [] tb_S S = some r := by
  refine x_aload_n (pc' := 462) dL_law_461 rfl rfl ?_
  refine x_aload_n (pc' := 463) dL_law_462 rfl rfl ?_
  refine x_iload_n (pc' := 464) dL_law_463 rfl rfl ?_
  refine x_iconst (pc' := 465) (w := (1 : Int32)) dL_law_464 rfl k_ic_1 ?_
  refine x_iadd (pc' := 466) dL_law_465 rfl ?_
  obtain ⟨j466, hj466, h⟩ := Option.bind_eq_some_iff.mp h
  refine x_iaload54 (pc' := 467) (v := S 0 j466) dL_law_466 rfl sh_0 hj466 rfl ?_
  refine x_aload_n (pc' := 468) dL_law_467 rfl rfl ?_
  refine x_iload_n (pc' := 469) dL_law_468 rfl rfl ?_
  refine x_iconst (pc' := 470) (w := (2 : Int32)) dL_law_469 rfl k_ic_2 ?_
  refine x_iadd (pc' := 471) dL_law_470 rfl ?_
  obtain ⟨j471, hj471, h⟩ := Option.bind_eq_some_iff.mp h
  refine x_iaload54 (pc' := 472) (v := S 0 j471) dL_law_471 rfl sh_0 hj471 rfl ?_
  obtain ⟨q472, hq472, h⟩ := Option.bind_eq_some_iff.mp h
  refine x_virtI (pc' := 475) (o := 1) (as := [.int (S 0 j466), .int (S 0 j471)]) (rest := []) dL_law_472 rfl lm_9_61 rfl rfl rfl sh_1 rfl hq472 ?_
  refine x_aload_n (pc' := 476) dL_law_475 rfl rfl ?_
  refine x_aload_n (pc' := 477) dL_law_476 rfl rfl ?_
  refine x_iload_n (pc' := 478) dL_law_477 rfl rfl ?_
  refine x_iconst (pc' := 479) (w := (1 : Int32)) dL_law_478 rfl k_ic_1 ?_
  refine x_iadd (pc' := 480) dL_law_479 rfl ?_
  obtain ⟨j480, hj480, h⟩ := Option.bind_eq_some_iff.mp h
  refine x_iaload54 (pc' := 481) (v := (q472.2) 0 j480) dL_law_480 rfl sh_0 hj480 rfl ?_
  refine x_aload_n (pc' := 482) dL_law_481 rfl rfl ?_
  refine x_iload_n (pc' := 483) dL_law_482 rfl rfl ?_
  refine x_iconst (pc' := 484) (w := (2 : Int32)) dL_law_483 rfl k_ic_2 ?_
  refine x_iadd (pc' := 485) dL_law_484 rfl ?_
  obtain ⟨j485, hj485, h⟩ := Option.bind_eq_some_iff.mp h
  refine x_iaload54 (pc' := 486) (v := (q472.2) 0 j485) dL_law_485 rfl sh_0 hj485 rfl ?_
  obtain ⟨q486, hq486, h⟩ := Option.bind_eq_some_iff.mp h
  refine x_virtI (pc' := 489) (o := 45) (as := [.int ((q472.2) 0 j480), .int ((q472.2) 0 j485)]) (rest := [.int (q472.1)]) dL_law_486 rfl lm_9_64 rfl rfl rfl sh_45 rfl hq486 ?_
  by_cases c489 : q472.1 = q486.1
  · replace h := (if_pos c489).symm.trans h
    refine x_icmp_eq_t (pc' := 1295) dL_law_489 (by decide) c489 ?_
    exact h
  · replace h := (if_neg c489).symm.trans h
    refine x_icmp_eq_f (pc' := 492) dL_law_489 (by decide) rfl c489 ?_
    refine x_iconst (pc' := 493) (w := (0 : Int32)) dL_law_492 rfl k_ic_0 ?_
    exact x_zret dL_law_493 rfl (Or.inl rfl) ((tb_dI_ok _ _).trans h)
theorem BL_law_494 {d : Nat} {x3 : Int32} {S : tb_St} {r : Int32 × tb_St} (h : ((tb_ix (x3 + (1 : Int32)) (S 0 2560).toNatClampNeg).bind fun j499 => (tb_cI d mX7_spell [.ref 1, .int (S 0 j499)] S).bind fun q500 => (tb_ix (x3 + (1 : Int32)) ((q500.2) 0 2560).toNatClampNeg).bind fun j508 => (tb_cI d mX8_spell [.ref 45, .int ((q500.2) 0 j508)] (q500.2)).bind fun q509 => (if q500.1 = q509.1 then tb_E d mL_law tb_dI 1295 [.ref 0, .ref 1, .ref 45, .int x3] [] tb_S (q509.2) else some ((0 : Int32), q509.2))) = some r) : tb_E d mL_law tb_dI 494 [.ref 0, .ref 1, .ref 45, .int x3] [] tb_S S = some r := by
  refine x_aload_n (pc' := 495) dL_law_494 rfl rfl ?_
  refine x_aload_n (pc' := 496) dL_law_495 rfl rfl ?_
  refine x_iload_n (pc' := 497) dL_law_496 rfl rfl ?_
  refine x_iconst (pc' := 498) (w := (1 : Int32)) dL_law_497 rfl k_ic_1 ?_
  refine x_iadd (pc' := 499) dL_law_498 rfl ?_
  obtain ⟨j499, hj499, h⟩ := Option.bind_eq_some_iff.mp h
  refine x_iaload54 (pc' := 500) (v := S 0 j499) dL_law_499 rfl sh_0 hj499 rfl ?_
  obtain ⟨q500, hq500, h⟩ := Option.bind_eq_some_iff.mp h
  refine x_virtI (pc' := 503) (o := 1) (as := [.int (S 0 j499)]) (rest := []) dL_law_500 rfl lm_9_65 rfl rfl rfl sh_1 rfl hq500 ?_
  refine x_aload_n (pc' := 504) dL_law_503 rfl rfl ?_
  refine x_aload_n (pc' := 505) dL_law_504 rfl rfl ?_
  refine x_iload_n (pc' := 506) dL_law_505 rfl rfl ?_
  refine x_iconst (pc' := 507) (w := (1 : Int32)) dL_law_506 rfl k_ic_1 ?_
  refine x_iadd (pc' := 508) dL_law_507 rfl ?_
  obtain ⟨j508, hj508, h⟩ := Option.bind_eq_some_iff.mp h
  refine x_iaload54 (pc' := 509) (v := (q500.2) 0 j508) dL_law_508 rfl sh_0 hj508 rfl ?_
  obtain ⟨q509, hq509, h⟩ := Option.bind_eq_some_iff.mp h
  refine x_virtI (pc' := 512) (o := 45) (as := [.int ((q500.2) 0 j508)]) (rest := [.int (q500.1)]) dL_law_509 rfl lm_9_68 rfl rfl rfl sh_45 rfl hq509 ?_
  by_cases c512 : q500.1 = q509.1
  · replace h := (if_pos c512).symm.trans h
    refine x_icmp_eq_t (pc' := 1295) dL_law_512 (by decide) c512 ?_
    exact h
  · replace h := (if_neg c512).symm.trans h
    refine x_icmp_eq_f (pc' := 515) dL_law_512 (by decide) rfl c512 ?_
    refine x_iconst (pc' := 516) (w := (0 : Int32)) dL_law_515 rfl k_ic_0 ?_
    exact x_zret dL_law_516 rfl (Or.inl rfl) ((tb_dI_ok _ _).trans h)
theorem BL_law_517 {d : Nat} {x3 : Int32} {S : tb_St} {r : Int32 × tb_St} (h : ((tb_ix (x3 + (1 : Int32)) (S 0 2560).toNatClampNeg).bind fun j522 => (tb_cI d mX7_paper [.ref 1, .int (S 0 j522)] S).bind fun q523 => (tb_ix (x3 + (1 : Int32)) ((q523.2) 0 2560).toNatClampNeg).bind fun j531 => (tb_cI d mX8_paper [.ref 45, .int ((q523.2) 0 j531)] (q523.2)).bind fun q532 => (if q523.1 = q532.1 then tb_E d mL_law tb_dI 1295 [.ref 0, .ref 1, .ref 45, .int x3] [] tb_S (q532.2) else some ((0 : Int32), q532.2))) = some r) : tb_E d mL_law tb_dI 517 [.ref 0, .ref 1, .ref 45, .int x3] [] tb_S S = some r := by
  refine x_aload_n (pc' := 518) dL_law_517 rfl rfl ?_
  refine x_aload_n (pc' := 519) dL_law_518 rfl rfl ?_
  refine x_iload_n (pc' := 520) dL_law_519 rfl rfl ?_
  refine x_iconst (pc' := 521) (w := (1 : Int32)) dL_law_520 rfl k_ic_1 ?_
  refine x_iadd (pc' := 522) dL_law_521 rfl ?_
  obtain ⟨j522, hj522, h⟩ := Option.bind_eq_some_iff.mp h
  refine x_iaload54 (pc' := 523) (v := S 0 j522) dL_law_522 rfl sh_0 hj522 rfl ?_
  obtain ⟨q523, hq523, h⟩ := Option.bind_eq_some_iff.mp h
  refine x_virtI (pc' := 526) (o := 1) (as := [.int (S 0 j522)]) (rest := []) dL_law_523 rfl lm_9_69 rfl rfl rfl sh_1 rfl hq523 ?_
  refine x_aload_n (pc' := 527) dL_law_526 rfl rfl ?_
  refine x_aload_n (pc' := 528) dL_law_527 rfl rfl ?_
  refine x_iload_n (pc' := 529) dL_law_528 rfl rfl ?_
  refine x_iconst (pc' := 530) (w := (1 : Int32)) dL_law_529 rfl k_ic_1 ?_
  refine x_iadd (pc' := 531) dL_law_530 rfl ?_
  obtain ⟨j531, hj531, h⟩ := Option.bind_eq_some_iff.mp h
  refine x_iaload54 (pc' := 532) (v := (q523.2) 0 j531) dL_law_531 rfl sh_0 hj531 rfl ?_
  obtain ⟨q532, hq532, h⟩ := Option.bind_eq_some_iff.mp h
  refine x_virtI (pc' := 535) (o := 45) (as := [.int ((q523.2) 0 j531)]) (rest := [.int (q523.1)]) dL_law_532 rfl lm_9_72 rfl rfl rfl sh_45 rfl hq532 ?_
  by_cases c535 : q523.1 = q532.1
  · replace h := (if_pos c535).symm.trans h
    refine x_icmp_eq_t (pc' := 1295) dL_law_535 (by decide) c535 ?_
    exact h
  · replace h := (if_neg c535).symm.trans h
    refine x_icmp_eq_f (pc' := 538) dL_law_535 (by decide) rfl c535 ?_
    refine x_iconst (pc' := 539) (w := (0 : Int32)) dL_law_538 rfl k_ic_0 ?_
    exact x_zret dL_law_539 rfl (Or.inl rfl) ((tb_dI_ok _ _).trans h)
theorem BL_law_540 {d : Nat} {x3 : Int32} {S : tb_St} {r : Int32 × tb_St} (h : ((tb_ix (x3 + (1 : Int32)) (S 0 2560).toNatClampNeg).bind fun j545 => (tb_ix (x3 + (2 : Int32)) (S 0 2560).toNatClampNeg).bind fun j550 => (tb_cI d mX7_says [.ref 1, .int (S 0 j545), .int (S 0 j550)] S).bind fun q551 => (tb_ix (x3 + (1 : Int32)) ((q551.2) 0 2560).toNatClampNeg).bind fun j559 => (tb_ix (x3 + (2 : Int32)) ((q551.2) 0 2560).toNatClampNeg).bind fun j564 => (tb_cI d mX8_says [.ref 45, .int ((q551.2) 0 j559), .int ((q551.2) 0 j564)] (q551.2)).bind fun q565 => (if q551.1 = q565.1 then tb_E d mL_law tb_dI 1295 [.ref 0, .ref 1, .ref 45, .int x3] [] tb_S (q565.2) else some ((0 : Int32), q565.2))) = some r) : tb_E d mL_law tb_dI 540 [.ref 0, .ref 1, .ref 45, .int x3] [] tb_S S = some r := by
  refine x_aload_n (pc' := 541) dL_law_540 rfl rfl ?_
  refine x_aload_n (pc' := 542) dL_law_541 rfl rfl ?_
  refine x_iload_n (pc' := 543) dL_law_542 rfl rfl ?_
  refine x_iconst (pc' := 544) (w := (1 : Int32)) dL_law_543 rfl k_ic_1 ?_
  refine x_iadd (pc' := 545) dL_law_544 rfl ?_
  obtain ⟨j545, hj545, h⟩ := Option.bind_eq_some_iff.mp h
  refine x_iaload54 (pc' := 546) (v := S 0 j545) dL_law_545 rfl sh_0 hj545 rfl ?_
  refine x_aload_n (pc' := 547) dL_law_546 rfl rfl ?_
  refine x_iload_n (pc' := 548) dL_law_547 rfl rfl ?_
  refine x_iconst (pc' := 549) (w := (2 : Int32)) dL_law_548 rfl k_ic_2 ?_
  refine x_iadd (pc' := 550) dL_law_549 rfl ?_
  obtain ⟨j550, hj550, h⟩ := Option.bind_eq_some_iff.mp h
  refine x_iaload54 (pc' := 551) (v := S 0 j550) dL_law_550 rfl sh_0 hj550 rfl ?_
  obtain ⟨q551, hq551, h⟩ := Option.bind_eq_some_iff.mp h
  refine x_virtI (pc' := 554) (o := 1) (as := [.int (S 0 j545), .int (S 0 j550)]) (rest := []) dL_law_551 rfl lm_9_73 rfl rfl rfl sh_1 rfl hq551 ?_
  refine x_aload_n (pc' := 555) dL_law_554 rfl rfl ?_
  refine x_aload_n (pc' := 556) dL_law_555 rfl rfl ?_
  refine x_iload_n (pc' := 557) dL_law_556 rfl rfl ?_
  refine x_iconst (pc' := 558) (w := (1 : Int32)) dL_law_557 rfl k_ic_1 ?_
  refine x_iadd (pc' := 559) dL_law_558 rfl ?_
  obtain ⟨j559, hj559, h⟩ := Option.bind_eq_some_iff.mp h
  refine x_iaload54 (pc' := 560) (v := (q551.2) 0 j559) dL_law_559 rfl sh_0 hj559 rfl ?_
  refine x_aload_n (pc' := 561) dL_law_560 rfl rfl ?_
  refine x_iload_n (pc' := 562) dL_law_561 rfl rfl ?_
  refine x_iconst (pc' := 563) (w := (2 : Int32)) dL_law_562 rfl k_ic_2 ?_
  refine x_iadd (pc' := 564) dL_law_563 rfl ?_
  obtain ⟨j564, hj564, h⟩ := Option.bind_eq_some_iff.mp h
  refine x_iaload54 (pc' := 565) (v := (q551.2) 0 j564) dL_law_564 rfl sh_0 hj564 rfl ?_
  obtain ⟨q565, hq565, h⟩ := Option.bind_eq_some_iff.mp h
  refine x_virtI (pc' := 568) (o := 45) (as := [.int ((q551.2) 0 j559), .int ((q551.2) 0 j564)]) (rest := [.int (q551.1)]) dL_law_565 rfl lm_9_76 rfl rfl rfl sh_45 rfl hq565 ?_
  by_cases c568 : q551.1 = q565.1
  · replace h := (if_pos c568).symm.trans h
    refine x_icmp_eq_t (pc' := 1295) dL_law_568 (by decide) c568 ?_
    exact h
  · replace h := (if_neg c568).symm.trans h
    refine x_icmp_eq_f (pc' := 571) dL_law_568 (by decide) rfl c568 ?_
    refine x_iconst (pc' := 572) (w := (0 : Int32)) dL_law_571 rfl k_ic_0 ?_
    exact x_zret dL_law_572 rfl (Or.inl rfl) ((tb_dI_ok _ _).trans h)
theorem BL_law_573 {d : Nat} {x3 : Int32} {S : tb_St} {r : Int32 × tb_St} (h : ((tb_ix (x3 + (1 : Int32)) (S 0 2560).toNatClampNeg).bind fun j578 => (tb_ix (x3 + (2 : Int32)) (S 0 2560).toNatClampNeg).bind fun j583 => (tb_cI d mX7_sum [.ref 1, .int (S 0 j578), .int (S 0 j583)] S).bind fun q584 => (tb_ix (x3 + (1 : Int32)) ((q584.2) 0 2560).toNatClampNeg).bind fun j592 => (tb_ix (x3 + (2 : Int32)) ((q584.2) 0 2560).toNatClampNeg).bind fun j597 => (tb_cI d mX8_sum [.ref 45, .int ((q584.2) 0 j592), .int ((q584.2) 0 j597)] (q584.2)).bind fun q598 => (if q584.1 = q598.1 then tb_E d mL_law tb_dI 1295 [.ref 0, .ref 1, .ref 45, .int x3] [] tb_S (q598.2) else some ((0 : Int32), q598.2))) = some r) : tb_E d mL_law tb_dI 573 [.ref 0, .ref 1, .ref 45, .int x3] [] tb_S S = some r := by
  refine x_aload_n (pc' := 574) dL_law_573 rfl rfl ?_
  refine x_aload_n (pc' := 575) dL_law_574 rfl rfl ?_
  refine x_iload_n (pc' := 576) dL_law_575 rfl rfl ?_
  refine x_iconst (pc' := 577) (w := (1 : Int32)) dL_law_576 rfl k_ic_1 ?_
  refine x_iadd (pc' := 578) dL_law_577 rfl ?_
  obtain ⟨j578, hj578, h⟩ := Option.bind_eq_some_iff.mp h
  refine x_iaload54 (pc' := 579) (v := S 0 j578) dL_law_578 rfl sh_0 hj578 rfl ?_
  refine x_aload_n (pc' := 580) dL_law_579 rfl rfl ?_
  refine x_iload_n (pc' := 581) dL_law_580 rfl rfl ?_
  refine x_iconst (pc' := 582) (w := (2 : Int32)) dL_law_581 rfl k_ic_2 ?_
  refine x_iadd (pc' := 583) dL_law_582 rfl ?_
  obtain ⟨j583, hj583, h⟩ := Option.bind_eq_some_iff.mp h
  refine x_iaload54 (pc' := 584) (v := S 0 j583) dL_law_583 rfl sh_0 hj583 rfl ?_
  obtain ⟨q584, hq584, h⟩ := Option.bind_eq_some_iff.mp h
  refine x_virtI (pc' := 587) (o := 1) (as := [.int (S 0 j578), .int (S 0 j583)]) (rest := []) dL_law_584 rfl lm_9_77 rfl rfl rfl sh_1 rfl hq584 ?_
  refine x_aload_n (pc' := 588) dL_law_587 rfl rfl ?_
  refine x_aload_n (pc' := 589) dL_law_588 rfl rfl ?_
  refine x_iload_n (pc' := 590) dL_law_589 rfl rfl ?_
  refine x_iconst (pc' := 591) (w := (1 : Int32)) dL_law_590 rfl k_ic_1 ?_
  refine x_iadd (pc' := 592) dL_law_591 rfl ?_
  obtain ⟨j592, hj592, h⟩ := Option.bind_eq_some_iff.mp h
  refine x_iaload54 (pc' := 593) (v := (q584.2) 0 j592) dL_law_592 rfl sh_0 hj592 rfl ?_
  refine x_aload_n (pc' := 594) dL_law_593 rfl rfl ?_
  refine x_iload_n (pc' := 595) dL_law_594 rfl rfl ?_
  refine x_iconst (pc' := 596) (w := (2 : Int32)) dL_law_595 rfl k_ic_2 ?_
  refine x_iadd (pc' := 597) dL_law_596 rfl ?_
  obtain ⟨j597, hj597, h⟩ := Option.bind_eq_some_iff.mp h
  refine x_iaload54 (pc' := 598) (v := (q584.2) 0 j597) dL_law_597 rfl sh_0 hj597 rfl ?_
  obtain ⟨q598, hq598, h⟩ := Option.bind_eq_some_iff.mp h
  refine x_virtI (pc' := 601) (o := 45) (as := [.int ((q584.2) 0 j592), .int ((q584.2) 0 j597)]) (rest := [.int (q584.1)]) dL_law_598 rfl lm_9_80 rfl rfl rfl sh_45 rfl hq598 ?_
  by_cases c601 : q584.1 = q598.1
  · replace h := (if_pos c601).symm.trans h
    refine x_icmp_eq_t (pc' := 1295) dL_law_601 (by decide) c601 ?_
    exact h
  · replace h := (if_neg c601).symm.trans h
    refine x_icmp_eq_f (pc' := 604) dL_law_601 (by decide) rfl c601 ?_
    refine x_iconst (pc' := 605) (w := (0 : Int32)) dL_law_604 rfl k_ic_0 ?_
    exact x_zret dL_law_605 rfl (Or.inl rfl) ((tb_dI_ok _ _).trans h)
theorem BL_law_606 {d : Nat} {x3 : Int32} {S : tb_St} {r : Int32 × tb_St} (h : ((tb_ix (x3 + (1 : Int32)) (S 0 2560).toNatClampNeg).bind fun j611 => (tb_ix (x3 + (2 : Int32)) (S 0 2560).toNatClampNeg).bind fun j616 => (tb_cL d mX7_odds [.ref 1, .int (S 0 j611), .int (S 0 j616)] S).bind fun q617 => (tb_ix (x3 + (1 : Int32)) ((q617.2) 0 2560).toNatClampNeg).bind fun j625 => (tb_ix (x3 + (2 : Int32)) ((q617.2) 0 2560).toNatClampNeg).bind fun j630 => (tb_cL d mX8_odds [.ref 45, .int ((q617.2) 0 j625), .int ((q617.2) 0 j630)] (q617.2)).bind fun q631 => (if lg_cmp (q617.1) (q631.1) = 0 then tb_E d mL_law tb_dI 1295 [.ref 0, .ref 1, .ref 45, .int x3] [] tb_S (q631.2) else some ((0 : Int32), q631.2))) = some r) : tb_E d mL_law tb_dI 606 [.ref 0, .ref 1, .ref 45, .int x3] [] tb_S S = some r := by
  refine x_aload_n (pc' := 607) dL_law_606 rfl rfl ?_
  refine x_aload_n (pc' := 608) dL_law_607 rfl rfl ?_
  refine x_iload_n (pc' := 609) dL_law_608 rfl rfl ?_
  refine x_iconst (pc' := 610) (w := (1 : Int32)) dL_law_609 rfl k_ic_1 ?_
  refine x_iadd (pc' := 611) dL_law_610 rfl ?_
  obtain ⟨j611, hj611, h⟩ := Option.bind_eq_some_iff.mp h
  refine x_iaload54 (pc' := 612) (v := S 0 j611) dL_law_611 rfl sh_0 hj611 rfl ?_
  refine x_aload_n (pc' := 613) dL_law_612 rfl rfl ?_
  refine x_iload_n (pc' := 614) dL_law_613 rfl rfl ?_
  refine x_iconst (pc' := 615) (w := (2 : Int32)) dL_law_614 rfl k_ic_2 ?_
  refine x_iadd (pc' := 616) dL_law_615 rfl ?_
  obtain ⟨j616, hj616, h⟩ := Option.bind_eq_some_iff.mp h
  refine x_iaload54 (pc' := 617) (v := S 0 j616) dL_law_616 rfl sh_0 hj616 rfl ?_
  obtain ⟨q617, hq617, h⟩ := Option.bind_eq_some_iff.mp h
  refine x_virtL (pc' := 620) (o := 1) (as := [.int (S 0 j611), .int (S 0 j616)]) (rest := []) dL_law_617 rfl lm_9_81 rfl rfl rfl sh_1 rfl hq617 ?_
  refine x_aload_n (pc' := 621) dL_law_620 rfl rfl ?_
  refine x_aload_n (pc' := 622) dL_law_621 rfl rfl ?_
  refine x_iload_n (pc' := 623) dL_law_622 rfl rfl ?_
  refine x_iconst (pc' := 624) (w := (1 : Int32)) dL_law_623 rfl k_ic_1 ?_
  refine x_iadd (pc' := 625) dL_law_624 rfl ?_
  obtain ⟨j625, hj625, h⟩ := Option.bind_eq_some_iff.mp h
  refine x_iaload54 (pc' := 626) (v := (q617.2) 0 j625) dL_law_625 rfl sh_0 hj625 rfl ?_
  refine x_aload_n (pc' := 627) dL_law_626 rfl rfl ?_
  refine x_iload_n (pc' := 628) dL_law_627 rfl rfl ?_
  refine x_iconst (pc' := 629) (w := (2 : Int32)) dL_law_628 rfl k_ic_2 ?_
  refine x_iadd (pc' := 630) dL_law_629 rfl ?_
  obtain ⟨j630, hj630, h⟩ := Option.bind_eq_some_iff.mp h
  refine x_iaload54 (pc' := 631) (v := (q617.2) 0 j630) dL_law_630 rfl sh_0 hj630 rfl ?_
  obtain ⟨q631, hq631, h⟩ := Option.bind_eq_some_iff.mp h
  refine x_virtL (pc' := 634) (o := 45) (as := [.int ((q617.2) 0 j625), .int ((q617.2) 0 j630)]) (rest := [.long (q617.1)]) dL_law_631 rfl lm_9_85 rfl rfl rfl sh_45 rfl hq631 ?_
  refine x_lcmp (pc' := 635) dL_law_634 rfl ?_
  by_cases c635 : lg_cmp (q617.1) (q631.1) = 0
  · replace h := (if_pos c635).symm.trans h
    refine x_if_eq_t (pc' := 1295) dL_law_635 (by decide) c635 ?_
    exact h
  · replace h := (if_neg c635).symm.trans h
    refine x_if_eq_f (pc' := 638) dL_law_635 (by decide) rfl c635 ?_
    refine x_iconst (pc' := 639) (w := (0 : Int32)) dL_law_638 rfl k_ic_0 ?_
    exact x_zret dL_law_639 rfl (Or.inl rfl) ((tb_dI_ok _ _).trans h)
theorem BL_law_640 {d : Nat} {x3 : Int32} {S : tb_St} {r : Int32 × tb_St} (h : ((tb_ix (x3 + (1 : Int32)) (S 0 2560).toNatClampNeg).bind fun j645 => (tb_ix (x3 + (2 : Int32)) (S 0 2560).toNatClampNeg).bind fun j650 => (tb_ix (x3 + (3 : Int32)) (S 0 2560).toNatClampNeg).bind fun j655 => (tb_cI d mX7_part [.ref 1, .int (S 0 j645), .int (S 0 j650), .int (S 0 j655)] S).bind fun q656 => (tb_ix (x3 + (1 : Int32)) ((q656.2) 0 2560).toNatClampNeg).bind fun j664 => (tb_ix (x3 + (2 : Int32)) ((q656.2) 0 2560).toNatClampNeg).bind fun j669 => (tb_ix (x3 + (3 : Int32)) ((q656.2) 0 2560).toNatClampNeg).bind fun j674 => (tb_cI d mX8_part_ [.ref 45, .int ((q656.2) 0 j664), .int ((q656.2) 0 j669), .int ((q656.2) 0 j674)] (q656.2)).bind fun q675 => (if q656.1 = q675.1 then tb_E d mL_law tb_dI 1295 [.ref 0, .ref 1, .ref 45, .int x3] [] tb_S (q675.2) else some ((0 : Int32), q675.2))) = some r) : tb_E d mL_law tb_dI 640 [.ref 0, .ref 1, .ref 45, .int x3] [] tb_S S = some r := by
  refine x_aload_n (pc' := 641) dL_law_640 rfl rfl ?_
  refine x_aload_n (pc' := 642) dL_law_641 rfl rfl ?_
  refine x_iload_n (pc' := 643) dL_law_642 rfl rfl ?_
  refine x_iconst (pc' := 644) (w := (1 : Int32)) dL_law_643 rfl k_ic_1 ?_
  refine x_iadd (pc' := 645) dL_law_644 rfl ?_
  obtain ⟨j645, hj645, h⟩ := Option.bind_eq_some_iff.mp h
  refine x_iaload54 (pc' := 646) (v := S 0 j645) dL_law_645 rfl sh_0 hj645 rfl ?_
  refine x_aload_n (pc' := 647) dL_law_646 rfl rfl ?_
  refine x_iload_n (pc' := 648) dL_law_647 rfl rfl ?_
  refine x_iconst (pc' := 649) (w := (2 : Int32)) dL_law_648 rfl k_ic_2 ?_
  refine x_iadd (pc' := 650) dL_law_649 rfl ?_
  obtain ⟨j650, hj650, h⟩ := Option.bind_eq_some_iff.mp h
  refine x_iaload54 (pc' := 651) (v := S 0 j650) dL_law_650 rfl sh_0 hj650 rfl ?_
  refine x_aload_n (pc' := 652) dL_law_651 rfl rfl ?_
  refine x_iload_n (pc' := 653) dL_law_652 rfl rfl ?_
  refine x_iconst (pc' := 654) (w := (3 : Int32)) dL_law_653 rfl k_ic_3 ?_
  refine x_iadd (pc' := 655) dL_law_654 rfl ?_
  obtain ⟨j655, hj655, h⟩ := Option.bind_eq_some_iff.mp h
  refine x_iaload54 (pc' := 656) (v := S 0 j655) dL_law_655 rfl sh_0 hj655 rfl ?_
  obtain ⟨q656, hq656, h⟩ := Option.bind_eq_some_iff.mp h
  refine x_virtI (pc' := 659) (o := 1) (as := [.int (S 0 j645), .int (S 0 j650), .int (S 0 j655)]) (rest := []) dL_law_656 rfl lm_9_86 rfl rfl rfl sh_1 rfl hq656 ?_
  refine x_aload_n (pc' := 660) dL_law_659 rfl rfl ?_
  refine x_aload_n (pc' := 661) dL_law_660 rfl rfl ?_
  refine x_iload_n (pc' := 662) dL_law_661 rfl rfl ?_
  refine x_iconst (pc' := 663) (w := (1 : Int32)) dL_law_662 rfl k_ic_1 ?_
  refine x_iadd (pc' := 664) dL_law_663 rfl ?_
  obtain ⟨j664, hj664, h⟩ := Option.bind_eq_some_iff.mp h
  refine x_iaload54 (pc' := 665) (v := (q656.2) 0 j664) dL_law_664 rfl sh_0 hj664 rfl ?_
  refine x_aload_n (pc' := 666) dL_law_665 rfl rfl ?_
  refine x_iload_n (pc' := 667) dL_law_666 rfl rfl ?_
  refine x_iconst (pc' := 668) (w := (2 : Int32)) dL_law_667 rfl k_ic_2 ?_
  refine x_iadd (pc' := 669) dL_law_668 rfl ?_
  obtain ⟨j669, hj669, h⟩ := Option.bind_eq_some_iff.mp h
  refine x_iaload54 (pc' := 670) (v := (q656.2) 0 j669) dL_law_669 rfl sh_0 hj669 rfl ?_
  refine x_aload_n (pc' := 671) dL_law_670 rfl rfl ?_
  refine x_iload_n (pc' := 672) dL_law_671 rfl rfl ?_
  refine x_iconst (pc' := 673) (w := (3 : Int32)) dL_law_672 rfl k_ic_3 ?_
  refine x_iadd (pc' := 674) dL_law_673 rfl ?_
  obtain ⟨j674, hj674, h⟩ := Option.bind_eq_some_iff.mp h
  refine x_iaload54 (pc' := 675) (v := (q656.2) 0 j674) dL_law_674 rfl sh_0 hj674 rfl ?_
  obtain ⟨q675, hq675, h⟩ := Option.bind_eq_some_iff.mp h
  refine x_virtI (pc' := 678) (o := 45) (as := [.int ((q656.2) 0 j664), .int ((q656.2) 0 j669), .int ((q656.2) 0 j674)]) (rest := [.int (q656.1)]) dL_law_675 rfl lm_9_89 rfl rfl rfl sh_45 rfl hq675 ?_
  by_cases c678 : q656.1 = q675.1
  · replace h := (if_pos c678).symm.trans h
    refine x_icmp_eq_t (pc' := 1295) dL_law_678 (by decide) c678 ?_
    exact h
  · replace h := (if_neg c678).symm.trans h
    refine x_icmp_eq_f (pc' := 681) dL_law_678 (by decide) rfl c678 ?_
    refine x_iconst (pc' := 682) (w := (0 : Int32)) dL_law_681 rfl k_ic_0 ?_
    exact x_zret dL_law_682 rfl (Or.inl rfl) ((tb_dI_ok _ _).trans h)
theorem BL_law_683 {d : Nat} {x3 : Int32} {S : tb_St} {r : Int32 × tb_St} (h : ((tb_ix (x3 + (1 : Int32)) (S 0 2560).toNatClampNeg).bind fun j688 => (tb_ix (x3 + (2 : Int32)) (S 0 2560).toNatClampNeg).bind fun j693 => (tb_ix (x3 + (3 : Int32)) (S 0 2560).toNatClampNeg).bind fun j698 => (tb_cI d mX7_gap [.ref 1, .int (S 0 j688), .int (S 0 j693), .int (S 0 j698)] S).bind fun q699 => (tb_ix (x3 + (1 : Int32)) ((q699.2) 0 2560).toNatClampNeg).bind fun j707 => (tb_ix (x3 + (2 : Int32)) ((q699.2) 0 2560).toNatClampNeg).bind fun j712 => (tb_ix (x3 + (3 : Int32)) ((q699.2) 0 2560).toNatClampNeg).bind fun j717 => (tb_cI d mX8_gap [.ref 45, .int ((q699.2) 0 j707), .int ((q699.2) 0 j712), .int ((q699.2) 0 j717)] (q699.2)).bind fun q718 => (if q699.1 = q718.1 then tb_E d mL_law tb_dI 1295 [.ref 0, .ref 1, .ref 45, .int x3] [] tb_S (q718.2) else some ((0 : Int32), q718.2))) = some r) : tb_E d mL_law tb_dI 683 [.ref 0, .ref 1, .ref 45, .int x3] [] tb_S S = some r := by
  refine x_aload_n (pc' := 684) dL_law_683 rfl rfl ?_
  refine x_aload_n (pc' := 685) dL_law_684 rfl rfl ?_
  refine x_iload_n (pc' := 686) dL_law_685 rfl rfl ?_
  refine x_iconst (pc' := 687) (w := (1 : Int32)) dL_law_686 rfl k_ic_1 ?_
  refine x_iadd (pc' := 688) dL_law_687 rfl ?_
  obtain ⟨j688, hj688, h⟩ := Option.bind_eq_some_iff.mp h
  refine x_iaload54 (pc' := 689) (v := S 0 j688) dL_law_688 rfl sh_0 hj688 rfl ?_
  refine x_aload_n (pc' := 690) dL_law_689 rfl rfl ?_
  refine x_iload_n (pc' := 691) dL_law_690 rfl rfl ?_
  refine x_iconst (pc' := 692) (w := (2 : Int32)) dL_law_691 rfl k_ic_2 ?_
  refine x_iadd (pc' := 693) dL_law_692 rfl ?_
  obtain ⟨j693, hj693, h⟩ := Option.bind_eq_some_iff.mp h
  refine x_iaload54 (pc' := 694) (v := S 0 j693) dL_law_693 rfl sh_0 hj693 rfl ?_
  refine x_aload_n (pc' := 695) dL_law_694 rfl rfl ?_
  refine x_iload_n (pc' := 696) dL_law_695 rfl rfl ?_
  refine x_iconst (pc' := 697) (w := (3 : Int32)) dL_law_696 rfl k_ic_3 ?_
  refine x_iadd (pc' := 698) dL_law_697 rfl ?_
  obtain ⟨j698, hj698, h⟩ := Option.bind_eq_some_iff.mp h
  refine x_iaload54 (pc' := 699) (v := S 0 j698) dL_law_698 rfl sh_0 hj698 rfl ?_
  obtain ⟨q699, hq699, h⟩ := Option.bind_eq_some_iff.mp h
  refine x_virtI (pc' := 702) (o := 1) (as := [.int (S 0 j688), .int (S 0 j693), .int (S 0 j698)]) (rest := []) dL_law_699 rfl lm_9_90 rfl rfl rfl sh_1 rfl hq699 ?_
  refine x_aload_n (pc' := 703) dL_law_702 rfl rfl ?_
  refine x_aload_n (pc' := 704) dL_law_703 rfl rfl ?_
  refine x_iload_n (pc' := 705) dL_law_704 rfl rfl ?_
  refine x_iconst (pc' := 706) (w := (1 : Int32)) dL_law_705 rfl k_ic_1 ?_
  refine x_iadd (pc' := 707) dL_law_706 rfl ?_
  obtain ⟨j707, hj707, h⟩ := Option.bind_eq_some_iff.mp h
  refine x_iaload54 (pc' := 708) (v := (q699.2) 0 j707) dL_law_707 rfl sh_0 hj707 rfl ?_
  refine x_aload_n (pc' := 709) dL_law_708 rfl rfl ?_
  refine x_iload_n (pc' := 710) dL_law_709 rfl rfl ?_
  refine x_iconst (pc' := 711) (w := (2 : Int32)) dL_law_710 rfl k_ic_2 ?_
  refine x_iadd (pc' := 712) dL_law_711 rfl ?_
  obtain ⟨j712, hj712, h⟩ := Option.bind_eq_some_iff.mp h
  refine x_iaload54 (pc' := 713) (v := (q699.2) 0 j712) dL_law_712 rfl sh_0 hj712 rfl ?_
  refine x_aload_n (pc' := 714) dL_law_713 rfl rfl ?_
  refine x_iload_n (pc' := 715) dL_law_714 rfl rfl ?_
  refine x_iconst (pc' := 716) (w := (3 : Int32)) dL_law_715 rfl k_ic_3 ?_
  refine x_iadd (pc' := 717) dL_law_716 rfl ?_
  obtain ⟨j717, hj717, h⟩ := Option.bind_eq_some_iff.mp h
  refine x_iaload54 (pc' := 718) (v := (q699.2) 0 j717) dL_law_717 rfl sh_0 hj717 rfl ?_
  obtain ⟨q718, hq718, h⟩ := Option.bind_eq_some_iff.mp h
  refine x_virtI (pc' := 721) (o := 45) (as := [.int ((q699.2) 0 j707), .int ((q699.2) 0 j712), .int ((q699.2) 0 j717)]) (rest := [.int (q699.1)]) dL_law_718 rfl lm_9_93 rfl rfl rfl sh_45 rfl hq718 ?_
  by_cases c721 : q699.1 = q718.1
  · replace h := (if_pos c721).symm.trans h
    refine x_icmp_eq_t (pc' := 1295) dL_law_721 (by decide) c721 ?_
    exact h
  · replace h := (if_neg c721).symm.trans h
    refine x_icmp_eq_f (pc' := 724) dL_law_721 (by decide) rfl c721 ?_
    refine x_iconst (pc' := 725) (w := (0 : Int32)) dL_law_724 rfl k_ic_0 ?_
    exact x_zret dL_law_725 rfl (Or.inl rfl) ((tb_dI_ok _ _).trans h)
theorem BL_law_726 {d : Nat} {x3 : Int32} {S : tb_St} {r : Int32 × tb_St} (h : ((tb_ix (x3 + (1 : Int32)) (S 0 2560).toNatClampNeg).bind fun j731 => (tb_ix (x3 + (2 : Int32)) (S 0 2560).toNatClampNeg).bind fun j736 => (tb_ix (x3 + (3 : Int32)) (S 0 2560).toNatClampNeg).bind fun j741 => (tb_ix (x3 + (4 : Int32)) (S 0 2560).toNatClampNeg).bind fun j746 => (tb_cI d mX7_diff [.ref 1, .int (S 0 j731), .int (S 0 j736), .int (S 0 j741), .int (S 0 j746)] S).bind fun q747 => (tb_ix (x3 + (1 : Int32)) ((q747.2) 0 2560).toNatClampNeg).bind fun j755 => (tb_ix (x3 + (2 : Int32)) ((q747.2) 0 2560).toNatClampNeg).bind fun j760 => (tb_ix (x3 + (3 : Int32)) ((q747.2) 0 2560).toNatClampNeg).bind fun j765 => (tb_ix (x3 + (4 : Int32)) ((q747.2) 0 2560).toNatClampNeg).bind fun j770 => (tb_cI d mX8_diff [.ref 45, .int ((q747.2) 0 j755), .int ((q747.2) 0 j760), .int ((q747.2) 0 j765), .int ((q747.2) 0 j770)] (q747.2)).bind fun q771 => (if q747.1 = q771.1 then tb_E d mL_law tb_dI 1295 [.ref 0, .ref 1, .ref 45, .int x3] [] tb_S (q771.2) else some ((0 : Int32), q771.2))) = some r) : tb_E d mL_law tb_dI 726 [.ref 0, .ref 1, .ref 45, .int x3] [] tb_S S = some r := by
  refine x_aload_n (pc' := 727) dL_law_726 rfl rfl ?_
  refine x_aload_n (pc' := 728) dL_law_727 rfl rfl ?_
  refine x_iload_n (pc' := 729) dL_law_728 rfl rfl ?_
  refine x_iconst (pc' := 730) (w := (1 : Int32)) dL_law_729 rfl k_ic_1 ?_
  refine x_iadd (pc' := 731) dL_law_730 rfl ?_
  obtain ⟨j731, hj731, h⟩ := Option.bind_eq_some_iff.mp h
  refine x_iaload54 (pc' := 732) (v := S 0 j731) dL_law_731 rfl sh_0 hj731 rfl ?_
  refine x_aload_n (pc' := 733) dL_law_732 rfl rfl ?_
  refine x_iload_n (pc' := 734) dL_law_733 rfl rfl ?_
  refine x_iconst (pc' := 735) (w := (2 : Int32)) dL_law_734 rfl k_ic_2 ?_
  refine x_iadd (pc' := 736) dL_law_735 rfl ?_
  obtain ⟨j736, hj736, h⟩ := Option.bind_eq_some_iff.mp h
  refine x_iaload54 (pc' := 737) (v := S 0 j736) dL_law_736 rfl sh_0 hj736 rfl ?_
  refine x_aload_n (pc' := 738) dL_law_737 rfl rfl ?_
  refine x_iload_n (pc' := 739) dL_law_738 rfl rfl ?_
  refine x_iconst (pc' := 740) (w := (3 : Int32)) dL_law_739 rfl k_ic_3 ?_
  refine x_iadd (pc' := 741) dL_law_740 rfl ?_
  obtain ⟨j741, hj741, h⟩ := Option.bind_eq_some_iff.mp h
  refine x_iaload54 (pc' := 742) (v := S 0 j741) dL_law_741 rfl sh_0 hj741 rfl ?_
  refine x_aload_n (pc' := 743) dL_law_742 rfl rfl ?_
  refine x_iload_n (pc' := 744) dL_law_743 rfl rfl ?_
  refine x_iconst (pc' := 745) (w := (4 : Int32)) dL_law_744 rfl k_ic_4 ?_
  refine x_iadd (pc' := 746) dL_law_745 rfl ?_
  obtain ⟨j746, hj746, h⟩ := Option.bind_eq_some_iff.mp h
  refine x_iaload54 (pc' := 747) (v := S 0 j746) dL_law_746 rfl sh_0 hj746 rfl ?_
  obtain ⟨q747, hq747, h⟩ := Option.bind_eq_some_iff.mp h
  refine x_virtI (pc' := 750) (o := 1) (as := [.int (S 0 j731), .int (S 0 j736), .int (S 0 j741), .int (S 0 j746)]) (rest := []) dL_law_747 rfl lm_9_94 rfl rfl rfl sh_1 rfl hq747 ?_
  refine x_aload_n (pc' := 751) dL_law_750 rfl rfl ?_
  refine x_aload_n (pc' := 752) dL_law_751 rfl rfl ?_
  refine x_iload_n (pc' := 753) dL_law_752 rfl rfl ?_
  refine x_iconst (pc' := 754) (w := (1 : Int32)) dL_law_753 rfl k_ic_1 ?_
  refine x_iadd (pc' := 755) dL_law_754 rfl ?_
  obtain ⟨j755, hj755, h⟩ := Option.bind_eq_some_iff.mp h
  refine x_iaload54 (pc' := 756) (v := (q747.2) 0 j755) dL_law_755 rfl sh_0 hj755 rfl ?_
  refine x_aload_n (pc' := 757) dL_law_756 rfl rfl ?_
  refine x_iload_n (pc' := 758) dL_law_757 rfl rfl ?_
  refine x_iconst (pc' := 759) (w := (2 : Int32)) dL_law_758 rfl k_ic_2 ?_
  refine x_iadd (pc' := 760) dL_law_759 rfl ?_
  obtain ⟨j760, hj760, h⟩ := Option.bind_eq_some_iff.mp h
  refine x_iaload54 (pc' := 761) (v := (q747.2) 0 j760) dL_law_760 rfl sh_0 hj760 rfl ?_
  refine x_aload_n (pc' := 762) dL_law_761 rfl rfl ?_
  refine x_iload_n (pc' := 763) dL_law_762 rfl rfl ?_
  refine x_iconst (pc' := 764) (w := (3 : Int32)) dL_law_763 rfl k_ic_3 ?_
  refine x_iadd (pc' := 765) dL_law_764 rfl ?_
  obtain ⟨j765, hj765, h⟩ := Option.bind_eq_some_iff.mp h
  refine x_iaload54 (pc' := 766) (v := (q747.2) 0 j765) dL_law_765 rfl sh_0 hj765 rfl ?_
  refine x_aload_n (pc' := 767) dL_law_766 rfl rfl ?_
  refine x_iload_n (pc' := 768) dL_law_767 rfl rfl ?_
  refine x_iconst (pc' := 769) (w := (4 : Int32)) dL_law_768 rfl k_ic_4 ?_
  refine x_iadd (pc' := 770) dL_law_769 rfl ?_
  obtain ⟨j770, hj770, h⟩ := Option.bind_eq_some_iff.mp h
  refine x_iaload54 (pc' := 771) (v := (q747.2) 0 j770) dL_law_770 rfl sh_0 hj770 rfl ?_
  obtain ⟨q771, hq771, h⟩ := Option.bind_eq_some_iff.mp h
  refine x_virtI (pc' := 774) (o := 45) (as := [.int ((q747.2) 0 j755), .int ((q747.2) 0 j760), .int ((q747.2) 0 j765), .int ((q747.2) 0 j770)]) (rest := [.int (q747.1)]) dL_law_771 rfl lm_9_98 rfl rfl rfl sh_45 rfl hq771 ?_
  by_cases c774 : q747.1 = q771.1
  · replace h := (if_pos c774).symm.trans h
    refine x_icmp_eq_t (pc' := 1295) dL_law_774 (by decide) c774 ?_
    exact h
  · replace h := (if_neg c774).symm.trans h
    refine x_icmp_eq_f (pc' := 777) dL_law_774 (by decide) rfl c774 ?_
    refine x_iconst (pc' := 778) (w := (0 : Int32)) dL_law_777 rfl k_ic_0 ?_
    exact x_zret dL_law_778 rfl (Or.inl rfl) ((tb_dI_ok _ _).trans h)
theorem BL_law_779 {d : Nat} {x3 : Int32} {S : tb_St} {r : Int32 × tb_St} (h : ((tb_ix (x3 + (1 : Int32)) (S 0 2560).toNatClampNeg).bind fun j784 => (tb_ix (x3 + (2 : Int32)) (S 0 2560).toNatClampNeg).bind fun j789 => (tb_cI d mX7_rule [.ref 1, .int (S 0 j784), .int (S 0 j789)] S).bind fun q790 => (tb_ix (x3 + (1 : Int32)) ((q790.2) 0 2560).toNatClampNeg).bind fun j798 => (tb_ix (x3 + (2 : Int32)) ((q790.2) 0 2560).toNatClampNeg).bind fun j803 => (tb_cI d mX8_rule [.ref 45, .int ((q790.2) 0 j798), .int ((q790.2) 0 j803)] (q790.2)).bind fun q804 => (if q790.1 = q804.1 then tb_E d mL_law tb_dI 1295 [.ref 0, .ref 1, .ref 45, .int x3] [] tb_S (q804.2) else some ((0 : Int32), q804.2))) = some r) : tb_E d mL_law tb_dI 779 [.ref 0, .ref 1, .ref 45, .int x3] [] tb_S S = some r := by
  refine x_aload_n (pc' := 780) dL_law_779 rfl rfl ?_
  refine x_aload_n (pc' := 781) dL_law_780 rfl rfl ?_
  refine x_iload_n (pc' := 782) dL_law_781 rfl rfl ?_
  refine x_iconst (pc' := 783) (w := (1 : Int32)) dL_law_782 rfl k_ic_1 ?_
  refine x_iadd (pc' := 784) dL_law_783 rfl ?_
  obtain ⟨j784, hj784, h⟩ := Option.bind_eq_some_iff.mp h
  refine x_iaload54 (pc' := 785) (v := S 0 j784) dL_law_784 rfl sh_0 hj784 rfl ?_
  refine x_aload_n (pc' := 786) dL_law_785 rfl rfl ?_
  refine x_iload_n (pc' := 787) dL_law_786 rfl rfl ?_
  refine x_iconst (pc' := 788) (w := (2 : Int32)) dL_law_787 rfl k_ic_2 ?_
  refine x_iadd (pc' := 789) dL_law_788 rfl ?_
  obtain ⟨j789, hj789, h⟩ := Option.bind_eq_some_iff.mp h
  refine x_iaload54 (pc' := 790) (v := S 0 j789) dL_law_789 rfl sh_0 hj789 rfl ?_
  obtain ⟨q790, hq790, h⟩ := Option.bind_eq_some_iff.mp h
  refine x_virtI (pc' := 793) (o := 1) (as := [.int (S 0 j784), .int (S 0 j789)]) (rest := []) dL_law_790 rfl lm_9_99 rfl rfl rfl sh_1 rfl hq790 ?_
  refine x_aload_n (pc' := 794) dL_law_793 rfl rfl ?_
  refine x_aload_n (pc' := 795) dL_law_794 rfl rfl ?_
  refine x_iload_n (pc' := 796) dL_law_795 rfl rfl ?_
  refine x_iconst (pc' := 797) (w := (1 : Int32)) dL_law_796 rfl k_ic_1 ?_
  refine x_iadd (pc' := 798) dL_law_797 rfl ?_
  obtain ⟨j798, hj798, h⟩ := Option.bind_eq_some_iff.mp h
  refine x_iaload54 (pc' := 799) (v := (q790.2) 0 j798) dL_law_798 rfl sh_0 hj798 rfl ?_
  refine x_aload_n (pc' := 800) dL_law_799 rfl rfl ?_
  refine x_iload_n (pc' := 801) dL_law_800 rfl rfl ?_
  refine x_iconst (pc' := 802) (w := (2 : Int32)) dL_law_801 rfl k_ic_2 ?_
  refine x_iadd (pc' := 803) dL_law_802 rfl ?_
  obtain ⟨j803, hj803, h⟩ := Option.bind_eq_some_iff.mp h
  refine x_iaload54 (pc' := 804) (v := (q790.2) 0 j803) dL_law_803 rfl sh_0 hj803 rfl ?_
  obtain ⟨q804, hq804, h⟩ := Option.bind_eq_some_iff.mp h
  refine x_virtI (pc' := 807) (o := 45) (as := [.int ((q790.2) 0 j798), .int ((q790.2) 0 j803)]) (rest := [.int (q790.1)]) dL_law_804 rfl lm_9_102 rfl rfl rfl sh_45 rfl hq804 ?_
  by_cases c807 : q790.1 = q804.1
  · replace h := (if_pos c807).symm.trans h
    refine x_icmp_eq_t (pc' := 1295) dL_law_807 (by decide) c807 ?_
    exact h
  · replace h := (if_neg c807).symm.trans h
    refine x_icmp_eq_f (pc' := 810) dL_law_807 (by decide) rfl c807 ?_
    refine x_iconst (pc' := 811) (w := (0 : Int32)) dL_law_810 rfl k_ic_0 ?_
    exact x_zret dL_law_811 rfl (Or.inl rfl) ((tb_dI_ok _ _).trans h)
theorem BL_law_812 {d : Nat} {x3 : Int32} {S : tb_St} {r : Int32 × tb_St} (h : ((tb_ix (x3 + (1 : Int32)) (S 0 2560).toNatClampNeg).bind fun j817 => (tb_ix (x3 + (2 : Int32)) (S 0 2560).toNatClampNeg).bind fun j822 => (tb_cI d mX7_idle [.ref 1, .int (S 0 j817), .int (S 0 j822)] S).bind fun q823 => (tb_ix (x3 + (1 : Int32)) ((q823.2) 0 2560).toNatClampNeg).bind fun j831 => (tb_ix (x3 + (2 : Int32)) ((q823.2) 0 2560).toNatClampNeg).bind fun j836 => (tb_cI d mX8_idle [.ref 45, .int ((q823.2) 0 j831), .int ((q823.2) 0 j836)] (q823.2)).bind fun q837 => (if q823.1 = q837.1 then tb_E d mL_law tb_dI 1295 [.ref 0, .ref 1, .ref 45, .int x3] [] tb_S (q837.2) else some ((0 : Int32), q837.2))) = some r) : tb_E d mL_law tb_dI 812 [.ref 0, .ref 1, .ref 45, .int x3] [] tb_S S = some r := by
  refine x_aload_n (pc' := 813) dL_law_812 rfl rfl ?_
  refine x_aload_n (pc' := 814) dL_law_813 rfl rfl ?_
  refine x_iload_n (pc' := 815) dL_law_814 rfl rfl ?_
  refine x_iconst (pc' := 816) (w := (1 : Int32)) dL_law_815 rfl k_ic_1 ?_
  refine x_iadd (pc' := 817) dL_law_816 rfl ?_
  obtain ⟨j817, hj817, h⟩ := Option.bind_eq_some_iff.mp h
  refine x_iaload54 (pc' := 818) (v := S 0 j817) dL_law_817 rfl sh_0 hj817 rfl ?_
  refine x_aload_n (pc' := 819) dL_law_818 rfl rfl ?_
  refine x_iload_n (pc' := 820) dL_law_819 rfl rfl ?_
  refine x_iconst (pc' := 821) (w := (2 : Int32)) dL_law_820 rfl k_ic_2 ?_
  refine x_iadd (pc' := 822) dL_law_821 rfl ?_
  obtain ⟨j822, hj822, h⟩ := Option.bind_eq_some_iff.mp h
  refine x_iaload54 (pc' := 823) (v := S 0 j822) dL_law_822 rfl sh_0 hj822 rfl ?_
  obtain ⟨q823, hq823, h⟩ := Option.bind_eq_some_iff.mp h
  refine x_virtI (pc' := 826) (o := 1) (as := [.int (S 0 j817), .int (S 0 j822)]) (rest := []) dL_law_823 rfl lm_9_103 rfl rfl rfl sh_1 rfl hq823 ?_
  refine x_aload_n (pc' := 827) dL_law_826 rfl rfl ?_
  refine x_aload_n (pc' := 828) dL_law_827 rfl rfl ?_
  refine x_iload_n (pc' := 829) dL_law_828 rfl rfl ?_
  refine x_iconst (pc' := 830) (w := (1 : Int32)) dL_law_829 rfl k_ic_1 ?_
  refine x_iadd (pc' := 831) dL_law_830 rfl ?_
  obtain ⟨j831, hj831, h⟩ := Option.bind_eq_some_iff.mp h
  refine x_iaload54 (pc' := 832) (v := (q823.2) 0 j831) dL_law_831 rfl sh_0 hj831 rfl ?_
  refine x_aload_n (pc' := 833) dL_law_832 rfl rfl ?_
  refine x_iload_n (pc' := 834) dL_law_833 rfl rfl ?_
  refine x_iconst (pc' := 835) (w := (2 : Int32)) dL_law_834 rfl k_ic_2 ?_
  refine x_iadd (pc' := 836) dL_law_835 rfl ?_
  obtain ⟨j836, hj836, h⟩ := Option.bind_eq_some_iff.mp h
  refine x_iaload54 (pc' := 837) (v := (q823.2) 0 j836) dL_law_836 rfl sh_0 hj836 rfl ?_
  obtain ⟨q837, hq837, h⟩ := Option.bind_eq_some_iff.mp h
  refine x_virtI (pc' := 840) (o := 45) (as := [.int ((q823.2) 0 j831), .int ((q823.2) 0 j836)]) (rest := [.int (q823.1)]) dL_law_837 rfl lm_9_106 rfl rfl rfl sh_45 rfl hq837 ?_
  by_cases c840 : q823.1 = q837.1
  · replace h := (if_pos c840).symm.trans h
    refine x_icmp_eq_t (pc' := 1295) dL_law_840 (by decide) c840 ?_
    exact h
  · replace h := (if_neg c840).symm.trans h
    refine x_icmp_eq_f (pc' := 843) dL_law_840 (by decide) rfl c840 ?_
    refine x_iconst (pc' := 844) (w := (0 : Int32)) dL_law_843 rfl k_ic_0 ?_
    exact x_zret dL_law_844 rfl (Or.inl rfl) ((tb_dI_ok _ _).trans h)
theorem BL_law_845 {d : Nat} {x3 : Int32} {S : tb_St} {r : Int32 × tb_St} (h : ((tb_ix (x3 + (1 : Int32)) (S 0 2560).toNatClampNeg).bind fun j850 => (tb_ix (x3 + (2 : Int32)) (S 0 2560).toNatClampNeg).bind fun j855 => (tb_cI d mX7_overlap [.ref 1, .int (S 0 j850), .int (S 0 j855)] S).bind fun q856 => (tb_ix (x3 + (1 : Int32)) ((q856.2) 0 2560).toNatClampNeg).bind fun j864 => (tb_ix (x3 + (2 : Int32)) ((q856.2) 0 2560).toNatClampNeg).bind fun j869 => (tb_cI d mX8_overlap [.ref 45, .int ((q856.2) 0 j864), .int ((q856.2) 0 j869)] (q856.2)).bind fun q870 => (if q856.1 = q870.1 then tb_E d mL_law tb_dI 1295 [.ref 0, .ref 1, .ref 45, .int x3] [] tb_S (q870.2) else some ((0 : Int32), q870.2))) = some r) : tb_E d mL_law tb_dI 845 [.ref 0, .ref 1, .ref 45, .int x3] [] tb_S S = some r := by
  refine x_aload_n (pc' := 846) dL_law_845 rfl rfl ?_
  refine x_aload_n (pc' := 847) dL_law_846 rfl rfl ?_
  refine x_iload_n (pc' := 848) dL_law_847 rfl rfl ?_
  refine x_iconst (pc' := 849) (w := (1 : Int32)) dL_law_848 rfl k_ic_1 ?_
  refine x_iadd (pc' := 850) dL_law_849 rfl ?_
  obtain ⟨j850, hj850, h⟩ := Option.bind_eq_some_iff.mp h
  refine x_iaload54 (pc' := 851) (v := S 0 j850) dL_law_850 rfl sh_0 hj850 rfl ?_
  refine x_aload_n (pc' := 852) dL_law_851 rfl rfl ?_
  refine x_iload_n (pc' := 853) dL_law_852 rfl rfl ?_
  refine x_iconst (pc' := 854) (w := (2 : Int32)) dL_law_853 rfl k_ic_2 ?_
  refine x_iadd (pc' := 855) dL_law_854 rfl ?_
  obtain ⟨j855, hj855, h⟩ := Option.bind_eq_some_iff.mp h
  refine x_iaload54 (pc' := 856) (v := S 0 j855) dL_law_855 rfl sh_0 hj855 rfl ?_
  obtain ⟨q856, hq856, h⟩ := Option.bind_eq_some_iff.mp h
  refine x_virtI (pc' := 859) (o := 1) (as := [.int (S 0 j850), .int (S 0 j855)]) (rest := []) dL_law_856 rfl lm_9_107 rfl rfl rfl sh_1 rfl hq856 ?_
  refine x_aload_n (pc' := 860) dL_law_859 rfl rfl ?_
  refine x_aload_n (pc' := 861) dL_law_860 rfl rfl ?_
  refine x_iload_n (pc' := 862) dL_law_861 rfl rfl ?_
  refine x_iconst (pc' := 863) (w := (1 : Int32)) dL_law_862 rfl k_ic_1 ?_
  refine x_iadd (pc' := 864) dL_law_863 rfl ?_
  obtain ⟨j864, hj864, h⟩ := Option.bind_eq_some_iff.mp h
  refine x_iaload54 (pc' := 865) (v := (q856.2) 0 j864) dL_law_864 rfl sh_0 hj864 rfl ?_
  refine x_aload_n (pc' := 866) dL_law_865 rfl rfl ?_
  refine x_iload_n (pc' := 867) dL_law_866 rfl rfl ?_
  refine x_iconst (pc' := 868) (w := (2 : Int32)) dL_law_867 rfl k_ic_2 ?_
  refine x_iadd (pc' := 869) dL_law_868 rfl ?_
  obtain ⟨j869, hj869, h⟩ := Option.bind_eq_some_iff.mp h
  refine x_iaload54 (pc' := 870) (v := (q856.2) 0 j869) dL_law_869 rfl sh_0 hj869 rfl ?_
  obtain ⟨q870, hq870, h⟩ := Option.bind_eq_some_iff.mp h
  refine x_virtI (pc' := 873) (o := 45) (as := [.int ((q856.2) 0 j864), .int ((q856.2) 0 j869)]) (rest := [.int (q856.1)]) dL_law_870 rfl lm_9_110 rfl rfl rfl sh_45 rfl hq870 ?_
  by_cases c873 : q856.1 = q870.1
  · replace h := (if_pos c873).symm.trans h
    refine x_icmp_eq_t (pc' := 1295) dL_law_873 (by decide) c873 ?_
    exact h
  · replace h := (if_neg c873).symm.trans h
    refine x_icmp_eq_f (pc' := 876) dL_law_873 (by decide) rfl c873 ?_
    refine x_iconst (pc' := 877) (w := (0 : Int32)) dL_law_876 rfl k_ic_0 ?_
    exact x_zret dL_law_877 rfl (Or.inl rfl) ((tb_dI_ok _ _).trans h)
theorem BL_law_878 {d : Nat} {x3 : Int32} {S : tb_St} {r : Int32 × tb_St} (h : ((tb_ix (x3 + (1 : Int32)) (S 0 2560).toNatClampNeg).bind fun j883 => (tb_ix (x3 + (2 : Int32)) (S 0 2560).toNatClampNeg).bind fun j888 => (tb_ix (x3 + (3 : Int32)) (S 0 2560).toNatClampNeg).bind fun j893 => (tb_ix (x3 + (4 : Int32)) (S 0 2560).toNatClampNeg).bind fun j898 => (tb_cI d mX7_would [.ref 1, .int (S 0 j883), .int (S 0 j888), .int (S 0 j893), .int (S 0 j898)] S).bind fun q899 => (tb_ix (x3 + (1 : Int32)) ((q899.2) 0 2560).toNatClampNeg).bind fun j907 => (tb_ix (x3 + (2 : Int32)) ((q899.2) 0 2560).toNatClampNeg).bind fun j912 => (tb_ix (x3 + (3 : Int32)) ((q899.2) 0 2560).toNatClampNeg).bind fun j917 => (tb_ix (x3 + (4 : Int32)) ((q899.2) 0 2560).toNatClampNeg).bind fun j922 => (tb_cI d mX8_would [.ref 45, .int ((q899.2) 0 j907), .int ((q899.2) 0 j912), .int ((q899.2) 0 j917), .int ((q899.2) 0 j922)] (q899.2)).bind fun q923 => (if q899.1 = q923.1 then tb_E d mL_law tb_dI 1295 [.ref 0, .ref 1, .ref 45, .int x3] [] tb_S (q923.2) else some ((0 : Int32), q923.2))) = some r) : tb_E d mL_law tb_dI 878 [.ref 0, .ref 1, .ref 45, .int x3] [] tb_S S = some r := by
  refine x_aload_n (pc' := 879) dL_law_878 rfl rfl ?_
  refine x_aload_n (pc' := 880) dL_law_879 rfl rfl ?_
  refine x_iload_n (pc' := 881) dL_law_880 rfl rfl ?_
  refine x_iconst (pc' := 882) (w := (1 : Int32)) dL_law_881 rfl k_ic_1 ?_
  refine x_iadd (pc' := 883) dL_law_882 rfl ?_
  obtain ⟨j883, hj883, h⟩ := Option.bind_eq_some_iff.mp h
  refine x_iaload54 (pc' := 884) (v := S 0 j883) dL_law_883 rfl sh_0 hj883 rfl ?_
  refine x_aload_n (pc' := 885) dL_law_884 rfl rfl ?_
  refine x_iload_n (pc' := 886) dL_law_885 rfl rfl ?_
  refine x_iconst (pc' := 887) (w := (2 : Int32)) dL_law_886 rfl k_ic_2 ?_
  refine x_iadd (pc' := 888) dL_law_887 rfl ?_
  obtain ⟨j888, hj888, h⟩ := Option.bind_eq_some_iff.mp h
  refine x_iaload54 (pc' := 889) (v := S 0 j888) dL_law_888 rfl sh_0 hj888 rfl ?_
  refine x_aload_n (pc' := 890) dL_law_889 rfl rfl ?_
  refine x_iload_n (pc' := 891) dL_law_890 rfl rfl ?_
  refine x_iconst (pc' := 892) (w := (3 : Int32)) dL_law_891 rfl k_ic_3 ?_
  refine x_iadd (pc' := 893) dL_law_892 rfl ?_
  obtain ⟨j893, hj893, h⟩ := Option.bind_eq_some_iff.mp h
  refine x_iaload54 (pc' := 894) (v := S 0 j893) dL_law_893 rfl sh_0 hj893 rfl ?_
  refine x_aload_n (pc' := 895) dL_law_894 rfl rfl ?_
  refine x_iload_n (pc' := 896) dL_law_895 rfl rfl ?_
  refine x_iconst (pc' := 897) (w := (4 : Int32)) dL_law_896 rfl k_ic_4 ?_
  refine x_iadd (pc' := 898) dL_law_897 rfl ?_
  obtain ⟨j898, hj898, h⟩ := Option.bind_eq_some_iff.mp h
  refine x_iaload54 (pc' := 899) (v := S 0 j898) dL_law_898 rfl sh_0 hj898 rfl ?_
  obtain ⟨q899, hq899, h⟩ := Option.bind_eq_some_iff.mp h
  refine x_virtI (pc' := 902) (o := 1) (as := [.int (S 0 j883), .int (S 0 j888), .int (S 0 j893), .int (S 0 j898)]) (rest := []) dL_law_899 rfl lm_9_111 rfl rfl rfl sh_1 rfl hq899 ?_
  refine x_aload_n (pc' := 903) dL_law_902 rfl rfl ?_
  refine x_aload_n (pc' := 904) dL_law_903 rfl rfl ?_
  refine x_iload_n (pc' := 905) dL_law_904 rfl rfl ?_
  refine x_iconst (pc' := 906) (w := (1 : Int32)) dL_law_905 rfl k_ic_1 ?_
  refine x_iadd (pc' := 907) dL_law_906 rfl ?_
  obtain ⟨j907, hj907, h⟩ := Option.bind_eq_some_iff.mp h
  refine x_iaload54 (pc' := 908) (v := (q899.2) 0 j907) dL_law_907 rfl sh_0 hj907 rfl ?_
  refine x_aload_n (pc' := 909) dL_law_908 rfl rfl ?_
  refine x_iload_n (pc' := 910) dL_law_909 rfl rfl ?_
  refine x_iconst (pc' := 911) (w := (2 : Int32)) dL_law_910 rfl k_ic_2 ?_
  refine x_iadd (pc' := 912) dL_law_911 rfl ?_
  obtain ⟨j912, hj912, h⟩ := Option.bind_eq_some_iff.mp h
  refine x_iaload54 (pc' := 913) (v := (q899.2) 0 j912) dL_law_912 rfl sh_0 hj912 rfl ?_
  refine x_aload_n (pc' := 914) dL_law_913 rfl rfl ?_
  refine x_iload_n (pc' := 915) dL_law_914 rfl rfl ?_
  refine x_iconst (pc' := 916) (w := (3 : Int32)) dL_law_915 rfl k_ic_3 ?_
  refine x_iadd (pc' := 917) dL_law_916 rfl ?_
  obtain ⟨j917, hj917, h⟩ := Option.bind_eq_some_iff.mp h
  refine x_iaload54 (pc' := 918) (v := (q899.2) 0 j917) dL_law_917 rfl sh_0 hj917 rfl ?_
  refine x_aload_n (pc' := 919) dL_law_918 rfl rfl ?_
  refine x_iload_n (pc' := 920) dL_law_919 rfl rfl ?_
  refine x_iconst (pc' := 921) (w := (4 : Int32)) dL_law_920 rfl k_ic_4 ?_
  refine x_iadd (pc' := 922) dL_law_921 rfl ?_
  obtain ⟨j922, hj922, h⟩ := Option.bind_eq_some_iff.mp h
  refine x_iaload54 (pc' := 923) (v := (q899.2) 0 j922) dL_law_922 rfl sh_0 hj922 rfl ?_
  obtain ⟨q923, hq923, h⟩ := Option.bind_eq_some_iff.mp h
  refine x_virtI (pc' := 926) (o := 45) (as := [.int ((q899.2) 0 j907), .int ((q899.2) 0 j912), .int ((q899.2) 0 j917), .int ((q899.2) 0 j922)]) (rest := [.int (q899.1)]) dL_law_923 rfl lm_9_114 rfl rfl rfl sh_45 rfl hq923 ?_
  by_cases c926 : q899.1 = q923.1
  · replace h := (if_pos c926).symm.trans h
    refine x_icmp_eq_t (pc' := 1295) dL_law_926 (by decide) c926 ?_
    exact h
  · replace h := (if_neg c926).symm.trans h
    refine x_icmp_eq_f (pc' := 929) dL_law_926 (by decide) rfl c926 ?_
    refine x_iconst (pc' := 930) (w := (0 : Int32)) dL_law_929 rfl k_ic_0 ?_
    exact x_zret dL_law_930 rfl (Or.inl rfl) ((tb_dI_ok _ _).trans h)
theorem BL_law_931 {d : Nat} {x3 : Int32} {S : tb_St} {r : Int32 × tb_St} (h : ((tb_ix (x3 + (1 : Int32)) (S 0 2560).toNatClampNeg).bind fun j936 => (tb_ix (x3 + (2 : Int32)) (S 0 2560).toNatClampNeg).bind fun j941 => (tb_cI d mX7_paid [.ref 1, .int (S 0 j936), .int (S 0 j941)] S).bind fun q942 => (tb_ix (x3 + (1 : Int32)) ((q942.2) 0 2560).toNatClampNeg).bind fun j950 => (tb_ix (x3 + (2 : Int32)) ((q942.2) 0 2560).toNatClampNeg).bind fun j955 => (tb_cI d mX8_paid [.ref 45, .int ((q942.2) 0 j950), .int ((q942.2) 0 j955)] (q942.2)).bind fun q956 => (if q942.1 = q956.1 then tb_E d mL_law tb_dI 1295 [.ref 0, .ref 1, .ref 45, .int x3] [] tb_S (q956.2) else some ((0 : Int32), q956.2))) = some r) : tb_E d mL_law tb_dI 931 [.ref 0, .ref 1, .ref 45, .int x3] [] tb_S S = some r := by
  refine x_aload_n (pc' := 932) dL_law_931 rfl rfl ?_
  refine x_aload_n (pc' := 933) dL_law_932 rfl rfl ?_
  refine x_iload_n (pc' := 934) dL_law_933 rfl rfl ?_
  refine x_iconst (pc' := 935) (w := (1 : Int32)) dL_law_934 rfl k_ic_1 ?_
  refine x_iadd (pc' := 936) dL_law_935 rfl ?_
  obtain ⟨j936, hj936, h⟩ := Option.bind_eq_some_iff.mp h
  refine x_iaload54 (pc' := 937) (v := S 0 j936) dL_law_936 rfl sh_0 hj936 rfl ?_
  refine x_aload_n (pc' := 938) dL_law_937 rfl rfl ?_
  refine x_iload_n (pc' := 939) dL_law_938 rfl rfl ?_
  refine x_iconst (pc' := 940) (w := (2 : Int32)) dL_law_939 rfl k_ic_2 ?_
  refine x_iadd (pc' := 941) dL_law_940 rfl ?_
  obtain ⟨j941, hj941, h⟩ := Option.bind_eq_some_iff.mp h
  refine x_iaload54 (pc' := 942) (v := S 0 j941) dL_law_941 rfl sh_0 hj941 rfl ?_
  obtain ⟨q942, hq942, h⟩ := Option.bind_eq_some_iff.mp h
  refine x_virtI (pc' := 945) (o := 1) (as := [.int (S 0 j936), .int (S 0 j941)]) (rest := []) dL_law_942 rfl lm_9_115 rfl rfl rfl sh_1 rfl hq942 ?_
  refine x_aload_n (pc' := 946) dL_law_945 rfl rfl ?_
  refine x_aload_n (pc' := 947) dL_law_946 rfl rfl ?_
  refine x_iload_n (pc' := 948) dL_law_947 rfl rfl ?_
  refine x_iconst (pc' := 949) (w := (1 : Int32)) dL_law_948 rfl k_ic_1 ?_
  refine x_iadd (pc' := 950) dL_law_949 rfl ?_
  obtain ⟨j950, hj950, h⟩ := Option.bind_eq_some_iff.mp h
  refine x_iaload54 (pc' := 951) (v := (q942.2) 0 j950) dL_law_950 rfl sh_0 hj950 rfl ?_
  refine x_aload_n (pc' := 952) dL_law_951 rfl rfl ?_
  refine x_iload_n (pc' := 953) dL_law_952 rfl rfl ?_
  refine x_iconst (pc' := 954) (w := (2 : Int32)) dL_law_953 rfl k_ic_2 ?_
  refine x_iadd (pc' := 955) dL_law_954 rfl ?_
  obtain ⟨j955, hj955, h⟩ := Option.bind_eq_some_iff.mp h
  refine x_iaload54 (pc' := 956) (v := (q942.2) 0 j955) dL_law_955 rfl sh_0 hj955 rfl ?_
  obtain ⟨q956, hq956, h⟩ := Option.bind_eq_some_iff.mp h
  refine x_virtI (pc' := 959) (o := 45) (as := [.int ((q942.2) 0 j950), .int ((q942.2) 0 j955)]) (rest := [.int (q942.1)]) dL_law_956 rfl lm_9_118 rfl rfl rfl sh_45 rfl hq956 ?_
  by_cases c959 : q942.1 = q956.1
  · replace h := (if_pos c959).symm.trans h
    refine x_icmp_eq_t (pc' := 1295) dL_law_959 (by decide) c959 ?_
    exact h
  · replace h := (if_neg c959).symm.trans h
    refine x_icmp_eq_f (pc' := 962) dL_law_959 (by decide) rfl c959 ?_
    refine x_iconst (pc' := 963) (w := (0 : Int32)) dL_law_962 rfl k_ic_0 ?_
    exact x_zret dL_law_963 rfl (Or.inl rfl) ((tb_dI_ok _ _).trans h)
theorem BL_law_964 {d : Nat} {x3 : Int32} {S : tb_St} {r : Int32 × tb_St} (h : ((tb_ix (x3 + (1 : Int32)) (S 0 2560).toNatClampNeg).bind fun j969 => (tb_ix (x3 + (2 : Int32)) (S 0 2560).toNatClampNeg).bind fun j974 => (tb_ix (x3 + (3 : Int32)) (S 0 2560).toNatClampNeg).bind fun j979 => (tb_cI d mX7_fits [.ref 1, .int (S 0 j969), .int (S 0 j974), .int (S 0 j979)] S).bind fun q980 => (tb_ix (x3 + (1 : Int32)) ((q980.2) 0 2560).toNatClampNeg).bind fun j988 => (tb_ix (x3 + (2 : Int32)) ((q980.2) 0 2560).toNatClampNeg).bind fun j993 => (tb_ix (x3 + (3 : Int32)) ((q980.2) 0 2560).toNatClampNeg).bind fun j998 => (tb_cI d mX8_fits [.ref 45, .int ((q980.2) 0 j988), .int ((q980.2) 0 j993), .int ((q980.2) 0 j998)] (q980.2)).bind fun q999 => (if q980.1 = q999.1 then tb_E d mL_law tb_dI 1295 [.ref 0, .ref 1, .ref 45, .int x3] [] tb_S (q999.2) else some ((0 : Int32), q999.2))) = some r) : tb_E d mL_law tb_dI 964 [.ref 0, .ref 1, .ref 45, .int x3] [] tb_S S = some r := by
  refine x_aload_n (pc' := 965) dL_law_964 rfl rfl ?_
  refine x_aload_n (pc' := 966) dL_law_965 rfl rfl ?_
  refine x_iload_n (pc' := 967) dL_law_966 rfl rfl ?_
  refine x_iconst (pc' := 968) (w := (1 : Int32)) dL_law_967 rfl k_ic_1 ?_
  refine x_iadd (pc' := 969) dL_law_968 rfl ?_
  obtain ⟨j969, hj969, h⟩ := Option.bind_eq_some_iff.mp h
  refine x_iaload54 (pc' := 970) (v := S 0 j969) dL_law_969 rfl sh_0 hj969 rfl ?_
  refine x_aload_n (pc' := 971) dL_law_970 rfl rfl ?_
  refine x_iload_n (pc' := 972) dL_law_971 rfl rfl ?_
  refine x_iconst (pc' := 973) (w := (2 : Int32)) dL_law_972 rfl k_ic_2 ?_
  refine x_iadd (pc' := 974) dL_law_973 rfl ?_
  obtain ⟨j974, hj974, h⟩ := Option.bind_eq_some_iff.mp h
  refine x_iaload54 (pc' := 975) (v := S 0 j974) dL_law_974 rfl sh_0 hj974 rfl ?_
  refine x_aload_n (pc' := 976) dL_law_975 rfl rfl ?_
  refine x_iload_n (pc' := 977) dL_law_976 rfl rfl ?_
  refine x_iconst (pc' := 978) (w := (3 : Int32)) dL_law_977 rfl k_ic_3 ?_
  refine x_iadd (pc' := 979) dL_law_978 rfl ?_
  obtain ⟨j979, hj979, h⟩ := Option.bind_eq_some_iff.mp h
  refine x_iaload54 (pc' := 980) (v := S 0 j979) dL_law_979 rfl sh_0 hj979 rfl ?_
  obtain ⟨q980, hq980, h⟩ := Option.bind_eq_some_iff.mp h
  refine x_virtI (pc' := 983) (o := 1) (as := [.int (S 0 j969), .int (S 0 j974), .int (S 0 j979)]) (rest := []) dL_law_980 rfl lm_9_119 rfl rfl rfl sh_1 rfl hq980 ?_
  refine x_aload_n (pc' := 984) dL_law_983 rfl rfl ?_
  refine x_aload_n (pc' := 985) dL_law_984 rfl rfl ?_
  refine x_iload_n (pc' := 986) dL_law_985 rfl rfl ?_
  refine x_iconst (pc' := 987) (w := (1 : Int32)) dL_law_986 rfl k_ic_1 ?_
  refine x_iadd (pc' := 988) dL_law_987 rfl ?_
  obtain ⟨j988, hj988, h⟩ := Option.bind_eq_some_iff.mp h
  refine x_iaload54 (pc' := 989) (v := (q980.2) 0 j988) dL_law_988 rfl sh_0 hj988 rfl ?_
  refine x_aload_n (pc' := 990) dL_law_989 rfl rfl ?_
  refine x_iload_n (pc' := 991) dL_law_990 rfl rfl ?_
  refine x_iconst (pc' := 992) (w := (2 : Int32)) dL_law_991 rfl k_ic_2 ?_
  refine x_iadd (pc' := 993) dL_law_992 rfl ?_
  obtain ⟨j993, hj993, h⟩ := Option.bind_eq_some_iff.mp h
  refine x_iaload54 (pc' := 994) (v := (q980.2) 0 j993) dL_law_993 rfl sh_0 hj993 rfl ?_
  refine x_aload_n (pc' := 995) dL_law_994 rfl rfl ?_
  refine x_iload_n (pc' := 996) dL_law_995 rfl rfl ?_
  refine x_iconst (pc' := 997) (w := (3 : Int32)) dL_law_996 rfl k_ic_3 ?_
  refine x_iadd (pc' := 998) dL_law_997 rfl ?_
  obtain ⟨j998, hj998, h⟩ := Option.bind_eq_some_iff.mp h
  refine x_iaload54 (pc' := 999) (v := (q980.2) 0 j998) dL_law_998 rfl sh_0 hj998 rfl ?_
  obtain ⟨q999, hq999, h⟩ := Option.bind_eq_some_iff.mp h
  refine x_virtI (pc' := 1002) (o := 45) (as := [.int ((q980.2) 0 j988), .int ((q980.2) 0 j993), .int ((q980.2) 0 j998)]) (rest := [.int (q980.1)]) dL_law_999 rfl lm_9_122 rfl rfl rfl sh_45 rfl hq999 ?_
  by_cases c1002 : q980.1 = q999.1
  · replace h := (if_pos c1002).symm.trans h
    refine x_icmp_eq_t (pc' := 1295) dL_law_1002 (by decide) c1002 ?_
    exact h
  · replace h := (if_neg c1002).symm.trans h
    refine x_icmp_eq_f (pc' := 1005) dL_law_1002 (by decide) rfl c1002 ?_
    refine x_iconst (pc' := 1006) (w := (0 : Int32)) dL_law_1005 rfl k_ic_0 ?_
    exact x_zret dL_law_1006 rfl (Or.inl rfl) ((tb_dI_ok _ _).trans h)
theorem BL_law_1007 {d : Nat} {x3 : Int32} {S : tb_St} {r : Int32 × tb_St} (h : ((tb_ix (x3 + (1 : Int32)) (S 0 2560).toNatClampNeg).bind fun j1012 => (tb_ix (x3 + (2 : Int32)) (S 0 2560).toNatClampNeg).bind fun j1017 => (tb_ix (x3 + (3 : Int32)) (S 0 2560).toNatClampNeg).bind fun j1022 => (tb_ix (x3 + (4 : Int32)) (S 0 2560).toNatClampNeg).bind fun j1027 => (tb_cI d mX7_till [.ref 1, .int (S 0 j1012), .int (S 0 j1017), .int (S 0 j1022), .int (S 0 j1027)] S).bind fun q1028 => (tb_ix (x3 + (1 : Int32)) ((q1028.2) 0 2560).toNatClampNeg).bind fun j1036 => (tb_ix (x3 + (2 : Int32)) ((q1028.2) 0 2560).toNatClampNeg).bind fun j1041 => (tb_ix (x3 + (3 : Int32)) ((q1028.2) 0 2560).toNatClampNeg).bind fun j1046 => (tb_ix (x3 + (4 : Int32)) ((q1028.2) 0 2560).toNatClampNeg).bind fun j1051 => (tb_cI d mX8_till [.ref 45, .int ((q1028.2) 0 j1036), .int ((q1028.2) 0 j1041), .int ((q1028.2) 0 j1046), .int ((q1028.2) 0 j1051)] (q1028.2)).bind fun q1052 => (if q1028.1 = q1052.1 then tb_E d mL_law tb_dI 1295 [.ref 0, .ref 1, .ref 45, .int x3] [] tb_S (q1052.2) else some ((0 : Int32), q1052.2))) = some r) : tb_E d mL_law tb_dI 1007 [.ref 0, .ref 1, .ref 45, .int x3] [] tb_S S = some r := by
  refine x_aload_n (pc' := 1008) dL_law_1007 rfl rfl ?_
  refine x_aload_n (pc' := 1009) dL_law_1008 rfl rfl ?_
  refine x_iload_n (pc' := 1010) dL_law_1009 rfl rfl ?_
  refine x_iconst (pc' := 1011) (w := (1 : Int32)) dL_law_1010 rfl k_ic_1 ?_
  refine x_iadd (pc' := 1012) dL_law_1011 rfl ?_
  obtain ⟨j1012, hj1012, h⟩ := Option.bind_eq_some_iff.mp h
  refine x_iaload54 (pc' := 1013) (v := S 0 j1012) dL_law_1012 rfl sh_0 hj1012 rfl ?_
  refine x_aload_n (pc' := 1014) dL_law_1013 rfl rfl ?_
  refine x_iload_n (pc' := 1015) dL_law_1014 rfl rfl ?_
  refine x_iconst (pc' := 1016) (w := (2 : Int32)) dL_law_1015 rfl k_ic_2 ?_
  refine x_iadd (pc' := 1017) dL_law_1016 rfl ?_
  obtain ⟨j1017, hj1017, h⟩ := Option.bind_eq_some_iff.mp h
  refine x_iaload54 (pc' := 1018) (v := S 0 j1017) dL_law_1017 rfl sh_0 hj1017 rfl ?_
  refine x_aload_n (pc' := 1019) dL_law_1018 rfl rfl ?_
  refine x_iload_n (pc' := 1020) dL_law_1019 rfl rfl ?_
  refine x_iconst (pc' := 1021) (w := (3 : Int32)) dL_law_1020 rfl k_ic_3 ?_
  refine x_iadd (pc' := 1022) dL_law_1021 rfl ?_
  obtain ⟨j1022, hj1022, h⟩ := Option.bind_eq_some_iff.mp h
  refine x_iaload54 (pc' := 1023) (v := S 0 j1022) dL_law_1022 rfl sh_0 hj1022 rfl ?_
  refine x_aload_n (pc' := 1024) dL_law_1023 rfl rfl ?_
  refine x_iload_n (pc' := 1025) dL_law_1024 rfl rfl ?_
  refine x_iconst (pc' := 1026) (w := (4 : Int32)) dL_law_1025 rfl k_ic_4 ?_
  refine x_iadd (pc' := 1027) dL_law_1026 rfl ?_
  obtain ⟨j1027, hj1027, h⟩ := Option.bind_eq_some_iff.mp h
  refine x_iaload54 (pc' := 1028) (v := S 0 j1027) dL_law_1027 rfl sh_0 hj1027 rfl ?_
  obtain ⟨q1028, hq1028, h⟩ := Option.bind_eq_some_iff.mp h
  refine x_virtI (pc' := 1031) (o := 1) (as := [.int (S 0 j1012), .int (S 0 j1017), .int (S 0 j1022), .int (S 0 j1027)]) (rest := []) dL_law_1028 rfl lm_9_123 rfl rfl rfl sh_1 rfl hq1028 ?_
  refine x_aload_n (pc' := 1032) dL_law_1031 rfl rfl ?_
  refine x_aload_n (pc' := 1033) dL_law_1032 rfl rfl ?_
  refine x_iload_n (pc' := 1034) dL_law_1033 rfl rfl ?_
  refine x_iconst (pc' := 1035) (w := (1 : Int32)) dL_law_1034 rfl k_ic_1 ?_
  refine x_iadd (pc' := 1036) dL_law_1035 rfl ?_
  obtain ⟨j1036, hj1036, h⟩ := Option.bind_eq_some_iff.mp h
  refine x_iaload54 (pc' := 1037) (v := (q1028.2) 0 j1036) dL_law_1036 rfl sh_0 hj1036 rfl ?_
  refine x_aload_n (pc' := 1038) dL_law_1037 rfl rfl ?_
  refine x_iload_n (pc' := 1039) dL_law_1038 rfl rfl ?_
  refine x_iconst (pc' := 1040) (w := (2 : Int32)) dL_law_1039 rfl k_ic_2 ?_
  refine x_iadd (pc' := 1041) dL_law_1040 rfl ?_
  obtain ⟨j1041, hj1041, h⟩ := Option.bind_eq_some_iff.mp h
  refine x_iaload54 (pc' := 1042) (v := (q1028.2) 0 j1041) dL_law_1041 rfl sh_0 hj1041 rfl ?_
  refine x_aload_n (pc' := 1043) dL_law_1042 rfl rfl ?_
  refine x_iload_n (pc' := 1044) dL_law_1043 rfl rfl ?_
  refine x_iconst (pc' := 1045) (w := (3 : Int32)) dL_law_1044 rfl k_ic_3 ?_
  refine x_iadd (pc' := 1046) dL_law_1045 rfl ?_
  obtain ⟨j1046, hj1046, h⟩ := Option.bind_eq_some_iff.mp h
  refine x_iaload54 (pc' := 1047) (v := (q1028.2) 0 j1046) dL_law_1046 rfl sh_0 hj1046 rfl ?_
  refine x_aload_n (pc' := 1048) dL_law_1047 rfl rfl ?_
  refine x_iload_n (pc' := 1049) dL_law_1048 rfl rfl ?_
  refine x_iconst (pc' := 1050) (w := (4 : Int32)) dL_law_1049 rfl k_ic_4 ?_
  refine x_iadd (pc' := 1051) dL_law_1050 rfl ?_
  obtain ⟨j1051, hj1051, h⟩ := Option.bind_eq_some_iff.mp h
  refine x_iaload54 (pc' := 1052) (v := (q1028.2) 0 j1051) dL_law_1051 rfl sh_0 hj1051 rfl ?_
  obtain ⟨q1052, hq1052, h⟩ := Option.bind_eq_some_iff.mp h
  refine x_virtI (pc' := 1055) (o := 45) (as := [.int ((q1028.2) 0 j1036), .int ((q1028.2) 0 j1041), .int ((q1028.2) 0 j1046), .int ((q1028.2) 0 j1051)]) (rest := [.int (q1028.1)]) dL_law_1052 rfl lm_9_126 rfl rfl rfl sh_45 rfl hq1052 ?_
  by_cases c1055 : q1028.1 = q1052.1
  · replace h := (if_pos c1055).symm.trans h
    refine x_icmp_eq_t (pc' := 1295) dL_law_1055 (by decide) c1055 ?_
    exact h
  · replace h := (if_neg c1055).symm.trans h
    refine x_icmp_eq_f (pc' := 1058) dL_law_1055 (by decide) rfl c1055 ?_
    refine x_iconst (pc' := 1059) (w := (0 : Int32)) dL_law_1058 rfl k_ic_0 ?_
    exact x_zret dL_law_1059 rfl (Or.inl rfl) ((tb_dI_ok _ _).trans h)
theorem BL_law_1060 {d : Nat} {x3 : Int32} {S : tb_St} {r : Int32 × tb_St} (h : ((tb_ix (x3 + (1 : Int32)) (S 0 2560).toNatClampNeg).bind fun j1065 => (tb_ix (x3 + (2 : Int32)) (S 0 2560).toNatClampNeg).bind fun j1070 => (tb_cI d mX7_rack [.ref 1, .int (S 0 j1065), .int (S 0 j1070)] S).bind fun q1071 => (tb_ix (x3 + (1 : Int32)) ((q1071.2) 0 2560).toNatClampNeg).bind fun j1079 => (tb_ix (x3 + (2 : Int32)) ((q1071.2) 0 2560).toNatClampNeg).bind fun j1084 => (tb_cI d mX8_rack [.ref 45, .int ((q1071.2) 0 j1079), .int ((q1071.2) 0 j1084)] (q1071.2)).bind fun q1085 => (if q1071.1 = q1085.1 then tb_E d mL_law tb_dI 1295 [.ref 0, .ref 1, .ref 45, .int x3] [] tb_S (q1085.2) else some ((0 : Int32), q1085.2))) = some r) : tb_E d mL_law tb_dI 1060 [.ref 0, .ref 1, .ref 45, .int x3] [] tb_S S = some r := by
  refine x_aload_n (pc' := 1061) dL_law_1060 rfl rfl ?_
  refine x_aload_n (pc' := 1062) dL_law_1061 rfl rfl ?_
  refine x_iload_n (pc' := 1063) dL_law_1062 rfl rfl ?_
  refine x_iconst (pc' := 1064) (w := (1 : Int32)) dL_law_1063 rfl k_ic_1 ?_
  refine x_iadd (pc' := 1065) dL_law_1064 rfl ?_
  obtain ⟨j1065, hj1065, h⟩ := Option.bind_eq_some_iff.mp h
  refine x_iaload54 (pc' := 1066) (v := S 0 j1065) dL_law_1065 rfl sh_0 hj1065 rfl ?_
  refine x_aload_n (pc' := 1067) dL_law_1066 rfl rfl ?_
  refine x_iload_n (pc' := 1068) dL_law_1067 rfl rfl ?_
  refine x_iconst (pc' := 1069) (w := (2 : Int32)) dL_law_1068 rfl k_ic_2 ?_
  refine x_iadd (pc' := 1070) dL_law_1069 rfl ?_
  obtain ⟨j1070, hj1070, h⟩ := Option.bind_eq_some_iff.mp h
  refine x_iaload54 (pc' := 1071) (v := S 0 j1070) dL_law_1070 rfl sh_0 hj1070 rfl ?_
  obtain ⟨q1071, hq1071, h⟩ := Option.bind_eq_some_iff.mp h
  refine x_virtI (pc' := 1074) (o := 1) (as := [.int (S 0 j1065), .int (S 0 j1070)]) (rest := []) dL_law_1071 rfl lm_9_127 rfl rfl rfl sh_1 rfl hq1071 ?_
  refine x_aload_n (pc' := 1075) dL_law_1074 rfl rfl ?_
  refine x_aload_n (pc' := 1076) dL_law_1075 rfl rfl ?_
  refine x_iload_n (pc' := 1077) dL_law_1076 rfl rfl ?_
  refine x_iconst (pc' := 1078) (w := (1 : Int32)) dL_law_1077 rfl k_ic_1 ?_
  refine x_iadd (pc' := 1079) dL_law_1078 rfl ?_
  obtain ⟨j1079, hj1079, h⟩ := Option.bind_eq_some_iff.mp h
  refine x_iaload54 (pc' := 1080) (v := (q1071.2) 0 j1079) dL_law_1079 rfl sh_0 hj1079 rfl ?_
  refine x_aload_n (pc' := 1081) dL_law_1080 rfl rfl ?_
  refine x_iload_n (pc' := 1082) dL_law_1081 rfl rfl ?_
  refine x_iconst (pc' := 1083) (w := (2 : Int32)) dL_law_1082 rfl k_ic_2 ?_
  refine x_iadd (pc' := 1084) dL_law_1083 rfl ?_
  obtain ⟨j1084, hj1084, h⟩ := Option.bind_eq_some_iff.mp h
  refine x_iaload54 (pc' := 1085) (v := (q1071.2) 0 j1084) dL_law_1084 rfl sh_0 hj1084 rfl ?_
  obtain ⟨q1085, hq1085, h⟩ := Option.bind_eq_some_iff.mp h
  refine x_virtI (pc' := 1088) (o := 45) (as := [.int ((q1071.2) 0 j1079), .int ((q1071.2) 0 j1084)]) (rest := [.int (q1071.1)]) dL_law_1085 rfl lm_9_130 rfl rfl rfl sh_45 rfl hq1085 ?_
  by_cases c1088 : q1071.1 = q1085.1
  · replace h := (if_pos c1088).symm.trans h
    refine x_icmp_eq_t (pc' := 1295) dL_law_1088 (by decide) c1088 ?_
    exact h
  · replace h := (if_neg c1088).symm.trans h
    refine x_icmp_eq_f (pc' := 1091) dL_law_1088 (by decide) rfl c1088 ?_
    refine x_iconst (pc' := 1092) (w := (0 : Int32)) dL_law_1091 rfl k_ic_0 ?_
    exact x_zret dL_law_1092 rfl (Or.inl rfl) ((tb_dI_ok _ _).trans h)
theorem BL_law_1093 {d : Nat} {x3 : Int32} {S : tb_St} {r : Int32 × tb_St} (h : ((tb_ix (x3 + (1 : Int32)) (S 0 2560).toNatClampNeg).bind fun j1098 => (tb_ix (x3 + (2 : Int32)) (S 0 2560).toNatClampNeg).bind fun j1103 => (tb_ix (x3 + (3 : Int32)) (S 0 2560).toNatClampNeg).bind fun j1108 => (tb_cI d mX7_put [.ref 1, .int (S 0 j1098), .int (S 0 j1103), .int (S 0 j1108)] S).bind fun q1109 => (tb_ix (x3 + (1 : Int32)) ((q1109.2) 0 2560).toNatClampNeg).bind fun j1117 => (tb_ix (x3 + (2 : Int32)) ((q1109.2) 0 2560).toNatClampNeg).bind fun j1122 => (tb_ix (x3 + (3 : Int32)) ((q1109.2) 0 2560).toNatClampNeg).bind fun j1127 => (tb_cI d mX8_put [.ref 45, .int ((q1109.2) 0 j1117), .int ((q1109.2) 0 j1122), .int ((q1109.2) 0 j1127)] (q1109.2)).bind fun q1128 => (if q1109.1 = q1128.1 then tb_E d mL_law tb_dI 1295 [.ref 0, .ref 1, .ref 45, .int x3] [] tb_S (q1128.2) else some ((0 : Int32), q1128.2))) = some r) : tb_E d mL_law tb_dI 1093 [.ref 0, .ref 1, .ref 45, .int x3] [] tb_S S = some r := by
  refine x_aload_n (pc' := 1094) dL_law_1093 rfl rfl ?_
  refine x_aload_n (pc' := 1095) dL_law_1094 rfl rfl ?_
  refine x_iload_n (pc' := 1096) dL_law_1095 rfl rfl ?_
  refine x_iconst (pc' := 1097) (w := (1 : Int32)) dL_law_1096 rfl k_ic_1 ?_
  refine x_iadd (pc' := 1098) dL_law_1097 rfl ?_
  obtain ⟨j1098, hj1098, h⟩ := Option.bind_eq_some_iff.mp h
  refine x_iaload54 (pc' := 1099) (v := S 0 j1098) dL_law_1098 rfl sh_0 hj1098 rfl ?_
  refine x_aload_n (pc' := 1100) dL_law_1099 rfl rfl ?_
  refine x_iload_n (pc' := 1101) dL_law_1100 rfl rfl ?_
  refine x_iconst (pc' := 1102) (w := (2 : Int32)) dL_law_1101 rfl k_ic_2 ?_
  refine x_iadd (pc' := 1103) dL_law_1102 rfl ?_
  obtain ⟨j1103, hj1103, h⟩ := Option.bind_eq_some_iff.mp h
  refine x_iaload54 (pc' := 1104) (v := S 0 j1103) dL_law_1103 rfl sh_0 hj1103 rfl ?_
  refine x_aload_n (pc' := 1105) dL_law_1104 rfl rfl ?_
  refine x_iload_n (pc' := 1106) dL_law_1105 rfl rfl ?_
  refine x_iconst (pc' := 1107) (w := (3 : Int32)) dL_law_1106 rfl k_ic_3 ?_
  refine x_iadd (pc' := 1108) dL_law_1107 rfl ?_
  obtain ⟨j1108, hj1108, h⟩ := Option.bind_eq_some_iff.mp h
  refine x_iaload54 (pc' := 1109) (v := S 0 j1108) dL_law_1108 rfl sh_0 hj1108 rfl ?_
  obtain ⟨q1109, hq1109, h⟩ := Option.bind_eq_some_iff.mp h
  refine x_virtI (pc' := 1112) (o := 1) (as := [.int (S 0 j1098), .int (S 0 j1103), .int (S 0 j1108)]) (rest := []) dL_law_1109 rfl lm_9_131 rfl rfl rfl sh_1 rfl hq1109 ?_
  refine x_aload_n (pc' := 1113) dL_law_1112 rfl rfl ?_
  refine x_aload_n (pc' := 1114) dL_law_1113 rfl rfl ?_
  refine x_iload_n (pc' := 1115) dL_law_1114 rfl rfl ?_
  refine x_iconst (pc' := 1116) (w := (1 : Int32)) dL_law_1115 rfl k_ic_1 ?_
  refine x_iadd (pc' := 1117) dL_law_1116 rfl ?_
  obtain ⟨j1117, hj1117, h⟩ := Option.bind_eq_some_iff.mp h
  refine x_iaload54 (pc' := 1118) (v := (q1109.2) 0 j1117) dL_law_1117 rfl sh_0 hj1117 rfl ?_
  refine x_aload_n (pc' := 1119) dL_law_1118 rfl rfl ?_
  refine x_iload_n (pc' := 1120) dL_law_1119 rfl rfl ?_
  refine x_iconst (pc' := 1121) (w := (2 : Int32)) dL_law_1120 rfl k_ic_2 ?_
  refine x_iadd (pc' := 1122) dL_law_1121 rfl ?_
  obtain ⟨j1122, hj1122, h⟩ := Option.bind_eq_some_iff.mp h
  refine x_iaload54 (pc' := 1123) (v := (q1109.2) 0 j1122) dL_law_1122 rfl sh_0 hj1122 rfl ?_
  refine x_aload_n (pc' := 1124) dL_law_1123 rfl rfl ?_
  refine x_iload_n (pc' := 1125) dL_law_1124 rfl rfl ?_
  refine x_iconst (pc' := 1126) (w := (3 : Int32)) dL_law_1125 rfl k_ic_3 ?_
  refine x_iadd (pc' := 1127) dL_law_1126 rfl ?_
  obtain ⟨j1127, hj1127, h⟩ := Option.bind_eq_some_iff.mp h
  refine x_iaload54 (pc' := 1128) (v := (q1109.2) 0 j1127) dL_law_1127 rfl sh_0 hj1127 rfl ?_
  obtain ⟨q1128, hq1128, h⟩ := Option.bind_eq_some_iff.mp h
  refine x_virtI (pc' := 1131) (o := 45) (as := [.int ((q1109.2) 0 j1117), .int ((q1109.2) 0 j1122), .int ((q1109.2) 0 j1127)]) (rest := [.int (q1109.1)]) dL_law_1128 rfl lm_9_134 rfl rfl rfl sh_45 rfl hq1128 ?_
  by_cases c1131 : q1109.1 = q1128.1
  · replace h := (if_pos c1131).symm.trans h
    refine x_icmp_eq_t (pc' := 1295) dL_law_1131 (by decide) c1131 ?_
    exact h
  · replace h := (if_neg c1131).symm.trans h
    refine x_icmp_eq_f (pc' := 1134) dL_law_1131 (by decide) rfl c1131 ?_
    refine x_iconst (pc' := 1135) (w := (0 : Int32)) dL_law_1134 rfl k_ic_0 ?_
    exact x_zret dL_law_1135 rfl (Or.inl rfl) ((tb_dI_ok _ _).trans h)
theorem BL_law_1136 {d : Nat} {x3 : Int32} {S : tb_St} {r : Int32 × tb_St} (h : ((tb_ix (x3 + (1 : Int32)) (S 0 2560).toNatClampNeg).bind fun j1141 => (tb_ix (x3 + (2 : Int32)) (S 0 2560).toNatClampNeg).bind fun j1146 => (tb_cL d mX7_get [.ref 1, .int (S 0 j1141), .int (S 0 j1146)] S).bind fun q1147 => (tb_ix (x3 + (1 : Int32)) ((q1147.2) 0 2560).toNatClampNeg).bind fun j1155 => (tb_ix (x3 + (2 : Int32)) ((q1147.2) 0 2560).toNatClampNeg).bind fun j1160 => (tb_cL d mX8_get [.ref 45, .int ((q1147.2) 0 j1155), .int ((q1147.2) 0 j1160)] (q1147.2)).bind fun q1161 => (if lg_cmp (q1147.1) (q1161.1) = 0 then tb_E d mL_law tb_dI 1295 [.ref 0, .ref 1, .ref 45, .int x3] [] tb_S (q1161.2) else some ((0 : Int32), q1161.2))) = some r) : tb_E d mL_law tb_dI 1136 [.ref 0, .ref 1, .ref 45, .int x3] [] tb_S S = some r := by
  refine x_aload_n (pc' := 1137) dL_law_1136 rfl rfl ?_
  refine x_aload_n (pc' := 1138) dL_law_1137 rfl rfl ?_
  refine x_iload_n (pc' := 1139) dL_law_1138 rfl rfl ?_
  refine x_iconst (pc' := 1140) (w := (1 : Int32)) dL_law_1139 rfl k_ic_1 ?_
  refine x_iadd (pc' := 1141) dL_law_1140 rfl ?_
  obtain ⟨j1141, hj1141, h⟩ := Option.bind_eq_some_iff.mp h
  refine x_iaload54 (pc' := 1142) (v := S 0 j1141) dL_law_1141 rfl sh_0 hj1141 rfl ?_
  refine x_aload_n (pc' := 1143) dL_law_1142 rfl rfl ?_
  refine x_iload_n (pc' := 1144) dL_law_1143 rfl rfl ?_
  refine x_iconst (pc' := 1145) (w := (2 : Int32)) dL_law_1144 rfl k_ic_2 ?_
  refine x_iadd (pc' := 1146) dL_law_1145 rfl ?_
  obtain ⟨j1146, hj1146, h⟩ := Option.bind_eq_some_iff.mp h
  refine x_iaload54 (pc' := 1147) (v := S 0 j1146) dL_law_1146 rfl sh_0 hj1146 rfl ?_
  obtain ⟨q1147, hq1147, h⟩ := Option.bind_eq_some_iff.mp h
  refine x_virtL (pc' := 1150) (o := 1) (as := [.int (S 0 j1141), .int (S 0 j1146)]) (rest := []) dL_law_1147 rfl lm_9_135 rfl rfl rfl sh_1 rfl hq1147 ?_
  refine x_aload_n (pc' := 1151) dL_law_1150 rfl rfl ?_
  refine x_aload_n (pc' := 1152) dL_law_1151 rfl rfl ?_
  refine x_iload_n (pc' := 1153) dL_law_1152 rfl rfl ?_
  refine x_iconst (pc' := 1154) (w := (1 : Int32)) dL_law_1153 rfl k_ic_1 ?_
  refine x_iadd (pc' := 1155) dL_law_1154 rfl ?_
  obtain ⟨j1155, hj1155, h⟩ := Option.bind_eq_some_iff.mp h
  refine x_iaload54 (pc' := 1156) (v := (q1147.2) 0 j1155) dL_law_1155 rfl sh_0 hj1155 rfl ?_
  refine x_aload_n (pc' := 1157) dL_law_1156 rfl rfl ?_
  refine x_iload_n (pc' := 1158) dL_law_1157 rfl rfl ?_
  refine x_iconst (pc' := 1159) (w := (2 : Int32)) dL_law_1158 rfl k_ic_2 ?_
  refine x_iadd (pc' := 1160) dL_law_1159 rfl ?_
  obtain ⟨j1160, hj1160, h⟩ := Option.bind_eq_some_iff.mp h
  refine x_iaload54 (pc' := 1161) (v := (q1147.2) 0 j1160) dL_law_1160 rfl sh_0 hj1160 rfl ?_
  obtain ⟨q1161, hq1161, h⟩ := Option.bind_eq_some_iff.mp h
  refine x_virtL (pc' := 1164) (o := 45) (as := [.int ((q1147.2) 0 j1155), .int ((q1147.2) 0 j1160)]) (rest := [.long (q1147.1)]) dL_law_1161 rfl lm_9_138 rfl rfl rfl sh_45 rfl hq1161 ?_
  refine x_lcmp (pc' := 1165) dL_law_1164 rfl ?_
  by_cases c1165 : lg_cmp (q1147.1) (q1161.1) = 0
  · replace h := (if_pos c1165).symm.trans h
    refine x_if_eq_t (pc' := 1295) dL_law_1165 (by decide) c1165 ?_
    exact h
  · replace h := (if_neg c1165).symm.trans h
    refine x_if_eq_f (pc' := 1168) dL_law_1165 (by decide) rfl c1165 ?_
    refine x_iconst (pc' := 1169) (w := (0 : Int32)) dL_law_1168 rfl k_ic_0 ?_
    exact x_zret dL_law_1169 rfl (Or.inl rfl) ((tb_dI_ok _ _).trans h)
theorem BL_law_1170 {d : Nat} {x3 : Int32} {S : tb_St} {r : Int32 × tb_St} (h : ((tb_ix (x3 + (1 : Int32)) (S 0 2560).toNatClampNeg).bind fun j1175 => (tb_ix (x3 + (2 : Int32)) (S 0 2560).toNatClampNeg).bind fun j1180 => (tb_ix (x3 + (3 : Int32)) (S 0 2560).toNatClampNeg).bind fun j1185 => (tb_cI d mX7_lay [.ref 1, .int (S 0 j1175), .int (S 0 j1180), .int (S 0 j1185)] S).bind fun q1186 => (tb_ix (x3 + (1 : Int32)) ((q1186.2) 0 2560).toNatClampNeg).bind fun j1194 => (tb_ix (x3 + (2 : Int32)) ((q1186.2) 0 2560).toNatClampNeg).bind fun j1199 => (tb_ix (x3 + (3 : Int32)) ((q1186.2) 0 2560).toNatClampNeg).bind fun j1204 => (tb_cI d mX8_lay [.ref 45, .int ((q1186.2) 0 j1194), .int ((q1186.2) 0 j1199), .int ((q1186.2) 0 j1204)] (q1186.2)).bind fun q1205 => (if q1186.1 = q1205.1 then tb_E d mL_law tb_dI 1295 [.ref 0, .ref 1, .ref 45, .int x3] [] tb_S (q1205.2) else some ((0 : Int32), q1205.2))) = some r) : tb_E d mL_law tb_dI 1170 [.ref 0, .ref 1, .ref 45, .int x3] [] tb_S S = some r := by
  refine x_aload_n (pc' := 1171) dL_law_1170 rfl rfl ?_
  refine x_aload_n (pc' := 1172) dL_law_1171 rfl rfl ?_
  refine x_iload_n (pc' := 1173) dL_law_1172 rfl rfl ?_
  refine x_iconst (pc' := 1174) (w := (1 : Int32)) dL_law_1173 rfl k_ic_1 ?_
  refine x_iadd (pc' := 1175) dL_law_1174 rfl ?_
  obtain ⟨j1175, hj1175, h⟩ := Option.bind_eq_some_iff.mp h
  refine x_iaload54 (pc' := 1176) (v := S 0 j1175) dL_law_1175 rfl sh_0 hj1175 rfl ?_
  refine x_aload_n (pc' := 1177) dL_law_1176 rfl rfl ?_
  refine x_iload_n (pc' := 1178) dL_law_1177 rfl rfl ?_
  refine x_iconst (pc' := 1179) (w := (2 : Int32)) dL_law_1178 rfl k_ic_2 ?_
  refine x_iadd (pc' := 1180) dL_law_1179 rfl ?_
  obtain ⟨j1180, hj1180, h⟩ := Option.bind_eq_some_iff.mp h
  refine x_iaload54 (pc' := 1181) (v := S 0 j1180) dL_law_1180 rfl sh_0 hj1180 rfl ?_
  refine x_aload_n (pc' := 1182) dL_law_1181 rfl rfl ?_
  refine x_iload_n (pc' := 1183) dL_law_1182 rfl rfl ?_
  refine x_iconst (pc' := 1184) (w := (3 : Int32)) dL_law_1183 rfl k_ic_3 ?_
  refine x_iadd (pc' := 1185) dL_law_1184 rfl ?_
  obtain ⟨j1185, hj1185, h⟩ := Option.bind_eq_some_iff.mp h
  refine x_iaload54 (pc' := 1186) (v := S 0 j1185) dL_law_1185 rfl sh_0 hj1185 rfl ?_
  obtain ⟨q1186, hq1186, h⟩ := Option.bind_eq_some_iff.mp h
  refine x_virtI (pc' := 1189) (o := 1) (as := [.int (S 0 j1175), .int (S 0 j1180), .int (S 0 j1185)]) (rest := []) dL_law_1186 rfl lm_9_139 rfl rfl rfl sh_1 rfl hq1186 ?_
  refine x_aload_n (pc' := 1190) dL_law_1189 rfl rfl ?_
  refine x_aload_n (pc' := 1191) dL_law_1190 rfl rfl ?_
  refine x_iload_n (pc' := 1192) dL_law_1191 rfl rfl ?_
  refine x_iconst (pc' := 1193) (w := (1 : Int32)) dL_law_1192 rfl k_ic_1 ?_
  refine x_iadd (pc' := 1194) dL_law_1193 rfl ?_
  obtain ⟨j1194, hj1194, h⟩ := Option.bind_eq_some_iff.mp h
  refine x_iaload54 (pc' := 1195) (v := (q1186.2) 0 j1194) dL_law_1194 rfl sh_0 hj1194 rfl ?_
  refine x_aload_n (pc' := 1196) dL_law_1195 rfl rfl ?_
  refine x_iload_n (pc' := 1197) dL_law_1196 rfl rfl ?_
  refine x_iconst (pc' := 1198) (w := (2 : Int32)) dL_law_1197 rfl k_ic_2 ?_
  refine x_iadd (pc' := 1199) dL_law_1198 rfl ?_
  obtain ⟨j1199, hj1199, h⟩ := Option.bind_eq_some_iff.mp h
  refine x_iaload54 (pc' := 1200) (v := (q1186.2) 0 j1199) dL_law_1199 rfl sh_0 hj1199 rfl ?_
  refine x_aload_n (pc' := 1201) dL_law_1200 rfl rfl ?_
  refine x_iload_n (pc' := 1202) dL_law_1201 rfl rfl ?_
  refine x_iconst (pc' := 1203) (w := (3 : Int32)) dL_law_1202 rfl k_ic_3 ?_
  refine x_iadd (pc' := 1204) dL_law_1203 rfl ?_
  obtain ⟨j1204, hj1204, h⟩ := Option.bind_eq_some_iff.mp h
  refine x_iaload54 (pc' := 1205) (v := (q1186.2) 0 j1204) dL_law_1204 rfl sh_0 hj1204 rfl ?_
  obtain ⟨q1205, hq1205, h⟩ := Option.bind_eq_some_iff.mp h
  refine x_virtI (pc' := 1208) (o := 45) (as := [.int ((q1186.2) 0 j1194), .int ((q1186.2) 0 j1199), .int ((q1186.2) 0 j1204)]) (rest := [.int (q1186.1)]) dL_law_1205 rfl lm_9_142 rfl rfl rfl sh_45 rfl hq1205 ?_
  by_cases c1208 : q1186.1 = q1205.1
  · replace h := (if_pos c1208).symm.trans h
    refine x_icmp_eq_t (pc' := 1295) dL_law_1208 (by decide) c1208 ?_
    exact h
  · replace h := (if_neg c1208).symm.trans h
    refine x_icmp_eq_f (pc' := 1211) dL_law_1208 (by decide) rfl c1208 ?_
    refine x_iconst (pc' := 1212) (w := (0 : Int32)) dL_law_1211 rfl k_ic_0 ?_
    exact x_zret dL_law_1212 rfl (Or.inl rfl) ((tb_dI_ok _ _).trans h)
theorem BL_law_1213 {d : Nat} {x3 : Int32} {S : tb_St} {r : Int32 × tb_St} (h : ((tb_ix (x3 + (1 : Int32)) (S 0 2560).toNatClampNeg).bind fun j1218 => (tb_ix (x3 + (2 : Int32)) (S 0 2560).toNatClampNeg).bind fun j1223 => (tb_cI d mX7_judge [.ref 1, .int (S 0 j1218), .int (S 0 j1223)] S).bind fun q1224 => (tb_ix (x3 + (1 : Int32)) ((q1224.2) 0 2560).toNatClampNeg).bind fun j1232 => (tb_ix (x3 + (2 : Int32)) ((q1224.2) 0 2560).toNatClampNeg).bind fun j1237 => (tb_cI d mX8_judge [.ref 45, .int ((q1224.2) 0 j1232), .int ((q1224.2) 0 j1237)] (q1224.2)).bind fun q1238 => (if q1224.1 = q1238.1 then tb_E d mL_law tb_dI 1295 [.ref 0, .ref 1, .ref 45, .int x3] [] tb_S (q1238.2) else some ((0 : Int32), q1238.2))) = some r) : tb_E d mL_law tb_dI 1213 [.ref 0, .ref 1, .ref 45, .int x3] [] tb_S S = some r := by
  refine x_aload_n (pc' := 1214) dL_law_1213 rfl rfl ?_
  refine x_aload_n (pc' := 1215) dL_law_1214 rfl rfl ?_
  refine x_iload_n (pc' := 1216) dL_law_1215 rfl rfl ?_
  refine x_iconst (pc' := 1217) (w := (1 : Int32)) dL_law_1216 rfl k_ic_1 ?_
  refine x_iadd (pc' := 1218) dL_law_1217 rfl ?_
  obtain ⟨j1218, hj1218, h⟩ := Option.bind_eq_some_iff.mp h
  refine x_iaload54 (pc' := 1219) (v := S 0 j1218) dL_law_1218 rfl sh_0 hj1218 rfl ?_
  refine x_aload_n (pc' := 1220) dL_law_1219 rfl rfl ?_
  refine x_iload_n (pc' := 1221) dL_law_1220 rfl rfl ?_
  refine x_iconst (pc' := 1222) (w := (2 : Int32)) dL_law_1221 rfl k_ic_2 ?_
  refine x_iadd (pc' := 1223) dL_law_1222 rfl ?_
  obtain ⟨j1223, hj1223, h⟩ := Option.bind_eq_some_iff.mp h
  refine x_iaload54 (pc' := 1224) (v := S 0 j1223) dL_law_1223 rfl sh_0 hj1223 rfl ?_
  obtain ⟨q1224, hq1224, h⟩ := Option.bind_eq_some_iff.mp h
  refine x_virtI (pc' := 1227) (o := 1) (as := [.int (S 0 j1218), .int (S 0 j1223)]) (rest := []) dL_law_1224 rfl lm_9_143 rfl rfl rfl sh_1 rfl hq1224 ?_
  refine x_aload_n (pc' := 1228) dL_law_1227 rfl rfl ?_
  refine x_aload_n (pc' := 1229) dL_law_1228 rfl rfl ?_
  refine x_iload_n (pc' := 1230) dL_law_1229 rfl rfl ?_
  refine x_iconst (pc' := 1231) (w := (1 : Int32)) dL_law_1230 rfl k_ic_1 ?_
  refine x_iadd (pc' := 1232) dL_law_1231 rfl ?_
  obtain ⟨j1232, hj1232, h⟩ := Option.bind_eq_some_iff.mp h
  refine x_iaload54 (pc' := 1233) (v := (q1224.2) 0 j1232) dL_law_1232 rfl sh_0 hj1232 rfl ?_
  refine x_aload_n (pc' := 1234) dL_law_1233 rfl rfl ?_
  refine x_iload_n (pc' := 1235) dL_law_1234 rfl rfl ?_
  refine x_iconst (pc' := 1236) (w := (2 : Int32)) dL_law_1235 rfl k_ic_2 ?_
  refine x_iadd (pc' := 1237) dL_law_1236 rfl ?_
  obtain ⟨j1237, hj1237, h⟩ := Option.bind_eq_some_iff.mp h
  refine x_iaload54 (pc' := 1238) (v := (q1224.2) 0 j1237) dL_law_1237 rfl sh_0 hj1237 rfl ?_
  obtain ⟨q1238, hq1238, h⟩ := Option.bind_eq_some_iff.mp h
  refine x_virtI (pc' := 1241) (o := 45) (as := [.int ((q1224.2) 0 j1232), .int ((q1224.2) 0 j1237)]) (rest := [.int (q1224.1)]) dL_law_1238 rfl lm_9_146 rfl rfl rfl sh_45 rfl hq1238 ?_
  by_cases c1241 : q1224.1 = q1238.1
  · replace h := (if_pos c1241).symm.trans h
    refine x_icmp_eq_t (pc' := 1295) dL_law_1241 (by decide) c1241 ?_
    exact h
  · replace h := (if_neg c1241).symm.trans h
    refine x_icmp_eq_f (pc' := 1244) dL_law_1241 (by decide) rfl c1241 ?_
    refine x_iconst (pc' := 1245) (w := (0 : Int32)) dL_law_1244 rfl k_ic_0 ?_
    exact x_zret dL_law_1245 rfl (Or.inl rfl) ((tb_dI_ok _ _).trans h)
theorem BL_law_1246 {d : Nat} {x3 : Int32} {S : tb_St} {r : Int32 × tb_St} (h : ((tb_cI d mX7_image [.ref 1] S).bind fun q1247 => (tb_cI d mX8_image [.ref 45] (q1247.2)).bind fun q1251 => (if q1247.1 = q1251.1 then tb_E d mL_law tb_dI 1295 [.ref 0, .ref 1, .ref 45, .int x3] [] tb_S (q1251.2) else some ((0 : Int32), q1251.2))) = some r) : tb_E d mL_law tb_dI 1246 [.ref 0, .ref 1, .ref 45, .int x3] [] tb_S S = some r := by
  refine x_aload_n (pc' := 1247) dL_law_1246 rfl rfl ?_
  obtain ⟨q1247, hq1247, h⟩ := Option.bind_eq_some_iff.mp h
  refine x_virtI (pc' := 1250) (o := 1) (as := []) (rest := []) dL_law_1247 rfl lm_9_147 rfl rfl rfl sh_1 rfl hq1247 ?_
  refine x_aload_n (pc' := 1251) dL_law_1250 rfl rfl ?_
  obtain ⟨q1251, hq1251, h⟩ := Option.bind_eq_some_iff.mp h
  refine x_virtI (pc' := 1254) (o := 45) (as := []) (rest := [.int (q1247.1)]) dL_law_1251 rfl lm_9_150 rfl rfl rfl sh_45 rfl hq1251 ?_
  by_cases c1254 : q1247.1 = q1251.1
  · replace h := (if_pos c1254).symm.trans h
    refine x_icmp_eq_t (pc' := 1295) dL_law_1254 (by decide) c1254 ?_
    exact h
  · replace h := (if_neg c1254).symm.trans h
    refine x_icmp_eq_f (pc' := 1257) dL_law_1254 (by decide) rfl c1254 ?_
    refine x_iconst (pc' := 1258) (w := (0 : Int32)) dL_law_1257 rfl k_ic_0 ?_
    exact x_zret dL_law_1258 rfl (Or.inl rfl) ((tb_dI_ok _ _).trans h)
theorem BL_law_1259 {d : Nat} {x3 : Int32} {S : tb_St} {r : Int32 × tb_St} (h : ((tb_cI d mX7_undo [.ref 1] S).bind fun q1260 => (tb_cI d mX8_undo [.ref 45] (q1260.2)).bind fun q1264 => (if q1260.1 = q1264.1 then tb_E d mL_law tb_dI 1295 [.ref 0, .ref 1, .ref 45, .int x3] [] tb_S (q1264.2) else some ((0 : Int32), q1264.2))) = some r) : tb_E d mL_law tb_dI 1259 [.ref 0, .ref 1, .ref 45, .int x3] [] tb_S S = some r := by
  refine x_aload_n (pc' := 1260) dL_law_1259 rfl rfl ?_
  obtain ⟨q1260, hq1260, h⟩ := Option.bind_eq_some_iff.mp h
  refine x_virtI (pc' := 1263) (o := 1) (as := []) (rest := []) dL_law_1260 rfl lm_9_151 rfl rfl rfl sh_1 rfl hq1260 ?_
  refine x_aload_n (pc' := 1264) dL_law_1263 rfl rfl ?_
  obtain ⟨q1264, hq1264, h⟩ := Option.bind_eq_some_iff.mp h
  refine x_virtI (pc' := 1267) (o := 45) (as := []) (rest := [.int (q1260.1)]) dL_law_1264 rfl lm_9_154 rfl rfl rfl sh_45 rfl hq1264 ?_
  by_cases c1267 : q1260.1 = q1264.1
  · replace h := (if_pos c1267).symm.trans h
    refine x_icmp_eq_t (pc' := 1295) dL_law_1267 (by decide) c1267 ?_
    exact h
  · replace h := (if_neg c1267).symm.trans h
    refine x_icmp_eq_f (pc' := 1270) dL_law_1267 (by decide) rfl c1267 ?_
    refine x_iconst (pc' := 1271) (w := (0 : Int32)) dL_law_1270 rfl k_ic_0 ?_
    exact x_zret dL_law_1271 rfl (Or.inl rfl) ((tb_dI_ok _ _).trans h)
theorem BL_law_1272 {d : Nat} {x3 : Int32} {S : tb_St} {r : Int32 × tb_St} (h : ((tb_ix (x3 + (1 : Int32)) (S 0 2560).toNatClampNeg).bind fun j1277 => (tb_cI d mX7_count [.ref 1, .int (S 0 j1277)] S).bind fun q1278 => (tb_ix (x3 + (1 : Int32)) ((q1278.2) 0 2560).toNatClampNeg).bind fun j1286 => (tb_cI d mX8_count [.ref 45, .int ((q1278.2) 0 j1286)] (q1278.2)).bind fun q1287 => (if q1278.1 = q1287.1 then tb_E d mL_law tb_dI 1295 [.ref 0, .ref 1, .ref 45, .int x3] [] tb_S (q1287.2) else some ((0 : Int32), q1287.2))) = some r) : tb_E d mL_law tb_dI 1272 [.ref 0, .ref 1, .ref 45, .int x3] [] tb_S S = some r := by
  refine x_aload_n (pc' := 1273) dL_law_1272 rfl rfl ?_
  refine x_aload_n (pc' := 1274) dL_law_1273 rfl rfl ?_
  refine x_iload_n (pc' := 1275) dL_law_1274 rfl rfl ?_
  refine x_iconst (pc' := 1276) (w := (1 : Int32)) dL_law_1275 rfl k_ic_1 ?_
  refine x_iadd (pc' := 1277) dL_law_1276 rfl ?_
  obtain ⟨j1277, hj1277, h⟩ := Option.bind_eq_some_iff.mp h
  refine x_iaload54 (pc' := 1278) (v := S 0 j1277) dL_law_1277 rfl sh_0 hj1277 rfl ?_
  obtain ⟨q1278, hq1278, h⟩ := Option.bind_eq_some_iff.mp h
  refine x_virtI (pc' := 1281) (o := 1) (as := [.int (S 0 j1277)]) (rest := []) dL_law_1278 rfl lm_9_155 rfl rfl rfl sh_1 rfl hq1278 ?_
  refine x_aload_n (pc' := 1282) dL_law_1281 rfl rfl ?_
  refine x_aload_n (pc' := 1283) dL_law_1282 rfl rfl ?_
  refine x_iload_n (pc' := 1284) dL_law_1283 rfl rfl ?_
  refine x_iconst (pc' := 1285) (w := (1 : Int32)) dL_law_1284 rfl k_ic_1 ?_
  refine x_iadd (pc' := 1286) dL_law_1285 rfl ?_
  obtain ⟨j1286, hj1286, h⟩ := Option.bind_eq_some_iff.mp h
  refine x_iaload54 (pc' := 1287) (v := (q1278.2) 0 j1286) dL_law_1286 rfl sh_0 hj1286 rfl ?_
  obtain ⟨q1287, hq1287, h⟩ := Option.bind_eq_some_iff.mp h
  refine x_virtI (pc' := 1290) (o := 45) (as := [.int ((q1278.2) 0 j1286)]) (rest := [.int (q1278.1)]) dL_law_1287 rfl lm_9_158 rfl rfl rfl sh_45 rfl hq1287 ?_
  by_cases c1290 : q1278.1 = q1287.1
  · replace h := (if_pos c1290).symm.trans h
    refine x_icmp_eq_t (pc' := 1295) dL_law_1290 (by decide) c1290 ?_
    exact h
  · replace h := (if_neg c1290).symm.trans h
    refine x_icmp_eq_f (pc' := 1293) dL_law_1290 (by decide) rfl c1290 ?_
    refine x_iconst (pc' := 1294) (w := (0 : Int32)) dL_law_1293 rfl k_ic_0 ?_
    exact x_zret dL_law_1294 rfl (Or.inl rfl) ((tb_dI_ok _ _).trans h)
theorem BL_law_1295 {d : Nat} {x3 : Int32} {S : tb_St} {r : Int32 × tb_St} (h : (tb_E d mL_law tb_dI 18 [.ref 0, .ref 1, .ref 45, .int (x3 + (5 : Int32))] [] tb_S S) = some r) : tb_E d mL_law tb_dI 1295 [.ref 0, .ref 1, .ref 45, .int x3] [] tb_S S = some r := by
  refine x_iinc (pc' := 1298) (w := (5 : Int32)) (ls' := [.ref 0, .ref 1, .ref 45, .int (x3 + (5 : Int32))]) dL_law_1295 rfl rfl k_ic_5 rfl ?_
  refine x_goto (pc' := 18) dL_law_1298 (by decide) ?_
  exact h
