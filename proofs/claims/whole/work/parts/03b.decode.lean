theorem dX5_copyFrom_108 : decode cX5_copyFrom 108 = .ok (.return_, 1) := by decide +kernel
theorem dX6_init_0 : decode cX6_init 0 = .ok (.aload_n 0, 1) := by decide +kernel
theorem dX6_init_1 : decode cX6_init 1 = .ok (.invokespecial 3, 3) := by decide +kernel
theorem dX6_init_4 : decode cX6_init 4 = .ok (.aload_n 0, 1) := by decide +kernel
theorem dX6_init_5 : decode cX6_init 5 = .ok (.bipush 40, 2) := by decide +kernel
theorem dX6_init_7 : decode cX6_init 7 = .ok (.newarray .int, 2) := by decide +kernel
theorem dX6_init_9 : decode cX6_init 9 = .ok (.putfield 9, 3) := by decide +kernel
theorem dX6_init_12 : decode cX6_init 12 = .ok (.aload_n 0, 1) := by decide +kernel
theorem dX6_init_13 : decode cX6_init 13 = .ok (.bipush 40, 2) := by decide +kernel
theorem dX6_init_15 : decode cX6_init 15 = .ok (.newarray .int, 2) := by decide +kernel
theorem dX6_init_17 : decode cX6_init 17 = .ok (.putfield 15, 3) := by decide +kernel
theorem dX6_init_20 : decode cX6_init 20 = .ok (.aload_n 0, 1) := by decide +kernel
theorem dX6_init_21 : decode cX6_init 21 = .ok (.bipush 40, 2) := by decide +kernel
theorem dX6_init_23 : decode cX6_init 23 = .ok (.newarray .int, 2) := by decide +kernel
theorem dX6_init_25 : decode cX6_init 25 = .ok (.putfield 18, 3) := by decide +kernel
theorem dX6_init_28 : decode cX6_init 28 = .ok (.aload_n 0, 1) := by decide +kernel
theorem dX6_init_29 : decode cX6_init 29 = .ok (.iconst 0, 1) := by decide +kernel
theorem dX6_init_30 : decode cX6_init 30 = .ok (.putfield 21, 3) := by decide +kernel
theorem dX6_init_33 : decode cX6_init 33 = .ok (.aload_n 0, 1) := by decide +kernel
theorem dX6_init_34 : decode cX6_init 34 = .ok (.iconst (-1), 1) := by decide +kernel
theorem dX6_init_35 : decode cX6_init 35 = .ok (.putfield 25, 3) := by decide +kernel
theorem dX6_init_38 : decode cX6_init 38 = .ok (.aload_n 0, 1) := by decide +kernel
theorem dX6_init_39 : decode cX6_init 39 = .ok (.iconst (-1), 1) := by decide +kernel
theorem dX6_init_40 : decode cX6_init 40 = .ok (.putfield 28, 3) := by decide +kernel
theorem dX6_init_43 : decode cX6_init 43 = .ok (.aload_n 0, 1) := by decide +kernel
theorem dX6_init_44 : decode cX6_init 44 = .ok (.bipush (-5), 2) := by decide +kernel
theorem dX6_init_46 : decode cX6_init 46 = .ok (.putfield 31, 3) := by decide +kernel
theorem dX6_init_49 : decode cX6_init 49 = .ok (.aload_n 0, 1) := by decide +kernel
theorem dX6_init_50 : decode cX6_init 50 = .ok (.aload_n 1, 1) := by decide +kernel
theorem dX6_init_51 : decode cX6_init 51 = .ok (.putfield 34, 3) := by decide +kernel
theorem dX6_init_54 : decode cX6_init 54 = .ok (.return_, 1) := by decide +kernel
theorem dX6_unfold_0 : decode cX6_unfold 0 = .ok (.aload_n 0, 1) := by decide +kernel
theorem dX6_unfold_1 : decode cX6_unfold 1 = .ok (.aload_n 0, 1) := by decide +kernel
theorem dX6_unfold_2 : decode cX6_unfold 2 = .ok (.getfield 34, 3) := by decide +kernel
theorem dX6_unfold_5 : decode cX6_unfold 5 = .ok (.iload_n 1, 1) := by decide +kernel
theorem dX6_unfold_6 : decode cX6_unfold 6 = .ok (.invokevirtual 38, 3) := by decide +kernel
theorem dX6_unfold_9 : decode cX6_unfold 9 = .ok (.bipush 40, 2) := by decide +kernel
theorem dX6_unfold_11 : decode cX6_unfold 11 = .ok (.invokestatic 44, 3) := by decide +kernel
theorem dX6_unfold_14 : decode cX6_unfold 14 = .ok (.putfield 21, 3) := by decide +kernel
theorem dX6_unfold_17 : decode cX6_unfold 17 = .ok (.aload_n 0, 1) := by decide +kernel
theorem dX6_unfold_18 : decode cX6_unfold 18 = .ok (.iconst (-1), 1) := by decide +kernel
theorem dX6_unfold_19 : decode cX6_unfold 19 = .ok (.putfield 25, 3) := by decide +kernel
theorem dX6_unfold_22 : decode cX6_unfold 22 = .ok (.aload_n 0, 1) := by decide +kernel
theorem dX6_unfold_23 : decode cX6_unfold 23 = .ok (.iconst (-1), 1) := by decide +kernel
theorem dX6_unfold_24 : decode cX6_unfold 24 = .ok (.putfield 28, 3) := by decide +kernel
theorem dX6_unfold_27 : decode cX6_unfold 27 = .ok (.aload_n 0, 1) := by decide +kernel
theorem dX6_unfold_28 : decode cX6_unfold 28 = .ok (.iconst 0, 1) := by decide +kernel
theorem dX6_unfold_29 : decode cX6_unfold 29 = .ok (.iload_n 1, 1) := by decide +kernel
theorem dX6_unfold_30 : decode cX6_unfold 30 = .ok (.invokevirtual 50, 3) := by decide +kernel
theorem dX6_unfold_33 : decode cX6_unfold 33 = .ok (.iconst 0, 1) := by decide +kernel
theorem dX6_unfold_34 : decode cX6_unfold 34 = .ok (.istore_n 2, 1) := by decide +kernel
theorem dX6_unfold_35 : decode cX6_unfold 35 = .ok (.iload_n 2, 1) := by decide +kernel
theorem dX6_unfold_36 : decode cX6_unfold 36 = .ok (.aload_n 0, 1) := by decide +kernel
theorem dX6_unfold_37 : decode cX6_unfold 37 = .ok (.getfield 21, 3) := by decide +kernel
theorem dX6_unfold_40 : decode cX6_unfold 40 = .ok (.if_icmp .ge 110, 3) := by decide +kernel
theorem dX6_unfold_43 : decode cX6_unfold 43 = .ok (.aload_n 0, 1) := by decide +kernel
theorem dX6_unfold_44 : decode cX6_unfold 44 = .ok (.getfield 9, 3) := by decide +kernel
theorem dX6_unfold_47 : decode cX6_unfold 47 = .ok (.iload_n 2, 1) := by decide +kernel
theorem dX6_unfold_48 : decode cX6_unfold 48 = .ok (.iaload, 1) := by decide +kernel
theorem dX6_unfold_49 : decode cX6_unfold 49 = .ok (.istore_n 3, 1) := by decide +kernel
theorem dX6_unfold_50 : decode cX6_unfold 50 = .ok (.aload_n 0, 1) := by decide +kernel
theorem dX6_unfold_51 : decode cX6_unfold 51 = .ok (.getfield 34, 3) := by decide +kernel
theorem dX6_unfold_54 : decode cX6_unfold 54 = .ok (.iload_n 3, 1) := by decide +kernel
theorem dX6_unfold_55 : decode cX6_unfold 55 = .ok (.invokevirtual 54, 3) := by decide +kernel
theorem dX6_unfold_58 : decode cX6_unfold 58 = .ok (.ifCond .eq 15, 3) := by decide +kernel
theorem dX6_unfold_61 : decode cX6_unfold 61 = .ok (.aload_n 0, 1) := by decide +kernel
theorem dX6_unfold_62 : decode cX6_unfold 62 = .ok (.getfield 34, 3) := by decide +kernel
theorem dX6_unfold_65 : decode cX6_unfold 65 = .ok (.getfield 58, 3) := by decide +kernel
theorem dX6_unfold_68 : decode cX6_unfold 68 = .ok (.iload_n 3, 1) := by decide +kernel
theorem dX6_unfold_69 : decode cX6_unfold 69 = .ok (.iaload, 1) := by decide +kernel
theorem dX6_unfold_70 : decode cX6_unfold 70 = .ok (.goto 5, 3) := by decide +kernel
theorem dX6_unfold_73 : decode cX6_unfold 73 = .ok (.bipush (-5), 2) := by decide +kernel
theorem dX6_unfold_75 : decode cX6_unfold 75 = .ok (.istore 4, 2) := by decide +kernel
theorem dX6_unfold_77 : decode cX6_unfold 77 = .ok (.aload_n 0, 1) := by decide +kernel
theorem dX6_unfold_78 : decode cX6_unfold 78 = .ok (.getfield 34, 3) := by decide +kernel
theorem dX6_unfold_81 : decode cX6_unfold 81 = .ok (.iload_n 3, 1) := by decide +kernel
theorem dX6_unfold_82 : decode cX6_unfold 82 = .ok (.invokevirtual 54, 3) := by decide +kernel
theorem dX6_unfold_85 : decode cX6_unfold 85 = .ok (.ifCond .eq 15, 3) := by decide +kernel
theorem dX6_unfold_88 : decode cX6_unfold 88 = .ok (.aload_n 0, 1) := by decide +kernel
theorem dX6_unfold_89 : decode cX6_unfold 89 = .ok (.getfield 34, 3) := by decide +kernel
theorem dX6_unfold_92 : decode cX6_unfold 92 = .ok (.getfield 61, 3) := by decide +kernel
theorem dX6_unfold_95 : decode cX6_unfold 95 = .ok (.iload_n 3, 1) := by decide +kernel
theorem dX6_unfold_96 : decode cX6_unfold 96 = .ok (.iaload, 1) := by decide +kernel
theorem dX6_unfold_97 : decode cX6_unfold 97 = .ok (.goto 5, 3) := by decide +kernel
theorem dX6_unfold_100 : decode cX6_unfold 100 = .ok (.bipush (-5), 2) := by decide +kernel
theorem dX6_unfold_102 : decode cX6_unfold 102 = .ok (.istore 5, 2) := by decide +kernel
theorem dX6_unfold_104 : decode cX6_unfold 104 = .ok (.aload_n 0, 1) := by decide +kernel
theorem dX6_unfold_105 : decode cX6_unfold 105 = .ok (.getfield 15, 3) := by decide +kernel
theorem dX6_unfold_108 : decode cX6_unfold 108 = .ok (.iload_n 2, 1) := by decide +kernel
theorem dX6_unfold_109 : decode cX6_unfold 109 = .ok (.iload_n 2, 1) := by decide +kernel
theorem dX6_unfold_110 : decode cX6_unfold 110 = .ok (.iconst 1, 1) := by decide +kernel
theorem dX6_unfold_111 : decode cX6_unfold 111 = .ok (.iadd, 1) := by decide +kernel
theorem dX6_unfold_112 : decode cX6_unfold 112 = .ok (.aload_n 0, 1) := by decide +kernel
theorem dX6_unfold_113 : decode cX6_unfold 113 = .ok (.getfield 34, 3) := by decide +kernel
theorem dX6_unfold_116 : decode cX6_unfold 116 = .ok (.iload 4, 2) := by decide +kernel
theorem dX6_unfold_118 : decode cX6_unfold 118 = .ok (.invokevirtual 38, 3) := by decide +kernel
theorem dX6_unfold_121 : decode cX6_unfold 121 = .ok (.iadd, 1) := by decide +kernel
theorem dX6_unfold_122 : decode cX6_unfold 122 = .ok (.iastore, 1) := by decide +kernel
theorem dX6_unfold_123 : decode cX6_unfold 123 = .ok (.aload_n 0, 1) := by decide +kernel
theorem dX6_unfold_124 : decode cX6_unfold 124 = .ok (.iload_n 2, 1) := by decide +kernel
theorem dX6_unfold_125 : decode cX6_unfold 125 = .ok (.iconst 1, 1) := by decide +kernel
theorem dX6_unfold_126 : decode cX6_unfold 126 = .ok (.iadd, 1) := by decide +kernel
theorem dX6_unfold_127 : decode cX6_unfold 127 = .ok (.iload 4, 2) := by decide +kernel
theorem dX6_unfold_129 : decode cX6_unfold 129 = .ok (.invokevirtual 50, 3) := by decide +kernel
theorem dX6_unfold_132 : decode cX6_unfold 132 = .ok (.aload_n 0, 1) := by decide +kernel
theorem dX6_unfold_133 : decode cX6_unfold 133 = .ok (.aload_n 0, 1) := by decide +kernel
theorem dX6_unfold_134 : decode cX6_unfold 134 = .ok (.getfield 15, 3) := by decide +kernel
theorem dX6_unfold_137 : decode cX6_unfold 137 = .ok (.iload_n 2, 1) := by decide +kernel
theorem dX6_unfold_138 : decode cX6_unfold 138 = .ok (.iaload, 1) := by decide +kernel
theorem dX6_unfold_139 : decode cX6_unfold 139 = .ok (.iload 5, 2) := by decide +kernel
theorem dX6_unfold_141 : decode cX6_unfold 141 = .ok (.invokevirtual 50, 3) := by decide +kernel
theorem dX6_unfold_144 : decode cX6_unfold 144 = .ok (.iinc 2 1, 3) := by decide +kernel
theorem dX6_unfold_147 : decode cX6_unfold 147 = .ok (.goto (-112), 3) := by decide +kernel
theorem dX6_unfold_150 : decode cX6_unfold 150 = .ok (.return_, 1) := by decide +kernel
theorem dX6_setPlace_0 : decode cX6_setPlace 0 = .ok (.iload_n 1, 1) := by decide +kernel
theorem dX6_setPlace_1 : decode cX6_setPlace 1 = .ok (.aload_n 0, 1) := by decide +kernel
theorem dX6_setPlace_2 : decode cX6_setPlace 2 = .ok (.getfield 21, 3) := by decide +kernel
theorem dX6_setPlace_5 : decode cX6_setPlace 5 = .ok (.if_icmp .ge 21, 3) := by decide +kernel
theorem dX6_setPlace_8 : decode cX6_setPlace 8 = .ok (.aload_n 0, 1) := by decide +kernel
theorem dX6_setPlace_9 : decode cX6_setPlace 9 = .ok (.getfield 34, 3) := by decide +kernel
theorem dX6_setPlace_12 : decode cX6_setPlace 12 = .ok (.iload_n 2, 1) := by decide +kernel
theorem dX6_setPlace_13 : decode cX6_setPlace 13 = .ok (.invokevirtual 54, 3) := by decide +kernel
theorem dX6_setPlace_16 : decode cX6_setPlace 16 = .ok (.ifCond .eq 10, 3) := by decide +kernel
theorem dX6_setPlace_19 : decode cX6_setPlace 19 = .ok (.aload_n 0, 1) := by decide +kernel
theorem dX6_setPlace_20 : decode cX6_setPlace 20 = .ok (.getfield 9, 3) := by decide +kernel
theorem dX6_setPlace_23 : decode cX6_setPlace 23 = .ok (.iload_n 1, 1) := by decide +kernel
theorem dX6_setPlace_24 : decode cX6_setPlace 24 = .ok (.iload_n 2, 1) := by decide +kernel
theorem dX6_setPlace_25 : decode cX6_setPlace 25 = .ok (.iastore, 1) := by decide +kernel
theorem dX6_setPlace_26 : decode cX6_setPlace 26 = .ok (.return_, 1) := by decide +kernel
theorem dX6_silence_0 : decode cX6_silence 0 = .ok (.aload_n 0, 1) := by decide +kernel
theorem dX6_silence_1 : decode cX6_silence 1 = .ok (.iload_n 1, 1) := by decide +kernel
theorem dX6_silence_2 : decode cX6_silence 2 = .ok (.putfield 25, 3) := by decide +kernel
theorem dX6_silence_5 : decode cX6_silence 5 = .ok (.return_, 1) := by decide +kernel
theorem dX6_suppose_0 : decode cX6_suppose 0 = .ok (.aload_n 0, 1) := by decide +kernel
theorem dX6_suppose_1 : decode cX6_suppose 1 = .ok (.iload_n 1, 1) := by decide +kernel
theorem dX6_suppose_2 : decode cX6_suppose 2 = .ok (.putfield 28, 3) := by decide +kernel
theorem dX6_suppose_5 : decode cX6_suppose 5 = .ok (.aload_n 0, 1) := by decide +kernel
theorem dX6_suppose_6 : decode cX6_suppose 6 = .ok (.iload_n 2, 1) := by decide +kernel
theorem dX6_suppose_7 : decode cX6_suppose 7 = .ok (.putfield 31, 3) := by decide +kernel
theorem dX6_suppose_10 : decode cX6_suppose 10 = .ok (.return_, 1) := by decide +kernel
theorem dX6_answer_0 : decode cX6_answer 0 = .ok (.aload_n 0, 1) := by decide +kernel
theorem dX6_answer_1 : decode cX6_answer 1 = .ok (.getfield 21, 3) := by decide +kernel
theorem dX6_answer_4 : decode cX6_answer 4 = .ok (.iconst 1, 1) := by decide +kernel
theorem dX6_answer_5 : decode cX6_answer 5 = .ok (.isub, 1) := by decide +kernel
theorem dX6_answer_6 : decode cX6_answer 6 = .ok (.istore_n 2, 1) := by decide +kernel
theorem dX6_answer_7 : decode cX6_answer 7 = .ok (.iload_n 2, 1) := by decide +kernel
theorem dX6_answer_8 : decode cX6_answer 8 = .ok (.ifCond .lt 34, 3) := by decide +kernel
theorem dX6_answer_11 : decode cX6_answer 11 = .ok (.aload_n 0, 1) := by decide +kernel
theorem dX6_answer_12 : decode cX6_answer 12 = .ok (.getfield 18, 3) := by decide +kernel
theorem dX6_answer_15 : decode cX6_answer 15 = .ok (.iload_n 2, 1) := by decide +kernel
theorem dX6_answer_16 : decode cX6_answer 16 = .ok (.iload_n 2, 1) := by decide +kernel
theorem dX6_answer_17 : decode cX6_answer 17 = .ok (.aload_n 0, 1) := by decide +kernel
theorem dX6_answer_18 : decode cX6_answer 18 = .ok (.getfield 25, 3) := by decide +kernel
theorem dX6_answer_21 : decode cX6_answer 21 = .ok (.if_icmp .ne 8, 3) := by decide +kernel
theorem dX6_answer_24 : decode cX6_answer 24 = .ok (.bipush (-5), 2) := by decide +kernel
theorem dX6_answer_26 : decode cX6_answer 26 = .ok (.goto 9, 3) := by decide +kernel
theorem dX6_answer_29 : decode cX6_answer 29 = .ok (.aload_n 0, 1) := by decide +kernel
theorem dX6_answer_30 : decode cX6_answer 30 = .ok (.iload_n 2, 1) := by decide +kernel
theorem dX6_answer_31 : decode cX6_answer 31 = .ok (.iload_n 1, 1) := by decide +kernel
theorem dX6_answer_32 : decode cX6_answer 32 = .ok (.invokevirtual 64, 3) := by decide +kernel
theorem dX6_answer_35 : decode cX6_answer 35 = .ok (.iastore, 1) := by decide +kernel
theorem dX6_answer_36 : decode cX6_answer 36 = .ok (.iinc 2 (-1), 3) := by decide +kernel
theorem dX6_answer_39 : decode cX6_answer 39 = .ok (.goto (-32), 3) := by decide +kernel
theorem dX6_answer_42 : decode cX6_answer 42 = .ok (.aload_n 0, 1) := by decide +kernel
theorem dX6_answer_43 : decode cX6_answer 43 = .ok (.iconst 0, 1) := by decide +kernel
theorem dX6_answer_44 : decode cX6_answer 44 = .ok (.invokevirtual 67, 3) := by decide +kernel
theorem dX6_answer_47 : decode cX6_answer 47 = .ok (.ireturn, 1) := by decide +kernel
theorem dX6_saidAt_0 : decode cX6_saidAt 0 = .ok (.iload_n 1, 1) := by decide +kernel
theorem dX6_saidAt_1 : decode cX6_saidAt 1 = .ok (.ifCond .lt 20, 3) := by decide +kernel
theorem dX6_saidAt_4 : decode cX6_saidAt 4 = .ok (.iload_n 1, 1) := by decide +kernel
theorem dX6_saidAt_5 : decode cX6_saidAt 5 = .ok (.aload_n 0, 1) := by decide +kernel
theorem dX6_saidAt_6 : decode cX6_saidAt 6 = .ok (.getfield 21, 3) := by decide +kernel
theorem dX6_saidAt_9 : decode cX6_saidAt 9 = .ok (.if_icmp .ge 12, 3) := by decide +kernel
theorem dX6_saidAt_12 : decode cX6_saidAt 12 = .ok (.aload_n 0, 1) := by decide +kernel
theorem dX6_saidAt_13 : decode cX6_saidAt 13 = .ok (.getfield 18, 3) := by decide +kernel
theorem dX6_saidAt_16 : decode cX6_saidAt 16 = .ok (.iload_n 1, 1) := by decide +kernel
theorem dX6_saidAt_17 : decode cX6_saidAt 17 = .ok (.iaload, 1) := by decide +kernel
theorem dX6_saidAt_18 : decode cX6_saidAt 18 = .ok (.goto 5, 3) := by decide +kernel
theorem dX6_saidAt_21 : decode cX6_saidAt 21 = .ok (.bipush (-5), 2) := by decide +kernel
theorem dX6_saidAt_23 : decode cX6_saidAt 23 = .ok (.ireturn, 1) := by decide +kernel
theorem dX6_termAt_0 : decode cX6_termAt 0 = .ok (.iload_n 1, 1) := by decide +kernel
theorem dX6_termAt_1 : decode cX6_termAt 1 = .ok (.ifCond .lt 20, 3) := by decide +kernel
theorem dX6_termAt_4 : decode cX6_termAt 4 = .ok (.iload_n 1, 1) := by decide +kernel
theorem dX6_termAt_5 : decode cX6_termAt 5 = .ok (.aload_n 0, 1) := by decide +kernel
theorem dX6_termAt_6 : decode cX6_termAt 6 = .ok (.getfield 21, 3) := by decide +kernel
theorem dX6_termAt_9 : decode cX6_termAt 9 = .ok (.if_icmp .ge 12, 3) := by decide +kernel
theorem dX6_termAt_12 : decode cX6_termAt 12 = .ok (.aload_n 0, 1) := by decide +kernel
theorem dX6_termAt_13 : decode cX6_termAt 13 = .ok (.getfield 9, 3) := by decide +kernel
theorem dX6_termAt_16 : decode cX6_termAt 16 = .ok (.iload_n 1, 1) := by decide +kernel
theorem dX6_termAt_17 : decode cX6_termAt 17 = .ok (.iaload, 1) := by decide +kernel
theorem dX6_termAt_18 : decode cX6_termAt 18 = .ok (.goto 4, 3) := by decide +kernel
theorem dX6_termAt_21 : decode cX6_termAt 21 = .ok (.iconst (-1), 1) := by decide +kernel
theorem dX6_termAt_22 : decode cX6_termAt 22 = .ok (.ireturn, 1) := by decide +kernel
theorem dX6_answerAt_0 : decode cX6_answerAt 0 = .ok (.aload_n 0, 1) := by decide +kernel
theorem dX6_answerAt_1 : decode cX6_answerAt 1 = .ok (.iload_n 1, 1) := by decide +kernel
theorem dX6_answerAt_2 : decode cX6_answerAt 2 = .ok (.invokevirtual 70, 3) := by decide +kernel
theorem dX6_answerAt_5 : decode cX6_answerAt 5 = .ok (.istore_n 3, 1) := by decide +kernel
theorem dX6_answerAt_6 : decode cX6_answerAt 6 = .ok (.aload_n 0, 1) := by decide +kernel
theorem dX6_answerAt_7 : decode cX6_answerAt 7 = .ok (.getfield 34, 3) := by decide +kernel
theorem dX6_answerAt_10 : decode cX6_answerAt 10 = .ok (.iload_n 3, 1) := by decide +kernel
theorem dX6_answerAt_11 : decode cX6_answerAt 11 = .ok (.invokevirtual 54, 3) := by decide +kernel
theorem dX6_answerAt_14 : decode cX6_answerAt 14 = .ok (.ifCond .ne 6, 3) := by decide +kernel
theorem dX6_answerAt_17 : decode cX6_answerAt 17 = .ok (.bipush (-5), 2) := by decide +kernel
theorem dX6_answerAt_19 : decode cX6_answerAt 19 = .ok (.ireturn, 1) := by decide +kernel
theorem dX6_answerAt_20 : decode cX6_answerAt 20 = .ok (.aload_n 0, 1) := by decide +kernel
theorem dX6_answerAt_21 : decode cX6_answerAt 21 = .ok (.iload_n 1, 1) := by decide +kernel
theorem dX6_answerAt_22 : decode cX6_answerAt 22 = .ok (.iconst 1, 1) := by decide +kernel
theorem dX6_answerAt_23 : decode cX6_answerAt 23 = .ok (.iadd, 1) := by decide +kernel
theorem dX6_answerAt_24 : decode cX6_answerAt 24 = .ok (.invokevirtual 67, 3) := by decide +kernel
theorem dX6_answerAt_27 : decode cX6_answerAt 27 = .ok (.istore 4, 2) := by decide +kernel
theorem dX6_answerAt_29 : decode cX6_answerAt 29 = .ok (.aload_n 0, 1) := by decide +kernel
theorem dX6_answerAt_30 : decode cX6_answerAt 30 = .ok (.aload_n 0, 1) := by decide +kernel
theorem dX6_answerAt_31 : decode cX6_answerAt 31 = .ok (.getfield 15, 3) := by decide +kernel
theorem dX6_answerAt_34 : decode cX6_answerAt 34 = .ok (.iload_n 1, 1) := by decide +kernel
theorem dX6_answerAt_35 : decode cX6_answerAt 35 = .ok (.iaload, 1) := by decide +kernel
theorem dX6_answerAt_36 : decode cX6_answerAt 36 = .ok (.invokevirtual 67, 3) := by decide +kernel
theorem dX6_answerAt_39 : decode cX6_answerAt 39 = .ok (.istore 5, 2) := by decide +kernel
theorem dX6_answerAt_41 : decode cX6_answerAt 41 = .ok (.aload_n 0, 1) := by decide +kernel
theorem dX6_answerAt_42 : decode cX6_answerAt 42 = .ok (.getfield 34, 3) := by decide +kernel
theorem dX6_answerAt_45 : decode cX6_answerAt 45 = .ok (.getfield 73, 3) := by decide +kernel
theorem dX6_answerAt_48 : decode cX6_answerAt 48 = .ok (.iload_n 3, 1) := by decide +kernel
theorem dX6_answerAt_49 : decode cX6_answerAt 49 = .ok (.iaload, 1) := by decide +kernel
theorem dX6_answerAt_50 : decode cX6_answerAt 50 = .ok (.tableswitch 201 0 7 #[46, 201, 71, 104, 134, 169, 95, 119], 46) := by decide +kernel
theorem dX6_answerAt_96 : decode cX6_answerAt 96 = .ok (.iload_n 3, 1) := by decide +kernel
theorem dX6_answerAt_97 : decode cX6_answerAt 97 = .ok (.aload_n 0, 1) := by decide +kernel
theorem dX6_answerAt_98 : decode cX6_answerAt 98 = .ok (.getfield 28, 3) := by decide +kernel
theorem dX6_answerAt_101 : decode cX6_answerAt 101 = .ok (.if_icmp .ne 10, 3) := by decide +kernel
theorem dX6_answerAt_104 : decode cX6_answerAt 104 = .ok (.aload_n 0, 1) := by decide +kernel
theorem dX6_answerAt_105 : decode cX6_answerAt 105 = .ok (.getfield 31, 3) := by decide +kernel
theorem dX6_answerAt_108 : decode cX6_answerAt 108 = .ok (.goto 12, 3) := by decide +kernel
theorem dX6_answerAt_111 : decode cX6_answerAt 111 = .ok (.aload_n 0, 1) := by decide +kernel
theorem dX6_answerAt_112 : decode cX6_answerAt 112 = .ok (.getfield 34, 3) := by decide +kernel
theorem dX6_answerAt_115 : decode cX6_answerAt 115 = .ok (.getfield 76, 3) := by decide +kernel
theorem dX6_answerAt_118 : decode cX6_answerAt 118 = .ok (.iload_n 3, 1) := by decide +kernel
theorem dX6_answerAt_119 : decode cX6_answerAt 119 = .ok (.iaload, 1) := by decide +kernel
theorem dX6_answerAt_120 : decode cX6_answerAt 120 = .ok (.ireturn, 1) := by decide +kernel
theorem dX6_answerAt_121 : decode cX6_answerAt 121 = .ok (.iload_n 2, 1) := by decide +kernel
theorem dX6_answerAt_122 : decode cX6_answerAt 122 = .ok (.aload_n 0, 1) := by decide +kernel
theorem dX6_answerAt_123 : decode cX6_answerAt 123 = .ok (.getfield 34, 3) := by decide +kernel
theorem dX6_answerAt_126 : decode cX6_answerAt 126 = .ok (.getfield 79, 3) := by decide +kernel
theorem dX6_answerAt_129 : decode cX6_answerAt 129 = .ok (.iload_n 3, 1) := by decide +kernel
theorem dX6_answerAt_130 : decode cX6_answerAt 130 = .ok (.iaload, 1) := by decide +kernel
theorem dX6_answerAt_131 : decode cX6_answerAt 131 = .ok (.invokestatic 82, 3) := by decide +kernel
theorem dX6_answerAt_134 : decode cX6_answerAt 134 = .ok (.ifCond .eq 8, 3) := by decide +kernel
theorem dX6_answerAt_137 : decode cX6_answerAt 137 = .ok (.iload 4, 2) := by decide +kernel
theorem dX6_answerAt_139 : decode cX6_answerAt 139 = .ok (.goto 5, 3) := by decide +kernel
theorem dX6_answerAt_142 : decode cX6_answerAt 142 = .ok (.bipush (-5), 2) := by decide +kernel
theorem dX6_answerAt_144 : decode cX6_answerAt 144 = .ok (.ireturn, 1) := by decide +kernel
theorem dX6_answerAt_145 : decode cX6_answerAt 145 = .ok (.aload_n 0, 1) := by decide +kernel
theorem dX6_answerAt_146 : decode cX6_answerAt 146 = .ok (.iload 4, 2) := by decide +kernel
theorem dX6_answerAt_148 : decode cX6_answerAt 148 = .ok (.iload_n 3, 1) := by decide +kernel
theorem dX6_answerAt_149 : decode cX6_answerAt 149 = .ok (.iload_n 2, 1) := by decide +kernel
theorem dX6_answerAt_150 : decode cX6_answerAt 150 = .ok (.invokevirtual 86, 3) := by decide +kernel
theorem dX6_answerAt_153 : decode cX6_answerAt 153 = .ok (.ireturn, 1) := by decide +kernel
theorem dX6_answerAt_154 : decode cX6_answerAt 154 = .ok (.iload 4, 2) := by decide +kernel
theorem dX6_answerAt_156 : decode cX6_answerAt 156 = .ok (.bipush (-5), 2) := by decide +kernel
theorem dX6_answerAt_158 : decode cX6_answerAt 158 = .ok (.if_icmp .ne 8, 3) := by decide +kernel
theorem dX6_answerAt_161 : decode cX6_answerAt 161 = .ok (.iload 5, 2) := by decide +kernel
theorem dX6_answerAt_163 : decode cX6_answerAt 163 = .ok (.goto 5, 3) := by decide +kernel
theorem dX6_answerAt_166 : decode cX6_answerAt 166 = .ok (.iload 4, 2) := by decide +kernel
theorem dX6_answerAt_168 : decode cX6_answerAt 168 = .ok (.ireturn, 1) := by decide +kernel
theorem dX6_answerAt_169 : decode cX6_answerAt 169 = .ok (.iload 5, 2) := by decide +kernel
theorem dX6_answerAt_171 : decode cX6_answerAt 171 = .ok (.bipush (-5), 2) := by decide +kernel
theorem dX6_answerAt_173 : decode cX6_answerAt 173 = .ok (.if_icmp .ne 8, 3) := by decide +kernel
theorem dX6_answerAt_176 : decode cX6_answerAt 176 = .ok (.iload 4, 2) := by decide +kernel
theorem dX6_answerAt_178 : decode cX6_answerAt 178 = .ok (.goto 5, 3) := by decide +kernel
theorem dX6_answerAt_181 : decode cX6_answerAt 181 = .ok (.bipush (-5), 2) := by decide +kernel
theorem dX6_answerAt_183 : decode cX6_answerAt 183 = .ok (.ireturn, 1) := by decide +kernel
theorem dX6_answerAt_184 : decode cX6_answerAt 184 = .ok (.iload 4, 2) := by decide +kernel
theorem dX6_answerAt_186 : decode cX6_answerAt 186 = .ok (.bipush (-5), 2) := by decide +kernel
theorem dX6_answerAt_188 : decode cX6_answerAt 188 = .ok (.if_icmp .ne 8, 3) := by decide +kernel
theorem dX6_answerAt_191 : decode cX6_answerAt 191 = .ok (.iload 5, 2) := by decide +kernel
theorem dX6_answerAt_193 : decode cX6_answerAt 193 = .ok (.goto 25, 3) := by decide +kernel
theorem dX6_answerAt_196 : decode cX6_answerAt 196 = .ok (.iload 5, 2) := by decide +kernel
theorem dX6_answerAt_198 : decode cX6_answerAt 198 = .ok (.bipush (-5), 2) := by decide +kernel
theorem dX6_answerAt_200 : decode cX6_answerAt 200 = .ok (.if_icmp .ne 8, 3) := by decide +kernel
theorem dX6_answerAt_203 : decode cX6_answerAt 203 = .ok (.iload 4, 2) := by decide +kernel
theorem dX6_answerAt_205 : decode cX6_answerAt 205 = .ok (.goto 13, 3) := by decide +kernel
theorem dX6_answerAt_208 : decode cX6_answerAt 208 = .ok (.iload 4, 2) := by decide +kernel
theorem dX6_answerAt_210 : decode cX6_answerAt 210 = .ok (.iload 5, 2) := by decide +kernel
theorem dX6_answerAt_212 : decode cX6_answerAt 212 = .ok (.iadd, 1) := by decide +kernel
theorem dX6_answerAt_213 : decode cX6_answerAt 213 = .ok (.bipush 99, 2) := by decide +kernel
theorem dX6_answerAt_215 : decode cX6_answerAt 215 = .ok (.invokestatic 44, 3) := by decide +kernel
theorem dX6_answerAt_218 : decode cX6_answerAt 218 = .ok (.ireturn, 1) := by decide +kernel
theorem dX6_answerAt_219 : decode cX6_answerAt 219 = .ok (.iload 4, 2) := by decide +kernel
theorem dX6_answerAt_221 : decode cX6_answerAt 221 = .ok (.bipush (-5), 2) := by decide +kernel
theorem dX6_answerAt_223 : decode cX6_answerAt 223 = .ok (.if_icmp .ne 8, 3) := by decide +kernel
theorem dX6_answerAt_226 : decode cX6_answerAt 226 = .ok (.iload 5, 2) := by decide +kernel
theorem dX6_answerAt_228 : decode cX6_answerAt 228 = .ok (.goto 22, 3) := by decide +kernel
theorem dX6_answerAt_231 : decode cX6_answerAt 231 = .ok (.iload 5, 2) := by decide +kernel
theorem dX6_answerAt_233 : decode cX6_answerAt 233 = .ok (.bipush (-5), 2) := by decide +kernel
theorem dX6_answerAt_235 : decode cX6_answerAt 235 = .ok (.if_icmp .ne 8, 3) := by decide +kernel
theorem dX6_answerAt_238 : decode cX6_answerAt 238 = .ok (.iload 4, 2) := by decide +kernel
theorem dX6_answerAt_240 : decode cX6_answerAt 240 = .ok (.goto 10, 3) := by decide +kernel
theorem dX6_answerAt_243 : decode cX6_answerAt 243 = .ok (.iload 4, 2) := by decide +kernel
theorem dX6_answerAt_245 : decode cX6_answerAt 245 = .ok (.iload 5, 2) := by decide +kernel
theorem dX6_answerAt_247 : decode cX6_answerAt 247 = .ok (.invokestatic 44, 3) := by decide +kernel
theorem dX6_answerAt_250 : decode cX6_answerAt 250 = .ok (.ireturn, 1) := by decide +kernel
theorem dX6_answerAt_251 : decode cX6_answerAt 251 = .ok (.bipush (-5), 2) := by decide +kernel
theorem dX6_answerAt_253 : decode cX6_answerAt 253 = .ok (.ireturn, 1) := by decide +kernel
theorem dX6_capped_0 : decode cX6_capped 0 = .ok (.iload_n 1, 1) := by decide +kernel
theorem dX6_capped_1 : decode cX6_capped 1 = .ok (.bipush (-5), 2) := by decide +kernel
theorem dX6_capped_3 : decode cX6_capped 3 = .ok (.if_icmp .eq 19, 3) := by decide +kernel
theorem dX6_capped_6 : decode cX6_capped 6 = .ok (.iload_n 3, 1) := by decide +kernel
theorem dX6_capped_7 : decode cX6_capped 7 = .ok (.aload_n 0, 1) := by decide +kernel
theorem dX6_capped_8 : decode cX6_capped 8 = .ok (.getfield 34, 3) := by decide +kernel
theorem dX6_capped_11 : decode cX6_capped 11 = .ok (.getfield 79, 3) := by decide +kernel
theorem dX6_capped_14 : decode cX6_capped 14 = .ok (.iload_n 2, 1) := by decide +kernel
theorem dX6_capped_15 : decode cX6_capped 15 = .ok (.iaload, 1) := by decide +kernel
theorem dX6_capped_16 : decode cX6_capped 16 = .ok (.invokestatic 82, 3) := by decide +kernel
theorem dX6_capped_19 : decode cX6_capped 19 = .ok (.ifCond .ne 5, 3) := by decide +kernel
theorem dX6_capped_22 : decode cX6_capped 22 = .ok (.iload_n 1, 1) := by decide +kernel
theorem dX6_capped_23 : decode cX6_capped 23 = .ok (.ireturn, 1) := by decide +kernel
theorem dX6_capped_24 : decode cX6_capped 24 = .ok (.iload_n 1, 1) := by decide +kernel
theorem dX6_capped_25 : decode cX6_capped 25 = .ok (.aload_n 0, 1) := by decide +kernel
theorem dX6_capped_26 : decode cX6_capped 26 = .ok (.getfield 34, 3) := by decide +kernel
theorem dX6_capped_29 : decode cX6_capped 29 = .ok (.getfield 76, 3) := by decide +kernel
theorem dX6_capped_32 : decode cX6_capped 32 = .ok (.iload_n 2, 1) := by decide +kernel
theorem dX6_capped_33 : decode cX6_capped 33 = .ok (.iaload, 1) := by decide +kernel
theorem dX6_capped_34 : decode cX6_capped 34 = .ok (.invokestatic 44, 3) := by decide +kernel
theorem dX6_capped_37 : decode cX6_capped 37 = .ok (.ireturn, 1) := by decide +kernel
theorem dX6_ruleCount_0 : decode cX6_ruleCount 0 = .ok (.iconst 0, 1) := by decide +kernel
theorem dX6_ruleCount_1 : decode cX6_ruleCount 1 = .ok (.istore_n 1, 1) := by decide +kernel
theorem dX6_ruleCount_2 : decode cX6_ruleCount 2 = .ok (.iconst 0, 1) := by decide +kernel
theorem dX6_ruleCount_3 : decode cX6_ruleCount 3 = .ok (.istore_n 2, 1) := by decide +kernel
theorem dX6_ruleCount_4 : decode cX6_ruleCount 4 = .ok (.iload_n 2, 1) := by decide +kernel
theorem dX6_ruleCount_5 : decode cX6_ruleCount 5 = .ok (.aload_n 0, 1) := by decide +kernel
theorem dX6_ruleCount_6 : decode cX6_ruleCount 6 = .ok (.getfield 21, 3) := by decide +kernel
theorem dX6_ruleCount_9 : decode cX6_ruleCount 9 = .ok (.if_icmp .ge 20, 3) := by decide +kernel
theorem dX6_ruleCount_12 : decode cX6_ruleCount 12 = .ok (.aload_n 0, 1) := by decide +kernel
theorem dX6_ruleCount_13 : decode cX6_ruleCount 13 = .ok (.iload_n 2, 1) := by decide +kernel
theorem dX6_ruleCount_14 : decode cX6_ruleCount 14 = .ok (.invokevirtual 90, 3) := by decide +kernel
theorem dX6_ruleCount_17 : decode cX6_ruleCount 17 = .ok (.ifCond .eq 6, 3) := by decide +kernel
theorem dX6_ruleCount_20 : decode cX6_ruleCount 20 = .ok (.iinc 1 1, 3) := by decide +kernel
theorem dX6_ruleCount_23 : decode cX6_ruleCount 23 = .ok (.iinc 2 1, 3) := by decide +kernel
theorem dX6_ruleCount_26 : decode cX6_ruleCount 26 = .ok (.goto (-22), 3) := by decide +kernel
theorem dX6_ruleCount_29 : decode cX6_ruleCount 29 = .ok (.iload_n 1, 1) := by decide +kernel
theorem dX6_ruleCount_30 : decode cX6_ruleCount 30 = .ok (.ireturn, 1) := by decide +kernel
theorem dX6_placeOfRule_0 : decode cX6_placeOfRule 0 = .ok (.iconst 0, 1) := by decide +kernel
theorem dX6_placeOfRule_1 : decode cX6_placeOfRule 1 = .ok (.istore_n 2, 1) := by decide +kernel
theorem dX6_placeOfRule_2 : decode cX6_placeOfRule 2 = .ok (.iconst 0, 1) := by decide +kernel
theorem dX6_placeOfRule_3 : decode cX6_placeOfRule 3 = .ok (.istore_n 3, 1) := by decide +kernel
theorem dX6_placeOfRule_4 : decode cX6_placeOfRule 4 = .ok (.iload_n 3, 1) := by decide +kernel
theorem dX6_placeOfRule_5 : decode cX6_placeOfRule 5 = .ok (.aload_n 0, 1) := by decide +kernel
theorem dX6_placeOfRule_6 : decode cX6_placeOfRule 6 = .ok (.getfield 21, 3) := by decide +kernel
theorem dX6_placeOfRule_9 : decode cX6_placeOfRule 9 = .ok (.if_icmp .ge 27, 3) := by decide +kernel
theorem dX6_placeOfRule_12 : decode cX6_placeOfRule 12 = .ok (.aload_n 0, 1) := by decide +kernel
theorem dX6_placeOfRule_13 : decode cX6_placeOfRule 13 = .ok (.iload_n 3, 1) := by decide +kernel
theorem dX6_placeOfRule_14 : decode cX6_placeOfRule 14 = .ok (.invokevirtual 90, 3) := by decide +kernel
theorem dX6_placeOfRule_17 : decode cX6_placeOfRule 17 = .ok (.ifCond .eq 13, 3) := by decide +kernel
theorem dX6_placeOfRule_20 : decode cX6_placeOfRule 20 = .ok (.iload_n 2, 1) := by decide +kernel
theorem dX6_placeOfRule_21 : decode cX6_placeOfRule 21 = .ok (.iload_n 1, 1) := by decide +kernel
theorem dX6_placeOfRule_22 : decode cX6_placeOfRule 22 = .ok (.if_icmp .ne 5, 3) := by decide +kernel
theorem dX6_placeOfRule_25 : decode cX6_placeOfRule 25 = .ok (.iload_n 3, 1) := by decide +kernel
theorem dX6_placeOfRule_26 : decode cX6_placeOfRule 26 = .ok (.ireturn, 1) := by decide +kernel
theorem dX6_placeOfRule_27 : decode cX6_placeOfRule 27 = .ok (.iinc 2 1, 3) := by decide +kernel
theorem dX6_placeOfRule_30 : decode cX6_placeOfRule 30 = .ok (.iinc 3 1, 3) := by decide +kernel
theorem dX6_placeOfRule_33 : decode cX6_placeOfRule 33 = .ok (.goto (-29), 3) := by decide +kernel
theorem dX6_placeOfRule_36 : decode cX6_placeOfRule 36 = .ok (.iconst (-1), 1) := by decide +kernel
theorem dX6_placeOfRule_37 : decode cX6_placeOfRule 37 = .ok (.ireturn, 1) := by decide +kernel
theorem dX6_isRule_0 : decode cX6_isRule 0 = .ok (.aload_n 0, 1) := by decide +kernel
theorem dX6_isRule_1 : decode cX6_isRule 1 = .ok (.iload_n 1, 1) := by decide +kernel
theorem dX6_isRule_2 : decode cX6_isRule 2 = .ok (.invokevirtual 70, 3) := by decide +kernel
theorem dX6_isRule_5 : decode cX6_isRule 5 = .ok (.istore_n 2, 1) := by decide +kernel
theorem dX6_isRule_6 : decode cX6_isRule 6 = .ok (.aload_n 0, 1) := by decide +kernel
theorem dX6_isRule_7 : decode cX6_isRule 7 = .ok (.getfield 34, 3) := by decide +kernel
theorem dX6_isRule_10 : decode cX6_isRule 10 = .ok (.iload_n 2, 1) := by decide +kernel
theorem dX6_isRule_11 : decode cX6_isRule 11 = .ok (.invokevirtual 54, 3) := by decide +kernel
theorem dX6_isRule_14 : decode cX6_isRule 14 = .ok (.ifCond .eq 20, 3) := by decide +kernel
theorem dX6_isRule_17 : decode cX6_isRule 17 = .ok (.aload_n 0, 1) := by decide +kernel
theorem dX6_isRule_18 : decode cX6_isRule 18 = .ok (.getfield 34, 3) := by decide +kernel
theorem dX6_isRule_21 : decode cX6_isRule 21 = .ok (.getfield 73, 3) := by decide +kernel
theorem dX6_isRule_24 : decode cX6_isRule 24 = .ok (.iload_n 2, 1) := by decide +kernel
theorem dX6_isRule_25 : decode cX6_isRule 25 = .ok (.iaload, 1) := by decide +kernel
theorem dX6_isRule_26 : decode cX6_isRule 26 = .ok (.iconst 2, 1) := by decide +kernel
theorem dX6_isRule_27 : decode cX6_isRule 27 = .ok (.if_icmp .ne 7, 3) := by decide +kernel
theorem dX6_isRule_30 : decode cX6_isRule 30 = .ok (.iconst 1, 1) := by decide +kernel
theorem dX6_isRule_31 : decode cX6_isRule 31 = .ok (.goto 4, 3) := by decide +kernel
theorem dX6_isRule_34 : decode cX6_isRule 34 = .ok (.iconst 0, 1) := by decide +kernel
theorem dX6_isRule_35 : decode cX6_isRule 35 = .ok (.ireturn, 1) := by decide +kernel
theorem dX7_init_0 : decode cX7_init 0 = .ok (.aload_n 0, 1) := by decide +kernel
theorem dX7_init_1 : decode cX7_init 1 = .ok (.invokespecial 3, 3) := by decide +kernel
theorem dX7_init_4 : decode cX7_init 4 = .ok (.aload_n 0, 1) := by decide +kernel
theorem dX7_init_5 : decode cX7_init 5 = .ok (.new 9, 3) := by decide +kernel
theorem dX7_init_8 : decode cX7_init 8 = .ok (.dup, 1) := by decide +kernel
theorem dX7_init_9 : decode cX7_init 9 = .ok (.invokespecial 11, 3) := by decide +kernel
theorem dX7_init_12 : decode cX7_init 12 = .ok (.putfield 12, 3) := by decide +kernel
theorem dX7_init_15 : decode cX7_init 15 = .ok (.aload_n 0, 1) := by decide +kernel
theorem dX7_init_16 : decode cX7_init 16 = .ok (.new 18, 3) := by decide +kernel
theorem dX7_init_19 : decode cX7_init 19 = .ok (.dup, 1) := by decide +kernel
theorem dX7_init_20 : decode cX7_init 20 = .ok (.invokespecial 20, 3) := by decide +kernel
theorem dX7_init_23 : decode cX7_init 23 = .ok (.putfield 21, 3) := by decide +kernel
theorem dX7_init_26 : decode cX7_init 26 = .ok (.aload_n 0, 1) := by decide +kernel
theorem dX7_init_27 : decode cX7_init 27 = .ok (.new 9, 3) := by decide +kernel
theorem dX7_init_30 : decode cX7_init 30 = .ok (.dup, 1) := by decide +kernel
theorem dX7_init_31 : decode cX7_init 31 = .ok (.invokespecial 11, 3) := by decide +kernel
theorem dX7_init_34 : decode cX7_init 34 = .ok (.putfield 25, 3) := by decide +kernel
theorem dX7_init_37 : decode cX7_init 37 = .ok (.aload_n 0, 1) := by decide +kernel
theorem dX7_init_38 : decode cX7_init 38 = .ok (.new 18, 3) := by decide +kernel
theorem dX7_init_41 : decode cX7_init 41 = .ok (.dup, 1) := by decide +kernel
theorem dX7_init_42 : decode cX7_init 42 = .ok (.invokespecial 20, 3) := by decide +kernel
theorem dX7_init_45 : decode cX7_init 45 = .ok (.putfield 28, 3) := by decide +kernel
theorem dX7_init_48 : decode cX7_init 48 = .ok (.aload_n 0, 1) := by decide +kernel
theorem dX7_init_49 : decode cX7_init 49 = .ok (.iconst 0, 1) := by decide +kernel
theorem dX7_init_50 : decode cX7_init 50 = .ok (.putfield 31, 3) := by decide +kernel
theorem dX7_init_53 : decode cX7_init 53 = .ok (.aload_n 0, 1) := by decide +kernel
theorem dX7_init_54 : decode cX7_init 54 = .ok (.new 35, 3) := by decide +kernel
theorem dX7_init_57 : decode cX7_init 57 = .ok (.dup, 1) := by decide +kernel
theorem dX7_init_58 : decode cX7_init 58 = .ok (.aload_n 0, 1) := by decide +kernel
theorem dX7_init_59 : decode cX7_init 59 = .ok (.getfield 12, 3) := by decide +kernel
theorem dX7_init_62 : decode cX7_init 62 = .ok (.invokespecial 37, 3) := by decide +kernel
theorem dX7_init_65 : decode cX7_init 65 = .ok (.putfield 40, 3) := by decide +kernel
theorem dX7_init_68 : decode cX7_init 68 = .ok (.aload_n 0, 1) := by decide +kernel
theorem dX7_init_69 : decode cX7_init 69 = .ok (.new 44, 3) := by decide +kernel
theorem dX7_init_72 : decode cX7_init 72 = .ok (.dup, 1) := by decide +kernel
theorem dX7_init_73 : decode cX7_init 73 = .ok (.invokespecial 46, 3) := by decide +kernel
theorem dX7_init_76 : decode cX7_init 76 = .ok (.putfield 47, 3) := by decide +kernel
theorem dX7_init_79 : decode cX7_init 79 = .ok (.aload_n 0, 1) := by decide +kernel
theorem dX7_init_80 : decode cX7_init 80 = .ok (.new 51, 3) := by decide +kernel
theorem dX7_init_83 : decode cX7_init 83 = .ok (.dup, 1) := by decide +kernel
theorem dX7_init_84 : decode cX7_init 84 = .ok (.aload_n 0, 1) := by decide +kernel
theorem dX7_init_85 : decode cX7_init 85 = .ok (.getfield 12, 3) := by decide +kernel
theorem dX7_init_88 : decode cX7_init 88 = .ok (.invokespecial 53, 3) := by decide +kernel
theorem dX7_init_91 : decode cX7_init 91 = .ok (.putfield 54, 3) := by decide +kernel
theorem dX7_init_94 : decode cX7_init 94 = .ok (.aload_n 0, 1) := by decide +kernel
theorem dX7_init_95 : decode cX7_init 95 = .ok (.new 58, 3) := by decide +kernel
theorem dX7_init_98 : decode cX7_init 98 = .ok (.dup, 1) := by decide +kernel
theorem dX7_init_99 : decode cX7_init 99 = .ok (.aload_n 0, 1) := by decide +kernel
theorem dX7_init_100 : decode cX7_init 100 = .ok (.getfield 12, 3) := by decide +kernel
theorem dX7_init_103 : decode cX7_init 103 = .ok (.invokespecial 60, 3) := by decide +kernel
theorem dX7_init_106 : decode cX7_init 106 = .ok (.putfield 61, 3) := by decide +kernel
theorem dX7_init_109 : decode cX7_init 109 = .ok (.aload_n 0, 1) := by decide +kernel
theorem dX7_init_110 : decode cX7_init 110 = .ok (.new 65, 3) := by decide +kernel
theorem dX7_init_113 : decode cX7_init 113 = .ok (.dup, 1) := by decide +kernel
theorem dX7_init_114 : decode cX7_init 114 = .ok (.invokespecial 67, 3) := by decide +kernel
theorem dX7_init_117 : decode cX7_init 117 = .ok (.putfield 68, 3) := by decide +kernel
theorem dX7_init_120 : decode cX7_init 120 = .ok (.return_, 1) := by decide +kernel
theorem dX7_flat_0 : decode cX7_flat 0 = .ok (.iload_n 1, 1) := by decide +kernel
theorem dX7_flat_1 : decode cX7_flat 1 = .ok (.invokestatic 72, 3) := by decide +kernel
theorem dX7_flat_4 : decode cX7_flat 4 = .ok (.ifCond .ne 6, 3) := by decide +kernel
theorem dX7_flat_7 : decode cX7_flat 7 = .ok (.bipush (-2), 2) := by decide +kernel
theorem dX7_flat_9 : decode cX7_flat 9 = .ok (.ireturn, 1) := by decide +kernel
theorem dX7_flat_10 : decode cX7_flat 10 = .ok (.aload_n 0, 1) := by decide +kernel
theorem dX7_flat_11 : decode cX7_flat 11 = .ok (.getfield 12, 3) := by decide +kernel
theorem dX7_flat_14 : decode cX7_flat 14 = .ok (.iconst 0, 1) := by decide +kernel
theorem dX7_flat_15 : decode cX7_flat 15 = .ok (.iload_n 1, 1) := by decide +kernel
theorem dX7_flat_16 : decode cX7_flat 16 = .ok (.bipush (-5), 2) := by decide +kernel
theorem dX7_flat_18 : decode cX7_flat 18 = .ok (.bipush (-5), 2) := by decide +kernel
theorem dX7_flat_20 : decode cX7_flat 20 = .ok (.bipush (-5), 2) := by decide +kernel
theorem dX7_flat_22 : decode cX7_flat 22 = .ok (.invokevirtual 76, 3) := by decide +kernel
theorem dX7_flat_25 : decode cX7_flat 25 = .ok (.ireturn, 1) := by decide +kernel
theorem dX7_empty_0 : decode cX7_empty 0 = .ok (.aload_n 0, 1) := by decide +kernel
theorem dX7_empty_1 : decode cX7_empty 1 = .ok (.getfield 12, 3) := by decide +kernel
theorem dX7_empty_4 : decode cX7_empty 4 = .ok (.iconst 1, 1) := by decide +kernel
theorem dX7_empty_5 : decode cX7_empty 5 = .ok (.bipush (-5), 2) := by decide +kernel
theorem dX7_empty_7 : decode cX7_empty 7 = .ok (.bipush (-5), 2) := by decide +kernel
theorem dX7_empty_9 : decode cX7_empty 9 = .ok (.bipush (-5), 2) := by decide +kernel
theorem dX7_empty_11 : decode cX7_empty 11 = .ok (.bipush (-5), 2) := by decide +kernel
theorem dX7_empty_13 : decode cX7_empty 13 = .ok (.invokevirtual 76, 3) := by decide +kernel
theorem dX7_empty_16 : decode cX7_empty 16 = .ok (.ireturn, 1) := by decide +kernel
theorem dX7_when_0 : decode cX7_when 0 = .ok (.aload_n 0, 1) := by decide +kernel
theorem dX7_when_1 : decode cX7_when 1 = .ok (.getfield 12, 3) := by decide +kernel
theorem dX7_when_4 : decode cX7_when 4 = .ok (.iload_n 1, 1) := by decide +kernel
theorem dX7_when_5 : decode cX7_when 5 = .ok (.invokevirtual 80, 3) := by decide +kernel
theorem dX7_when_8 : decode cX7_when 8 = .ok (.ifCond .ne 5, 3) := by decide +kernel
theorem dX7_when_11 : decode cX7_when 11 = .ok (.iconst (-1), 1) := by decide +kernel
theorem dX7_when_12 : decode cX7_when 12 = .ok (.ireturn, 1) := by decide +kernel
theorem dX7_when_13 : decode cX7_when 13 = .ok (.iload_n 2, 1) := by decide +kernel
theorem dX7_when_14 : decode cX7_when 14 = .ok (.invokestatic 83, 3) := by decide +kernel
theorem dX7_when_17 : decode cX7_when 17 = .ok (.ifCond .ne 6, 3) := by decide +kernel
theorem dX7_when_20 : decode cX7_when 20 = .ok (.bipush (-2), 2) := by decide +kernel
theorem dX7_when_22 : decode cX7_when 22 = .ok (.ireturn, 1) := by decide +kernel
theorem dX7_when_23 : decode cX7_when 23 = .ok (.aload_n 0, 1) := by decide +kernel
theorem dX7_when_24 : decode cX7_when 24 = .ok (.getfield 12, 3) := by decide +kernel
theorem dX7_when_27 : decode cX7_when 27 = .ok (.iconst 2, 1) := by decide +kernel
theorem dX7_when_28 : decode cX7_when 28 = .ok (.bipush (-5), 2) := by decide +kernel
theorem dX7_when_30 : decode cX7_when 30 = .ok (.iload_n 2, 1) := by decide +kernel
theorem dX7_when_31 : decode cX7_when 31 = .ok (.iload_n 1, 1) := by decide +kernel
theorem dX7_when_32 : decode cX7_when 32 = .ok (.bipush (-5), 2) := by decide +kernel
theorem dX7_when_34 : decode cX7_when 34 = .ok (.invokevirtual 76, 3) := by decide +kernel
theorem dX7_when_37 : decode cX7_when 37 = .ok (.ireturn, 1) := by decide +kernel
theorem dX7_cap_0 : decode cX7_cap 0 = .ok (.aload_n 0, 1) := by decide +kernel
theorem dX7_cap_1 : decode cX7_cap 1 = .ok (.getfield 12, 3) := by decide +kernel
theorem dX7_cap_4 : decode cX7_cap 4 = .ok (.iload_n 1, 1) := by decide +kernel
theorem dX7_cap_5 : decode cX7_cap 5 = .ok (.invokevirtual 80, 3) := by decide +kernel
theorem dX7_cap_8 : decode cX7_cap 8 = .ok (.ifCond .ne 5, 3) := by decide +kernel
theorem dX7_cap_11 : decode cX7_cap 11 = .ok (.iconst (-1), 1) := by decide +kernel
theorem dX7_cap_12 : decode cX7_cap 12 = .ok (.ireturn, 1) := by decide +kernel
theorem dX7_cap_13 : decode cX7_cap 13 = .ok (.iload_n 2, 1) := by decide +kernel
theorem dX7_cap_14 : decode cX7_cap 14 = .ok (.invokestatic 83, 3) := by decide +kernel
theorem dX7_cap_17 : decode cX7_cap 17 = .ok (.ifCond .eq 10, 3) := by decide +kernel
theorem dX7_cap_20 : decode cX7_cap 20 = .ok (.iload_n 3, 1) := by decide +kernel
theorem dX7_cap_21 : decode cX7_cap 21 = .ok (.invokestatic 72, 3) := by decide +kernel
theorem dX7_cap_24 : decode cX7_cap 24 = .ok (.ifCond .ne 6, 3) := by decide +kernel
theorem dX7_cap_27 : decode cX7_cap 27 = .ok (.bipush (-2), 2) := by decide +kernel
theorem dX7_cap_29 : decode cX7_cap 29 = .ok (.ireturn, 1) := by decide +kernel
theorem dX7_cap_30 : decode cX7_cap 30 = .ok (.aload_n 0, 1) := by decide +kernel
theorem dX7_cap_31 : decode cX7_cap 31 = .ok (.getfield 12, 3) := by decide +kernel
theorem dX7_cap_34 : decode cX7_cap 34 = .ok (.bipush 6, 2) := by decide +kernel
theorem dX7_cap_36 : decode cX7_cap 36 = .ok (.iload_n 3, 1) := by decide +kernel
theorem dX7_cap_37 : decode cX7_cap 37 = .ok (.iload_n 2, 1) := by decide +kernel
theorem dX7_cap_38 : decode cX7_cap 38 = .ok (.iload_n 1, 1) := by decide +kernel
theorem dX7_cap_39 : decode cX7_cap 39 = .ok (.bipush (-5), 2) := by decide +kernel
theorem dX7_cap_41 : decode cX7_cap 41 = .ok (.invokevirtual 76, 3) := by decide +kernel
theorem dX7_cap_44 : decode cX7_cap 44 = .ok (.ireturn, 1) := by decide +kernel
theorem dX7_two_0 : decode cX7_two 0 = .ok (.iload_n 1, 1) := by decide +kernel
theorem dX7_two_1 : decode cX7_two 1 = .ok (.invokestatic 86, 3) := by decide +kernel
theorem dX7_two_4 : decode cX7_two 4 = .ok (.ifCond .eq 25, 3) := by decide +kernel
theorem dX7_two_7 : decode cX7_two 7 = .ok (.aload_n 0, 1) := by decide +kernel
theorem dX7_two_8 : decode cX7_two 8 = .ok (.getfield 12, 3) := by decide +kernel
theorem dX7_two_11 : decode cX7_two 11 = .ok (.iload_n 2, 1) := by decide +kernel
theorem dX7_two_12 : decode cX7_two 12 = .ok (.invokevirtual 80, 3) := by decide +kernel
theorem dX7_two_15 : decode cX7_two 15 = .ok (.ifCond .eq 14, 3) := by decide +kernel
theorem dX7_two_18 : decode cX7_two 18 = .ok (.aload_n 0, 1) := by decide +kernel
theorem dX7_two_19 : decode cX7_two 19 = .ok (.getfield 12, 3) := by decide +kernel
theorem dX7_two_22 : decode cX7_two 22 = .ok (.iload_n 3, 1) := by decide +kernel
theorem dX7_two_23 : decode cX7_two 23 = .ok (.invokevirtual 80, 3) := by decide +kernel
theorem dX7_two_26 : decode cX7_two 26 = .ok (.ifCond .ne 5, 3) := by decide +kernel
theorem dX7_two_29 : decode cX7_two 29 = .ok (.iconst (-1), 1) := by decide +kernel
theorem dX7_two_30 : decode cX7_two 30 = .ok (.ireturn, 1) := by decide +kernel
theorem dX7_two_31 : decode cX7_two 31 = .ok (.aload_n 0, 1) := by decide +kernel
theorem dX7_two_32 : decode cX7_two 32 = .ok (.getfield 12, 3) := by decide +kernel
theorem dX7_two_35 : decode cX7_two 35 = .ok (.iload_n 1, 1) := by decide +kernel
theorem dX7_two_36 : decode cX7_two 36 = .ok (.bipush (-5), 2) := by decide +kernel
theorem dX7_two_38 : decode cX7_two 38 = .ok (.bipush (-5), 2) := by decide +kernel
theorem dX7_two_40 : decode cX7_two 40 = .ok (.iload_n 2, 1) := by decide +kernel
theorem dX7_two_41 : decode cX7_two 41 = .ok (.iload_n 3, 1) := by decide +kernel
theorem dX7_two_42 : decode cX7_two 42 = .ok (.invokevirtual 76, 3) := by decide +kernel
theorem dX7_two_45 : decode cX7_two 45 = .ok (.ireturn, 1) := by decide +kernel
theorem dX7_drop_0 : decode cX7_drop 0 = .ok (.aload_n 0, 1) := by decide +kernel
theorem dX7_drop_1 : decode cX7_drop 1 = .ok (.getfield 12, 3) := by decide +kernel
theorem dX7_drop_4 : decode cX7_drop 4 = .ok (.getfield 89, 3) := by decide +kernel
theorem dX7_drop_7 : decode cX7_drop 7 = .ok (.ifCond .ne 6, 3) := by decide +kernel
theorem dX7_drop_10 : decode cX7_drop 10 = .ok (.bipush (-3), 2) := by decide +kernel
theorem dX7_drop_12 : decode cX7_drop 12 = .ok (.ireturn, 1) := by decide +kernel
theorem dX7_drop_13 : decode cX7_drop 13 = .ok (.aload_n 0, 1) := by decide +kernel
theorem dX7_drop_14 : decode cX7_drop 14 = .ok (.getfield 12, 3) := by decide +kernel
theorem dX7_drop_17 : decode cX7_drop 17 = .ok (.aload_n 0, 1) := by decide +kernel
theorem dX7_drop_18 : decode cX7_drop 18 = .ok (.getfield 12, 3) := by decide +kernel
theorem dX7_drop_21 : decode cX7_drop 21 = .ok (.getfield 89, 3) := by decide +kernel
theorem dX7_drop_24 : decode cX7_drop 24 = .ok (.iconst 1, 1) := by decide +kernel
theorem dX7_drop_25 : decode cX7_drop 25 = .ok (.isub, 1) := by decide +kernel
theorem dX7_drop_26 : decode cX7_drop 26 = .ok (.invokevirtual 93, 3) := by decide +kernel
theorem dX7_drop_29 : decode cX7_drop 29 = .ok (.aload_n 0, 1) := by decide +kernel
theorem dX7_drop_30 : decode cX7_drop 30 = .ok (.getfield 12, 3) := by decide +kernel
theorem dX7_drop_33 : decode cX7_drop 33 = .ok (.getfield 89, 3) := by decide +kernel
theorem dX7_drop_36 : decode cX7_drop 36 = .ok (.ireturn, 1) := by decide +kernel
theorem dX7_feed_0 : decode cX7_feed 0 = .ok (.iload_n 1, 1) := by decide +kernel
theorem dX7_feed_1 : decode cX7_feed 1 = .ok (.iconst 1, 1) := by decide +kernel
theorem dX7_feed_2 : decode cX7_feed 2 = .ok (.if_icmp .lt 9, 3) := by decide +kernel
theorem dX7_feed_5 : decode cX7_feed 5 = .ok (.iload_n 1, 1) := by decide +kernel
theorem dX7_feed_6 : decode cX7_feed 6 = .ok (.bipush 127, 2) := by decide +kernel
theorem dX7_feed_8 : decode cX7_feed 8 = .ok (.if_icmp .le 6, 3) := by decide +kernel
theorem dX7_feed_11 : decode cX7_feed 11 = .ok (.bipush (-2), 2) := by decide +kernel
theorem dX7_feed_13 : decode cX7_feed 13 = .ok (.ireturn, 1) := by decide +kernel
theorem dX7_feed_14 : decode cX7_feed 14 = .ok (.aload_n 0, 1) := by decide +kernel
theorem dX7_feed_15 : decode cX7_feed 15 = .ok (.getfield 54, 3) := by decide +kernel
theorem dX7_feed_18 : decode cX7_feed 18 = .ok (.iload_n 1, 1) := by decide +kernel
theorem dX7_feed_19 : decode cX7_feed 19 = .ok (.invokevirtual 97, 3) := by decide +kernel
theorem dX7_feed_22 : decode cX7_feed 22 = .ok (.ireturn, 1) := by decide +kernel
theorem dX7_clear_0 : decode cX7_clear 0 = .ok (.aload_n 0, 1) := by decide +kernel
theorem dX7_clear_1 : decode cX7_clear 1 = .ok (.getfield 54, 3) := by decide +kernel
theorem dX7_clear_4 : decode cX7_clear 4 = .ok (.invokevirtual 101, 3) := by decide +kernel
theorem dX7_clear_7 : decode cX7_clear 7 = .ok (.ireturn, 1) := by decide +kernel
theorem dX7_read_0 : decode cX7_read 0 = .ok (.aload_n 0, 1) := by decide +kernel
theorem dX7_read_1 : decode cX7_read 1 = .ok (.getfield 54, 3) := by decide +kernel
theorem dX7_read_4 : decode cX7_read 4 = .ok (.invokevirtual 105, 3) := by decide +kernel
theorem dX7_read_7 : decode cX7_read 7 = .ok (.ireturn, 1) := by decide +kernel
theorem dX7_way_0 : decode cX7_way 0 = .ok (.iload_n 1, 1) := by decide +kernel
theorem dX7_way_1 : decode cX7_way 1 = .ok (.iconst (-1), 1) := by decide +kernel
theorem dX7_way_2 : decode cX7_way 2 = .ok (.if_icmp .ne 11, 3) := by decide +kernel
theorem dX7_way_5 : decode cX7_way 5 = .ok (.aload_n 0, 1) := by decide +kernel
theorem dX7_way_6 : decode cX7_way 6 = .ok (.getfield 54, 3) := by decide +kernel
theorem dX7_way_9 : decode cX7_way 9 = .ok (.getfield 108, 3) := by decide +kernel
theorem dX7_way_12 : decode cX7_way 12 = .ok (.ireturn, 1) := by decide +kernel
theorem dX7_way_13 : decode cX7_way 13 = .ok (.iload_n 1, 1) := by decide +kernel
theorem dX7_way_14 : decode cX7_way 14 = .ok (.ifCond .lt 26, 3) := by decide +kernel
theorem dX7_way_17 : decode cX7_way 17 = .ok (.iload_n 1, 1) := by decide +kernel
theorem dX7_way_18 : decode cX7_way 18 = .ok (.aload_n 0, 1) := by decide +kernel
theorem dX7_way_19 : decode cX7_way 19 = .ok (.getfield 54, 3) := by decide +kernel
theorem dX7_way_22 : decode cX7_way 22 = .ok (.getfield 108, 3) := by decide +kernel
theorem dX7_way_25 : decode cX7_way 25 = .ok (.if_icmp .ge 15, 3) := by decide +kernel
theorem dX7_way_28 : decode cX7_way 28 = .ok (.aload_n 0, 1) := by decide +kernel
theorem dX7_way_29 : decode cX7_way 29 = .ok (.getfield 54, 3) := by decide +kernel
theorem dX7_way_32 : decode cX7_way 32 = .ok (.getfield 111, 3) := by decide +kernel
theorem dX7_way_35 : decode cX7_way 35 = .ok (.iload_n 1, 1) := by decide +kernel
theorem dX7_way_36 : decode cX7_way 36 = .ok (.iaload, 1) := by decide +kernel
theorem dX7_way_37 : decode cX7_way 37 = .ok (.goto 4, 3) := by decide +kernel
theorem dX7_way_40 : decode cX7_way 40 = .ok (.iconst (-1), 1) := by decide +kernel
theorem dX7_way_41 : decode cX7_way 41 = .ok (.ireturn, 1) := by decide +kernel
theorem dX7_of_0 : decode cX7_of 0 = .ok (.aload_n 0, 1) := by decide +kernel
theorem dX7_of_1 : decode cX7_of 1 = .ok (.getfield 12, 3) := by decide +kernel
theorem dX7_of_4 : decode cX7_of 4 = .ok (.iload_n 1, 1) := by decide +kernel
theorem dX7_of_5 : decode cX7_of 5 = .ok (.invokevirtual 80, 3) := by decide +kernel
theorem dX7_of_8 : decode cX7_of 8 = .ok (.ifCond .ne 5, 3) := by decide +kernel
theorem dX7_of_11 : decode cX7_of 11 = .ok (.iconst (-1), 1) := by decide +kernel
theorem dX7_of_12 : decode cX7_of 12 = .ok (.ireturn, 1) := by decide +kernel
theorem dX7_of_13 : decode cX7_of 13 = .ok (.iload_n 2, 1) := by decide +kernel
theorem dX7_of_14 : decode cX7_of 14 = .ok (.tableswitch 112 0 6 #[42, 52, 62, 72, 82, 92, 102], 42) := by decide +kernel
theorem dX7_of_56 : decode cX7_of 56 = .ok (.aload_n 0, 1) := by decide +kernel
theorem dX7_of_57 : decode cX7_of 57 = .ok (.getfield 12, 3) := by decide +kernel
theorem dX7_of_60 : decode cX7_of 60 = .ok (.getfield 115, 3) := by decide +kernel
theorem dX7_of_63 : decode cX7_of 63 = .ok (.iload_n 1, 1) := by decide +kernel
theorem dX7_of_64 : decode cX7_of 64 = .ok (.iaload, 1) := by decide +kernel
theorem dX7_of_65 : decode cX7_of 65 = .ok (.ireturn, 1) := by decide +kernel
theorem dX7_of_66 : decode cX7_of 66 = .ok (.aload_n 0, 1) := by decide +kernel
theorem dX7_of_67 : decode cX7_of 67 = .ok (.getfield 12, 3) := by decide +kernel
theorem dX7_of_70 : decode cX7_of 70 = .ok (.getfield 118, 3) := by decide +kernel
theorem dX7_of_73 : decode cX7_of 73 = .ok (.iload_n 1, 1) := by decide +kernel
theorem dX7_of_74 : decode cX7_of 74 = .ok (.iaload, 1) := by decide +kernel
theorem dX7_of_75 : decode cX7_of 75 = .ok (.ireturn, 1) := by decide +kernel
theorem dX7_of_76 : decode cX7_of 76 = .ok (.aload_n 0, 1) := by decide +kernel
theorem dX7_of_77 : decode cX7_of 77 = .ok (.getfield 12, 3) := by decide +kernel
theorem dX7_of_80 : decode cX7_of 80 = .ok (.getfield 121, 3) := by decide +kernel
theorem dX7_of_83 : decode cX7_of 83 = .ok (.iload_n 1, 1) := by decide +kernel
theorem dX7_of_84 : decode cX7_of 84 = .ok (.iaload, 1) := by decide +kernel
theorem dX7_of_85 : decode cX7_of 85 = .ok (.ireturn, 1) := by decide +kernel
theorem dX7_of_86 : decode cX7_of 86 = .ok (.aload_n 0, 1) := by decide +kernel
theorem dX7_of_87 : decode cX7_of 87 = .ok (.getfield 12, 3) := by decide +kernel
theorem dX7_of_90 : decode cX7_of 90 = .ok (.getfield 124, 3) := by decide +kernel
theorem dX7_of_93 : decode cX7_of 93 = .ok (.iload_n 1, 1) := by decide +kernel
theorem dX7_of_94 : decode cX7_of 94 = .ok (.iaload, 1) := by decide +kernel
theorem dX7_of_95 : decode cX7_of 95 = .ok (.ireturn, 1) := by decide +kernel
theorem dX7_of_96 : decode cX7_of 96 = .ok (.aload_n 0, 1) := by decide +kernel
theorem dX7_of_97 : decode cX7_of 97 = .ok (.getfield 12, 3) := by decide +kernel
theorem dX7_of_100 : decode cX7_of 100 = .ok (.getfield 127, 3) := by decide +kernel
theorem dX7_of_103 : decode cX7_of 103 = .ok (.iload_n 1, 1) := by decide +kernel
theorem dX7_of_104 : decode cX7_of 104 = .ok (.iaload, 1) := by decide +kernel
theorem dX7_of_105 : decode cX7_of 105 = .ok (.ireturn, 1) := by decide +kernel
theorem dX7_of_106 : decode cX7_of 106 = .ok (.aload_n 0, 1) := by decide +kernel
theorem dX7_of_107 : decode cX7_of 107 = .ok (.getfield 12, 3) := by decide +kernel
theorem dX7_of_110 : decode cX7_of 110 = .ok (.getfield 130, 3) := by decide +kernel
theorem dX7_of_113 : decode cX7_of 113 = .ok (.iload_n 1, 1) := by decide +kernel
theorem dX7_of_114 : decode cX7_of 114 = .ok (.iaload, 1) := by decide +kernel
theorem dX7_of_115 : decode cX7_of 115 = .ok (.ireturn, 1) := by decide +kernel
theorem dX7_of_116 : decode cX7_of 116 = .ok (.aload_n 0, 1) := by decide +kernel
theorem dX7_of_117 : decode cX7_of 117 = .ok (.getfield 12, 3) := by decide +kernel
theorem dX7_of_120 : decode cX7_of 120 = .ok (.getfield 133, 3) := by decide +kernel
theorem dX7_of_123 : decode cX7_of 123 = .ok (.iload_n 1, 1) := by decide +kernel
theorem dX7_of_124 : decode cX7_of 124 = .ok (.iaload, 1) := by decide +kernel
theorem dX7_of_125 : decode cX7_of 125 = .ok (.ireturn, 1) := by decide +kernel
theorem dX7_of_126 : decode cX7_of 126 = .ok (.iconst (-1), 1) := by decide +kernel
theorem dX7_of_127 : decode cX7_of 127 = .ok (.ireturn, 1) := by decide +kernel
theorem dX7_taken_0 : decode cX7_taken 0 = .ok (.aload_n 0, 1) := by decide +kernel
theorem dX7_taken_1 : decode cX7_taken 1 = .ok (.getfield 12, 3) := by decide +kernel
theorem dX7_taken_4 : decode cX7_taken 4 = .ok (.iload_n 1, 1) := by decide +kernel
theorem dX7_taken_5 : decode cX7_taken 5 = .ok (.invokevirtual 80, 3) := by decide +kernel
theorem dX7_taken_8 : decode cX7_taken 8 = .ok (.ifCond .eq 13, 3) := by decide +kernel
theorem dX7_taken_11 : decode cX7_taken 11 = .ok (.iload_n 2, 1) := by decide +kernel
theorem dX7_taken_12 : decode cX7_taken 12 = .ok (.ifCond .lt 9, 3) := by decide +kernel
theorem dX7_taken_15 : decode cX7_taken 15 = .ok (.iload_n 2, 1) := by decide +kernel
theorem dX7_taken_16 : decode cX7_taken 16 = .ok (.bipush 8, 2) := by decide +kernel
theorem dX7_taken_18 : decode cX7_taken 18 = .ok (.if_icmp .lt 5, 3) := by decide +kernel
theorem dX7_taken_21 : decode cX7_taken 21 = .ok (.iconst (-1), 1) := by decide +kernel
theorem dX7_taken_22 : decode cX7_taken 22 = .ok (.ireturn, 1) := by decide +kernel
theorem dX7_taken_23 : decode cX7_taken 23 = .ok (.aload_n 0, 1) := by decide +kernel
theorem dX7_taken_24 : decode cX7_taken 24 = .ok (.getfield 12, 3) := by decide +kernel
theorem dX7_taken_27 : decode cX7_taken 27 = .ok (.getfield 115, 3) := by decide +kernel
theorem dX7_taken_30 : decode cX7_taken 30 = .ok (.iload_n 1, 1) := by decide +kernel
theorem dX7_taken_31 : decode cX7_taken 31 = .ok (.iaload, 1) := by decide +kernel
theorem dX7_taken_32 : decode cX7_taken 32 = .ok (.istore_n 3, 1) := by decide +kernel
theorem dX7_taken_33 : decode cX7_taken 33 = .ok (.iload_n 3, 1) := by decide +kernel
theorem dX7_taken_34 : decode cX7_taken 34 = .ok (.iload_n 2, 1) := by decide +kernel
theorem dX7_taken_35 : decode cX7_taken 35 = .ok (.if_icmp .eq 11, 3) := by decide +kernel
theorem dX7_taken_38 : decode cX7_taken 38 = .ok (.iload_n 3, 1) := by decide +kernel
theorem dX7_taken_39 : decode cX7_taken 39 = .ok (.invokestatic 136, 3) := by decide +kernel
theorem dX7_taken_42 : decode cX7_taken 42 = .ok (.iload_n 2, 1) := by decide +kernel
theorem dX7_taken_43 : decode cX7_taken 43 = .ok (.if_icmp .ne 15, 3) := by decide +kernel
theorem dX7_taken_46 : decode cX7_taken 46 = .ok (.aload_n 0, 1) := by decide +kernel
theorem dX7_taken_47 : decode cX7_taken 47 = .ok (.getfield 12, 3) := by decide +kernel
theorem dX7_taken_50 : decode cX7_taken 50 = .ok (.getfield 127, 3) := by decide +kernel
theorem dX7_taken_53 : decode cX7_taken 53 = .ok (.iload_n 1, 1) := by decide +kernel
theorem dX7_taken_54 : decode cX7_taken 54 = .ok (.iaload, 1) := by decide +kernel
theorem dX7_taken_55 : decode cX7_taken 55 = .ok (.goto 5, 3) := by decide +kernel
theorem dX7_taken_58 : decode cX7_taken 58 = .ok (.bipush (-12), 2) := by decide +kernel
theorem dX7_taken_60 : decode cX7_taken 60 = .ok (.ireturn, 1) := by decide +kernel
theorem dX7_spell_0 : decode cX7_spell 0 = .ok (.aload_n 0, 1) := by decide +kernel
theorem dX7_spell_1 : decode cX7_spell 1 = .ok (.getfield 12, 3) := by decide +kernel
theorem dX7_spell_4 : decode cX7_spell 4 = .ok (.iload_n 1, 1) := by decide +kernel
theorem dX7_spell_5 : decode cX7_spell 5 = .ok (.invokevirtual 80, 3) := by decide +kernel
theorem dX7_spell_8 : decode cX7_spell 8 = .ok (.ifCond .ne 5, 3) := by decide +kernel
theorem dX7_spell_11 : decode cX7_spell 11 = .ok (.iconst (-1), 1) := by decide +kernel
theorem dX7_spell_12 : decode cX7_spell 12 = .ok (.ireturn, 1) := by decide +kernel
theorem dX7_spell_13 : decode cX7_spell 13 = .ok (.aload_n 0, 1) := by decide +kernel
theorem dX7_spell_14 : decode cX7_spell 14 = .ok (.getfield 61, 3) := by decide +kernel
theorem dX7_spell_17 : decode cX7_spell 17 = .ok (.iload_n 1, 1) := by decide +kernel
theorem dX7_spell_18 : decode cX7_spell 18 = .ok (.invokevirtual 139, 3) := by decide +kernel
theorem dX7_spell_21 : decode cX7_spell 21 = .ok (.ireturn, 1) := by decide +kernel
theorem dX7_paper_0 : decode cX7_paper 0 = .ok (.iload_n 1, 1) := by decide +kernel
theorem dX7_paper_1 : decode cX7_paper 1 = .ok (.ifCond .lt 26, 3) := by decide +kernel
theorem dX7_paper_4 : decode cX7_paper 4 = .ok (.iload_n 1, 1) := by decide +kernel
theorem dX7_paper_5 : decode cX7_paper 5 = .ok (.aload_n 0, 1) := by decide +kernel
theorem dX7_paper_6 : decode cX7_paper 6 = .ok (.getfield 61, 3) := by decide +kernel
theorem dX7_paper_9 : decode cX7_paper 9 = .ok (.getfield 142, 3) := by decide +kernel
theorem dX7_paper_12 : decode cX7_paper 12 = .ok (.if_icmp .ge 15, 3) := by decide +kernel
theorem dX7_paper_15 : decode cX7_paper 15 = .ok (.aload_n 0, 1) := by decide +kernel
theorem dX7_paper_16 : decode cX7_paper 16 = .ok (.getfield 61, 3) := by decide +kernel
theorem dX7_paper_19 : decode cX7_paper 19 = .ok (.getfield 145, 3) := by decide +kernel
theorem dX7_paper_22 : decode cX7_paper 22 = .ok (.iload_n 1, 1) := by decide +kernel
theorem dX7_paper_23 : decode cX7_paper 23 = .ok (.baload, 1) := by decide +kernel
theorem dX7_paper_24 : decode cX7_paper 24 = .ok (.goto 4, 3) := by decide +kernel
theorem dX7_paper_27 : decode cX7_paper 27 = .ok (.iconst (-1), 1) := by decide +kernel
theorem dX7_paper_28 : decode cX7_paper 28 = .ok (.ireturn, 1) := by decide +kernel
theorem dX7_says_0 : decode cX7_says 0 = .ok (.aload_n 0, 1) := by decide +kernel
theorem dX7_says_1 : decode cX7_says 1 = .ok (.getfield 12, 3) := by decide +kernel
theorem dX7_says_4 : decode cX7_says 4 = .ok (.iload_n 1, 1) := by decide +kernel
theorem dX7_says_5 : decode cX7_says 5 = .ok (.invokevirtual 80, 3) := by decide +kernel
theorem dX7_says_8 : decode cX7_says 8 = .ok (.ifCond .eq 10, 3) := by decide +kernel
theorem dX7_says_11 : decode cX7_says 11 = .ok (.iload_n 2, 1) := by decide +kernel
theorem dX7_says_12 : decode cX7_says 12 = .ok (.invokestatic 149, 3) := by decide +kernel
theorem dX7_says_15 : decode cX7_says 15 = .ok (.ifCond .ne 5, 3) := by decide +kernel
theorem dX7_says_18 : decode cX7_says 18 = .ok (.iconst (-1), 1) := by decide +kernel
theorem dX7_says_19 : decode cX7_says 19 = .ok (.ireturn, 1) := by decide +kernel
theorem dX7_says_20 : decode cX7_says 20 = .ok (.aload_n 0, 1) := by decide +kernel
theorem dX7_says_21 : decode cX7_says 21 = .ok (.getfield 40, 3) := by decide +kernel
theorem dX7_says_24 : decode cX7_says 24 = .ok (.iload_n 1, 1) := by decide +kernel
theorem dX7_says_25 : decode cX7_says 25 = .ok (.invokevirtual 152, 3) := by decide +kernel
theorem dX7_says_28 : decode cX7_says 28 = .ok (.aload_n 0, 1) := by decide +kernel
theorem dX7_says_29 : decode cX7_says 29 = .ok (.getfield 40, 3) := by decide +kernel
theorem dX7_says_32 : decode cX7_says 32 = .ok (.iload_n 2, 1) := by decide +kernel
theorem dX7_says_33 : decode cX7_says 33 = .ok (.invokevirtual 155, 3) := by decide +kernel
theorem dX7_says_36 : decode cX7_says 36 = .ok (.ireturn, 1) := by decide +kernel
theorem dX7_sum_0 : decode cX7_sum 0 = .ok (.aload_n 0, 1) := by decide +kernel
theorem dX7_sum_1 : decode cX7_sum 1 = .ok (.getfield 12, 3) := by decide +kernel
theorem dX7_sum_4 : decode cX7_sum 4 = .ok (.iload_n 1, 1) := by decide +kernel
theorem dX7_sum_5 : decode cX7_sum 5 = .ok (.invokevirtual 80, 3) := by decide +kernel
theorem dX7_sum_8 : decode cX7_sum 8 = .ok (.ifCond .eq 12, 3) := by decide +kernel
theorem dX7_sum_11 : decode cX7_sum 11 = .ok (.iload_n 2, 1) := by decide +kernel
theorem dX7_sum_12 : decode cX7_sum 12 = .ok (.ifCond .lt 8, 3) := by decide +kernel
theorem dX7_sum_15 : decode cX7_sum 15 = .ok (.iload_n 2, 1) := by decide +kernel
theorem dX7_sum_16 : decode cX7_sum 16 = .ok (.iconst 1, 1) := by decide +kernel
theorem dX7_sum_17 : decode cX7_sum 17 = .ok (.if_icmp .le 5, 3) := by decide +kernel
theorem dX7_sum_20 : decode cX7_sum 20 = .ok (.iconst (-1), 1) := by decide +kernel
theorem dX7_sum_21 : decode cX7_sum 21 = .ok (.ireturn, 1) := by decide +kernel
theorem dX7_sum_22 : decode cX7_sum 22 = .ok (.iload_n 2, 1) := by decide +kernel
theorem dX7_sum_23 : decode cX7_sum 23 = .ok (.ifCond .ne 11, 3) := by decide +kernel
theorem dX7_sum_26 : decode cX7_sum 26 = .ok (.aload_n 0, 1) := by decide +kernel
theorem dX7_sum_27 : decode cX7_sum 27 = .ok (.iload_n 1, 1) := by decide +kernel
theorem dX7_sum_28 : decode cX7_sum 28 = .ok (.invokevirtual 158, 3) := by decide +kernel
theorem dX7_sum_31 : decode cX7_sum 31 = .ok (.goto 8, 3) := by decide +kernel
theorem dX7_sum_34 : decode cX7_sum 34 = .ok (.aload_n 0, 1) := by decide +kernel
theorem dX7_sum_35 : decode cX7_sum 35 = .ok (.iload_n 1, 1) := by decide +kernel
theorem dX7_sum_36 : decode cX7_sum 36 = .ok (.invokevirtual 161, 3) := by decide +kernel
theorem dX7_sum_39 : decode cX7_sum 39 = .ok (.ireturn, 1) := by decide +kernel
theorem dX7_odds_0 : decode cX7_odds 0 = .ok (.aload_n 0, 1) := by decide +kernel
theorem dX7_odds_1 : decode cX7_odds 1 = .ok (.getfield 12, 3) := by decide +kernel
theorem dX7_odds_4 : decode cX7_odds 4 = .ok (.iload_n 1, 1) := by decide +kernel
theorem dX7_odds_5 : decode cX7_odds 5 = .ok (.invokevirtual 80, 3) := by decide +kernel
theorem dX7_odds_8 : decode cX7_odds 8 = .ok (.ifCond .eq 12, 3) := by decide +kernel
theorem dX7_odds_11 : decode cX7_odds 11 = .ok (.iload_n 2, 1) := by decide +kernel
theorem dX7_odds_12 : decode cX7_odds 12 = .ok (.ifCond .lt 8, 3) := by decide +kernel
theorem dX7_odds_15 : decode cX7_odds 15 = .ok (.iload_n 2, 1) := by decide +kernel
theorem dX7_odds_16 : decode cX7_odds 16 = .ok (.iconst 1, 1) := by decide +kernel
theorem dX7_odds_17 : decode cX7_odds 17 = .ok (.if_icmp .le 7, 3) := by decide +kernel
theorem dX7_odds_20 : decode cX7_odds 20 = .ok (.ldc2_w 164, 3) := by decide +kernel
theorem dX7_odds_23 : decode cX7_odds 23 = .ok (.lreturn, 1) := by decide +kernel
theorem dX7_odds_24 : decode cX7_odds 24 = .ok (.aload_n 0, 1) := by decide +kernel
theorem dX7_odds_25 : decode cX7_odds 25 = .ok (.iload_n 1, 1) := by decide +kernel
theorem dX7_odds_26 : decode cX7_odds 26 = .ok (.invokevirtual 161, 3) := by decide +kernel
theorem dX7_odds_29 : decode cX7_odds 29 = .ok (.istore_n 3, 1) := by decide +kernel
theorem dX7_odds_30 : decode cX7_odds 30 = .ok (.iload_n 2, 1) := by decide +kernel
theorem dX7_odds_31 : decode cX7_odds 31 = .ok (.ifCond .ne 7, 3) := by decide +kernel
theorem dX7_odds_34 : decode cX7_odds 34 = .ok (.iload_n 3, 1) := by decide +kernel
theorem dX7_odds_35 : decode cX7_odds 35 = .ok (.goto 6, 3) := by decide +kernel
theorem dX7_odds_38 : decode cX7_odds 38 = .ok (.sipush 224, 3) := by decide +kernel
theorem dX7_odds_41 : decode cX7_odds 41 = .ok (.iload_n 3, 1) := by decide +kernel
theorem dX7_odds_42 : decode cX7_odds 42 = .ok (.invokestatic 166, 3) := by decide +kernel
theorem dX7_odds_45 : decode cX7_odds 45 = .ok (.i2l, 1) := by decide +kernel
theorem dX7_odds_46 : decode cX7_odds 46 = .ok (.lreturn, 1) := by decide +kernel
theorem dX7_part_0 : decode cX7_part 0 = .ok (.aload_n 0, 1) := by decide +kernel
theorem dX7_part_1 : decode cX7_part 1 = .ok (.getfield 12, 3) := by decide +kernel
theorem dX7_part_4 : decode cX7_part 4 = .ok (.iload_n 1, 1) := by decide +kernel
theorem dX7_part_5 : decode cX7_part 5 = .ok (.invokevirtual 80, 3) := by decide +kernel
theorem dX7_part_8 : decode cX7_part 8 = .ok (.ifCond .ne 5, 3) := by decide +kernel
theorem dX7_part_11 : decode cX7_part 11 = .ok (.iconst (-1), 1) := by decide +kernel
theorem dX7_part_12 : decode cX7_part 12 = .ok (.ireturn, 1) := by decide +kernel
theorem dX7_part_13 : decode cX7_part 13 = .ok (.aload_n 0, 1) := by decide +kernel
theorem dX7_part_14 : decode cX7_part 14 = .ok (.iload_n 1, 1) := by decide +kernel
theorem dX7_part_15 : decode cX7_part 15 = .ok (.invokevirtual 170, 3) := by decide +kernel
theorem dX7_part_18 : decode cX7_part 18 = .ok (.iload_n 3, 1) := by decide +kernel
theorem dX7_part_19 : decode cX7_part 19 = .ok (.bipush 6, 2) := by decide +kernel
theorem dX7_part_21 : decode cX7_part 21 = .ok (.if_icmp .ne 24, 3) := by decide +kernel
theorem dX7_part_24 : decode cX7_part 24 = .ok (.aload_n 0, 1) := by decide +kernel
theorem dX7_part_25 : decode cX7_part 25 = .ok (.getfield 47, 3) := by decide +kernel
theorem dX7_part_28 : decode cX7_part 28 = .ok (.iload_n 2, 1) := by decide +kernel
theorem dX7_part_29 : decode cX7_part 29 = .ok (.invokevirtual 173, 3) := by decide +kernel
theorem dX7_part_32 : decode cX7_part 32 = .ok (.ifCond .eq 13, 3) := by decide +kernel
theorem dX7_part_35 : decode cX7_part 35 = .ok (.aload_n 0, 1) := by decide +kernel
theorem dX7_part_36 : decode cX7_part 36 = .ok (.getfield 47, 3) := by decide +kernel
theorem dX7_part_39 : decode cX7_part 39 = .ok (.getfield 174, 3) := by decide +kernel
theorem dX7_part_42 : decode cX7_part 42 = .ok (.iload_n 2, 1) := by decide +kernel
theorem dX7_part_43 : decode cX7_part 43 = .ok (.iaload, 1) := by decide +kernel
theorem dX7_part_44 : decode cX7_part 44 = .ok (.ireturn, 1) := by decide +kernel
theorem dX7_part_45 : decode cX7_part 45 = .ok (.aload_n 0, 1) := by decide +kernel
theorem dX7_part_46 : decode cX7_part 46 = .ok (.getfield 47, 3) := by decide +kernel
theorem dX7_part_49 : decode cX7_part 49 = .ok (.iload_n 2, 1) := by decide +kernel
theorem dX7_part_50 : decode cX7_part 50 = .ok (.iload_n 3, 1) := by decide +kernel
theorem dX7_part_51 : decode cX7_part 51 = .ok (.invokevirtual 177, 3) := by decide +kernel
theorem dX7_part_54 : decode cX7_part 54 = .ok (.ireturn, 1) := by decide +kernel
theorem dX7_gap_0 : decode cX7_gap 0 = .ok (.aload_n 0, 1) := by decide +kernel
theorem dX7_gap_1 : decode cX7_gap 1 = .ok (.getfield 12, 3) := by decide +kernel
theorem dX7_gap_4 : decode cX7_gap 4 = .ok (.iload_n 1, 1) := by decide +kernel
theorem dX7_gap_5 : decode cX7_gap 5 = .ok (.invokevirtual 80, 3) := by decide +kernel
theorem dX7_gap_8 : decode cX7_gap 8 = .ok (.ifCond .ne 5, 3) := by decide +kernel
theorem dX7_gap_11 : decode cX7_gap 11 = .ok (.iconst (-1), 1) := by decide +kernel
theorem dX7_gap_12 : decode cX7_gap 12 = .ok (.ireturn, 1) := by decide +kernel
theorem dX7_gap_13 : decode cX7_gap 13 = .ok (.aload_n 0, 1) := by decide +kernel
theorem dX7_gap_14 : decode cX7_gap 14 = .ok (.iload_n 1, 1) := by decide +kernel
theorem dX7_gap_15 : decode cX7_gap 15 = .ok (.invokevirtual 180, 3) := by decide +kernel
theorem dX7_gap_18 : decode cX7_gap 18 = .ok (.aload_n 0, 1) := by decide +kernel
theorem dX7_gap_19 : decode cX7_gap 19 = .ok (.getfield 47, 3) := by decide +kernel
theorem dX7_gap_22 : decode cX7_gap 22 = .ok (.iload_n 2, 1) := by decide +kernel
theorem dX7_gap_23 : decode cX7_gap 23 = .ok (.iload_n 3, 1) := by decide +kernel
theorem dX7_gap_24 : decode cX7_gap 24 = .ok (.invokevirtual 177, 3) := by decide +kernel
theorem dX7_gap_27 : decode cX7_gap 27 = .ok (.ireturn, 1) := by decide +kernel
theorem dX7_diff_0 : decode cX7_diff 0 = .ok (.aload_n 0, 1) := by decide +kernel
theorem dX7_diff_1 : decode cX7_diff 1 = .ok (.getfield 12, 3) := by decide +kernel
theorem dX7_diff_4 : decode cX7_diff 4 = .ok (.iload_n 1, 1) := by decide +kernel
theorem dX7_diff_5 : decode cX7_diff 5 = .ok (.invokevirtual 80, 3) := by decide +kernel
theorem dX7_diff_8 : decode cX7_diff 8 = .ok (.ifCond .eq 14, 3) := by decide +kernel
theorem dX7_diff_11 : decode cX7_diff 11 = .ok (.aload_n 0, 1) := by decide +kernel
theorem dX7_diff_12 : decode cX7_diff 12 = .ok (.getfield 12, 3) := by decide +kernel
theorem dX7_diff_15 : decode cX7_diff 15 = .ok (.iload_n 2, 1) := by decide +kernel
theorem dX7_diff_16 : decode cX7_diff 16 = .ok (.invokevirtual 80, 3) := by decide +kernel
theorem dX7_diff_19 : decode cX7_diff 19 = .ok (.ifCond .ne 5, 3) := by decide +kernel
theorem dX7_diff_22 : decode cX7_diff 22 = .ok (.iconst (-1), 1) := by decide +kernel
theorem dX7_diff_23 : decode cX7_diff 23 = .ok (.ireturn, 1) := by decide +kernel
theorem dX7_diff_24 : decode cX7_diff 24 = .ok (.aload_n 0, 1) := by decide +kernel
theorem dX7_diff_25 : decode cX7_diff 25 = .ok (.iload_n 1, 1) := by decide +kernel
theorem dX7_diff_26 : decode cX7_diff 26 = .ok (.iload_n 2, 1) := by decide +kernel
theorem dX7_diff_27 : decode cX7_diff 27 = .ok (.invokevirtual 183, 3) := by decide +kernel
theorem dX7_diff_30 : decode cX7_diff 30 = .ok (.iload 4, 2) := by decide +kernel
theorem dX7_diff_32 : decode cX7_diff 32 = .ok (.bipush 6, 2) := by decide +kernel
theorem dX7_diff_34 : decode cX7_diff 34 = .ok (.if_icmp .ne 27, 3) := by decide +kernel
theorem dX7_diff_37 : decode cX7_diff 37 = .ok (.aload_n 0, 1) := by decide +kernel
theorem dX7_diff_38 : decode cX7_diff 38 = .ok (.getfield 47, 3) := by decide +kernel
theorem dX7_diff_41 : decode cX7_diff 41 = .ok (.iload_n 3, 1) := by decide +kernel
theorem dX7_diff_42 : decode cX7_diff 42 = .ok (.invokevirtual 173, 3) := by decide +kernel
theorem dX7_diff_45 : decode cX7_diff 45 = .ok (.ifCond .eq 16, 3) := by decide +kernel
theorem dX7_diff_48 : decode cX7_diff 48 = .ok (.aload_n 0, 1) := by decide +kernel
theorem dX7_diff_49 : decode cX7_diff 49 = .ok (.getfield 47, 3) := by decide +kernel
theorem dX7_diff_52 : decode cX7_diff 52 = .ok (.getfield 174, 3) := by decide +kernel
theorem dX7_diff_55 : decode cX7_diff 55 = .ok (.iload_n 3, 1) := by decide +kernel
theorem dX7_diff_56 : decode cX7_diff 56 = .ok (.iaload, 1) := by decide +kernel
theorem dX7_diff_57 : decode cX7_diff 57 = .ok (.invokestatic 187, 3) := by decide +kernel
theorem dX7_diff_60 : decode cX7_diff 60 = .ok (.ireturn, 1) := by decide +kernel
theorem dX7_diff_61 : decode cX7_diff 61 = .ok (.iload 4, 2) := by decide +kernel
theorem dX7_diff_63 : decode cX7_diff 63 = .ok (.bipush 7, 2) := by decide +kernel
theorem dX7_diff_65 : decode cX7_diff 65 = .ok (.if_icmp .ne 27, 3) := by decide +kernel
theorem dX7_diff_68 : decode cX7_diff 68 = .ok (.aload_n 0, 1) := by decide +kernel
theorem dX7_diff_69 : decode cX7_diff 69 = .ok (.getfield 47, 3) := by decide +kernel
theorem dX7_diff_72 : decode cX7_diff 72 = .ok (.iload_n 3, 1) := by decide +kernel
theorem dX7_diff_73 : decode cX7_diff 73 = .ok (.invokevirtual 173, 3) := by decide +kernel
theorem dX7_diff_76 : decode cX7_diff 76 = .ok (.ifCond .eq 16, 3) := by decide +kernel
theorem dX7_diff_79 : decode cX7_diff 79 = .ok (.aload_n 0, 1) := by decide +kernel
theorem dX7_diff_80 : decode cX7_diff 80 = .ok (.getfield 47, 3) := by decide +kernel
theorem dX7_diff_83 : decode cX7_diff 83 = .ok (.getfield 174, 3) := by decide +kernel
theorem dX7_diff_86 : decode cX7_diff 86 = .ok (.iload_n 3, 1) := by decide +kernel
theorem dX7_diff_87 : decode cX7_diff 87 = .ok (.iaload, 1) := by decide +kernel
theorem dX7_diff_88 : decode cX7_diff 88 = .ok (.invokestatic 190, 3) := by decide +kernel
theorem dX7_diff_91 : decode cX7_diff 91 = .ok (.ireturn, 1) := by decide +kernel
theorem dX7_diff_92 : decode cX7_diff 92 = .ok (.aload_n 0, 1) := by decide +kernel
theorem dX7_diff_93 : decode cX7_diff 93 = .ok (.getfield 47, 3) := by decide +kernel
theorem dX7_diff_96 : decode cX7_diff 96 = .ok (.iload_n 3, 1) := by decide +kernel
theorem dX7_diff_97 : decode cX7_diff 97 = .ok (.iload 4, 2) := by decide +kernel
theorem dX7_diff_99 : decode cX7_diff 99 = .ok (.invokevirtual 177, 3) := by decide +kernel
theorem dX7_diff_102 : decode cX7_diff 102 = .ok (.ireturn, 1) := by decide +kernel
theorem dX7_rule_0 : decode cX7_rule 0 = .ok (.aload_n 0, 1) := by decide +kernel
theorem dX7_rule_1 : decode cX7_rule 1 = .ok (.getfield 12, 3) := by decide +kernel
theorem dX7_rule_4 : decode cX7_rule 4 = .ok (.iload_n 1, 1) := by decide +kernel
theorem dX7_rule_5 : decode cX7_rule 5 = .ok (.invokevirtual 80, 3) := by decide +kernel
theorem dX7_rule_8 : decode cX7_rule 8 = .ok (.ifCond .ne 5, 3) := by decide +kernel
theorem dX7_rule_11 : decode cX7_rule 11 = .ok (.iconst (-1), 1) := by decide +kernel
theorem dX7_rule_12 : decode cX7_rule 12 = .ok (.ireturn, 1) := by decide +kernel
theorem dX7_rule_13 : decode cX7_rule 13 = .ok (.aload_n 0, 1) := by decide +kernel
theorem dX7_rule_14 : decode cX7_rule 14 = .ok (.getfield 40, 3) := by decide +kernel
theorem dX7_rule_17 : decode cX7_rule 17 = .ok (.iload_n 1, 1) := by decide +kernel
theorem dX7_rule_18 : decode cX7_rule 18 = .ok (.invokevirtual 152, 3) := by decide +kernel
theorem dX7_rule_21 : decode cX7_rule 21 = .ok (.iload_n 2, 1) := by decide +kernel
theorem dX7_rule_22 : decode cX7_rule 22 = .ok (.iconst (-1), 1) := by decide +kernel
theorem dX7_rule_23 : decode cX7_rule 23 = .ok (.if_icmp .ne 11, 3) := by decide +kernel
theorem dX7_rule_26 : decode cX7_rule 26 = .ok (.aload_n 0, 1) := by decide +kernel
theorem dX7_rule_27 : decode cX7_rule 27 = .ok (.getfield 40, 3) := by decide +kernel
theorem dX7_rule_30 : decode cX7_rule 30 = .ok (.invokevirtual 193, 3) := by decide +kernel
theorem dX7_rule_33 : decode cX7_rule 33 = .ok (.ireturn, 1) := by decide +kernel
theorem dX7_rule_34 : decode cX7_rule 34 = .ok (.aload_n 0, 1) := by decide +kernel
theorem dX7_rule_35 : decode cX7_rule 35 = .ok (.getfield 40, 3) := by decide +kernel
theorem dX7_rule_38 : decode cX7_rule 38 = .ok (.iload_n 2, 1) := by decide +kernel
theorem dX7_rule_39 : decode cX7_rule 39 = .ok (.invokevirtual 196, 3) := by decide +kernel
theorem dX7_rule_42 : decode cX7_rule 42 = .ok (.istore_n 3, 1) := by decide +kernel
theorem dX7_rule_43 : decode cX7_rule 43 = .ok (.aload_n 0, 1) := by decide +kernel
theorem dX7_rule_44 : decode cX7_rule 44 = .ok (.getfield 40, 3) := by decide +kernel
theorem dX7_rule_47 : decode cX7_rule 47 = .ok (.iload_n 3, 1) := by decide +kernel
theorem dX7_rule_48 : decode cX7_rule 48 = .ok (.invokevirtual 199, 3) := by decide +kernel
theorem dX7_rule_51 : decode cX7_rule 51 = .ok (.ireturn, 1) := by decide +kernel
theorem dX7_idle_0 : decode cX7_idle 0 = .ok (.aload_n 0, 1) := by decide +kernel
theorem dX7_idle_1 : decode cX7_idle 1 = .ok (.getfield 12, 3) := by decide +kernel
theorem dX7_idle_4 : decode cX7_idle 4 = .ok (.iload_n 1, 1) := by decide +kernel
theorem dX7_idle_5 : decode cX7_idle 5 = .ok (.invokevirtual 80, 3) := by decide +kernel
theorem dX7_idle_8 : decode cX7_idle 8 = .ok (.ifCond .ne 5, 3) := by decide +kernel
theorem dX7_idle_11 : decode cX7_idle 11 = .ok (.iconst (-1), 1) := by decide +kernel
theorem dX7_idle_12 : decode cX7_idle 12 = .ok (.ireturn, 1) := by decide +kernel
theorem dX7_idle_13 : decode cX7_idle 13 = .ok (.aload_n 0, 1) := by decide +kernel
theorem dX7_idle_14 : decode cX7_idle 14 = .ok (.getfield 40, 3) := by decide +kernel
theorem dX7_idle_17 : decode cX7_idle 17 = .ok (.iload_n 1, 1) := by decide +kernel
theorem dX7_idle_18 : decode cX7_idle 18 = .ok (.invokevirtual 152, 3) := by decide +kernel
theorem dX7_idle_21 : decode cX7_idle 21 = .ok (.aload_n 0, 1) := by decide +kernel
theorem dX7_idle_22 : decode cX7_idle 22 = .ok (.getfield 40, 3) := by decide +kernel
theorem dX7_idle_25 : decode cX7_idle 25 = .ok (.iload_n 2, 1) := by decide +kernel
theorem dX7_idle_26 : decode cX7_idle 26 = .ok (.invokevirtual 196, 3) := by decide +kernel
theorem dX7_idle_29 : decode cX7_idle 29 = .ok (.istore_n 3, 1) := by decide +kernel
theorem dX7_idle_30 : decode cX7_idle 30 = .ok (.iload_n 3, 1) := by decide +kernel
theorem dX7_idle_31 : decode cX7_idle 31 = .ok (.iconst (-1), 1) := by decide +kernel
theorem dX7_idle_32 : decode cX7_idle 32 = .ok (.if_icmp .ne 5, 3) := by decide +kernel
theorem dX7_idle_35 : decode cX7_idle 35 = .ok (.iconst (-1), 1) := by decide +kernel
theorem dX7_idle_36 : decode cX7_idle 36 = .ok (.ireturn, 1) := by decide +kernel
theorem dX7_idle_37 : decode cX7_idle 37 = .ok (.aload_n 0, 1) := by decide +kernel
theorem dX7_idle_38 : decode cX7_idle 38 = .ok (.iload_n 3, 1) := by decide +kernel
theorem dX7_idle_39 : decode cX7_idle 39 = .ok (.invokevirtual 202, 3) := by decide +kernel
theorem dX7_idle_42 : decode cX7_idle 42 = .ok (.ifCond .eq 7, 3) := by decide +kernel
theorem dX7_idle_45 : decode cX7_idle 45 = .ok (.iconst 1, 1) := by decide +kernel
theorem dX7_idle_46 : decode cX7_idle 46 = .ok (.goto 4, 3) := by decide +kernel
theorem dX7_idle_49 : decode cX7_idle 49 = .ok (.iconst 0, 1) := by decide +kernel
theorem dX7_idle_50 : decode cX7_idle 50 = .ok (.ireturn, 1) := by decide +kernel
theorem dX7_overlap_0 : decode cX7_overlap 0 = .ok (.aload_n 0, 1) := by decide +kernel
theorem dX7_overlap_1 : decode cX7_overlap 1 = .ok (.getfield 12, 3) := by decide +kernel
theorem dX7_overlap_4 : decode cX7_overlap 4 = .ok (.iload_n 1, 1) := by decide +kernel
theorem dX7_overlap_5 : decode cX7_overlap 5 = .ok (.invokevirtual 80, 3) := by decide +kernel
theorem dX7_overlap_8 : decode cX7_overlap 8 = .ok (.ifCond .eq 14, 3) := by decide +kernel
theorem dX7_overlap_11 : decode cX7_overlap 11 = .ok (.aload_n 0, 1) := by decide +kernel
theorem dX7_overlap_12 : decode cX7_overlap 12 = .ok (.getfield 12, 3) := by decide +kernel
theorem dX7_overlap_15 : decode cX7_overlap 15 = .ok (.iload_n 2, 1) := by decide +kernel
theorem dX7_overlap_16 : decode cX7_overlap 16 = .ok (.invokevirtual 80, 3) := by decide +kernel
theorem dX7_overlap_19 : decode cX7_overlap 19 = .ok (.ifCond .ne 5, 3) := by decide +kernel
theorem dX7_overlap_22 : decode cX7_overlap 22 = .ok (.iconst (-1), 1) := by decide +kernel
theorem dX7_overlap_23 : decode cX7_overlap 23 = .ok (.ireturn, 1) := by decide +kernel
theorem dX7_overlap_24 : decode cX7_overlap 24 = .ok (.aload_n 0, 1) := by decide +kernel
theorem dX7_overlap_25 : decode cX7_overlap 25 = .ok (.getfield 12, 3) := by decide +kernel
theorem dX7_overlap_28 : decode cX7_overlap 28 = .ok (.getfield 133, 3) := by decide +kernel
theorem dX7_overlap_31 : decode cX7_overlap 31 = .ok (.iload_n 1, 1) := by decide +kernel
theorem dX7_overlap_32 : decode cX7_overlap 32 = .ok (.iaload, 1) := by decide +kernel
theorem dX7_overlap_33 : decode cX7_overlap 33 = .ok (.istore_n 3, 1) := by decide +kernel
theorem dX7_overlap_34 : decode cX7_overlap 34 = .ok (.aload_n 0, 1) := by decide +kernel
theorem dX7_overlap_35 : decode cX7_overlap 35 = .ok (.getfield 12, 3) := by decide +kernel
theorem dX7_overlap_38 : decode cX7_overlap 38 = .ok (.getfield 133, 3) := by decide +kernel
theorem dX7_overlap_41 : decode cX7_overlap 41 = .ok (.iload_n 2, 1) := by decide +kernel
theorem dX7_overlap_42 : decode cX7_overlap 42 = .ok (.iaload, 1) := by decide +kernel
theorem dX7_overlap_43 : decode cX7_overlap 43 = .ok (.istore 4, 2) := by decide +kernel
theorem dX7_overlap_45 : decode cX7_overlap 45 = .ok (.iload_n 3, 1) := by decide +kernel
theorem dX7_overlap_46 : decode cX7_overlap 46 = .ok (.bipush (-5), 2) := by decide +kernel
theorem dX7_overlap_48 : decode cX7_overlap 48 = .ok (.if_icmp .eq 10, 3) := by decide +kernel
theorem dX7_overlap_51 : decode cX7_overlap 51 = .ok (.iload 4, 2) := by decide +kernel
theorem dX7_overlap_53 : decode cX7_overlap 53 = .ok (.bipush (-5), 2) := by decide +kernel
theorem dX7_overlap_55 : decode cX7_overlap 55 = .ok (.if_icmp .ne 6, 3) := by decide +kernel
theorem dX7_overlap_58 : decode cX7_overlap 58 = .ok (.bipush (-5), 2) := by decide +kernel
theorem dX7_overlap_60 : decode cX7_overlap 60 = .ok (.ireturn, 1) := by decide +kernel
theorem dX7_overlap_61 : decode cX7_overlap 61 = .ok (.iload_n 3, 1) := by decide +kernel
theorem dX7_overlap_62 : decode cX7_overlap 62 = .ok (.iload 4, 2) := by decide +kernel
theorem dX7_overlap_64 : decode cX7_overlap 64 = .ok (.iconst 0, 1) := by decide +kernel
theorem dX7_overlap_65 : decode cX7_overlap 65 = .ok (.invokestatic 205, 3) := by decide +kernel
theorem dX7_overlap_68 : decode cX7_overlap 68 = .ok (.iload_n 3, 1) := by decide +kernel
theorem dX7_overlap_69 : decode cX7_overlap 69 = .ok (.iload 4, 2) := by decide +kernel
theorem dX7_overlap_71 : decode cX7_overlap 71 = .ok (.iconst 2, 1) := by decide +kernel
theorem dX7_overlap_72 : decode cX7_overlap 72 = .ok (.invokestatic 205, 3) := by decide +kernel
theorem dX7_overlap_75 : decode cX7_overlap 75 = .ok (.imul, 1) := by decide +kernel
theorem dX7_overlap_76 : decode cX7_overlap 76 = .ok (.iload_n 3, 1) := by decide +kernel
theorem dX7_overlap_77 : decode cX7_overlap 77 = .ok (.iload 4, 2) := by decide +kernel
theorem dX7_overlap_79 : decode cX7_overlap 79 = .ok (.iconst 4, 1) := by decide +kernel
theorem dX7_overlap_80 : decode cX7_overlap 80 = .ok (.invokestatic 205, 3) := by decide +kernel
theorem dX7_overlap_83 : decode cX7_overlap 83 = .ok (.imul, 1) := by decide +kernel
theorem dX7_overlap_84 : decode cX7_overlap 84 = .ok (.ireturn, 1) := by decide +kernel
theorem dX7_would_0 : decode cX7_would 0 = .ok (.aload_n 0, 1) := by decide +kernel
theorem dX7_would_1 : decode cX7_would 1 = .ok (.iload_n 1, 1) := by decide +kernel
theorem dX7_would_2 : decode cX7_would 2 = .ok (.invokevirtual 209, 3) := by decide +kernel
theorem dX7_would_5 : decode cX7_would 5 = .ok (.ifCond .eq 22, 3) := by decide +kernel
theorem dX7_would_8 : decode cX7_would 8 = .ok (.aload_n 0, 1) := by decide +kernel
theorem dX7_would_9 : decode cX7_would 9 = .ok (.getfield 12, 3) := by decide +kernel
theorem dX7_would_12 : decode cX7_would 12 = .ok (.iload_n 3, 1) := by decide +kernel
theorem dX7_would_13 : decode cX7_would 13 = .ok (.invokevirtual 80, 3) := by decide +kernel
theorem dX7_would_16 : decode cX7_would 16 = .ok (.ifCond .eq 11, 3) := by decide +kernel
theorem dX7_would_19 : decode cX7_would 19 = .ok (.iload 4, 2) := by decide +kernel
theorem dX7_would_21 : decode cX7_would 21 = .ok (.invokestatic 149, 3) := by decide +kernel
theorem dX7_would_24 : decode cX7_would 24 = .ok (.ifCond .ne 5, 3) := by decide +kernel
theorem dX7_would_27 : decode cX7_would 27 = .ok (.iconst (-1), 1) := by decide +kernel
theorem dX7_would_28 : decode cX7_would 28 = .ok (.ireturn, 1) := by decide +kernel
theorem dX7_would_29 : decode cX7_would 29 = .ok (.iload_n 2, 1) := by decide +kernel
theorem dX7_would_30 : decode cX7_would 30 = .ok (.invokestatic 72, 3) := by decide +kernel
theorem dX7_would_33 : decode cX7_would 33 = .ok (.ifCond .ne 6, 3) := by decide +kernel
theorem dX7_would_36 : decode cX7_would 36 = .ok (.bipush (-2), 2) := by decide +kernel
theorem dX7_would_38 : decode cX7_would 38 = .ok (.ireturn, 1) := by decide +kernel
theorem dX7_would_39 : decode cX7_would 39 = .ok (.aload_n 0, 1) := by decide +kernel
theorem dX7_would_40 : decode cX7_would 40 = .ok (.getfield 40, 3) := by decide +kernel
theorem dX7_would_43 : decode cX7_would 43 = .ok (.iload_n 3, 1) := by decide +kernel
theorem dX7_would_44 : decode cX7_would 44 = .ok (.invokevirtual 152, 3) := by decide +kernel
theorem dX7_would_47 : decode cX7_would 47 = .ok (.aload_n 0, 1) := by decide +kernel
theorem dX7_would_48 : decode cX7_would 48 = .ok (.getfield 40, 3) := by decide +kernel
theorem dX7_would_51 : decode cX7_would 51 = .ok (.iload_n 1, 1) := by decide +kernel
theorem dX7_would_52 : decode cX7_would 52 = .ok (.iload_n 2, 1) := by decide +kernel
theorem dX7_would_53 : decode cX7_would 53 = .ok (.invokevirtual 212, 3) := by decide +kernel
theorem dX7_would_56 : decode cX7_would 56 = .ok (.aload_n 0, 1) := by decide +kernel
theorem dX7_would_57 : decode cX7_would 57 = .ok (.getfield 40, 3) := by decide +kernel
theorem dX7_would_60 : decode cX7_would 60 = .ok (.iload 4, 2) := by decide +kernel
theorem dX7_would_62 : decode cX7_would 62 = .ok (.invokevirtual 155, 3) := by decide +kernel
theorem dX7_would_65 : decode cX7_would 65 = .ok (.ireturn, 1) := by decide +kernel
theorem dX7_paid_0 : decode cX7_paid 0 = .ok (.iload_n 1, 1) := by decide +kernel
theorem dX7_paid_1 : decode cX7_paid 1 = .ok (.iconst (-1), 1) := by decide +kernel
theorem dX7_paid_2 : decode cX7_paid 2 = .ok (.if_icmp .ne 12, 3) := by decide +kernel
theorem dX7_paid_5 : decode cX7_paid 5 = .ok (.aload_n 0, 1) := by decide +kernel
theorem dX7_paid_6 : decode cX7_paid 6 = .ok (.getfield 21, 3) := by decide +kernel
theorem dX7_paid_9 : decode cX7_paid 9 = .ok (.invokevirtual 215, 3) := by decide +kernel
theorem dX7_paid_12 : decode cX7_paid 12 = .ok (.iconst 0, 1) := by decide +kernel
theorem dX7_paid_13 : decode cX7_paid 13 = .ok (.ireturn, 1) := by decide +kernel
theorem dX7_paid_14 : decode cX7_paid 14 = .ok (.iload_n 1, 1) := by decide +kernel
theorem dX7_paid_15 : decode cX7_paid 15 = .ok (.invokestatic 149, 3) := by decide +kernel
theorem dX7_paid_18 : decode cX7_paid 18 = .ok (.ifCond .ne 5, 3) := by decide +kernel
theorem dX7_paid_21 : decode cX7_paid 21 = .ok (.iconst (-1), 1) := by decide +kernel
theorem dX7_paid_22 : decode cX7_paid 22 = .ok (.ireturn, 1) := by decide +kernel
theorem dX7_paid_23 : decode cX7_paid 23 = .ok (.iload_n 2, 1) := by decide +kernel
theorem dX7_paid_24 : decode cX7_paid 24 = .ok (.iconst (-1), 1) := by decide +kernel
theorem dX7_paid_25 : decode cX7_paid 25 = .ok (.if_icmp .eq 13, 3) := by decide +kernel
theorem dX7_paid_28 : decode cX7_paid 28 = .ok (.iload_n 2, 1) := by decide +kernel
theorem dX7_paid_29 : decode cX7_paid 29 = .ok (.invokestatic 72, 3) := by decide +kernel
theorem dX7_paid_32 : decode cX7_paid 32 = .ok (.ifCond .ne 6, 3) := by decide +kernel
theorem dX7_paid_35 : decode cX7_paid 35 = .ok (.bipush (-2), 2) := by decide +kernel
theorem dX7_paid_37 : decode cX7_paid 37 = .ok (.ireturn, 1) := by decide +kernel
theorem dX7_paid_38 : decode cX7_paid 38 = .ok (.aload_n 0, 1) := by decide +kernel
theorem dX7_paid_39 : decode cX7_paid 39 = .ok (.getfield 21, 3) := by decide +kernel
theorem dX7_paid_42 : decode cX7_paid 42 = .ok (.iload_n 1, 1) := by decide +kernel
theorem dX7_paid_43 : decode cX7_paid 43 = .ok (.iload_n 2, 1) := by decide +kernel
theorem dX7_paid_44 : decode cX7_paid 44 = .ok (.iconst (-1), 1) := by decide +kernel
theorem dX7_paid_45 : decode cX7_paid 45 = .ok (.if_icmp .ne 8, 3) := by decide +kernel
theorem dX7_paid_48 : decode cX7_paid 48 = .ok (.bipush (-5), 2) := by decide +kernel
theorem dX7_paid_50 : decode cX7_paid 50 = .ok (.goto 4, 3) := by decide +kernel
theorem dX7_paid_53 : decode cX7_paid 53 = .ok (.iload_n 2, 1) := by decide +kernel
theorem dX7_paid_54 : decode cX7_paid 54 = .ok (.invokevirtual 218, 3) := by decide +kernel
theorem dX7_paid_57 : decode cX7_paid 57 = .ok (.ireturn, 1) := by decide +kernel
theorem dX7_fits_0 : decode cX7_fits 0 = .ok (.aload_n 0, 1) := by decide +kernel
theorem dX7_fits_1 : decode cX7_fits 1 = .ok (.iload_n 1, 1) := by decide +kernel
theorem dX7_fits_2 : decode cX7_fits 2 = .ok (.invokevirtual 209, 3) := by decide +kernel
theorem dX7_fits_5 : decode cX7_fits 5 = .ok (.ifCond .eq 23, 3) := by decide +kernel
theorem dX7_fits_8 : decode cX7_fits 8 = .ok (.aload_n 0, 1) := by decide +kernel
theorem dX7_fits_9 : decode cX7_fits 9 = .ok (.getfield 12, 3) := by decide +kernel
theorem dX7_fits_12 : decode cX7_fits 12 = .ok (.iload_n 2, 1) := by decide +kernel
theorem dX7_fits_13 : decode cX7_fits 13 = .ok (.invokevirtual 80, 3) := by decide +kernel
theorem dX7_fits_16 : decode cX7_fits 16 = .ok (.ifCond .eq 12, 3) := by decide +kernel
theorem dX7_fits_19 : decode cX7_fits 19 = .ok (.iload_n 3, 1) := by decide +kernel
theorem dX7_fits_20 : decode cX7_fits 20 = .ok (.ifCond .lt 8, 3) := by decide +kernel
theorem dX7_fits_23 : decode cX7_fits 23 = .ok (.iload_n 3, 1) := by decide +kernel
theorem dX7_fits_24 : decode cX7_fits 24 = .ok (.iconst 1, 1) := by decide +kernel
theorem dX7_fits_25 : decode cX7_fits 25 = .ok (.if_icmp .le 5, 3) := by decide +kernel
theorem dX7_fits_28 : decode cX7_fits 28 = .ok (.iconst (-1), 1) := by decide +kernel
theorem dX7_fits_29 : decode cX7_fits 29 = .ok (.ireturn, 1) := by decide +kernel
theorem dX7_fits_30 : decode cX7_fits 30 = .ok (.aload_n 0, 1) := by decide +kernel
theorem dX7_fits_31 : decode cX7_fits 31 = .ok (.getfield 40, 3) := by decide +kernel
theorem dX7_fits_34 : decode cX7_fits 34 = .ok (.iload_n 2, 1) := by decide +kernel
theorem dX7_fits_35 : decode cX7_fits 35 = .ok (.invokevirtual 152, 3) := by decide +kernel
theorem dX7_fits_38 : decode cX7_fits 38 = .ok (.iconst 0, 1) := by decide +kernel
theorem dX7_fits_39 : decode cX7_fits 39 = .ok (.istore 4, 2) := by decide +kernel
theorem dX7_fits_41 : decode cX7_fits 41 = .ok (.bipush (-5), 2) := by decide +kernel
theorem dX7_fits_43 : decode cX7_fits 43 = .ok (.istore 5, 2) := by decide +kernel
theorem dX7_fits_45 : decode cX7_fits 45 = .ok (.bipush 99, 2) := by decide +kernel
theorem dX7_fits_47 : decode cX7_fits 47 = .ok (.istore 6, 2) := by decide +kernel
theorem dX7_fits_49 : decode cX7_fits 49 = .ok (.iload 6, 2) := by decide +kernel
theorem dX7_fits_51 : decode cX7_fits 51 = .ok (.ifCond .lt 33, 3) := by decide +kernel
theorem dX7_fits_54 : decode cX7_fits 54 = .ok (.aload_n 0, 1) := by decide +kernel
theorem dX7_fits_55 : decode cX7_fits 55 = .ok (.getfield 40, 3) := by decide +kernel
theorem dX7_fits_58 : decode cX7_fits 58 = .ok (.iload_n 1, 1) := by decide +kernel
theorem dX7_fits_59 : decode cX7_fits 59 = .ok (.iload 6, 2) := by decide +kernel
theorem dX7_fits_61 : decode cX7_fits 61 = .ok (.invokevirtual 212, 3) := by decide +kernel
theorem dX7_fits_64 : decode cX7_fits 64 = .ok (.aload_n 0, 1) := by decide +kernel
theorem dX7_fits_65 : decode cX7_fits 65 = .ok (.invokevirtual 221, 3) := by decide +kernel
theorem dX7_fits_68 : decode cX7_fits 68 = .ok (.ifCond .eq 10, 3) := by decide +kernel
theorem dX7_fits_71 : decode cX7_fits 71 = .ok (.iinc 4 1, 3) := by decide +kernel
theorem dX7_fits_74 : decode cX7_fits 74 = .ok (.iload 6, 2) := by decide +kernel
theorem dX7_fits_76 : decode cX7_fits 76 = .ok (.istore 5, 2) := by decide +kernel
theorem dX7_fits_78 : decode cX7_fits 78 = .ok (.iinc 6 (-1), 3) := by decide +kernel
theorem dX7_fits_81 : decode cX7_fits 81 = .ok (.goto (-32), 3) := by decide +kernel
theorem dX7_fits_84 : decode cX7_fits 84 = .ok (.iload_n 3, 1) := by decide +kernel
theorem dX7_fits_85 : decode cX7_fits 85 = .ok (.ifCond .ne 8, 3) := by decide +kernel
theorem dX7_fits_88 : decode cX7_fits 88 = .ok (.iload 4, 2) := by decide +kernel
theorem dX7_fits_90 : decode cX7_fits 90 = .ok (.goto 5, 3) := by decide +kernel
theorem dX7_fits_93 : decode cX7_fits 93 = .ok (.iload 5, 2) := by decide +kernel
theorem dX7_fits_95 : decode cX7_fits 95 = .ok (.ireturn, 1) := by decide +kernel
theorem dX7_till_0 : decode cX7_till 0 = .ok (.aload_n 0, 1) := by decide +kernel
theorem dX7_till_1 : decode cX7_till 1 = .ok (.getfield 12, 3) := by decide +kernel
theorem dX7_till_4 : decode cX7_till 4 = .ok (.iload_n 1, 1) := by decide +kernel
theorem dX7_till_5 : decode cX7_till 5 = .ok (.invokevirtual 80, 3) := by decide +kernel
theorem dX7_till_8 : decode cX7_till 8 = .ok (.ifCond .eq 14, 3) := by decide +kernel
theorem dX7_till_11 : decode cX7_till 11 = .ok (.iload 4, 2) := by decide +kernel
theorem dX7_till_13 : decode cX7_till 13 = .ok (.ifCond .lt 9, 3) := by decide +kernel
theorem dX7_till_16 : decode cX7_till 16 = .ok (.iload 4, 2) := by decide +kernel
theorem dX7_till_18 : decode cX7_till 18 = .ok (.iconst 2, 1) := by decide +kernel
theorem dX7_till_19 : decode cX7_till 19 = .ok (.if_icmp .le 5, 3) := by decide +kernel
theorem dX7_till_22 : decode cX7_till 22 = .ok (.iconst (-1), 1) := by decide +kernel
theorem dX7_till_23 : decode cX7_till 23 = .ok (.ireturn, 1) := by decide +kernel
theorem dX7_till_24 : decode cX7_till 24 = .ok (.iload_n 3, 1) := by decide +kernel
theorem dX7_till_25 : decode cX7_till 25 = .ok (.iconst 1, 1) := by decide +kernel
theorem dX7_till_26 : decode cX7_till 26 = .ok (.if_icmp .lt 9, 3) := by decide +kernel
theorem dX7_till_29 : decode cX7_till 29 = .ok (.iload_n 3, 1) := by decide +kernel
theorem dX7_till_30 : decode cX7_till 30 = .ok (.bipush 40, 2) := by decide +kernel
theorem dX7_till_32 : decode cX7_till 32 = .ok (.if_icmp .le 6, 3) := by decide +kernel
theorem dX7_till_35 : decode cX7_till 35 = .ok (.bipush (-2), 2) := by decide +kernel
theorem dX7_till_37 : decode cX7_till 37 = .ok (.ireturn, 1) := by decide +kernel
theorem dX7_till_38 : decode cX7_till 38 = .ok (.aload_n 0, 1) := by decide +kernel
theorem dX7_till_39 : decode cX7_till 39 = .ok (.getfield 40, 3) := by decide +kernel
theorem dX7_till_42 : decode cX7_till 42 = .ok (.iload_n 1, 1) := by decide +kernel
theorem dX7_till_43 : decode cX7_till 43 = .ok (.invokevirtual 152, 3) := by decide +kernel
theorem dX7_till_46 : decode cX7_till 46 = .ok (.iload_n 2, 1) := by decide +kernel
theorem dX7_till_47 : decode cX7_till 47 = .ok (.istore 5, 2) := by decide +kernel
theorem dX7_till_49 : decode cX7_till 49 = .ok (.iconst 0, 1) := by decide +kernel
theorem dX7_till_50 : decode cX7_till 50 = .ok (.istore 6, 2) := by decide +kernel
theorem dX7_till_52 : decode cX7_till 52 = .ok (.iconst 0, 1) := by decide +kernel
theorem dX7_till_53 : decode cX7_till 53 = .ok (.istore 7, 2) := by decide +kernel
theorem dX7_till_55 : decode cX7_till 55 = .ok (.bipush (-5), 2) := by decide +kernel
theorem dX7_till_57 : decode cX7_till 57 = .ok (.istore 8, 2) := by decide +kernel
theorem dX7_till_59 : decode cX7_till 59 = .ok (.iconst 0, 1) := by decide +kernel
theorem dX7_till_60 : decode cX7_till 60 = .ok (.istore 9, 2) := by decide +kernel
theorem dX7_till_62 : decode cX7_till 62 = .ok (.iload 9, 2) := by decide +kernel
theorem dX7_till_64 : decode cX7_till 64 = .ok (.iload_n 3, 1) := by decide +kernel
theorem dX7_till_65 : decode cX7_till 65 = .ok (.if_icmp .ge 70, 3) := by decide +kernel
theorem dX7_till_68 : decode cX7_till 68 = .ok (.iload 5, 2) := by decide +kernel
theorem dX7_till_70 : decode cX7_till 70 = .ok (.ldc 225, 2) := by decide +kernel
theorem dX7_till_72 : decode cX7_till 72 = .ok (.imul, 1) := by decide +kernel
theorem dX7_till_73 : decode cX7_till 73 = .ok (.ldc 226, 2) := by decide +kernel
theorem dX7_till_75 : decode cX7_till 75 = .ok (.iadd, 1) := by decide +kernel
theorem dX7_till_76 : decode cX7_till 76 = .ok (.istore 5, 2) := by decide +kernel
theorem dX7_till_78 : decode cX7_till 78 = .ok (.aload_n 0, 1) := by decide +kernel
theorem dX7_till_79 : decode cX7_till 79 = .ok (.getfield 40, 3) := by decide +kernel
theorem dX7_till_82 : decode cX7_till 82 = .ok (.iload 5, 2) := by decide +kernel
theorem dX7_till_84 : decode cX7_till 84 = .ok (.ldc 227, 2) := by decide +kernel
theorem dX7_till_86 : decode cX7_till 86 = .ok (.iand, 1) := by decide +kernel
theorem dX7_till_87 : decode cX7_till 87 = .ok (.sipush 256, 3) := by decide +kernel
theorem dX7_till_90 : decode cX7_till 90 = .ok (.idiv, 1) := by decide +kernel
theorem dX7_till_91 : decode cX7_till 91 = .ok (.sipush 224, 3) := by decide +kernel
theorem dX7_till_94 : decode cX7_till 94 = .ok (.irem, 1) := by decide +kernel
theorem dX7_till_95 : decode cX7_till 95 = .ok (.invokevirtual 155, 3) := by decide +kernel
theorem dX7_till_98 : decode cX7_till 98 = .ok (.istore 10, 2) := by decide +kernel
theorem dX7_till_100 : decode cX7_till 100 = .ok (.iload 10, 2) := by decide +kernel
theorem dX7_till_102 : decode cX7_till 102 = .ok (.bipush (-5), 2) := by decide +kernel
theorem dX7_till_104 : decode cX7_till 104 = .ok (.if_icmp .ne 9, 3) := by decide +kernel
theorem dX7_till_107 : decode cX7_till 107 = .ok (.iinc 7 1, 3) := by decide +kernel
theorem dX7_till_110 : decode cX7_till 110 = .ok (.goto 19, 3) := by decide +kernel
theorem dX7_till_113 : decode cX7_till 113 = .ok (.iload 6, 2) := by decide +kernel
theorem dX7_till_115 : decode cX7_till 115 = .ok (.iload 10, 2) := by decide +kernel
theorem dX7_till_117 : decode cX7_till 117 = .ok (.iadd, 1) := by decide +kernel
theorem dX7_till_118 : decode cX7_till 118 = .ok (.istore 6, 2) := by decide +kernel
theorem dX7_till_120 : decode cX7_till 120 = .ok (.iload 8, 2) := by decide +kernel
theorem dX7_till_122 : decode cX7_till 122 = .ok (.iload 10, 2) := by decide +kernel
theorem dX7_till_124 : decode cX7_till 124 = .ok (.invokestatic 228, 3) := by decide +kernel
theorem dX7_till_127 : decode cX7_till 127 = .ok (.istore 8, 2) := by decide +kernel
theorem dX7_till_129 : decode cX7_till 129 = .ok (.iinc 9 1, 3) := by decide +kernel
theorem dX7_till_132 : decode cX7_till 132 = .ok (.goto (-70), 3) := by decide +kernel
theorem dX7_till_135 : decode cX7_till 135 = .ok (.iload 4, 2) := by decide +kernel
theorem dX7_till_137 : decode cX7_till 137 = .ok (.ifCond .ne 8, 3) := by decide +kernel
theorem dX7_till_140 : decode cX7_till 140 = .ok (.iload 6, 2) := by decide +kernel
theorem dX7_till_142 : decode cX7_till 142 = .ok (.goto 16, 3) := by decide +kernel
theorem dX7_till_145 : decode cX7_till 145 = .ok (.iload 4, 2) := by decide +kernel
theorem dX7_till_147 : decode cX7_till 147 = .ok (.iconst 1, 1) := by decide +kernel
theorem dX7_till_148 : decode cX7_till 148 = .ok (.if_icmp .ne 8, 3) := by decide +kernel
theorem dX7_till_151 : decode cX7_till 151 = .ok (.iload 7, 2) := by decide +kernel
theorem dX7_till_153 : decode cX7_till 153 = .ok (.goto 5, 3) := by decide +kernel
theorem dX7_till_156 : decode cX7_till 156 = .ok (.iload 8, 2) := by decide +kernel
theorem dX7_till_158 : decode cX7_till 158 = .ok (.ireturn, 1) := by decide +kernel
theorem dX7_rack_0 : decode cX7_rack 0 = .ok (.aload_n 0, 1) := by decide +kernel
theorem dX7_rack_1 : decode cX7_rack 1 = .ok (.getfield 68, 3) := by decide +kernel
theorem dX7_rack_4 : decode cX7_rack 4 = .ok (.iload_n 1, 1) := by decide +kernel
theorem dX7_rack_5 : decode cX7_rack 5 = .ok (.invokevirtual 233, 3) := by decide +kernel
theorem dX7_rack_8 : decode cX7_rack 8 = .ok (.ifCond .ne 5, 3) := by decide +kernel
theorem dX7_rack_11 : decode cX7_rack 11 = .ok (.iconst (-1), 1) := by decide +kernel
theorem dX7_rack_12 : decode cX7_rack 12 = .ok (.ireturn, 1) := by decide +kernel
theorem dX7_rack_13 : decode cX7_rack 13 = .ok (.iload_n 2, 1) := by decide +kernel
theorem dX7_rack_14 : decode cX7_rack 14 = .ok (.bipush 70, 2) := by decide +kernel
theorem dX7_rack_16 : decode cX7_rack 16 = .ok (.if_icmp .le 6, 3) := by decide +kernel
theorem dX7_rack_19 : decode cX7_rack 19 = .ok (.bipush (-2), 2) := by decide +kernel
theorem dX7_rack_21 : decode cX7_rack 21 = .ok (.ireturn, 1) := by decide +kernel
theorem dX7_rack_22 : decode cX7_rack 22 = .ok (.iload_n 2, 1) := by decide +kernel
theorem dX7_rack_23 : decode cX7_rack 23 = .ok (.ifCond .ge 6, 3) := by decide +kernel
theorem dX7_rack_26 : decode cX7_rack 26 = .ok (.bipush (-14), 2) := by decide +kernel
theorem dX7_rack_28 : decode cX7_rack 28 = .ok (.ireturn, 1) := by decide +kernel
theorem dX7_rack_29 : decode cX7_rack 29 = .ok (.aload_n 0, 1) := by decide +kernel
theorem dX7_rack_30 : decode cX7_rack 30 = .ok (.getfield 68, 3) := by decide +kernel
theorem dX7_rack_33 : decode cX7_rack 33 = .ok (.iload_n 1, 1) := by decide +kernel
theorem dX7_rack_34 : decode cX7_rack 34 = .ok (.iload_n 2, 1) := by decide +kernel
theorem dX7_rack_35 : decode cX7_rack 35 = .ok (.invokevirtual 234, 3) := by decide +kernel
theorem dX7_rack_38 : decode cX7_rack 38 = .ok (.iconst 1, 1) := by decide +kernel
theorem dX7_rack_39 : decode cX7_rack 39 = .ok (.ireturn, 1) := by decide +kernel
theorem dX7_put_0 : decode cX7_put 0 = .ok (.aload_n 0, 1) := by decide +kernel
theorem dX7_put_1 : decode cX7_put 1 = .ok (.getfield 68, 3) := by decide +kernel
theorem dX7_put_4 : decode cX7_put 4 = .ok (.iload_n 1, 1) := by decide +kernel
theorem dX7_put_5 : decode cX7_put 5 = .ok (.invokevirtual 233, 3) := by decide +kernel
theorem dX7_put_8 : decode cX7_put 8 = .ok (.ifCond .ne 5, 3) := by decide +kernel
theorem dX7_put_11 : decode cX7_put 11 = .ok (.iconst (-1), 1) := by decide +kernel
theorem dX7_put_12 : decode cX7_put 12 = .ok (.ireturn, 1) := by decide +kernel
theorem dX7_put_13 : decode cX7_put 13 = .ok (.aload_n 0, 1) := by decide +kernel
theorem dX7_put_14 : decode cX7_put 14 = .ok (.getfield 68, 3) := by decide +kernel
theorem dX7_put_17 : decode cX7_put 17 = .ok (.iload_n 1, 1) := by decide +kernel
theorem dX7_put_18 : decode cX7_put 18 = .ok (.invokevirtual 237, 3) := by decide +kernel
theorem dX7_put_21 : decode cX7_put 21 = .ok (.ifCond .ne 6, 3) := by decide +kernel
theorem dX7_put_24 : decode cX7_put 24 = .ok (.bipush (-11), 2) := by decide +kernel
theorem dX7_put_26 : decode cX7_put 26 = .ok (.ireturn, 1) := by decide +kernel
theorem dX7_put_27 : decode cX7_put 27 = .ok (.aload_n 0, 1) := by decide +kernel
theorem dX7_put_28 : decode cX7_put 28 = .ok (.getfield 68, 3) := by decide +kernel
theorem dX7_put_31 : decode cX7_put 31 = .ok (.iload_n 1, 1) := by decide +kernel
theorem dX7_put_32 : decode cX7_put 32 = .ok (.iload_n 2, 1) := by decide +kernel
theorem dX7_put_33 : decode cX7_put 33 = .ok (.invokevirtual 240, 3) := by decide +kernel
theorem dX7_put_36 : decode cX7_put 36 = .ok (.ifCond .ne 6, 3) := by decide +kernel
theorem dX7_put_39 : decode cX7_put 39 = .ok (.bipush (-13), 2) := by decide +kernel
theorem dX7_put_41 : decode cX7_put 41 = .ok (.ireturn, 1) := by decide +kernel
theorem dX7_put_42 : decode cX7_put 42 = .ok (.aload_n 0, 1) := by decide +kernel
theorem dX7_put_43 : decode cX7_put 43 = .ok (.getfield 68, 3) := by decide +kernel
theorem dX7_put_46 : decode cX7_put 46 = .ok (.iload_n 1, 1) := by decide +kernel
theorem dX7_put_47 : decode cX7_put 47 = .ok (.iload_n 2, 1) := by decide +kernel
theorem dX7_put_48 : decode cX7_put 48 = .ok (.iload_n 3, 1) := by decide +kernel
theorem dX7_put_49 : decode cX7_put 49 = .ok (.invokevirtual 244, 3) := by decide +kernel
theorem dX7_put_52 : decode cX7_put 52 = .ok (.iconst 1, 1) := by decide +kernel
theorem dX7_put_53 : decode cX7_put 53 = .ok (.ireturn, 1) := by decide +kernel
theorem dX7_get_0 : decode cX7_get 0 = .ok (.aload_n 0, 1) := by decide +kernel
theorem dX7_get_1 : decode cX7_get 1 = .ok (.getfield 68, 3) := by decide +kernel
theorem dX7_get_4 : decode cX7_get 4 = .ok (.iload_n 1, 1) := by decide +kernel
theorem dX7_get_5 : decode cX7_get 5 = .ok (.iload_n 2, 1) := by decide +kernel
theorem dX7_get_6 : decode cX7_get 6 = .ok (.invokevirtual 240, 3) := by decide +kernel
theorem dX7_get_9 : decode cX7_get 9 = .ok (.ifCond .eq 16, 3) := by decide +kernel
theorem dX7_get_12 : decode cX7_get 12 = .ok (.aload_n 0, 1) := by decide +kernel
theorem dX7_get_13 : decode cX7_get 13 = .ok (.getfield 68, 3) := by decide +kernel
theorem dX7_get_16 : decode cX7_get 16 = .ok (.iload_n 1, 1) := by decide +kernel
theorem dX7_get_17 : decode cX7_get 17 = .ok (.iload_n 2, 1) := by decide +kernel
theorem dX7_get_18 : decode cX7_get 18 = .ok (.invokevirtual 248, 3) := by decide +kernel
theorem dX7_get_21 : decode cX7_get 21 = .ok (.i2l, 1) := by decide +kernel
theorem dX7_get_22 : decode cX7_get 22 = .ok (.goto 6, 3) := by decide +kernel
theorem dX7_get_25 : decode cX7_get 25 = .ok (.ldc2_w 164, 3) := by decide +kernel
theorem dX7_get_28 : decode cX7_get 28 = .ok (.lreturn, 1) := by decide +kernel
theorem dX7_lay_0 : decode cX7_lay 0 = .ok (.aload_n 0, 1) := by decide +kernel
theorem dX7_lay_1 : decode cX7_lay 1 = .ok (.getfield 12, 3) := by decide +kernel
theorem dX7_lay_4 : decode cX7_lay 4 = .ok (.iload_n 1, 1) := by decide +kernel
theorem dX7_lay_5 : decode cX7_lay 5 = .ok (.invokevirtual 80, 3) := by decide +kernel
theorem dX7_lay_8 : decode cX7_lay 8 = .ok (.ifCond .eq 14, 3) := by decide +kernel
theorem dX7_lay_11 : decode cX7_lay 11 = .ok (.aload_n 0, 1) := by decide +kernel
theorem dX7_lay_12 : decode cX7_lay 12 = .ok (.getfield 68, 3) := by decide +kernel
theorem dX7_lay_15 : decode cX7_lay 15 = .ok (.iload_n 2, 1) := by decide +kernel
theorem dX7_lay_16 : decode cX7_lay 16 = .ok (.invokevirtual 233, 3) := by decide +kernel
theorem dX7_lay_19 : decode cX7_lay 19 = .ok (.ifCond .ne 5, 3) := by decide +kernel
theorem dX7_lay_22 : decode cX7_lay 22 = .ok (.iconst (-1), 1) := by decide +kernel
theorem dX7_lay_23 : decode cX7_lay 23 = .ok (.ireturn, 1) := by decide +kernel
theorem dX7_lay_24 : decode cX7_lay 24 = .ok (.aload_n 0, 1) := by decide +kernel
theorem dX7_lay_25 : decode cX7_lay 25 = .ok (.getfield 68, 3) := by decide +kernel
theorem dX7_lay_28 : decode cX7_lay 28 = .ok (.iload_n 2, 1) := by decide +kernel
theorem dX7_lay_29 : decode cX7_lay 29 = .ok (.invokevirtual 237, 3) := by decide +kernel
theorem dX7_lay_32 : decode cX7_lay 32 = .ok (.ifCond .ne 6, 3) := by decide +kernel
theorem dX7_lay_35 : decode cX7_lay 35 = .ok (.bipush (-11), 2) := by decide +kernel
theorem dX7_lay_37 : decode cX7_lay 37 = .ok (.ireturn, 1) := by decide +kernel
theorem dX7_lay_38 : decode cX7_lay 38 = .ok (.aload_n 0, 1) := by decide +kernel
theorem dX7_lay_39 : decode cX7_lay 39 = .ok (.iload_n 1, 1) := by decide +kernel
theorem dX7_lay_40 : decode cX7_lay 40 = .ok (.invokevirtual 170, 3) := by decide +kernel
theorem dX7_lay_43 : decode cX7_lay 43 = .ok (.bipush 7, 2) := by decide +kernel
theorem dX7_lay_45 : decode cX7_lay 45 = .ok (.aload_n 0, 1) := by decide +kernel
theorem dX7_lay_46 : decode cX7_lay 46 = .ok (.getfield 47, 3) := by decide +kernel
theorem dX7_lay_49 : decode cX7_lay 49 = .ok (.getfield 251, 3) := by decide +kernel
theorem dX7_lay_52 : decode cX7_lay 52 = .ok (.imul, 1) := by decide +kernel
theorem dX7_lay_53 : decode cX7_lay 53 = .ok (.istore 4, 2) := by decide +kernel
theorem dX7_lay_55 : decode cX7_lay 55 = .ok (.iconst 0, 1) := by decide +kernel
theorem dX7_lay_56 : decode cX7_lay 56 = .ok (.istore 5, 2) := by decide +kernel
theorem dX7_lay_58 : decode cX7_lay 58 = .ok (.iload 5, 2) := by decide +kernel
theorem dX7_lay_60 : decode cX7_lay 60 = .ok (.iload 4, 2) := by decide +kernel
theorem dX7_lay_62 : decode cX7_lay 62 = .ok (.if_icmp .ge 53, 3) := by decide +kernel
theorem dX7_lay_65 : decode cX7_lay 65 = .ok (.aload_n 0, 1) := by decide +kernel
theorem dX7_lay_66 : decode cX7_lay 66 = .ok (.getfield 68, 3) := by decide +kernel
theorem dX7_lay_69 : decode cX7_lay 69 = .ok (.iload_n 2, 1) := by decide +kernel
theorem dX7_lay_70 : decode cX7_lay 70 = .ok (.iload_n 3, 1) := by decide +kernel
theorem dX7_lay_71 : decode cX7_lay 71 = .ok (.iload 5, 2) := by decide +kernel
theorem dX7_lay_73 : decode cX7_lay 73 = .ok (.iadd, 1) := by decide +kernel
theorem dX7_lay_74 : decode cX7_lay 74 = .ok (.invokevirtual 240, 3) := by decide +kernel
theorem dX7_lay_77 : decode cX7_lay 77 = .ok (.ifCond .ne 6, 3) := by decide +kernel
theorem dX7_lay_80 : decode cX7_lay 80 = .ok (.bipush (-13), 2) := by decide +kernel
theorem dX7_lay_82 : decode cX7_lay 82 = .ok (.ireturn, 1) := by decide +kernel
theorem dX7_lay_83 : decode cX7_lay 83 = .ok (.aload_n 0, 1) := by decide +kernel
theorem dX7_lay_84 : decode cX7_lay 84 = .ok (.getfield 68, 3) := by decide +kernel
theorem dX7_lay_87 : decode cX7_lay 87 = .ok (.iload_n 2, 1) := by decide +kernel
theorem dX7_lay_88 : decode cX7_lay 88 = .ok (.iload_n 3, 1) := by decide +kernel
theorem dX7_lay_89 : decode cX7_lay 89 = .ok (.iload 5, 2) := by decide +kernel
theorem dX7_lay_91 : decode cX7_lay 91 = .ok (.iadd, 1) := by decide +kernel
theorem dX7_lay_92 : decode cX7_lay 92 = .ok (.aload_n 0, 1) := by decide +kernel
theorem dX7_lay_93 : decode cX7_lay 93 = .ok (.iload 5, 2) := by decide +kernel
theorem dX7_lay_95 : decode cX7_lay 95 = .ok (.bipush 7, 2) := by decide +kernel
theorem dX7_lay_97 : decode cX7_lay 97 = .ok (.idiv, 1) := by decide +kernel
theorem dX7_lay_98 : decode cX7_lay 98 = .ok (.iload 5, 2) := by decide +kernel
theorem dX7_lay_100 : decode cX7_lay 100 = .ok (.bipush 7, 2) := by decide +kernel
theorem dX7_lay_102 : decode cX7_lay 102 = .ok (.irem, 1) := by decide +kernel
theorem dX7_lay_103 : decode cX7_lay 103 = .ok (.invokevirtual 252, 3) := by decide +kernel
theorem dX7_lay_106 : decode cX7_lay 106 = .ok (.invokevirtual 244, 3) := by decide +kernel
theorem dX7_lay_109 : decode cX7_lay 109 = .ok (.iinc 5 1, 3) := by decide +kernel
theorem dX7_lay_112 : decode cX7_lay 112 = .ok (.goto (-54), 3) := by decide +kernel
theorem dX7_lay_115 : decode cX7_lay 115 = .ok (.iload 4, 2) := by decide +kernel
theorem dX7_lay_117 : decode cX7_lay 117 = .ok (.ireturn, 1) := by decide +kernel
theorem dX7_judge_0 : decode cX7_judge 0 = .ok (.aload_n 0, 1) := by decide +kernel
theorem dX7_judge_1 : decode cX7_judge 1 = .ok (.getfield 68, 3) := by decide +kernel
theorem dX7_judge_4 : decode cX7_judge 4 = .ok (.iload_n 1, 1) := by decide +kernel
theorem dX7_judge_5 : decode cX7_judge 5 = .ok (.invokevirtual 233, 3) := by decide +kernel
theorem dX7_judge_8 : decode cX7_judge 8 = .ok (.ifCond .eq 14, 3) := by decide +kernel
theorem dX7_judge_11 : decode cX7_judge 11 = .ok (.aload_n 0, 1) := by decide +kernel
theorem dX7_judge_12 : decode cX7_judge 12 = .ok (.getfield 12, 3) := by decide +kernel
theorem dX7_judge_15 : decode cX7_judge 15 = .ok (.iload_n 2, 1) := by decide +kernel
theorem dX7_judge_16 : decode cX7_judge 16 = .ok (.invokevirtual 80, 3) := by decide +kernel
theorem dX7_judge_19 : decode cX7_judge 19 = .ok (.ifCond .ne 5, 3) := by decide +kernel
theorem dX7_judge_22 : decode cX7_judge 22 = .ok (.iconst (-1), 1) := by decide +kernel
theorem dX7_judge_23 : decode cX7_judge 23 = .ok (.ireturn, 1) := by decide +kernel
theorem dX7_judge_24 : decode cX7_judge 24 = .ok (.aload_n 0, 1) := by decide +kernel
theorem dX7_judge_25 : decode cX7_judge 25 = .ok (.getfield 68, 3) := by decide +kernel
theorem dX7_judge_28 : decode cX7_judge 28 = .ok (.iload_n 1, 1) := by decide +kernel
theorem dX7_judge_29 : decode cX7_judge 29 = .ok (.invokevirtual 237, 3) := by decide +kernel
theorem dX7_judge_32 : decode cX7_judge 32 = .ok (.ifCond .ne 6, 3) := by decide +kernel
theorem dX7_judge_35 : decode cX7_judge 35 = .ok (.bipush (-11), 2) := by decide +kernel
theorem dX7_judge_37 : decode cX7_judge 37 = .ok (.ireturn, 1) := by decide +kernel
theorem dX7_judge_38 : decode cX7_judge 38 = .ok (.aload_n 0, 1) := by decide +kernel
theorem dX7_judge_39 : decode cX7_judge 39 = .ok (.getfield 68, 3) := by decide +kernel
theorem dX7_judge_42 : decode cX7_judge 42 = .ok (.iload_n 1, 1) := by decide +kernel
theorem dX7_judge_43 : decode cX7_judge 43 = .ok (.invokevirtual 255, 3) := by decide +kernel
theorem dX7_judge_46 : decode cX7_judge 46 = .ok (.istore_n 3, 1) := by decide +kernel
theorem dX7_judge_47 : decode cX7_judge 47 = .ok (.iload_n 3, 1) := by decide +kernel
theorem dX7_judge_48 : decode cX7_judge 48 = .ok (.iconst (-1), 1) := by decide +kernel
theorem dX7_judge_49 : decode cX7_judge 49 = .ok (.if_icmp .eq 5, 3) := by decide +kernel
theorem dX7_judge_52 : decode cX7_judge 52 = .ok (.iload_n 3, 1) := by decide +kernel
theorem dX7_judge_53 : decode cX7_judge 53 = .ok (.ireturn, 1) := by decide +kernel
theorem dX7_judge_54 : decode cX7_judge 54 = .ok (.aload_n 0, 1) := by decide +kernel
theorem dX7_judge_55 : decode cX7_judge 55 = .ok (.getfield 40, 3) := by decide +kernel
theorem dX7_judge_58 : decode cX7_judge 58 = .ok (.iload_n 2, 1) := by decide +kernel
theorem dX7_judge_59 : decode cX7_judge 59 = .ok (.invokevirtual 152, 3) := by decide +kernel
theorem dX7_judge_62 : decode cX7_judge 62 = .ok (.iconst 0, 1) := by decide +kernel
theorem dX7_judge_63 : decode cX7_judge 63 = .ok (.istore 4, 2) := by decide +kernel
theorem dX7_judge_65 : decode cX7_judge 65 = .ok (.iload 4, 2) := by decide +kernel
theorem dX7_judge_67 : decode cX7_judge 67 = .ok (.sipush 224, 3) := by decide +kernel
theorem dX7_judge_70 : decode cX7_judge 70 = .ok (.if_icmp .ge 38, 3) := by decide +kernel
theorem dX7_judge_73 : decode cX7_judge 73 = .ok (.aload_n 0, 1) := by decide +kernel
theorem dX7_judge_74 : decode cX7_judge 74 = .ok (.getfield 68, 3) := by decide +kernel
theorem dX7_judge_77 : decode cX7_judge 77 = .ok (.iload_n 1, 1) := by decide +kernel
theorem dX7_judge_78 : decode cX7_judge 78 = .ok (.iload 4, 2) := by decide +kernel
theorem dX7_judge_80 : decode cX7_judge 80 = .ok (.invokevirtual 258, 3) := by decide +kernel
theorem dX7_judge_83 : decode cX7_judge 83 = .ok (.aload_n 0, 1) := by decide +kernel
theorem dX7_judge_84 : decode cX7_judge 84 = .ok (.getfield 40, 3) := by decide +kernel
theorem dX7_judge_87 : decode cX7_judge 87 = .ok (.iload 4, 2) := by decide +kernel
theorem dX7_judge_89 : decode cX7_judge 89 = .ok (.invokevirtual 155, 3) := by decide +kernel
theorem dX7_judge_92 : decode cX7_judge 92 = .ok (.if_icmp .eq 10, 3) := by decide +kernel
theorem dX7_judge_95 : decode cX7_judge 95 = .ok (.sipush 500, 3) := by decide +kernel
theorem dX7_judge_98 : decode cX7_judge 98 = .ok (.iload 4, 2) := by decide +kernel
theorem dX7_judge_100 : decode cX7_judge 100 = .ok (.iadd, 1) := by decide +kernel
theorem dX7_judge_101 : decode cX7_judge 101 = .ok (.ireturn, 1) := by decide +kernel
theorem dX7_judge_102 : decode cX7_judge 102 = .ok (.iinc 4 1, 3) := by decide +kernel
theorem dX7_judge_105 : decode cX7_judge 105 = .ok (.goto (-40), 3) := by decide +kernel
theorem dX7_judge_108 : decode cX7_judge 108 = .ok (.bipush (-5), 2) := by decide +kernel
theorem dX7_judge_110 : decode cX7_judge 110 = .ok (.ireturn, 1) := by decide +kernel
theorem dX7_image_0 : decode cX7_image 0 = .ok (.aload_n 0, 1) := by decide +kernel
theorem dX7_image_1 : decode cX7_image 1 = .ok (.getfield 25, 3) := by decide +kernel
theorem dX7_image_4 : decode cX7_image 4 = .ok (.aload_n 0, 1) := by decide +kernel
theorem dX7_image_5 : decode cX7_image 5 = .ok (.getfield 12, 3) := by decide +kernel
theorem dX7_image_8 : decode cX7_image 8 = .ok (.invokevirtual 260, 3) := by decide +kernel
theorem dX7_image_11 : decode cX7_image 11 = .ok (.aload_n 0, 1) := by decide +kernel
theorem dX7_image_12 : decode cX7_image 12 = .ok (.getfield 28, 3) := by decide +kernel
theorem dX7_image_15 : decode cX7_image 15 = .ok (.aload_n 0, 1) := by decide +kernel
theorem dX7_image_16 : decode cX7_image 16 = .ok (.getfield 21, 3) := by decide +kernel
theorem dX7_image_19 : decode cX7_image 19 = .ok (.invokevirtual 263, 3) := by decide +kernel
theorem dX7_image_22 : decode cX7_image 22 = .ok (.aload_n 0, 1) := by decide +kernel
theorem dX7_image_23 : decode cX7_image 23 = .ok (.iconst 1, 1) := by decide +kernel
theorem dX7_image_24 : decode cX7_image 24 = .ok (.putfield 31, 3) := by decide +kernel
theorem dX7_image_27 : decode cX7_image 27 = .ok (.aload_n 0, 1) := by decide +kernel
theorem dX7_image_28 : decode cX7_image 28 = .ok (.getfield 12, 3) := by decide +kernel
theorem dX7_image_31 : decode cX7_image 31 = .ok (.getfield 89, 3) := by decide +kernel
theorem dX7_image_34 : decode cX7_image 34 = .ok (.ireturn, 1) := by decide +kernel
theorem dX7_undo_0 : decode cX7_undo 0 = .ok (.aload_n 0, 1) := by decide +kernel
theorem dX7_undo_1 : decode cX7_undo 1 = .ok (.getfield 31, 3) := by decide +kernel
theorem dX7_undo_4 : decode cX7_undo 4 = .ok (.ifCond .ne 6, 3) := by decide +kernel
theorem dX7_undo_7 : decode cX7_undo 7 = .ok (.bipush (-3), 2) := by decide +kernel
theorem dX7_undo_9 : decode cX7_undo 9 = .ok (.ireturn, 1) := by decide +kernel
theorem dX7_undo_10 : decode cX7_undo 10 = .ok (.aload_n 0, 1) := by decide +kernel
theorem dX7_undo_11 : decode cX7_undo 11 = .ok (.getfield 12, 3) := by decide +kernel
theorem dX7_undo_14 : decode cX7_undo 14 = .ok (.aload_n 0, 1) := by decide +kernel
theorem dX7_undo_15 : decode cX7_undo 15 = .ok (.getfield 25, 3) := by decide +kernel
theorem dX7_undo_18 : decode cX7_undo 18 = .ok (.invokevirtual 260, 3) := by decide +kernel
theorem dX7_undo_21 : decode cX7_undo 21 = .ok (.aload_n 0, 1) := by decide +kernel
theorem dX7_undo_22 : decode cX7_undo 22 = .ok (.getfield 21, 3) := by decide +kernel
theorem dX7_undo_25 : decode cX7_undo 25 = .ok (.aload_n 0, 1) := by decide +kernel
theorem dX7_undo_26 : decode cX7_undo 26 = .ok (.getfield 28, 3) := by decide +kernel
theorem dX7_undo_29 : decode cX7_undo 29 = .ok (.invokevirtual 263, 3) := by decide +kernel
theorem dX7_undo_32 : decode cX7_undo 32 = .ok (.aload_n 0, 1) := by decide +kernel
theorem dX7_undo_33 : decode cX7_undo 33 = .ok (.getfield 12, 3) := by decide +kernel
theorem dX7_undo_36 : decode cX7_undo 36 = .ok (.getfield 89, 3) := by decide +kernel
theorem dX7_undo_39 : decode cX7_undo 39 = .ok (.ireturn, 1) := by decide +kernel
theorem dX7_count_0 : decode cX7_count 0 = .ok (.iload_n 1, 1) := by decide +kernel
theorem dX7_count_1 : decode cX7_count 1 = .ok (.tableswitch 88 0 5 #[39, 47, 55, 63, 71, 80], 39) := by decide +kernel
theorem dX7_count_40 : decode cX7_count 40 = .ok (.aload_n 0, 1) := by decide +kernel
theorem dX7_count_41 : decode cX7_count 41 = .ok (.getfield 12, 3) := by decide +kernel
theorem dX7_count_44 : decode cX7_count 44 = .ok (.getfield 89, 3) := by decide +kernel
theorem dX7_count_47 : decode cX7_count 47 = .ok (.ireturn, 1) := by decide +kernel
theorem dX7_count_48 : decode cX7_count 48 = .ok (.aload_n 0, 1) := by decide +kernel
theorem dX7_count_49 : decode cX7_count 49 = .ok (.getfield 21, 3) := by decide +kernel
theorem dX7_count_52 : decode cX7_count 52 = .ok (.getfield 266, 3) := by decide +kernel
theorem dX7_count_55 : decode cX7_count 55 = .ok (.ireturn, 1) := by decide +kernel
theorem dX7_count_56 : decode cX7_count 56 = .ok (.aload_n 0, 1) := by decide +kernel
theorem dX7_count_57 : decode cX7_count 57 = .ok (.getfield 54, 3) := by decide +kernel
theorem dX7_count_60 : decode cX7_count 60 = .ok (.getfield 267, 3) := by decide +kernel
theorem dX7_count_63 : decode cX7_count 63 = .ok (.ireturn, 1) := by decide +kernel
theorem dX7_count_64 : decode cX7_count 64 = .ok (.aload_n 0, 1) := by decide +kernel
theorem dX7_count_65 : decode cX7_count 65 = .ok (.getfield 61, 3) := by decide +kernel
theorem dX7_count_68 : decode cX7_count 68 = .ok (.getfield 142, 3) := by decide +kernel
theorem dX7_count_71 : decode cX7_count 71 = .ok (.ireturn, 1) := by decide +kernel
theorem dX7_count_72 : decode cX7_count 72 = .ok (.aload_n 0, 1) := by decide +kernel
theorem dX7_count_73 : decode cX7_count 73 = .ok (.getfield 12, 3) := by decide +kernel
theorem dX7_count_76 : decode cX7_count 76 = .ok (.iconst 2, 1) := by decide +kernel
theorem dX7_count_77 : decode cX7_count 77 = .ok (.invokevirtual 268, 3) := by decide +kernel
theorem dX7_count_80 : decode cX7_count 80 = .ok (.ireturn, 1) := by decide +kernel
theorem dX7_count_81 : decode cX7_count 81 = .ok (.aload_n 0, 1) := by decide +kernel
theorem dX7_count_82 : decode cX7_count 82 = .ok (.getfield 12, 3) := by decide +kernel
theorem dX7_count_85 : decode cX7_count 85 = .ok (.invokevirtual 271, 3) := by decide +kernel
theorem dX7_count_88 : decode cX7_count 88 = .ok (.ireturn, 1) := by decide +kernel
theorem dX7_count_89 : decode cX7_count 89 = .ok (.bipush (-2), 2) := by decide +kernel
theorem dX7_count_91 : decode cX7_count 91 = .ok (.ireturn, 1) := by decide +kernel
theorem dX7_isCase_0 : decode cX7_isCase 0 = .ok (.iload_n 0, 1) := by decide +kernel
theorem dX7_isCase_1 : decode cX7_isCase 1 = .ok (.ifCond .lt 14, 3) := by decide +kernel
theorem dX7_isCase_4 : decode cX7_isCase 4 = .ok (.iload_n 0, 1) := by decide +kernel
theorem dX7_isCase_5 : decode cX7_isCase 5 = .ok (.sipush 224, 3) := by decide +kernel
theorem dX7_isCase_8 : decode cX7_isCase 8 = .ok (.if_icmp .ge 7, 3) := by decide +kernel
theorem dX7_isCase_11 : decode cX7_isCase 11 = .ok (.iconst 1, 1) := by decide +kernel
theorem dX7_isCase_12 : decode cX7_isCase 12 = .ok (.goto 4, 3) := by decide +kernel
theorem dX7_isCase_15 : decode cX7_isCase 15 = .ok (.iconst 0, 1) := by decide +kernel
theorem dX7_isCase_16 : decode cX7_isCase 16 = .ok (.ireturn, 1) := by decide +kernel
theorem dX7_isFee_0 : decode cX7_isFee 0 = .ok (.iload_n 0, 1) := by decide +kernel
theorem dX7_isFee_1 : decode cX7_isFee 1 = .ok (.ifCond .lt 13, 3) := by decide +kernel
theorem dX7_isFee_4 : decode cX7_isFee 4 = .ok (.iload_n 0, 1) := by decide +kernel
theorem dX7_isFee_5 : decode cX7_isFee 5 = .ok (.bipush 99, 2) := by decide +kernel
theorem dX7_isFee_7 : decode cX7_isFee 7 = .ok (.if_icmp .gt 7, 3) := by decide +kernel
theorem dX7_isFee_10 : decode cX7_isFee 10 = .ok (.iconst 1, 1) := by decide +kernel
theorem dX7_isFee_11 : decode cX7_isFee 11 = .ok (.goto 4, 3) := by decide +kernel
theorem dX7_isFee_14 : decode cX7_isFee 14 = .ok (.iconst 0, 1) := by decide +kernel
theorem dX7_isFee_15 : decode cX7_isFee 15 = .ok (.ireturn, 1) := by decide +kernel
theorem dX7_isOfTwo_0 : decode cX7_isOfTwo 0 = .ok (.iload_n 0, 1) := by decide +kernel
theorem dX7_isOfTwo_1 : decode cX7_isOfTwo 1 = .ok (.iconst 3, 1) := by decide +kernel
theorem dX7_isOfTwo_2 : decode cX7_isOfTwo 2 = .ok (.if_icmp .eq 19, 3) := by decide +kernel
theorem dX7_isOfTwo_5 : decode cX7_isOfTwo 5 = .ok (.iload_n 0, 1) := by decide +kernel
theorem dX7_isOfTwo_6 : decode cX7_isOfTwo 6 = .ok (.iconst 4, 1) := by decide +kernel
theorem dX7_isOfTwo_7 : decode cX7_isOfTwo 7 = .ok (.if_icmp .eq 14, 3) := by decide +kernel
theorem dX7_isOfTwo_10 : decode cX7_isOfTwo 10 = .ok (.iload_n 0, 1) := by decide +kernel
theorem dX7_isOfTwo_11 : decode cX7_isOfTwo 11 = .ok (.iconst 5, 1) := by decide +kernel
theorem dX7_isOfTwo_12 : decode cX7_isOfTwo 12 = .ok (.if_icmp .eq 9, 3) := by decide +kernel
theorem dX7_isOfTwo_15 : decode cX7_isOfTwo 15 = .ok (.iload_n 0, 1) := by decide +kernel
theorem dX7_isOfTwo_16 : decode cX7_isOfTwo 16 = .ok (.bipush 7, 2) := by decide +kernel
theorem dX7_isOfTwo_18 : decode cX7_isOfTwo 18 = .ok (.if_icmp .ne 7, 3) := by decide +kernel
theorem dX7_isOfTwo_21 : decode cX7_isOfTwo 21 = .ok (.iconst 1, 1) := by decide +kernel
theorem dX7_isOfTwo_22 : decode cX7_isOfTwo 22 = .ok (.goto 4, 3) := by decide +kernel
theorem dX7_isOfTwo_25 : decode cX7_isOfTwo 25 = .ok (.iconst 0, 1) := by decide +kernel
theorem dX7_isOfTwo_26 : decode cX7_isOfTwo 26 = .ok (.ireturn, 1) := by decide +kernel
theorem dX7_kindAbove_0 : decode cX7_kindAbove 0 = .ok (.iload_n 0, 1) := by decide +kernel
theorem dX7_kindAbove_1 : decode cX7_kindAbove 1 = .ok (.bipush 6, 2) := by decide +kernel
theorem dX7_kindAbove_3 : decode cX7_kindAbove 3 = .ok (.if_icmp .ne 7, 3) := by decide +kernel
theorem dX7_kindAbove_6 : decode cX7_kindAbove 6 = .ok (.iconst 2, 1) := by decide +kernel
theorem dX7_kindAbove_7 : decode cX7_kindAbove 7 = .ok (.goto 14, 3) := by decide +kernel
theorem dX7_kindAbove_10 : decode cX7_kindAbove 10 = .ok (.iload_n 0, 1) := by decide +kernel
theorem dX7_kindAbove_11 : decode cX7_kindAbove 11 = .ok (.bipush 7, 2) := by decide +kernel
theorem dX7_kindAbove_13 : decode cX7_kindAbove 13 = .ok (.if_icmp .ne 7, 3) := by decide +kernel
theorem dX7_kindAbove_16 : decode cX7_kindAbove 16 = .ok (.iconst 3, 1) := by decide +kernel
theorem dX7_kindAbove_17 : decode cX7_kindAbove 17 = .ok (.goto 4, 3) := by decide +kernel
theorem dX7_kindAbove_20 : decode cX7_kindAbove 20 = .ok (.iconst (-1), 1) := by decide +kernel
theorem dX7_kindAbove_21 : decode cX7_kindAbove 21 = .ok (.ireturn, 1) := by decide +kernel
theorem dX7_isFlat_0 : decode cX7_isFlat 0 = .ok (.aload_n 0, 1) := by decide +kernel
theorem dX7_isFlat_1 : decode cX7_isFlat 1 = .ok (.getfield 12, 3) := by decide +kernel
theorem dX7_isFlat_4 : decode cX7_isFlat 4 = .ok (.iload_n 1, 1) := by decide +kernel
theorem dX7_isFlat_5 : decode cX7_isFlat 5 = .ok (.invokevirtual 80, 3) := by decide +kernel
theorem dX7_isFlat_8 : decode cX7_isFlat 8 = .ok (.ifCond .eq 19, 3) := by decide +kernel
theorem dX7_isFlat_11 : decode cX7_isFlat 11 = .ok (.aload_n 0, 1) := by decide +kernel
theorem dX7_isFlat_12 : decode cX7_isFlat 12 = .ok (.getfield 12, 3) := by decide +kernel
theorem dX7_isFlat_15 : decode cX7_isFlat 15 = .ok (.getfield 115, 3) := by decide +kernel
theorem dX7_isFlat_18 : decode cX7_isFlat 18 = .ok (.iload_n 1, 1) := by decide +kernel
theorem dX7_isFlat_19 : decode cX7_isFlat 19 = .ok (.iaload, 1) := by decide +kernel
theorem dX7_isFlat_20 : decode cX7_isFlat 20 = .ok (.ifCond .ne 7, 3) := by decide +kernel
theorem dX7_isFlat_23 : decode cX7_isFlat 23 = .ok (.iconst 1, 1) := by decide +kernel
theorem dX7_isFlat_24 : decode cX7_isFlat 24 = .ok (.goto 4, 3) := by decide +kernel
theorem dX7_isFlat_27 : decode cX7_isFlat 27 = .ok (.iconst 0, 1) := by decide +kernel
theorem dX7_isFlat_28 : decode cX7_isFlat 28 = .ok (.ireturn, 1) := by decide +kernel
theorem dX7_caseOf_0 : decode cX7_caseOf 0 = .ok (.bipush 28, 2) := by decide +kernel
theorem dX7_caseOf_2 : decode cX7_caseOf 2 = .ok (.iload_n 0, 1) := by decide +kernel
theorem dX7_caseOf_3 : decode cX7_caseOf 3 = .ok (.imul, 1) := by decide +kernel
theorem dX7_caseOf_4 : decode cX7_caseOf 4 = .ok (.iconst 4, 1) := by decide +kernel
theorem dX7_caseOf_5 : decode cX7_caseOf 5 = .ok (.iload_n 1, 1) := by decide +kernel
theorem dX7_caseOf_6 : decode cX7_caseOf 6 = .ok (.imul, 1) := by decide +kernel
theorem dX7_caseOf_7 : decode cX7_caseOf 7 = .ok (.iadd, 1) := by decide +kernel
theorem dX7_caseOf_8 : decode cX7_caseOf 8 = .ok (.iload_n 2, 1) := by decide +kernel
theorem dX7_caseOf_9 : decode cX7_caseOf 9 = .ok (.iadd, 1) := by decide +kernel
theorem dX7_caseOf_10 : decode cX7_caseOf 10 = .ok (.ireturn, 1) := by decide +kernel
theorem dX7_ageOf_0 : decode cX7_ageOf 0 = .ok (.iload_n 0, 1) := by decide +kernel
theorem dX7_ageOf_1 : decode cX7_ageOf 1 = .ok (.bipush 28, 2) := by decide +kernel
theorem dX7_ageOf_3 : decode cX7_ageOf 3 = .ok (.idiv, 1) := by decide +kernel
theorem dX7_ageOf_4 : decode cX7_ageOf 4 = .ok (.ireturn, 1) := by decide +kernel
theorem dX7_dayOf_0 : decode cX7_dayOf 0 = .ok (.iload_n 0, 1) := by decide +kernel
theorem dX7_dayOf_1 : decode cX7_dayOf 1 = .ok (.iconst 4, 1) := by decide +kernel
theorem dX7_dayOf_2 : decode cX7_dayOf 2 = .ok (.idiv, 1) := by decide +kernel
theorem dX7_dayOf_3 : decode cX7_dayOf 3 = .ok (.bipush 7, 2) := by decide +kernel
theorem dX7_dayOf_5 : decode cX7_dayOf 5 = .ok (.irem, 1) := by decide +kernel
theorem dX7_dayOf_6 : decode cX7_dayOf 6 = .ok (.ireturn, 1) := by decide +kernel
theorem dX7_hourOf_0 : decode cX7_hourOf 0 = .ok (.iload_n 0, 1) := by decide +kernel
theorem dX7_hourOf_1 : decode cX7_hourOf 1 = .ok (.iconst 4, 1) := by decide +kernel
theorem dX7_hourOf_2 : decode cX7_hourOf 2 = .ok (.irem, 1) := by decide +kernel
theorem dX7_hourOf_3 : decode cX7_hourOf 3 = .ok (.ireturn, 1) := by decide +kernel
theorem dX7_figure_0 : decode cX7_figure 0 = .ok (.iload_n 0, 1) := by decide +kernel
theorem dX7_figure_1 : decode cX7_figure 1 = .ok (.istore_n 2, 1) := by decide +kernel
theorem dX7_figure_2 : decode cX7_figure 2 = .ok (.iload_n 1, 1) := by decide +kernel
theorem dX7_figure_3 : decode cX7_figure 3 = .ok (.istore_n 3, 1) := by decide +kernel
theorem dX7_figure_4 : decode cX7_figure 4 = .ok (.iload_n 3, 1) := by decide +kernel
theorem dX7_figure_5 : decode cX7_figure 5 = .ok (.iconst 5, 1) := by decide +kernel
theorem dX7_figure_6 : decode cX7_figure 6 = .ok (.if_icmp .ge 14, 3) := by decide +kernel
theorem dX7_figure_9 : decode cX7_figure 9 = .ok (.iload_n 2, 1) := by decide +kernel
theorem dX7_figure_10 : decode cX7_figure 10 = .ok (.bipush 10, 2) := by decide +kernel
theorem dX7_figure_12 : decode cX7_figure 12 = .ok (.idiv, 1) := by decide +kernel
theorem dX7_figure_13 : decode cX7_figure 13 = .ok (.istore_n 2, 1) := by decide +kernel
theorem dX7_figure_14 : decode cX7_figure 14 = .ok (.iinc 3 1, 3) := by decide +kernel
theorem dX7_figure_17 : decode cX7_figure 17 = .ok (.goto (-13), 3) := by decide +kernel
theorem dX7_figure_20 : decode cX7_figure 20 = .ok (.iload_n 2, 1) := by decide +kernel
theorem dX7_figure_21 : decode cX7_figure 21 = .ok (.bipush 10, 2) := by decide +kernel
theorem dX7_figure_23 : decode cX7_figure 23 = .ok (.irem, 1) := by decide +kernel
theorem dX7_figure_24 : decode cX7_figure 24 = .ok (.ireturn, 1) := by decide +kernel
theorem dX7_canBe_0 : decode cX7_canBe 0 = .ok (.iload_n 1, 1) := by decide +kernel
theorem dX7_canBe_1 : decode cX7_canBe 1 = .ok (.iconst 2, 1) := by decide +kernel
theorem dX7_canBe_2 : decode cX7_canBe 2 = .ok (.if_icmp .ge 8, 3) := by decide +kernel
theorem dX7_canBe_5 : decode cX7_canBe 5 = .ok (.bipush 7, 2) := by decide +kernel
theorem dX7_canBe_7 : decode cX7_canBe 7 = .ok (.goto 14, 3) := by decide +kernel
theorem dX7_canBe_10 : decode cX7_canBe 10 = .ok (.iload_n 1, 1) := by decide +kernel
theorem dX7_canBe_11 : decode cX7_canBe 11 = .ok (.iconst 4, 1) := by decide +kernel
theorem dX7_canBe_12 : decode cX7_canBe 12 = .ok (.if_icmp .ge 8, 3) := by decide +kernel
theorem dX7_canBe_15 : decode cX7_canBe 15 = .ok (.bipush 6, 2) := by decide +kernel
theorem dX7_canBe_17 : decode cX7_canBe 17 = .ok (.goto 4, 3) := by decide +kernel
theorem dX7_canBe_20 : decode cX7_canBe 20 = .ok (.iconst 3, 1) := by decide +kernel
theorem dX7_canBe_21 : decode cX7_canBe 21 = .ok (.istore_n 3, 1) := by decide +kernel
theorem dX7_canBe_22 : decode cX7_canBe 22 = .ok (.iload_n 1, 1) := by decide +kernel
theorem dX7_canBe_23 : decode cX7_canBe 23 = .ok (.iconst 2, 1) := by decide +kernel
theorem dX7_canBe_24 : decode cX7_canBe 24 = .ok (.irem, 1) := by decide +kernel
theorem dX7_canBe_25 : decode cX7_canBe 25 = .ok (.ifCond .ne 7, 3) := by decide +kernel
theorem dX7_canBe_28 : decode cX7_canBe 28 = .ok (.iconst 0, 1) := by decide +kernel
theorem dX7_canBe_29 : decode cX7_canBe 29 = .ok (.goto 4, 3) := by decide +kernel
theorem dX7_canBe_32 : decode cX7_canBe 32 = .ok (.iload_n 2, 1) := by decide +kernel
theorem dX7_canBe_33 : decode cX7_canBe 33 = .ok (.istore 4, 2) := by decide +kernel
theorem dX7_canBe_35 : decode cX7_canBe 35 = .ok (.iload_n 0, 1) := by decide +kernel
theorem dX7_canBe_36 : decode cX7_canBe 36 = .ok (.iload 4, 2) := by decide +kernel
theorem dX7_canBe_38 : decode cX7_canBe 38 = .ok (.if_icmp .lt 12, 3) := by decide +kernel
theorem dX7_canBe_41 : decode cX7_canBe 41 = .ok (.iload_n 0, 1) := by decide +kernel
theorem dX7_canBe_42 : decode cX7_canBe 42 = .ok (.iload_n 3, 1) := by decide +kernel
theorem dX7_canBe_43 : decode cX7_canBe 43 = .ok (.if_icmp .gt 7, 3) := by decide +kernel
theorem dX7_canBe_46 : decode cX7_canBe 46 = .ok (.iconst 1, 1) := by decide +kernel
theorem dX7_canBe_47 : decode cX7_canBe 47 = .ok (.goto 4, 3) := by decide +kernel
theorem dX7_canBe_50 : decode cX7_canBe 50 = .ok (.iconst 0, 1) := by decide +kernel
theorem dX7_canBe_51 : decode cX7_canBe 51 = .ok (.ireturn, 1) := by decide +kernel
theorem dX7_isBox_0 : decode cX7_isBox 0 = .ok (.iload_n 0, 1) := by decide +kernel
theorem dX7_isBox_1 : decode cX7_isBox 1 = .ok (.ifCond .lt 10, 3) := by decide +kernel
theorem dX7_isBox_4 : decode cX7_isBox 4 = .ok (.iload_n 0, 1) := by decide +kernel
theorem dX7_isBox_5 : decode cX7_isBox 5 = .ok (.ldc_w 274, 3) := by decide +kernel
theorem dX7_isBox_8 : decode cX7_isBox 8 = .ok (.if_icmp .le 5, 3) := by decide +kernel
theorem dX7_isBox_11 : decode cX7_isBox 11 = .ok (.iconst 0, 1) := by decide +kernel
theorem dX7_isBox_12 : decode cX7_isBox 12 = .ok (.ireturn, 1) := by decide +kernel
theorem dX7_isBox_13 : decode cX7_isBox 13 = .ok (.iconst 0, 1) := by decide +kernel
theorem dX7_isBox_14 : decode cX7_isBox 14 = .ok (.istore_n 1, 1) := by decide +kernel
theorem dX7_isBox_15 : decode cX7_isBox 15 = .ok (.iconst 0, 1) := by decide +kernel
theorem dX7_isBox_16 : decode cX7_isBox 16 = .ok (.istore_n 2, 1) := by decide +kernel
theorem dX7_isBox_17 : decode cX7_isBox 17 = .ok (.iload_n 2, 1) := by decide +kernel
theorem dX7_isBox_18 : decode cX7_isBox 18 = .ok (.bipush 6, 2) := by decide +kernel
theorem dX7_isBox_20 : decode cX7_isBox 20 = .ok (.if_icmp .ge 28, 3) := by decide +kernel
theorem dX7_isBox_23 : decode cX7_isBox 23 = .ok (.iload_n 0, 1) := by decide +kernel
theorem dX7_isBox_24 : decode cX7_isBox 24 = .ok (.iload_n 2, 1) := by decide +kernel
theorem dX7_isBox_25 : decode cX7_isBox 25 = .ok (.invokestatic 275, 3) := by decide +kernel
theorem dX7_isBox_28 : decode cX7_isBox 28 = .ok (.istore_n 3, 1) := by decide +kernel
theorem dX7_isBox_29 : decode cX7_isBox 29 = .ok (.iload_n 3, 1) := by decide +kernel
theorem dX7_isBox_30 : decode cX7_isBox 30 = .ok (.iload_n 2, 1) := by decide +kernel
theorem dX7_isBox_31 : decode cX7_isBox 31 = .ok (.iload_n 1, 1) := by decide +kernel
theorem dX7_isBox_32 : decode cX7_isBox 32 = .ok (.invokestatic 278, 3) := by decide +kernel
theorem dX7_isBox_35 : decode cX7_isBox 35 = .ok (.ifCond .ne 5, 3) := by decide +kernel
theorem dX7_isBox_38 : decode cX7_isBox 38 = .ok (.iconst 0, 1) := by decide +kernel
theorem dX7_isBox_39 : decode cX7_isBox 39 = .ok (.ireturn, 1) := by decide +kernel
theorem dX7_isBox_40 : decode cX7_isBox 40 = .ok (.iload_n 3, 1) := by decide +kernel
theorem dX7_isBox_41 : decode cX7_isBox 41 = .ok (.istore_n 1, 1) := by decide +kernel
theorem dX7_isBox_42 : decode cX7_isBox 42 = .ok (.iinc 2 1, 3) := by decide +kernel
theorem dX7_isBox_45 : decode cX7_isBox 45 = .ok (.goto (-28), 3) := by decide +kernel
theorem dX7_isBox_48 : decode cX7_isBox 48 = .ok (.iconst 1, 1) := by decide +kernel
theorem dX7_isBox_49 : decode cX7_isBox 49 = .ok (.ireturn, 1) := by decide +kernel
theorem dX7_isInBox_0 : decode cX7_isInBox 0 = .ok (.iload_n 0, 1) := by decide +kernel
theorem dX7_isInBox_1 : decode cX7_isInBox 1 = .ok (.invokestatic 282, 3) := by decide +kernel
theorem dX7_isInBox_4 : decode cX7_isInBox 4 = .ok (.istore_n 2, 1) := by decide +kernel
theorem dX7_isInBox_5 : decode cX7_isInBox 5 = .ok (.iload_n 0, 1) := by decide +kernel
theorem dX7_isInBox_6 : decode cX7_isInBox 6 = .ok (.invokestatic 285, 3) := by decide +kernel
theorem dX7_isInBox_9 : decode cX7_isInBox 9 = .ok (.istore_n 3, 1) := by decide +kernel
theorem dX7_isInBox_10 : decode cX7_isInBox 10 = .ok (.iload_n 0, 1) := by decide +kernel
theorem dX7_isInBox_11 : decode cX7_isInBox 11 = .ok (.invokestatic 288, 3) := by decide +kernel
theorem dX7_isInBox_14 : decode cX7_isInBox 14 = .ok (.istore 4, 2) := by decide +kernel
theorem dX7_isInBox_16 : decode cX7_isInBox 16 = .ok (.iload_n 2, 1) := by decide +kernel
theorem dX7_isInBox_17 : decode cX7_isInBox 17 = .ok (.iload_n 1, 1) := by decide +kernel
theorem dX7_isInBox_18 : decode cX7_isInBox 18 = .ok (.ldc_w 291, 3) := by decide +kernel
theorem dX7_isInBox_21 : decode cX7_isInBox 21 = .ok (.idiv, 1) := by decide +kernel
theorem dX7_isInBox_22 : decode cX7_isInBox 22 = .ok (.if_icmp .lt 63, 3) := by decide +kernel
theorem dX7_isInBox_25 : decode cX7_isInBox 25 = .ok (.iload_n 2, 1) := by decide +kernel
theorem dX7_isInBox_26 : decode cX7_isInBox 26 = .ok (.iload_n 1, 1) := by decide +kernel
theorem dX7_isInBox_27 : decode cX7_isInBox 27 = .ok (.sipush 10000, 3) := by decide +kernel
theorem dX7_isInBox_30 : decode cX7_isInBox 30 = .ok (.idiv, 1) := by decide +kernel
theorem dX7_isInBox_31 : decode cX7_isInBox 31 = .ok (.bipush 10, 2) := by decide +kernel
theorem dX7_isInBox_33 : decode cX7_isInBox 33 = .ok (.irem, 1) := by decide +kernel
theorem dX7_isInBox_34 : decode cX7_isInBox 34 = .ok (.if_icmp .gt 51, 3) := by decide +kernel
theorem dX7_isInBox_37 : decode cX7_isInBox 37 = .ok (.iload_n 3, 1) := by decide +kernel
theorem dX7_isInBox_38 : decode cX7_isInBox 38 = .ok (.iload_n 1, 1) := by decide +kernel
