theorem dX7_isInBox_39 : decode cX7_isInBox 39 = .ok (.sipush 1000, 3) := by decide +kernel
theorem dX7_isInBox_42 : decode cX7_isInBox 42 = .ok (.idiv, 1) := by decide +kernel
theorem dX7_isInBox_43 : decode cX7_isInBox 43 = .ok (.bipush 10, 2) := by decide +kernel
theorem dX7_isInBox_45 : decode cX7_isInBox 45 = .ok (.irem, 1) := by decide +kernel
theorem dX7_isInBox_46 : decode cX7_isInBox 46 = .ok (.if_icmp .lt 39, 3) := by decide +kernel
theorem dX7_isInBox_49 : decode cX7_isInBox 49 = .ok (.iload_n 3, 1) := by decide +kernel
theorem dX7_isInBox_50 : decode cX7_isInBox 50 = .ok (.iload_n 1, 1) := by decide +kernel
theorem dX7_isInBox_51 : decode cX7_isInBox 51 = .ok (.bipush 100, 2) := by decide +kernel
theorem dX7_isInBox_53 : decode cX7_isInBox 53 = .ok (.idiv, 1) := by decide +kernel
theorem dX7_isInBox_54 : decode cX7_isInBox 54 = .ok (.bipush 10, 2) := by decide +kernel
theorem dX7_isInBox_56 : decode cX7_isInBox 56 = .ok (.irem, 1) := by decide +kernel
theorem dX7_isInBox_57 : decode cX7_isInBox 57 = .ok (.if_icmp .gt 28, 3) := by decide +kernel
theorem dX7_isInBox_60 : decode cX7_isInBox 60 = .ok (.iload 4, 2) := by decide +kernel
theorem dX7_isInBox_62 : decode cX7_isInBox 62 = .ok (.iload_n 1, 1) := by decide +kernel
theorem dX7_isInBox_63 : decode cX7_isInBox 63 = .ok (.bipush 10, 2) := by decide +kernel
theorem dX7_isInBox_65 : decode cX7_isInBox 65 = .ok (.idiv, 1) := by decide +kernel
theorem dX7_isInBox_66 : decode cX7_isInBox 66 = .ok (.bipush 10, 2) := by decide +kernel
theorem dX7_isInBox_68 : decode cX7_isInBox 68 = .ok (.irem, 1) := by decide +kernel
theorem dX7_isInBox_69 : decode cX7_isInBox 69 = .ok (.if_icmp .lt 16, 3) := by decide +kernel
theorem dX7_isInBox_72 : decode cX7_isInBox 72 = .ok (.iload 4, 2) := by decide +kernel
theorem dX7_isInBox_74 : decode cX7_isInBox 74 = .ok (.iload_n 1, 1) := by decide +kernel
theorem dX7_isInBox_75 : decode cX7_isInBox 75 = .ok (.bipush 10, 2) := by decide +kernel
theorem dX7_isInBox_77 : decode cX7_isInBox 77 = .ok (.irem, 1) := by decide +kernel
theorem dX7_isInBox_78 : decode cX7_isInBox 78 = .ok (.if_icmp .gt 7, 3) := by decide +kernel
theorem dX7_isInBox_81 : decode cX7_isInBox 81 = .ok (.iconst 1, 1) := by decide +kernel
theorem dX7_isInBox_82 : decode cX7_isInBox 82 = .ok (.goto 4, 3) := by decide +kernel
theorem dX7_isInBox_85 : decode cX7_isInBox 85 = .ok (.iconst 0, 1) := by decide +kernel
theorem dX7_isInBox_86 : decode cX7_isInBox 86 = .ok (.ireturn, 1) := by decide +kernel
theorem dX7_sharedSide_0 : decode cX7_sharedSide 0 = .ok (.iload_n 0, 1) := by decide +kernel
theorem dX7_sharedSide_1 : decode cX7_sharedSide 1 = .ok (.iload_n 2, 1) := by decide +kernel
theorem dX7_sharedSide_2 : decode cX7_sharedSide 2 = .ok (.invokestatic 275, 3) := by decide +kernel
theorem dX7_sharedSide_5 : decode cX7_sharedSide 5 = .ok (.iload_n 1, 1) := by decide +kernel
theorem dX7_sharedSide_6 : decode cX7_sharedSide 6 = .ok (.iload_n 2, 1) := by decide +kernel
theorem dX7_sharedSide_7 : decode cX7_sharedSide 7 = .ok (.invokestatic 275, 3) := by decide +kernel
theorem dX7_sharedSide_10 : decode cX7_sharedSide 10 = .ok (.invokestatic 228, 3) := by decide +kernel
theorem dX7_sharedSide_13 : decode cX7_sharedSide 13 = .ok (.istore_n 3, 1) := by decide +kernel
theorem dX7_sharedSide_14 : decode cX7_sharedSide 14 = .ok (.iload_n 0, 1) := by decide +kernel
theorem dX7_sharedSide_15 : decode cX7_sharedSide 15 = .ok (.iload_n 2, 1) := by decide +kernel
theorem dX7_sharedSide_16 : decode cX7_sharedSide 16 = .ok (.iconst 1, 1) := by decide +kernel
theorem dX7_sharedSide_17 : decode cX7_sharedSide 17 = .ok (.iadd, 1) := by decide +kernel
theorem dX7_sharedSide_18 : decode cX7_sharedSide 18 = .ok (.invokestatic 275, 3) := by decide +kernel
theorem dX7_sharedSide_21 : decode cX7_sharedSide 21 = .ok (.iload_n 1, 1) := by decide +kernel
theorem dX7_sharedSide_22 : decode cX7_sharedSide 22 = .ok (.iload_n 2, 1) := by decide +kernel
theorem dX7_sharedSide_23 : decode cX7_sharedSide 23 = .ok (.iconst 1, 1) := by decide +kernel
theorem dX7_sharedSide_24 : decode cX7_sharedSide 24 = .ok (.iadd, 1) := by decide +kernel
theorem dX7_sharedSide_25 : decode cX7_sharedSide 25 = .ok (.invokestatic 275, 3) := by decide +kernel
theorem dX7_sharedSide_28 : decode cX7_sharedSide 28 = .ok (.invokestatic 292, 3) := by decide +kernel
theorem dX7_sharedSide_31 : decode cX7_sharedSide 31 = .ok (.istore 4, 2) := by decide +kernel
theorem dX7_sharedSide_33 : decode cX7_sharedSide 33 = .ok (.iconst 0, 1) := by decide +kernel
theorem dX7_sharedSide_34 : decode cX7_sharedSide 34 = .ok (.iload 4, 2) := by decide +kernel
theorem dX7_sharedSide_36 : decode cX7_sharedSide 36 = .ok (.iload_n 3, 1) := by decide +kernel
theorem dX7_sharedSide_37 : decode cX7_sharedSide 37 = .ok (.isub, 1) := by decide +kernel
theorem dX7_sharedSide_38 : decode cX7_sharedSide 38 = .ok (.iconst 1, 1) := by decide +kernel
theorem dX7_sharedSide_39 : decode cX7_sharedSide 39 = .ok (.iadd, 1) := by decide +kernel
theorem dX7_sharedSide_40 : decode cX7_sharedSide 40 = .ok (.invokestatic 228, 3) := by decide +kernel
theorem dX7_sharedSide_43 : decode cX7_sharedSide 43 = .ok (.ireturn, 1) := by decide +kernel
theorem dX7_earned_0 : decode cX7_earned 0 = .ok (.aload_n 0, 1) := by decide +kernel
theorem dX7_earned_1 : decode cX7_earned 1 = .ok (.getfield 40, 3) := by decide +kernel
theorem dX7_earned_4 : decode cX7_earned 4 = .ok (.iload_n 1, 1) := by decide +kernel
theorem dX7_earned_5 : decode cX7_earned 5 = .ok (.invokevirtual 152, 3) := by decide +kernel
theorem dX7_earned_8 : decode cX7_earned 8 = .ok (.iconst 0, 1) := by decide +kernel
theorem dX7_earned_9 : decode cX7_earned 9 = .ok (.istore_n 2, 1) := by decide +kernel
theorem dX7_earned_10 : decode cX7_earned 10 = .ok (.iconst 0, 1) := by decide +kernel
theorem dX7_earned_11 : decode cX7_earned 11 = .ok (.istore_n 3, 1) := by decide +kernel
theorem dX7_earned_12 : decode cX7_earned 12 = .ok (.iload_n 3, 1) := by decide +kernel
theorem dX7_earned_13 : decode cX7_earned 13 = .ok (.sipush 224, 3) := by decide +kernel
theorem dX7_earned_16 : decode cX7_earned 16 = .ok (.if_icmp .ge 24, 3) := by decide +kernel
theorem dX7_earned_19 : decode cX7_earned 19 = .ok (.iload_n 2, 1) := by decide +kernel
theorem dX7_earned_20 : decode cX7_earned 20 = .ok (.iconst 0, 1) := by decide +kernel
theorem dX7_earned_21 : decode cX7_earned 21 = .ok (.aload_n 0, 1) := by decide +kernel
theorem dX7_earned_22 : decode cX7_earned 22 = .ok (.getfield 40, 3) := by decide +kernel
theorem dX7_earned_25 : decode cX7_earned 25 = .ok (.iload_n 3, 1) := by decide +kernel
theorem dX7_earned_26 : decode cX7_earned 26 = .ok (.invokevirtual 155, 3) := by decide +kernel
theorem dX7_earned_29 : decode cX7_earned 29 = .ok (.invokestatic 228, 3) := by decide +kernel
theorem dX7_earned_32 : decode cX7_earned 32 = .ok (.iadd, 1) := by decide +kernel
theorem dX7_earned_33 : decode cX7_earned 33 = .ok (.istore_n 2, 1) := by decide +kernel
theorem dX7_earned_34 : decode cX7_earned 34 = .ok (.iinc 3 1, 3) := by decide +kernel
theorem dX7_earned_37 : decode cX7_earned 37 = .ok (.goto (-25), 3) := by decide +kernel
theorem dX7_earned_40 : decode cX7_earned 40 = .ok (.iload_n 2, 1) := by decide +kernel
theorem dX7_earned_41 : decode cX7_earned 41 = .ok (.ireturn, 1) := by decide +kernel
theorem dX7_covered_0 : decode cX7_covered 0 = .ok (.aload_n 0, 1) := by decide +kernel
theorem dX7_covered_1 : decode cX7_covered 1 = .ok (.getfield 40, 3) := by decide +kernel
theorem dX7_covered_4 : decode cX7_covered 4 = .ok (.iload_n 1, 1) := by decide +kernel
theorem dX7_covered_5 : decode cX7_covered 5 = .ok (.invokevirtual 152, 3) := by decide +kernel
theorem dX7_covered_8 : decode cX7_covered 8 = .ok (.iconst 0, 1) := by decide +kernel
theorem dX7_covered_9 : decode cX7_covered 9 = .ok (.istore_n 2, 1) := by decide +kernel
theorem dX7_covered_10 : decode cX7_covered 10 = .ok (.iconst 0, 1) := by decide +kernel
theorem dX7_covered_11 : decode cX7_covered 11 = .ok (.istore_n 3, 1) := by decide +kernel
theorem dX7_covered_12 : decode cX7_covered 12 = .ok (.iload_n 3, 1) := by decide +kernel
theorem dX7_covered_13 : decode cX7_covered 13 = .ok (.sipush 224, 3) := by decide +kernel
theorem dX7_covered_16 : decode cX7_covered 16 = .ok (.if_icmp .ge 25, 3) := by decide +kernel
theorem dX7_covered_19 : decode cX7_covered 19 = .ok (.aload_n 0, 1) := by decide +kernel
theorem dX7_covered_20 : decode cX7_covered 20 = .ok (.getfield 40, 3) := by decide +kernel
theorem dX7_covered_23 : decode cX7_covered 23 = .ok (.iload_n 3, 1) := by decide +kernel
theorem dX7_covered_24 : decode cX7_covered 24 = .ok (.invokevirtual 155, 3) := by decide +kernel
theorem dX7_covered_27 : decode cX7_covered 27 = .ok (.bipush (-5), 2) := by decide +kernel
theorem dX7_covered_29 : decode cX7_covered 29 = .ok (.if_icmp .eq 6, 3) := by decide +kernel
theorem dX7_covered_32 : decode cX7_covered 32 = .ok (.iinc 2 1, 3) := by decide +kernel
theorem dX7_covered_35 : decode cX7_covered 35 = .ok (.iinc 3 1, 3) := by decide +kernel
theorem dX7_covered_38 : decode cX7_covered 38 = .ok (.goto (-26), 3) := by decide +kernel
theorem dX7_covered_41 : decode cX7_covered 41 = .ok (.iload_n 2, 1) := by decide +kernel
theorem dX7_covered_42 : decode cX7_covered 42 = .ok (.ireturn, 1) := by decide +kernel
theorem dX7_inLowestTerms_0 : decode cX7_inLowestTerms 0 = .ok (.sipush 224, 3) := by decide +kernel
theorem dX7_inLowestTerms_3 : decode cX7_inLowestTerms 3 = .ok (.istore_n 2, 1) := by decide +kernel
theorem dX7_inLowestTerms_4 : decode cX7_inLowestTerms 4 = .ok (.iload_n 2, 1) := by decide +kernel
theorem dX7_inLowestTerms_5 : decode cX7_inLowestTerms 5 = .ok (.iconst 1, 1) := by decide +kernel
theorem dX7_inLowestTerms_6 : decode cX7_inLowestTerms 6 = .ok (.if_icmp .le 27, 3) := by decide +kernel
theorem dX7_inLowestTerms_9 : decode cX7_inLowestTerms 9 = .ok (.iload_n 1, 1) := by decide +kernel
theorem dX7_inLowestTerms_10 : decode cX7_inLowestTerms 10 = .ok (.iload_n 2, 1) := by decide +kernel
theorem dX7_inLowestTerms_11 : decode cX7_inLowestTerms 11 = .ok (.irem, 1) := by decide +kernel
theorem dX7_inLowestTerms_12 : decode cX7_inLowestTerms 12 = .ok (.ifCond .ne 15, 3) := by decide +kernel
theorem dX7_inLowestTerms_15 : decode cX7_inLowestTerms 15 = .ok (.sipush 224, 3) := by decide +kernel
theorem dX7_inLowestTerms_18 : decode cX7_inLowestTerms 18 = .ok (.iload_n 2, 1) := by decide +kernel
theorem dX7_inLowestTerms_19 : decode cX7_inLowestTerms 19 = .ok (.irem, 1) := by decide +kernel
theorem dX7_inLowestTerms_20 : decode cX7_inLowestTerms 20 = .ok (.ifCond .ne 7, 3) := by decide +kernel
theorem dX7_inLowestTerms_23 : decode cX7_inLowestTerms 23 = .ok (.iload_n 0, 1) := by decide +kernel
theorem dX7_inLowestTerms_24 : decode cX7_inLowestTerms 24 = .ok (.iload_n 2, 1) := by decide +kernel
theorem dX7_inLowestTerms_25 : decode cX7_inLowestTerms 25 = .ok (.idiv, 1) := by decide +kernel
theorem dX7_inLowestTerms_26 : decode cX7_inLowestTerms 26 = .ok (.ireturn, 1) := by decide +kernel
theorem dX7_inLowestTerms_27 : decode cX7_inLowestTerms 27 = .ok (.iinc 2 (-1), 3) := by decide +kernel
theorem dX7_inLowestTerms_30 : decode cX7_inLowestTerms 30 = .ok (.goto (-26), 3) := by decide +kernel
theorem dX7_inLowestTerms_33 : decode cX7_inLowestTerms 33 = .ok (.iload_n 0, 1) := by decide +kernel
theorem dX7_inLowestTerms_34 : decode cX7_inLowestTerms 34 = .ok (.ireturn, 1) := by decide +kernel
theorem dX7_isIdle_0 : decode cX7_isIdle 0 = .ok (.iconst 0, 1) := by decide +kernel
theorem dX7_isIdle_1 : decode cX7_isIdle 1 = .ok (.istore_n 2, 1) := by decide +kernel
theorem dX7_isIdle_2 : decode cX7_isIdle 2 = .ok (.iload_n 2, 1) := by decide +kernel
theorem dX7_isIdle_3 : decode cX7_isIdle 3 = .ok (.sipush 224, 3) := by decide +kernel
theorem dX7_isIdle_6 : decode cX7_isIdle 6 = .ok (.if_icmp .ge 48, 3) := by decide +kernel
theorem dX7_isIdle_9 : decode cX7_isIdle 9 = .ok (.aload_n 0, 1) := by decide +kernel
theorem dX7_isIdle_10 : decode cX7_isIdle 10 = .ok (.getfield 40, 3) := by decide +kernel
theorem dX7_isIdle_13 : decode cX7_isIdle 13 = .ok (.iconst (-1), 1) := by decide +kernel
theorem dX7_isIdle_14 : decode cX7_isIdle 14 = .ok (.invokevirtual 295, 3) := by decide +kernel
theorem dX7_isIdle_17 : decode cX7_isIdle 17 = .ok (.aload_n 0, 1) := by decide +kernel
theorem dX7_isIdle_18 : decode cX7_isIdle 18 = .ok (.getfield 40, 3) := by decide +kernel
theorem dX7_isIdle_21 : decode cX7_isIdle 21 = .ok (.iload_n 2, 1) := by decide +kernel
theorem dX7_isIdle_22 : decode cX7_isIdle 22 = .ok (.invokevirtual 155, 3) := by decide +kernel
theorem dX7_isIdle_25 : decode cX7_isIdle 25 = .ok (.istore_n 3, 1) := by decide +kernel
theorem dX7_isIdle_26 : decode cX7_isIdle 26 = .ok (.aload_n 0, 1) := by decide +kernel
theorem dX7_isIdle_27 : decode cX7_isIdle 27 = .ok (.getfield 40, 3) := by decide +kernel
theorem dX7_isIdle_30 : decode cX7_isIdle 30 = .ok (.iload_n 1, 1) := by decide +kernel
theorem dX7_isIdle_31 : decode cX7_isIdle 31 = .ok (.invokevirtual 295, 3) := by decide +kernel
theorem dX7_isIdle_34 : decode cX7_isIdle 34 = .ok (.aload_n 0, 1) := by decide +kernel
theorem dX7_isIdle_35 : decode cX7_isIdle 35 = .ok (.getfield 40, 3) := by decide +kernel
theorem dX7_isIdle_38 : decode cX7_isIdle 38 = .ok (.iload_n 2, 1) := by decide +kernel
theorem dX7_isIdle_39 : decode cX7_isIdle 39 = .ok (.invokevirtual 155, 3) := by decide +kernel
theorem dX7_isIdle_42 : decode cX7_isIdle 42 = .ok (.iload_n 3, 1) := by decide +kernel
theorem dX7_isIdle_43 : decode cX7_isIdle 43 = .ok (.if_icmp .eq 5, 3) := by decide +kernel
theorem dX7_isIdle_46 : decode cX7_isIdle 46 = .ok (.iconst 0, 1) := by decide +kernel
theorem dX7_isIdle_47 : decode cX7_isIdle 47 = .ok (.ireturn, 1) := by decide +kernel
theorem dX7_isIdle_48 : decode cX7_isIdle 48 = .ok (.iinc 2 1, 3) := by decide +kernel
theorem dX7_isIdle_51 : decode cX7_isIdle 51 = .ok (.goto (-49), 3) := by decide +kernel
theorem dX7_isIdle_54 : decode cX7_isIdle 54 = .ok (.iconst 1, 1) := by decide +kernel
theorem dX7_isIdle_55 : decode cX7_isIdle 55 = .ok (.ireturn, 1) := by decide +kernel
theorem dX7_saysWhatWasPaid_0 : decode cX7_saysWhatWasPaid 0 = .ok (.iconst 0, 1) := by decide +kernel
theorem dX7_saysWhatWasPaid_1 : decode cX7_saysWhatWasPaid 1 = .ok (.istore_n 1, 1) := by decide +kernel
theorem dX7_saysWhatWasPaid_2 : decode cX7_saysWhatWasPaid 2 = .ok (.iload_n 1, 1) := by decide +kernel
theorem dX7_saysWhatWasPaid_3 : decode cX7_saysWhatWasPaid 3 = .ok (.aload_n 0, 1) := by decide +kernel
theorem dX7_saysWhatWasPaid_4 : decode cX7_saysWhatWasPaid 4 = .ok (.getfield 21, 3) := by decide +kernel
theorem dX7_saysWhatWasPaid_7 : decode cX7_saysWhatWasPaid 7 = .ok (.getfield 266, 3) := by decide +kernel
theorem dX7_saysWhatWasPaid_10 : decode cX7_saysWhatWasPaid 10 = .ok (.if_icmp .ge 39, 3) := by decide +kernel
theorem dX7_saysWhatWasPaid_13 : decode cX7_saysWhatWasPaid 13 = .ok (.aload_n 0, 1) := by decide +kernel
theorem dX7_saysWhatWasPaid_14 : decode cX7_saysWhatWasPaid 14 = .ok (.getfield 40, 3) := by decide +kernel
theorem dX7_saysWhatWasPaid_17 : decode cX7_saysWhatWasPaid 17 = .ok (.aload_n 0, 1) := by decide +kernel
theorem dX7_saysWhatWasPaid_18 : decode cX7_saysWhatWasPaid 18 = .ok (.getfield 21, 3) := by decide +kernel
theorem dX7_saysWhatWasPaid_21 : decode cX7_saysWhatWasPaid 21 = .ok (.getfield 298, 3) := by decide +kernel
theorem dX7_saysWhatWasPaid_24 : decode cX7_saysWhatWasPaid 24 = .ok (.iload_n 1, 1) := by decide +kernel
theorem dX7_saysWhatWasPaid_25 : decode cX7_saysWhatWasPaid 25 = .ok (.iaload, 1) := by decide +kernel
theorem dX7_saysWhatWasPaid_26 : decode cX7_saysWhatWasPaid 26 = .ok (.invokevirtual 155, 3) := by decide +kernel
theorem dX7_saysWhatWasPaid_29 : decode cX7_saysWhatWasPaid 29 = .ok (.aload_n 0, 1) := by decide +kernel
theorem dX7_saysWhatWasPaid_30 : decode cX7_saysWhatWasPaid 30 = .ok (.getfield 21, 3) := by decide +kernel
theorem dX7_saysWhatWasPaid_33 : decode cX7_saysWhatWasPaid 33 = .ok (.getfield 299, 3) := by decide +kernel
theorem dX7_saysWhatWasPaid_36 : decode cX7_saysWhatWasPaid 36 = .ok (.iload_n 1, 1) := by decide +kernel
theorem dX7_saysWhatWasPaid_37 : decode cX7_saysWhatWasPaid 37 = .ok (.iaload, 1) := by decide +kernel
theorem dX7_saysWhatWasPaid_38 : decode cX7_saysWhatWasPaid 38 = .ok (.if_icmp .eq 5, 3) := by decide +kernel
theorem dX7_saysWhatWasPaid_41 : decode cX7_saysWhatWasPaid 41 = .ok (.iconst 0, 1) := by decide +kernel
theorem dX7_saysWhatWasPaid_42 : decode cX7_saysWhatWasPaid 42 = .ok (.ireturn, 1) := by decide +kernel
theorem dX7_saysWhatWasPaid_43 : decode cX7_saysWhatWasPaid 43 = .ok (.iinc 1 1, 3) := by decide +kernel
theorem dX7_saysWhatWasPaid_46 : decode cX7_saysWhatWasPaid 46 = .ok (.goto (-44), 3) := by decide +kernel
theorem dX7_saysWhatWasPaid_49 : decode cX7_saysWhatWasPaid 49 = .ok (.iconst 1, 1) := by decide +kernel
theorem dX7_saysWhatWasPaid_50 : decode cX7_saysWhatWasPaid 50 = .ok (.ireturn, 1) := by decide +kernel
theorem dX7_boxFees_0 : decode cX7_boxFees 0 = .ok (.aload_n 0, 1) := by decide +kernel
theorem dX7_boxFees_1 : decode cX7_boxFees 1 = .ok (.getfield 40, 3) := by decide +kernel
theorem dX7_boxFees_4 : decode cX7_boxFees 4 = .ok (.iload_n 1, 1) := by decide +kernel
theorem dX7_boxFees_5 : decode cX7_boxFees 5 = .ok (.invokevirtual 152, 3) := by decide +kernel
theorem dX7_boxFees_8 : decode cX7_boxFees 8 = .ok (.iconst 0, 1) := by decide +kernel
theorem dX7_boxFees_9 : decode cX7_boxFees 9 = .ok (.istore_n 2, 1) := by decide +kernel
theorem dX7_boxFees_10 : decode cX7_boxFees 10 = .ok (.iload_n 2, 1) := by decide +kernel
theorem dX7_boxFees_11 : decode cX7_boxFees 11 = .ok (.sipush 224, 3) := by decide +kernel
theorem dX7_boxFees_14 : decode cX7_boxFees 14 = .ok (.if_icmp .ge 38, 3) := by decide +kernel
theorem dX7_boxFees_17 : decode cX7_boxFees 17 = .ok (.aload_n 0, 1) := by decide +kernel
theorem dX7_boxFees_18 : decode cX7_boxFees 18 = .ok (.getfield 40, 3) := by decide +kernel
theorem dX7_boxFees_21 : decode cX7_boxFees 21 = .ok (.iload_n 2, 1) := by decide +kernel
theorem dX7_boxFees_22 : decode cX7_boxFees 22 = .ok (.invokevirtual 155, 3) := by decide +kernel
theorem dX7_boxFees_25 : decode cX7_boxFees 25 = .ok (.istore_n 3, 1) := by decide +kernel
theorem dX7_boxFees_26 : decode cX7_boxFees 26 = .ok (.aload_n 0, 1) := by decide +kernel
theorem dX7_boxFees_27 : decode cX7_boxFees 27 = .ok (.getfield 47, 3) := by decide +kernel
theorem dX7_boxFees_30 : decode cX7_boxFees 30 = .ok (.getfield 300, 3) := by decide +kernel
theorem dX7_boxFees_33 : decode cX7_boxFees 33 = .ok (.iload_n 2, 1) := by decide +kernel
theorem dX7_boxFees_34 : decode cX7_boxFees 34 = .ok (.iload_n 3, 1) := by decide +kernel
theorem dX7_boxFees_35 : decode cX7_boxFees 35 = .ok (.bipush (-5), 2) := by decide +kernel
theorem dX7_boxFees_37 : decode cX7_boxFees 37 = .ok (.if_icmp .ne 7, 3) := by decide +kernel
theorem dX7_boxFees_40 : decode cX7_boxFees 40 = .ok (.iconst (-1), 1) := by decide +kernel
theorem dX7_boxFees_41 : decode cX7_boxFees 41 = .ok (.goto 4, 3) := by decide +kernel
theorem dX7_boxFees_44 : decode cX7_boxFees 44 = .ok (.iload_n 3, 1) := by decide +kernel
theorem dX7_boxFees_45 : decode cX7_boxFees 45 = .ok (.iastore, 1) := by decide +kernel
theorem dX7_boxFees_46 : decode cX7_boxFees 46 = .ok (.iinc 2 1, 3) := by decide +kernel
theorem dX7_boxFees_49 : decode cX7_boxFees 49 = .ok (.goto (-39), 3) := by decide +kernel
theorem dX7_boxFees_52 : decode cX7_boxFees 52 = .ok (.aload_n 0, 1) := by decide +kernel
theorem dX7_boxFees_53 : decode cX7_boxFees 53 = .ok (.getfield 47, 3) := by decide +kernel
theorem dX7_boxFees_56 : decode cX7_boxFees 56 = .ok (.invokevirtual 303, 3) := by decide +kernel
theorem dX7_boxFees_59 : decode cX7_boxFees 59 = .ok (.return_, 1) := by decide +kernel
theorem dX7_boxGaps_0 : decode cX7_boxGaps 0 = .ok (.aload_n 0, 1) := by decide +kernel
theorem dX7_boxGaps_1 : decode cX7_boxGaps 1 = .ok (.getfield 40, 3) := by decide +kernel
theorem dX7_boxGaps_4 : decode cX7_boxGaps 4 = .ok (.iload_n 1, 1) := by decide +kernel
theorem dX7_boxGaps_5 : decode cX7_boxGaps 5 = .ok (.invokevirtual 152, 3) := by decide +kernel
theorem dX7_boxGaps_8 : decode cX7_boxGaps 8 = .ok (.iconst 0, 1) := by decide +kernel
theorem dX7_boxGaps_9 : decode cX7_boxGaps 9 = .ok (.istore_n 2, 1) := by decide +kernel
theorem dX7_boxGaps_10 : decode cX7_boxGaps 10 = .ok (.iload_n 2, 1) := by decide +kernel
theorem dX7_boxGaps_11 : decode cX7_boxGaps 11 = .ok (.sipush 224, 3) := by decide +kernel
theorem dX7_boxGaps_14 : decode cX7_boxGaps 14 = .ok (.if_icmp .ge 36, 3) := by decide +kernel
theorem dX7_boxGaps_17 : decode cX7_boxGaps 17 = .ok (.aload_n 0, 1) := by decide +kernel
theorem dX7_boxGaps_18 : decode cX7_boxGaps 18 = .ok (.getfield 47, 3) := by decide +kernel
theorem dX7_boxGaps_21 : decode cX7_boxGaps 21 = .ok (.getfield 300, 3) := by decide +kernel
theorem dX7_boxGaps_24 : decode cX7_boxGaps 24 = .ok (.iload_n 2, 1) := by decide +kernel
theorem dX7_boxGaps_25 : decode cX7_boxGaps 25 = .ok (.aload_n 0, 1) := by decide +kernel
theorem dX7_boxGaps_26 : decode cX7_boxGaps 26 = .ok (.getfield 40, 3) := by decide +kernel
theorem dX7_boxGaps_29 : decode cX7_boxGaps 29 = .ok (.iload_n 2, 1) := by decide +kernel
theorem dX7_boxGaps_30 : decode cX7_boxGaps 30 = .ok (.invokevirtual 155, 3) := by decide +kernel
theorem dX7_boxGaps_33 : decode cX7_boxGaps 33 = .ok (.bipush (-5), 2) := by decide +kernel
theorem dX7_boxGaps_35 : decode cX7_boxGaps 35 = .ok (.if_icmp .ne 7, 3) := by decide +kernel
theorem dX7_boxGaps_38 : decode cX7_boxGaps 38 = .ok (.iconst 0, 1) := by decide +kernel
theorem dX7_boxGaps_39 : decode cX7_boxGaps 39 = .ok (.goto 4, 3) := by decide +kernel
theorem dX7_boxGaps_42 : decode cX7_boxGaps 42 = .ok (.iconst (-1), 1) := by decide +kernel
theorem dX7_boxGaps_43 : decode cX7_boxGaps 43 = .ok (.iastore, 1) := by decide +kernel
theorem dX7_boxGaps_44 : decode cX7_boxGaps 44 = .ok (.iinc 2 1, 3) := by decide +kernel
theorem dX7_boxGaps_47 : decode cX7_boxGaps 47 = .ok (.goto (-37), 3) := by decide +kernel
theorem dX7_boxGaps_50 : decode cX7_boxGaps 50 = .ok (.aload_n 0, 1) := by decide +kernel
theorem dX7_boxGaps_51 : decode cX7_boxGaps 51 = .ok (.getfield 47, 3) := by decide +kernel
theorem dX7_boxGaps_54 : decode cX7_boxGaps 54 = .ok (.invokevirtual 303, 3) := by decide +kernel
theorem dX7_boxGaps_57 : decode cX7_boxGaps 57 = .ok (.return_, 1) := by decide +kernel
theorem dX7_boxDiffs_0 : decode cX7_boxDiffs 0 = .ok (.aload_n 0, 1) := by decide +kernel
theorem dX7_boxDiffs_1 : decode cX7_boxDiffs 1 = .ok (.getfield 40, 3) := by decide +kernel
theorem dX7_boxDiffs_4 : decode cX7_boxDiffs 4 = .ok (.iload_n 1, 1) := by decide +kernel
theorem dX7_boxDiffs_5 : decode cX7_boxDiffs 5 = .ok (.invokevirtual 152, 3) := by decide +kernel
theorem dX7_boxDiffs_8 : decode cX7_boxDiffs 8 = .ok (.iconst 0, 1) := by decide +kernel
theorem dX7_boxDiffs_9 : decode cX7_boxDiffs 9 = .ok (.istore_n 3, 1) := by decide +kernel
theorem dX7_boxDiffs_10 : decode cX7_boxDiffs 10 = .ok (.iload_n 3, 1) := by decide +kernel
theorem dX7_boxDiffs_11 : decode cX7_boxDiffs 11 = .ok (.sipush 224, 3) := by decide +kernel
theorem dX7_boxDiffs_14 : decode cX7_boxDiffs 14 = .ok (.if_icmp .ge 26, 3) := by decide +kernel
theorem dX7_boxDiffs_17 : decode cX7_boxDiffs 17 = .ok (.aload_n 0, 1) := by decide +kernel
theorem dX7_boxDiffs_18 : decode cX7_boxDiffs 18 = .ok (.getfield 47, 3) := by decide +kernel
theorem dX7_boxDiffs_21 : decode cX7_boxDiffs 21 = .ok (.getfield 300, 3) := by decide +kernel
theorem dX7_boxDiffs_24 : decode cX7_boxDiffs 24 = .ok (.iload_n 3, 1) := by decide +kernel
theorem dX7_boxDiffs_25 : decode cX7_boxDiffs 25 = .ok (.aload_n 0, 1) := by decide +kernel
theorem dX7_boxDiffs_26 : decode cX7_boxDiffs 26 = .ok (.getfield 40, 3) := by decide +kernel
theorem dX7_boxDiffs_29 : decode cX7_boxDiffs 29 = .ok (.iload_n 3, 1) := by decide +kernel
theorem dX7_boxDiffs_30 : decode cX7_boxDiffs 30 = .ok (.invokevirtual 155, 3) := by decide +kernel
theorem dX7_boxDiffs_33 : decode cX7_boxDiffs 33 = .ok (.iastore, 1) := by decide +kernel
theorem dX7_boxDiffs_34 : decode cX7_boxDiffs 34 = .ok (.iinc 3 1, 3) := by decide +kernel
theorem dX7_boxDiffs_37 : decode cX7_boxDiffs 37 = .ok (.goto (-27), 3) := by decide +kernel
theorem dX7_boxDiffs_40 : decode cX7_boxDiffs 40 = .ok (.aload_n 0, 1) := by decide +kernel
theorem dX7_boxDiffs_41 : decode cX7_boxDiffs 41 = .ok (.getfield 40, 3) := by decide +kernel
theorem dX7_boxDiffs_44 : decode cX7_boxDiffs 44 = .ok (.iload_n 2, 1) := by decide +kernel
theorem dX7_boxDiffs_45 : decode cX7_boxDiffs 45 = .ok (.invokevirtual 152, 3) := by decide +kernel
theorem dX7_boxDiffs_48 : decode cX7_boxDiffs 48 = .ok (.iconst 0, 1) := by decide +kernel
theorem dX7_boxDiffs_49 : decode cX7_boxDiffs 49 = .ok (.istore_n 3, 1) := by decide +kernel
theorem dX7_boxDiffs_50 : decode cX7_boxDiffs 50 = .ok (.iload_n 3, 1) := by decide +kernel
theorem dX7_boxDiffs_51 : decode cX7_boxDiffs 51 = .ok (.sipush 224, 3) := by decide +kernel
theorem dX7_boxDiffs_54 : decode cX7_boxDiffs 54 = .ok (.if_icmp .ge 57, 3) := by decide +kernel
theorem dX7_boxDiffs_57 : decode cX7_boxDiffs 57 = .ok (.aload_n 0, 1) := by decide +kernel
theorem dX7_boxDiffs_58 : decode cX7_boxDiffs 58 = .ok (.getfield 47, 3) := by decide +kernel
theorem dX7_boxDiffs_61 : decode cX7_boxDiffs 61 = .ok (.getfield 300, 3) := by decide +kernel
theorem dX7_boxDiffs_64 : decode cX7_boxDiffs 64 = .ok (.iload_n 3, 1) := by decide +kernel
theorem dX7_boxDiffs_65 : decode cX7_boxDiffs 65 = .ok (.iaload, 1) := by decide +kernel
theorem dX7_boxDiffs_66 : decode cX7_boxDiffs 66 = .ok (.istore 4, 2) := by decide +kernel
theorem dX7_boxDiffs_68 : decode cX7_boxDiffs 68 = .ok (.aload_n 0, 1) := by decide +kernel
theorem dX7_boxDiffs_69 : decode cX7_boxDiffs 69 = .ok (.getfield 40, 3) := by decide +kernel
theorem dX7_boxDiffs_72 : decode cX7_boxDiffs 72 = .ok (.iload_n 3, 1) := by decide +kernel
theorem dX7_boxDiffs_73 : decode cX7_boxDiffs 73 = .ok (.invokevirtual 155, 3) := by decide +kernel
theorem dX7_boxDiffs_76 : decode cX7_boxDiffs 76 = .ok (.istore 5, 2) := by decide +kernel
theorem dX7_boxDiffs_78 : decode cX7_boxDiffs 78 = .ok (.aload_n 0, 1) := by decide +kernel
theorem dX7_boxDiffs_79 : decode cX7_boxDiffs 79 = .ok (.getfield 47, 3) := by decide +kernel
theorem dX7_boxDiffs_82 : decode cX7_boxDiffs 82 = .ok (.getfield 300, 3) := by decide +kernel
theorem dX7_boxDiffs_85 : decode cX7_boxDiffs 85 = .ok (.iload_n 3, 1) := by decide +kernel
theorem dX7_boxDiffs_86 : decode cX7_boxDiffs 86 = .ok (.iload 4, 2) := by decide +kernel
theorem dX7_boxDiffs_88 : decode cX7_boxDiffs 88 = .ok (.iload 5, 2) := by decide +kernel
theorem dX7_boxDiffs_90 : decode cX7_boxDiffs 90 = .ok (.if_icmp .ne 7, 3) := by decide +kernel
theorem dX7_boxDiffs_93 : decode cX7_boxDiffs 93 = .ok (.iconst (-1), 1) := by decide +kernel
theorem dX7_boxDiffs_94 : decode cX7_boxDiffs 94 = .ok (.goto 10, 3) := by decide +kernel
theorem dX7_boxDiffs_97 : decode cX7_boxDiffs 97 = .ok (.iload 4, 2) := by decide +kernel
theorem dX7_boxDiffs_99 : decode cX7_boxDiffs 99 = .ok (.iload 5, 2) := by decide +kernel
theorem dX7_boxDiffs_101 : decode cX7_boxDiffs 101 = .ok (.invokestatic 306, 3) := by decide +kernel
theorem dX7_boxDiffs_104 : decode cX7_boxDiffs 104 = .ok (.iastore, 1) := by decide +kernel
theorem dX7_boxDiffs_105 : decode cX7_boxDiffs 105 = .ok (.iinc 3 1, 3) := by decide +kernel
theorem dX7_boxDiffs_108 : decode cX7_boxDiffs 108 = .ok (.goto (-58), 3) := by decide +kernel
theorem dX7_boxDiffs_111 : decode cX7_boxDiffs 111 = .ok (.aload_n 0, 1) := by decide +kernel
theorem dX7_boxDiffs_112 : decode cX7_boxDiffs 112 = .ok (.getfield 47, 3) := by decide +kernel
theorem dX7_boxDiffs_115 : decode cX7_boxDiffs 115 = .ok (.invokevirtual 303, 3) := by decide +kernel
theorem dX7_boxDiffs_118 : decode cX7_boxDiffs 118 = .ok (.return_, 1) := by decide +kernel
theorem dX7_pair_0 : decode cX7_pair 0 = .ok (.iload_n 0, 1) := by decide +kernel
theorem dX7_pair_1 : decode cX7_pair 1 = .ok (.bipush (-5), 2) := by decide +kernel
theorem dX7_pair_3 : decode cX7_pair 3 = .ok (.isub, 1) := by decide +kernel
theorem dX7_pair_4 : decode cX7_pair 4 = .ok (.sipush 1000, 3) := by decide +kernel
theorem dX7_pair_7 : decode cX7_pair 7 = .ok (.imul, 1) := by decide +kernel
theorem dX7_pair_8 : decode cX7_pair 8 = .ok (.iload_n 1, 1) := by decide +kernel
theorem dX7_pair_9 : decode cX7_pair 9 = .ok (.bipush (-5), 2) := by decide +kernel
theorem dX7_pair_11 : decode cX7_pair 11 = .ok (.isub, 1) := by decide +kernel
theorem dX7_pair_12 : decode cX7_pair 12 = .ok (.iadd, 1) := by decide +kernel
theorem dX7_pair_13 : decode cX7_pair 13 = .ok (.ireturn, 1) := by decide +kernel
theorem dX7_firstOfPair_0 : decode cX7_firstOfPair 0 = .ok (.iload_n 0, 1) := by decide +kernel
theorem dX7_firstOfPair_1 : decode cX7_firstOfPair 1 = .ok (.sipush 1000, 3) := by decide +kernel
theorem dX7_firstOfPair_4 : decode cX7_firstOfPair 4 = .ok (.idiv, 1) := by decide +kernel
theorem dX7_firstOfPair_5 : decode cX7_firstOfPair 5 = .ok (.bipush (-5), 2) := by decide +kernel
theorem dX7_firstOfPair_7 : decode cX7_firstOfPair 7 = .ok (.iadd, 1) := by decide +kernel
theorem dX7_firstOfPair_8 : decode cX7_firstOfPair 8 = .ok (.ireturn, 1) := by decide +kernel
theorem dX7_secondOfPair_0 : decode cX7_secondOfPair 0 = .ok (.iload_n 0, 1) := by decide +kernel
theorem dX7_secondOfPair_1 : decode cX7_secondOfPair 1 = .ok (.sipush 1000, 3) := by decide +kernel
theorem dX7_secondOfPair_4 : decode cX7_secondOfPair 4 = .ok (.irem, 1) := by decide +kernel
theorem dX7_secondOfPair_5 : decode cX7_secondOfPair 5 = .ok (.bipush (-5), 2) := by decide +kernel
theorem dX7_secondOfPair_7 : decode cX7_secondOfPair 7 = .ok (.iadd, 1) := by decide +kernel
theorem dX7_secondOfPair_8 : decode cX7_secondOfPair 8 = .ok (.ireturn, 1) := by decide +kernel
theorem dX7_partNumber_0 : decode cX7_partNumber 0 = .ok (.aload_n 0, 1) := by decide +kernel
theorem dX7_partNumber_1 : decode cX7_partNumber 1 = .ok (.getfield 47, 3) := by decide +kernel
theorem dX7_partNumber_4 : decode cX7_partNumber 4 = .ok (.iload_n 1, 1) := by decide +kernel
theorem dX7_partNumber_5 : decode cX7_partNumber 5 = .ok (.invokevirtual 173, 3) := by decide +kernel
theorem dX7_partNumber_8 : decode cX7_partNumber 8 = .ok (.ifCond .ne 5, 3) := by decide +kernel
theorem dX7_partNumber_11 : decode cX7_partNumber 11 = .ok (.iconst (-1), 1) := by decide +kernel
theorem dX7_partNumber_12 : decode cX7_partNumber 12 = .ok (.ireturn, 1) := by decide +kernel
theorem dX7_partNumber_13 : decode cX7_partNumber 13 = .ok (.iload_n 2, 1) := by decide +kernel
theorem dX7_partNumber_14 : decode cX7_partNumber 14 = .ok (.bipush 6, 2) := by decide +kernel
theorem dX7_partNumber_16 : decode cX7_partNumber 16 = .ok (.if_icmp .ne 15, 3) := by decide +kernel
theorem dX7_partNumber_19 : decode cX7_partNumber 19 = .ok (.aload_n 0, 1) := by decide +kernel
theorem dX7_partNumber_20 : decode cX7_partNumber 20 = .ok (.getfield 47, 3) := by decide +kernel
theorem dX7_partNumber_23 : decode cX7_partNumber 23 = .ok (.getfield 174, 3) := by decide +kernel
theorem dX7_partNumber_26 : decode cX7_partNumber 26 = .ok (.iload_n 1, 1) := by decide +kernel
theorem dX7_partNumber_27 : decode cX7_partNumber 27 = .ok (.iaload, 1) := by decide +kernel
theorem dX7_partNumber_28 : decode cX7_partNumber 28 = .ok (.goto 16, 3) := by decide +kernel
theorem dX7_partNumber_31 : decode cX7_partNumber 31 = .ok (.aload_n 0, 1) := by decide +kernel
theorem dX7_partNumber_32 : decode cX7_partNumber 32 = .ok (.getfield 47, 3) := by decide +kernel
theorem dX7_partNumber_35 : decode cX7_partNumber 35 = .ok (.getfield 309, 3) := by decide +kernel
theorem dX7_partNumber_38 : decode cX7_partNumber 38 = .ok (.iload_n 1, 1) := by decide +kernel
theorem dX7_partNumber_39 : decode cX7_partNumber 39 = .ok (.iaload, 1) := by decide +kernel
theorem dX7_partNumber_40 : decode cX7_partNumber 40 = .ok (.iload_n 2, 1) := by decide +kernel
theorem dX7_partNumber_41 : decode cX7_partNumber 41 = .ok (.invokestatic 275, 3) := by decide +kernel
theorem dX7_partNumber_44 : decode cX7_partNumber 44 = .ok (.ireturn, 1) := by decide +kernel
theorem dX8_init_0 : decode cX8_init 0 = .ok (.aload_n 0, 1) := by decide +kernel
theorem dX8_init_1 : decode cX8_init 1 = .ok (.invokespecial 3, 3) := by decide +kernel
theorem dX8_init_4 : decode cX8_init 4 = .ok (.aload_n 0, 1) := by decide +kernel
theorem dX8_init_5 : decode cX8_init 5 = .ok (.bipush 96, 2) := by decide +kernel
theorem dX8_init_7 : decode cX8_init 7 = .ok (.newarray .int, 2) := by decide +kernel
theorem dX8_init_9 : decode cX8_init 9 = .ok (.putfield 9, 3) := by decide +kernel
theorem dX8_init_12 : decode cX8_init 12 = .ok (.aload_n 0, 1) := by decide +kernel
theorem dX8_init_13 : decode cX8_init 13 = .ok (.bipush 96, 2) := by decide +kernel
theorem dX8_init_15 : decode cX8_init 15 = .ok (.newarray .int, 2) := by decide +kernel
theorem dX8_init_17 : decode cX8_init 17 = .ok (.putfield 15, 3) := by decide +kernel
theorem dX8_init_20 : decode cX8_init 20 = .ok (.aload_n 0, 1) := by decide +kernel
theorem dX8_init_21 : decode cX8_init 21 = .ok (.bipush 96, 2) := by decide +kernel
theorem dX8_init_23 : decode cX8_init 23 = .ok (.newarray .int, 2) := by decide +kernel
theorem dX8_init_25 : decode cX8_init 25 = .ok (.putfield 18, 3) := by decide +kernel
theorem dX8_init_28 : decode cX8_init 28 = .ok (.aload_n 0, 1) := by decide +kernel
theorem dX8_init_29 : decode cX8_init 29 = .ok (.bipush 96, 2) := by decide +kernel
theorem dX8_init_31 : decode cX8_init 31 = .ok (.newarray .int, 2) := by decide +kernel
theorem dX8_init_33 : decode cX8_init 33 = .ok (.putfield 21, 3) := by decide +kernel
theorem dX8_init_36 : decode cX8_init 36 = .ok (.aload_n 0, 1) := by decide +kernel
theorem dX8_init_37 : decode cX8_init 37 = .ok (.bipush 96, 2) := by decide +kernel
theorem dX8_init_39 : decode cX8_init 39 = .ok (.newarray .int, 2) := by decide +kernel
theorem dX8_init_41 : decode cX8_init 41 = .ok (.putfield 24, 3) := by decide +kernel
theorem dX8_init_44 : decode cX8_init 44 = .ok (.aload_n 0, 1) := by decide +kernel
theorem dX8_init_45 : decode cX8_init 45 = .ok (.bipush 96, 2) := by decide +kernel
theorem dX8_init_47 : decode cX8_init 47 = .ok (.newarray .int, 2) := by decide +kernel
theorem dX8_init_49 : decode cX8_init 49 = .ok (.putfield 27, 3) := by decide +kernel
theorem dX8_init_52 : decode cX8_init 52 = .ok (.aload_n 0, 1) := by decide +kernel
theorem dX8_init_53 : decode cX8_init 53 = .ok (.bipush 96, 2) := by decide +kernel
theorem dX8_init_55 : decode cX8_init 55 = .ok (.newarray .int, 2) := by decide +kernel
theorem dX8_init_57 : decode cX8_init 57 = .ok (.putfield 30, 3) := by decide +kernel
theorem dX8_init_60 : decode cX8_init 60 = .ok (.aload_n 0, 1) := by decide +kernel
theorem dX8_init_61 : decode cX8_init 61 = .ok (.bipush 8, 2) := by decide +kernel
theorem dX8_init_63 : decode cX8_init 63 = .ok (.newarray .int, 2) := by decide +kernel
theorem dX8_init_65 : decode cX8_init 65 = .ok (.putfield 33, 3) := by decide +kernel
theorem dX8_init_68 : decode cX8_init 68 = .ok (.aload_n 0, 1) := by decide +kernel
theorem dX8_init_69 : decode cX8_init 69 = .ok (.bipush 8, 2) := by decide +kernel
theorem dX8_init_71 : decode cX8_init 71 = .ok (.newarray .int, 2) := by decide +kernel
theorem dX8_init_73 : decode cX8_init 73 = .ok (.putfield 36, 3) := by decide +kernel
theorem dX8_init_76 : decode cX8_init 76 = .ok (.aload_n 0, 1) := by decide +kernel
theorem dX8_init_77 : decode cX8_init 77 = .ok (.sipush 224, 3) := by decide +kernel
theorem dX8_init_80 : decode cX8_init 80 = .ok (.newarray .int, 2) := by decide +kernel
theorem dX8_init_82 : decode cX8_init 82 = .ok (.putfield 39, 3) := by decide +kernel
theorem dX8_init_85 : decode cX8_init 85 = .ok (.aload_n 0, 1) := by decide +kernel
theorem dX8_init_86 : decode cX8_init 86 = .ok (.sipush 224, 3) := by decide +kernel
theorem dX8_init_89 : decode cX8_init 89 = .ok (.newarray .int, 2) := by decide +kernel
theorem dX8_init_91 : decode cX8_init 91 = .ok (.putfield 42, 3) := by decide +kernel
theorem dX8_init_94 : decode cX8_init 94 = .ok (.aload_n 0, 1) := by decide +kernel
theorem dX8_init_95 : decode cX8_init 95 = .ok (.sipush 224, 3) := by decide +kernel
theorem dX8_init_98 : decode cX8_init 98 = .ok (.newarray .boolean, 2) := by decide +kernel
theorem dX8_init_100 : decode cX8_init 100 = .ok (.putfield 45, 3) := by decide +kernel
theorem dX8_init_103 : decode cX8_init 103 = .ok (.aload_n 0, 1) := by decide +kernel
theorem dX8_init_104 : decode cX8_init 104 = .ok (.sipush 1792, 3) := by decide +kernel
theorem dX8_init_107 : decode cX8_init 107 = .ok (.newarray .int, 2) := by decide +kernel
theorem dX8_init_109 : decode cX8_init 109 = .ok (.putfield 49, 3) := by decide +kernel
theorem dX8_init_112 : decode cX8_init 112 = .ok (.aload_n 0, 1) := by decide +kernel
theorem dX8_init_113 : decode cX8_init 113 = .ok (.iconst (-1), 1) := by decide +kernel
theorem dX8_init_114 : decode cX8_init 114 = .ok (.putfield 52, 3) := by decide +kernel
theorem dX8_init_117 : decode cX8_init 117 = .ok (.aload_n 0, 1) := by decide +kernel
theorem dX8_init_118 : decode cX8_init 118 = .ok (.bipush 60, 2) := by decide +kernel
theorem dX8_init_120 : decode cX8_init 120 = .ok (.newarray .int, 2) := by decide +kernel
theorem dX8_init_122 : decode cX8_init 122 = .ok (.putfield 56, 3) := by decide +kernel
theorem dX8_init_125 : decode cX8_init 125 = .ok (.aload_n 0, 1) := by decide +kernel
theorem dX8_init_126 : decode cX8_init 126 = .ok (.bipush 9, 2) := by decide +kernel
theorem dX8_init_128 : decode cX8_init 128 = .ok (.newarray .int, 2) := by decide +kernel
theorem dX8_init_130 : decode cX8_init 130 = .ok (.putfield 59, 3) := by decide +kernel
theorem dX8_init_133 : decode cX8_init 133 = .ok (.aload_n 0, 1) := by decide +kernel
theorem dX8_init_134 : decode cX8_init 134 = .ok (.bipush 9, 2) := by decide +kernel
theorem dX8_init_136 : decode cX8_init 136 = .ok (.newarray .int, 2) := by decide +kernel
theorem dX8_init_138 : decode cX8_init 138 = .ok (.putfield 62, 3) := by decide +kernel
theorem dX8_init_141 : decode cX8_init 141 = .ok (.aload_n 0, 1) := by decide +kernel
theorem dX8_init_142 : decode cX8_init 142 = .ok (.sipush 700, 3) := by decide +kernel
theorem dX8_init_145 : decode cX8_init 145 = .ok (.newarray .int, 2) := by decide +kernel
theorem dX8_init_147 : decode cX8_init 147 = .ok (.putfield 65, 3) := by decide +kernel
theorem dX8_init_150 : decode cX8_init 150 = .ok (.aload_n 0, 1) := by decide +kernel
theorem dX8_init_151 : decode cX8_init 151 = .ok (.sipush 184, 3) := by decide +kernel
theorem dX8_init_154 : decode cX8_init 154 = .ok (.newarray .int, 2) := by decide +kernel
theorem dX8_init_156 : decode cX8_init 156 = .ok (.putfield 68, 3) := by decide +kernel
theorem dX8_init_159 : decode cX8_init 159 = .ok (.aload_n 0, 1) := by decide +kernel
theorem dX8_init_160 : decode cX8_init 160 = .ok (.iconst 4, 1) := by decide +kernel
theorem dX8_init_161 : decode cX8_init 161 = .ok (.newarray .int, 2) := by decide +kernel
theorem dX8_init_163 : decode cX8_init 163 = .ok (.putfield 71, 3) := by decide +kernel
theorem dX8_init_166 : decode cX8_init 166 = .ok (.aload_n 0, 1) := by decide +kernel
theorem dX8_init_167 : decode cX8_init 167 = .ok (.sipush 280, 3) := by decide +kernel
theorem dX8_init_170 : decode cX8_init 170 = .ok (.newarray .int, 2) := by decide +kernel
theorem dX8_init_172 : decode cX8_init 172 = .ok (.putfield 74, 3) := by decide +kernel
theorem dX8_init_175 : decode cX8_init 175 = .ok (.return_, 1) := by decide +kernel
theorem dX8_within_0 : decode cX8_within 0 = .ok (.iload_n 0, 1) := by decide +kernel
theorem dX8_within_1 : decode cX8_within 1 = .ok (.iload_n 1, 1) := by decide +kernel
theorem dX8_within_2 : decode cX8_within 2 = .ok (.if_icmp .lt 12, 3) := by decide +kernel
theorem dX8_within_5 : decode cX8_within 5 = .ok (.iload_n 0, 1) := by decide +kernel
theorem dX8_within_6 : decode cX8_within 6 = .ok (.iload_n 2, 1) := by decide +kernel
theorem dX8_within_7 : decode cX8_within 7 = .ok (.if_icmp .gt 7, 3) := by decide +kernel
theorem dX8_within_10 : decode cX8_within 10 = .ok (.iconst 1, 1) := by decide +kernel
theorem dX8_within_11 : decode cX8_within 11 = .ok (.goto 4, 3) := by decide +kernel
theorem dX8_within_14 : decode cX8_within 14 = .ok (.iconst 0, 1) := by decide +kernel
theorem dX8_within_15 : decode cX8_within 15 = .ok (.ireturn, 1) := by decide +kernel
theorem dX8_isTerm_0 : decode cX8_isTerm 0 = .ok (.iload_n 1, 1) := by decide +kernel
theorem dX8_isTerm_1 : decode cX8_isTerm 1 = .ok (.iconst 0, 1) := by decide +kernel
theorem dX8_isTerm_2 : decode cX8_isTerm 2 = .ok (.aload_n 0, 1) := by decide +kernel
theorem dX8_isTerm_3 : decode cX8_isTerm 3 = .ok (.getfield 77, 3) := by decide +kernel
theorem dX8_isTerm_6 : decode cX8_isTerm 6 = .ok (.iconst 1, 1) := by decide +kernel
theorem dX8_isTerm_7 : decode cX8_isTerm 7 = .ok (.isub, 1) := by decide +kernel
theorem dX8_isTerm_8 : decode cX8_isTerm 8 = .ok (.invokestatic 80, 3) := by decide +kernel
theorem dX8_isTerm_11 : decode cX8_isTerm 11 = .ok (.ireturn, 1) := by decide +kernel
theorem dX8_isCase_0 : decode cX8_isCase 0 = .ok (.iload_n 0, 1) := by decide +kernel
theorem dX8_isCase_1 : decode cX8_isCase 1 = .ok (.iconst 0, 1) := by decide +kernel
theorem dX8_isCase_2 : decode cX8_isCase 2 = .ok (.sipush 223, 3) := by decide +kernel
theorem dX8_isCase_5 : decode cX8_isCase 5 = .ok (.invokestatic 80, 3) := by decide +kernel
theorem dX8_isCase_8 : decode cX8_isCase 8 = .ok (.ireturn, 1) := by decide +kernel
theorem dX8_figure_0 : decode cX8_figure 0 = .ok (.iload_n 0, 1) := by decide +kernel
theorem dX8_figure_1 : decode cX8_figure 1 = .ok (.istore_n 2, 1) := by decide +kernel
theorem dX8_figure_2 : decode cX8_figure 2 = .ok (.iconst 5, 1) := by decide +kernel
theorem dX8_figure_3 : decode cX8_figure 3 = .ok (.istore_n 3, 1) := by decide +kernel
theorem dX8_figure_4 : decode cX8_figure 4 = .ok (.iload_n 3, 1) := by decide +kernel
theorem dX8_figure_5 : decode cX8_figure 5 = .ok (.iload_n 1, 1) := by decide +kernel
theorem dX8_figure_6 : decode cX8_figure 6 = .ok (.if_icmp .le 14, 3) := by decide +kernel
theorem dX8_figure_9 : decode cX8_figure 9 = .ok (.iload_n 2, 1) := by decide +kernel
theorem dX8_figure_10 : decode cX8_figure 10 = .ok (.bipush 10, 2) := by decide +kernel
theorem dX8_figure_12 : decode cX8_figure 12 = .ok (.idiv, 1) := by decide +kernel
theorem dX8_figure_13 : decode cX8_figure 13 = .ok (.istore_n 2, 1) := by decide +kernel
theorem dX8_figure_14 : decode cX8_figure 14 = .ok (.iinc 3 (-1), 3) := by decide +kernel
theorem dX8_figure_17 : decode cX8_figure 17 = .ok (.goto (-13), 3) := by decide +kernel
theorem dX8_figure_20 : decode cX8_figure 20 = .ok (.iload_n 2, 1) := by decide +kernel
theorem dX8_figure_21 : decode cX8_figure 21 = .ok (.bipush 10, 2) := by decide +kernel
theorem dX8_figure_23 : decode cX8_figure 23 = .ok (.irem, 1) := by decide +kernel
theorem dX8_figure_24 : decode cX8_figure 24 = .ok (.ireturn, 1) := by decide +kernel
theorem dX8_most_0 : decode cX8_most 0 = .ok (.iload_n 0, 1) := by decide +kernel
theorem dX8_most_1 : decode cX8_most 1 = .ok (.iconst 2, 1) := by decide +kernel
theorem dX8_most_2 : decode cX8_most 2 = .ok (.if_icmp .ge 8, 3) := by decide +kernel
theorem dX8_most_5 : decode cX8_most 5 = .ok (.bipush 7, 2) := by decide +kernel
theorem dX8_most_7 : decode cX8_most 7 = .ok (.goto 14, 3) := by decide +kernel
theorem dX8_most_10 : decode cX8_most 10 = .ok (.iload_n 0, 1) := by decide +kernel
theorem dX8_most_11 : decode cX8_most 11 = .ok (.iconst 4, 1) := by decide +kernel
theorem dX8_most_12 : decode cX8_most 12 = .ok (.if_icmp .ge 8, 3) := by decide +kernel
theorem dX8_most_15 : decode cX8_most 15 = .ok (.bipush 6, 2) := by decide +kernel
theorem dX8_most_17 : decode cX8_most 17 = .ok (.goto 4, 3) := by decide +kernel
theorem dX8_most_20 : decode cX8_most 20 = .ok (.iconst 3, 1) := by decide +kernel
theorem dX8_most_21 : decode cX8_most 21 = .ok (.ireturn, 1) := by decide +kernel
theorem dX8_isBox_0 : decode cX8_isBox 0 = .ok (.iload_n 0, 1) := by decide +kernel
theorem dX8_isBox_1 : decode cX8_isBox 1 = .ok (.iconst 0, 1) := by decide +kernel
theorem dX8_isBox_2 : decode cX8_isBox 2 = .ok (.ldc 84, 2) := by decide +kernel
theorem dX8_isBox_4 : decode cX8_isBox 4 = .ok (.invokestatic 80, 3) := by decide +kernel
theorem dX8_isBox_7 : decode cX8_isBox 7 = .ok (.ifCond .ne 5, 3) := by decide +kernel
theorem dX8_isBox_10 : decode cX8_isBox 10 = .ok (.iconst 0, 1) := by decide +kernel
theorem dX8_isBox_11 : decode cX8_isBox 11 = .ok (.ireturn, 1) := by decide +kernel
theorem dX8_isBox_12 : decode cX8_isBox 12 = .ok (.iconst 0, 1) := by decide +kernel
theorem dX8_isBox_13 : decode cX8_isBox 13 = .ok (.istore_n 1, 1) := by decide +kernel
theorem dX8_isBox_14 : decode cX8_isBox 14 = .ok (.iload_n 1, 1) := by decide +kernel
theorem dX8_isBox_15 : decode cX8_isBox 15 = .ok (.bipush 6, 2) := by decide +kernel
theorem dX8_isBox_17 : decode cX8_isBox 17 = .ok (.if_icmp .ge 45, 3) := by decide +kernel
theorem dX8_isBox_20 : decode cX8_isBox 20 = .ok (.iload_n 0, 1) := by decide +kernel
theorem dX8_isBox_21 : decode cX8_isBox 21 = .ok (.iload_n 1, 1) := by decide +kernel
theorem dX8_isBox_22 : decode cX8_isBox 22 = .ok (.invokestatic 85, 3) := by decide +kernel
theorem dX8_isBox_25 : decode cX8_isBox 25 = .ok (.iload_n 1, 1) := by decide +kernel
theorem dX8_isBox_26 : decode cX8_isBox 26 = .ok (.invokestatic 89, 3) := by decide +kernel
theorem dX8_isBox_29 : decode cX8_isBox 29 = .ok (.if_icmp .gt 25, 3) := by decide +kernel
theorem dX8_isBox_32 : decode cX8_isBox 32 = .ok (.iload_n 1, 1) := by decide +kernel
theorem dX8_isBox_33 : decode cX8_isBox 33 = .ok (.iconst 2, 1) := by decide +kernel
theorem dX8_isBox_34 : decode cX8_isBox 34 = .ok (.irem, 1) := by decide +kernel
theorem dX8_isBox_35 : decode cX8_isBox 35 = .ok (.iconst 1, 1) := by decide +kernel
theorem dX8_isBox_36 : decode cX8_isBox 36 = .ok (.if_icmp .ne 20, 3) := by decide +kernel
theorem dX8_isBox_39 : decode cX8_isBox 39 = .ok (.iload_n 0, 1) := by decide +kernel
theorem dX8_isBox_40 : decode cX8_isBox 40 = .ok (.iload_n 1, 1) := by decide +kernel
theorem dX8_isBox_41 : decode cX8_isBox 41 = .ok (.invokestatic 85, 3) := by decide +kernel
theorem dX8_isBox_44 : decode cX8_isBox 44 = .ok (.iload_n 0, 1) := by decide +kernel
theorem dX8_isBox_45 : decode cX8_isBox 45 = .ok (.iload_n 1, 1) := by decide +kernel
theorem dX8_isBox_46 : decode cX8_isBox 46 = .ok (.iconst 1, 1) := by decide +kernel
theorem dX8_isBox_47 : decode cX8_isBox 47 = .ok (.isub, 1) := by decide +kernel
theorem dX8_isBox_48 : decode cX8_isBox 48 = .ok (.invokestatic 85, 3) := by decide +kernel
theorem dX8_isBox_51 : decode cX8_isBox 51 = .ok (.if_icmp .ge 5, 3) := by decide +kernel
theorem dX8_isBox_54 : decode cX8_isBox 54 = .ok (.iconst 0, 1) := by decide +kernel
theorem dX8_isBox_55 : decode cX8_isBox 55 = .ok (.ireturn, 1) := by decide +kernel
theorem dX8_isBox_56 : decode cX8_isBox 56 = .ok (.iinc 1 1, 3) := by decide +kernel
theorem dX8_isBox_59 : decode cX8_isBox 59 = .ok (.goto (-45), 3) := by decide +kernel
theorem dX8_isBox_62 : decode cX8_isBox 62 = .ok (.iconst 1, 1) := by decide +kernel
theorem dX8_isBox_63 : decode cX8_isBox 63 = .ok (.ireturn, 1) := by decide +kernel
theorem dX8_part_0 : decode cX8_part 0 = .ok (.iload_n 1, 1) := by decide +kernel
theorem dX8_part_1 : decode cX8_part 1 = .ok (.ifCond .ne 10, 3) := by decide +kernel
theorem dX8_part_4 : decode cX8_part 4 = .ok (.iload_n 0, 1) := by decide +kernel
theorem dX8_part_5 : decode cX8_part 5 = .ok (.bipush 28, 2) := by decide +kernel
theorem dX8_part_7 : decode cX8_part 7 = .ok (.idiv, 1) := by decide +kernel
theorem dX8_part_8 : decode cX8_part 8 = .ok (.goto 20, 3) := by decide +kernel
theorem dX8_part_11 : decode cX8_part 11 = .ok (.iload_n 1, 1) := by decide +kernel
theorem dX8_part_12 : decode cX8_part 12 = .ok (.iconst 1, 1) := by decide +kernel
theorem dX8_part_13 : decode cX8_part 13 = .ok (.if_icmp .ne 12, 3) := by decide +kernel
theorem dX8_part_16 : decode cX8_part 16 = .ok (.iload_n 0, 1) := by decide +kernel
theorem dX8_part_17 : decode cX8_part 17 = .ok (.iconst 4, 1) := by decide +kernel
theorem dX8_part_18 : decode cX8_part 18 = .ok (.idiv, 1) := by decide +kernel
theorem dX8_part_19 : decode cX8_part 19 = .ok (.bipush 7, 2) := by decide +kernel
theorem dX8_part_21 : decode cX8_part 21 = .ok (.irem, 1) := by decide +kernel
theorem dX8_part_22 : decode cX8_part 22 = .ok (.goto 6, 3) := by decide +kernel
theorem dX8_part_25 : decode cX8_part 25 = .ok (.iload_n 0, 1) := by decide +kernel
theorem dX8_part_26 : decode cX8_part 26 = .ok (.iconst 4, 1) := by decide +kernel
theorem dX8_part_27 : decode cX8_part 27 = .ok (.irem, 1) := by decide +kernel
theorem dX8_part_28 : decode cX8_part 28 = .ok (.ireturn, 1) := by decide +kernel
theorem dX8_isIn_0 : decode cX8_isIn 0 = .ok (.iconst 0, 1) := by decide +kernel
theorem dX8_isIn_1 : decode cX8_isIn 1 = .ok (.istore_n 2, 1) := by decide +kernel
theorem dX8_isIn_2 : decode cX8_isIn 2 = .ok (.iload_n 2, 1) := by decide +kernel
theorem dX8_isIn_3 : decode cX8_isIn 3 = .ok (.iconst 3, 1) := by decide +kernel
theorem dX8_isIn_4 : decode cX8_isIn 4 = .ok (.if_icmp .ge 38, 3) := by decide +kernel
theorem dX8_isIn_7 : decode cX8_isIn 7 = .ok (.iload_n 0, 1) := by decide +kernel
theorem dX8_isIn_8 : decode cX8_isIn 8 = .ok (.iload_n 2, 1) := by decide +kernel
theorem dX8_isIn_9 : decode cX8_isIn 9 = .ok (.invokestatic 93, 3) := by decide +kernel
theorem dX8_isIn_12 : decode cX8_isIn 12 = .ok (.iload_n 1, 1) := by decide +kernel
theorem dX8_isIn_13 : decode cX8_isIn 13 = .ok (.iconst 2, 1) := by decide +kernel
theorem dX8_isIn_14 : decode cX8_isIn 14 = .ok (.iload_n 2, 1) := by decide +kernel
theorem dX8_isIn_15 : decode cX8_isIn 15 = .ok (.imul, 1) := by decide +kernel
theorem dX8_isIn_16 : decode cX8_isIn 16 = .ok (.invokestatic 85, 3) := by decide +kernel
theorem dX8_isIn_19 : decode cX8_isIn 19 = .ok (.iload_n 1, 1) := by decide +kernel
theorem dX8_isIn_20 : decode cX8_isIn 20 = .ok (.iconst 2, 1) := by decide +kernel
theorem dX8_isIn_21 : decode cX8_isIn 21 = .ok (.iload_n 2, 1) := by decide +kernel
theorem dX8_isIn_22 : decode cX8_isIn 22 = .ok (.imul, 1) := by decide +kernel
theorem dX8_isIn_23 : decode cX8_isIn 23 = .ok (.iconst 1, 1) := by decide +kernel
theorem dX8_isIn_24 : decode cX8_isIn 24 = .ok (.iadd, 1) := by decide +kernel
theorem dX8_isIn_25 : decode cX8_isIn 25 = .ok (.invokestatic 85, 3) := by decide +kernel
theorem dX8_isIn_28 : decode cX8_isIn 28 = .ok (.invokestatic 80, 3) := by decide +kernel
theorem dX8_isIn_31 : decode cX8_isIn 31 = .ok (.ifCond .ne 5, 3) := by decide +kernel
theorem dX8_isIn_34 : decode cX8_isIn 34 = .ok (.iconst 0, 1) := by decide +kernel
theorem dX8_isIn_35 : decode cX8_isIn 35 = .ok (.ireturn, 1) := by decide +kernel
theorem dX8_isIn_36 : decode cX8_isIn 36 = .ok (.iinc 2 1, 3) := by decide +kernel
theorem dX8_isIn_39 : decode cX8_isIn 39 = .ok (.goto (-37), 3) := by decide +kernel
theorem dX8_isIn_42 : decode cX8_isIn 42 = .ok (.iconst 1, 1) := by decide +kernel
theorem dX8_isIn_43 : decode cX8_isIn 43 = .ok (.ireturn, 1) := by decide +kernel
theorem dX8_ofTwo_0 : decode cX8_ofTwo 0 = .ok (.iload_n 0, 1) := by decide +kernel
theorem dX8_ofTwo_1 : decode cX8_ofTwo 1 = .ok (.iconst 2, 1) := by decide +kernel
theorem dX8_ofTwo_2 : decode cX8_ofTwo 2 = .ok (.if_icmp .le 13, 3) := by decide +kernel
theorem dX8_ofTwo_5 : decode cX8_ofTwo 5 = .ok (.iload_n 0, 1) := by decide +kernel
theorem dX8_ofTwo_6 : decode cX8_ofTwo 6 = .ok (.bipush 6, 2) := by decide +kernel
theorem dX8_ofTwo_8 : decode cX8_ofTwo 8 = .ok (.if_icmp .eq 7, 3) := by decide +kernel
theorem dX8_ofTwo_11 : decode cX8_ofTwo 11 = .ok (.iconst 1, 1) := by decide +kernel
theorem dX8_ofTwo_12 : decode cX8_ofTwo 12 = .ok (.goto 4, 3) := by decide +kernel
theorem dX8_ofTwo_15 : decode cX8_ofTwo 15 = .ok (.iconst 0, 1) := by decide +kernel
theorem dX8_ofTwo_16 : decode cX8_ofTwo 16 = .ok (.ireturn, 1) := by decide +kernel
theorem dX8_ofOne_0 : decode cX8_ofOne 0 = .ok (.iload_n 0, 1) := by decide +kernel
theorem dX8_ofOne_1 : decode cX8_ofOne 1 = .ok (.iconst 2, 1) := by decide +kernel
theorem dX8_ofOne_2 : decode cX8_ofOne 2 = .ok (.if_icmp .eq 9, 3) := by decide +kernel
theorem dX8_ofOne_5 : decode cX8_ofOne 5 = .ok (.iload_n 0, 1) := by decide +kernel
theorem dX8_ofOne_6 : decode cX8_ofOne 6 = .ok (.bipush 6, 2) := by decide +kernel
theorem dX8_ofOne_8 : decode cX8_ofOne 8 = .ok (.if_icmp .ne 7, 3) := by decide +kernel
theorem dX8_ofOne_11 : decode cX8_ofOne 11 = .ok (.iconst 1, 1) := by decide +kernel
theorem dX8_ofOne_12 : decode cX8_ofOne 12 = .ok (.goto 4, 3) := by decide +kernel
theorem dX8_ofOne_15 : decode cX8_ofOne 15 = .ok (.iconst 0, 1) := by decide +kernel
theorem dX8_ofOne_16 : decode cX8_ofOne 16 = .ok (.ireturn, 1) := by decide +kernel
theorem dX8_lays_0 : decode cX8_lays 0 = .ok (.aload_n 0, 1) := by decide +kernel
theorem dX8_lays_1 : decode cX8_lays 1 = .ok (.getfield 9, 3) := by decide +kernel
theorem dX8_lays_4 : decode cX8_lays 4 = .ok (.iload_n 1, 1) := by decide +kernel
theorem dX8_lays_5 : decode cX8_lays 5 = .ok (.iload_n 2, 1) := by decide +kernel
theorem dX8_lays_6 : decode cX8_lays 6 = .ok (.iastore, 1) := by decide +kernel
theorem dX8_lays_7 : decode cX8_lays 7 = .ok (.aload_n 0, 1) := by decide +kernel
theorem dX8_lays_8 : decode cX8_lays 8 = .ok (.getfield 15, 3) := by decide +kernel
theorem dX8_lays_11 : decode cX8_lays 11 = .ok (.iload_n 1, 1) := by decide +kernel
theorem dX8_lays_12 : decode cX8_lays 12 = .ok (.iload_n 3, 1) := by decide +kernel
theorem dX8_lays_13 : decode cX8_lays 13 = .ok (.iastore, 1) := by decide +kernel
theorem dX8_lays_14 : decode cX8_lays 14 = .ok (.aload_n 0, 1) := by decide +kernel
theorem dX8_lays_15 : decode cX8_lays 15 = .ok (.getfield 18, 3) := by decide +kernel
theorem dX8_lays_18 : decode cX8_lays 18 = .ok (.iload_n 1, 1) := by decide +kernel
theorem dX8_lays_19 : decode cX8_lays 19 = .ok (.iload 4, 2) := by decide +kernel
theorem dX8_lays_21 : decode cX8_lays 21 = .ok (.iastore, 1) := by decide +kernel
theorem dX8_lays_22 : decode cX8_lays 22 = .ok (.aload_n 0, 1) := by decide +kernel
theorem dX8_lays_23 : decode cX8_lays 23 = .ok (.getfield 21, 3) := by decide +kernel
theorem dX8_lays_26 : decode cX8_lays 26 = .ok (.iload_n 1, 1) := by decide +kernel
theorem dX8_lays_27 : decode cX8_lays 27 = .ok (.iload 5, 2) := by decide +kernel
theorem dX8_lays_29 : decode cX8_lays 29 = .ok (.iastore, 1) := by decide +kernel
theorem dX8_lays_30 : decode cX8_lays 30 = .ok (.aload_n 0, 1) := by decide +kernel
theorem dX8_lays_31 : decode cX8_lays 31 = .ok (.getfield 24, 3) := by decide +kernel
theorem dX8_lays_34 : decode cX8_lays 34 = .ok (.iload_n 1, 1) := by decide +kernel
theorem dX8_lays_35 : decode cX8_lays 35 = .ok (.iload 6, 2) := by decide +kernel
theorem dX8_lays_37 : decode cX8_lays 37 = .ok (.iastore, 1) := by decide +kernel
theorem dX8_lays_38 : decode cX8_lays 38 = .ok (.aload_n 0, 1) := by decide +kernel
theorem dX8_lays_39 : decode cX8_lays 39 = .ok (.getfield 27, 3) := by decide +kernel
theorem dX8_lays_42 : decode cX8_lays 42 = .ok (.iload_n 1, 1) := by decide +kernel
theorem dX8_lays_43 : decode cX8_lays 43 = .ok (.iconst 1, 1) := by decide +kernel
theorem dX8_lays_44 : decode cX8_lays 44 = .ok (.iload 4, 2) := by decide +kernel
theorem dX8_lays_46 : decode cX8_lays 46 = .ok (.ifCond .lt 13, 3) := by decide +kernel
theorem dX8_lays_49 : decode cX8_lays 49 = .ok (.aload_n 0, 1) := by decide +kernel
theorem dX8_lays_50 : decode cX8_lays 50 = .ok (.getfield 27, 3) := by decide +kernel
theorem dX8_lays_53 : decode cX8_lays 53 = .ok (.iload 4, 2) := by decide +kernel
theorem dX8_lays_55 : decode cX8_lays 55 = .ok (.iaload, 1) := by decide +kernel
theorem dX8_lays_56 : decode cX8_lays 56 = .ok (.goto 4, 3) := by decide +kernel
theorem dX8_lays_59 : decode cX8_lays 59 = .ok (.iconst 0, 1) := by decide +kernel
theorem dX8_lays_60 : decode cX8_lays 60 = .ok (.iadd, 1) := by decide +kernel
theorem dX8_lays_61 : decode cX8_lays 61 = .ok (.iload 5, 2) := by decide +kernel
theorem dX8_lays_63 : decode cX8_lays 63 = .ok (.ifCond .lt 13, 3) := by decide +kernel
theorem dX8_lays_66 : decode cX8_lays 66 = .ok (.aload_n 0, 1) := by decide +kernel
theorem dX8_lays_67 : decode cX8_lays 67 = .ok (.getfield 27, 3) := by decide +kernel
theorem dX8_lays_70 : decode cX8_lays 70 = .ok (.iload 5, 2) := by decide +kernel
theorem dX8_lays_72 : decode cX8_lays 72 = .ok (.iaload, 1) := by decide +kernel
theorem dX8_lays_73 : decode cX8_lays 73 = .ok (.goto 4, 3) := by decide +kernel
theorem dX8_lays_76 : decode cX8_lays 76 = .ok (.iconst 0, 1) := by decide +kernel
theorem dX8_lays_77 : decode cX8_lays 77 = .ok (.iadd, 1) := by decide +kernel
theorem dX8_lays_78 : decode cX8_lays 78 = .ok (.iastore, 1) := by decide +kernel
theorem dX8_lays_79 : decode cX8_lays 79 = .ok (.iload 4, 2) := by decide +kernel
theorem dX8_lays_81 : decode cX8_lays 81 = .ok (.ifCond .lt 13, 3) := by decide +kernel
theorem dX8_lays_84 : decode cX8_lays 84 = .ok (.aload_n 0, 1) := by decide +kernel
theorem dX8_lays_85 : decode cX8_lays 85 = .ok (.getfield 30, 3) := by decide +kernel
theorem dX8_lays_88 : decode cX8_lays 88 = .ok (.iload 4, 2) := by decide +kernel
theorem dX8_lays_90 : decode cX8_lays 90 = .ok (.iaload, 1) := by decide +kernel
theorem dX8_lays_91 : decode cX8_lays 91 = .ok (.goto 4, 3) := by decide +kernel
theorem dX8_lays_94 : decode cX8_lays 94 = .ok (.iconst (-1), 1) := by decide +kernel
theorem dX8_lays_95 : decode cX8_lays 95 = .ok (.iload 5, 2) := by decide +kernel
theorem dX8_lays_97 : decode cX8_lays 97 = .ok (.ifCond .lt 13, 3) := by decide +kernel
theorem dX8_lays_100 : decode cX8_lays 100 = .ok (.aload_n 0, 1) := by decide +kernel
theorem dX8_lays_101 : decode cX8_lays 101 = .ok (.getfield 30, 3) := by decide +kernel
theorem dX8_lays_104 : decode cX8_lays 104 = .ok (.iload 5, 2) := by decide +kernel
theorem dX8_lays_106 : decode cX8_lays 106 = .ok (.iaload, 1) := by decide +kernel
theorem dX8_lays_107 : decode cX8_lays 107 = .ok (.goto 4, 3) := by decide +kernel
theorem dX8_lays_110 : decode cX8_lays 110 = .ok (.iconst (-1), 1) := by decide +kernel
theorem dX8_lays_111 : decode cX8_lays 111 = .ok (.invokestatic 96, 3) := by decide +kernel
theorem dX8_lays_114 : decode cX8_lays 114 = .ok (.istore 7, 2) := by decide +kernel
theorem dX8_lays_116 : decode cX8_lays 116 = .ok (.aload_n 0, 1) := by decide +kernel
theorem dX8_lays_117 : decode cX8_lays 117 = .ok (.getfield 30, 3) := by decide +kernel
theorem dX8_lays_120 : decode cX8_lays 120 = .ok (.iload_n 1, 1) := by decide +kernel
theorem dX8_lays_121 : decode cX8_lays 121 = .ok (.iload 7, 2) := by decide +kernel
theorem dX8_lays_123 : decode cX8_lays 123 = .ok (.iconst 1, 1) := by decide +kernel
theorem dX8_lays_124 : decode cX8_lays 124 = .ok (.iadd, 1) := by decide +kernel
theorem dX8_lays_125 : decode cX8_lays 125 = .ok (.iastore, 1) := by decide +kernel
theorem dX8_lays_126 : decode cX8_lays 126 = .ok (.return_, 1) := by decide +kernel
theorem dX8_adds_0 : decode cX8_adds 0 = .ok (.aload_n 0, 1) := by decide +kernel
theorem dX8_adds_1 : decode cX8_adds 1 = .ok (.getfield 77, 3) := by decide +kernel
theorem dX8_adds_4 : decode cX8_adds 4 = .ok (.bipush 24, 2) := by decide +kernel
theorem dX8_adds_6 : decode cX8_adds 6 = .ok (.if_icmp .ne 6, 3) := by decide +kernel
theorem dX8_adds_9 : decode cX8_adds 9 = .ok (.bipush (-4), 2) := by decide +kernel
theorem dX8_adds_11 : decode cX8_adds 11 = .ok (.ireturn, 1) := by decide +kernel
theorem dX8_adds_12 : decode cX8_adds 12 = .ok (.aload_n 0, 1) := by decide +kernel
theorem dX8_adds_13 : decode cX8_adds 13 = .ok (.aload_n 0, 1) := by decide +kernel
theorem dX8_adds_14 : decode cX8_adds 14 = .ok (.getfield 77, 3) := by decide +kernel
theorem dX8_adds_17 : decode cX8_adds 17 = .ok (.iload_n 1, 1) := by decide +kernel
theorem dX8_adds_18 : decode cX8_adds 18 = .ok (.iload_n 2, 1) := by decide +kernel
theorem dX8_adds_19 : decode cX8_adds 19 = .ok (.iload_n 3, 1) := by decide +kernel
theorem dX8_adds_20 : decode cX8_adds 20 = .ok (.iload 4, 2) := by decide +kernel
theorem dX8_adds_22 : decode cX8_adds 22 = .ok (.iload 5, 2) := by decide +kernel
theorem dX8_adds_24 : decode cX8_adds 24 = .ok (.invokevirtual 101, 3) := by decide +kernel
theorem dX8_adds_27 : decode cX8_adds 27 = .ok (.aload_n 0, 1) := by decide +kernel
theorem dX8_adds_28 : decode cX8_adds 28 = .ok (.getfield 27, 3) := by decide +kernel
theorem dX8_adds_31 : decode cX8_adds 31 = .ok (.aload_n 0, 1) := by decide +kernel
theorem dX8_adds_32 : decode cX8_adds 32 = .ok (.getfield 77, 3) := by decide +kernel
theorem dX8_adds_35 : decode cX8_adds 35 = .ok (.iaload, 1) := by decide +kernel
theorem dX8_adds_36 : decode cX8_adds 36 = .ok (.bipush 40, 2) := by decide +kernel
theorem dX8_adds_38 : decode cX8_adds 38 = .ok (.if_icmp .le 8, 3) := by decide +kernel
theorem dX8_adds_41 : decode cX8_adds 41 = .ok (.bipush (-4), 2) := by decide +kernel
theorem dX8_adds_43 : decode cX8_adds 43 = .ok (.goto 14, 3) := by decide +kernel
theorem dX8_adds_46 : decode cX8_adds 46 = .ok (.aload_n 0, 1) := by decide +kernel
theorem dX8_adds_47 : decode cX8_adds 47 = .ok (.dup, 1) := by decide +kernel
theorem dX8_adds_48 : decode cX8_adds 48 = .ok (.getfield 77, 3) := by decide +kernel
theorem dX8_adds_51 : decode cX8_adds 51 = .ok (.dup_x1, 1) := by decide +kernel
theorem dX8_adds_52 : decode cX8_adds 52 = .ok (.iconst 1, 1) := by decide +kernel
theorem dX8_adds_53 : decode cX8_adds 53 = .ok (.iadd, 1) := by decide +kernel
theorem dX8_adds_54 : decode cX8_adds 54 = .ok (.putfield 77, 3) := by decide +kernel
theorem dX8_adds_57 : decode cX8_adds 57 = .ok (.ireturn, 1) := by decide +kernel
theorem dX8_flat_0 : decode cX8_flat 0 = .ok (.iload_n 1, 1) := by decide +kernel
theorem dX8_flat_1 : decode cX8_flat 1 = .ok (.iconst 0, 1) := by decide +kernel
theorem dX8_flat_2 : decode cX8_flat 2 = .ok (.bipush 99, 2) := by decide +kernel
theorem dX8_flat_4 : decode cX8_flat 4 = .ok (.invokestatic 80, 3) := by decide +kernel
theorem dX8_flat_7 : decode cX8_flat 7 = .ok (.ifCond .eq 18, 3) := by decide +kernel
theorem dX8_flat_10 : decode cX8_flat 10 = .ok (.aload_n 0, 1) := by decide +kernel
theorem dX8_flat_11 : decode cX8_flat 11 = .ok (.iconst 0, 1) := by decide +kernel
theorem dX8_flat_12 : decode cX8_flat 12 = .ok (.iload_n 1, 1) := by decide +kernel
theorem dX8_flat_13 : decode cX8_flat 13 = .ok (.bipush (-5), 2) := by decide +kernel
theorem dX8_flat_15 : decode cX8_flat 15 = .ok (.bipush (-5), 2) := by decide +kernel
theorem dX8_flat_17 : decode cX8_flat 17 = .ok (.bipush (-5), 2) := by decide +kernel
theorem dX8_flat_19 : decode cX8_flat 19 = .ok (.invokevirtual 105, 3) := by decide +kernel
theorem dX8_flat_22 : decode cX8_flat 22 = .ok (.goto 5, 3) := by decide +kernel
theorem dX8_flat_25 : decode cX8_flat 25 = .ok (.bipush (-2), 2) := by decide +kernel
theorem dX8_flat_27 : decode cX8_flat 27 = .ok (.ireturn, 1) := by decide +kernel
theorem dX8_empty_0 : decode cX8_empty 0 = .ok (.aload_n 0, 1) := by decide +kernel
theorem dX8_empty_1 : decode cX8_empty 1 = .ok (.iconst 1, 1) := by decide +kernel
theorem dX8_empty_2 : decode cX8_empty 2 = .ok (.bipush (-5), 2) := by decide +kernel
theorem dX8_empty_4 : decode cX8_empty 4 = .ok (.bipush (-5), 2) := by decide +kernel
theorem dX8_empty_6 : decode cX8_empty 6 = .ok (.bipush (-5), 2) := by decide +kernel
theorem dX8_empty_8 : decode cX8_empty 8 = .ok (.bipush (-5), 2) := by decide +kernel
theorem dX8_empty_10 : decode cX8_empty 10 = .ok (.invokevirtual 105, 3) := by decide +kernel
theorem dX8_empty_13 : decode cX8_empty 13 = .ok (.ireturn, 1) := by decide +kernel
theorem dX8_when_0 : decode cX8_when 0 = .ok (.aload_n 0, 1) := by decide +kernel
theorem dX8_when_1 : decode cX8_when 1 = .ok (.iload_n 1, 1) := by decide +kernel
theorem dX8_when_2 : decode cX8_when 2 = .ok (.invokevirtual 109, 3) := by decide +kernel
theorem dX8_when_5 : decode cX8_when 5 = .ok (.ifCond .ne 5, 3) := by decide +kernel
theorem dX8_when_8 : decode cX8_when 8 = .ok (.iconst (-1), 1) := by decide +kernel
theorem dX8_when_9 : decode cX8_when 9 = .ok (.ireturn, 1) := by decide +kernel
theorem dX8_when_10 : decode cX8_when 10 = .ok (.iload_n 2, 1) := by decide +kernel
theorem dX8_when_11 : decode cX8_when 11 = .ok (.invokestatic 113, 3) := by decide +kernel
theorem dX8_when_14 : decode cX8_when 14 = .ok (.ifCond .eq 17, 3) := by decide +kernel
theorem dX8_when_17 : decode cX8_when 17 = .ok (.aload_n 0, 1) := by decide +kernel
theorem dX8_when_18 : decode cX8_when 18 = .ok (.iconst 2, 1) := by decide +kernel
theorem dX8_when_19 : decode cX8_when 19 = .ok (.bipush (-5), 2) := by decide +kernel
theorem dX8_when_21 : decode cX8_when 21 = .ok (.iload_n 1, 1) := by decide +kernel
theorem dX8_when_22 : decode cX8_when 22 = .ok (.bipush (-5), 2) := by decide +kernel
theorem dX8_when_24 : decode cX8_when 24 = .ok (.iload_n 2, 1) := by decide +kernel
theorem dX8_when_25 : decode cX8_when 25 = .ok (.invokevirtual 105, 3) := by decide +kernel
theorem dX8_when_28 : decode cX8_when 28 = .ok (.goto 5, 3) := by decide +kernel
theorem dX8_when_31 : decode cX8_when 31 = .ok (.bipush (-2), 2) := by decide +kernel
theorem dX8_when_33 : decode cX8_when 33 = .ok (.ireturn, 1) := by decide +kernel
theorem dX8_cap_0 : decode cX8_cap 0 = .ok (.aload_n 0, 1) := by decide +kernel
theorem dX8_cap_1 : decode cX8_cap 1 = .ok (.iload_n 1, 1) := by decide +kernel
theorem dX8_cap_2 : decode cX8_cap 2 = .ok (.invokevirtual 109, 3) := by decide +kernel
theorem dX8_cap_5 : decode cX8_cap 5 = .ok (.ifCond .ne 5, 3) := by decide +kernel
theorem dX8_cap_8 : decode cX8_cap 8 = .ok (.iconst (-1), 1) := by decide +kernel
theorem dX8_cap_9 : decode cX8_cap 9 = .ok (.ireturn, 1) := by decide +kernel
theorem dX8_cap_10 : decode cX8_cap 10 = .ok (.iload_n 2, 1) := by decide +kernel
theorem dX8_cap_11 : decode cX8_cap 11 = .ok (.invokestatic 113, 3) := by decide +kernel
theorem dX8_cap_14 : decode cX8_cap 14 = .ok (.ifCond .eq 27, 3) := by decide +kernel
theorem dX8_cap_17 : decode cX8_cap 17 = .ok (.iload_n 3, 1) := by decide +kernel
theorem dX8_cap_18 : decode cX8_cap 18 = .ok (.iconst 0, 1) := by decide +kernel
theorem dX8_cap_19 : decode cX8_cap 19 = .ok (.bipush 99, 2) := by decide +kernel
theorem dX8_cap_21 : decode cX8_cap 21 = .ok (.invokestatic 80, 3) := by decide +kernel
theorem dX8_cap_24 : decode cX8_cap 24 = .ok (.ifCond .eq 17, 3) := by decide +kernel
theorem dX8_cap_27 : decode cX8_cap 27 = .ok (.aload_n 0, 1) := by decide +kernel
theorem dX8_cap_28 : decode cX8_cap 28 = .ok (.bipush 6, 2) := by decide +kernel
theorem dX8_cap_30 : decode cX8_cap 30 = .ok (.iload_n 3, 1) := by decide +kernel
theorem dX8_cap_31 : decode cX8_cap 31 = .ok (.iload_n 1, 1) := by decide +kernel
theorem dX8_cap_32 : decode cX8_cap 32 = .ok (.bipush (-5), 2) := by decide +kernel
theorem dX8_cap_34 : decode cX8_cap 34 = .ok (.iload_n 2, 1) := by decide +kernel
theorem dX8_cap_35 : decode cX8_cap 35 = .ok (.invokevirtual 105, 3) := by decide +kernel
theorem dX8_cap_38 : decode cX8_cap 38 = .ok (.goto 5, 3) := by decide +kernel
theorem dX8_cap_41 : decode cX8_cap 41 = .ok (.bipush (-2), 2) := by decide +kernel
theorem dX8_cap_43 : decode cX8_cap 43 = .ok (.ireturn, 1) := by decide +kernel
theorem dX8_two_0 : decode cX8_two 0 = .ok (.iload_n 1, 1) := by decide +kernel
theorem dX8_two_1 : decode cX8_two 1 = .ok (.iconst 0, 1) := by decide +kernel
theorem dX8_two_2 : decode cX8_two 2 = .ok (.bipush 7, 2) := by decide +kernel
theorem dX8_two_4 : decode cX8_two 4 = .ok (.invokestatic 80, 3) := by decide +kernel
theorem dX8_two_7 : decode cX8_two 7 = .ok (.ifCond .eq 26, 3) := by decide +kernel
theorem dX8_two_10 : decode cX8_two 10 = .ok (.iload_n 1, 1) := by decide +kernel
theorem dX8_two_11 : decode cX8_two 11 = .ok (.invokestatic 116, 3) := by decide +kernel
theorem dX8_two_14 : decode cX8_two 14 = .ok (.ifCond .eq 19, 3) := by decide +kernel
theorem dX8_two_17 : decode cX8_two 17 = .ok (.aload_n 0, 1) := by decide +kernel
theorem dX8_two_18 : decode cX8_two 18 = .ok (.iload_n 2, 1) := by decide +kernel
theorem dX8_two_19 : decode cX8_two 19 = .ok (.invokevirtual 109, 3) := by decide +kernel
theorem dX8_two_22 : decode cX8_two 22 = .ok (.ifCond .eq 11, 3) := by decide +kernel
theorem dX8_two_25 : decode cX8_two 25 = .ok (.aload_n 0, 1) := by decide +kernel
theorem dX8_two_26 : decode cX8_two 26 = .ok (.iload_n 3, 1) := by decide +kernel
theorem dX8_two_27 : decode cX8_two 27 = .ok (.invokevirtual 109, 3) := by decide +kernel
theorem dX8_two_30 : decode cX8_two 30 = .ok (.ifCond .ne 5, 3) := by decide +kernel
theorem dX8_two_33 : decode cX8_two 33 = .ok (.iconst (-1), 1) := by decide +kernel
theorem dX8_two_34 : decode cX8_two 34 = .ok (.ireturn, 1) := by decide +kernel
theorem dX8_two_35 : decode cX8_two 35 = .ok (.aload_n 0, 1) := by decide +kernel
theorem dX8_two_36 : decode cX8_two 36 = .ok (.iload_n 1, 1) := by decide +kernel
theorem dX8_two_37 : decode cX8_two 37 = .ok (.bipush (-5), 2) := by decide +kernel
theorem dX8_two_39 : decode cX8_two 39 = .ok (.iload_n 2, 1) := by decide +kernel
theorem dX8_two_40 : decode cX8_two 40 = .ok (.iload_n 3, 1) := by decide +kernel
theorem dX8_two_41 : decode cX8_two 41 = .ok (.bipush (-5), 2) := by decide +kernel
theorem dX8_two_43 : decode cX8_two 43 = .ok (.invokevirtual 105, 3) := by decide +kernel
theorem dX8_two_46 : decode cX8_two 46 = .ok (.ireturn, 1) := by decide +kernel
theorem dX8_drop_0 : decode cX8_drop 0 = .ok (.aload_n 0, 1) := by decide +kernel
theorem dX8_drop_1 : decode cX8_drop 1 = .ok (.getfield 77, 3) := by decide +kernel
theorem dX8_drop_4 : decode cX8_drop 4 = .ok (.ifCond .ne 6, 3) := by decide +kernel
theorem dX8_drop_7 : decode cX8_drop 7 = .ok (.bipush (-3), 2) := by decide +kernel
theorem dX8_drop_9 : decode cX8_drop 9 = .ok (.ireturn, 1) := by decide +kernel
theorem dX8_drop_10 : decode cX8_drop 10 = .ok (.aload_n 0, 1) := by decide +kernel
theorem dX8_drop_11 : decode cX8_drop 11 = .ok (.dup, 1) := by decide +kernel
theorem dX8_drop_12 : decode cX8_drop 12 = .ok (.getfield 77, 3) := by decide +kernel
theorem dX8_drop_15 : decode cX8_drop 15 = .ok (.iconst 1, 1) := by decide +kernel
theorem dX8_drop_16 : decode cX8_drop 16 = .ok (.isub, 1) := by decide +kernel
theorem dX8_drop_17 : decode cX8_drop 17 = .ok (.putfield 77, 3) := by decide +kernel
theorem dX8_drop_20 : decode cX8_drop 20 = .ok (.aload_n 0, 1) := by decide +kernel
theorem dX8_drop_21 : decode cX8_drop 21 = .ok (.getfield 77, 3) := by decide +kernel
theorem dX8_drop_24 : decode cX8_drop 24 = .ok (.ireturn, 1) := by decide +kernel
theorem dX8_feed_0 : decode cX8_feed 0 = .ok (.iload_n 1, 1) := by decide +kernel
theorem dX8_feed_1 : decode cX8_feed 1 = .ok (.iconst 1, 1) := by decide +kernel
theorem dX8_feed_2 : decode cX8_feed 2 = .ok (.bipush 127, 2) := by decide +kernel
theorem dX8_feed_4 : decode cX8_feed 4 = .ok (.invokestatic 80, 3) := by decide +kernel
theorem dX8_feed_7 : decode cX8_feed 7 = .ok (.ifCond .ne 6, 3) := by decide +kernel
theorem dX8_feed_10 : decode cX8_feed 10 = .ok (.bipush (-2), 2) := by decide +kernel
theorem dX8_feed_12 : decode cX8_feed 12 = .ok (.ireturn, 1) := by decide +kernel
theorem dX8_feed_13 : decode cX8_feed 13 = .ok (.aload_n 0, 1) := by decide +kernel
theorem dX8_feed_14 : decode cX8_feed 14 = .ok (.getfield 119, 3) := by decide +kernel
theorem dX8_feed_17 : decode cX8_feed 17 = .ok (.bipush 60, 2) := by decide +kernel
theorem dX8_feed_19 : decode cX8_feed 19 = .ok (.if_icmp .ne 6, 3) := by decide +kernel
theorem dX8_feed_22 : decode cX8_feed 22 = .ok (.bipush (-4), 2) := by decide +kernel
theorem dX8_feed_24 : decode cX8_feed 24 = .ok (.ireturn, 1) := by decide +kernel
theorem dX8_feed_25 : decode cX8_feed 25 = .ok (.aload_n 0, 1) := by decide +kernel
theorem dX8_feed_26 : decode cX8_feed 26 = .ok (.getfield 56, 3) := by decide +kernel
theorem dX8_feed_29 : decode cX8_feed 29 = .ok (.aload_n 0, 1) := by decide +kernel
theorem dX8_feed_30 : decode cX8_feed 30 = .ok (.dup, 1) := by decide +kernel
theorem dX8_feed_31 : decode cX8_feed 31 = .ok (.getfield 119, 3) := by decide +kernel
theorem dX8_feed_34 : decode cX8_feed 34 = .ok (.dup_x1, 1) := by decide +kernel
theorem dX8_feed_35 : decode cX8_feed 35 = .ok (.iconst 1, 1) := by decide +kernel
theorem dX8_feed_36 : decode cX8_feed 36 = .ok (.iadd, 1) := by decide +kernel
theorem dX8_feed_37 : decode cX8_feed 37 = .ok (.putfield 119, 3) := by decide +kernel
theorem dX8_feed_40 : decode cX8_feed 40 = .ok (.iload_n 1, 1) := by decide +kernel
theorem dX8_feed_41 : decode cX8_feed 41 = .ok (.iastore, 1) := by decide +kernel
theorem dX8_feed_42 : decode cX8_feed 42 = .ok (.aload_n 0, 1) := by decide +kernel
theorem dX8_feed_43 : decode cX8_feed 43 = .ok (.getfield 119, 3) := by decide +kernel
theorem dX8_feed_46 : decode cX8_feed 46 = .ok (.ireturn, 1) := by decide +kernel
theorem dX8_clear_0 : decode cX8_clear 0 = .ok (.aload_n 0, 1) := by decide +kernel
theorem dX8_clear_1 : decode cX8_clear 1 = .ok (.getfield 119, 3) := by decide +kernel
theorem dX8_clear_4 : decode cX8_clear 4 = .ok (.istore_n 1, 1) := by decide +kernel
theorem dX8_clear_5 : decode cX8_clear 5 = .ok (.aload_n 0, 1) := by decide +kernel
theorem dX8_clear_6 : decode cX8_clear 6 = .ok (.iconst 0, 1) := by decide +kernel
theorem dX8_clear_7 : decode cX8_clear 7 = .ok (.putfield 119, 3) := by decide +kernel
theorem dX8_clear_10 : decode cX8_clear 10 = .ok (.iload_n 1, 1) := by decide +kernel
theorem dX8_clear_11 : decode cX8_clear 11 = .ok (.ireturn, 1) := by decide +kernel
theorem dX8_next_0 : decode cX8_next 0 = .ok (.aload_n 0, 1) := by decide +kernel
theorem dX8_next_1 : decode cX8_next 1 = .ok (.getfield 122, 3) := by decide +kernel
theorem dX8_next_4 : decode cX8_next 4 = .ok (.aload_n 0, 1) := by decide +kernel
theorem dX8_next_5 : decode cX8_next 5 = .ok (.getfield 119, 3) := by decide +kernel
theorem dX8_next_8 : decode cX8_next 8 = .ok (.if_icmp .ge 15, 3) := by decide +kernel
theorem dX8_next_11 : decode cX8_next 11 = .ok (.aload_n 0, 1) := by decide +kernel
theorem dX8_next_12 : decode cX8_next 12 = .ok (.getfield 56, 3) := by decide +kernel
theorem dX8_next_15 : decode cX8_next 15 = .ok (.aload_n 0, 1) := by decide +kernel
theorem dX8_next_16 : decode cX8_next 16 = .ok (.getfield 122, 3) := by decide +kernel
theorem dX8_next_19 : decode cX8_next 19 = .ok (.iaload, 1) := by decide +kernel
theorem dX8_next_20 : decode cX8_next 20 = .ok (.goto 4, 3) := by decide +kernel
theorem dX8_next_23 : decode cX8_next 23 = .ok (.iconst 0, 1) := by decide +kernel
theorem dX8_next_24 : decode cX8_next 24 = .ok (.ireturn, 1) := by decide +kernel
theorem dX8_is_0 : decode cX8_is 0 = .ok (.aload_n 0, 1) := by decide +kernel
theorem dX8_is_1 : decode cX8_is 1 = .ok (.invokevirtual 125, 3) := by decide +kernel
theorem dX8_is_4 : decode cX8_is 4 = .ok (.iload_n 1, 1) := by decide +kernel
theorem dX8_is_5 : decode cX8_is 5 = .ok (.if_icmp .eq 12, 3) := by decide +kernel
theorem dX8_is_8 : decode cX8_is 8 = .ok (.aload_n 0, 1) := by decide +kernel
theorem dX8_is_9 : decode cX8_is 9 = .ok (.aload_n 0, 1) := by decide +kernel
theorem dX8_is_10 : decode cX8_is 10 = .ok (.getfield 122, 3) := by decide +kernel
theorem dX8_is_13 : decode cX8_is 13 = .ok (.invokevirtual 129, 3) := by decide +kernel
theorem dX8_is_16 : decode cX8_is 16 = .ok (.ireturn, 1) := by decide +kernel
theorem dX8_is_17 : decode cX8_is 17 = .ok (.aload_n 0, 1) := by decide +kernel
theorem dX8_is_18 : decode cX8_is 18 = .ok (.dup, 1) := by decide +kernel
theorem dX8_is_19 : decode cX8_is 19 = .ok (.getfield 122, 3) := by decide +kernel
theorem dX8_is_22 : decode cX8_is 22 = .ok (.iconst 1, 1) := by decide +kernel
theorem dX8_is_23 : decode cX8_is 23 = .ok (.iadd, 1) := by decide +kernel
theorem dX8_is_24 : decode cX8_is 24 = .ok (.putfield 122, 3) := by decide +kernel
theorem dX8_is_27 : decode cX8_is 27 = .ok (.iconst 1, 1) := by decide +kernel
theorem dX8_is_28 : decode cX8_is 28 = .ok (.ireturn, 1) := by decide +kernel
theorem dX8_wrong_0 : decode cX8_wrong 0 = .ok (.aload_n 0, 1) := by decide +kernel
theorem dX8_wrong_1 : decode cX8_wrong 1 = .ok (.iload_n 1, 1) := by decide +kernel
theorem dX8_wrong_2 : decode cX8_wrong 2 = .ok (.putfield 132, 3) := by decide +kernel
theorem dX8_wrong_5 : decode cX8_wrong 5 = .ok (.iconst 0, 1) := by decide +kernel
theorem dX8_wrong_6 : decode cX8_wrong 6 = .ok (.ireturn, 1) := by decide +kernel
theorem dX8_isFigure_0 : decode cX8_isFigure 0 = .ok (.aload_n 0, 1) := by decide +kernel
theorem dX8_isFigure_1 : decode cX8_isFigure 1 = .ok (.invokevirtual 125, 3) := by decide +kernel
theorem dX8_isFigure_4 : decode cX8_isFigure 4 = .ok (.bipush 48, 2) := by decide +kernel
theorem dX8_isFigure_6 : decode cX8_isFigure 6 = .ok (.bipush 57, 2) := by decide +kernel
theorem dX8_isFigure_8 : decode cX8_isFigure 8 = .ok (.invokestatic 80, 3) := by decide +kernel
theorem dX8_isFigure_11 : decode cX8_isFigure 11 = .ok (.ireturn, 1) := by decide +kernel
theorem dX8_number_0 : decode cX8_number 0 = .ok (.aload_n 0, 1) := by decide +kernel
theorem dX8_number_1 : decode cX8_number 1 = .ok (.invokevirtual 135, 3) := by decide +kernel
theorem dX8_number_4 : decode cX8_number 4 = .ok (.ifCond .ne 13, 3) := by decide +kernel
theorem dX8_number_7 : decode cX8_number 7 = .ok (.aload_n 0, 1) := by decide +kernel
theorem dX8_number_8 : decode cX8_number 8 = .ok (.aload_n 0, 1) := by decide +kernel
theorem dX8_number_9 : decode cX8_number 9 = .ok (.getfield 122, 3) := by decide +kernel
theorem dX8_number_12 : decode cX8_number 12 = .ok (.putfield 132, 3) := by decide +kernel
theorem dX8_number_15 : decode cX8_number 15 = .ok (.iconst (-1), 1) := by decide +kernel
theorem dX8_number_16 : decode cX8_number 16 = .ok (.ireturn, 1) := by decide +kernel
theorem dX8_number_17 : decode cX8_number 17 = .ok (.aload_n 0, 1) := by decide +kernel
theorem dX8_number_18 : decode cX8_number 18 = .ok (.invokevirtual 125, 3) := by decide +kernel
theorem dX8_number_21 : decode cX8_number 21 = .ok (.bipush 48, 2) := by decide +kernel
theorem dX8_number_23 : decode cX8_number 23 = .ok (.isub, 1) := by decide +kernel
theorem dX8_number_24 : decode cX8_number 24 = .ok (.istore_n 1, 1) := by decide +kernel
theorem dX8_number_25 : decode cX8_number 25 = .ok (.aload_n 0, 1) := by decide +kernel
theorem dX8_number_26 : decode cX8_number 26 = .ok (.dup, 1) := by decide +kernel
theorem dX8_number_27 : decode cX8_number 27 = .ok (.getfield 122, 3) := by decide +kernel
theorem dX8_number_30 : decode cX8_number 30 = .ok (.iconst 1, 1) := by decide +kernel
theorem dX8_number_31 : decode cX8_number 31 = .ok (.iadd, 1) := by decide +kernel
theorem dX8_number_32 : decode cX8_number 32 = .ok (.putfield 122, 3) := by decide +kernel
theorem dX8_number_35 : decode cX8_number 35 = .ok (.aload_n 0, 1) := by decide +kernel
theorem dX8_number_36 : decode cX8_number 36 = .ok (.invokevirtual 135, 3) := by decide +kernel
theorem dX8_number_39 : decode cX8_number 39 = .ok (.ifCond .ne 5, 3) := by decide +kernel
theorem dX8_number_42 : decode cX8_number 42 = .ok (.iload_n 1, 1) := by decide +kernel
theorem dX8_number_43 : decode cX8_number 43 = .ok (.ireturn, 1) := by decide +kernel
theorem dX8_number_44 : decode cX8_number 44 = .ok (.bipush 10, 2) := by decide +kernel
theorem dX8_number_46 : decode cX8_number 46 = .ok (.iload_n 1, 1) := by decide +kernel
theorem dX8_number_47 : decode cX8_number 47 = .ok (.imul, 1) := by decide +kernel
theorem dX8_number_48 : decode cX8_number 48 = .ok (.aload_n 0, 1) := by decide +kernel
theorem dX8_number_49 : decode cX8_number 49 = .ok (.invokevirtual 125, 3) := by decide +kernel
theorem dX8_number_52 : decode cX8_number 52 = .ok (.iadd, 1) := by decide +kernel
theorem dX8_number_53 : decode cX8_number 53 = .ok (.bipush 48, 2) := by decide +kernel
theorem dX8_number_55 : decode cX8_number 55 = .ok (.isub, 1) := by decide +kernel
theorem dX8_number_56 : decode cX8_number 56 = .ok (.istore_n 1, 1) := by decide +kernel
theorem dX8_number_57 : decode cX8_number 57 = .ok (.aload_n 0, 1) := by decide +kernel
theorem dX8_number_58 : decode cX8_number 58 = .ok (.dup, 1) := by decide +kernel
theorem dX8_number_59 : decode cX8_number 59 = .ok (.getfield 122, 3) := by decide +kernel
theorem dX8_number_62 : decode cX8_number 62 = .ok (.iconst 1, 1) := by decide +kernel
theorem dX8_number_63 : decode cX8_number 63 = .ok (.iadd, 1) := by decide +kernel
theorem dX8_number_64 : decode cX8_number 64 = .ok (.putfield 122, 3) := by decide +kernel
theorem dX8_number_67 : decode cX8_number 67 = .ok (.iload_n 1, 1) := by decide +kernel
theorem dX8_number_68 : decode cX8_number 68 = .ok (.ireturn, 1) := by decide +kernel
theorem dX8_ends_0 : decode cX8_ends 0 = .ok (.iload_n 1, 1) := by decide +kernel
theorem dX8_ends_1 : decode cX8_ends 1 = .ok (.ifCond .lt 10, 3) := by decide +kernel
theorem dX8_ends_4 : decode cX8_ends 4 = .ok (.aload_n 0, 1) := by decide +kernel
theorem dX8_ends_5 : decode cX8_ends 5 = .ok (.invokevirtual 135, 3) := by decide +kernel
theorem dX8_ends_8 : decode cX8_ends 8 = .ok (.ifCond .ne 5, 3) := by decide +kernel
theorem dX8_ends_11 : decode cX8_ends 11 = .ok (.iload_n 1, 1) := by decide +kernel
theorem dX8_ends_12 : decode cX8_ends 12 = .ok (.ireturn, 1) := by decide +kernel
theorem dX8_ends_13 : decode cX8_ends 13 = .ok (.aload_n 0, 1) := by decide +kernel
theorem dX8_ends_14 : decode cX8_ends 14 = .ok (.aload_n 0, 1) := by decide +kernel
theorem dX8_ends_15 : decode cX8_ends 15 = .ok (.getfield 122, 3) := by decide +kernel
theorem dX8_ends_18 : decode cX8_ends 18 = .ok (.putfield 132, 3) := by decide +kernel
theorem dX8_ends_21 : decode cX8_ends 21 = .ok (.iconst (-1), 1) := by decide +kernel
theorem dX8_ends_22 : decode cX8_ends 22 = .ok (.ireturn, 1) := by decide +kernel
theorem dX8_boxThere_0 : decode cX8_boxThere 0 = .ok (.iconst 0, 1) := by decide +kernel
theorem dX8_boxThere_1 : decode cX8_boxThere 1 = .ok (.istore_n 1, 1) := by decide +kernel
theorem dX8_boxThere_2 : decode cX8_boxThere 2 = .ok (.iconst 0, 1) := by decide +kernel
theorem dX8_boxThere_3 : decode cX8_boxThere 3 = .ok (.istore_n 2, 1) := by decide +kernel
theorem dX8_boxThere_4 : decode cX8_boxThere 4 = .ok (.iconst 0, 1) := by decide +kernel
theorem dX8_boxThere_5 : decode cX8_boxThere 5 = .ok (.istore_n 3, 1) := by decide +kernel
theorem dX8_boxThere_6 : decode cX8_boxThere 6 = .ok (.iload_n 3, 1) := by decide +kernel
theorem dX8_boxThere_7 : decode cX8_boxThere 7 = .ok (.bipush 6, 2) := by decide +kernel
theorem dX8_boxThere_9 : decode cX8_boxThere 9 = .ok (.if_icmp .ge 78, 3) := by decide +kernel
theorem dX8_boxThere_12 : decode cX8_boxThere 12 = .ok (.aload_n 0, 1) := by decide +kernel
theorem dX8_boxThere_13 : decode cX8_boxThere 13 = .ok (.invokevirtual 125, 3) := by decide +kernel
theorem dX8_boxThere_16 : decode cX8_boxThere 16 = .ok (.bipush 48, 2) := by decide +kernel
theorem dX8_boxThere_18 : decode cX8_boxThere 18 = .ok (.isub, 1) := by decide +kernel
theorem dX8_boxThere_19 : decode cX8_boxThere 19 = .ok (.istore 4, 2) := by decide +kernel
theorem dX8_boxThere_21 : decode cX8_boxThere 21 = .ok (.aload_n 0, 1) := by decide +kernel
theorem dX8_boxThere_22 : decode cX8_boxThere 22 = .ok (.invokevirtual 135, 3) := by decide +kernel
theorem dX8_boxThere_25 : decode cX8_boxThere 25 = .ok (.ifCond .eq 25, 3) := by decide +kernel
theorem dX8_boxThere_28 : decode cX8_boxThere 28 = .ok (.iload 4, 2) := by decide +kernel
theorem dX8_boxThere_30 : decode cX8_boxThere 30 = .ok (.iload_n 3, 1) := by decide +kernel
theorem dX8_boxThere_31 : decode cX8_boxThere 31 = .ok (.invokestatic 89, 3) := by decide +kernel
theorem dX8_boxThere_34 : decode cX8_boxThere 34 = .ok (.if_icmp .gt 16, 3) := by decide +kernel
theorem dX8_boxThere_37 : decode cX8_boxThere 37 = .ok (.iload_n 3, 1) := by decide +kernel
theorem dX8_boxThere_38 : decode cX8_boxThere 38 = .ok (.iconst 2, 1) := by decide +kernel
theorem dX8_boxThere_39 : decode cX8_boxThere 39 = .ok (.irem, 1) := by decide +kernel
theorem dX8_boxThere_40 : decode cX8_boxThere 40 = .ok (.iconst 1, 1) := by decide +kernel
theorem dX8_boxThere_41 : decode cX8_boxThere 41 = .ok (.if_icmp .ne 19, 3) := by decide +kernel
theorem dX8_boxThere_44 : decode cX8_boxThere 44 = .ok (.iload 4, 2) := by decide +kernel
theorem dX8_boxThere_46 : decode cX8_boxThere 46 = .ok (.iload_n 2, 1) := by decide +kernel
theorem dX8_boxThere_47 : decode cX8_boxThere 47 = .ok (.if_icmp .ge 13, 3) := by decide +kernel
theorem dX8_boxThere_50 : decode cX8_boxThere 50 = .ok (.aload_n 0, 1) := by decide +kernel
theorem dX8_boxThere_51 : decode cX8_boxThere 51 = .ok (.aload_n 0, 1) := by decide +kernel
theorem dX8_boxThere_52 : decode cX8_boxThere 52 = .ok (.getfield 122, 3) := by decide +kernel
theorem dX8_boxThere_55 : decode cX8_boxThere 55 = .ok (.putfield 132, 3) := by decide +kernel
theorem dX8_boxThere_58 : decode cX8_boxThere 58 = .ok (.iconst (-1), 1) := by decide +kernel
theorem dX8_boxThere_59 : decode cX8_boxThere 59 = .ok (.ireturn, 1) := by decide +kernel
theorem dX8_boxThere_60 : decode cX8_boxThere 60 = .ok (.iload 4, 2) := by decide +kernel
theorem dX8_boxThere_62 : decode cX8_boxThere 62 = .ok (.istore_n 2, 1) := by decide +kernel
theorem dX8_boxThere_63 : decode cX8_boxThere 63 = .ok (.bipush 10, 2) := by decide +kernel
theorem dX8_boxThere_65 : decode cX8_boxThere 65 = .ok (.iload_n 1, 1) := by decide +kernel
theorem dX8_boxThere_66 : decode cX8_boxThere 66 = .ok (.imul, 1) := by decide +kernel
theorem dX8_boxThere_67 : decode cX8_boxThere 67 = .ok (.iload 4, 2) := by decide +kernel
theorem dX8_boxThere_69 : decode cX8_boxThere 69 = .ok (.iadd, 1) := by decide +kernel
theorem dX8_boxThere_70 : decode cX8_boxThere 70 = .ok (.istore_n 1, 1) := by decide +kernel
theorem dX8_boxThere_71 : decode cX8_boxThere 71 = .ok (.aload_n 0, 1) := by decide +kernel
theorem dX8_boxThere_72 : decode cX8_boxThere 72 = .ok (.dup, 1) := by decide +kernel
theorem dX8_boxThere_73 : decode cX8_boxThere 73 = .ok (.getfield 122, 3) := by decide +kernel
theorem dX8_boxThere_76 : decode cX8_boxThere 76 = .ok (.iconst 1, 1) := by decide +kernel
theorem dX8_boxThere_77 : decode cX8_boxThere 77 = .ok (.iadd, 1) := by decide +kernel
theorem dX8_boxThere_78 : decode cX8_boxThere 78 = .ok (.putfield 122, 3) := by decide +kernel
theorem dX8_boxThere_81 : decode cX8_boxThere 81 = .ok (.iinc 3 1, 3) := by decide +kernel
theorem dX8_boxThere_84 : decode cX8_boxThere 84 = .ok (.goto (-78), 3) := by decide +kernel
theorem dX8_boxThere_87 : decode cX8_boxThere 87 = .ok (.iload_n 1, 1) := by decide +kernel
theorem dX8_boxThere_88 : decode cX8_boxThere 88 = .ok (.ireturn, 1) := by decide +kernel
theorem dX8_makes_0 : decode cX8_makes 0 = .ok (.aload_n 0, 1) := by decide +kernel
theorem dX8_makes_1 : decode cX8_makes 1 = .ok (.aload_n 0, 1) := by decide +kernel
theorem dX8_makes_2 : decode cX8_makes 2 = .ok (.getfield 77, 3) := by decide +kernel
theorem dX8_makes_5 : decode cX8_makes 5 = .ok (.aload_n 0, 1) := by decide +kernel
theorem dX8_makes_6 : decode cX8_makes 6 = .ok (.getfield 139, 3) := by decide +kernel
theorem dX8_makes_9 : decode cX8_makes 9 = .ok (.iadd, 1) := by decide +kernel
theorem dX8_makes_10 : decode cX8_makes 10 = .ok (.iload_n 1, 1) := by decide +kernel
theorem dX8_makes_11 : decode cX8_makes 11 = .ok (.iload_n 2, 1) := by decide +kernel
theorem dX8_makes_12 : decode cX8_makes 12 = .ok (.iload_n 3, 1) := by decide +kernel
theorem dX8_makes_13 : decode cX8_makes 13 = .ok (.iload 4, 2) := by decide +kernel
theorem dX8_makes_15 : decode cX8_makes 15 = .ok (.iload 5, 2) := by decide +kernel
theorem dX8_makes_17 : decode cX8_makes 17 = .ok (.invokevirtual 101, 3) := by decide +kernel
theorem dX8_makes_20 : decode cX8_makes 20 = .ok (.aload_n 0, 1) := by decide +kernel
theorem dX8_makes_21 : decode cX8_makes 21 = .ok (.dup, 1) := by decide +kernel
theorem dX8_makes_22 : decode cX8_makes 22 = .ok (.getfield 139, 3) := by decide +kernel
theorem dX8_makes_25 : decode cX8_makes 25 = .ok (.iconst 1, 1) := by decide +kernel
theorem dX8_makes_26 : decode cX8_makes 26 = .ok (.iadd, 1) := by decide +kernel
theorem dX8_makes_27 : decode cX8_makes 27 = .ok (.putfield 139, 3) := by decide +kernel
theorem dX8_makes_30 : decode cX8_makes 30 = .ok (.aload_n 0, 1) := by decide +kernel
theorem dX8_makes_31 : decode cX8_makes 31 = .ok (.getfield 77, 3) := by decide +kernel
theorem dX8_makes_34 : decode cX8_makes 34 = .ok (.aload_n 0, 1) := by decide +kernel
theorem dX8_makes_35 : decode cX8_makes 35 = .ok (.getfield 139, 3) := by decide +kernel
theorem dX8_makes_38 : decode cX8_makes 38 = .ok (.iadd, 1) := by decide +kernel
theorem dX8_makes_39 : decode cX8_makes 39 = .ok (.iconst 1, 1) := by decide +kernel
theorem dX8_makes_40 : decode cX8_makes 40 = .ok (.isub, 1) := by decide +kernel
theorem dX8_makes_41 : decode cX8_makes 41 = .ok (.ireturn, 1) := by decide +kernel
theorem dX8_kindOf_0 : decode cX8_kindOf 0 = .ok (.iload_n 0, 1) := by decide +kernel
theorem dX8_kindOf_1 : decode cX8_kindOf 1 = .ok (.lookupswitch 73 #[(33, 70), (43, 66), (47, 64), (60, 68), (63, 59), (94, 61)], 59) := by decide +kernel
theorem dX8_kindOf_60 : decode cX8_kindOf 60 = .ok (.iconst 2, 1) := by decide +kernel
theorem dX8_kindOf_61 : decode cX8_kindOf 61 = .ok (.ireturn, 1) := by decide +kernel
theorem dX8_kindOf_62 : decode cX8_kindOf 62 = .ok (.bipush 6, 2) := by decide +kernel
theorem dX8_kindOf_64 : decode cX8_kindOf 64 = .ok (.ireturn, 1) := by decide +kernel
theorem dX8_kindOf_65 : decode cX8_kindOf 65 = .ok (.iconst 3, 1) := by decide +kernel
theorem dX8_kindOf_66 : decode cX8_kindOf 66 = .ok (.ireturn, 1) := by decide +kernel
theorem dX8_kindOf_67 : decode cX8_kindOf 67 = .ok (.iconst 4, 1) := by decide +kernel
theorem dX8_kindOf_68 : decode cX8_kindOf 68 = .ok (.ireturn, 1) := by decide +kernel
theorem dX8_kindOf_69 : decode cX8_kindOf 69 = .ok (.iconst 5, 1) := by decide +kernel
theorem dX8_kindOf_70 : decode cX8_kindOf 70 = .ok (.ireturn, 1) := by decide +kernel
theorem dX8_kindOf_71 : decode cX8_kindOf 71 = .ok (.bipush 7, 2) := by decide +kernel
theorem dX8_kindOf_73 : decode cX8_kindOf 73 = .ok (.ireturn, 1) := by decide +kernel
theorem dX8_kindOf_74 : decode cX8_kindOf 74 = .ok (.iconst (-1), 1) := by decide +kernel
theorem dX8_kindOf_75 : decode cX8_kindOf 75 = .ok (.ireturn, 1) := by decide +kernel
theorem dX8_term_0 : decode cX8_term 0 = .ok (.aload_n 0, 1) := by decide +kernel
theorem dX8_term_1 : decode cX8_term 1 = .ok (.invokevirtual 135, 3) := by decide +kernel
theorem dX8_term_4 : decode cX8_term 4 = .ok (.ifCond .eq 33, 3) := by decide +kernel
theorem dX8_term_7 : decode cX8_term 7 = .ok (.aload_n 0, 1) := by decide +kernel
theorem dX8_term_8 : decode cX8_term 8 = .ok (.aload_n 0, 1) := by decide +kernel
theorem dX8_term_9 : decode cX8_term 9 = .ok (.invokevirtual 142, 3) := by decide +kernel
theorem dX8_term_12 : decode cX8_term 12 = .ok (.invokevirtual 145, 3) := by decide +kernel
theorem dX8_term_15 : decode cX8_term 15 = .ok (.istore_n 2, 1) := by decide +kernel
theorem dX8_term_16 : decode cX8_term 16 = .ok (.iload_n 2, 1) := by decide +kernel
theorem dX8_term_17 : decode cX8_term 17 = .ok (.ifCond .ge 7, 3) := by decide +kernel
theorem dX8_term_20 : decode cX8_term 20 = .ok (.iconst (-1), 1) := by decide +kernel
theorem dX8_term_21 : decode cX8_term 21 = .ok (.goto 15, 3) := by decide +kernel
theorem dX8_term_24 : decode cX8_term 24 = .ok (.aload_n 0, 1) := by decide +kernel
theorem dX8_term_25 : decode cX8_term 25 = .ok (.iconst 0, 1) := by decide +kernel
theorem dX8_term_26 : decode cX8_term 26 = .ok (.iload_n 2, 1) := by decide +kernel
theorem dX8_term_27 : decode cX8_term 27 = .ok (.bipush (-5), 2) := by decide +kernel
theorem dX8_term_29 : decode cX8_term 29 = .ok (.bipush (-5), 2) := by decide +kernel
theorem dX8_term_31 : decode cX8_term 31 = .ok (.bipush (-5), 2) := by decide +kernel
theorem dX8_term_33 : decode cX8_term 33 = .ok (.invokevirtual 148, 3) := by decide +kernel
theorem dX8_term_36 : decode cX8_term 36 = .ok (.ireturn, 1) := by decide +kernel
theorem dX8_term_37 : decode cX8_term 37 = .ok (.aload_n 0, 1) := by decide +kernel
theorem dX8_term_38 : decode cX8_term 38 = .ok (.invokevirtual 125, 3) := by decide +kernel
theorem dX8_term_41 : decode cX8_term 41 = .ok (.bipush 45, 2) := by decide +kernel
theorem dX8_term_43 : decode cX8_term 43 = .ok (.if_icmp .ne 27, 3) := by decide +kernel
theorem dX8_term_46 : decode cX8_term 46 = .ok (.aload_n 0, 1) := by decide +kernel
theorem dX8_term_47 : decode cX8_term 47 = .ok (.dup, 1) := by decide +kernel
theorem dX8_term_48 : decode cX8_term 48 = .ok (.getfield 122, 3) := by decide +kernel
theorem dX8_term_51 : decode cX8_term 51 = .ok (.iconst 1, 1) := by decide +kernel
theorem dX8_term_52 : decode cX8_term 52 = .ok (.iadd, 1) := by decide +kernel
theorem dX8_term_53 : decode cX8_term 53 = .ok (.putfield 122, 3) := by decide +kernel
theorem dX8_term_56 : decode cX8_term 56 = .ok (.aload_n 0, 1) := by decide +kernel
theorem dX8_term_57 : decode cX8_term 57 = .ok (.iconst 1, 1) := by decide +kernel
theorem dX8_term_58 : decode cX8_term 58 = .ok (.bipush (-5), 2) := by decide +kernel
theorem dX8_term_60 : decode cX8_term 60 = .ok (.bipush (-5), 2) := by decide +kernel
theorem dX8_term_62 : decode cX8_term 62 = .ok (.bipush (-5), 2) := by decide +kernel
theorem dX8_term_64 : decode cX8_term 64 = .ok (.bipush (-5), 2) := by decide +kernel
theorem dX8_term_66 : decode cX8_term 66 = .ok (.invokevirtual 148, 3) := by decide +kernel
theorem dX8_term_69 : decode cX8_term 69 = .ok (.ireturn, 1) := by decide +kernel
theorem dX8_term_70 : decode cX8_term 70 = .ok (.aload_n 0, 1) := by decide +kernel
theorem dX8_term_71 : decode cX8_term 71 = .ok (.invokevirtual 125, 3) := by decide +kernel
theorem dX8_term_74 : decode cX8_term 74 = .ok (.bipush 35, 2) := by decide +kernel
theorem dX8_term_76 : decode cX8_term 76 = .ok (.if_icmp .ne 80, 3) := by decide +kernel
theorem dX8_term_79 : decode cX8_term 79 = .ok (.aload_n 0, 1) := by decide +kernel
theorem dX8_term_80 : decode cX8_term 80 = .ok (.getfield 59, 3) := by decide +kernel
theorem dX8_term_83 : decode cX8_term 83 = .ok (.aload_n 0, 1) := by decide +kernel
theorem dX8_term_84 : decode cX8_term 84 = .ok (.dup, 1) := by decide +kernel
theorem dX8_term_85 : decode cX8_term 85 = .ok (.getfield 151, 3) := by decide +kernel
theorem dX8_term_88 : decode cX8_term 88 = .ok (.dup_x1, 1) := by decide +kernel
theorem dX8_term_89 : decode cX8_term 89 = .ok (.iconst 1, 1) := by decide +kernel
theorem dX8_term_90 : decode cX8_term 90 = .ok (.iadd, 1) := by decide +kernel
theorem dX8_term_91 : decode cX8_term 91 = .ok (.putfield 151, 3) := by decide +kernel
theorem dX8_term_94 : decode cX8_term 94 = .ok (.aload_n 0, 1) := by decide +kernel
theorem dX8_term_95 : decode cX8_term 95 = .ok (.getfield 122, 3) := by decide +kernel
theorem dX8_term_98 : decode cX8_term 98 = .ok (.iastore, 1) := by decide +kernel
theorem dX8_term_99 : decode cX8_term 99 = .ok (.aload_n 0, 1) := by decide +kernel
theorem dX8_term_100 : decode cX8_term 100 = .ok (.dup, 1) := by decide +kernel
theorem dX8_term_101 : decode cX8_term 101 = .ok (.getfield 122, 3) := by decide +kernel
theorem dX8_term_104 : decode cX8_term 104 = .ok (.iconst 1, 1) := by decide +kernel
theorem dX8_term_105 : decode cX8_term 105 = .ok (.iadd, 1) := by decide +kernel
theorem dX8_term_106 : decode cX8_term 106 = .ok (.putfield 122, 3) := by decide +kernel
theorem dX8_term_109 : decode cX8_term 109 = .ok (.aload_n 0, 1) := by decide +kernel
theorem dX8_term_110 : decode cX8_term 110 = .ok (.getfield 122, 3) := by decide +kernel
theorem dX8_term_113 : decode cX8_term 113 = .ok (.istore_n 2, 1) := by decide +kernel
theorem dX8_term_114 : decode cX8_term 114 = .ok (.aload_n 0, 1) := by decide +kernel
theorem dX8_term_115 : decode cX8_term 115 = .ok (.invokevirtual 142, 3) := by decide +kernel
theorem dX8_term_118 : decode cX8_term 118 = .ok (.istore_n 3, 1) := by decide +kernel
theorem dX8_term_119 : decode cX8_term 119 = .ok (.iload_n 3, 1) := by decide +kernel
theorem dX8_term_120 : decode cX8_term 120 = .ok (.ifCond .ge 5, 3) := by decide +kernel
theorem dX8_term_123 : decode cX8_term 123 = .ok (.iconst (-1), 1) := by decide +kernel
theorem dX8_term_124 : decode cX8_term 124 = .ok (.ireturn, 1) := by decide +kernel
theorem dX8_term_125 : decode cX8_term 125 = .ok (.aload_n 0, 1) := by decide +kernel
theorem dX8_term_126 : decode cX8_term 126 = .ok (.iload_n 3, 1) := by decide +kernel
theorem dX8_term_127 : decode cX8_term 127 = .ok (.invokevirtual 109, 3) := by decide +kernel
theorem dX8_term_130 : decode cX8_term 130 = .ok (.ifCond .ne 10, 3) := by decide +kernel
theorem dX8_term_133 : decode cX8_term 133 = .ok (.aload_n 0, 1) := by decide +kernel
theorem dX8_term_134 : decode cX8_term 134 = .ok (.iload_n 2, 1) := by decide +kernel
theorem dX8_term_135 : decode cX8_term 135 = .ok (.putfield 132, 3) := by decide +kernel
theorem dX8_term_138 : decode cX8_term 138 = .ok (.iconst (-1), 1) := by decide +kernel
theorem dX8_term_139 : decode cX8_term 139 = .ok (.ireturn, 1) := by decide +kernel
theorem dX8_term_140 : decode cX8_term 140 = .ok (.aload_n 0, 1) := by decide +kernel
theorem dX8_term_141 : decode cX8_term 141 = .ok (.dup, 1) := by decide +kernel
theorem dX8_term_142 : decode cX8_term 142 = .ok (.getfield 151, 3) := by decide +kernel
theorem dX8_term_145 : decode cX8_term 145 = .ok (.iconst 1, 1) := by decide +kernel
theorem dX8_term_146 : decode cX8_term 146 = .ok (.isub, 1) := by decide +kernel
theorem dX8_term_147 : decode cX8_term 147 = .ok (.putfield 151, 3) := by decide +kernel
theorem dX8_term_150 : decode cX8_term 150 = .ok (.aload_n 0, 1) := by decide +kernel
theorem dX8_term_151 : decode cX8_term 151 = .ok (.iload_n 3, 1) := by decide +kernel
theorem dX8_term_152 : decode cX8_term 152 = .ok (.invokevirtual 145, 3) := by decide +kernel
theorem dX8_term_155 : decode cX8_term 155 = .ok (.ireturn, 1) := by decide +kernel
theorem dX8_term_156 : decode cX8_term 156 = .ok (.aload_n 0, 1) := by decide +kernel
theorem dX8_term_157 : decode cX8_term 157 = .ok (.invokevirtual 125, 3) := by decide +kernel
theorem dX8_term_160 : decode cX8_term 160 = .ok (.invokestatic 154, 3) := by decide +kernel
theorem dX8_term_163 : decode cX8_term 163 = .ok (.istore_n 2, 1) := by decide +kernel
theorem dX8_term_164 : decode cX8_term 164 = .ok (.iload_n 2, 1) := by decide +kernel
theorem dX8_term_165 : decode cX8_term 165 = .ok (.ifCond .ge 13, 3) := by decide +kernel
theorem dX8_term_168 : decode cX8_term 168 = .ok (.aload_n 0, 1) := by decide +kernel
theorem dX8_term_169 : decode cX8_term 169 = .ok (.aload_n 0, 1) := by decide +kernel
theorem dX8_term_170 : decode cX8_term 170 = .ok (.getfield 122, 3) := by decide +kernel
theorem dX8_term_173 : decode cX8_term 173 = .ok (.putfield 132, 3) := by decide +kernel
theorem dX8_term_176 : decode cX8_term 176 = .ok (.iconst (-1), 1) := by decide +kernel
theorem dX8_term_177 : decode cX8_term 177 = .ok (.ireturn, 1) := by decide +kernel
theorem dX8_term_178 : decode cX8_term 178 = .ok (.aload_n 0, 1) := by decide +kernel
theorem dX8_term_179 : decode cX8_term 179 = .ok (.getfield 59, 3) := by decide +kernel
theorem dX8_term_182 : decode cX8_term 182 = .ok (.aload_n 0, 1) := by decide +kernel
theorem dX8_term_183 : decode cX8_term 183 = .ok (.dup, 1) := by decide +kernel
theorem dX8_term_184 : decode cX8_term 184 = .ok (.getfield 151, 3) := by decide +kernel
theorem dX8_term_187 : decode cX8_term 187 = .ok (.dup_x1, 1) := by decide +kernel
theorem dX8_term_188 : decode cX8_term 188 = .ok (.iconst 1, 1) := by decide +kernel
theorem dX8_term_189 : decode cX8_term 189 = .ok (.iadd, 1) := by decide +kernel
theorem dX8_term_190 : decode cX8_term 190 = .ok (.putfield 151, 3) := by decide +kernel
theorem dX8_term_193 : decode cX8_term 193 = .ok (.aload_n 0, 1) := by decide +kernel
theorem dX8_term_194 : decode cX8_term 194 = .ok (.getfield 122, 3) := by decide +kernel
theorem dX8_term_197 : decode cX8_term 197 = .ok (.iastore, 1) := by decide +kernel
theorem dX8_term_198 : decode cX8_term 198 = .ok (.aload_n 0, 1) := by decide +kernel
theorem dX8_term_199 : decode cX8_term 199 = .ok (.dup, 1) := by decide +kernel
theorem dX8_term_200 : decode cX8_term 200 = .ok (.getfield 122, 3) := by decide +kernel
theorem dX8_term_203 : decode cX8_term 203 = .ok (.iconst 1, 1) := by decide +kernel
theorem dX8_term_204 : decode cX8_term 204 = .ok (.iadd, 1) := by decide +kernel
theorem dX8_term_205 : decode cX8_term 205 = .ok (.putfield 122, 3) := by decide +kernel
theorem dX8_term_208 : decode cX8_term 208 = .ok (.iload_n 2, 1) := by decide +kernel
theorem dX8_term_209 : decode cX8_term 209 = .ok (.invokestatic 157, 3) := by decide +kernel
theorem dX8_term_212 : decode cX8_term 212 = .ok (.ifCond .eq 10, 3) := by decide +kernel
theorem dX8_term_215 : decode cX8_term 215 = .ok (.aload_n 0, 1) := by decide +kernel
theorem dX8_term_216 : decode cX8_term 216 = .ok (.invokevirtual 160, 3) := by decide +kernel
theorem dX8_term_219 : decode cX8_term 219 = .ok (.goto 5, 3) := by decide +kernel
theorem dX8_term_222 : decode cX8_term 222 = .ok (.bipush (-5), 2) := by decide +kernel
theorem dX8_term_224 : decode cX8_term 224 = .ok (.istore_n 3, 1) := by decide +kernel
theorem dX8_term_225 : decode cX8_term 225 = .ok (.iload_n 3, 1) := by decide +kernel
theorem dX8_term_226 : decode cX8_term 226 = .ok (.iconst (-1), 1) := by decide +kernel
theorem dX8_term_227 : decode cX8_term 227 = .ok (.if_icmp .ne 5, 3) := by decide +kernel
theorem dX8_term_230 : decode cX8_term 230 = .ok (.iconst (-1), 1) := by decide +kernel
theorem dX8_term_231 : decode cX8_term 231 = .ok (.ireturn, 1) := by decide +kernel
theorem dX8_term_232 : decode cX8_term 232 = .ok (.bipush (-5), 2) := by decide +kernel
theorem dX8_term_234 : decode cX8_term 234 = .ok (.istore 4, 2) := by decide +kernel
theorem dX8_term_236 : decode cX8_term 236 = .ok (.iload_n 2, 1) := by decide +kernel
theorem dX8_term_237 : decode cX8_term 237 = .ok (.bipush 6, 2) := by decide +kernel
theorem dX8_term_239 : decode cX8_term 239 = .ok (.if_icmp .ne 31, 3) := by decide +kernel
theorem dX8_term_242 : decode cX8_term 242 = .ok (.aload_n 0, 1) := by decide +kernel
theorem dX8_term_243 : decode cX8_term 243 = .ok (.bipush 58, 2) := by decide +kernel
theorem dX8_term_245 : decode cX8_term 245 = .ok (.invokevirtual 163, 3) := by decide +kernel
theorem dX8_term_248 : decode cX8_term 248 = .ok (.ifCond .ne 5, 3) := by decide +kernel
theorem dX8_term_251 : decode cX8_term 251 = .ok (.iconst (-1), 1) := by decide +kernel
theorem dX8_term_252 : decode cX8_term 252 = .ok (.ireturn, 1) := by decide +kernel
theorem dX8_term_253 : decode cX8_term 253 = .ok (.aload_n 0, 1) := by decide +kernel
theorem dX8_term_254 : decode cX8_term 254 = .ok (.aload_n 0, 1) := by decide +kernel
theorem dX8_term_255 : decode cX8_term 255 = .ok (.invokevirtual 142, 3) := by decide +kernel
theorem dX8_term_258 : decode cX8_term 258 = .ok (.invokevirtual 145, 3) := by decide +kernel
theorem dX8_term_261 : decode cX8_term 261 = .ok (.istore 4, 2) := by decide +kernel
theorem dX8_term_263 : decode cX8_term 263 = .ok (.iload 4, 2) := by decide +kernel
theorem dX8_term_265 : decode cX8_term 265 = .ok (.ifCond .ge 5, 3) := by decide +kernel
theorem dX8_term_268 : decode cX8_term 268 = .ok (.iconst (-1), 1) := by decide +kernel
theorem dX8_term_269 : decode cX8_term 269 = .ok (.ireturn, 1) := by decide +kernel
theorem dX8_term_270 : decode cX8_term 270 = .ok (.iload_n 1, 1) := by decide +kernel
theorem dX8_term_271 : decode cX8_term 271 = .ok (.bipush 6, 2) := by decide +kernel
theorem dX8_term_273 : decode cX8_term 273 = .ok (.if_icmp .ne 22, 3) := by decide +kernel
theorem dX8_term_276 : decode cX8_term 276 = .ok (.aload_n 0, 1) := by decide +kernel
theorem dX8_term_277 : decode cX8_term 277 = .ok (.invokevirtual 125, 3) := by decide +kernel
theorem dX8_term_280 : decode cX8_term 280 = .ok (.bipush 40, 2) := by decide +kernel
theorem dX8_term_282 : decode cX8_term 282 = .ok (.if_icmp .ne 13, 3) := by decide +kernel
theorem dX8_term_285 : decode cX8_term 285 = .ok (.aload_n 0, 1) := by decide +kernel
theorem dX8_term_286 : decode cX8_term 286 = .ok (.aload_n 0, 1) := by decide +kernel
theorem dX8_term_287 : decode cX8_term 287 = .ok (.getfield 122, 3) := by decide +kernel
theorem dX8_term_290 : decode cX8_term 290 = .ok (.putfield 132, 3) := by decide +kernel
theorem dX8_term_293 : decode cX8_term 293 = .ok (.iconst (-1), 1) := by decide +kernel
theorem dX8_term_294 : decode cX8_term 294 = .ok (.ireturn, 1) := by decide +kernel
theorem dX8_term_295 : decode cX8_term 295 = .ok (.aload_n 0, 1) := by decide +kernel
theorem dX8_term_296 : decode cX8_term 296 = .ok (.bipush 40, 2) := by decide +kernel
theorem dX8_term_298 : decode cX8_term 298 = .ok (.invokevirtual 163, 3) := by decide +kernel
theorem dX8_term_301 : decode cX8_term 301 = .ok (.ifCond .ne 5, 3) := by decide +kernel
theorem dX8_term_304 : decode cX8_term 304 = .ok (.iconst (-1), 1) := by decide +kernel
theorem dX8_term_305 : decode cX8_term 305 = .ok (.ireturn, 1) := by decide +kernel
theorem dX8_term_306 : decode cX8_term 306 = .ok (.aload_n 0, 1) := by decide +kernel
theorem dX8_term_307 : decode cX8_term 307 = .ok (.iload_n 1, 1) := by decide +kernel
theorem dX8_term_308 : decode cX8_term 308 = .ok (.iconst 1, 1) := by decide +kernel
theorem dX8_term_309 : decode cX8_term 309 = .ok (.iadd, 1) := by decide +kernel
theorem dX8_term_310 : decode cX8_term 310 = .ok (.invokevirtual 166, 3) := by decide +kernel
theorem dX8_term_313 : decode cX8_term 313 = .ok (.istore 5, 2) := by decide +kernel
theorem dX8_term_315 : decode cX8_term 315 = .ok (.iload 5, 2) := by decide +kernel
theorem dX8_term_317 : decode cX8_term 317 = .ok (.ifCond .ge 5, 3) := by decide +kernel
theorem dX8_term_320 : decode cX8_term 320 = .ok (.iconst (-1), 1) := by decide +kernel
theorem dX8_term_321 : decode cX8_term 321 = .ok (.ireturn, 1) := by decide +kernel
theorem dX8_term_322 : decode cX8_term 322 = .ok (.bipush (-5), 2) := by decide +kernel
theorem dX8_term_324 : decode cX8_term 324 = .ok (.istore 6, 2) := by decide +kernel
theorem dX8_term_326 : decode cX8_term 326 = .ok (.iload_n 2, 1) := by decide +kernel
theorem dX8_term_327 : decode cX8_term 327 = .ok (.invokestatic 116, 3) := by decide +kernel
theorem dX8_term_330 : decode cX8_term 330 = .ok (.ifCond .eq 30, 3) := by decide +kernel
theorem dX8_term_333 : decode cX8_term 333 = .ok (.aload_n 0, 1) := by decide +kernel
theorem dX8_term_334 : decode cX8_term 334 = .ok (.bipush 44, 2) := by decide +kernel
theorem dX8_term_336 : decode cX8_term 336 = .ok (.invokevirtual 163, 3) := by decide +kernel
theorem dX8_term_339 : decode cX8_term 339 = .ok (.ifCond .ne 5, 3) := by decide +kernel
theorem dX8_term_342 : decode cX8_term 342 = .ok (.iconst (-1), 1) := by decide +kernel
theorem dX8_term_343 : decode cX8_term 343 = .ok (.ireturn, 1) := by decide +kernel
theorem dX8_term_344 : decode cX8_term 344 = .ok (.aload_n 0, 1) := by decide +kernel
theorem dX8_term_345 : decode cX8_term 345 = .ok (.iload_n 1, 1) := by decide +kernel
theorem dX8_term_346 : decode cX8_term 346 = .ok (.iconst 1, 1) := by decide +kernel
theorem dX8_term_347 : decode cX8_term 347 = .ok (.iadd, 1) := by decide +kernel
theorem dX8_term_348 : decode cX8_term 348 = .ok (.invokevirtual 166, 3) := by decide +kernel
theorem dX8_term_351 : decode cX8_term 351 = .ok (.istore 6, 2) := by decide +kernel
theorem dX8_term_353 : decode cX8_term 353 = .ok (.iload 6, 2) := by decide +kernel
theorem dX8_term_355 : decode cX8_term 355 = .ok (.ifCond .ge 5, 3) := by decide +kernel
theorem dX8_term_358 : decode cX8_term 358 = .ok (.iconst (-1), 1) := by decide +kernel
theorem dX8_term_359 : decode cX8_term 359 = .ok (.ireturn, 1) := by decide +kernel
theorem dX8_term_360 : decode cX8_term 360 = .ok (.aload_n 0, 1) := by decide +kernel
theorem dX8_term_361 : decode cX8_term 361 = .ok (.bipush 41, 2) := by decide +kernel
theorem dX8_term_363 : decode cX8_term 363 = .ok (.invokevirtual 163, 3) := by decide +kernel
theorem dX8_term_366 : decode cX8_term 366 = .ok (.ifCond .ne 5, 3) := by decide +kernel
theorem dX8_term_369 : decode cX8_term 369 = .ok (.iconst (-1), 1) := by decide +kernel
theorem dX8_term_370 : decode cX8_term 370 = .ok (.ireturn, 1) := by decide +kernel
theorem dX8_term_371 : decode cX8_term 371 = .ok (.aload_n 0, 1) := by decide +kernel
theorem dX8_term_372 : decode cX8_term 372 = .ok (.dup, 1) := by decide +kernel
theorem dX8_term_373 : decode cX8_term 373 = .ok (.getfield 151, 3) := by decide +kernel
theorem dX8_term_376 : decode cX8_term 376 = .ok (.iconst 1, 1) := by decide +kernel
theorem dX8_term_377 : decode cX8_term 377 = .ok (.isub, 1) := by decide +kernel
theorem dX8_term_378 : decode cX8_term 378 = .ok (.putfield 151, 3) := by decide +kernel
theorem dX8_term_381 : decode cX8_term 381 = .ok (.aload_n 0, 1) := by decide +kernel
theorem dX8_term_382 : decode cX8_term 382 = .ok (.iload_n 2, 1) := by decide +kernel
theorem dX8_term_383 : decode cX8_term 383 = .ok (.iload 4, 2) := by decide +kernel
theorem dX8_term_385 : decode cX8_term 385 = .ok (.iload 5, 2) := by decide +kernel
theorem dX8_term_387 : decode cX8_term 387 = .ok (.iload 6, 2) := by decide +kernel
theorem dX8_term_389 : decode cX8_term 389 = .ok (.iload_n 3, 1) := by decide +kernel
theorem dX8_term_390 : decode cX8_term 390 = .ok (.invokevirtual 148, 3) := by decide +kernel
theorem dX8_term_393 : decode cX8_term 393 = .ok (.ireturn, 1) := by decide +kernel
theorem dX8_read_0 : decode cX8_read 0 = .ok (.aload_n 0, 1) := by decide +kernel
theorem dX8_read_1 : decode cX8_read 1 = .ok (.iconst 0, 1) := by decide +kernel
theorem dX8_read_2 : decode cX8_read 2 = .ok (.putfield 122, 3) := by decide +kernel
theorem dX8_read_5 : decode cX8_read 5 = .ok (.aload_n 0, 1) := by decide +kernel
theorem dX8_read_6 : decode cX8_read 6 = .ok (.iconst 0, 1) := by decide +kernel
theorem dX8_read_7 : decode cX8_read 7 = .ok (.putfield 139, 3) := by decide +kernel
theorem dX8_read_10 : decode cX8_read 10 = .ok (.aload_n 0, 1) := by decide +kernel
theorem dX8_read_11 : decode cX8_read 11 = .ok (.iconst 0, 1) := by decide +kernel
theorem dX8_read_12 : decode cX8_read 12 = .ok (.putfield 151, 3) := by decide +kernel
theorem dX8_read_15 : decode cX8_read 15 = .ok (.aload_n 0, 1) := by decide +kernel
theorem dX8_read_16 : decode cX8_read 16 = .ok (.iconst 0, 1) := by decide +kernel
theorem dX8_read_17 : decode cX8_read 17 = .ok (.invokevirtual 166, 3) := by decide +kernel
theorem dX8_read_20 : decode cX8_read 20 = .ok (.istore_n 1, 1) := by decide +kernel
theorem dX8_read_21 : decode cX8_read 21 = .ok (.iload_n 1, 1) := by decide +kernel
theorem dX8_read_22 : decode cX8_read 22 = .ok (.ifCond .lt 24, 3) := by decide +kernel
theorem dX8_read_25 : decode cX8_read 25 = .ok (.aload_n 0, 1) := by decide +kernel
theorem dX8_read_26 : decode cX8_read 26 = .ok (.getfield 122, 3) := by decide +kernel
theorem dX8_read_29 : decode cX8_read 29 = .ok (.aload_n 0, 1) := by decide +kernel
theorem dX8_read_30 : decode cX8_read 30 = .ok (.getfield 119, 3) := by decide +kernel
theorem dX8_read_33 : decode cX8_read 33 = .ok (.if_icmp .ge 13, 3) := by decide +kernel
theorem dX8_read_36 : decode cX8_read 36 = .ok (.aload_n 0, 1) := by decide +kernel
theorem dX8_read_37 : decode cX8_read 37 = .ok (.aload_n 0, 1) := by decide +kernel
theorem dX8_read_38 : decode cX8_read 38 = .ok (.getfield 122, 3) := by decide +kernel
theorem dX8_read_41 : decode cX8_read 41 = .ok (.putfield 132, 3) := by decide +kernel
theorem dX8_read_44 : decode cX8_read 44 = .ok (.iconst (-1), 1) := by decide +kernel
theorem dX8_read_45 : decode cX8_read 45 = .ok (.istore_n 1, 1) := by decide +kernel
theorem dX8_read_46 : decode cX8_read 46 = .ok (.aload_n 0, 1) := by decide +kernel
theorem dX8_read_47 : decode cX8_read 47 = .ok (.iconst 0, 1) := by decide +kernel
theorem dX8_read_48 : decode cX8_read 48 = .ok (.putfield 119, 3) := by decide +kernel
theorem dX8_read_51 : decode cX8_read 51 = .ok (.iload_n 1, 1) := by decide +kernel
theorem dX8_read_52 : decode cX8_read 52 = .ok (.ifCond .ge 54, 3) := by decide +kernel
theorem dX8_read_55 : decode cX8_read 55 = .ok (.aload_n 0, 1) := by decide +kernel
theorem dX8_read_56 : decode cX8_read 56 = .ok (.aload_n 0, 1) := by decide +kernel
theorem dX8_read_57 : decode cX8_read 57 = .ok (.getfield 151, 3) := by decide +kernel
theorem dX8_read_60 : decode cX8_read 60 = .ok (.putfield 169, 3) := by decide +kernel
theorem dX8_read_63 : decode cX8_read 63 = .ok (.iconst 0, 1) := by decide +kernel
theorem dX8_read_64 : decode cX8_read 64 = .ok (.istore_n 2, 1) := by decide +kernel
theorem dX8_read_65 : decode cX8_read 65 = .ok (.iload_n 2, 1) := by decide +kernel
theorem dX8_read_66 : decode cX8_read 66 = .ok (.aload_n 0, 1) := by decide +kernel
theorem dX8_read_67 : decode cX8_read 67 = .ok (.getfield 151, 3) := by decide +kernel
theorem dX8_read_70 : decode cX8_read 70 = .ok (.if_icmp .ge 28, 3) := by decide +kernel
theorem dX8_read_73 : decode cX8_read 73 = .ok (.aload_n 0, 1) := by decide +kernel
theorem dX8_read_74 : decode cX8_read 74 = .ok (.getfield 62, 3) := by decide +kernel
theorem dX8_read_77 : decode cX8_read 77 = .ok (.iload_n 2, 1) := by decide +kernel
theorem dX8_read_78 : decode cX8_read 78 = .ok (.aload_n 0, 1) := by decide +kernel
theorem dX8_read_79 : decode cX8_read 79 = .ok (.getfield 59, 3) := by decide +kernel
theorem dX8_read_82 : decode cX8_read 82 = .ok (.aload_n 0, 1) := by decide +kernel
theorem dX8_read_83 : decode cX8_read 83 = .ok (.getfield 151, 3) := by decide +kernel
theorem dX8_read_86 : decode cX8_read 86 = .ok (.iconst 1, 1) := by decide +kernel
theorem dX8_read_87 : decode cX8_read 87 = .ok (.isub, 1) := by decide +kernel
theorem dX8_read_88 : decode cX8_read 88 = .ok (.iload_n 2, 1) := by decide +kernel
theorem dX8_read_89 : decode cX8_read 89 = .ok (.isub, 1) := by decide +kernel
theorem dX8_read_90 : decode cX8_read 90 = .ok (.iaload, 1) := by decide +kernel
theorem dX8_read_91 : decode cX8_read 91 = .ok (.iastore, 1) := by decide +kernel
theorem dX8_read_92 : decode cX8_read 92 = .ok (.iinc 2 1, 3) := by decide +kernel
theorem dX8_read_95 : decode cX8_read 95 = .ok (.goto (-30), 3) := by decide +kernel
theorem dX8_read_98 : decode cX8_read 98 = .ok (.bipush (-100), 2) := by decide +kernel
theorem dX8_read_100 : decode cX8_read 100 = .ok (.aload_n 0, 1) := by decide +kernel
theorem dX8_read_101 : decode cX8_read 101 = .ok (.getfield 132, 3) := by decide +kernel
theorem dX8_read_104 : decode cX8_read 104 = .ok (.isub, 1) := by decide +kernel
theorem dX8_read_105 : decode cX8_read 105 = .ok (.ireturn, 1) := by decide +kernel
theorem dX8_read_106 : decode cX8_read 106 = .ok (.aload_n 0, 1) := by decide +kernel
theorem dX8_read_107 : decode cX8_read 107 = .ok (.getfield 77, 3) := by decide +kernel
theorem dX8_read_110 : decode cX8_read 110 = .ok (.aload_n 0, 1) := by decide +kernel
theorem dX8_read_111 : decode cX8_read 111 = .ok (.getfield 139, 3) := by decide +kernel
theorem dX8_read_114 : decode cX8_read 114 = .ok (.iadd, 1) := by decide +kernel
theorem dX8_read_115 : decode cX8_read 115 = .ok (.bipush 24, 2) := by decide +kernel
theorem dX8_read_117 : decode cX8_read 117 = .ok (.if_icmp .gt 7, 3) := by decide +kernel
theorem dX8_read_120 : decode cX8_read 120 = .ok (.iconst 1, 1) := by decide +kernel
theorem dX8_read_121 : decode cX8_read 121 = .ok (.goto 4, 3) := by decide +kernel
theorem dX8_read_124 : decode cX8_read 124 = .ok (.iconst 0, 1) := by decide +kernel
theorem dX8_read_125 : decode cX8_read 125 = .ok (.istore_n 2, 1) := by decide +kernel
theorem dX8_read_126 : decode cX8_read 126 = .ok (.iconst 0, 1) := by decide +kernel
theorem dX8_read_127 : decode cX8_read 127 = .ok (.istore_n 3, 1) := by decide +kernel
theorem dX8_read_128 : decode cX8_read 128 = .ok (.iload_n 3, 1) := by decide +kernel
theorem dX8_read_129 : decode cX8_read 129 = .ok (.aload_n 0, 1) := by decide +kernel
theorem dX8_read_130 : decode cX8_read 130 = .ok (.getfield 139, 3) := by decide +kernel
theorem dX8_read_133 : decode cX8_read 133 = .ok (.if_icmp .ge 27, 3) := by decide +kernel
theorem dX8_read_136 : decode cX8_read 136 = .ok (.aload_n 0, 1) := by decide +kernel
theorem dX8_read_137 : decode cX8_read 137 = .ok (.getfield 27, 3) := by decide +kernel
theorem dX8_read_140 : decode cX8_read 140 = .ok (.aload_n 0, 1) := by decide +kernel
theorem dX8_read_141 : decode cX8_read 141 = .ok (.getfield 77, 3) := by decide +kernel
theorem dX8_read_144 : decode cX8_read 144 = .ok (.iload_n 3, 1) := by decide +kernel
theorem dX8_read_145 : decode cX8_read 145 = .ok (.iadd, 1) := by decide +kernel
theorem dX8_read_146 : decode cX8_read 146 = .ok (.iaload, 1) := by decide +kernel
theorem dX8_read_147 : decode cX8_read 147 = .ok (.bipush 40, 2) := by decide +kernel
theorem dX8_read_149 : decode cX8_read 149 = .ok (.if_icmp .le 5, 3) := by decide +kernel
theorem dX8_read_152 : decode cX8_read 152 = .ok (.iconst 0, 1) := by decide +kernel
theorem dX8_read_153 : decode cX8_read 153 = .ok (.istore_n 2, 1) := by decide +kernel
theorem dX8_read_154 : decode cX8_read 154 = .ok (.iinc 3 1, 3) := by decide +kernel
theorem dX8_read_157 : decode cX8_read 157 = .ok (.goto (-29), 3) := by decide +kernel
theorem dX8_read_160 : decode cX8_read 160 = .ok (.iload_n 2, 1) := by decide +kernel
theorem dX8_read_161 : decode cX8_read 161 = .ok (.ifCond .ne 6, 3) := by decide +kernel
theorem dX8_read_164 : decode cX8_read 164 = .ok (.bipush (-4), 2) := by decide +kernel
theorem dX8_read_166 : decode cX8_read 166 = .ok (.ireturn, 1) := by decide +kernel
theorem dX8_read_167 : decode cX8_read 167 = .ok (.aload_n 0, 1) := by decide +kernel
theorem dX8_read_168 : decode cX8_read 168 = .ok (.dup, 1) := by decide +kernel
theorem dX8_read_169 : decode cX8_read 169 = .ok (.getfield 77, 3) := by decide +kernel
theorem dX8_read_172 : decode cX8_read 172 = .ok (.aload_n 0, 1) := by decide +kernel
theorem dX8_read_173 : decode cX8_read 173 = .ok (.getfield 139, 3) := by decide +kernel
theorem dX8_read_176 : decode cX8_read 176 = .ok (.iadd, 1) := by decide +kernel
theorem dX8_read_177 : decode cX8_read 177 = .ok (.putfield 77, 3) := by decide +kernel
theorem dX8_read_180 : decode cX8_read 180 = .ok (.iload_n 1, 1) := by decide +kernel
theorem dX8_read_181 : decode cX8_read 181 = .ok (.ireturn, 1) := by decide +kernel
theorem dX8_way_0 : decode cX8_way 0 = .ok (.iload_n 1, 1) := by decide +kernel
theorem dX8_way_1 : decode cX8_way 1 = .ok (.iconst (-1), 1) := by decide +kernel
theorem dX8_way_2 : decode cX8_way 2 = .ok (.if_icmp .ne 8, 3) := by decide +kernel
theorem dX8_way_5 : decode cX8_way 5 = .ok (.aload_n 0, 1) := by decide +kernel
theorem dX8_way_6 : decode cX8_way 6 = .ok (.getfield 169, 3) := by decide +kernel
theorem dX8_way_9 : decode cX8_way 9 = .ok (.ireturn, 1) := by decide +kernel
theorem dX8_way_10 : decode cX8_way 10 = .ok (.iload_n 1, 1) := by decide +kernel
theorem dX8_way_11 : decode cX8_way 11 = .ok (.iconst 0, 1) := by decide +kernel
theorem dX8_way_12 : decode cX8_way 12 = .ok (.aload_n 0, 1) := by decide +kernel
theorem dX8_way_13 : decode cX8_way 13 = .ok (.getfield 169, 3) := by decide +kernel
theorem dX8_way_16 : decode cX8_way 16 = .ok (.iconst 1, 1) := by decide +kernel
theorem dX8_way_17 : decode cX8_way 17 = .ok (.isub, 1) := by decide +kernel
theorem dX8_way_18 : decode cX8_way 18 = .ok (.invokestatic 80, 3) := by decide +kernel
theorem dX8_way_21 : decode cX8_way 21 = .ok (.ifCond .eq 12, 3) := by decide +kernel
theorem dX8_way_24 : decode cX8_way 24 = .ok (.aload_n 0, 1) := by decide +kernel
theorem dX8_way_25 : decode cX8_way 25 = .ok (.getfield 62, 3) := by decide +kernel
theorem dX8_way_28 : decode cX8_way 28 = .ok (.iload_n 1, 1) := by decide +kernel
theorem dX8_way_29 : decode cX8_way 29 = .ok (.iaload, 1) := by decide +kernel
theorem dX8_way_30 : decode cX8_way 30 = .ok (.goto 4, 3) := by decide +kernel
theorem dX8_way_33 : decode cX8_way 33 = .ok (.iconst (-1), 1) := by decide +kernel
theorem dX8_way_34 : decode cX8_way 34 = .ok (.ireturn, 1) := by decide +kernel
theorem dX8_of_0 : decode cX8_of 0 = .ok (.aload_n 0, 1) := by decide +kernel
theorem dX8_of_1 : decode cX8_of 1 = .ok (.iload_n 1, 1) := by decide +kernel
theorem dX8_of_2 : decode cX8_of 2 = .ok (.invokevirtual 109, 3) := by decide +kernel
theorem dX8_of_5 : decode cX8_of 5 = .ok (.ifCond .ne 5, 3) := by decide +kernel
theorem dX8_of_8 : decode cX8_of 8 = .ok (.iconst (-1), 1) := by decide +kernel
theorem dX8_of_9 : decode cX8_of 9 = .ok (.ireturn, 1) := by decide +kernel
theorem dX8_of_10 : decode cX8_of 10 = .ok (.iload_n 2, 1) := by decide +kernel
theorem dX8_of_11 : decode cX8_of 11 = .ok (.tableswitch 90 0 6 #[41, 48, 55, 62, 69, 76, 83], 41) := by decide +kernel
theorem dX8_of_52 : decode cX8_of 52 = .ok (.aload_n 0, 1) := by decide +kernel
theorem dX8_of_53 : decode cX8_of 53 = .ok (.getfield 9, 3) := by decide +kernel
theorem dX8_of_56 : decode cX8_of 56 = .ok (.iload_n 1, 1) := by decide +kernel
theorem dX8_of_57 : decode cX8_of 57 = .ok (.iaload, 1) := by decide +kernel
theorem dX8_of_58 : decode cX8_of 58 = .ok (.ireturn, 1) := by decide +kernel
theorem dX8_of_59 : decode cX8_of 59 = .ok (.aload_n 0, 1) := by decide +kernel
theorem dX8_of_60 : decode cX8_of 60 = .ok (.getfield 15, 3) := by decide +kernel
theorem dX8_of_63 : decode cX8_of 63 = .ok (.iload_n 1, 1) := by decide +kernel
theorem dX8_of_64 : decode cX8_of 64 = .ok (.iaload, 1) := by decide +kernel
theorem dX8_of_65 : decode cX8_of 65 = .ok (.ireturn, 1) := by decide +kernel
theorem dX8_of_66 : decode cX8_of 66 = .ok (.aload_n 0, 1) := by decide +kernel
theorem dX8_of_67 : decode cX8_of 67 = .ok (.getfield 18, 3) := by decide +kernel
theorem dX8_of_70 : decode cX8_of 70 = .ok (.iload_n 1, 1) := by decide +kernel
theorem dX8_of_71 : decode cX8_of 71 = .ok (.iaload, 1) := by decide +kernel
theorem dX8_of_72 : decode cX8_of 72 = .ok (.ireturn, 1) := by decide +kernel
theorem dX8_of_73 : decode cX8_of 73 = .ok (.aload_n 0, 1) := by decide +kernel
theorem dX8_of_74 : decode cX8_of 74 = .ok (.getfield 21, 3) := by decide +kernel
theorem dX8_of_77 : decode cX8_of 77 = .ok (.iload_n 1, 1) := by decide +kernel
theorem dX8_of_78 : decode cX8_of 78 = .ok (.iaload, 1) := by decide +kernel
theorem dX8_of_79 : decode cX8_of 79 = .ok (.ireturn, 1) := by decide +kernel
theorem dX8_of_80 : decode cX8_of 80 = .ok (.aload_n 0, 1) := by decide +kernel
theorem dX8_of_81 : decode cX8_of 81 = .ok (.getfield 27, 3) := by decide +kernel
theorem dX8_of_84 : decode cX8_of 84 = .ok (.iload_n 1, 1) := by decide +kernel
theorem dX8_of_85 : decode cX8_of 85 = .ok (.iaload, 1) := by decide +kernel
theorem dX8_of_86 : decode cX8_of 86 = .ok (.ireturn, 1) := by decide +kernel
theorem dX8_of_87 : decode cX8_of 87 = .ok (.aload_n 0, 1) := by decide +kernel
theorem dX8_of_88 : decode cX8_of 88 = .ok (.getfield 30, 3) := by decide +kernel
theorem dX8_of_91 : decode cX8_of 91 = .ok (.iload_n 1, 1) := by decide +kernel
theorem dX8_of_92 : decode cX8_of 92 = .ok (.iaload, 1) := by decide +kernel
theorem dX8_of_93 : decode cX8_of 93 = .ok (.ireturn, 1) := by decide +kernel
theorem dX8_of_94 : decode cX8_of 94 = .ok (.aload_n 0, 1) := by decide +kernel
theorem dX8_of_95 : decode cX8_of 95 = .ok (.getfield 24, 3) := by decide +kernel
theorem dX8_of_98 : decode cX8_of 98 = .ok (.iload_n 1, 1) := by decide +kernel
theorem dX8_of_99 : decode cX8_of 99 = .ok (.iaload, 1) := by decide +kernel
theorem dX8_of_100 : decode cX8_of 100 = .ok (.ireturn, 1) := by decide +kernel
theorem dX8_of_101 : decode cX8_of 101 = .ok (.iconst (-1), 1) := by decide +kernel
theorem dX8_of_102 : decode cX8_of 102 = .ok (.ireturn, 1) := by decide +kernel
theorem dX8_taken_0 : decode cX8_taken 0 = .ok (.aload_n 0, 1) := by decide +kernel
theorem dX8_taken_1 : decode cX8_taken 1 = .ok (.iload_n 1, 1) := by decide +kernel
theorem dX8_taken_2 : decode cX8_taken 2 = .ok (.invokevirtual 109, 3) := by decide +kernel
theorem dX8_taken_5 : decode cX8_taken 5 = .ok (.ifCond .eq 13, 3) := by decide +kernel
theorem dX8_taken_8 : decode cX8_taken 8 = .ok (.iload_n 2, 1) := by decide +kernel
theorem dX8_taken_9 : decode cX8_taken 9 = .ok (.iconst 0, 1) := by decide +kernel
theorem dX8_taken_10 : decode cX8_taken 10 = .ok (.bipush 7, 2) := by decide +kernel
theorem dX8_taken_12 : decode cX8_taken 12 = .ok (.invokestatic 80, 3) := by decide +kernel
theorem dX8_taken_15 : decode cX8_taken 15 = .ok (.ifCond .ne 5, 3) := by decide +kernel
theorem dX8_taken_18 : decode cX8_taken 18 = .ok (.iconst (-1), 1) := by decide +kernel
theorem dX8_taken_19 : decode cX8_taken 19 = .ok (.ireturn, 1) := by decide +kernel
theorem dX8_taken_20 : decode cX8_taken 20 = .ok (.aload_n 0, 1) := by decide +kernel
theorem dX8_taken_21 : decode cX8_taken 21 = .ok (.getfield 9, 3) := by decide +kernel
theorem dX8_taken_24 : decode cX8_taken 24 = .ok (.iload_n 1, 1) := by decide +kernel
theorem dX8_taken_25 : decode cX8_taken 25 = .ok (.iaload, 1) := by decide +kernel
theorem dX8_taken_26 : decode cX8_taken 26 = .ok (.iload_n 2, 1) := by decide +kernel
theorem dX8_taken_27 : decode cX8_taken 27 = .ok (.if_icmp .eq 35, 3) := by decide +kernel
theorem dX8_taken_30 : decode cX8_taken 30 = .ok (.iload_n 2, 1) := by decide +kernel
theorem dX8_taken_31 : decode cX8_taken 31 = .ok (.iconst 2, 1) := by decide +kernel
theorem dX8_taken_32 : decode cX8_taken 32 = .ok (.if_icmp .ne 14, 3) := by decide +kernel
theorem dX8_taken_35 : decode cX8_taken 35 = .ok (.aload_n 0, 1) := by decide +kernel
theorem dX8_taken_36 : decode cX8_taken 36 = .ok (.getfield 9, 3) := by decide +kernel
theorem dX8_taken_39 : decode cX8_taken 39 = .ok (.iload_n 1, 1) := by decide +kernel
theorem dX8_taken_40 : decode cX8_taken 40 = .ok (.iaload, 1) := by decide +kernel
theorem dX8_taken_41 : decode cX8_taken 41 = .ok (.bipush 6, 2) := by decide +kernel
theorem dX8_taken_43 : decode cX8_taken 43 = .ok (.if_icmp .eq 19, 3) := by decide +kernel
theorem dX8_taken_46 : decode cX8_taken 46 = .ok (.iload_n 2, 1) := by decide +kernel
theorem dX8_taken_47 : decode cX8_taken 47 = .ok (.iconst 3, 1) := by decide +kernel
theorem dX8_taken_48 : decode cX8_taken 48 = .ok (.if_icmp .ne 18, 3) := by decide +kernel
theorem dX8_taken_51 : decode cX8_taken 51 = .ok (.aload_n 0, 1) := by decide +kernel
theorem dX8_taken_52 : decode cX8_taken 52 = .ok (.getfield 9, 3) := by decide +kernel
theorem dX8_taken_55 : decode cX8_taken 55 = .ok (.iload_n 1, 1) := by decide +kernel
theorem dX8_taken_56 : decode cX8_taken 56 = .ok (.iaload, 1) := by decide +kernel
theorem dX8_taken_57 : decode cX8_taken 57 = .ok (.bipush 7, 2) := by decide +kernel
theorem dX8_taken_59 : decode cX8_taken 59 = .ok (.if_icmp .ne 7, 3) := by decide +kernel
theorem dX8_taken_62 : decode cX8_taken 62 = .ok (.iconst 1, 1) := by decide +kernel
theorem dX8_taken_63 : decode cX8_taken 63 = .ok (.goto 4, 3) := by decide +kernel
theorem dX8_taken_66 : decode cX8_taken 66 = .ok (.iconst 0, 1) := by decide +kernel
theorem dX8_taken_67 : decode cX8_taken 67 = .ok (.istore_n 3, 1) := by decide +kernel
theorem dX8_taken_68 : decode cX8_taken 68 = .ok (.iload_n 3, 1) := by decide +kernel
theorem dX8_taken_69 : decode cX8_taken 69 = .ok (.ifCond .eq 12, 3) := by decide +kernel
theorem dX8_taken_72 : decode cX8_taken 72 = .ok (.aload_n 0, 1) := by decide +kernel
theorem dX8_taken_73 : decode cX8_taken 73 = .ok (.getfield 27, 3) := by decide +kernel
theorem dX8_taken_76 : decode cX8_taken 76 = .ok (.iload_n 1, 1) := by decide +kernel
theorem dX8_taken_77 : decode cX8_taken 77 = .ok (.iaload, 1) := by decide +kernel
theorem dX8_taken_78 : decode cX8_taken 78 = .ok (.goto 5, 3) := by decide +kernel
theorem dX8_taken_81 : decode cX8_taken 81 = .ok (.bipush (-12), 2) := by decide +kernel
theorem dX8_taken_83 : decode cX8_taken 83 = .ok (.ireturn, 1) := by decide +kernel
theorem dX8_writes_0 : decode cX8_writes 0 = .ok (.aload_n 0, 1) := by decide +kernel
theorem dX8_writes_1 : decode cX8_writes 1 = .ok (.getfield 65, 3) := by decide +kernel
theorem dX8_writes_4 : decode cX8_writes 4 = .ok (.aload_n 0, 1) := by decide +kernel
theorem dX8_writes_5 : decode cX8_writes 5 = .ok (.dup, 1) := by decide +kernel
theorem dX8_writes_6 : decode cX8_writes 6 = .ok (.getfield 172, 3) := by decide +kernel
theorem dX8_writes_9 : decode cX8_writes 9 = .ok (.dup_x1, 1) := by decide +kernel
theorem dX8_writes_10 : decode cX8_writes 10 = .ok (.iconst 1, 1) := by decide +kernel
theorem dX8_writes_11 : decode cX8_writes 11 = .ok (.iadd, 1) := by decide +kernel
theorem dX8_writes_12 : decode cX8_writes 12 = .ok (.putfield 172, 3) := by decide +kernel
theorem dX8_writes_15 : decode cX8_writes 15 = .ok (.iload_n 1, 1) := by decide +kernel
theorem dX8_writes_16 : decode cX8_writes 16 = .ok (.iastore, 1) := by decide +kernel
theorem dX8_writes_17 : decode cX8_writes 17 = .ok (.return_, 1) := by decide +kernel
theorem dX8_writesNumber_0 : decode cX8_writesNumber 0 = .ok (.iload_n 1, 1) := by decide +kernel
theorem dX8_writesNumber_1 : decode cX8_writesNumber 1 = .ok (.bipush 9, 2) := by decide +kernel
theorem dX8_writesNumber_3 : decode cX8_writesNumber 3 = .ok (.if_icmp .le 14, 3) := by decide +kernel
theorem dX8_writesNumber_6 : decode cX8_writesNumber 6 = .ok (.aload_n 0, 1) := by decide +kernel
theorem dX8_writesNumber_7 : decode cX8_writesNumber 7 = .ok (.bipush 48, 2) := by decide +kernel
theorem dX8_writesNumber_9 : decode cX8_writesNumber 9 = .ok (.iload_n 1, 1) := by decide +kernel
theorem dX8_writesNumber_10 : decode cX8_writesNumber 10 = .ok (.bipush 10, 2) := by decide +kernel
theorem dX8_writesNumber_12 : decode cX8_writesNumber 12 = .ok (.idiv, 1) := by decide +kernel
theorem dX8_writesNumber_13 : decode cX8_writesNumber 13 = .ok (.iadd, 1) := by decide +kernel
theorem dX8_writesNumber_14 : decode cX8_writesNumber 14 = .ok (.invokevirtual 175, 3) := by decide +kernel
theorem dX8_writesNumber_17 : decode cX8_writesNumber 17 = .ok (.aload_n 0, 1) := by decide +kernel
theorem dX8_writesNumber_18 : decode cX8_writesNumber 18 = .ok (.bipush 48, 2) := by decide +kernel
theorem dX8_writesNumber_20 : decode cX8_writesNumber 20 = .ok (.iload_n 1, 1) := by decide +kernel
theorem dX8_writesNumber_21 : decode cX8_writesNumber 21 = .ok (.bipush 10, 2) := by decide +kernel
theorem dX8_writesNumber_23 : decode cX8_writesNumber 23 = .ok (.irem, 1) := by decide +kernel
theorem dX8_writesNumber_24 : decode cX8_writesNumber 24 = .ok (.iadd, 1) := by decide +kernel
theorem dX8_writesNumber_25 : decode cX8_writesNumber 25 = .ok (.invokevirtual 175, 3) := by decide +kernel
theorem dX8_writesNumber_28 : decode cX8_writesNumber 28 = .ok (.return_, 1) := by decide +kernel
theorem dX8_letterOf_0 : decode cX8_letterOf 0 = .ok (.iload_n 0, 1) := by decide +kernel
theorem dX8_letterOf_1 : decode cX8_letterOf 1 = .ok (.tableswitch 50 2 6 #[35, 41, 44, 47, 38], 35) := by decide +kernel
theorem dX8_letterOf_36 : decode cX8_letterOf 36 = .ok (.bipush 63, 2) := by decide +kernel
theorem dX8_letterOf_38 : decode cX8_letterOf 38 = .ok (.ireturn, 1) := by decide +kernel
theorem dX8_letterOf_39 : decode cX8_letterOf 39 = .ok (.bipush 94, 2) := by decide +kernel
theorem dX8_letterOf_41 : decode cX8_letterOf 41 = .ok (.ireturn, 1) := by decide +kernel
theorem dX8_letterOf_42 : decode cX8_letterOf 42 = .ok (.bipush 47, 2) := by decide +kernel
theorem dX8_letterOf_44 : decode cX8_letterOf 44 = .ok (.ireturn, 1) := by decide +kernel
theorem dX8_letterOf_45 : decode cX8_letterOf 45 = .ok (.bipush 43, 2) := by decide +kernel
theorem dX8_letterOf_47 : decode cX8_letterOf 47 = .ok (.ireturn, 1) := by decide +kernel
theorem dX8_letterOf_48 : decode cX8_letterOf 48 = .ok (.bipush 60, 2) := by decide +kernel
theorem dX8_letterOf_50 : decode cX8_letterOf 50 = .ok (.ireturn, 1) := by decide +kernel
theorem dX8_letterOf_51 : decode cX8_letterOf 51 = .ok (.bipush 33, 2) := by decide +kernel
theorem dX8_letterOf_53 : decode cX8_letterOf 53 = .ok (.ireturn, 1) := by decide +kernel
theorem dX8_spells_0 : decode cX8_spells 0 = .ok (.aload_n 0, 1) := by decide +kernel
theorem dX8_spells_1 : decode cX8_spells 1 = .ok (.getfield 9, 3) := by decide +kernel
theorem dX8_spells_4 : decode cX8_spells 4 = .ok (.iload_n 1, 1) := by decide +kernel
theorem dX8_spells_5 : decode cX8_spells 5 = .ok (.iaload, 1) := by decide +kernel
theorem dX8_spells_6 : decode cX8_spells 6 = .ok (.istore_n 2, 1) := by decide +kernel
theorem dX8_spells_7 : decode cX8_spells 7 = .ok (.iload_n 2, 1) := by decide +kernel
theorem dX8_spells_8 : decode cX8_spells 8 = .ok (.ifCond .ne 14, 3) := by decide +kernel
theorem dX8_spells_11 : decode cX8_spells 11 = .ok (.aload_n 0, 1) := by decide +kernel
theorem dX8_spells_12 : decode cX8_spells 12 = .ok (.aload_n 0, 1) := by decide +kernel
theorem dX8_spells_13 : decode cX8_spells 13 = .ok (.getfield 15, 3) := by decide +kernel
theorem dX8_spells_16 : decode cX8_spells 16 = .ok (.iload_n 1, 1) := by decide +kernel
theorem dX8_spells_17 : decode cX8_spells 17 = .ok (.iaload, 1) := by decide +kernel
theorem dX8_spells_18 : decode cX8_spells 18 = .ok (.invokevirtual 179, 3) := by decide +kernel
theorem dX8_spells_21 : decode cX8_spells 21 = .ok (.return_, 1) := by decide +kernel
theorem dX8_spells_22 : decode cX8_spells 22 = .ok (.iload_n 2, 1) := by decide +kernel
theorem dX8_spells_23 : decode cX8_spells 23 = .ok (.iconst 1, 1) := by decide +kernel
theorem dX8_spells_24 : decode cX8_spells 24 = .ok (.if_icmp .ne 10, 3) := by decide +kernel
theorem dX8_spells_27 : decode cX8_spells 27 = .ok (.aload_n 0, 1) := by decide +kernel
theorem dX8_spells_28 : decode cX8_spells 28 = .ok (.bipush 45, 2) := by decide +kernel
theorem dX8_spells_30 : decode cX8_spells 30 = .ok (.invokevirtual 175, 3) := by decide +kernel
theorem dX8_spells_33 : decode cX8_spells 33 = .ok (.return_, 1) := by decide +kernel
theorem dX8_spells_34 : decode cX8_spells 34 = .ok (.aload_n 0, 1) := by decide +kernel
theorem dX8_spells_35 : decode cX8_spells 35 = .ok (.iload_n 2, 1) := by decide +kernel
theorem dX8_spells_36 : decode cX8_spells 36 = .ok (.invokestatic 182, 3) := by decide +kernel
theorem dX8_spells_39 : decode cX8_spells 39 = .ok (.invokevirtual 175, 3) := by decide +kernel
theorem dX8_spells_42 : decode cX8_spells 42 = .ok (.iconst 0, 1) := by decide +kernel
theorem dX8_spells_43 : decode cX8_spells 43 = .ok (.istore_n 3, 1) := by decide +kernel
theorem dX8_spells_44 : decode cX8_spells 44 = .ok (.iload_n 3, 1) := by decide +kernel
theorem dX8_spells_45 : decode cX8_spells 45 = .ok (.bipush 6, 2) := by decide +kernel
theorem dX8_spells_47 : decode cX8_spells 47 = .ok (.if_icmp .ge 33, 3) := by decide +kernel
theorem dX8_spells_50 : decode cX8_spells 50 = .ok (.iload_n 2, 1) := by decide +kernel
theorem dX8_spells_51 : decode cX8_spells 51 = .ok (.invokestatic 157, 3) := by decide +kernel
theorem dX8_spells_54 : decode cX8_spells 54 = .ok (.ifCond .eq 26, 3) := by decide +kernel
theorem dX8_spells_57 : decode cX8_spells 57 = .ok (.aload_n 0, 1) := by decide +kernel
theorem dX8_spells_58 : decode cX8_spells 58 = .ok (.bipush 48, 2) := by decide +kernel
theorem dX8_spells_60 : decode cX8_spells 60 = .ok (.aload_n 0, 1) := by decide +kernel
theorem dX8_spells_61 : decode cX8_spells 61 = .ok (.getfield 24, 3) := by decide +kernel
theorem dX8_spells_64 : decode cX8_spells 64 = .ok (.iload_n 1, 1) := by decide +kernel
theorem dX8_spells_65 : decode cX8_spells 65 = .ok (.iaload, 1) := by decide +kernel
theorem dX8_spells_66 : decode cX8_spells 66 = .ok (.iload_n 3, 1) := by decide +kernel
theorem dX8_spells_67 : decode cX8_spells 67 = .ok (.invokestatic 85, 3) := by decide +kernel
theorem dX8_spells_70 : decode cX8_spells 70 = .ok (.iadd, 1) := by decide +kernel
theorem dX8_spells_71 : decode cX8_spells 71 = .ok (.invokevirtual 175, 3) := by decide +kernel
theorem dX8_spells_74 : decode cX8_spells 74 = .ok (.iinc 3 1, 3) := by decide +kernel
theorem dX8_spells_77 : decode cX8_spells 77 = .ok (.goto (-33), 3) := by decide +kernel
theorem dX8_spells_80 : decode cX8_spells 80 = .ok (.iload_n 2, 1) := by decide +kernel
theorem dX8_spells_81 : decode cX8_spells 81 = .ok (.bipush 6, 2) := by decide +kernel
theorem dX8_spells_83 : decode cX8_spells 83 = .ok (.if_icmp .ne 19, 3) := by decide +kernel
theorem dX8_spells_86 : decode cX8_spells 86 = .ok (.aload_n 0, 1) := by decide +kernel
theorem dX8_spells_87 : decode cX8_spells 87 = .ok (.bipush 58, 2) := by decide +kernel
theorem dX8_spells_89 : decode cX8_spells 89 = .ok (.invokevirtual 175, 3) := by decide +kernel
theorem dX8_spells_92 : decode cX8_spells 92 = .ok (.aload_n 0, 1) := by decide +kernel
theorem dX8_spells_93 : decode cX8_spells 93 = .ok (.aload_n 0, 1) := by decide +kernel
theorem dX8_spells_94 : decode cX8_spells 94 = .ok (.getfield 15, 3) := by decide +kernel
theorem dX8_spells_97 : decode cX8_spells 97 = .ok (.iload_n 1, 1) := by decide +kernel
theorem dX8_spells_98 : decode cX8_spells 98 = .ok (.iaload, 1) := by decide +kernel
theorem dX8_spells_99 : decode cX8_spells 99 = .ok (.invokevirtual 179, 3) := by decide +kernel
theorem dX8_spells_102 : decode cX8_spells 102 = .ok (.aload_n 0, 1) := by decide +kernel
theorem dX8_spells_103 : decode cX8_spells 103 = .ok (.bipush 40, 2) := by decide +kernel
theorem dX8_spells_105 : decode cX8_spells 105 = .ok (.invokevirtual 175, 3) := by decide +kernel
theorem dX8_spells_108 : decode cX8_spells 108 = .ok (.aload_n 0, 1) := by decide +kernel
theorem dX8_spells_109 : decode cX8_spells 109 = .ok (.aload_n 0, 1) := by decide +kernel
theorem dX8_spells_110 : decode cX8_spells 110 = .ok (.getfield 18, 3) := by decide +kernel
theorem dX8_spells_113 : decode cX8_spells 113 = .ok (.iload_n 1, 1) := by decide +kernel
theorem dX8_spells_114 : decode cX8_spells 114 = .ok (.iaload, 1) := by decide +kernel
theorem dX8_spells_115 : decode cX8_spells 115 = .ok (.invokevirtual 185, 3) := by decide +kernel
theorem dX8_spells_118 : decode cX8_spells 118 = .ok (.iload_n 2, 1) := by decide +kernel
theorem dX8_spells_119 : decode cX8_spells 119 = .ok (.invokestatic 116, 3) := by decide +kernel
theorem dX8_spells_122 : decode cX8_spells 122 = .ok (.ifCond .eq 19, 3) := by decide +kernel
theorem dX8_spells_125 : decode cX8_spells 125 = .ok (.aload_n 0, 1) := by decide +kernel
theorem dX8_spells_126 : decode cX8_spells 126 = .ok (.bipush 44, 2) := by decide +kernel
theorem dX8_spells_128 : decode cX8_spells 128 = .ok (.invokevirtual 175, 3) := by decide +kernel
theorem dX8_spells_131 : decode cX8_spells 131 = .ok (.aload_n 0, 1) := by decide +kernel
theorem dX8_spells_132 : decode cX8_spells 132 = .ok (.aload_n 0, 1) := by decide +kernel
theorem dX8_spells_133 : decode cX8_spells 133 = .ok (.getfield 21, 3) := by decide +kernel
theorem dX8_spells_136 : decode cX8_spells 136 = .ok (.iload_n 1, 1) := by decide +kernel
theorem dX8_spells_137 : decode cX8_spells 137 = .ok (.iaload, 1) := by decide +kernel
theorem dX8_spells_138 : decode cX8_spells 138 = .ok (.invokevirtual 185, 3) := by decide +kernel
theorem dX8_spells_141 : decode cX8_spells 141 = .ok (.aload_n 0, 1) := by decide +kernel
theorem dX8_spells_142 : decode cX8_spells 142 = .ok (.bipush 41, 2) := by decide +kernel
theorem dX8_spells_144 : decode cX8_spells 144 = .ok (.invokevirtual 175, 3) := by decide +kernel
theorem dX8_spells_147 : decode cX8_spells 147 = .ok (.return_, 1) := by decide +kernel
theorem dX8_spell_0 : decode cX8_spell 0 = .ok (.aload_n 0, 1) := by decide +kernel
theorem dX8_spell_1 : decode cX8_spell 1 = .ok (.iload_n 1, 1) := by decide +kernel
theorem dX8_spell_2 : decode cX8_spell 2 = .ok (.invokevirtual 109, 3) := by decide +kernel
theorem dX8_spell_5 : decode cX8_spell 5 = .ok (.ifCond .ne 5, 3) := by decide +kernel
theorem dX8_spell_8 : decode cX8_spell 8 = .ok (.iconst (-1), 1) := by decide +kernel
theorem dX8_spell_9 : decode cX8_spell 9 = .ok (.ireturn, 1) := by decide +kernel
theorem dX8_spell_10 : decode cX8_spell 10 = .ok (.aload_n 0, 1) := by decide +kernel
theorem dX8_spell_11 : decode cX8_spell 11 = .ok (.iconst 0, 1) := by decide +kernel
