theorem dX0_init_0 : decode cX0_init 0 = .ok (.aload_n 0, 1) := by decide +kernel
theorem dX0_init_1 : decode cX0_init 1 = .ok (.invokespecial 3, 3) := by decide +kernel
theorem dX0_init_4 : decode cX0_init 4 = .ok (.aload_n 0, 1) := by decide +kernel
theorem dX0_init_5 : decode cX0_init 5 = .ok (.sipush 224, 3) := by decide +kernel
theorem dX0_init_8 : decode cX0_init 8 = .ok (.newarray .int, 2) := by decide +kernel
theorem dX0_init_10 : decode cX0_init 10 = .ok (.putfield 9, 3) := by decide +kernel
theorem dX0_init_13 : decode cX0_init 13 = .ok (.aload_n 0, 1) := by decide +kernel
theorem dX0_init_14 : decode cX0_init 14 = .ok (.sipush 224, 3) := by decide +kernel
theorem dX0_init_17 : decode cX0_init 17 = .ok (.newarray .int, 2) := by decide +kernel
theorem dX0_init_19 : decode cX0_init 19 = .ok (.putfield 15, 3) := by decide +kernel
theorem dX0_init_22 : decode cX0_init 22 = .ok (.aload_n 0, 1) := by decide +kernel
theorem dX0_init_23 : decode cX0_init 23 = .ok (.sipush 224, 3) := by decide +kernel
theorem dX0_init_26 : decode cX0_init 26 = .ok (.newarray .int, 2) := by decide +kernel
theorem dX0_init_28 : decode cX0_init 28 = .ok (.putfield 18, 3) := by decide +kernel
theorem dX0_init_31 : decode cX0_init 31 = .ok (.aload_n 0, 1) := by decide +kernel
theorem dX0_init_32 : decode cX0_init 32 = .ok (.iconst 0, 1) := by decide +kernel
theorem dX0_init_33 : decode cX0_init 33 = .ok (.putfield 21, 3) := by decide +kernel
theorem dX0_init_36 : decode cX0_init 36 = .ok (.return_, 1) := by decide +kernel
theorem dX0_has_0 : decode cX0_has 0 = .ok (.iload_n 1, 1) := by decide +kernel
theorem dX0_has_1 : decode cX0_has 1 = .ok (.ifCond .lt 15, 3) := by decide +kernel
theorem dX0_has_4 : decode cX0_has 4 = .ok (.iload_n 1, 1) := by decide +kernel
theorem dX0_has_5 : decode cX0_has 5 = .ok (.aload_n 0, 1) := by decide +kernel
theorem dX0_has_6 : decode cX0_has 6 = .ok (.getfield 21, 3) := by decide +kernel
theorem dX0_has_9 : decode cX0_has 9 = .ok (.if_icmp .ge 7, 3) := by decide +kernel
theorem dX0_has_12 : decode cX0_has 12 = .ok (.iconst 1, 1) := by decide +kernel
theorem dX0_has_13 : decode cX0_has 13 = .ok (.goto 4, 3) := by decide +kernel
theorem dX0_has_16 : decode cX0_has 16 = .ok (.iconst 0, 1) := by decide +kernel
theorem dX0_has_17 : decode cX0_has 17 = .ok (.ireturn, 1) := by decide +kernel
theorem dX0_tell_0 : decode cX0_tell 0 = .ok (.iload_n 1, 1) := by decide +kernel
theorem dX0_tell_1 : decode cX0_tell 1 = .ok (.iconst (-1), 1) := by decide +kernel
theorem dX0_tell_2 : decode cX0_tell 2 = .ok (.if_icmp .ne 8, 3) := by decide +kernel
theorem dX0_tell_5 : decode cX0_tell 5 = .ok (.aload_n 0, 1) := by decide +kernel
theorem dX0_tell_6 : decode cX0_tell 6 = .ok (.getfield 21, 3) := by decide +kernel
theorem dX0_tell_9 : decode cX0_tell 9 = .ok (.ireturn, 1) := by decide +kernel
theorem dX0_tell_10 : decode cX0_tell 10 = .ok (.aload_n 0, 1) := by decide +kernel
theorem dX0_tell_11 : decode cX0_tell 11 = .ok (.iload_n 1, 1) := by decide +kernel
theorem dX0_tell_12 : decode cX0_tell 12 = .ok (.invokevirtual 25, 3) := by decide +kernel
theorem dX0_tell_15 : decode cX0_tell 15 = .ok (.ifCond .eq 26, 3) := by decide +kernel
theorem dX0_tell_18 : decode cX0_tell 18 = .ok (.iload_n 2, 1) := by decide +kernel
theorem dX0_tell_19 : decode cX0_tell 19 = .ok (.ifCond .lt 22, 3) := by decide +kernel
theorem dX0_tell_22 : decode cX0_tell 22 = .ok (.iload_n 2, 1) := by decide +kernel
theorem dX0_tell_23 : decode cX0_tell 23 = .ok (.bipush 6, 2) := by decide +kernel
theorem dX0_tell_25 : decode cX0_tell 25 = .ok (.if_icmp .ge 16, 3) := by decide +kernel
theorem dX0_tell_28 : decode cX0_tell 28 = .ok (.aload_n 0, 1) := by decide +kernel
theorem dX0_tell_29 : decode cX0_tell 29 = .ok (.getfield 15, 3) := by decide +kernel
theorem dX0_tell_32 : decode cX0_tell 32 = .ok (.iload_n 1, 1) := by decide +kernel
theorem dX0_tell_33 : decode cX0_tell 33 = .ok (.iaload, 1) := by decide +kernel
theorem dX0_tell_34 : decode cX0_tell 34 = .ok (.iload_n 2, 1) := by decide +kernel
theorem dX0_tell_35 : decode cX0_tell 35 = .ok (.invokestatic 29, 3) := by decide +kernel
theorem dX0_tell_38 : decode cX0_tell 38 = .ok (.goto 4, 3) := by decide +kernel
theorem dX0_tell_41 : decode cX0_tell 41 = .ok (.iconst (-1), 1) := by decide +kernel
theorem dX0_tell_42 : decode cX0_tell 42 = .ok (.ireturn, 1) := by decide +kernel
theorem dX0_takeAll_0 : decode cX0_takeAll 0 = .ok (.aload_n 0, 1) := by decide +kernel
theorem dX0_takeAll_1 : decode cX0_takeAll 1 = .ok (.iconst 0, 1) := by decide +kernel
theorem dX0_takeAll_2 : decode cX0_takeAll 2 = .ok (.putfield 21, 3) := by decide +kernel
theorem dX0_takeAll_5 : decode cX0_takeAll 5 = .ok (.iconst 0, 1) := by decide +kernel
theorem dX0_takeAll_6 : decode cX0_takeAll 6 = .ok (.istore_n 1, 1) := by decide +kernel
theorem dX0_takeAll_7 : decode cX0_takeAll 7 = .ok (.iload_n 1, 1) := by decide +kernel
theorem dX0_takeAll_8 : decode cX0_takeAll 8 = .ok (.sipush 224, 3) := by decide +kernel
theorem dX0_takeAll_11 : decode cX0_takeAll 11 = .ok (.if_icmp .ge 24, 3) := by decide +kernel
theorem dX0_takeAll_14 : decode cX0_takeAll 14 = .ok (.aload_n 0, 1) := by decide +kernel
theorem dX0_takeAll_15 : decode cX0_takeAll 15 = .ok (.getfield 9, 3) := by decide +kernel
theorem dX0_takeAll_18 : decode cX0_takeAll 18 = .ok (.iload_n 1, 1) := by decide +kernel
theorem dX0_takeAll_19 : decode cX0_takeAll 19 = .ok (.iaload, 1) := by decide +kernel
theorem dX0_takeAll_20 : decode cX0_takeAll 20 = .ok (.iconst (-1), 1) := by decide +kernel
theorem dX0_takeAll_21 : decode cX0_takeAll 21 = .ok (.if_icmp .eq 8, 3) := by decide +kernel
theorem dX0_takeAll_24 : decode cX0_takeAll 24 = .ok (.aload_n 0, 1) := by decide +kernel
theorem dX0_takeAll_25 : decode cX0_takeAll 25 = .ok (.iload_n 1, 1) := by decide +kernel
theorem dX0_takeAll_26 : decode cX0_takeAll 26 = .ok (.invokevirtual 33, 3) := by decide +kernel
theorem dX0_takeAll_29 : decode cX0_takeAll 29 = .ok (.iinc 1 1, 3) := by decide +kernel
theorem dX0_takeAll_32 : decode cX0_takeAll 32 = .ok (.goto (-25), 3) := by decide +kernel
theorem dX0_takeAll_35 : decode cX0_takeAll 35 = .ok (.return_, 1) := by decide +kernel
theorem dX0_takeFrom_0 : decode cX0_takeFrom 0 = .ok (.aload_n 0, 1) := by decide +kernel
theorem dX0_takeFrom_1 : decode cX0_takeFrom 1 = .ok (.getfield 9, 3) := by decide +kernel
theorem dX0_takeFrom_4 : decode cX0_takeFrom 4 = .ok (.iload_n 1, 1) := by decide +kernel
theorem dX0_takeFrom_5 : decode cX0_takeFrom 5 = .ok (.iaload, 1) := by decide +kernel
theorem dX0_takeFrom_6 : decode cX0_takeFrom 6 = .ok (.istore_n 2, 1) := by decide +kernel
theorem dX0_takeFrom_7 : decode cX0_takeFrom 7 = .ok (.iload_n 1, 1) := by decide +kernel
theorem dX0_takeFrom_8 : decode cX0_takeFrom 8 = .ok (.invokestatic 37, 3) := by decide +kernel
theorem dX0_takeFrom_11 : decode cX0_takeFrom 11 = .ok (.istore_n 3, 1) := by decide +kernel
theorem dX0_takeFrom_12 : decode cX0_takeFrom 12 = .ok (.iload_n 1, 1) := by decide +kernel
theorem dX0_takeFrom_13 : decode cX0_takeFrom 13 = .ok (.invokestatic 41, 3) := by decide +kernel
theorem dX0_takeFrom_16 : decode cX0_takeFrom 16 = .ok (.istore 4, 2) := by decide +kernel
theorem dX0_takeFrom_18 : decode cX0_takeFrom 18 = .ok (.iload_n 1, 1) := by decide +kernel
theorem dX0_takeFrom_19 : decode cX0_takeFrom 19 = .ok (.invokestatic 44, 3) := by decide +kernel
theorem dX0_takeFrom_22 : decode cX0_takeFrom 22 = .ok (.istore 5, 2) := by decide +kernel
theorem dX0_takeFrom_24 : decode cX0_takeFrom 24 = .ok (.iload 5, 2) := by decide +kernel
theorem dX0_takeFrom_26 : decode cX0_takeFrom 26 = .ok (.istore 6, 2) := by decide +kernel
theorem dX0_takeFrom_28 : decode cX0_takeFrom 28 = .ok (.iload 6, 2) := by decide +kernel
theorem dX0_takeFrom_30 : decode cX0_takeFrom 30 = .ok (.iconst 3, 1) := by decide +kernel
theorem dX0_takeFrom_31 : decode cX0_takeFrom 31 = .ok (.if_icmp .ge 28, 3) := by decide +kernel
theorem dX0_takeFrom_34 : decode cX0_takeFrom 34 = .ok (.aload_n 0, 1) := by decide +kernel
theorem dX0_takeFrom_35 : decode cX0_takeFrom 35 = .ok (.iload_n 3, 1) := by decide +kernel
theorem dX0_takeFrom_36 : decode cX0_takeFrom 36 = .ok (.iload 4, 2) := by decide +kernel
theorem dX0_takeFrom_38 : decode cX0_takeFrom 38 = .ok (.iload 6, 2) := by decide +kernel
theorem dX0_takeFrom_40 : decode cX0_takeFrom 40 = .ok (.iconst 1, 1) := by decide +kernel
theorem dX0_takeFrom_41 : decode cX0_takeFrom 41 = .ok (.iadd, 1) := by decide +kernel
theorem dX0_takeFrom_42 : decode cX0_takeFrom 42 = .ok (.iload 6, 2) := by decide +kernel
theorem dX0_takeFrom_44 : decode cX0_takeFrom 44 = .ok (.iconst 1, 1) := by decide +kernel
theorem dX0_takeFrom_45 : decode cX0_takeFrom 45 = .ok (.iadd, 1) := by decide +kernel
theorem dX0_takeFrom_46 : decode cX0_takeFrom 46 = .ok (.iload_n 2, 1) := by decide +kernel
theorem dX0_takeFrom_47 : decode cX0_takeFrom 47 = .ok (.invokevirtual 47, 3) := by decide +kernel
theorem dX0_takeFrom_50 : decode cX0_takeFrom 50 = .ok (.ifCond .eq 9, 3) := by decide +kernel
theorem dX0_takeFrom_53 : decode cX0_takeFrom 53 = .ok (.iinc 6 1, 3) := by decide +kernel
theorem dX0_takeFrom_56 : decode cX0_takeFrom 56 = .ok (.goto (-28), 3) := by decide +kernel
theorem dX0_takeFrom_59 : decode cX0_takeFrom 59 = .ok (.iload 4, 2) := by decide +kernel
theorem dX0_takeFrom_61 : decode cX0_takeFrom 61 = .ok (.istore 7, 2) := by decide +kernel
theorem dX0_takeFrom_63 : decode cX0_takeFrom 63 = .ok (.iload 7, 2) := by decide +kernel
theorem dX0_takeFrom_65 : decode cX0_takeFrom 65 = .ok (.bipush 6, 2) := by decide +kernel
theorem dX0_takeFrom_67 : decode cX0_takeFrom 67 = .ok (.if_icmp .ge 26, 3) := by decide +kernel
theorem dX0_takeFrom_70 : decode cX0_takeFrom 70 = .ok (.aload_n 0, 1) := by decide +kernel
theorem dX0_takeFrom_71 : decode cX0_takeFrom 71 = .ok (.iload_n 3, 1) := by decide +kernel
theorem dX0_takeFrom_72 : decode cX0_takeFrom 72 = .ok (.iload 7, 2) := by decide +kernel
theorem dX0_takeFrom_74 : decode cX0_takeFrom 74 = .ok (.iconst 1, 1) := by decide +kernel
theorem dX0_takeFrom_75 : decode cX0_takeFrom 75 = .ok (.iadd, 1) := by decide +kernel
theorem dX0_takeFrom_76 : decode cX0_takeFrom 76 = .ok (.iload 5, 2) := by decide +kernel
theorem dX0_takeFrom_78 : decode cX0_takeFrom 78 = .ok (.iload 6, 2) := by decide +kernel
theorem dX0_takeFrom_80 : decode cX0_takeFrom 80 = .ok (.iload_n 2, 1) := by decide +kernel
theorem dX0_takeFrom_81 : decode cX0_takeFrom 81 = .ok (.invokevirtual 47, 3) := by decide +kernel
theorem dX0_takeFrom_84 : decode cX0_takeFrom 84 = .ok (.ifCond .eq 9, 3) := by decide +kernel
theorem dX0_takeFrom_87 : decode cX0_takeFrom 87 = .ok (.iinc 7 1, 3) := by decide +kernel
theorem dX0_takeFrom_90 : decode cX0_takeFrom 90 = .ok (.goto (-27), 3) := by decide +kernel
theorem dX0_takeFrom_93 : decode cX0_takeFrom 93 = .ok (.iload_n 3, 1) := by decide +kernel
theorem dX0_takeFrom_94 : decode cX0_takeFrom 94 = .ok (.istore 8, 2) := by decide +kernel
theorem dX0_takeFrom_96 : decode cX0_takeFrom 96 = .ok (.iload 8, 2) := by decide +kernel
theorem dX0_takeFrom_98 : decode cX0_takeFrom 98 = .ok (.bipush 7, 2) := by decide +kernel
theorem dX0_takeFrom_100 : decode cX0_takeFrom 100 = .ok (.if_icmp .ge 29, 3) := by decide +kernel
theorem dX0_takeFrom_103 : decode cX0_takeFrom 103 = .ok (.aload_n 0, 1) := by decide +kernel
theorem dX0_takeFrom_104 : decode cX0_takeFrom 104 = .ok (.iload 8, 2) := by decide +kernel
theorem dX0_takeFrom_106 : decode cX0_takeFrom 106 = .ok (.iconst 1, 1) := by decide +kernel
theorem dX0_takeFrom_107 : decode cX0_takeFrom 107 = .ok (.iadd, 1) := by decide +kernel
theorem dX0_takeFrom_108 : decode cX0_takeFrom 108 = .ok (.iload 4, 2) := by decide +kernel
theorem dX0_takeFrom_110 : decode cX0_takeFrom 110 = .ok (.iload 7, 2) := by decide +kernel
theorem dX0_takeFrom_112 : decode cX0_takeFrom 112 = .ok (.iload 5, 2) := by decide +kernel
theorem dX0_takeFrom_114 : decode cX0_takeFrom 114 = .ok (.iload 6, 2) := by decide +kernel
theorem dX0_takeFrom_116 : decode cX0_takeFrom 116 = .ok (.iload_n 2, 1) := by decide +kernel
theorem dX0_takeFrom_117 : decode cX0_takeFrom 117 = .ok (.invokevirtual 51, 3) := by decide +kernel
theorem dX0_takeFrom_120 : decode cX0_takeFrom 120 = .ok (.ifCond .eq 9, 3) := by decide +kernel
theorem dX0_takeFrom_123 : decode cX0_takeFrom 123 = .ok (.iinc 8 1, 3) := by decide +kernel
theorem dX0_takeFrom_126 : decode cX0_takeFrom 126 = .ok (.goto (-30), 3) := by decide +kernel
theorem dX0_takeFrom_129 : decode cX0_takeFrom 129 = .ok (.aload_n 0, 1) := by decide +kernel
theorem dX0_takeFrom_130 : decode cX0_takeFrom 130 = .ok (.ldc 55, 2) := by decide +kernel
theorem dX0_takeFrom_132 : decode cX0_takeFrom 132 = .ok (.iload_n 3, 1) := by decide +kernel
theorem dX0_takeFrom_133 : decode cX0_takeFrom 133 = .ok (.imul, 1) := by decide +kernel
theorem dX0_takeFrom_134 : decode cX0_takeFrom 134 = .ok (.sipush 10000, 3) := by decide +kernel
theorem dX0_takeFrom_137 : decode cX0_takeFrom 137 = .ok (.iload 8, 2) := by decide +kernel
theorem dX0_takeFrom_139 : decode cX0_takeFrom 139 = .ok (.imul, 1) := by decide +kernel
theorem dX0_takeFrom_140 : decode cX0_takeFrom 140 = .ok (.iadd, 1) := by decide +kernel
theorem dX0_takeFrom_141 : decode cX0_takeFrom 141 = .ok (.sipush 1000, 3) := by decide +kernel
theorem dX0_takeFrom_144 : decode cX0_takeFrom 144 = .ok (.iload 4, 2) := by decide +kernel
theorem dX0_takeFrom_146 : decode cX0_takeFrom 146 = .ok (.imul, 1) := by decide +kernel
theorem dX0_takeFrom_147 : decode cX0_takeFrom 147 = .ok (.iadd, 1) := by decide +kernel
theorem dX0_takeFrom_148 : decode cX0_takeFrom 148 = .ok (.bipush 100, 2) := by decide +kernel
theorem dX0_takeFrom_150 : decode cX0_takeFrom 150 = .ok (.iload 7, 2) := by decide +kernel
theorem dX0_takeFrom_152 : decode cX0_takeFrom 152 = .ok (.imul, 1) := by decide +kernel
theorem dX0_takeFrom_153 : decode cX0_takeFrom 153 = .ok (.iadd, 1) := by decide +kernel
theorem dX0_takeFrom_154 : decode cX0_takeFrom 154 = .ok (.bipush 10, 2) := by decide +kernel
theorem dX0_takeFrom_156 : decode cX0_takeFrom 156 = .ok (.iload 5, 2) := by decide +kernel
theorem dX0_takeFrom_158 : decode cX0_takeFrom 158 = .ok (.imul, 1) := by decide +kernel
theorem dX0_takeFrom_159 : decode cX0_takeFrom 159 = .ok (.iadd, 1) := by decide +kernel
theorem dX0_takeFrom_160 : decode cX0_takeFrom 160 = .ok (.iload 6, 2) := by decide +kernel
theorem dX0_takeFrom_162 : decode cX0_takeFrom 162 = .ok (.iadd, 1) := by decide +kernel
theorem dX0_takeFrom_163 : decode cX0_takeFrom 163 = .ok (.iload_n 2, 1) := by decide +kernel
theorem dX0_takeFrom_164 : decode cX0_takeFrom 164 = .ok (.invokevirtual 56, 3) := by decide +kernel
theorem dX0_takeFrom_167 : decode cX0_takeFrom 167 = .ok (.return_, 1) := by decide +kernel
theorem dX0_hoursAlike_0 : decode cX0_hoursAlike 0 = .ok (.iload_n 3, 1) := by decide +kernel
theorem dX0_hoursAlike_1 : decode cX0_hoursAlike 1 = .ok (.istore 6, 2) := by decide +kernel
theorem dX0_hoursAlike_3 : decode cX0_hoursAlike 3 = .ok (.iload 6, 2) := by decide +kernel
theorem dX0_hoursAlike_5 : decode cX0_hoursAlike 5 = .ok (.iload 4, 2) := by decide +kernel
theorem dX0_hoursAlike_7 : decode cX0_hoursAlike 7 = .ok (.if_icmp .gt 40, 3) := by decide +kernel
theorem dX0_hoursAlike_10 : decode cX0_hoursAlike 10 = .ok (.iload_n 1, 1) := by decide +kernel
theorem dX0_hoursAlike_11 : decode cX0_hoursAlike 11 = .ok (.iload_n 2, 1) := by decide +kernel
theorem dX0_hoursAlike_12 : decode cX0_hoursAlike 12 = .ok (.iload 6, 2) := by decide +kernel
theorem dX0_hoursAlike_14 : decode cX0_hoursAlike 14 = .ok (.invokestatic 60, 3) := by decide +kernel
theorem dX0_hoursAlike_17 : decode cX0_hoursAlike 17 = .ok (.istore 7, 2) := by decide +kernel
theorem dX0_hoursAlike_19 : decode cX0_hoursAlike 19 = .ok (.iload 7, 2) := by decide +kernel
theorem dX0_hoursAlike_21 : decode cX0_hoursAlike 21 = .ok (.invokestatic 64, 3) := by decide +kernel
theorem dX0_hoursAlike_24 : decode cX0_hoursAlike 24 = .ok (.ifCond .eq 15, 3) := by decide +kernel
theorem dX0_hoursAlike_27 : decode cX0_hoursAlike 27 = .ok (.aload_n 0, 1) := by decide +kernel
theorem dX0_hoursAlike_28 : decode cX0_hoursAlike 28 = .ok (.getfield 9, 3) := by decide +kernel
theorem dX0_hoursAlike_31 : decode cX0_hoursAlike 31 = .ok (.iload 7, 2) := by decide +kernel
theorem dX0_hoursAlike_33 : decode cX0_hoursAlike 33 = .ok (.iaload, 1) := by decide +kernel
theorem dX0_hoursAlike_34 : decode cX0_hoursAlike 34 = .ok (.iload 5, 2) := by decide +kernel
theorem dX0_hoursAlike_36 : decode cX0_hoursAlike 36 = .ok (.if_icmp .eq 5, 3) := by decide +kernel
theorem dX0_hoursAlike_39 : decode cX0_hoursAlike 39 = .ok (.iconst 0, 1) := by decide +kernel
theorem dX0_hoursAlike_40 : decode cX0_hoursAlike 40 = .ok (.ireturn, 1) := by decide +kernel
theorem dX0_hoursAlike_41 : decode cX0_hoursAlike 41 = .ok (.iinc 6 1, 3) := by decide +kernel
theorem dX0_hoursAlike_44 : decode cX0_hoursAlike 44 = .ok (.goto (-41), 3) := by decide +kernel
theorem dX0_hoursAlike_47 : decode cX0_hoursAlike 47 = .ok (.iconst 1, 1) := by decide +kernel
theorem dX0_hoursAlike_48 : decode cX0_hoursAlike 48 = .ok (.ireturn, 1) := by decide +kernel
theorem dX0_daysAlike_0 : decode cX0_daysAlike 0 = .ok (.iload_n 2, 1) := by decide +kernel
theorem dX0_daysAlike_1 : decode cX0_daysAlike 1 = .ok (.istore 7, 2) := by decide +kernel
theorem dX0_daysAlike_3 : decode cX0_daysAlike 3 = .ok (.iload 7, 2) := by decide +kernel
theorem dX0_daysAlike_5 : decode cX0_daysAlike 5 = .ok (.iload_n 3, 1) := by decide +kernel
theorem dX0_daysAlike_6 : decode cX0_daysAlike 6 = .ok (.if_icmp .gt 27, 3) := by decide +kernel
theorem dX0_daysAlike_9 : decode cX0_daysAlike 9 = .ok (.aload_n 0, 1) := by decide +kernel
theorem dX0_daysAlike_10 : decode cX0_daysAlike 10 = .ok (.iload_n 1, 1) := by decide +kernel
theorem dX0_daysAlike_11 : decode cX0_daysAlike 11 = .ok (.iload 7, 2) := by decide +kernel
theorem dX0_daysAlike_13 : decode cX0_daysAlike 13 = .ok (.iload 4, 2) := by decide +kernel
theorem dX0_daysAlike_15 : decode cX0_daysAlike 15 = .ok (.iload 5, 2) := by decide +kernel
theorem dX0_daysAlike_17 : decode cX0_daysAlike 17 = .ok (.iload 6, 2) := by decide +kernel
theorem dX0_daysAlike_19 : decode cX0_daysAlike 19 = .ok (.invokevirtual 47, 3) := by decide +kernel
theorem dX0_daysAlike_22 : decode cX0_daysAlike 22 = .ok (.ifCond .ne 5, 3) := by decide +kernel
theorem dX0_daysAlike_25 : decode cX0_daysAlike 25 = .ok (.iconst 0, 1) := by decide +kernel
theorem dX0_daysAlike_26 : decode cX0_daysAlike 26 = .ok (.ireturn, 1) := by decide +kernel
theorem dX0_daysAlike_27 : decode cX0_daysAlike 27 = .ok (.iinc 7 1, 3) := by decide +kernel
theorem dX0_daysAlike_30 : decode cX0_daysAlike 30 = .ok (.goto (-27), 3) := by decide +kernel
theorem dX0_daysAlike_33 : decode cX0_daysAlike 33 = .ok (.iconst 1, 1) := by decide +kernel
theorem dX0_daysAlike_34 : decode cX0_daysAlike 34 = .ok (.ireturn, 1) := by decide +kernel
theorem dX0_keep_0 : decode cX0_keep 0 = .ok (.aload_n 0, 1) := by decide +kernel
theorem dX0_keep_1 : decode cX0_keep 1 = .ok (.getfield 21, 3) := by decide +kernel
theorem dX0_keep_4 : decode cX0_keep 4 = .ok (.sipush 224, 3) := by decide +kernel
theorem dX0_keep_7 : decode cX0_keep 7 = .ok (.if_icmp .ge 33, 3) := by decide +kernel
theorem dX0_keep_10 : decode cX0_keep 10 = .ok (.aload_n 0, 1) := by decide +kernel
theorem dX0_keep_11 : decode cX0_keep 11 = .ok (.getfield 15, 3) := by decide +kernel
theorem dX0_keep_14 : decode cX0_keep 14 = .ok (.aload_n 0, 1) := by decide +kernel
theorem dX0_keep_15 : decode cX0_keep 15 = .ok (.getfield 21, 3) := by decide +kernel
theorem dX0_keep_18 : decode cX0_keep 18 = .ok (.iload_n 1, 1) := by decide +kernel
theorem dX0_keep_19 : decode cX0_keep 19 = .ok (.iastore, 1) := by decide +kernel
theorem dX0_keep_20 : decode cX0_keep 20 = .ok (.aload_n 0, 1) := by decide +kernel
theorem dX0_keep_21 : decode cX0_keep 21 = .ok (.getfield 18, 3) := by decide +kernel
theorem dX0_keep_24 : decode cX0_keep 24 = .ok (.aload_n 0, 1) := by decide +kernel
theorem dX0_keep_25 : decode cX0_keep 25 = .ok (.getfield 21, 3) := by decide +kernel
theorem dX0_keep_28 : decode cX0_keep 28 = .ok (.iload_n 2, 1) := by decide +kernel
theorem dX0_keep_29 : decode cX0_keep 29 = .ok (.iastore, 1) := by decide +kernel
theorem dX0_keep_30 : decode cX0_keep 30 = .ok (.aload_n 0, 1) := by decide +kernel
theorem dX0_keep_31 : decode cX0_keep 31 = .ok (.dup, 1) := by decide +kernel
theorem dX0_keep_32 : decode cX0_keep 32 = .ok (.getfield 21, 3) := by decide +kernel
theorem dX0_keep_35 : decode cX0_keep 35 = .ok (.iconst 1, 1) := by decide +kernel
theorem dX0_keep_36 : decode cX0_keep 36 = .ok (.iadd, 1) := by decide +kernel
theorem dX0_keep_37 : decode cX0_keep 37 = .ok (.putfield 21, 3) := by decide +kernel
theorem dX0_keep_40 : decode cX0_keep 40 = .ok (.iconst 0, 1) := by decide +kernel
theorem dX0_keep_41 : decode cX0_keep 41 = .ok (.istore_n 3, 1) := by decide +kernel
theorem dX0_keep_42 : decode cX0_keep 42 = .ok (.iload_n 3, 1) := by decide +kernel
theorem dX0_keep_43 : decode cX0_keep 43 = .ok (.sipush 224, 3) := by decide +kernel
theorem dX0_keep_46 : decode cX0_keep 46 = .ok (.if_icmp .ge 34, 3) := by decide +kernel
theorem dX0_keep_49 : decode cX0_keep 49 = .ok (.aload_n 0, 1) := by decide +kernel
theorem dX0_keep_50 : decode cX0_keep 50 = .ok (.getfield 9, 3) := by decide +kernel
theorem dX0_keep_53 : decode cX0_keep 53 = .ok (.iload_n 3, 1) := by decide +kernel
theorem dX0_keep_54 : decode cX0_keep 54 = .ok (.iaload, 1) := by decide +kernel
theorem dX0_keep_55 : decode cX0_keep 55 = .ok (.iload_n 2, 1) := by decide +kernel
theorem dX0_keep_56 : decode cX0_keep 56 = .ok (.if_icmp .ne 18, 3) := by decide +kernel
theorem dX0_keep_59 : decode cX0_keep 59 = .ok (.iload_n 3, 1) := by decide +kernel
theorem dX0_keep_60 : decode cX0_keep 60 = .ok (.iload_n 1, 1) := by decide +kernel
theorem dX0_keep_61 : decode cX0_keep 61 = .ok (.invokestatic 67, 3) := by decide +kernel
theorem dX0_keep_64 : decode cX0_keep 64 = .ok (.ifCond .eq 10, 3) := by decide +kernel
theorem dX0_keep_67 : decode cX0_keep 67 = .ok (.aload_n 0, 1) := by decide +kernel
theorem dX0_keep_68 : decode cX0_keep 68 = .ok (.getfield 9, 3) := by decide +kernel
theorem dX0_keep_71 : decode cX0_keep 71 = .ok (.iload_n 3, 1) := by decide +kernel
theorem dX0_keep_72 : decode cX0_keep 72 = .ok (.iconst (-1), 1) := by decide +kernel
theorem dX0_keep_73 : decode cX0_keep 73 = .ok (.iastore, 1) := by decide +kernel
theorem dX0_keep_74 : decode cX0_keep 74 = .ok (.iinc 3 1, 3) := by decide +kernel
theorem dX0_keep_77 : decode cX0_keep 77 = .ok (.goto (-35), 3) := by decide +kernel
theorem dX0_keep_80 : decode cX0_keep 80 = .ok (.return_, 1) := by decide +kernel
theorem dX1_init_0 : decode cX1_init 0 = .ok (.aload_n 0, 1) := by decide +kernel
theorem dX1_init_1 : decode cX1_init 1 = .ok (.invokespecial 3, 3) := by decide +kernel
theorem dX1_init_4 : decode cX1_init 4 = .ok (.aload_n 0, 1) := by decide +kernel
theorem dX1_init_5 : decode cX1_init 5 = .ok (.bipush 8, 2) := by decide +kernel
theorem dX1_init_7 : decode cX1_init 7 = .ok (.newarray .int, 2) := by decide +kernel
theorem dX1_init_9 : decode cX1_init 9 = .ok (.putfield 9, 3) := by decide +kernel
theorem dX1_init_12 : decode cX1_init 12 = .ok (.aload_n 0, 1) := by decide +kernel
theorem dX1_init_13 : decode cX1_init 13 = .ok (.bipush 8, 2) := by decide +kernel
theorem dX1_init_15 : decode cX1_init 15 = .ok (.newarray .int, 2) := by decide +kernel
theorem dX1_init_17 : decode cX1_init 17 = .ok (.putfield 15, 3) := by decide +kernel
theorem dX1_init_20 : decode cX1_init 20 = .ok (.aload_n 0, 1) := by decide +kernel
theorem dX1_init_21 : decode cX1_init 21 = .ok (.iconst 0, 1) := by decide +kernel
theorem dX1_init_22 : decode cX1_init 22 = .ok (.putfield 18, 3) := by decide +kernel
theorem dX1_init_25 : decode cX1_init 25 = .ok (.return_, 1) := by decide +kernel
theorem dX1_note_0 : decode cX1_note 0 = .ok (.aload_n 0, 1) := by decide +kernel
theorem dX1_note_1 : decode cX1_note 1 = .ok (.getfield 18, 3) := by decide +kernel
theorem dX1_note_4 : decode cX1_note 4 = .ok (.bipush 8, 2) := by decide +kernel
theorem dX1_note_6 : decode cX1_note 6 = .ok (.if_icmp .lt 6, 3) := by decide +kernel
theorem dX1_note_9 : decode cX1_note 9 = .ok (.bipush (-4), 2) := by decide +kernel
theorem dX1_note_11 : decode cX1_note 11 = .ok (.ireturn, 1) := by decide +kernel
theorem dX1_note_12 : decode cX1_note 12 = .ok (.aload_n 0, 1) := by decide +kernel
theorem dX1_note_13 : decode cX1_note 13 = .ok (.getfield 9, 3) := by decide +kernel
theorem dX1_note_16 : decode cX1_note 16 = .ok (.aload_n 0, 1) := by decide +kernel
theorem dX1_note_17 : decode cX1_note 17 = .ok (.getfield 18, 3) := by decide +kernel
theorem dX1_note_20 : decode cX1_note 20 = .ok (.iload_n 1, 1) := by decide +kernel
theorem dX1_note_21 : decode cX1_note 21 = .ok (.iastore, 1) := by decide +kernel
theorem dX1_note_22 : decode cX1_note 22 = .ok (.aload_n 0, 1) := by decide +kernel
theorem dX1_note_23 : decode cX1_note 23 = .ok (.getfield 15, 3) := by decide +kernel
theorem dX1_note_26 : decode cX1_note 26 = .ok (.aload_n 0, 1) := by decide +kernel
theorem dX1_note_27 : decode cX1_note 27 = .ok (.getfield 18, 3) := by decide +kernel
theorem dX1_note_30 : decode cX1_note 30 = .ok (.iload_n 2, 1) := by decide +kernel
theorem dX1_note_31 : decode cX1_note 31 = .ok (.iastore, 1) := by decide +kernel
theorem dX1_note_32 : decode cX1_note 32 = .ok (.aload_n 0, 1) := by decide +kernel
theorem dX1_note_33 : decode cX1_note 33 = .ok (.dup, 1) := by decide +kernel
theorem dX1_note_34 : decode cX1_note 34 = .ok (.getfield 18, 3) := by decide +kernel
theorem dX1_note_37 : decode cX1_note 37 = .ok (.iconst 1, 1) := by decide +kernel
theorem dX1_note_38 : decode cX1_note 38 = .ok (.iadd, 1) := by decide +kernel
theorem dX1_note_39 : decode cX1_note 39 = .ok (.putfield 18, 3) := by decide +kernel
theorem dX1_note_42 : decode cX1_note 42 = .ok (.aload_n 0, 1) := by decide +kernel
theorem dX1_note_43 : decode cX1_note 43 = .ok (.getfield 18, 3) := by decide +kernel
theorem dX1_note_46 : decode cX1_note 46 = .ok (.ireturn, 1) := by decide +kernel
theorem dX1_forget_0 : decode cX1_forget 0 = .ok (.aload_n 0, 1) := by decide +kernel
theorem dX1_forget_1 : decode cX1_forget 1 = .ok (.iconst 0, 1) := by decide +kernel
theorem dX1_forget_2 : decode cX1_forget 2 = .ok (.putfield 18, 3) := by decide +kernel
theorem dX1_forget_5 : decode cX1_forget 5 = .ok (.return_, 1) := by decide +kernel
theorem dX1_copyFrom_0 : decode cX1_copyFrom 0 = .ok (.aload_n 0, 1) := by decide +kernel
theorem dX1_copyFrom_1 : decode cX1_copyFrom 1 = .ok (.aload_n 1, 1) := by decide +kernel
theorem dX1_copyFrom_2 : decode cX1_copyFrom 2 = .ok (.getfield 18, 3) := by decide +kernel
theorem dX1_copyFrom_5 : decode cX1_copyFrom 5 = .ok (.putfield 18, 3) := by decide +kernel
theorem dX1_copyFrom_8 : decode cX1_copyFrom 8 = .ok (.iconst 0, 1) := by decide +kernel
theorem dX1_copyFrom_9 : decode cX1_copyFrom 9 = .ok (.istore_n 2, 1) := by decide +kernel
theorem dX1_copyFrom_10 : decode cX1_copyFrom 10 = .ok (.iload_n 2, 1) := by decide +kernel
theorem dX1_copyFrom_11 : decode cX1_copyFrom 11 = .ok (.aload_n 0, 1) := by decide +kernel
theorem dX1_copyFrom_12 : decode cX1_copyFrom 12 = .ok (.getfield 18, 3) := by decide +kernel
theorem dX1_copyFrom_15 : decode cX1_copyFrom 15 = .ok (.if_icmp .ge 33, 3) := by decide +kernel
theorem dX1_copyFrom_18 : decode cX1_copyFrom 18 = .ok (.aload_n 0, 1) := by decide +kernel
theorem dX1_copyFrom_19 : decode cX1_copyFrom 19 = .ok (.getfield 9, 3) := by decide +kernel
theorem dX1_copyFrom_22 : decode cX1_copyFrom 22 = .ok (.iload_n 2, 1) := by decide +kernel
theorem dX1_copyFrom_23 : decode cX1_copyFrom 23 = .ok (.aload_n 1, 1) := by decide +kernel
theorem dX1_copyFrom_24 : decode cX1_copyFrom 24 = .ok (.getfield 9, 3) := by decide +kernel
theorem dX1_copyFrom_27 : decode cX1_copyFrom 27 = .ok (.iload_n 2, 1) := by decide +kernel
theorem dX1_copyFrom_28 : decode cX1_copyFrom 28 = .ok (.iaload, 1) := by decide +kernel
theorem dX1_copyFrom_29 : decode cX1_copyFrom 29 = .ok (.iastore, 1) := by decide +kernel
theorem dX1_copyFrom_30 : decode cX1_copyFrom 30 = .ok (.aload_n 0, 1) := by decide +kernel
theorem dX1_copyFrom_31 : decode cX1_copyFrom 31 = .ok (.getfield 15, 3) := by decide +kernel
theorem dX1_copyFrom_34 : decode cX1_copyFrom 34 = .ok (.iload_n 2, 1) := by decide +kernel
theorem dX1_copyFrom_35 : decode cX1_copyFrom 35 = .ok (.aload_n 1, 1) := by decide +kernel
theorem dX1_copyFrom_36 : decode cX1_copyFrom 36 = .ok (.getfield 15, 3) := by decide +kernel
theorem dX1_copyFrom_39 : decode cX1_copyFrom 39 = .ok (.iload_n 2, 1) := by decide +kernel
theorem dX1_copyFrom_40 : decode cX1_copyFrom 40 = .ok (.iaload, 1) := by decide +kernel
theorem dX1_copyFrom_41 : decode cX1_copyFrom 41 = .ok (.iastore, 1) := by decide +kernel
theorem dX1_copyFrom_42 : decode cX1_copyFrom 42 = .ok (.iinc 2 1, 3) := by decide +kernel
theorem dX1_copyFrom_45 : decode cX1_copyFrom 45 = .ok (.goto (-35), 3) := by decide +kernel
theorem dX1_copyFrom_48 : decode cX1_copyFrom 48 = .ok (.return_, 1) := by decide +kernel
theorem dX2_init_0 : decode cX2_init 0 = .ok (.aload_n 0, 1) := by decide +kernel
theorem dX2_init_1 : decode cX2_init 1 = .ok (.invokespecial 3, 3) := by decide +kernel
theorem dX2_init_4 : decode cX2_init 4 = .ok (.aload_n 0, 1) := by decide +kernel
theorem dX2_init_5 : decode cX2_init 5 = .ok (.sipush 470, 3) := by decide +kernel
theorem dX2_init_8 : decode cX2_init 8 = .ok (.newarray .byte, 2) := by decide +kernel
theorem dX2_init_10 : decode cX2_init 10 = .ok (.putfield 9, 3) := by decide +kernel
theorem dX2_init_13 : decode cX2_init 13 = .ok (.aload_n 0, 1) := by decide +kernel
theorem dX2_init_14 : decode cX2_init 14 = .ok (.iconst 0, 1) := by decide +kernel
theorem dX2_init_15 : decode cX2_init 15 = .ok (.putfield 15, 3) := by decide +kernel
theorem dX2_init_18 : decode cX2_init 18 = .ok (.aload_n 0, 1) := by decide +kernel
theorem dX2_init_19 : decode cX2_init 19 = .ok (.aload_n 1, 1) := by decide +kernel
theorem dX2_init_20 : decode cX2_init 20 = .ok (.putfield 19, 3) := by decide +kernel
theorem dX2_init_23 : decode cX2_init 23 = .ok (.return_, 1) := by decide +kernel
theorem dX2_write_0 : decode cX2_write 0 = .ok (.aload_n 0, 1) := by decide +kernel
theorem dX2_write_1 : decode cX2_write 1 = .ok (.iconst 0, 1) := by decide +kernel
theorem dX2_write_2 : decode cX2_write 2 = .ok (.putfield 15, 3) := by decide +kernel
theorem dX2_write_5 : decode cX2_write 5 = .ok (.aload_n 0, 1) := by decide +kernel
theorem dX2_write_6 : decode cX2_write 6 = .ok (.iload_n 1, 1) := by decide +kernel
theorem dX2_write_7 : decode cX2_write 7 = .ok (.iconst 0, 1) := by decide +kernel
theorem dX2_write_8 : decode cX2_write 8 = .ok (.invokevirtual 23, 3) := by decide +kernel
theorem dX2_write_11 : decode cX2_write 11 = .ok (.aload_n 0, 1) := by decide +kernel
theorem dX2_write_12 : decode cX2_write 12 = .ok (.getfield 15, 3) := by decide +kernel
theorem dX2_write_15 : decode cX2_write 15 = .ok (.ireturn, 1) := by decide +kernel
theorem dX2_writeTerm_0 : decode cX2_writeTerm 0 = .ok (.aload_n 0, 1) := by decide +kernel
theorem dX2_writeTerm_1 : decode cX2_writeTerm 1 = .ok (.getfield 19, 3) := by decide +kernel
theorem dX2_writeTerm_4 : decode cX2_writeTerm 4 = .ok (.iload_n 1, 1) := by decide +kernel
theorem dX2_writeTerm_5 : decode cX2_writeTerm 5 = .ok (.invokevirtual 27, 3) := by decide +kernel
theorem dX2_writeTerm_8 : decode cX2_writeTerm 8 = .ok (.ifCond .eq 9, 3) := by decide +kernel
theorem dX2_writeTerm_11 : decode cX2_writeTerm 11 = .ok (.iload_n 2, 1) := by decide +kernel
theorem dX2_writeTerm_12 : decode cX2_writeTerm 12 = .ok (.bipush 24, 2) := by decide +kernel
theorem dX2_writeTerm_14 : decode cX2_writeTerm 14 = .ok (.if_icmp .lt 4, 3) := by decide +kernel
theorem dX2_writeTerm_17 : decode cX2_writeTerm 17 = .ok (.return_, 1) := by decide +kernel
theorem dX2_writeTerm_18 : decode cX2_writeTerm 18 = .ok (.aload_n 0, 1) := by decide +kernel
theorem dX2_writeTerm_19 : decode cX2_writeTerm 19 = .ok (.getfield 19, 3) := by decide +kernel
theorem dX2_writeTerm_22 : decode cX2_writeTerm 22 = .ok (.getfield 33, 3) := by decide +kernel
theorem dX2_writeTerm_25 : decode cX2_writeTerm 25 = .ok (.iload_n 1, 1) := by decide +kernel
theorem dX2_writeTerm_26 : decode cX2_writeTerm 26 = .ok (.iaload, 1) := by decide +kernel
theorem dX2_writeTerm_27 : decode cX2_writeTerm 27 = .ok (.istore_n 3, 1) := by decide +kernel
theorem dX2_writeTerm_28 : decode cX2_writeTerm 28 = .ok (.iload_n 3, 1) := by decide +kernel
theorem dX2_writeTerm_29 : decode cX2_writeTerm 29 = .ok (.ifCond .ne 17, 3) := by decide +kernel
theorem dX2_writeTerm_32 : decode cX2_writeTerm 32 = .ok (.aload_n 0, 1) := by decide +kernel
theorem dX2_writeTerm_33 : decode cX2_writeTerm 33 = .ok (.aload_n 0, 1) := by decide +kernel
theorem dX2_writeTerm_34 : decode cX2_writeTerm 34 = .ok (.getfield 19, 3) := by decide +kernel
theorem dX2_writeTerm_37 : decode cX2_writeTerm 37 = .ok (.getfield 37, 3) := by decide +kernel
theorem dX2_writeTerm_40 : decode cX2_writeTerm 40 = .ok (.iload_n 1, 1) := by decide +kernel
theorem dX2_writeTerm_41 : decode cX2_writeTerm 41 = .ok (.iaload, 1) := by decide +kernel
theorem dX2_writeTerm_42 : decode cX2_writeTerm 42 = .ok (.invokevirtual 40, 3) := by decide +kernel
theorem dX2_writeTerm_45 : decode cX2_writeTerm 45 = .ok (.return_, 1) := by decide +kernel
theorem dX2_writeTerm_46 : decode cX2_writeTerm 46 = .ok (.aload_n 0, 1) := by decide +kernel
theorem dX2_writeTerm_47 : decode cX2_writeTerm 47 = .ok (.aload_n 0, 1) := by decide +kernel
theorem dX2_writeTerm_48 : decode cX2_writeTerm 48 = .ok (.iload_n 3, 1) := by decide +kernel
theorem dX2_writeTerm_49 : decode cX2_writeTerm 49 = .ok (.invokevirtual 44, 3) := by decide +kernel
theorem dX2_writeTerm_52 : decode cX2_writeTerm 52 = .ok (.invokevirtual 48, 3) := by decide +kernel
theorem dX2_writeTerm_55 : decode cX2_writeTerm 55 = .ok (.iload_n 3, 1) := by decide +kernel
theorem dX2_writeTerm_56 : decode cX2_writeTerm 56 = .ok (.iconst 1, 1) := by decide +kernel
theorem dX2_writeTerm_57 : decode cX2_writeTerm 57 = .ok (.if_icmp .ne 4, 3) := by decide +kernel
theorem dX2_writeTerm_60 : decode cX2_writeTerm 60 = .ok (.return_, 1) := by decide +kernel
theorem dX2_writeTerm_61 : decode cX2_writeTerm 61 = .ok (.aload_n 0, 1) := by decide +kernel
theorem dX2_writeTerm_62 : decode cX2_writeTerm 62 = .ok (.iload_n 1, 1) := by decide +kernel
theorem dX2_writeTerm_63 : decode cX2_writeTerm 63 = .ok (.invokevirtual 51, 3) := by decide +kernel
theorem dX2_writeTerm_66 : decode cX2_writeTerm 66 = .ok (.aload_n 0, 1) := by decide +kernel
theorem dX2_writeTerm_67 : decode cX2_writeTerm 67 = .ok (.bipush 40, 2) := by decide +kernel
theorem dX2_writeTerm_69 : decode cX2_writeTerm 69 = .ok (.invokevirtual 48, 3) := by decide +kernel
theorem dX2_writeTerm_72 : decode cX2_writeTerm 72 = .ok (.aload_n 0, 1) := by decide +kernel
theorem dX2_writeTerm_73 : decode cX2_writeTerm 73 = .ok (.aload_n 0, 1) := by decide +kernel
theorem dX2_writeTerm_74 : decode cX2_writeTerm 74 = .ok (.getfield 19, 3) := by decide +kernel
theorem dX2_writeTerm_77 : decode cX2_writeTerm 77 = .ok (.getfield 54, 3) := by decide +kernel
theorem dX2_writeTerm_80 : decode cX2_writeTerm 80 = .ok (.iload_n 1, 1) := by decide +kernel
theorem dX2_writeTerm_81 : decode cX2_writeTerm 81 = .ok (.iaload, 1) := by decide +kernel
theorem dX2_writeTerm_82 : decode cX2_writeTerm 82 = .ok (.iload_n 2, 1) := by decide +kernel
theorem dX2_writeTerm_83 : decode cX2_writeTerm 83 = .ok (.iconst 1, 1) := by decide +kernel
theorem dX2_writeTerm_84 : decode cX2_writeTerm 84 = .ok (.iadd, 1) := by decide +kernel
theorem dX2_writeTerm_85 : decode cX2_writeTerm 85 = .ok (.invokevirtual 23, 3) := by decide +kernel
theorem dX2_writeTerm_88 : decode cX2_writeTerm 88 = .ok (.iload_n 3, 1) := by decide +kernel
theorem dX2_writeTerm_89 : decode cX2_writeTerm 89 = .ok (.invokestatic 57, 3) := by decide +kernel
theorem dX2_writeTerm_92 : decode cX2_writeTerm 92 = .ok (.ifCond .eq 25, 3) := by decide +kernel
theorem dX2_writeTerm_95 : decode cX2_writeTerm 95 = .ok (.aload_n 0, 1) := by decide +kernel
theorem dX2_writeTerm_96 : decode cX2_writeTerm 96 = .ok (.bipush 44, 2) := by decide +kernel
theorem dX2_writeTerm_98 : decode cX2_writeTerm 98 = .ok (.invokevirtual 48, 3) := by decide +kernel
theorem dX2_writeTerm_101 : decode cX2_writeTerm 101 = .ok (.aload_n 0, 1) := by decide +kernel
theorem dX2_writeTerm_102 : decode cX2_writeTerm 102 = .ok (.aload_n 0, 1) := by decide +kernel
theorem dX2_writeTerm_103 : decode cX2_writeTerm 103 = .ok (.getfield 19, 3) := by decide +kernel
theorem dX2_writeTerm_106 : decode cX2_writeTerm 106 = .ok (.getfield 60, 3) := by decide +kernel
theorem dX2_writeTerm_109 : decode cX2_writeTerm 109 = .ok (.iload_n 1, 1) := by decide +kernel
theorem dX2_writeTerm_110 : decode cX2_writeTerm 110 = .ok (.iaload, 1) := by decide +kernel
theorem dX2_writeTerm_111 : decode cX2_writeTerm 111 = .ok (.iload_n 2, 1) := by decide +kernel
theorem dX2_writeTerm_112 : decode cX2_writeTerm 112 = .ok (.iconst 1, 1) := by decide +kernel
theorem dX2_writeTerm_113 : decode cX2_writeTerm 113 = .ok (.iadd, 1) := by decide +kernel
theorem dX2_writeTerm_114 : decode cX2_writeTerm 114 = .ok (.invokevirtual 23, 3) := by decide +kernel
theorem dX2_writeTerm_117 : decode cX2_writeTerm 117 = .ok (.aload_n 0, 1) := by decide +kernel
theorem dX2_writeTerm_118 : decode cX2_writeTerm 118 = .ok (.bipush 41, 2) := by decide +kernel
theorem dX2_writeTerm_120 : decode cX2_writeTerm 120 = .ok (.invokevirtual 48, 3) := by decide +kernel
theorem dX2_writeTerm_123 : decode cX2_writeTerm 123 = .ok (.return_, 1) := by decide +kernel
theorem dX2_signOf_0 : decode cX2_signOf 0 = .ok (.iload_n 1, 1) := by decide +kernel
theorem dX2_signOf_1 : decode cX2_signOf 1 = .ok (.tableswitch 57 2 7 #[39, 45, 48, 51, 42, 54], 39) := by decide +kernel
theorem dX2_signOf_40 : decode cX2_signOf 40 = .ok (.bipush 63, 2) := by decide +kernel
theorem dX2_signOf_42 : decode cX2_signOf 42 = .ok (.ireturn, 1) := by decide +kernel
theorem dX2_signOf_43 : decode cX2_signOf 43 = .ok (.bipush 94, 2) := by decide +kernel
theorem dX2_signOf_45 : decode cX2_signOf 45 = .ok (.ireturn, 1) := by decide +kernel
theorem dX2_signOf_46 : decode cX2_signOf 46 = .ok (.bipush 47, 2) := by decide +kernel
theorem dX2_signOf_48 : decode cX2_signOf 48 = .ok (.ireturn, 1) := by decide +kernel
theorem dX2_signOf_49 : decode cX2_signOf 49 = .ok (.bipush 43, 2) := by decide +kernel
theorem dX2_signOf_51 : decode cX2_signOf 51 = .ok (.ireturn, 1) := by decide +kernel
theorem dX2_signOf_52 : decode cX2_signOf 52 = .ok (.bipush 60, 2) := by decide +kernel
theorem dX2_signOf_54 : decode cX2_signOf 54 = .ok (.ireturn, 1) := by decide +kernel
theorem dX2_signOf_55 : decode cX2_signOf 55 = .ok (.bipush 33, 2) := by decide +kernel
theorem dX2_signOf_57 : decode cX2_signOf 57 = .ok (.ireturn, 1) := by decide +kernel
theorem dX2_signOf_58 : decode cX2_signOf 58 = .ok (.bipush 45, 2) := by decide +kernel
theorem dX2_signOf_60 : decode cX2_signOf 60 = .ok (.ireturn, 1) := by decide +kernel
theorem dX2_writeHead_0 : decode cX2_writeHead 0 = .ok (.aload_n 0, 1) := by decide +kernel
theorem dX2_writeHead_1 : decode cX2_writeHead 1 = .ok (.getfield 19, 3) := by decide +kernel
theorem dX2_writeHead_4 : decode cX2_writeHead 4 = .ok (.getfield 63, 3) := by decide +kernel
theorem dX2_writeHead_7 : decode cX2_writeHead 7 = .ok (.iload_n 1, 1) := by decide +kernel
theorem dX2_writeHead_8 : decode cX2_writeHead 8 = .ok (.iaload, 1) := by decide +kernel
theorem dX2_writeHead_9 : decode cX2_writeHead 9 = .ok (.bipush (-5), 2) := by decide +kernel
theorem dX2_writeHead_11 : decode cX2_writeHead 11 = .ok (.if_icmp .ne 4, 3) := by decide +kernel
theorem dX2_writeHead_14 : decode cX2_writeHead 14 = .ok (.return_, 1) := by decide +kernel
theorem dX2_writeHead_15 : decode cX2_writeHead 15 = .ok (.iconst 0, 1) := by decide +kernel
theorem dX2_writeHead_16 : decode cX2_writeHead 16 = .ok (.istore_n 2, 1) := by decide +kernel
theorem dX2_writeHead_17 : decode cX2_writeHead 17 = .ok (.iload_n 2, 1) := by decide +kernel
theorem dX2_writeHead_18 : decode cX2_writeHead 18 = .ok (.bipush 6, 2) := by decide +kernel
theorem dX2_writeHead_20 : decode cX2_writeHead 20 = .ok (.if_icmp .ge 29, 3) := by decide +kernel
theorem dX2_writeHead_23 : decode cX2_writeHead 23 = .ok (.aload_n 0, 1) := by decide +kernel
theorem dX2_writeHead_24 : decode cX2_writeHead 24 = .ok (.bipush 48, 2) := by decide +kernel
theorem dX2_writeHead_26 : decode cX2_writeHead 26 = .ok (.aload_n 0, 1) := by decide +kernel
theorem dX2_writeHead_27 : decode cX2_writeHead 27 = .ok (.getfield 19, 3) := by decide +kernel
theorem dX2_writeHead_30 : decode cX2_writeHead 30 = .ok (.getfield 63, 3) := by decide +kernel
theorem dX2_writeHead_33 : decode cX2_writeHead 33 = .ok (.iload_n 1, 1) := by decide +kernel
theorem dX2_writeHead_34 : decode cX2_writeHead 34 = .ok (.iaload, 1) := by decide +kernel
theorem dX2_writeHead_35 : decode cX2_writeHead 35 = .ok (.iload_n 2, 1) := by decide +kernel
theorem dX2_writeHead_36 : decode cX2_writeHead 36 = .ok (.invokestatic 66, 3) := by decide +kernel
theorem dX2_writeHead_39 : decode cX2_writeHead 39 = .ok (.iadd, 1) := by decide +kernel
theorem dX2_writeHead_40 : decode cX2_writeHead 40 = .ok (.invokevirtual 48, 3) := by decide +kernel
theorem dX2_writeHead_43 : decode cX2_writeHead 43 = .ok (.iinc 2 1, 3) := by decide +kernel
theorem dX2_writeHead_46 : decode cX2_writeHead 46 = .ok (.goto (-29), 3) := by decide +kernel
theorem dX2_writeHead_49 : decode cX2_writeHead 49 = .ok (.aload_n 0, 1) := by decide +kernel
theorem dX2_writeHead_50 : decode cX2_writeHead 50 = .ok (.getfield 19, 3) := by decide +kernel
theorem dX2_writeHead_53 : decode cX2_writeHead 53 = .ok (.getfield 33, 3) := by decide +kernel
theorem dX2_writeHead_56 : decode cX2_writeHead 56 = .ok (.iload_n 1, 1) := by decide +kernel
theorem dX2_writeHead_57 : decode cX2_writeHead 57 = .ok (.iaload, 1) := by decide +kernel
theorem dX2_writeHead_58 : decode cX2_writeHead 58 = .ok (.bipush 6, 2) := by decide +kernel
theorem dX2_writeHead_60 : decode cX2_writeHead 60 = .ok (.if_icmp .ne 22, 3) := by decide +kernel
theorem dX2_writeHead_63 : decode cX2_writeHead 63 = .ok (.aload_n 0, 1) := by decide +kernel
theorem dX2_writeHead_64 : decode cX2_writeHead 64 = .ok (.bipush 58, 2) := by decide +kernel
theorem dX2_writeHead_66 : decode cX2_writeHead 66 = .ok (.invokevirtual 48, 3) := by decide +kernel
theorem dX2_writeHead_69 : decode cX2_writeHead 69 = .ok (.aload_n 0, 1) := by decide +kernel
theorem dX2_writeHead_70 : decode cX2_writeHead 70 = .ok (.aload_n 0, 1) := by decide +kernel
theorem dX2_writeHead_71 : decode cX2_writeHead 71 = .ok (.getfield 19, 3) := by decide +kernel
theorem dX2_writeHead_74 : decode cX2_writeHead 74 = .ok (.getfield 37, 3) := by decide +kernel
theorem dX2_writeHead_77 : decode cX2_writeHead 77 = .ok (.iload_n 1, 1) := by decide +kernel
theorem dX2_writeHead_78 : decode cX2_writeHead 78 = .ok (.iaload, 1) := by decide +kernel
theorem dX2_writeHead_79 : decode cX2_writeHead 79 = .ok (.invokevirtual 40, 3) := by decide +kernel
theorem dX2_writeHead_82 : decode cX2_writeHead 82 = .ok (.return_, 1) := by decide +kernel
theorem dX2_writeFee_0 : decode cX2_writeFee 0 = .ok (.iload_n 1, 1) := by decide +kernel
theorem dX2_writeFee_1 : decode cX2_writeFee 1 = .ok (.bipush 10, 2) := by decide +kernel
theorem dX2_writeFee_3 : decode cX2_writeFee 3 = .ok (.if_icmp .lt 14, 3) := by decide +kernel
theorem dX2_writeFee_6 : decode cX2_writeFee 6 = .ok (.aload_n 0, 1) := by decide +kernel
theorem dX2_writeFee_7 : decode cX2_writeFee 7 = .ok (.bipush 48, 2) := by decide +kernel
theorem dX2_writeFee_9 : decode cX2_writeFee 9 = .ok (.iload_n 1, 1) := by decide +kernel
theorem dX2_writeFee_10 : decode cX2_writeFee 10 = .ok (.bipush 10, 2) := by decide +kernel
theorem dX2_writeFee_12 : decode cX2_writeFee 12 = .ok (.idiv, 1) := by decide +kernel
theorem dX2_writeFee_13 : decode cX2_writeFee 13 = .ok (.iadd, 1) := by decide +kernel
theorem dX2_writeFee_14 : decode cX2_writeFee 14 = .ok (.invokevirtual 48, 3) := by decide +kernel
theorem dX2_writeFee_17 : decode cX2_writeFee 17 = .ok (.aload_n 0, 1) := by decide +kernel
theorem dX2_writeFee_18 : decode cX2_writeFee 18 = .ok (.bipush 48, 2) := by decide +kernel
theorem dX2_writeFee_20 : decode cX2_writeFee 20 = .ok (.iload_n 1, 1) := by decide +kernel
theorem dX2_writeFee_21 : decode cX2_writeFee 21 = .ok (.bipush 10, 2) := by decide +kernel
theorem dX2_writeFee_23 : decode cX2_writeFee 23 = .ok (.irem, 1) := by decide +kernel
theorem dX2_writeFee_24 : decode cX2_writeFee 24 = .ok (.iadd, 1) := by decide +kernel
theorem dX2_writeFee_25 : decode cX2_writeFee 25 = .ok (.invokevirtual 48, 3) := by decide +kernel
theorem dX2_writeFee_28 : decode cX2_writeFee 28 = .ok (.return_, 1) := by decide +kernel
theorem dX2_writeByte_0 : decode cX2_writeByte 0 = .ok (.aload_n 0, 1) := by decide +kernel
theorem dX2_writeByte_1 : decode cX2_writeByte 1 = .ok (.getfield 15, 3) := by decide +kernel
theorem dX2_writeByte_4 : decode cX2_writeByte 4 = .ok (.sipush 470, 3) := by decide +kernel
theorem dX2_writeByte_7 : decode cX2_writeByte 7 = .ok (.if_icmp .ge 24, 3) := by decide +kernel
theorem dX2_writeByte_10 : decode cX2_writeByte 10 = .ok (.aload_n 0, 1) := by decide +kernel
theorem dX2_writeByte_11 : decode cX2_writeByte 11 = .ok (.getfield 9, 3) := by decide +kernel
theorem dX2_writeByte_14 : decode cX2_writeByte 14 = .ok (.aload_n 0, 1) := by decide +kernel
theorem dX2_writeByte_15 : decode cX2_writeByte 15 = .ok (.getfield 15, 3) := by decide +kernel
theorem dX2_writeByte_18 : decode cX2_writeByte 18 = .ok (.iload_n 1, 1) := by decide +kernel
theorem dX2_writeByte_19 : decode cX2_writeByte 19 = .ok (.i2b, 1) := by decide +kernel
theorem dX2_writeByte_20 : decode cX2_writeByte 20 = .ok (.bastore, 1) := by decide +kernel
theorem dX2_writeByte_21 : decode cX2_writeByte 21 = .ok (.aload_n 0, 1) := by decide +kernel
theorem dX2_writeByte_22 : decode cX2_writeByte 22 = .ok (.dup, 1) := by decide +kernel
theorem dX2_writeByte_23 : decode cX2_writeByte 23 = .ok (.getfield 15, 3) := by decide +kernel
theorem dX2_writeByte_26 : decode cX2_writeByte 26 = .ok (.iconst 1, 1) := by decide +kernel
theorem dX2_writeByte_27 : decode cX2_writeByte 27 = .ok (.iadd, 1) := by decide +kernel
theorem dX2_writeByte_28 : decode cX2_writeByte 28 = .ok (.putfield 15, 3) := by decide +kernel
theorem dX2_writeByte_31 : decode cX2_writeByte 31 = .ok (.return_, 1) := by decide +kernel
theorem dX3_init_0 : decode cX3_init 0 = .ok (.aload_n 0, 1) := by decide +kernel
theorem dX3_init_1 : decode cX3_init 1 = .ok (.invokespecial 3, 3) := by decide +kernel
theorem dX3_init_4 : decode cX3_init 4 = .ok (.aload_n 0, 1) := by decide +kernel
theorem dX3_init_5 : decode cX3_init 5 = .ok (.iconst 4, 1) := by decide +kernel
theorem dX3_init_6 : decode cX3_init 6 = .ok (.bipush 70, 2) := by decide +kernel
theorem dX3_init_8 : decode cX3_init 8 = .ok (.multianewarray 9 2, 4) := by decide +kernel
theorem dX3_init_12 : decode cX3_init 12 = .ok (.putfield 11, 3) := by decide +kernel
theorem dX3_init_15 : decode cX3_init 15 = .ok (.aload_n 0, 1) := by decide +kernel
theorem dX3_init_16 : decode cX3_init 16 = .ok (.iconst 4, 1) := by decide +kernel
theorem dX3_init_17 : decode cX3_init 17 = .ok (.newarray .int, 2) := by decide +kernel
theorem dX3_init_19 : decode cX3_init 19 = .ok (.dup, 1) := by decide +kernel
theorem dX3_init_20 : decode cX3_init 20 = .ok (.iconst 0, 1) := by decide +kernel
theorem dX3_init_21 : decode cX3_init 21 = .ok (.iconst (-1), 1) := by decide +kernel
theorem dX3_init_22 : decode cX3_init 22 = .ok (.iastore, 1) := by decide +kernel
theorem dX3_init_23 : decode cX3_init 23 = .ok (.dup, 1) := by decide +kernel
theorem dX3_init_24 : decode cX3_init 24 = .ok (.iconst 1, 1) := by decide +kernel
theorem dX3_init_25 : decode cX3_init 25 = .ok (.iconst (-1), 1) := by decide +kernel
theorem dX3_init_26 : decode cX3_init 26 = .ok (.iastore, 1) := by decide +kernel
theorem dX3_init_27 : decode cX3_init 27 = .ok (.dup, 1) := by decide +kernel
theorem dX3_init_28 : decode cX3_init 28 = .ok (.iconst 2, 1) := by decide +kernel
theorem dX3_init_29 : decode cX3_init 29 = .ok (.iconst (-1), 1) := by decide +kernel
theorem dX3_init_30 : decode cX3_init 30 = .ok (.iastore, 1) := by decide +kernel
theorem dX3_init_31 : decode cX3_init 31 = .ok (.dup, 1) := by decide +kernel
theorem dX3_init_32 : decode cX3_init 32 = .ok (.iconst 3, 1) := by decide +kernel
theorem dX3_init_33 : decode cX3_init 33 = .ok (.iconst (-1), 1) := by decide +kernel
theorem dX3_init_34 : decode cX3_init 34 = .ok (.iastore, 1) := by decide +kernel
theorem dX3_init_35 : decode cX3_init 35 = .ok (.putfield 16, 3) := by decide +kernel
theorem dX3_init_38 : decode cX3_init 38 = .ok (.return_, 1) := by decide +kernel
theorem dX3_has_0 : decode cX3_has 0 = .ok (.iload_n 1, 1) := by decide +kernel
theorem dX3_has_1 : decode cX3_has 1 = .ok (.ifCond .lt 12, 3) := by decide +kernel
theorem dX3_has_4 : decode cX3_has 4 = .ok (.iload_n 1, 1) := by decide +kernel
theorem dX3_has_5 : decode cX3_has 5 = .ok (.iconst 4, 1) := by decide +kernel
theorem dX3_has_6 : decode cX3_has 6 = .ok (.if_icmp .ge 7, 3) := by decide +kernel
theorem dX3_has_9 : decode cX3_has 9 = .ok (.iconst 1, 1) := by decide +kernel
theorem dX3_has_10 : decode cX3_has 10 = .ok (.goto 4, 3) := by decide +kernel
theorem dX3_has_13 : decode cX3_has 13 = .ok (.iconst 0, 1) := by decide +kernel
theorem dX3_has_14 : decode cX3_has 14 = .ok (.ireturn, 1) := by decide +kernel
theorem dX3_holds_0 : decode cX3_holds 0 = .ok (.aload_n 0, 1) := by decide +kernel
theorem dX3_holds_1 : decode cX3_holds 1 = .ok (.iload_n 1, 1) := by decide +kernel
theorem dX3_holds_2 : decode cX3_holds 2 = .ok (.invokevirtual 20, 3) := by decide +kernel
theorem dX3_holds_5 : decode cX3_holds 5 = .ok (.ifCond .eq 17, 3) := by decide +kernel
theorem dX3_holds_8 : decode cX3_holds 8 = .ok (.aload_n 0, 1) := by decide +kernel
theorem dX3_holds_9 : decode cX3_holds 9 = .ok (.getfield 16, 3) := by decide +kernel
theorem dX3_holds_12 : decode cX3_holds 12 = .ok (.iload_n 1, 1) := by decide +kernel
theorem dX3_holds_13 : decode cX3_holds 13 = .ok (.iaload, 1) := by decide +kernel
theorem dX3_holds_14 : decode cX3_holds 14 = .ok (.iconst (-1), 1) := by decide +kernel
theorem dX3_holds_15 : decode cX3_holds 15 = .ok (.if_icmp .eq 7, 3) := by decide +kernel
theorem dX3_holds_18 : decode cX3_holds 18 = .ok (.iconst 1, 1) := by decide +kernel
theorem dX3_holds_19 : decode cX3_holds 19 = .ok (.goto 4, 3) := by decide +kernel
theorem dX3_holds_22 : decode cX3_holds 22 = .ok (.iconst 0, 1) := by decide +kernel
theorem dX3_holds_23 : decode cX3_holds 23 = .ok (.ireturn, 1) := by decide +kernel
theorem dX3_hasPlace_0 : decode cX3_hasPlace 0 = .ok (.aload_n 0, 1) := by decide +kernel
theorem dX3_hasPlace_1 : decode cX3_hasPlace 1 = .ok (.iload_n 1, 1) := by decide +kernel
theorem dX3_hasPlace_2 : decode cX3_hasPlace 2 = .ok (.invokevirtual 20, 3) := by decide +kernel
theorem dX3_hasPlace_5 : decode cX3_hasPlace 5 = .ok (.ifCond .eq 21, 3) := by decide +kernel
theorem dX3_hasPlace_8 : decode cX3_hasPlace 8 = .ok (.iload_n 2, 1) := by decide +kernel
theorem dX3_hasPlace_9 : decode cX3_hasPlace 9 = .ok (.ifCond .lt 17, 3) := by decide +kernel
theorem dX3_hasPlace_12 : decode cX3_hasPlace 12 = .ok (.iload_n 2, 1) := by decide +kernel
theorem dX3_hasPlace_13 : decode cX3_hasPlace 13 = .ok (.aload_n 0, 1) := by decide +kernel
theorem dX3_hasPlace_14 : decode cX3_hasPlace 14 = .ok (.getfield 16, 3) := by decide +kernel
theorem dX3_hasPlace_17 : decode cX3_hasPlace 17 = .ok (.iload_n 1, 1) := by decide +kernel
theorem dX3_hasPlace_18 : decode cX3_hasPlace 18 = .ok (.iaload, 1) := by decide +kernel
theorem dX3_hasPlace_19 : decode cX3_hasPlace 19 = .ok (.if_icmp .ge 7, 3) := by decide +kernel
theorem dX3_hasPlace_22 : decode cX3_hasPlace 22 = .ok (.iconst 1, 1) := by decide +kernel
theorem dX3_hasPlace_23 : decode cX3_hasPlace 23 = .ok (.goto 4, 3) := by decide +kernel
theorem dX3_hasPlace_26 : decode cX3_hasPlace 26 = .ok (.iconst 0, 1) := by decide +kernel
theorem dX3_hasPlace_27 : decode cX3_hasPlace 27 = .ok (.ireturn, 1) := by decide +kernel
theorem dX3_renew_0 : decode cX3_renew 0 = .ok (.aload_n 0, 1) := by decide +kernel
theorem dX3_renew_1 : decode cX3_renew 1 = .ok (.iload_n 1, 1) := by decide +kernel
theorem dX3_renew_2 : decode cX3_renew 2 = .ok (.invokevirtual 20, 3) := by decide +kernel
theorem dX3_renew_5 : decode cX3_renew 5 = .ok (.ifCond .eq 13, 3) := by decide +kernel
theorem dX3_renew_8 : decode cX3_renew 8 = .ok (.iload_n 2, 1) := by decide +kernel
theorem dX3_renew_9 : decode cX3_renew 9 = .ok (.ifCond .lt 9, 3) := by decide +kernel
theorem dX3_renew_12 : decode cX3_renew 12 = .ok (.iload_n 2, 1) := by decide +kernel
theorem dX3_renew_13 : decode cX3_renew 13 = .ok (.bipush 70, 2) := by decide +kernel
theorem dX3_renew_15 : decode cX3_renew 15 = .ok (.if_icmp .le 4, 3) := by decide +kernel
theorem dX3_renew_18 : decode cX3_renew 18 = .ok (.return_, 1) := by decide +kernel
theorem dX3_renew_19 : decode cX3_renew 19 = .ok (.aload_n 0, 1) := by decide +kernel
theorem dX3_renew_20 : decode cX3_renew 20 = .ok (.getfield 16, 3) := by decide +kernel
theorem dX3_renew_23 : decode cX3_renew 23 = .ok (.iload_n 1, 1) := by decide +kernel
theorem dX3_renew_24 : decode cX3_renew 24 = .ok (.iload_n 2, 1) := by decide +kernel
theorem dX3_renew_25 : decode cX3_renew 25 = .ok (.iastore, 1) := by decide +kernel
theorem dX3_renew_26 : decode cX3_renew 26 = .ok (.iconst 0, 1) := by decide +kernel
theorem dX3_renew_27 : decode cX3_renew 27 = .ok (.istore_n 3, 1) := by decide +kernel
theorem dX3_renew_28 : decode cX3_renew 28 = .ok (.iload_n 3, 1) := by decide +kernel
theorem dX3_renew_29 : decode cX3_renew 29 = .ok (.iload_n 2, 1) := by decide +kernel
theorem dX3_renew_30 : decode cX3_renew 30 = .ok (.if_icmp .ge 18, 3) := by decide +kernel
theorem dX3_renew_33 : decode cX3_renew 33 = .ok (.aload_n 0, 1) := by decide +kernel
theorem dX3_renew_34 : decode cX3_renew 34 = .ok (.getfield 11, 3) := by decide +kernel
theorem dX3_renew_37 : decode cX3_renew 37 = .ok (.iload_n 1, 1) := by decide +kernel
theorem dX3_renew_38 : decode cX3_renew 38 = .ok (.aaload, 1) := by decide +kernel
theorem dX3_renew_39 : decode cX3_renew 39 = .ok (.iload_n 3, 1) := by decide +kernel
theorem dX3_renew_40 : decode cX3_renew 40 = .ok (.iconst 0, 1) := by decide +kernel
theorem dX3_renew_41 : decode cX3_renew 41 = .ok (.iastore, 1) := by decide +kernel
theorem dX3_renew_42 : decode cX3_renew 42 = .ok (.iinc 3 1, 3) := by decide +kernel
theorem dX3_renew_45 : decode cX3_renew 45 = .ok (.goto (-17), 3) := by decide +kernel
theorem dX3_renew_48 : decode cX3_renew 48 = .ok (.return_, 1) := by decide +kernel
theorem dX3_store_0 : decode cX3_store 0 = .ok (.aload_n 0, 1) := by decide +kernel
theorem dX3_store_1 : decode cX3_store 1 = .ok (.iload_n 1, 1) := by decide +kernel
theorem dX3_store_2 : decode cX3_store 2 = .ok (.iload_n 2, 1) := by decide +kernel
theorem dX3_store_3 : decode cX3_store 3 = .ok (.invokevirtual 24, 3) := by decide +kernel
theorem dX3_store_6 : decode cX3_store 6 = .ok (.ifCond .eq 12, 3) := by decide +kernel
theorem dX3_store_9 : decode cX3_store 9 = .ok (.aload_n 0, 1) := by decide +kernel
theorem dX3_store_10 : decode cX3_store 10 = .ok (.getfield 11, 3) := by decide +kernel
theorem dX3_store_13 : decode cX3_store 13 = .ok (.iload_n 1, 1) := by decide +kernel
theorem dX3_store_14 : decode cX3_store 14 = .ok (.aaload, 1) := by decide +kernel
theorem dX3_store_15 : decode cX3_store 15 = .ok (.iload_n 2, 1) := by decide +kernel
theorem dX3_store_16 : decode cX3_store 16 = .ok (.iload_n 3, 1) := by decide +kernel
theorem dX3_store_17 : decode cX3_store 17 = .ok (.iastore, 1) := by decide +kernel
theorem dX3_store_18 : decode cX3_store 18 = .ok (.return_, 1) := by decide +kernel
theorem dX3_at_0 : decode cX3_at 0 = .ok (.aload_n 0, 1) := by decide +kernel
theorem dX3_at_1 : decode cX3_at 1 = .ok (.iload_n 1, 1) := by decide +kernel
theorem dX3_at_2 : decode cX3_at 2 = .ok (.iload_n 2, 1) := by decide +kernel
theorem dX3_at_3 : decode cX3_at 3 = .ok (.invokevirtual 24, 3) := by decide +kernel
theorem dX3_at_6 : decode cX3_at 6 = .ok (.ifCond .eq 14, 3) := by decide +kernel
theorem dX3_at_9 : decode cX3_at 9 = .ok (.aload_n 0, 1) := by decide +kernel
theorem dX3_at_10 : decode cX3_at 10 = .ok (.getfield 11, 3) := by decide +kernel
theorem dX3_at_13 : decode cX3_at 13 = .ok (.iload_n 1, 1) := by decide +kernel
theorem dX3_at_14 : decode cX3_at 14 = .ok (.aaload, 1) := by decide +kernel
theorem dX3_at_15 : decode cX3_at 15 = .ok (.iload_n 2, 1) := by decide +kernel
theorem dX3_at_16 : decode cX3_at 16 = .ok (.iaload, 1) := by decide +kernel
theorem dX3_at_17 : decode cX3_at 17 = .ok (.goto 4, 3) := by decide +kernel
theorem dX3_at_20 : decode cX3_at 20 = .ok (.iconst 0, 1) := by decide +kernel
theorem dX3_at_21 : decode cX3_at 21 = .ok (.ireturn, 1) := by decide +kernel
theorem dX3_partsOf_0 : decode cX3_partsOf 0 = .ok (.aload_n 0, 1) := by decide +kernel
theorem dX3_partsOf_1 : decode cX3_partsOf 1 = .ok (.iload_n 1, 1) := by decide +kernel
theorem dX3_partsOf_2 : decode cX3_partsOf 2 = .ok (.invokevirtual 20, 3) := by decide +kernel
theorem dX3_partsOf_5 : decode cX3_partsOf 5 = .ok (.ifCond .eq 20, 3) := by decide +kernel
theorem dX3_partsOf_8 : decode cX3_partsOf 8 = .ok (.aload_n 0, 1) := by decide +kernel
theorem dX3_partsOf_9 : decode cX3_partsOf 9 = .ok (.getfield 16, 3) := by decide +kernel
theorem dX3_partsOf_12 : decode cX3_partsOf 12 = .ok (.iload_n 1, 1) := by decide +kernel
theorem dX3_partsOf_13 : decode cX3_partsOf 13 = .ok (.iaload, 1) := by decide +kernel
theorem dX3_partsOf_14 : decode cX3_partsOf 14 = .ok (.bipush 7, 2) := by decide +kernel
theorem dX3_partsOf_16 : decode cX3_partsOf 16 = .ok (.iadd, 1) := by decide +kernel
theorem dX3_partsOf_17 : decode cX3_partsOf 17 = .ok (.iconst 1, 1) := by decide +kernel
theorem dX3_partsOf_18 : decode cX3_partsOf 18 = .ok (.isub, 1) := by decide +kernel
theorem dX3_partsOf_19 : decode cX3_partsOf 19 = .ok (.bipush 7, 2) := by decide +kernel
theorem dX3_partsOf_21 : decode cX3_partsOf 21 = .ok (.idiv, 1) := by decide +kernel
theorem dX3_partsOf_22 : decode cX3_partsOf 22 = .ok (.goto 4, 3) := by decide +kernel
theorem dX3_partsOf_25 : decode cX3_partsOf 25 = .ok (.iconst 0, 1) := by decide +kernel
theorem dX3_partsOf_26 : decode cX3_partsOf 26 = .ok (.ireturn, 1) := by decide +kernel
theorem dX3_flaw_0 : decode cX3_flaw 0 = .ok (.aload_n 0, 1) := by decide +kernel
theorem dX3_flaw_1 : decode cX3_flaw 1 = .ok (.iload_n 1, 1) := by decide +kernel
theorem dX3_flaw_2 : decode cX3_flaw 2 = .ok (.invokevirtual 28, 3) := by decide +kernel
theorem dX3_flaw_5 : decode cX3_flaw 5 = .ok (.istore_n 2, 1) := by decide +kernel
theorem dX3_flaw_6 : decode cX3_flaw 6 = .ok (.iconst 0, 1) := by decide +kernel
theorem dX3_flaw_7 : decode cX3_flaw 7 = .ok (.istore_n 3, 1) := by decide +kernel
theorem dX3_flaw_8 : decode cX3_flaw 8 = .ok (.iload_n 3, 1) := by decide +kernel
theorem dX3_flaw_9 : decode cX3_flaw 9 = .ok (.iload_n 2, 1) := by decide +kernel
theorem dX3_flaw_10 : decode cX3_flaw 10 = .ok (.bipush 7, 2) := by decide +kernel
theorem dX3_flaw_12 : decode cX3_flaw 12 = .ok (.imul, 1) := by decide +kernel
theorem dX3_flaw_13 : decode cX3_flaw 13 = .ok (.if_icmp .ge 40, 3) := by decide +kernel
theorem dX3_flaw_16 : decode cX3_flaw 16 = .ok (.aload_n 0, 1) := by decide +kernel
theorem dX3_flaw_17 : decode cX3_flaw 17 = .ok (.iload_n 1, 1) := by decide +kernel
theorem dX3_flaw_18 : decode cX3_flaw 18 = .ok (.iload_n 3, 1) := by decide +kernel
theorem dX3_flaw_19 : decode cX3_flaw 19 = .ok (.invokevirtual 24, 3) := by decide +kernel
theorem dX3_flaw_22 : decode cX3_flaw 22 = .ok (.ifCond .eq 12, 3) := by decide +kernel
theorem dX3_flaw_25 : decode cX3_flaw 25 = .ok (.aload_n 0, 1) := by decide +kernel
theorem dX3_flaw_26 : decode cX3_flaw 26 = .ok (.iload_n 1, 1) := by decide +kernel
theorem dX3_flaw_27 : decode cX3_flaw 27 = .ok (.iload_n 3, 1) := by decide +kernel
theorem dX3_flaw_28 : decode cX3_flaw 28 = .ok (.invokevirtual 32, 3) := by decide +kernel
theorem dX3_flaw_31 : decode cX3_flaw 31 = .ok (.ifCond .ne 16, 3) := by decide +kernel
theorem dX3_flaw_34 : decode cX3_flaw 34 = .ok (.iload_n 3, 1) := by decide +kernel
theorem dX3_flaw_35 : decode cX3_flaw 35 = .ok (.bipush 7, 2) := by decide +kernel
theorem dX3_flaw_37 : decode cX3_flaw 37 = .ok (.idiv, 1) := by decide +kernel
theorem dX3_flaw_38 : decode cX3_flaw 38 = .ok (.bipush 10, 2) := by decide +kernel
theorem dX3_flaw_40 : decode cX3_flaw 40 = .ok (.imul, 1) := by decide +kernel
theorem dX3_flaw_41 : decode cX3_flaw 41 = .ok (.iload_n 3, 1) := by decide +kernel
theorem dX3_flaw_42 : decode cX3_flaw 42 = .ok (.bipush 7, 2) := by decide +kernel
theorem dX3_flaw_44 : decode cX3_flaw 44 = .ok (.irem, 1) := by decide +kernel
theorem dX3_flaw_45 : decode cX3_flaw 45 = .ok (.iadd, 1) := by decide +kernel
theorem dX3_flaw_46 : decode cX3_flaw 46 = .ok (.ireturn, 1) := by decide +kernel
theorem dX3_flaw_47 : decode cX3_flaw 47 = .ok (.iinc 3 1, 3) := by decide +kernel
theorem dX3_flaw_50 : decode cX3_flaw 50 = .ok (.goto (-42), 3) := by decide +kernel
theorem dX3_flaw_53 : decode cX3_flaw 53 = .ok (.iconst (-1), 1) := by decide +kernel
theorem dX3_flaw_54 : decode cX3_flaw 54 = .ok (.ireturn, 1) := by decide +kernel
theorem dX3_numberCanBe_0 : decode cX3_numberCanBe 0 = .ok (.iload_n 2, 1) := by decide +kernel
theorem dX3_numberCanBe_1 : decode cX3_numberCanBe 1 = .ok (.bipush 7, 2) := by decide +kernel
theorem dX3_numberCanBe_3 : decode cX3_numberCanBe 3 = .ok (.irem, 1) := by decide +kernel
theorem dX3_numberCanBe_4 : decode cX3_numberCanBe 4 = .ok (.istore_n 3, 1) := by decide +kernel
theorem dX3_numberCanBe_5 : decode cX3_numberCanBe 5 = .ok (.aload_n 0, 1) := by decide +kernel
theorem dX3_numberCanBe_6 : decode cX3_numberCanBe 6 = .ok (.iload_n 1, 1) := by decide +kernel
theorem dX3_numberCanBe_7 : decode cX3_numberCanBe 7 = .ok (.iload_n 2, 1) := by decide +kernel
theorem dX3_numberCanBe_8 : decode cX3_numberCanBe 8 = .ok (.invokevirtual 35, 3) := by decide +kernel
theorem dX3_numberCanBe_11 : decode cX3_numberCanBe 11 = .ok (.istore 4, 2) := by decide +kernel
theorem dX3_numberCanBe_13 : decode cX3_numberCanBe 13 = .ok (.iload_n 3, 1) := by decide +kernel
theorem dX3_numberCanBe_14 : decode cX3_numberCanBe 14 = .ok (.bipush 6, 2) := by decide +kernel
theorem dX3_numberCanBe_16 : decode cX3_numberCanBe 16 = .ok (.if_icmp .ne 11, 3) := by decide +kernel
theorem dX3_numberCanBe_19 : decode cX3_numberCanBe 19 = .ok (.iload 4, 2) := by decide +kernel
theorem dX3_numberCanBe_21 : decode cX3_numberCanBe 21 = .ok (.invokestatic 39, 3) := by decide +kernel
theorem dX3_numberCanBe_24 : decode cX3_numberCanBe 24 = .ok (.goto 17, 3) := by decide +kernel
theorem dX3_numberCanBe_27 : decode cX3_numberCanBe 27 = .ok (.iload 4, 2) := by decide +kernel
theorem dX3_numberCanBe_29 : decode cX3_numberCanBe 29 = .ok (.iload_n 3, 1) := by decide +kernel
theorem dX3_numberCanBe_30 : decode cX3_numberCanBe 30 = .ok (.aload_n 0, 1) := by decide +kernel
theorem dX3_numberCanBe_31 : decode cX3_numberCanBe 31 = .ok (.iload_n 1, 1) := by decide +kernel
theorem dX3_numberCanBe_32 : decode cX3_numberCanBe 32 = .ok (.iload_n 2, 1) := by decide +kernel
theorem dX3_numberCanBe_33 : decode cX3_numberCanBe 33 = .ok (.iconst 1, 1) := by decide +kernel
theorem dX3_numberCanBe_34 : decode cX3_numberCanBe 34 = .ok (.isub, 1) := by decide +kernel
theorem dX3_numberCanBe_35 : decode cX3_numberCanBe 35 = .ok (.invokevirtual 35, 3) := by decide +kernel
theorem dX3_numberCanBe_38 : decode cX3_numberCanBe 38 = .ok (.invokestatic 42, 3) := by decide +kernel
theorem dX3_numberCanBe_41 : decode cX3_numberCanBe 41 = .ok (.ireturn, 1) := by decide +kernel
theorem dX3_answer_0 : decode cX3_answer 0 = .ok (.aload_n 0, 1) := by decide +kernel
theorem dX3_answer_1 : decode cX3_answer 1 = .ok (.iload_n 1, 1) := by decide +kernel
theorem dX3_answer_2 : decode cX3_answer 2 = .ok (.invokevirtual 28, 3) := by decide +kernel
theorem dX3_answer_5 : decode cX3_answer 5 = .ok (.istore_n 3, 1) := by decide +kernel
theorem dX3_answer_6 : decode cX3_answer 6 = .ok (.iconst 0, 1) := by decide +kernel
theorem dX3_answer_7 : decode cX3_answer 7 = .ok (.istore 4, 2) := by decide +kernel
theorem dX3_answer_9 : decode cX3_answer 9 = .ok (.iload 4, 2) := by decide +kernel
theorem dX3_answer_11 : decode cX3_answer 11 = .ok (.iload_n 3, 1) := by decide +kernel
theorem dX3_answer_12 : decode cX3_answer 12 = .ok (.if_icmp .ge 37, 3) := by decide +kernel
theorem dX3_answer_15 : decode cX3_answer 15 = .ok (.aload_n 0, 1) := by decide +kernel
theorem dX3_answer_16 : decode cX3_answer 16 = .ok (.iload_n 1, 1) := by decide +kernel
theorem dX3_answer_17 : decode cX3_answer 17 = .ok (.bipush 7, 2) := by decide +kernel
theorem dX3_answer_19 : decode cX3_answer 19 = .ok (.iload 4, 2) := by decide +kernel
theorem dX3_answer_21 : decode cX3_answer 21 = .ok (.imul, 1) := by decide +kernel
theorem dX3_answer_22 : decode cX3_answer 22 = .ok (.iload_n 2, 1) := by decide +kernel
theorem dX3_answer_23 : decode cX3_answer 23 = .ok (.invokevirtual 46, 3) := by decide +kernel
theorem dX3_answer_26 : decode cX3_answer 26 = .ok (.ifCond .eq 17, 3) := by decide +kernel
theorem dX3_answer_29 : decode cX3_answer 29 = .ok (.aload_n 0, 1) := by decide +kernel
theorem dX3_answer_30 : decode cX3_answer 30 = .ok (.iload_n 1, 1) := by decide +kernel
theorem dX3_answer_31 : decode cX3_answer 31 = .ok (.bipush 7, 2) := by decide +kernel
theorem dX3_answer_33 : decode cX3_answer 33 = .ok (.iload 4, 2) := by decide +kernel
theorem dX3_answer_35 : decode cX3_answer 35 = .ok (.imul, 1) := by decide +kernel
theorem dX3_answer_36 : decode cX3_answer 36 = .ok (.bipush 6, 2) := by decide +kernel
theorem dX3_answer_38 : decode cX3_answer 38 = .ok (.iadd, 1) := by decide +kernel
theorem dX3_answer_39 : decode cX3_answer 39 = .ok (.invokevirtual 35, 3) := by decide +kernel
theorem dX3_answer_42 : decode cX3_answer 42 = .ok (.ireturn, 1) := by decide +kernel
theorem dX3_answer_43 : decode cX3_answer 43 = .ok (.iinc 4 1, 3) := by decide +kernel
theorem dX3_answer_46 : decode cX3_answer 46 = .ok (.goto (-37), 3) := by decide +kernel
theorem dX3_answer_49 : decode cX3_answer 49 = .ok (.bipush (-5), 2) := by decide +kernel
theorem dX3_answer_51 : decode cX3_answer 51 = .ok (.ireturn, 1) := by decide +kernel
theorem dX3_isInPart_0 : decode cX3_isInPart 0 = .ok (.aload_n 0, 1) := by decide +kernel
theorem dX3_isInPart_1 : decode cX3_isInPart 1 = .ok (.iload_n 3, 1) := by decide +kernel
theorem dX3_isInPart_2 : decode cX3_isInPart 2 = .ok (.invokestatic 49, 3) := by decide +kernel
theorem dX3_isInPart_5 : decode cX3_isInPart 5 = .ok (.iload_n 1, 1) := by decide +kernel
theorem dX3_isInPart_6 : decode cX3_isInPart 6 = .ok (.iload_n 2, 1) := by decide +kernel
theorem dX3_isInPart_7 : decode cX3_isInPart 7 = .ok (.invokevirtual 52, 3) := by decide +kernel
theorem dX3_isInPart_10 : decode cX3_isInPart 10 = .ok (.ifCond .eq 37, 3) := by decide +kernel
theorem dX3_isInPart_13 : decode cX3_isInPart 13 = .ok (.aload_n 0, 1) := by decide +kernel
theorem dX3_isInPart_14 : decode cX3_isInPart 14 = .ok (.iload_n 3, 1) := by decide +kernel
theorem dX3_isInPart_15 : decode cX3_isInPart 15 = .ok (.invokestatic 55, 3) := by decide +kernel
theorem dX3_isInPart_18 : decode cX3_isInPart 18 = .ok (.iload_n 1, 1) := by decide +kernel
theorem dX3_isInPart_19 : decode cX3_isInPart 19 = .ok (.iload_n 2, 1) := by decide +kernel
theorem dX3_isInPart_20 : decode cX3_isInPart 20 = .ok (.iconst 2, 1) := by decide +kernel
theorem dX3_isInPart_21 : decode cX3_isInPart 21 = .ok (.iadd, 1) := by decide +kernel
theorem dX3_isInPart_22 : decode cX3_isInPart 22 = .ok (.invokevirtual 52, 3) := by decide +kernel
theorem dX3_isInPart_25 : decode cX3_isInPart 25 = .ok (.ifCond .eq 22, 3) := by decide +kernel
theorem dX3_isInPart_28 : decode cX3_isInPart 28 = .ok (.aload_n 0, 1) := by decide +kernel
theorem dX3_isInPart_29 : decode cX3_isInPart 29 = .ok (.iload_n 3, 1) := by decide +kernel
theorem dX3_isInPart_30 : decode cX3_isInPart 30 = .ok (.invokestatic 58, 3) := by decide +kernel
theorem dX3_isInPart_33 : decode cX3_isInPart 33 = .ok (.iload_n 1, 1) := by decide +kernel
theorem dX3_isInPart_34 : decode cX3_isInPart 34 = .ok (.iload_n 2, 1) := by decide +kernel
theorem dX3_isInPart_35 : decode cX3_isInPart 35 = .ok (.iconst 4, 1) := by decide +kernel
theorem dX3_isInPart_36 : decode cX3_isInPart 36 = .ok (.iadd, 1) := by decide +kernel
theorem dX3_isInPart_37 : decode cX3_isInPart 37 = .ok (.invokevirtual 52, 3) := by decide +kernel
theorem dX3_isInPart_40 : decode cX3_isInPart 40 = .ok (.ifCond .eq 7, 3) := by decide +kernel
theorem dX3_isInPart_43 : decode cX3_isInPart 43 = .ok (.iconst 1, 1) := by decide +kernel
theorem dX3_isInPart_44 : decode cX3_isInPart 44 = .ok (.goto 4, 3) := by decide +kernel
theorem dX3_isInPart_47 : decode cX3_isInPart 47 = .ok (.iconst 0, 1) := by decide +kernel
theorem dX3_isInPart_48 : decode cX3_isInPart 48 = .ok (.ireturn, 1) := by decide +kernel
theorem dX3_isWithin_0 : decode cX3_isWithin 0 = .ok (.iload_n 1, 1) := by decide +kernel
theorem dX3_isWithin_1 : decode cX3_isWithin 1 = .ok (.aload_n 0, 1) := by decide +kernel
theorem dX3_isWithin_2 : decode cX3_isWithin 2 = .ok (.iload_n 2, 1) := by decide +kernel
theorem dX3_isWithin_3 : decode cX3_isWithin 3 = .ok (.iload_n 3, 1) := by decide +kernel
theorem dX3_isWithin_4 : decode cX3_isWithin 4 = .ok (.invokevirtual 35, 3) := by decide +kernel
theorem dX3_isWithin_7 : decode cX3_isWithin 7 = .ok (.if_icmp .lt 19, 3) := by decide +kernel
theorem dX3_isWithin_10 : decode cX3_isWithin 10 = .ok (.iload_n 1, 1) := by decide +kernel
theorem dX3_isWithin_11 : decode cX3_isWithin 11 = .ok (.aload_n 0, 1) := by decide +kernel
theorem dX3_isWithin_12 : decode cX3_isWithin 12 = .ok (.iload_n 2, 1) := by decide +kernel
theorem dX3_isWithin_13 : decode cX3_isWithin 13 = .ok (.iload_n 3, 1) := by decide +kernel
theorem dX3_isWithin_14 : decode cX3_isWithin 14 = .ok (.iconst 1, 1) := by decide +kernel
theorem dX3_isWithin_15 : decode cX3_isWithin 15 = .ok (.iadd, 1) := by decide +kernel
theorem dX3_isWithin_16 : decode cX3_isWithin 16 = .ok (.invokevirtual 35, 3) := by decide +kernel
theorem dX3_isWithin_19 : decode cX3_isWithin 19 = .ok (.if_icmp .gt 7, 3) := by decide +kernel
theorem dX3_isWithin_22 : decode cX3_isWithin 22 = .ok (.iconst 1, 1) := by decide +kernel
theorem dX3_isWithin_23 : decode cX3_isWithin 23 = .ok (.goto 4, 3) := by decide +kernel
theorem dX3_isWithin_26 : decode cX3_isWithin 26 = .ok (.iconst 0, 1) := by decide +kernel
theorem dX3_isWithin_27 : decode cX3_isWithin 27 = .ok (.ireturn, 1) := by decide +kernel
theorem dX4_init_0 : decode cX4_init 0 = .ok (.aload_n 0, 1) := by decide +kernel
theorem dX4_init_1 : decode cX4_init 1 = .ok (.invokespecial 3, 3) := by decide +kernel
theorem dX4_init_4 : decode cX4_init 4 = .ok (.aload_n 0, 1) := by decide +kernel
theorem dX4_init_5 : decode cX4_init 5 = .ok (.bipush 60, 2) := by decide +kernel
theorem dX4_init_7 : decode cX4_init 7 = .ok (.newarray .int, 2) := by decide +kernel
theorem dX4_init_9 : decode cX4_init 9 = .ok (.putfield 9, 3) := by decide +kernel
theorem dX4_init_12 : decode cX4_init 12 = .ok (.aload_n 0, 1) := by decide +kernel
theorem dX4_init_13 : decode cX4_init 13 = .ok (.iconst 0, 1) := by decide +kernel
theorem dX4_init_14 : decode cX4_init 14 = .ok (.putfield 15, 3) := by decide +kernel
theorem dX4_init_17 : decode cX4_init 17 = .ok (.aload_n 0, 1) := by decide +kernel
theorem dX4_init_18 : decode cX4_init 18 = .ok (.bipush 7, 2) := by decide +kernel
theorem dX4_init_20 : decode cX4_init 20 = .ok (.newarray .int, 2) := by decide +kernel
theorem dX4_init_22 : decode cX4_init 22 = .ok (.putfield 19, 3) := by decide +kernel
theorem dX4_init_25 : decode cX4_init 25 = .ok (.aload_n 0, 1) := by decide +kernel
theorem dX4_init_26 : decode cX4_init 26 = .ok (.iconst 0, 1) := by decide +kernel
theorem dX4_init_27 : decode cX4_init 27 = .ok (.putfield 22, 3) := by decide +kernel
theorem dX4_init_30 : decode cX4_init 30 = .ok (.aload_n 0, 1) := by decide +kernel
theorem dX4_init_31 : decode cX4_init 31 = .ok (.iconst 0, 1) := by decide +kernel
theorem dX4_init_32 : decode cX4_init 32 = .ok (.putfield 25, 3) := by decide +kernel
theorem dX4_init_35 : decode cX4_init 35 = .ok (.aload_n 0, 1) := by decide +kernel
theorem dX4_init_36 : decode cX4_init 36 = .ok (.iconst 0, 1) := by decide +kernel
theorem dX4_init_37 : decode cX4_init 37 = .ok (.putfield 28, 3) := by decide +kernel
theorem dX4_init_40 : decode cX4_init 40 = .ok (.aload_n 0, 1) := by decide +kernel
theorem dX4_init_41 : decode cX4_init 41 = .ok (.iconst (-1), 1) := by decide +kernel
theorem dX4_init_42 : decode cX4_init 42 = .ok (.putfield 31, 3) := by decide +kernel
theorem dX4_init_45 : decode cX4_init 45 = .ok (.aload_n 0, 1) := by decide +kernel
theorem dX4_init_46 : decode cX4_init 46 = .ok (.iconst 0, 1) := by decide +kernel
theorem dX4_init_47 : decode cX4_init 47 = .ok (.putfield 34, 3) := by decide +kernel
theorem dX4_init_50 : decode cX4_init 50 = .ok (.aload_n 0, 1) := by decide +kernel
theorem dX4_init_51 : decode cX4_init 51 = .ok (.bipush 7, 2) := by decide +kernel
theorem dX4_init_53 : decode cX4_init 53 = .ok (.newarray .int, 2) := by decide +kernel
theorem dX4_init_55 : decode cX4_init 55 = .ok (.putfield 38, 3) := by decide +kernel
theorem dX4_init_58 : decode cX4_init 58 = .ok (.aload_n 0, 1) := by decide +kernel
theorem dX4_init_59 : decode cX4_init 59 = .ok (.iconst 0, 1) := by decide +kernel
theorem dX4_init_60 : decode cX4_init 60 = .ok (.putfield 41, 3) := by decide +kernel
theorem dX4_init_63 : decode cX4_init 63 = .ok (.aload_n 0, 1) := by decide +kernel
theorem dX4_init_64 : decode cX4_init 64 = .ok (.aload_n 1, 1) := by decide +kernel
theorem dX4_init_65 : decode cX4_init 65 = .ok (.putfield 44, 3) := by decide +kernel
theorem dX4_init_68 : decode cX4_init 68 = .ok (.return_, 1) := by decide +kernel
theorem dX4_append_0 : decode cX4_append 0 = .ok (.aload_n 0, 1) := by decide +kernel
theorem dX4_append_1 : decode cX4_append 1 = .ok (.getfield 15, 3) := by decide +kernel
theorem dX4_append_4 : decode cX4_append 4 = .ok (.bipush 60, 2) := by decide +kernel
theorem dX4_append_6 : decode cX4_append 6 = .ok (.if_icmp .lt 6, 3) := by decide +kernel
theorem dX4_append_9 : decode cX4_append 9 = .ok (.bipush (-4), 2) := by decide +kernel
theorem dX4_append_11 : decode cX4_append 11 = .ok (.ireturn, 1) := by decide +kernel
theorem dX4_append_12 : decode cX4_append 12 = .ok (.aload_n 0, 1) := by decide +kernel
theorem dX4_append_13 : decode cX4_append 13 = .ok (.getfield 9, 3) := by decide +kernel
theorem dX4_append_16 : decode cX4_append 16 = .ok (.aload_n 0, 1) := by decide +kernel
theorem dX4_append_17 : decode cX4_append 17 = .ok (.getfield 15, 3) := by decide +kernel
theorem dX4_append_20 : decode cX4_append 20 = .ok (.iload_n 1, 1) := by decide +kernel
theorem dX4_append_21 : decode cX4_append 21 = .ok (.iastore, 1) := by decide +kernel
theorem dX4_append_22 : decode cX4_append 22 = .ok (.aload_n 0, 1) := by decide +kernel
theorem dX4_append_23 : decode cX4_append 23 = .ok (.dup, 1) := by decide +kernel
theorem dX4_append_24 : decode cX4_append 24 = .ok (.getfield 15, 3) := by decide +kernel
theorem dX4_append_27 : decode cX4_append 27 = .ok (.iconst 1, 1) := by decide +kernel
theorem dX4_append_28 : decode cX4_append 28 = .ok (.iadd, 1) := by decide +kernel
theorem dX4_append_29 : decode cX4_append 29 = .ok (.putfield 15, 3) := by decide +kernel
theorem dX4_append_32 : decode cX4_append 32 = .ok (.aload_n 0, 1) := by decide +kernel
theorem dX4_append_33 : decode cX4_append 33 = .ok (.getfield 15, 3) := by decide +kernel
theorem dX4_append_36 : decode cX4_append 36 = .ok (.ireturn, 1) := by decide +kernel
theorem dX4_wipe_0 : decode cX4_wipe 0 = .ok (.aload_n 0, 1) := by decide +kernel
theorem dX4_wipe_1 : decode cX4_wipe 1 = .ok (.getfield 15, 3) := by decide +kernel
theorem dX4_wipe_4 : decode cX4_wipe 4 = .ok (.istore_n 1, 1) := by decide +kernel
theorem dX4_wipe_5 : decode cX4_wipe 5 = .ok (.aload_n 0, 1) := by decide +kernel
theorem dX4_wipe_6 : decode cX4_wipe 6 = .ok (.iconst 0, 1) := by decide +kernel
theorem dX4_wipe_7 : decode cX4_wipe 7 = .ok (.putfield 15, 3) := by decide +kernel
theorem dX4_wipe_10 : decode cX4_wipe 10 = .ok (.iload_n 1, 1) := by decide +kernel
theorem dX4_wipe_11 : decode cX4_wipe 11 = .ok (.ireturn, 1) := by decide +kernel
theorem dX4_readAll_0 : decode cX4_readAll 0 = .ok (.aload_n 0, 1) := by decide +kernel
theorem dX4_readAll_1 : decode cX4_readAll 1 = .ok (.iconst 0, 1) := by decide +kernel
theorem dX4_readAll_2 : decode cX4_readAll 2 = .ok (.putfield 25, 3) := by decide +kernel
theorem dX4_readAll_5 : decode cX4_readAll 5 = .ok (.aload_n 0, 1) := by decide +kernel
theorem dX4_readAll_6 : decode cX4_readAll 6 = .ok (.aload_n 0, 1) := by decide +kernel
theorem dX4_readAll_7 : decode cX4_readAll 7 = .ok (.getfield 44, 3) := by decide +kernel
theorem dX4_readAll_10 : decode cX4_readAll 10 = .ok (.getfield 48, 3) := by decide +kernel
theorem dX4_readAll_13 : decode cX4_readAll 13 = .ok (.putfield 28, 3) := by decide +kernel
theorem dX4_readAll_16 : decode cX4_readAll 16 = .ok (.aload_n 0, 1) := by decide +kernel
theorem dX4_readAll_17 : decode cX4_readAll 17 = .ok (.iconst (-1), 1) := by decide +kernel
theorem dX4_readAll_18 : decode cX4_readAll 18 = .ok (.putfield 31, 3) := by decide +kernel
theorem dX4_readAll_21 : decode cX4_readAll 21 = .ok (.aload_n 0, 1) := by decide +kernel
theorem dX4_readAll_22 : decode cX4_readAll 22 = .ok (.iconst 0, 1) := by decide +kernel
theorem dX4_readAll_23 : decode cX4_readAll 23 = .ok (.putfield 34, 3) := by decide +kernel
theorem dX4_readAll_26 : decode cX4_readAll 26 = .ok (.aload_n 0, 1) := by decide +kernel
theorem dX4_readAll_27 : decode cX4_readAll 27 = .ok (.iconst 0, 1) := by decide +kernel
theorem dX4_readAll_28 : decode cX4_readAll 28 = .ok (.putfield 41, 3) := by decide +kernel
theorem dX4_readAll_31 : decode cX4_readAll 31 = .ok (.aload_n 0, 1) := by decide +kernel
theorem dX4_readAll_32 : decode cX4_readAll 32 = .ok (.iconst 0, 1) := by decide +kernel
theorem dX4_readAll_33 : decode cX4_readAll 33 = .ok (.invokevirtual 53, 3) := by decide +kernel
theorem dX4_readAll_36 : decode cX4_readAll 36 = .ok (.istore_n 1, 1) := by decide +kernel
theorem dX4_readAll_37 : decode cX4_readAll 37 = .ok (.aload_n 0, 1) := by decide +kernel
theorem dX4_readAll_38 : decode cX4_readAll 38 = .ok (.getfield 31, 3) := by decide +kernel
theorem dX4_readAll_41 : decode cX4_readAll 41 = .ok (.iconst (-1), 1) := by decide +kernel
theorem dX4_readAll_42 : decode cX4_readAll 42 = .ok (.if_icmp .ne 22, 3) := by decide +kernel
theorem dX4_readAll_45 : decode cX4_readAll 45 = .ok (.aload_n 0, 1) := by decide +kernel
theorem dX4_readAll_46 : decode cX4_readAll 46 = .ok (.getfield 25, 3) := by decide +kernel
theorem dX4_readAll_49 : decode cX4_readAll 49 = .ok (.aload_n 0, 1) := by decide +kernel
theorem dX4_readAll_50 : decode cX4_readAll 50 = .ok (.getfield 15, 3) := by decide +kernel
theorem dX4_readAll_53 : decode cX4_readAll 53 = .ok (.if_icmp .ge 11, 3) := by decide +kernel
theorem dX4_readAll_56 : decode cX4_readAll 56 = .ok (.aload_n 0, 1) := by decide +kernel
theorem dX4_readAll_57 : decode cX4_readAll 57 = .ok (.aload_n 0, 1) := by decide +kernel
theorem dX4_readAll_58 : decode cX4_readAll 58 = .ok (.getfield 25, 3) := by decide +kernel
theorem dX4_readAll_61 : decode cX4_readAll 61 = .ok (.invokevirtual 57, 3) := by decide +kernel
theorem dX4_readAll_64 : decode cX4_readAll 64 = .ok (.aload_n 0, 1) := by decide +kernel
theorem dX4_readAll_65 : decode cX4_readAll 65 = .ok (.iconst 0, 1) := by decide +kernel
theorem dX4_readAll_66 : decode cX4_readAll 66 = .ok (.putfield 15, 3) := by decide +kernel
theorem dX4_readAll_69 : decode cX4_readAll 69 = .ok (.aload_n 0, 1) := by decide +kernel
theorem dX4_readAll_70 : decode cX4_readAll 70 = .ok (.getfield 31, 3) := by decide +kernel
theorem dX4_readAll_73 : decode cX4_readAll 73 = .ok (.iconst (-1), 1) := by decide +kernel
theorem dX4_readAll_74 : decode cX4_readAll 74 = .ok (.if_icmp .ne 12, 3) := by decide +kernel
theorem dX4_readAll_77 : decode cX4_readAll 77 = .ok (.aload_n 0, 1) := by decide +kernel
theorem dX4_readAll_78 : decode cX4_readAll 78 = .ok (.getfield 34, 3) := by decide +kernel
theorem dX4_readAll_81 : decode cX4_readAll 81 = .ok (.ifCond .ne 5, 3) := by decide +kernel
theorem dX4_readAll_84 : decode cX4_readAll 84 = .ok (.iload_n 1, 1) := by decide +kernel
theorem dX4_readAll_85 : decode cX4_readAll 85 = .ok (.ireturn, 1) := by decide +kernel
theorem dX4_readAll_86 : decode cX4_readAll 86 = .ok (.aload_n 0, 1) := by decide +kernel
theorem dX4_readAll_87 : decode cX4_readAll 87 = .ok (.getfield 44, 3) := by decide +kernel
theorem dX4_readAll_90 : decode cX4_readAll 90 = .ok (.aload_n 0, 1) := by decide +kernel
theorem dX4_readAll_91 : decode cX4_readAll 91 = .ok (.getfield 28, 3) := by decide +kernel
theorem dX4_readAll_94 : decode cX4_readAll 94 = .ok (.invokevirtual 61, 3) := by decide +kernel
theorem dX4_readAll_97 : decode cX4_readAll 97 = .ok (.aload_n 0, 1) := by decide +kernel
theorem dX4_readAll_98 : decode cX4_readAll 98 = .ok (.getfield 31, 3) := by decide +kernel
theorem dX4_readAll_101 : decode cX4_readAll 101 = .ok (.iconst (-1), 1) := by decide +kernel
theorem dX4_readAll_102 : decode cX4_readAll 102 = .ok (.if_icmp .ne 8, 3) := by decide +kernel
theorem dX4_readAll_105 : decode cX4_readAll 105 = .ok (.bipush (-4), 2) := by decide +kernel
theorem dX4_readAll_107 : decode cX4_readAll 107 = .ok (.goto 10, 3) := by decide +kernel
theorem dX4_readAll_110 : decode cX4_readAll 110 = .ok (.bipush (-100), 2) := by decide +kernel
theorem dX4_readAll_112 : decode cX4_readAll 112 = .ok (.aload_n 0, 1) := by decide +kernel
theorem dX4_readAll_113 : decode cX4_readAll 113 = .ok (.getfield 31, 3) := by decide +kernel
theorem dX4_readAll_116 : decode cX4_readAll 116 = .ok (.isub, 1) := by decide +kernel
theorem dX4_readAll_117 : decode cX4_readAll 117 = .ok (.ireturn, 1) := by decide +kernel
theorem dX4_here_0 : decode cX4_here 0 = .ok (.aload_n 0, 1) := by decide +kernel
theorem dX4_here_1 : decode cX4_here 1 = .ok (.getfield 25, 3) := by decide +kernel
theorem dX4_here_4 : decode cX4_here 4 = .ok (.ifCond .lt 26, 3) := by decide +kernel
theorem dX4_here_7 : decode cX4_here 7 = .ok (.aload_n 0, 1) := by decide +kernel
theorem dX4_here_8 : decode cX4_here 8 = .ok (.getfield 25, 3) := by decide +kernel
theorem dX4_here_11 : decode cX4_here 11 = .ok (.aload_n 0, 1) := by decide +kernel
theorem dX4_here_12 : decode cX4_here 12 = .ok (.getfield 15, 3) := by decide +kernel
theorem dX4_here_15 : decode cX4_here 15 = .ok (.if_icmp .ge 15, 3) := by decide +kernel
theorem dX4_here_18 : decode cX4_here 18 = .ok (.aload_n 0, 1) := by decide +kernel
theorem dX4_here_19 : decode cX4_here 19 = .ok (.getfield 9, 3) := by decide +kernel
theorem dX4_here_22 : decode cX4_here 22 = .ok (.aload_n 0, 1) := by decide +kernel
theorem dX4_here_23 : decode cX4_here 23 = .ok (.getfield 25, 3) := by decide +kernel
theorem dX4_here_26 : decode cX4_here 26 = .ok (.iaload, 1) := by decide +kernel
theorem dX4_here_27 : decode cX4_here 27 = .ok (.goto 4, 3) := by decide +kernel
theorem dX4_here_30 : decode cX4_here 30 = .ok (.iconst 0, 1) := by decide +kernel
theorem dX4_here_31 : decode cX4_here 31 = .ok (.ireturn, 1) := by decide +kernel
theorem dX4_isFigure_0 : decode cX4_isFigure 0 = .ok (.iload_n 1, 1) := by decide +kernel
theorem dX4_isFigure_1 : decode cX4_isFigure 1 = .ok (.bipush 48, 2) := by decide +kernel
theorem dX4_isFigure_3 : decode cX4_isFigure 3 = .ok (.if_icmp .lt 13, 3) := by decide +kernel
theorem dX4_isFigure_6 : decode cX4_isFigure 6 = .ok (.iload_n 1, 1) := by decide +kernel
theorem dX4_isFigure_7 : decode cX4_isFigure 7 = .ok (.bipush 57, 2) := by decide +kernel
theorem dX4_isFigure_9 : decode cX4_isFigure 9 = .ok (.if_icmp .gt 7, 3) := by decide +kernel
theorem dX4_isFigure_12 : decode cX4_isFigure 12 = .ok (.iconst 1, 1) := by decide +kernel
theorem dX4_isFigure_13 : decode cX4_isFigure 13 = .ok (.goto 4, 3) := by decide +kernel
theorem dX4_isFigure_16 : decode cX4_isFigure 16 = .ok (.iconst 0, 1) := by decide +kernel
theorem dX4_isFigure_17 : decode cX4_isFigure 17 = .ok (.ireturn, 1) := by decide +kernel
theorem dX4_fail_0 : decode cX4_fail 0 = .ok (.aload_n 0, 1) := by decide +kernel
theorem dX4_fail_1 : decode cX4_fail 1 = .ok (.getfield 31, 3) := by decide +kernel
theorem dX4_fail_4 : decode cX4_fail 4 = .ok (.iconst (-1), 1) := by decide +kernel
theorem dX4_fail_5 : decode cX4_fail 5 = .ok (.if_icmp .eq 4, 3) := by decide +kernel
theorem dX4_fail_8 : decode cX4_fail 8 = .ok (.return_, 1) := by decide +kernel
theorem dX4_fail_9 : decode cX4_fail 9 = .ok (.aload_n 0, 1) := by decide +kernel
theorem dX4_fail_10 : decode cX4_fail 10 = .ok (.iload_n 1, 1) := by decide +kernel
theorem dX4_fail_11 : decode cX4_fail 11 = .ok (.putfield 31, 3) := by decide +kernel
theorem dX4_fail_14 : decode cX4_fail 14 = .ok (.aload_n 0, 1) := by decide +kernel
theorem dX4_fail_15 : decode cX4_fail 15 = .ok (.iconst 0, 1) := by decide +kernel
theorem dX4_fail_16 : decode cX4_fail 16 = .ok (.putfield 22, 3) := by decide +kernel
theorem dX4_fail_19 : decode cX4_fail 19 = .ok (.aload_n 0, 1) := by decide +kernel
theorem dX4_fail_20 : decode cX4_fail 20 = .ok (.getfield 41, 3) := by decide +kernel
theorem dX4_fail_23 : decode cX4_fail 23 = .ok (.iconst 1, 1) := by decide +kernel
theorem dX4_fail_24 : decode cX4_fail 24 = .ok (.isub, 1) := by decide +kernel
theorem dX4_fail_25 : decode cX4_fail 25 = .ok (.istore_n 2, 1) := by decide +kernel
theorem dX4_fail_26 : decode cX4_fail 26 = .ok (.iload_n 2, 1) := by decide +kernel
theorem dX4_fail_27 : decode cX4_fail 27 = .ok (.ifCond .lt 34, 3) := by decide +kernel
theorem dX4_fail_30 : decode cX4_fail 30 = .ok (.aload_n 0, 1) := by decide +kernel
theorem dX4_fail_31 : decode cX4_fail 31 = .ok (.getfield 19, 3) := by decide +kernel
theorem dX4_fail_34 : decode cX4_fail 34 = .ok (.aload_n 0, 1) := by decide +kernel
theorem dX4_fail_35 : decode cX4_fail 35 = .ok (.getfield 22, 3) := by decide +kernel
theorem dX4_fail_38 : decode cX4_fail 38 = .ok (.aload_n 0, 1) := by decide +kernel
theorem dX4_fail_39 : decode cX4_fail 39 = .ok (.getfield 38, 3) := by decide +kernel
theorem dX4_fail_42 : decode cX4_fail 42 = .ok (.iload_n 2, 1) := by decide +kernel
theorem dX4_fail_43 : decode cX4_fail 43 = .ok (.iaload, 1) := by decide +kernel
theorem dX4_fail_44 : decode cX4_fail 44 = .ok (.iastore, 1) := by decide +kernel
theorem dX4_fail_45 : decode cX4_fail 45 = .ok (.aload_n 0, 1) := by decide +kernel
theorem dX4_fail_46 : decode cX4_fail 46 = .ok (.dup, 1) := by decide +kernel
theorem dX4_fail_47 : decode cX4_fail 47 = .ok (.getfield 22, 3) := by decide +kernel
theorem dX4_fail_50 : decode cX4_fail 50 = .ok (.iconst 1, 1) := by decide +kernel
theorem dX4_fail_51 : decode cX4_fail 51 = .ok (.iadd, 1) := by decide +kernel
theorem dX4_fail_52 : decode cX4_fail 52 = .ok (.putfield 22, 3) := by decide +kernel
theorem dX4_fail_55 : decode cX4_fail 55 = .ok (.iinc 2 (-1), 3) := by decide +kernel
theorem dX4_fail_58 : decode cX4_fail 58 = .ok (.goto (-32), 3) := by decide +kernel
theorem dX4_fail_61 : decode cX4_fail 61 = .ok (.return_, 1) := by decide +kernel
theorem dX4_goOver_0 : decode cX4_goOver 0 = .ok (.aload_n 0, 1) := by decide +kernel
theorem dX4_goOver_1 : decode cX4_goOver 1 = .ok (.getfield 31, 3) := by decide +kernel
theorem dX4_goOver_4 : decode cX4_goOver 4 = .ok (.iconst (-1), 1) := by decide +kernel
theorem dX4_goOver_5 : decode cX4_goOver 5 = .ok (.if_icmp .ne 19, 3) := by decide +kernel
theorem dX4_goOver_8 : decode cX4_goOver 8 = .ok (.aload_n 0, 1) := by decide +kernel
theorem dX4_goOver_9 : decode cX4_goOver 9 = .ok (.invokevirtual 64, 3) := by decide +kernel
theorem dX4_goOver_12 : decode cX4_goOver 12 = .ok (.iload_n 1, 1) := by decide +kernel
theorem dX4_goOver_13 : decode cX4_goOver 13 = .ok (.if_icmp .eq 11, 3) := by decide +kernel
theorem dX4_goOver_16 : decode cX4_goOver 16 = .ok (.aload_n 0, 1) := by decide +kernel
theorem dX4_goOver_17 : decode cX4_goOver 17 = .ok (.aload_n 0, 1) := by decide +kernel
theorem dX4_goOver_18 : decode cX4_goOver 18 = .ok (.getfield 25, 3) := by decide +kernel
theorem dX4_goOver_21 : decode cX4_goOver 21 = .ok (.invokevirtual 57, 3) := by decide +kernel
theorem dX4_goOver_24 : decode cX4_goOver 24 = .ok (.aload_n 0, 1) := by decide +kernel
theorem dX4_goOver_25 : decode cX4_goOver 25 = .ok (.getfield 31, 3) := by decide +kernel
theorem dX4_goOver_28 : decode cX4_goOver 28 = .ok (.iconst (-1), 1) := by decide +kernel
theorem dX4_goOver_29 : decode cX4_goOver 29 = .ok (.if_icmp .eq 5, 3) := by decide +kernel
theorem dX4_goOver_32 : decode cX4_goOver 32 = .ok (.iconst 0, 1) := by decide +kernel
theorem dX4_goOver_33 : decode cX4_goOver 33 = .ok (.ireturn, 1) := by decide +kernel
theorem dX4_goOver_34 : decode cX4_goOver 34 = .ok (.aload_n 0, 1) := by decide +kernel
theorem dX4_goOver_35 : decode cX4_goOver 35 = .ok (.dup, 1) := by decide +kernel
theorem dX4_goOver_36 : decode cX4_goOver 36 = .ok (.getfield 25, 3) := by decide +kernel
theorem dX4_goOver_39 : decode cX4_goOver 39 = .ok (.iconst 1, 1) := by decide +kernel
theorem dX4_goOver_40 : decode cX4_goOver 40 = .ok (.iadd, 1) := by decide +kernel
theorem dX4_goOver_41 : decode cX4_goOver 41 = .ok (.putfield 25, 3) := by decide +kernel
theorem dX4_goOver_44 : decode cX4_goOver 44 = .ok (.iconst 1, 1) := by decide +kernel
theorem dX4_goOver_45 : decode cX4_goOver 45 = .ok (.ireturn, 1) := by decide +kernel
theorem dX4_readTerm_0 : decode cX4_readTerm 0 = .ok (.aload_n 0, 1) := by decide +kernel
theorem dX4_readTerm_1 : decode cX4_readTerm 1 = .ok (.invokevirtual 64, 3) := by decide +kernel
theorem dX4_readTerm_4 : decode cX4_readTerm 4 = .ok (.istore_n 2, 1) := by decide +kernel
theorem dX4_readTerm_5 : decode cX4_readTerm 5 = .ok (.aload_n 0, 1) := by decide +kernel
theorem dX4_readTerm_6 : decode cX4_readTerm 6 = .ok (.iload_n 2, 1) := by decide +kernel
theorem dX4_readTerm_7 : decode cX4_readTerm 7 = .ok (.invokevirtual 68, 3) := by decide +kernel
theorem dX4_readTerm_10 : decode cX4_readTerm 10 = .ok (.ifCond .eq 19, 3) := by decide +kernel
theorem dX4_readTerm_13 : decode cX4_readTerm 13 = .ok (.aload_n 0, 1) := by decide +kernel
theorem dX4_readTerm_14 : decode cX4_readTerm 14 = .ok (.iconst 0, 1) := by decide +kernel
theorem dX4_readTerm_15 : decode cX4_readTerm 15 = .ok (.aload_n 0, 1) := by decide +kernel
theorem dX4_readTerm_16 : decode cX4_readTerm 16 = .ok (.invokevirtual 72, 3) := by decide +kernel
theorem dX4_readTerm_19 : decode cX4_readTerm 19 = .ok (.bipush (-5), 2) := by decide +kernel
theorem dX4_readTerm_21 : decode cX4_readTerm 21 = .ok (.bipush (-5), 2) := by decide +kernel
theorem dX4_readTerm_23 : decode cX4_readTerm 23 = .ok (.bipush (-5), 2) := by decide +kernel
theorem dX4_readTerm_25 : decode cX4_readTerm 25 = .ok (.invokevirtual 75, 3) := by decide +kernel
theorem dX4_readTerm_28 : decode cX4_readTerm 28 = .ok (.ireturn, 1) := by decide +kernel
theorem dX4_readTerm_29 : decode cX4_readTerm 29 = .ok (.iload_n 2, 1) := by decide +kernel
theorem dX4_readTerm_30 : decode cX4_readTerm 30 = .ok (.bipush 45, 2) := by decide +kernel
theorem dX4_readTerm_32 : decode cX4_readTerm 32 = .ok (.if_icmp .ne 27, 3) := by decide +kernel
theorem dX4_readTerm_35 : decode cX4_readTerm 35 = .ok (.aload_n 0, 1) := by decide +kernel
theorem dX4_readTerm_36 : decode cX4_readTerm 36 = .ok (.dup, 1) := by decide +kernel
theorem dX4_readTerm_37 : decode cX4_readTerm 37 = .ok (.getfield 25, 3) := by decide +kernel
theorem dX4_readTerm_40 : decode cX4_readTerm 40 = .ok (.iconst 1, 1) := by decide +kernel
theorem dX4_readTerm_41 : decode cX4_readTerm 41 = .ok (.iadd, 1) := by decide +kernel
theorem dX4_readTerm_42 : decode cX4_readTerm 42 = .ok (.putfield 25, 3) := by decide +kernel
theorem dX4_readTerm_45 : decode cX4_readTerm 45 = .ok (.aload_n 0, 1) := by decide +kernel
theorem dX4_readTerm_46 : decode cX4_readTerm 46 = .ok (.iconst 1, 1) := by decide +kernel
theorem dX4_readTerm_47 : decode cX4_readTerm 47 = .ok (.bipush (-5), 2) := by decide +kernel
theorem dX4_readTerm_49 : decode cX4_readTerm 49 = .ok (.bipush (-5), 2) := by decide +kernel
theorem dX4_readTerm_51 : decode cX4_readTerm 51 = .ok (.bipush (-5), 2) := by decide +kernel
theorem dX4_readTerm_53 : decode cX4_readTerm 53 = .ok (.bipush (-5), 2) := by decide +kernel
theorem dX4_readTerm_55 : decode cX4_readTerm 55 = .ok (.invokevirtual 75, 3) := by decide +kernel
theorem dX4_readTerm_58 : decode cX4_readTerm 58 = .ok (.ireturn, 1) := by decide +kernel
theorem dX4_readTerm_59 : decode cX4_readTerm 59 = .ok (.aload_n 0, 1) := by decide +kernel
theorem dX4_readTerm_60 : decode cX4_readTerm 60 = .ok (.iload_n 2, 1) := by decide +kernel
theorem dX4_readTerm_61 : decode cX4_readTerm 61 = .ok (.invokevirtual 79, 3) := by decide +kernel
theorem dX4_readTerm_64 : decode cX4_readTerm 64 = .ok (.istore_n 3, 1) := by decide +kernel
theorem dX4_readTerm_65 : decode cX4_readTerm 65 = .ok (.iload_n 3, 1) := by decide +kernel
theorem dX4_readTerm_66 : decode cX4_readTerm 66 = .ok (.iconst (-1), 1) := by decide +kernel
theorem dX4_readTerm_67 : decode cX4_readTerm 67 = .ok (.if_icmp .eq 12, 3) := by decide +kernel
theorem dX4_readTerm_70 : decode cX4_readTerm 70 = .ok (.aload_n 0, 1) := by decide +kernel
theorem dX4_readTerm_71 : decode cX4_readTerm 71 = .ok (.getfield 41, 3) := by decide +kernel
theorem dX4_readTerm_74 : decode cX4_readTerm 74 = .ok (.bipush 6, 2) := by decide +kernel
theorem dX4_readTerm_76 : decode cX4_readTerm 76 = .ok (.if_icmp .le 13, 3) := by decide +kernel
theorem dX4_readTerm_79 : decode cX4_readTerm 79 = .ok (.aload_n 0, 1) := by decide +kernel
theorem dX4_readTerm_80 : decode cX4_readTerm 80 = .ok (.aload_n 0, 1) := by decide +kernel
theorem dX4_readTerm_81 : decode cX4_readTerm 81 = .ok (.getfield 25, 3) := by decide +kernel
theorem dX4_readTerm_84 : decode cX4_readTerm 84 = .ok (.invokevirtual 57, 3) := by decide +kernel
theorem dX4_readTerm_87 : decode cX4_readTerm 87 = .ok (.iconst (-1), 1) := by decide +kernel
theorem dX4_readTerm_88 : decode cX4_readTerm 88 = .ok (.ireturn, 1) := by decide +kernel
theorem dX4_readTerm_89 : decode cX4_readTerm 89 = .ok (.aload_n 0, 1) := by decide +kernel
theorem dX4_readTerm_90 : decode cX4_readTerm 90 = .ok (.getfield 38, 3) := by decide +kernel
theorem dX4_readTerm_93 : decode cX4_readTerm 93 = .ok (.aload_n 0, 1) := by decide +kernel
theorem dX4_readTerm_94 : decode cX4_readTerm 94 = .ok (.getfield 41, 3) := by decide +kernel
theorem dX4_readTerm_97 : decode cX4_readTerm 97 = .ok (.aload_n 0, 1) := by decide +kernel
theorem dX4_readTerm_98 : decode cX4_readTerm 98 = .ok (.getfield 25, 3) := by decide +kernel
theorem dX4_readTerm_101 : decode cX4_readTerm 101 = .ok (.iastore, 1) := by decide +kernel
theorem dX4_readTerm_102 : decode cX4_readTerm 102 = .ok (.aload_n 0, 1) := by decide +kernel
theorem dX4_readTerm_103 : decode cX4_readTerm 103 = .ok (.dup, 1) := by decide +kernel
theorem dX4_readTerm_104 : decode cX4_readTerm 104 = .ok (.getfield 41, 3) := by decide +kernel
theorem dX4_readTerm_107 : decode cX4_readTerm 107 = .ok (.iconst 1, 1) := by decide +kernel
theorem dX4_readTerm_108 : decode cX4_readTerm 108 = .ok (.iadd, 1) := by decide +kernel
theorem dX4_readTerm_109 : decode cX4_readTerm 109 = .ok (.putfield 41, 3) := by decide +kernel
theorem dX4_readTerm_112 : decode cX4_readTerm 112 = .ok (.aload_n 0, 1) := by decide +kernel
theorem dX4_readTerm_113 : decode cX4_readTerm 113 = .ok (.dup, 1) := by decide +kernel
theorem dX4_readTerm_114 : decode cX4_readTerm 114 = .ok (.getfield 25, 3) := by decide +kernel
theorem dX4_readTerm_117 : decode cX4_readTerm 117 = .ok (.iconst 1, 1) := by decide +kernel
theorem dX4_readTerm_118 : decode cX4_readTerm 118 = .ok (.iadd, 1) := by decide +kernel
theorem dX4_readTerm_119 : decode cX4_readTerm 119 = .ok (.putfield 25, 3) := by decide +kernel
theorem dX4_readTerm_122 : decode cX4_readTerm 122 = .ok (.iload_n 3, 1) := by decide +kernel
theorem dX4_readTerm_123 : decode cX4_readTerm 123 = .ok (.bipush 8, 2) := by decide +kernel
theorem dX4_readTerm_125 : decode cX4_readTerm 125 = .ok (.if_icmp .ne 10, 3) := by decide +kernel
theorem dX4_readTerm_128 : decode cX4_readTerm 128 = .ok (.aload_n 0, 1) := by decide +kernel
theorem dX4_readTerm_129 : decode cX4_readTerm 129 = .ok (.invokevirtual 82, 3) := by decide +kernel
theorem dX4_readTerm_132 : decode cX4_readTerm 132 = .ok (.goto 9, 3) := by decide +kernel
theorem dX4_readTerm_135 : decode cX4_readTerm 135 = .ok (.aload_n 0, 1) := by decide +kernel
theorem dX4_readTerm_136 : decode cX4_readTerm 136 = .ok (.iload_n 3, 1) := by decide +kernel
theorem dX4_readTerm_137 : decode cX4_readTerm 137 = .ok (.iload_n 1, 1) := by decide +kernel
theorem dX4_readTerm_138 : decode cX4_readTerm 138 = .ok (.invokevirtual 85, 3) := by decide +kernel
theorem dX4_readTerm_141 : decode cX4_readTerm 141 = .ok (.istore 4, 2) := by decide +kernel
theorem dX4_readTerm_143 : decode cX4_readTerm 143 = .ok (.aload_n 0, 1) := by decide +kernel
theorem dX4_readTerm_144 : decode cX4_readTerm 144 = .ok (.getfield 31, 3) := by decide +kernel
theorem dX4_readTerm_147 : decode cX4_readTerm 147 = .ok (.iconst (-1), 1) := by decide +kernel
theorem dX4_readTerm_148 : decode cX4_readTerm 148 = .ok (.if_icmp .ne 13, 3) := by decide +kernel
theorem dX4_readTerm_151 : decode cX4_readTerm 151 = .ok (.aload_n 0, 1) := by decide +kernel
theorem dX4_readTerm_152 : decode cX4_readTerm 152 = .ok (.dup, 1) := by decide +kernel
theorem dX4_readTerm_153 : decode cX4_readTerm 153 = .ok (.getfield 41, 3) := by decide +kernel
theorem dX4_readTerm_156 : decode cX4_readTerm 156 = .ok (.iconst 1, 1) := by decide +kernel
theorem dX4_readTerm_157 : decode cX4_readTerm 157 = .ok (.isub, 1) := by decide +kernel
theorem dX4_readTerm_158 : decode cX4_readTerm 158 = .ok (.putfield 41, 3) := by decide +kernel
theorem dX4_readTerm_161 : decode cX4_readTerm 161 = .ok (.iload 4, 2) := by decide +kernel
theorem dX4_readTerm_163 : decode cX4_readTerm 163 = .ok (.ireturn, 1) := by decide +kernel
theorem dX4_kindBySign_0 : decode cX4_kindBySign 0 = .ok (.iload_n 1, 1) := by decide +kernel
theorem dX4_kindBySign_1 : decode cX4_kindBySign 1 = .ok (.lookupswitch 84 #[(33, 81), (35, 67), (43, 77), (47, 75), (60, 79), (63, 70), (94, 72)], 67) := by decide +kernel
theorem dX4_kindBySign_68 : decode cX4_kindBySign 68 = .ok (.bipush 8, 2) := by decide +kernel
theorem dX4_kindBySign_70 : decode cX4_kindBySign 70 = .ok (.ireturn, 1) := by decide +kernel
theorem dX4_kindBySign_71 : decode cX4_kindBySign 71 = .ok (.iconst 2, 1) := by decide +kernel
theorem dX4_kindBySign_72 : decode cX4_kindBySign 72 = .ok (.ireturn, 1) := by decide +kernel
theorem dX4_kindBySign_73 : decode cX4_kindBySign 73 = .ok (.bipush 6, 2) := by decide +kernel
theorem dX4_kindBySign_75 : decode cX4_kindBySign 75 = .ok (.ireturn, 1) := by decide +kernel
theorem dX4_kindBySign_76 : decode cX4_kindBySign 76 = .ok (.iconst 3, 1) := by decide +kernel
theorem dX4_kindBySign_77 : decode cX4_kindBySign 77 = .ok (.ireturn, 1) := by decide +kernel
theorem dX4_kindBySign_78 : decode cX4_kindBySign 78 = .ok (.iconst 4, 1) := by decide +kernel
theorem dX4_kindBySign_79 : decode cX4_kindBySign 79 = .ok (.ireturn, 1) := by decide +kernel
theorem dX4_kindBySign_80 : decode cX4_kindBySign 80 = .ok (.iconst 5, 1) := by decide +kernel
theorem dX4_kindBySign_81 : decode cX4_kindBySign 81 = .ok (.ireturn, 1) := by decide +kernel
theorem dX4_kindBySign_82 : decode cX4_kindBySign 82 = .ok (.bipush 7, 2) := by decide +kernel
theorem dX4_kindBySign_84 : decode cX4_kindBySign 84 = .ok (.ireturn, 1) := by decide +kernel
theorem dX4_kindBySign_85 : decode cX4_kindBySign 85 = .ok (.iconst (-1), 1) := by decide +kernel
theorem dX4_kindBySign_86 : decode cX4_kindBySign 86 = .ok (.ireturn, 1) := by decide +kernel
theorem dX4_readNamed_0 : decode cX4_readNamed 0 = .ok (.aload_n 0, 1) := by decide +kernel
theorem dX4_readNamed_1 : decode cX4_readNamed 1 = .ok (.getfield 25, 3) := by decide +kernel
theorem dX4_readNamed_4 : decode cX4_readNamed 4 = .ok (.istore_n 1, 1) := by decide +kernel
theorem dX4_readNamed_5 : decode cX4_readNamed 5 = .ok (.aload_n 0, 1) := by decide +kernel
theorem dX4_readNamed_6 : decode cX4_readNamed 6 = .ok (.invokevirtual 72, 3) := by decide +kernel
theorem dX4_readNamed_9 : decode cX4_readNamed 9 = .ok (.istore_n 2, 1) := by decide +kernel
theorem dX4_readNamed_10 : decode cX4_readNamed 10 = .ok (.aload_n 0, 1) := by decide +kernel
theorem dX4_readNamed_11 : decode cX4_readNamed 11 = .ok (.getfield 31, 3) := by decide +kernel
theorem dX4_readNamed_14 : decode cX4_readNamed 14 = .ok (.iconst (-1), 1) := by decide +kernel
theorem dX4_readNamed_15 : decode cX4_readNamed 15 = .ok (.if_icmp .ne 16, 3) := by decide +kernel
theorem dX4_readNamed_18 : decode cX4_readNamed 18 = .ok (.iload_n 2, 1) := by decide +kernel
theorem dX4_readNamed_19 : decode cX4_readNamed 19 = .ok (.aload_n 0, 1) := by decide +kernel
theorem dX4_readNamed_20 : decode cX4_readNamed 20 = .ok (.getfield 28, 3) := by decide +kernel
theorem dX4_readNamed_23 : decode cX4_readNamed 23 = .ok (.if_icmp .lt 8, 3) := by decide +kernel
theorem dX4_readNamed_26 : decode cX4_readNamed 26 = .ok (.aload_n 0, 1) := by decide +kernel
theorem dX4_readNamed_27 : decode cX4_readNamed 27 = .ok (.iload_n 1, 1) := by decide +kernel
theorem dX4_readNamed_28 : decode cX4_readNamed 28 = .ok (.invokevirtual 57, 3) := by decide +kernel
theorem dX4_readNamed_31 : decode cX4_readNamed 31 = .ok (.aload_n 0, 1) := by decide +kernel
theorem dX4_readNamed_32 : decode cX4_readNamed 32 = .ok (.getfield 31, 3) := by decide +kernel
theorem dX4_readNamed_35 : decode cX4_readNamed 35 = .ok (.iconst (-1), 1) := by decide +kernel
theorem dX4_readNamed_36 : decode cX4_readNamed 36 = .ok (.if_icmp .ne 7, 3) := by decide +kernel
theorem dX4_readNamed_39 : decode cX4_readNamed 39 = .ok (.iload_n 2, 1) := by decide +kernel
theorem dX4_readNamed_40 : decode cX4_readNamed 40 = .ok (.goto 4, 3) := by decide +kernel
theorem dX4_readNamed_43 : decode cX4_readNamed 43 = .ok (.iconst (-1), 1) := by decide +kernel
theorem dX4_readNamed_44 : decode cX4_readNamed 44 = .ok (.ireturn, 1) := by decide +kernel
theorem dX4_readComposed_0 : decode cX4_readComposed 0 = .ok (.iload_n 1, 1) := by decide +kernel
theorem dX4_readComposed_1 : decode cX4_readComposed 1 = .ok (.iconst 2, 1) := by decide +kernel
theorem dX4_readComposed_2 : decode cX4_readComposed 2 = .ok (.if_icmp .eq 9, 3) := by decide +kernel
theorem dX4_readComposed_5 : decode cX4_readComposed 5 = .ok (.iload_n 1, 1) := by decide +kernel
theorem dX4_readComposed_6 : decode cX4_readComposed 6 = .ok (.bipush 6, 2) := by decide +kernel
theorem dX4_readComposed_8 : decode cX4_readComposed 8 = .ok (.if_icmp .ne 7, 3) := by decide +kernel
theorem dX4_readComposed_11 : decode cX4_readComposed 11 = .ok (.iconst 1, 1) := by decide +kernel
theorem dX4_readComposed_12 : decode cX4_readComposed 12 = .ok (.goto 4, 3) := by decide +kernel
theorem dX4_readComposed_15 : decode cX4_readComposed 15 = .ok (.iconst 0, 1) := by decide +kernel
theorem dX4_readComposed_16 : decode cX4_readComposed 16 = .ok (.istore_n 3, 1) := by decide +kernel
theorem dX4_readComposed_17 : decode cX4_readComposed 17 = .ok (.iload_n 3, 1) := by decide +kernel
theorem dX4_readComposed_18 : decode cX4_readComposed 18 = .ok (.ifCond .eq 10, 3) := by decide +kernel
theorem dX4_readComposed_21 : decode cX4_readComposed 21 = .ok (.aload_n 0, 1) := by decide +kernel
theorem dX4_readComposed_22 : decode cX4_readComposed 22 = .ok (.invokevirtual 89, 3) := by decide +kernel
theorem dX4_readComposed_25 : decode cX4_readComposed 25 = .ok (.goto 5, 3) := by decide +kernel
theorem dX4_readComposed_28 : decode cX4_readComposed 28 = .ok (.bipush (-5), 2) := by decide +kernel
theorem dX4_readComposed_30 : decode cX4_readComposed 30 = .ok (.istore 4, 2) := by decide +kernel
theorem dX4_readComposed_32 : decode cX4_readComposed 32 = .ok (.iload_n 1, 1) := by decide +kernel
theorem dX4_readComposed_33 : decode cX4_readComposed 33 = .ok (.bipush 6, 2) := by decide +kernel
theorem dX4_readComposed_35 : decode cX4_readComposed 35 = .ok (.if_icmp .ne 19, 3) := by decide +kernel
theorem dX4_readComposed_38 : decode cX4_readComposed 38 = .ok (.aload_n 0, 1) := by decide +kernel
theorem dX4_readComposed_39 : decode cX4_readComposed 39 = .ok (.bipush 58, 2) := by decide +kernel
theorem dX4_readComposed_41 : decode cX4_readComposed 41 = .ok (.invokevirtual 92, 3) := by decide +kernel
theorem dX4_readComposed_44 : decode cX4_readComposed 44 = .ok (.ifCond .eq 10, 3) := by decide +kernel
theorem dX4_readComposed_47 : decode cX4_readComposed 47 = .ok (.aload_n 0, 1) := by decide +kernel
theorem dX4_readComposed_48 : decode cX4_readComposed 48 = .ok (.invokevirtual 72, 3) := by decide +kernel
theorem dX4_readComposed_51 : decode cX4_readComposed 51 = .ok (.goto 5, 3) := by decide +kernel
theorem dX4_readComposed_54 : decode cX4_readComposed 54 = .ok (.bipush (-5), 2) := by decide +kernel
theorem dX4_readComposed_56 : decode cX4_readComposed 56 = .ok (.istore 5, 2) := by decide +kernel
theorem dX4_readComposed_58 : decode cX4_readComposed 58 = .ok (.iload_n 2, 1) := by decide +kernel
theorem dX4_readComposed_59 : decode cX4_readComposed 59 = .ok (.bipush 6, 2) := by decide +kernel
theorem dX4_readComposed_61 : decode cX4_readComposed 61 = .ok (.if_icmp .lt 11, 3) := by decide +kernel
theorem dX4_readComposed_64 : decode cX4_readComposed 64 = .ok (.aload_n 0, 1) := by decide +kernel
theorem dX4_readComposed_65 : decode cX4_readComposed 65 = .ok (.aload_n 0, 1) := by decide +kernel
theorem dX4_readComposed_66 : decode cX4_readComposed 66 = .ok (.getfield 25, 3) := by decide +kernel
theorem dX4_readComposed_69 : decode cX4_readComposed 69 = .ok (.invokevirtual 57, 3) := by decide +kernel
theorem dX4_readComposed_72 : decode cX4_readComposed 72 = .ok (.aload_n 0, 1) := by decide +kernel
theorem dX4_readComposed_73 : decode cX4_readComposed 73 = .ok (.bipush 40, 2) := by decide +kernel
theorem dX4_readComposed_75 : decode cX4_readComposed 75 = .ok (.invokevirtual 92, 3) := by decide +kernel
theorem dX4_readComposed_78 : decode cX4_readComposed 78 = .ok (.ifCond .ne 5, 3) := by decide +kernel
theorem dX4_readComposed_81 : decode cX4_readComposed 81 = .ok (.iconst (-1), 1) := by decide +kernel
theorem dX4_readComposed_82 : decode cX4_readComposed 82 = .ok (.ireturn, 1) := by decide +kernel
theorem dX4_readComposed_83 : decode cX4_readComposed 83 = .ok (.aload_n 0, 1) := by decide +kernel
theorem dX4_readComposed_84 : decode cX4_readComposed 84 = .ok (.iload_n 2, 1) := by decide +kernel
theorem dX4_readComposed_85 : decode cX4_readComposed 85 = .ok (.iconst 1, 1) := by decide +kernel
theorem dX4_readComposed_86 : decode cX4_readComposed 86 = .ok (.iadd, 1) := by decide +kernel
theorem dX4_readComposed_87 : decode cX4_readComposed 87 = .ok (.invokevirtual 53, 3) := by decide +kernel
theorem dX4_readComposed_90 : decode cX4_readComposed 90 = .ok (.istore 6, 2) := by decide +kernel
theorem dX4_readComposed_92 : decode cX4_readComposed 92 = .ok (.bipush (-5), 2) := by decide +kernel
theorem dX4_readComposed_94 : decode cX4_readComposed 94 = .ok (.istore 7, 2) := by decide +kernel
theorem dX4_readComposed_96 : decode cX4_readComposed 96 = .ok (.iload_n 3, 1) := by decide +kernel
theorem dX4_readComposed_97 : decode cX4_readComposed 97 = .ok (.ifCond .ne 23, 3) := by decide +kernel
theorem dX4_readComposed_100 : decode cX4_readComposed 100 = .ok (.aload_n 0, 1) := by decide +kernel
theorem dX4_readComposed_101 : decode cX4_readComposed 101 = .ok (.bipush 44, 2) := by decide +kernel
theorem dX4_readComposed_103 : decode cX4_readComposed 103 = .ok (.invokevirtual 92, 3) := by decide +kernel
theorem dX4_readComposed_106 : decode cX4_readComposed 106 = .ok (.ifCond .ne 5, 3) := by decide +kernel
theorem dX4_readComposed_109 : decode cX4_readComposed 109 = .ok (.iconst (-1), 1) := by decide +kernel
theorem dX4_readComposed_110 : decode cX4_readComposed 110 = .ok (.ireturn, 1) := by decide +kernel
theorem dX4_readComposed_111 : decode cX4_readComposed 111 = .ok (.aload_n 0, 1) := by decide +kernel
theorem dX4_readComposed_112 : decode cX4_readComposed 112 = .ok (.iload_n 2, 1) := by decide +kernel
theorem dX4_readComposed_113 : decode cX4_readComposed 113 = .ok (.iconst 1, 1) := by decide +kernel
theorem dX4_readComposed_114 : decode cX4_readComposed 114 = .ok (.iadd, 1) := by decide +kernel
theorem dX4_readComposed_115 : decode cX4_readComposed 115 = .ok (.invokevirtual 53, 3) := by decide +kernel
theorem dX4_readComposed_118 : decode cX4_readComposed 118 = .ok (.istore 7, 2) := by decide +kernel
theorem dX4_readComposed_120 : decode cX4_readComposed 120 = .ok (.aload_n 0, 1) := by decide +kernel
theorem dX4_readComposed_121 : decode cX4_readComposed 121 = .ok (.bipush 41, 2) := by decide +kernel
theorem dX4_readComposed_123 : decode cX4_readComposed 123 = .ok (.invokevirtual 92, 3) := by decide +kernel
theorem dX4_readComposed_126 : decode cX4_readComposed 126 = .ok (.ifCond .eq 19, 3) := by decide +kernel
theorem dX4_readComposed_129 : decode cX4_readComposed 129 = .ok (.aload_n 0, 1) := by decide +kernel
theorem dX4_readComposed_130 : decode cX4_readComposed 130 = .ok (.iload_n 1, 1) := by decide +kernel
theorem dX4_readComposed_131 : decode cX4_readComposed 131 = .ok (.iload 5, 2) := by decide +kernel
theorem dX4_readComposed_133 : decode cX4_readComposed 133 = .ok (.iload 4, 2) := by decide +kernel
theorem dX4_readComposed_135 : decode cX4_readComposed 135 = .ok (.iload 6, 2) := by decide +kernel
theorem dX4_readComposed_137 : decode cX4_readComposed 137 = .ok (.iload 7, 2) := by decide +kernel
theorem dX4_readComposed_139 : decode cX4_readComposed 139 = .ok (.invokevirtual 75, 3) := by decide +kernel
theorem dX4_readComposed_142 : decode cX4_readComposed 142 = .ok (.goto 4, 3) := by decide +kernel
theorem dX4_readComposed_145 : decode cX4_readComposed 145 = .ok (.iconst (-1), 1) := by decide +kernel
theorem dX4_readComposed_146 : decode cX4_readComposed 146 = .ok (.ireturn, 1) := by decide +kernel
theorem dX4_readBox_0 : decode cX4_readBox 0 = .ok (.iconst 0, 1) := by decide +kernel
theorem dX4_readBox_1 : decode cX4_readBox 1 = .ok (.istore_n 1, 1) := by decide +kernel
theorem dX4_readBox_2 : decode cX4_readBox 2 = .ok (.iconst 0, 1) := by decide +kernel
theorem dX4_readBox_3 : decode cX4_readBox 3 = .ok (.istore_n 2, 1) := by decide +kernel
theorem dX4_readBox_4 : decode cX4_readBox 4 = .ok (.iconst 0, 1) := by decide +kernel
theorem dX4_readBox_5 : decode cX4_readBox 5 = .ok (.istore_n 3, 1) := by decide +kernel
theorem dX4_readBox_6 : decode cX4_readBox 6 = .ok (.iload_n 3, 1) := by decide +kernel
theorem dX4_readBox_7 : decode cX4_readBox 7 = .ok (.bipush 6, 2) := by decide +kernel
theorem dX4_readBox_9 : decode cX4_readBox 9 = .ok (.if_icmp .ge 68, 3) := by decide +kernel
theorem dX4_readBox_12 : decode cX4_readBox 12 = .ok (.aload_n 0, 1) := by decide +kernel
theorem dX4_readBox_13 : decode cX4_readBox 13 = .ok (.getfield 31, 3) := by decide +kernel
theorem dX4_readBox_16 : decode cX4_readBox 16 = .ok (.iconst (-1), 1) := by decide +kernel
theorem dX4_readBox_17 : decode cX4_readBox 17 = .ok (.if_icmp .ne 60, 3) := by decide +kernel
theorem dX4_readBox_20 : decode cX4_readBox 20 = .ok (.aload_n 0, 1) := by decide +kernel
theorem dX4_readBox_21 : decode cX4_readBox 21 = .ok (.invokevirtual 64, 3) := by decide +kernel
theorem dX4_readBox_24 : decode cX4_readBox 24 = .ok (.bipush 48, 2) := by decide +kernel
theorem dX4_readBox_26 : decode cX4_readBox 26 = .ok (.isub, 1) := by decide +kernel
theorem dX4_readBox_27 : decode cX4_readBox 27 = .ok (.istore 4, 2) := by decide +kernel
theorem dX4_readBox_29 : decode cX4_readBox 29 = .ok (.iload 4, 2) := by decide +kernel
theorem dX4_readBox_31 : decode cX4_readBox 31 = .ok (.iload_n 3, 1) := by decide +kernel
theorem dX4_readBox_32 : decode cX4_readBox 32 = .ok (.iload_n 2, 1) := by decide +kernel
theorem dX4_readBox_33 : decode cX4_readBox 33 = .ok (.invokestatic 95, 3) := by decide +kernel
theorem dX4_readBox_36 : decode cX4_readBox 36 = .ok (.ifCond .eq 16, 3) := by decide +kernel
theorem dX4_readBox_39 : decode cX4_readBox 39 = .ok (.aload_n 0, 1) := by decide +kernel
theorem dX4_readBox_40 : decode cX4_readBox 40 = .ok (.dup, 1) := by decide +kernel
theorem dX4_readBox_41 : decode cX4_readBox 41 = .ok (.getfield 25, 3) := by decide +kernel
theorem dX4_readBox_44 : decode cX4_readBox 44 = .ok (.iconst 1, 1) := by decide +kernel
theorem dX4_readBox_45 : decode cX4_readBox 45 = .ok (.iadd, 1) := by decide +kernel
theorem dX4_readBox_46 : decode cX4_readBox 46 = .ok (.putfield 25, 3) := by decide +kernel
theorem dX4_readBox_49 : decode cX4_readBox 49 = .ok (.goto 11, 3) := by decide +kernel
theorem dX4_readBox_52 : decode cX4_readBox 52 = .ok (.aload_n 0, 1) := by decide +kernel
theorem dX4_readBox_53 : decode cX4_readBox 53 = .ok (.aload_n 0, 1) := by decide +kernel
theorem dX4_readBox_54 : decode cX4_readBox 54 = .ok (.getfield 25, 3) := by decide +kernel
theorem dX4_readBox_57 : decode cX4_readBox 57 = .ok (.invokevirtual 57, 3) := by decide +kernel
theorem dX4_readBox_60 : decode cX4_readBox 60 = .ok (.bipush 10, 2) := by decide +kernel
theorem dX4_readBox_62 : decode cX4_readBox 62 = .ok (.iload_n 1, 1) := by decide +kernel
theorem dX4_readBox_63 : decode cX4_readBox 63 = .ok (.imul, 1) := by decide +kernel
theorem dX4_readBox_64 : decode cX4_readBox 64 = .ok (.iload 4, 2) := by decide +kernel
theorem dX4_readBox_66 : decode cX4_readBox 66 = .ok (.iadd, 1) := by decide +kernel
theorem dX4_readBox_67 : decode cX4_readBox 67 = .ok (.istore_n 1, 1) := by decide +kernel
theorem dX4_readBox_68 : decode cX4_readBox 68 = .ok (.iload 4, 2) := by decide +kernel
theorem dX4_readBox_70 : decode cX4_readBox 70 = .ok (.istore_n 2, 1) := by decide +kernel
theorem dX4_readBox_71 : decode cX4_readBox 71 = .ok (.iinc 3 1, 3) := by decide +kernel
theorem dX4_readBox_74 : decode cX4_readBox 74 = .ok (.goto (-68), 3) := by decide +kernel
theorem dX4_readBox_77 : decode cX4_readBox 77 = .ok (.iload_n 1, 1) := by decide +kernel
theorem dX4_readBox_78 : decode cX4_readBox 78 = .ok (.ireturn, 1) := by decide +kernel
theorem dX4_readNumber_0 : decode cX4_readNumber 0 = .ok (.aload_n 0, 1) := by decide +kernel
theorem dX4_readNumber_1 : decode cX4_readNumber 1 = .ok (.aload_n 0, 1) := by decide +kernel
theorem dX4_readNumber_2 : decode cX4_readNumber 2 = .ok (.invokevirtual 64, 3) := by decide +kernel
theorem dX4_readNumber_5 : decode cX4_readNumber 5 = .ok (.invokevirtual 68, 3) := by decide +kernel
theorem dX4_readNumber_8 : decode cX4_readNumber 8 = .ok (.ifCond .ne 13, 3) := by decide +kernel
theorem dX4_readNumber_11 : decode cX4_readNumber 11 = .ok (.aload_n 0, 1) := by decide +kernel
theorem dX4_readNumber_12 : decode cX4_readNumber 12 = .ok (.aload_n 0, 1) := by decide +kernel
theorem dX4_readNumber_13 : decode cX4_readNumber 13 = .ok (.getfield 25, 3) := by decide +kernel
theorem dX4_readNumber_16 : decode cX4_readNumber 16 = .ok (.invokevirtual 57, 3) := by decide +kernel
theorem dX4_readNumber_19 : decode cX4_readNumber 19 = .ok (.iconst (-1), 1) := by decide +kernel
theorem dX4_readNumber_20 : decode cX4_readNumber 20 = .ok (.ireturn, 1) := by decide +kernel
theorem dX4_readNumber_21 : decode cX4_readNumber 21 = .ok (.aload_n 0, 1) := by decide +kernel
theorem dX4_readNumber_22 : decode cX4_readNumber 22 = .ok (.invokevirtual 64, 3) := by decide +kernel
theorem dX4_readNumber_25 : decode cX4_readNumber 25 = .ok (.bipush 48, 2) := by decide +kernel
theorem dX4_readNumber_27 : decode cX4_readNumber 27 = .ok (.isub, 1) := by decide +kernel
theorem dX4_readNumber_28 : decode cX4_readNumber 28 = .ok (.istore_n 1, 1) := by decide +kernel
theorem dX4_readNumber_29 : decode cX4_readNumber 29 = .ok (.aload_n 0, 1) := by decide +kernel
theorem dX4_readNumber_30 : decode cX4_readNumber 30 = .ok (.dup, 1) := by decide +kernel
theorem dX4_readNumber_31 : decode cX4_readNumber 31 = .ok (.getfield 25, 3) := by decide +kernel
theorem dX4_readNumber_34 : decode cX4_readNumber 34 = .ok (.iconst 1, 1) := by decide +kernel
theorem dX4_readNumber_35 : decode cX4_readNumber 35 = .ok (.iadd, 1) := by decide +kernel
theorem dX4_readNumber_36 : decode cX4_readNumber 36 = .ok (.putfield 25, 3) := by decide +kernel
theorem dX4_readNumber_39 : decode cX4_readNumber 39 = .ok (.aload_n 0, 1) := by decide +kernel
theorem dX4_readNumber_40 : decode cX4_readNumber 40 = .ok (.aload_n 0, 1) := by decide +kernel
theorem dX4_readNumber_41 : decode cX4_readNumber 41 = .ok (.invokevirtual 64, 3) := by decide +kernel
theorem dX4_readNumber_44 : decode cX4_readNumber 44 = .ok (.invokevirtual 68, 3) := by decide +kernel
theorem dX4_readNumber_47 : decode cX4_readNumber 47 = .ok (.ifCond .eq 26, 3) := by decide +kernel
theorem dX4_readNumber_50 : decode cX4_readNumber 50 = .ok (.bipush 10, 2) := by decide +kernel
theorem dX4_readNumber_52 : decode cX4_readNumber 52 = .ok (.iload_n 1, 1) := by decide +kernel
theorem dX4_readNumber_53 : decode cX4_readNumber 53 = .ok (.imul, 1) := by decide +kernel
theorem dX4_readNumber_54 : decode cX4_readNumber 54 = .ok (.aload_n 0, 1) := by decide +kernel
theorem dX4_readNumber_55 : decode cX4_readNumber 55 = .ok (.invokevirtual 64, 3) := by decide +kernel
theorem dX4_readNumber_58 : decode cX4_readNumber 58 = .ok (.iadd, 1) := by decide +kernel
theorem dX4_readNumber_59 : decode cX4_readNumber 59 = .ok (.bipush 48, 2) := by decide +kernel
theorem dX4_readNumber_61 : decode cX4_readNumber 61 = .ok (.isub, 1) := by decide +kernel
theorem dX4_readNumber_62 : decode cX4_readNumber 62 = .ok (.istore_n 1, 1) := by decide +kernel
theorem dX4_readNumber_63 : decode cX4_readNumber 63 = .ok (.aload_n 0, 1) := by decide +kernel
theorem dX4_readNumber_64 : decode cX4_readNumber 64 = .ok (.dup, 1) := by decide +kernel
theorem dX4_readNumber_65 : decode cX4_readNumber 65 = .ok (.getfield 25, 3) := by decide +kernel
theorem dX4_readNumber_68 : decode cX4_readNumber 68 = .ok (.iconst 1, 1) := by decide +kernel
theorem dX4_readNumber_69 : decode cX4_readNumber 69 = .ok (.iadd, 1) := by decide +kernel
theorem dX4_readNumber_70 : decode cX4_readNumber 70 = .ok (.putfield 25, 3) := by decide +kernel
theorem dX4_readNumber_73 : decode cX4_readNumber 73 = .ok (.iload_n 1, 1) := by decide +kernel
theorem dX4_readNumber_74 : decode cX4_readNumber 74 = .ok (.ireturn, 1) := by decide +kernel
theorem dX4_take_0 : decode cX4_take 0 = .ok (.aload_n 0, 1) := by decide +kernel
theorem dX4_take_1 : decode cX4_take 1 = .ok (.getfield 34, 3) := by decide +kernel
theorem dX4_take_4 : decode cX4_take 4 = .ok (.ifCond .eq 8, 3) := by decide +kernel
theorem dX4_take_7 : decode cX4_take 7 = .ok (.bipush (-4), 2) := by decide +kernel
theorem dX4_take_9 : decode cX4_take 9 = .ok (.goto 17, 3) := by decide +kernel
theorem dX4_take_12 : decode cX4_take 12 = .ok (.aload_n 0, 1) := by decide +kernel
theorem dX4_take_13 : decode cX4_take 13 = .ok (.getfield 44, 3) := by decide +kernel
theorem dX4_take_16 : decode cX4_take 16 = .ok (.iload_n 1, 1) := by decide +kernel
theorem dX4_take_17 : decode cX4_take 17 = .ok (.iload_n 2, 1) := by decide +kernel
theorem dX4_take_18 : decode cX4_take 18 = .ok (.iload_n 3, 1) := by decide +kernel
theorem dX4_take_19 : decode cX4_take 19 = .ok (.iload 4, 2) := by decide +kernel
theorem dX4_take_21 : decode cX4_take 21 = .ok (.iload 5, 2) := by decide +kernel
theorem dX4_take_23 : decode cX4_take 23 = .ok (.invokevirtual 99, 3) := by decide +kernel
theorem dX4_take_26 : decode cX4_take 26 = .ok (.istore 6, 2) := by decide +kernel
theorem dX4_take_28 : decode cX4_take 28 = .ok (.iload 6, 2) := by decide +kernel
theorem dX4_take_30 : decode cX4_take 30 = .ok (.bipush (-4), 2) := by decide +kernel
theorem dX4_take_32 : decode cX4_take 32 = .ok (.if_icmp .ne 8, 3) := by decide +kernel
theorem dX4_take_35 : decode cX4_take 35 = .ok (.aload_n 0, 1) := by decide +kernel
theorem dX4_take_36 : decode cX4_take 36 = .ok (.iconst 1, 1) := by decide +kernel
theorem dX4_take_37 : decode cX4_take 37 = .ok (.putfield 34, 3) := by decide +kernel
theorem dX4_take_40 : decode cX4_take 40 = .ok (.iload 6, 2) := by decide +kernel
theorem dX4_take_42 : decode cX4_take 42 = .ok (.ireturn, 1) := by decide +kernel
theorem dX5_init_0 : decode cX5_init 0 = .ok (.aload_n 0, 1) := by decide +kernel
theorem dX5_init_1 : decode cX5_init 1 = .ok (.invokespecial 3, 3) := by decide +kernel
theorem dX5_init_4 : decode cX5_init 4 = .ok (.aload_n 0, 1) := by decide +kernel
theorem dX5_init_5 : decode cX5_init 5 = .ok (.bipush 24, 2) := by decide +kernel
theorem dX5_init_7 : decode cX5_init 7 = .ok (.newarray .int, 2) := by decide +kernel
theorem dX5_init_9 : decode cX5_init 9 = .ok (.putfield 9, 3) := by decide +kernel
theorem dX5_init_12 : decode cX5_init 12 = .ok (.aload_n 0, 1) := by decide +kernel
theorem dX5_init_13 : decode cX5_init 13 = .ok (.bipush 24, 2) := by decide +kernel
theorem dX5_init_15 : decode cX5_init 15 = .ok (.newarray .int, 2) := by decide +kernel
theorem dX5_init_17 : decode cX5_init 17 = .ok (.putfield 15, 3) := by decide +kernel
theorem dX5_init_20 : decode cX5_init 20 = .ok (.aload_n 0, 1) := by decide +kernel
theorem dX5_init_21 : decode cX5_init 21 = .ok (.bipush 24, 2) := by decide +kernel
theorem dX5_init_23 : decode cX5_init 23 = .ok (.newarray .int, 2) := by decide +kernel
theorem dX5_init_25 : decode cX5_init 25 = .ok (.putfield 18, 3) := by decide +kernel
theorem dX5_init_28 : decode cX5_init 28 = .ok (.aload_n 0, 1) := by decide +kernel
theorem dX5_init_29 : decode cX5_init 29 = .ok (.bipush 24, 2) := by decide +kernel
theorem dX5_init_31 : decode cX5_init 31 = .ok (.newarray .int, 2) := by decide +kernel
theorem dX5_init_33 : decode cX5_init 33 = .ok (.putfield 21, 3) := by decide +kernel
theorem dX5_init_36 : decode cX5_init 36 = .ok (.aload_n 0, 1) := by decide +kernel
theorem dX5_init_37 : decode cX5_init 37 = .ok (.bipush 24, 2) := by decide +kernel
theorem dX5_init_39 : decode cX5_init 39 = .ok (.newarray .int, 2) := by decide +kernel
theorem dX5_init_41 : decode cX5_init 41 = .ok (.putfield 24, 3) := by decide +kernel
theorem dX5_init_44 : decode cX5_init 44 = .ok (.aload_n 0, 1) := by decide +kernel
theorem dX5_init_45 : decode cX5_init 45 = .ok (.bipush 24, 2) := by decide +kernel
theorem dX5_init_47 : decode cX5_init 47 = .ok (.newarray .int, 2) := by decide +kernel
theorem dX5_init_49 : decode cX5_init 49 = .ok (.putfield 27, 3) := by decide +kernel
theorem dX5_init_52 : decode cX5_init 52 = .ok (.aload_n 0, 1) := by decide +kernel
theorem dX5_init_53 : decode cX5_init 53 = .ok (.bipush 24, 2) := by decide +kernel
theorem dX5_init_55 : decode cX5_init 55 = .ok (.newarray .int, 2) := by decide +kernel
theorem dX5_init_57 : decode cX5_init 57 = .ok (.putfield 30, 3) := by decide +kernel
theorem dX5_init_60 : decode cX5_init 60 = .ok (.aload_n 0, 1) := by decide +kernel
theorem dX5_init_61 : decode cX5_init 61 = .ok (.iconst 0, 1) := by decide +kernel
theorem dX5_init_62 : decode cX5_init 62 = .ok (.putfield 33, 3) := by decide +kernel
theorem dX5_init_65 : decode cX5_init 65 = .ok (.return_, 1) := by decide +kernel
theorem dX5_has_0 : decode cX5_has 0 = .ok (.iload_n 1, 1) := by decide +kernel
theorem dX5_has_1 : decode cX5_has 1 = .ok (.ifCond .lt 15, 3) := by decide +kernel
theorem dX5_has_4 : decode cX5_has 4 = .ok (.iload_n 1, 1) := by decide +kernel
theorem dX5_has_5 : decode cX5_has 5 = .ok (.aload_n 0, 1) := by decide +kernel
theorem dX5_has_6 : decode cX5_has 6 = .ok (.getfield 33, 3) := by decide +kernel
theorem dX5_has_9 : decode cX5_has 9 = .ok (.if_icmp .ge 7, 3) := by decide +kernel
theorem dX5_has_12 : decode cX5_has 12 = .ok (.iconst 1, 1) := by decide +kernel
theorem dX5_has_13 : decode cX5_has 13 = .ok (.goto 4, 3) := by decide +kernel
theorem dX5_has_16 : decode cX5_has 16 = .ok (.iconst 0, 1) := by decide +kernel
theorem dX5_has_17 : decode cX5_has 17 = .ok (.ireturn, 1) := by decide +kernel
theorem dX5_add_0 : decode cX5_add 0 = .ok (.iconst 1, 1) := by decide +kernel
theorem dX5_add_1 : decode cX5_add 1 = .ok (.aload_n 0, 1) := by decide +kernel
theorem dX5_add_2 : decode cX5_add 2 = .ok (.iload 4, 2) := by decide +kernel
theorem dX5_add_4 : decode cX5_add 4 = .ok (.invokevirtual 37, 3) := by decide +kernel
theorem dX5_add_7 : decode cX5_add 7 = .ok (.iadd, 1) := by decide +kernel
theorem dX5_add_8 : decode cX5_add 8 = .ok (.aload_n 0, 1) := by decide +kernel
theorem dX5_add_9 : decode cX5_add 9 = .ok (.iload 5, 2) := by decide +kernel
theorem dX5_add_11 : decode cX5_add 11 = .ok (.invokevirtual 37, 3) := by decide +kernel
theorem dX5_add_14 : decode cX5_add 14 = .ok (.iadd, 1) := by decide +kernel
theorem dX5_add_15 : decode cX5_add 15 = .ok (.istore 6, 2) := by decide +kernel
theorem dX5_add_17 : decode cX5_add 17 = .ok (.aload_n 0, 1) := by decide +kernel
theorem dX5_add_18 : decode cX5_add 18 = .ok (.getfield 33, 3) := by decide +kernel
theorem dX5_add_21 : decode cX5_add 21 = .ok (.bipush 24, 2) := by decide +kernel
theorem dX5_add_23 : decode cX5_add 23 = .ok (.if_icmp .ge 10, 3) := by decide +kernel
theorem dX5_add_26 : decode cX5_add 26 = .ok (.iload 6, 2) := by decide +kernel
theorem dX5_add_28 : decode cX5_add 28 = .ok (.bipush 40, 2) := by decide +kernel
theorem dX5_add_30 : decode cX5_add 30 = .ok (.if_icmp .le 6, 3) := by decide +kernel
theorem dX5_add_33 : decode cX5_add 33 = .ok (.bipush (-4), 2) := by decide +kernel
theorem dX5_add_35 : decode cX5_add 35 = .ok (.ireturn, 1) := by decide +kernel
theorem dX5_add_36 : decode cX5_add 36 = .ok (.aload_n 0, 1) := by decide +kernel
theorem dX5_add_37 : decode cX5_add 37 = .ok (.getfield 9, 3) := by decide +kernel
theorem dX5_add_40 : decode cX5_add 40 = .ok (.aload_n 0, 1) := by decide +kernel
theorem dX5_add_41 : decode cX5_add 41 = .ok (.getfield 33, 3) := by decide +kernel
theorem dX5_add_44 : decode cX5_add 44 = .ok (.iload_n 1, 1) := by decide +kernel
theorem dX5_add_45 : decode cX5_add 45 = .ok (.iastore, 1) := by decide +kernel
theorem dX5_add_46 : decode cX5_add 46 = .ok (.aload_n 0, 1) := by decide +kernel
theorem dX5_add_47 : decode cX5_add 47 = .ok (.getfield 15, 3) := by decide +kernel
theorem dX5_add_50 : decode cX5_add 50 = .ok (.aload_n 0, 1) := by decide +kernel
theorem dX5_add_51 : decode cX5_add 51 = .ok (.getfield 33, 3) := by decide +kernel
theorem dX5_add_54 : decode cX5_add 54 = .ok (.iload_n 2, 1) := by decide +kernel
theorem dX5_add_55 : decode cX5_add 55 = .ok (.iastore, 1) := by decide +kernel
theorem dX5_add_56 : decode cX5_add 56 = .ok (.aload_n 0, 1) := by decide +kernel
theorem dX5_add_57 : decode cX5_add 57 = .ok (.getfield 18, 3) := by decide +kernel
theorem dX5_add_60 : decode cX5_add 60 = .ok (.aload_n 0, 1) := by decide +kernel
theorem dX5_add_61 : decode cX5_add 61 = .ok (.getfield 33, 3) := by decide +kernel
theorem dX5_add_64 : decode cX5_add 64 = .ok (.iload_n 3, 1) := by decide +kernel
theorem dX5_add_65 : decode cX5_add 65 = .ok (.iastore, 1) := by decide +kernel
theorem dX5_add_66 : decode cX5_add 66 = .ok (.aload_n 0, 1) := by decide +kernel
theorem dX5_add_67 : decode cX5_add 67 = .ok (.getfield 21, 3) := by decide +kernel
theorem dX5_add_70 : decode cX5_add 70 = .ok (.aload_n 0, 1) := by decide +kernel
theorem dX5_add_71 : decode cX5_add 71 = .ok (.getfield 33, 3) := by decide +kernel
theorem dX5_add_74 : decode cX5_add 74 = .ok (.iload 4, 2) := by decide +kernel
theorem dX5_add_76 : decode cX5_add 76 = .ok (.iastore, 1) := by decide +kernel
theorem dX5_add_77 : decode cX5_add 77 = .ok (.aload_n 0, 1) := by decide +kernel
theorem dX5_add_78 : decode cX5_add 78 = .ok (.getfield 24, 3) := by decide +kernel
theorem dX5_add_81 : decode cX5_add 81 = .ok (.aload_n 0, 1) := by decide +kernel
theorem dX5_add_82 : decode cX5_add 82 = .ok (.getfield 33, 3) := by decide +kernel
theorem dX5_add_85 : decode cX5_add 85 = .ok (.iload 5, 2) := by decide +kernel
theorem dX5_add_87 : decode cX5_add 87 = .ok (.iastore, 1) := by decide +kernel
theorem dX5_add_88 : decode cX5_add 88 = .ok (.aload_n 0, 1) := by decide +kernel
theorem dX5_add_89 : decode cX5_add 89 = .ok (.getfield 27, 3) := by decide +kernel
theorem dX5_add_92 : decode cX5_add 92 = .ok (.aload_n 0, 1) := by decide +kernel
theorem dX5_add_93 : decode cX5_add 93 = .ok (.getfield 33, 3) := by decide +kernel
theorem dX5_add_96 : decode cX5_add 96 = .ok (.iload 6, 2) := by decide +kernel
theorem dX5_add_98 : decode cX5_add 98 = .ok (.iastore, 1) := by decide +kernel
theorem dX5_add_99 : decode cX5_add 99 = .ok (.aload_n 0, 1) := by decide +kernel
theorem dX5_add_100 : decode cX5_add 100 = .ok (.getfield 30, 3) := by decide +kernel
theorem dX5_add_103 : decode cX5_add 103 = .ok (.aload_n 0, 1) := by decide +kernel
theorem dX5_add_104 : decode cX5_add 104 = .ok (.getfield 33, 3) := by decide +kernel
theorem dX5_add_107 : decode cX5_add 107 = .ok (.iconst 1, 1) := by decide +kernel
theorem dX5_add_108 : decode cX5_add 108 = .ok (.aload_n 0, 1) := by decide +kernel
theorem dX5_add_109 : decode cX5_add 109 = .ok (.iload 4, 2) := by decide +kernel
theorem dX5_add_111 : decode cX5_add 111 = .ok (.invokevirtual 41, 3) := by decide +kernel
theorem dX5_add_114 : decode cX5_add 114 = .ok (.aload_n 0, 1) := by decide +kernel
theorem dX5_add_115 : decode cX5_add 115 = .ok (.iload 5, 2) := by decide +kernel
theorem dX5_add_117 : decode cX5_add 117 = .ok (.invokevirtual 41, 3) := by decide +kernel
theorem dX5_add_120 : decode cX5_add 120 = .ok (.invokestatic 44, 3) := by decide +kernel
theorem dX5_add_123 : decode cX5_add 123 = .ok (.iadd, 1) := by decide +kernel
theorem dX5_add_124 : decode cX5_add 124 = .ok (.iastore, 1) := by decide +kernel
theorem dX5_add_125 : decode cX5_add 125 = .ok (.aload_n 0, 1) := by decide +kernel
theorem dX5_add_126 : decode cX5_add 126 = .ok (.dup, 1) := by decide +kernel
theorem dX5_add_127 : decode cX5_add 127 = .ok (.getfield 33, 3) := by decide +kernel
theorem dX5_add_130 : decode cX5_add 130 = .ok (.iconst 1, 1) := by decide +kernel
theorem dX5_add_131 : decode cX5_add 131 = .ok (.iadd, 1) := by decide +kernel
theorem dX5_add_132 : decode cX5_add 132 = .ok (.putfield 33, 3) := by decide +kernel
theorem dX5_add_135 : decode cX5_add 135 = .ok (.aload_n 0, 1) := by decide +kernel
theorem dX5_add_136 : decode cX5_add 136 = .ok (.getfield 33, 3) := by decide +kernel
theorem dX5_add_139 : decode cX5_add 139 = .ok (.iconst 1, 1) := by decide +kernel
theorem dX5_add_140 : decode cX5_add 140 = .ok (.isub, 1) := by decide +kernel
theorem dX5_add_141 : decode cX5_add 141 = .ok (.ireturn, 1) := by decide +kernel
theorem dX5_sizeOf_0 : decode cX5_sizeOf 0 = .ok (.aload_n 0, 1) := by decide +kernel
theorem dX5_sizeOf_1 : decode cX5_sizeOf 1 = .ok (.iload_n 1, 1) := by decide +kernel
theorem dX5_sizeOf_2 : decode cX5_sizeOf 2 = .ok (.invokevirtual 50, 3) := by decide +kernel
theorem dX5_sizeOf_5 : decode cX5_sizeOf 5 = .ok (.ifCond .eq 12, 3) := by decide +kernel
theorem dX5_sizeOf_8 : decode cX5_sizeOf 8 = .ok (.aload_n 0, 1) := by decide +kernel
theorem dX5_sizeOf_9 : decode cX5_sizeOf 9 = .ok (.getfield 27, 3) := by decide +kernel
theorem dX5_sizeOf_12 : decode cX5_sizeOf 12 = .ok (.iload_n 1, 1) := by decide +kernel
theorem dX5_sizeOf_13 : decode cX5_sizeOf 13 = .ok (.iaload, 1) := by decide +kernel
theorem dX5_sizeOf_14 : decode cX5_sizeOf 14 = .ok (.goto 4, 3) := by decide +kernel
theorem dX5_sizeOf_17 : decode cX5_sizeOf 17 = .ok (.iconst 0, 1) := by decide +kernel
theorem dX5_sizeOf_18 : decode cX5_sizeOf 18 = .ok (.ireturn, 1) := by decide +kernel
theorem dX5_depthOf_0 : decode cX5_depthOf 0 = .ok (.aload_n 0, 1) := by decide +kernel
theorem dX5_depthOf_1 : decode cX5_depthOf 1 = .ok (.iload_n 1, 1) := by decide +kernel
theorem dX5_depthOf_2 : decode cX5_depthOf 2 = .ok (.invokevirtual 50, 3) := by decide +kernel
theorem dX5_depthOf_5 : decode cX5_depthOf 5 = .ok (.ifCond .eq 12, 3) := by decide +kernel
theorem dX5_depthOf_8 : decode cX5_depthOf 8 = .ok (.aload_n 0, 1) := by decide +kernel
theorem dX5_depthOf_9 : decode cX5_depthOf 9 = .ok (.getfield 30, 3) := by decide +kernel
theorem dX5_depthOf_12 : decode cX5_depthOf 12 = .ok (.iload_n 1, 1) := by decide +kernel
theorem dX5_depthOf_13 : decode cX5_depthOf 13 = .ok (.iaload, 1) := by decide +kernel
theorem dX5_depthOf_14 : decode cX5_depthOf 14 = .ok (.goto 4, 3) := by decide +kernel
theorem dX5_depthOf_17 : decode cX5_depthOf 17 = .ok (.iconst (-1), 1) := by decide +kernel
theorem dX5_depthOf_18 : decode cX5_depthOf 18 = .ok (.ireturn, 1) := by decide +kernel
theorem dX5_cutTo_0 : decode cX5_cutTo 0 = .ok (.iload_n 1, 1) := by decide +kernel
theorem dX5_cutTo_1 : decode cX5_cutTo 1 = .ok (.ifCond .lt 16, 3) := by decide +kernel
theorem dX5_cutTo_4 : decode cX5_cutTo 4 = .ok (.iload_n 1, 1) := by decide +kernel
theorem dX5_cutTo_5 : decode cX5_cutTo 5 = .ok (.aload_n 0, 1) := by decide +kernel
theorem dX5_cutTo_6 : decode cX5_cutTo 6 = .ok (.getfield 33, 3) := by decide +kernel
theorem dX5_cutTo_9 : decode cX5_cutTo 9 = .ok (.if_icmp .ge 8, 3) := by decide +kernel
theorem dX5_cutTo_12 : decode cX5_cutTo 12 = .ok (.aload_n 0, 1) := by decide +kernel
theorem dX5_cutTo_13 : decode cX5_cutTo 13 = .ok (.iload_n 1, 1) := by decide +kernel
theorem dX5_cutTo_14 : decode cX5_cutTo 14 = .ok (.putfield 33, 3) := by decide +kernel
theorem dX5_cutTo_17 : decode cX5_cutTo 17 = .ok (.return_, 1) := by decide +kernel
theorem dX5_countOf_0 : decode cX5_countOf 0 = .ok (.iconst 0, 1) := by decide +kernel
theorem dX5_countOf_1 : decode cX5_countOf 1 = .ok (.istore_n 2, 1) := by decide +kernel
theorem dX5_countOf_2 : decode cX5_countOf 2 = .ok (.iconst 0, 1) := by decide +kernel
theorem dX5_countOf_3 : decode cX5_countOf 3 = .ok (.istore_n 3, 1) := by decide +kernel
theorem dX5_countOf_4 : decode cX5_countOf 4 = .ok (.iload_n 3, 1) := by decide +kernel
theorem dX5_countOf_5 : decode cX5_countOf 5 = .ok (.aload_n 0, 1) := by decide +kernel
theorem dX5_countOf_6 : decode cX5_countOf 6 = .ok (.getfield 33, 3) := by decide +kernel
theorem dX5_countOf_9 : decode cX5_countOf 9 = .ok (.if_icmp .ge 22, 3) := by decide +kernel
theorem dX5_countOf_12 : decode cX5_countOf 12 = .ok (.aload_n 0, 1) := by decide +kernel
theorem dX5_countOf_13 : decode cX5_countOf 13 = .ok (.getfield 9, 3) := by decide +kernel
theorem dX5_countOf_16 : decode cX5_countOf 16 = .ok (.iload_n 3, 1) := by decide +kernel
theorem dX5_countOf_17 : decode cX5_countOf 17 = .ok (.iaload, 1) := by decide +kernel
theorem dX5_countOf_18 : decode cX5_countOf 18 = .ok (.iload_n 1, 1) := by decide +kernel
theorem dX5_countOf_19 : decode cX5_countOf 19 = .ok (.if_icmp .ne 6, 3) := by decide +kernel
theorem dX5_countOf_22 : decode cX5_countOf 22 = .ok (.iinc 2 1, 3) := by decide +kernel
theorem dX5_countOf_25 : decode cX5_countOf 25 = .ok (.iinc 3 1, 3) := by decide +kernel
theorem dX5_countOf_28 : decode cX5_countOf 28 = .ok (.goto (-24), 3) := by decide +kernel
theorem dX5_countOf_31 : decode cX5_countOf 31 = .ok (.iload_n 2, 1) := by decide +kernel
theorem dX5_countOf_32 : decode cX5_countOf 32 = .ok (.ireturn, 1) := by decide +kernel
theorem dX5_greatestSize_0 : decode cX5_greatestSize 0 = .ok (.iconst 0, 1) := by decide +kernel
theorem dX5_greatestSize_1 : decode cX5_greatestSize 1 = .ok (.istore_n 1, 1) := by decide +kernel
theorem dX5_greatestSize_2 : decode cX5_greatestSize 2 = .ok (.iconst 0, 1) := by decide +kernel
theorem dX5_greatestSize_3 : decode cX5_greatestSize 3 = .ok (.istore_n 2, 1) := by decide +kernel
theorem dX5_greatestSize_4 : decode cX5_greatestSize 4 = .ok (.iload_n 2, 1) := by decide +kernel
theorem dX5_greatestSize_5 : decode cX5_greatestSize 5 = .ok (.aload_n 0, 1) := by decide +kernel
theorem dX5_greatestSize_6 : decode cX5_greatestSize 6 = .ok (.getfield 33, 3) := by decide +kernel
theorem dX5_greatestSize_9 : decode cX5_greatestSize 9 = .ok (.if_icmp .ge 20, 3) := by decide +kernel
theorem dX5_greatestSize_12 : decode cX5_greatestSize 12 = .ok (.iload_n 1, 1) := by decide +kernel
theorem dX5_greatestSize_13 : decode cX5_greatestSize 13 = .ok (.aload_n 0, 1) := by decide +kernel
theorem dX5_greatestSize_14 : decode cX5_greatestSize 14 = .ok (.getfield 27, 3) := by decide +kernel
theorem dX5_greatestSize_17 : decode cX5_greatestSize 17 = .ok (.iload_n 2, 1) := by decide +kernel
theorem dX5_greatestSize_18 : decode cX5_greatestSize 18 = .ok (.iaload, 1) := by decide +kernel
theorem dX5_greatestSize_19 : decode cX5_greatestSize 19 = .ok (.invokestatic 44, 3) := by decide +kernel
theorem dX5_greatestSize_22 : decode cX5_greatestSize 22 = .ok (.istore_n 1, 1) := by decide +kernel
theorem dX5_greatestSize_23 : decode cX5_greatestSize 23 = .ok (.iinc 2 1, 3) := by decide +kernel
theorem dX5_greatestSize_26 : decode cX5_greatestSize 26 = .ok (.goto (-22), 3) := by decide +kernel
theorem dX5_greatestSize_29 : decode cX5_greatestSize 29 = .ok (.iload_n 1, 1) := by decide +kernel
theorem dX5_greatestSize_30 : decode cX5_greatestSize 30 = .ok (.ireturn, 1) := by decide +kernel
theorem dX5_copyFrom_0 : decode cX5_copyFrom 0 = .ok (.aload_n 0, 1) := by decide +kernel
theorem dX5_copyFrom_1 : decode cX5_copyFrom 1 = .ok (.aload_n 1, 1) := by decide +kernel
theorem dX5_copyFrom_2 : decode cX5_copyFrom 2 = .ok (.getfield 33, 3) := by decide +kernel
theorem dX5_copyFrom_5 : decode cX5_copyFrom 5 = .ok (.putfield 33, 3) := by decide +kernel
theorem dX5_copyFrom_8 : decode cX5_copyFrom 8 = .ok (.iconst 0, 1) := by decide +kernel
theorem dX5_copyFrom_9 : decode cX5_copyFrom 9 = .ok (.istore_n 2, 1) := by decide +kernel
theorem dX5_copyFrom_10 : decode cX5_copyFrom 10 = .ok (.iload_n 2, 1) := by decide +kernel
theorem dX5_copyFrom_11 : decode cX5_copyFrom 11 = .ok (.aload_n 0, 1) := by decide +kernel
theorem dX5_copyFrom_12 : decode cX5_copyFrom 12 = .ok (.getfield 33, 3) := by decide +kernel
theorem dX5_copyFrom_15 : decode cX5_copyFrom 15 = .ok (.if_icmp .ge 93, 3) := by decide +kernel
theorem dX5_copyFrom_18 : decode cX5_copyFrom 18 = .ok (.aload_n 0, 1) := by decide +kernel
theorem dX5_copyFrom_19 : decode cX5_copyFrom 19 = .ok (.getfield 9, 3) := by decide +kernel
theorem dX5_copyFrom_22 : decode cX5_copyFrom 22 = .ok (.iload_n 2, 1) := by decide +kernel
theorem dX5_copyFrom_23 : decode cX5_copyFrom 23 = .ok (.aload_n 1, 1) := by decide +kernel
theorem dX5_copyFrom_24 : decode cX5_copyFrom 24 = .ok (.getfield 9, 3) := by decide +kernel
theorem dX5_copyFrom_27 : decode cX5_copyFrom 27 = .ok (.iload_n 2, 1) := by decide +kernel
theorem dX5_copyFrom_28 : decode cX5_copyFrom 28 = .ok (.iaload, 1) := by decide +kernel
theorem dX5_copyFrom_29 : decode cX5_copyFrom 29 = .ok (.iastore, 1) := by decide +kernel
theorem dX5_copyFrom_30 : decode cX5_copyFrom 30 = .ok (.aload_n 0, 1) := by decide +kernel
theorem dX5_copyFrom_31 : decode cX5_copyFrom 31 = .ok (.getfield 15, 3) := by decide +kernel
theorem dX5_copyFrom_34 : decode cX5_copyFrom 34 = .ok (.iload_n 2, 1) := by decide +kernel
theorem dX5_copyFrom_35 : decode cX5_copyFrom 35 = .ok (.aload_n 1, 1) := by decide +kernel
theorem dX5_copyFrom_36 : decode cX5_copyFrom 36 = .ok (.getfield 15, 3) := by decide +kernel
theorem dX5_copyFrom_39 : decode cX5_copyFrom 39 = .ok (.iload_n 2, 1) := by decide +kernel
theorem dX5_copyFrom_40 : decode cX5_copyFrom 40 = .ok (.iaload, 1) := by decide +kernel
theorem dX5_copyFrom_41 : decode cX5_copyFrom 41 = .ok (.iastore, 1) := by decide +kernel
theorem dX5_copyFrom_42 : decode cX5_copyFrom 42 = .ok (.aload_n 0, 1) := by decide +kernel
theorem dX5_copyFrom_43 : decode cX5_copyFrom 43 = .ok (.getfield 18, 3) := by decide +kernel
theorem dX5_copyFrom_46 : decode cX5_copyFrom 46 = .ok (.iload_n 2, 1) := by decide +kernel
theorem dX5_copyFrom_47 : decode cX5_copyFrom 47 = .ok (.aload_n 1, 1) := by decide +kernel
theorem dX5_copyFrom_48 : decode cX5_copyFrom 48 = .ok (.getfield 18, 3) := by decide +kernel
theorem dX5_copyFrom_51 : decode cX5_copyFrom 51 = .ok (.iload_n 2, 1) := by decide +kernel
theorem dX5_copyFrom_52 : decode cX5_copyFrom 52 = .ok (.iaload, 1) := by decide +kernel
theorem dX5_copyFrom_53 : decode cX5_copyFrom 53 = .ok (.iastore, 1) := by decide +kernel
theorem dX5_copyFrom_54 : decode cX5_copyFrom 54 = .ok (.aload_n 0, 1) := by decide +kernel
theorem dX5_copyFrom_55 : decode cX5_copyFrom 55 = .ok (.getfield 21, 3) := by decide +kernel
theorem dX5_copyFrom_58 : decode cX5_copyFrom 58 = .ok (.iload_n 2, 1) := by decide +kernel
theorem dX5_copyFrom_59 : decode cX5_copyFrom 59 = .ok (.aload_n 1, 1) := by decide +kernel
theorem dX5_copyFrom_60 : decode cX5_copyFrom 60 = .ok (.getfield 21, 3) := by decide +kernel
theorem dX5_copyFrom_63 : decode cX5_copyFrom 63 = .ok (.iload_n 2, 1) := by decide +kernel
theorem dX5_copyFrom_64 : decode cX5_copyFrom 64 = .ok (.iaload, 1) := by decide +kernel
theorem dX5_copyFrom_65 : decode cX5_copyFrom 65 = .ok (.iastore, 1) := by decide +kernel
theorem dX5_copyFrom_66 : decode cX5_copyFrom 66 = .ok (.aload_n 0, 1) := by decide +kernel
theorem dX5_copyFrom_67 : decode cX5_copyFrom 67 = .ok (.getfield 24, 3) := by decide +kernel
theorem dX5_copyFrom_70 : decode cX5_copyFrom 70 = .ok (.iload_n 2, 1) := by decide +kernel
theorem dX5_copyFrom_71 : decode cX5_copyFrom 71 = .ok (.aload_n 1, 1) := by decide +kernel
theorem dX5_copyFrom_72 : decode cX5_copyFrom 72 = .ok (.getfield 24, 3) := by decide +kernel
theorem dX5_copyFrom_75 : decode cX5_copyFrom 75 = .ok (.iload_n 2, 1) := by decide +kernel
theorem dX5_copyFrom_76 : decode cX5_copyFrom 76 = .ok (.iaload, 1) := by decide +kernel
theorem dX5_copyFrom_77 : decode cX5_copyFrom 77 = .ok (.iastore, 1) := by decide +kernel
theorem dX5_copyFrom_78 : decode cX5_copyFrom 78 = .ok (.aload_n 0, 1) := by decide +kernel
theorem dX5_copyFrom_79 : decode cX5_copyFrom 79 = .ok (.getfield 27, 3) := by decide +kernel
theorem dX5_copyFrom_82 : decode cX5_copyFrom 82 = .ok (.iload_n 2, 1) := by decide +kernel
theorem dX5_copyFrom_83 : decode cX5_copyFrom 83 = .ok (.aload_n 1, 1) := by decide +kernel
theorem dX5_copyFrom_84 : decode cX5_copyFrom 84 = .ok (.getfield 27, 3) := by decide +kernel
theorem dX5_copyFrom_87 : decode cX5_copyFrom 87 = .ok (.iload_n 2, 1) := by decide +kernel
theorem dX5_copyFrom_88 : decode cX5_copyFrom 88 = .ok (.iaload, 1) := by decide +kernel
theorem dX5_copyFrom_89 : decode cX5_copyFrom 89 = .ok (.iastore, 1) := by decide +kernel
theorem dX5_copyFrom_90 : decode cX5_copyFrom 90 = .ok (.aload_n 0, 1) := by decide +kernel
theorem dX5_copyFrom_91 : decode cX5_copyFrom 91 = .ok (.getfield 30, 3) := by decide +kernel
theorem dX5_copyFrom_94 : decode cX5_copyFrom 94 = .ok (.iload_n 2, 1) := by decide +kernel
theorem dX5_copyFrom_95 : decode cX5_copyFrom 95 = .ok (.aload_n 1, 1) := by decide +kernel
theorem dX5_copyFrom_96 : decode cX5_copyFrom 96 = .ok (.getfield 30, 3) := by decide +kernel
theorem dX5_copyFrom_99 : decode cX5_copyFrom 99 = .ok (.iload_n 2, 1) := by decide +kernel
theorem dX5_copyFrom_100 : decode cX5_copyFrom 100 = .ok (.iaload, 1) := by decide +kernel
theorem dX5_copyFrom_101 : decode cX5_copyFrom 101 = .ok (.iastore, 1) := by decide +kernel
theorem dX5_copyFrom_102 : decode cX5_copyFrom 102 = .ok (.iinc 2 1, 3) := by decide +kernel
theorem dX5_copyFrom_105 : decode cX5_copyFrom 105 = .ok (.goto (-95), 3) := by decide +kernel
