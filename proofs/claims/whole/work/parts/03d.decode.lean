theorem dX8_spell_12 : decode cX8_spell 12 = .ok (.putfield 172, 3) := by decide +kernel
theorem dX8_spell_15 : decode cX8_spell 15 = .ok (.aload_n 0, 1) := by decide +kernel
theorem dX8_spell_16 : decode cX8_spell 16 = .ok (.iload_n 1, 1) := by decide +kernel
theorem dX8_spell_17 : decode cX8_spell 17 = .ok (.invokevirtual 185, 3) := by decide +kernel
theorem dX8_spell_20 : decode cX8_spell 20 = .ok (.aload_n 0, 1) := by decide +kernel
theorem dX8_spell_21 : decode cX8_spell 21 = .ok (.getfield 172, 3) := by decide +kernel
theorem dX8_spell_24 : decode cX8_spell 24 = .ok (.ireturn, 1) := by decide +kernel
theorem dX8_paper_0 : decode cX8_paper 0 = .ok (.iload_n 1, 1) := by decide +kernel
theorem dX8_paper_1 : decode cX8_paper 1 = .ok (.iconst 0, 1) := by decide +kernel
theorem dX8_paper_2 : decode cX8_paper 2 = .ok (.aload_n 0, 1) := by decide +kernel
theorem dX8_paper_3 : decode cX8_paper 3 = .ok (.getfield 172, 3) := by decide +kernel
theorem dX8_paper_6 : decode cX8_paper 6 = .ok (.iconst 1, 1) := by decide +kernel
theorem dX8_paper_7 : decode cX8_paper 7 = .ok (.isub, 1) := by decide +kernel
theorem dX8_paper_8 : decode cX8_paper 8 = .ok (.invokestatic 80, 3) := by decide +kernel
theorem dX8_paper_11 : decode cX8_paper 11 = .ok (.ifCond .eq 12, 3) := by decide +kernel
theorem dX8_paper_14 : decode cX8_paper 14 = .ok (.aload_n 0, 1) := by decide +kernel
theorem dX8_paper_15 : decode cX8_paper 15 = .ok (.getfield 65, 3) := by decide +kernel
theorem dX8_paper_18 : decode cX8_paper 18 = .ok (.iload_n 1, 1) := by decide +kernel
theorem dX8_paper_19 : decode cX8_paper 19 = .ok (.iaload, 1) := by decide +kernel
theorem dX8_paper_20 : decode cX8_paper 20 = .ok (.goto 4, 3) := by decide +kernel
theorem dX8_paper_23 : decode cX8_paper 23 = .ok (.iconst (-1), 1) := by decide +kernel
theorem dX8_paper_24 : decode cX8_paper 24 = .ok (.ireturn, 1) := by decide +kernel
theorem dX8_said_0 : decode cX8_said 0 = .ok (.aload_n 0, 1) := by decide +kernel
theorem dX8_said_1 : decode cX8_said 1 = .ok (.getfield 9, 3) := by decide +kernel
theorem dX8_said_4 : decode cX8_said 4 = .ok (.iload_n 1, 1) := by decide +kernel
theorem dX8_said_5 : decode cX8_said 5 = .ok (.iaload, 1) := by decide +kernel
theorem dX8_said_6 : decode cX8_said 6 = .ok (.istore_n 3, 1) := by decide +kernel
theorem dX8_said_7 : decode cX8_said 7 = .ok (.iload_n 3, 1) := by decide +kernel
theorem dX8_said_8 : decode cX8_said 8 = .ok (.iconst 2, 1) := by decide +kernel
theorem dX8_said_9 : decode cX8_said 9 = .ok (.if_icmp .ne 62, 3) := by decide +kernel
theorem dX8_said_12 : decode cX8_said 12 = .ok (.aload_n 0, 1) := by decide +kernel
theorem dX8_said_13 : decode cX8_said 13 = .ok (.getfield 188, 3) := by decide +kernel
theorem dX8_said_16 : decode cX8_said 16 = .ok (.istore 4, 2) := by decide +kernel
theorem dX8_said_18 : decode cX8_said 18 = .ok (.aload_n 0, 1) := by decide +kernel
theorem dX8_said_19 : decode cX8_said 19 = .ok (.dup, 1) := by decide +kernel
theorem dX8_said_20 : decode cX8_said 20 = .ok (.getfield 188, 3) := by decide +kernel
theorem dX8_said_23 : decode cX8_said 23 = .ok (.iconst 1, 1) := by decide +kernel
theorem dX8_said_24 : decode cX8_said 24 = .ok (.iadd, 1) := by decide +kernel
theorem dX8_said_25 : decode cX8_said 25 = .ok (.putfield 188, 3) := by decide +kernel
theorem dX8_said_28 : decode cX8_said 28 = .ok (.aload_n 0, 1) := by decide +kernel
theorem dX8_said_29 : decode cX8_said 29 = .ok (.aload_n 0, 1) := by decide +kernel
theorem dX8_said_30 : decode cX8_said 30 = .ok (.getfield 18, 3) := by decide +kernel
theorem dX8_said_33 : decode cX8_said 33 = .ok (.iload_n 1, 1) := by decide +kernel
theorem dX8_said_34 : decode cX8_said 34 = .ok (.iaload, 1) := by decide +kernel
theorem dX8_said_35 : decode cX8_said 35 = .ok (.iload_n 2, 1) := by decide +kernel
theorem dX8_said_36 : decode cX8_said 36 = .ok (.invokevirtual 191, 3) := by decide +kernel
theorem dX8_said_39 : decode cX8_said 39 = .ok (.istore 5, 2) := by decide +kernel
theorem dX8_said_41 : decode cX8_said 41 = .ok (.iload 4, 2) := by decide +kernel
theorem dX8_said_43 : decode cX8_said 43 = .ok (.aload_n 0, 1) := by decide +kernel
theorem dX8_said_44 : decode cX8_said 44 = .ok (.getfield 194, 3) := by decide +kernel
theorem dX8_said_47 : decode cX8_said 47 = .ok (.if_icmp .eq 16, 3) := by decide +kernel
theorem dX8_said_50 : decode cX8_said 50 = .ok (.iload_n 2, 1) := by decide +kernel
theorem dX8_said_51 : decode cX8_said 51 = .ok (.aload_n 0, 1) := by decide +kernel
theorem dX8_said_52 : decode cX8_said 52 = .ok (.getfield 24, 3) := by decide +kernel
theorem dX8_said_55 : decode cX8_said 55 = .ok (.iload_n 1, 1) := by decide +kernel
theorem dX8_said_56 : decode cX8_said 56 = .ok (.iaload, 1) := by decide +kernel
theorem dX8_said_57 : decode cX8_said 57 = .ok (.invokestatic 197, 3) := by decide +kernel
theorem dX8_said_60 : decode cX8_said 60 = .ok (.ifCond .ne 8, 3) := by decide +kernel
theorem dX8_said_63 : decode cX8_said 63 = .ok (.bipush (-5), 2) := by decide +kernel
theorem dX8_said_65 : decode cX8_said 65 = .ok (.goto 5, 3) := by decide +kernel
theorem dX8_said_68 : decode cX8_said 68 = .ok (.iload 5, 2) := by decide +kernel
theorem dX8_said_70 : decode cX8_said 70 = .ok (.ireturn, 1) := by decide +kernel
theorem dX8_said_71 : decode cX8_said 71 = .ok (.iload_n 3, 1) := by decide +kernel
theorem dX8_said_72 : decode cX8_said 72 = .ok (.ifCond .ne 25, 3) := by decide +kernel
theorem dX8_said_75 : decode cX8_said 75 = .ok (.iload_n 1, 1) := by decide +kernel
theorem dX8_said_76 : decode cX8_said 76 = .ok (.aload_n 0, 1) := by decide +kernel
theorem dX8_said_77 : decode cX8_said 77 = .ok (.getfield 52, 3) := by decide +kernel
theorem dX8_said_80 : decode cX8_said 80 = .ok (.if_icmp .ne 10, 3) := by decide +kernel
theorem dX8_said_83 : decode cX8_said 83 = .ok (.aload_n 0, 1) := by decide +kernel
theorem dX8_said_84 : decode cX8_said 84 = .ok (.getfield 201, 3) := by decide +kernel
theorem dX8_said_87 : decode cX8_said 87 = .ok (.goto 9, 3) := by decide +kernel
theorem dX8_said_90 : decode cX8_said 90 = .ok (.aload_n 0, 1) := by decide +kernel
theorem dX8_said_91 : decode cX8_said 91 = .ok (.getfield 15, 3) := by decide +kernel
theorem dX8_said_94 : decode cX8_said 94 = .ok (.iload_n 1, 1) := by decide +kernel
theorem dX8_said_95 : decode cX8_said 95 = .ok (.iaload, 1) := by decide +kernel
theorem dX8_said_96 : decode cX8_said 96 = .ok (.ireturn, 1) := by decide +kernel
theorem dX8_said_97 : decode cX8_said 97 = .ok (.iload_n 3, 1) := by decide +kernel
theorem dX8_said_98 : decode cX8_said 98 = .ok (.iconst 1, 1) := by decide +kernel
theorem dX8_said_99 : decode cX8_said 99 = .ok (.if_icmp .ne 6, 3) := by decide +kernel
theorem dX8_said_102 : decode cX8_said 102 = .ok (.bipush (-5), 2) := by decide +kernel
theorem dX8_said_104 : decode cX8_said 104 = .ok (.ireturn, 1) := by decide +kernel
theorem dX8_said_105 : decode cX8_said 105 = .ok (.aload_n 0, 1) := by decide +kernel
theorem dX8_said_106 : decode cX8_said 106 = .ok (.aload_n 0, 1) := by decide +kernel
theorem dX8_said_107 : decode cX8_said 107 = .ok (.getfield 18, 3) := by decide +kernel
theorem dX8_said_110 : decode cX8_said 110 = .ok (.iload_n 1, 1) := by decide +kernel
theorem dX8_said_111 : decode cX8_said 111 = .ok (.iaload, 1) := by decide +kernel
theorem dX8_said_112 : decode cX8_said 112 = .ok (.iload_n 2, 1) := by decide +kernel
theorem dX8_said_113 : decode cX8_said 113 = .ok (.invokevirtual 191, 3) := by decide +kernel
theorem dX8_said_116 : decode cX8_said 116 = .ok (.istore 4, 2) := by decide +kernel
theorem dX8_said_118 : decode cX8_said 118 = .ok (.iload_n 3, 1) := by decide +kernel
theorem dX8_said_119 : decode cX8_said 119 = .ok (.bipush 6, 2) := by decide +kernel
theorem dX8_said_121 : decode cX8_said 121 = .ok (.if_icmp .ne 39, 3) := by decide +kernel
theorem dX8_said_124 : decode cX8_said 124 = .ok (.iload 4, 2) := by decide +kernel
theorem dX8_said_126 : decode cX8_said 126 = .ok (.aload_n 0, 1) := by decide +kernel
theorem dX8_said_127 : decode cX8_said 127 = .ok (.getfield 15, 3) := by decide +kernel
theorem dX8_said_130 : decode cX8_said 130 = .ok (.iload_n 1, 1) := by decide +kernel
theorem dX8_said_131 : decode cX8_said 131 = .ok (.iaload, 1) := by decide +kernel
theorem dX8_said_132 : decode cX8_said 132 = .ok (.if_icmp .le 25, 3) := by decide +kernel
theorem dX8_said_135 : decode cX8_said 135 = .ok (.iload_n 2, 1) := by decide +kernel
theorem dX8_said_136 : decode cX8_said 136 = .ok (.aload_n 0, 1) := by decide +kernel
theorem dX8_said_137 : decode cX8_said 137 = .ok (.getfield 24, 3) := by decide +kernel
theorem dX8_said_140 : decode cX8_said 140 = .ok (.iload_n 1, 1) := by decide +kernel
theorem dX8_said_141 : decode cX8_said 141 = .ok (.iaload, 1) := by decide +kernel
theorem dX8_said_142 : decode cX8_said 142 = .ok (.invokestatic 197, 3) := by decide +kernel
theorem dX8_said_145 : decode cX8_said 145 = .ok (.ifCond .eq 12, 3) := by decide +kernel
theorem dX8_said_148 : decode cX8_said 148 = .ok (.aload_n 0, 1) := by decide +kernel
theorem dX8_said_149 : decode cX8_said 149 = .ok (.getfield 15, 3) := by decide +kernel
theorem dX8_said_152 : decode cX8_said 152 = .ok (.iload_n 1, 1) := by decide +kernel
theorem dX8_said_153 : decode cX8_said 153 = .ok (.iaload, 1) := by decide +kernel
theorem dX8_said_154 : decode cX8_said 154 = .ok (.goto 5, 3) := by decide +kernel
theorem dX8_said_157 : decode cX8_said 157 = .ok (.iload 4, 2) := by decide +kernel
theorem dX8_said_159 : decode cX8_said 159 = .ok (.ireturn, 1) := by decide +kernel
theorem dX8_said_160 : decode cX8_said 160 = .ok (.aload_n 0, 1) := by decide +kernel
theorem dX8_said_161 : decode cX8_said 161 = .ok (.aload_n 0, 1) := by decide +kernel
theorem dX8_said_162 : decode cX8_said 162 = .ok (.getfield 21, 3) := by decide +kernel
theorem dX8_said_165 : decode cX8_said 165 = .ok (.iload_n 1, 1) := by decide +kernel
theorem dX8_said_166 : decode cX8_said 166 = .ok (.iaload, 1) := by decide +kernel
theorem dX8_said_167 : decode cX8_said 167 = .ok (.iload_n 2, 1) := by decide +kernel
theorem dX8_said_168 : decode cX8_said 168 = .ok (.invokevirtual 191, 3) := by decide +kernel
theorem dX8_said_171 : decode cX8_said 171 = .ok (.istore 5, 2) := by decide +kernel
theorem dX8_said_173 : decode cX8_said 173 = .ok (.iload_n 3, 1) := by decide +kernel
theorem dX8_said_174 : decode cX8_said 174 = .ok (.iconst 3, 1) := by decide +kernel
theorem dX8_said_175 : decode cX8_said 175 = .ok (.if_icmp .ne 18, 3) := by decide +kernel
theorem dX8_said_178 : decode cX8_said 178 = .ok (.iload 4, 2) := by decide +kernel
theorem dX8_said_180 : decode cX8_said 180 = .ok (.bipush (-5), 2) := by decide +kernel
theorem dX8_said_182 : decode cX8_said 182 = .ok (.if_icmp .ne 8, 3) := by decide +kernel
theorem dX8_said_185 : decode cX8_said 185 = .ok (.iload 5, 2) := by decide +kernel
theorem dX8_said_187 : decode cX8_said 187 = .ok (.goto 5, 3) := by decide +kernel
theorem dX8_said_190 : decode cX8_said 190 = .ok (.iload 4, 2) := by decide +kernel
theorem dX8_said_192 : decode cX8_said 192 = .ok (.ireturn, 1) := by decide +kernel
theorem dX8_said_193 : decode cX8_said 193 = .ok (.iload_n 3, 1) := by decide +kernel
theorem dX8_said_194 : decode cX8_said 194 = .ok (.bipush 7, 2) := by decide +kernel
theorem dX8_said_196 : decode cX8_said 196 = .ok (.if_icmp .ne 18, 3) := by decide +kernel
theorem dX8_said_199 : decode cX8_said 199 = .ok (.iload 5, 2) := by decide +kernel
theorem dX8_said_201 : decode cX8_said 201 = .ok (.bipush (-5), 2) := by decide +kernel
theorem dX8_said_203 : decode cX8_said 203 = .ok (.if_icmp .ne 8, 3) := by decide +kernel
theorem dX8_said_206 : decode cX8_said 206 = .ok (.iload 4, 2) := by decide +kernel
theorem dX8_said_208 : decode cX8_said 208 = .ok (.goto 5, 3) := by decide +kernel
theorem dX8_said_211 : decode cX8_said 211 = .ok (.bipush (-5), 2) := by decide +kernel
theorem dX8_said_213 : decode cX8_said 213 = .ok (.ireturn, 1) := by decide +kernel
theorem dX8_said_214 : decode cX8_said 214 = .ok (.iload 4, 2) := by decide +kernel
theorem dX8_said_216 : decode cX8_said 216 = .ok (.bipush (-5), 2) := by decide +kernel
theorem dX8_said_218 : decode cX8_said 218 = .ok (.if_icmp .eq 10, 3) := by decide +kernel
theorem dX8_said_221 : decode cX8_said 221 = .ok (.iload 5, 2) := by decide +kernel
theorem dX8_said_223 : decode cX8_said 223 = .ok (.bipush (-5), 2) := by decide +kernel
theorem dX8_said_225 : decode cX8_said 225 = .ok (.if_icmp .ne 18, 3) := by decide +kernel
theorem dX8_said_228 : decode cX8_said 228 = .ok (.iload 4, 2) := by decide +kernel
theorem dX8_said_230 : decode cX8_said 230 = .ok (.bipush (-5), 2) := by decide +kernel
theorem dX8_said_232 : decode cX8_said 232 = .ok (.if_icmp .ne 8, 3) := by decide +kernel
theorem dX8_said_235 : decode cX8_said 235 = .ok (.iload 5, 2) := by decide +kernel
theorem dX8_said_237 : decode cX8_said 237 = .ok (.goto 5, 3) := by decide +kernel
theorem dX8_said_240 : decode cX8_said 240 = .ok (.iload 4, 2) := by decide +kernel
theorem dX8_said_242 : decode cX8_said 242 = .ok (.ireturn, 1) := by decide +kernel
theorem dX8_said_243 : decode cX8_said 243 = .ok (.iload_n 3, 1) := by decide +kernel
theorem dX8_said_244 : decode cX8_said 244 = .ok (.iconst 4, 1) := by decide +kernel
theorem dX8_said_245 : decode cX8_said 245 = .ok (.if_icmp .ne 16, 3) := by decide +kernel
theorem dX8_said_248 : decode cX8_said 248 = .ok (.bipush 99, 2) := by decide +kernel
theorem dX8_said_250 : decode cX8_said 250 = .ok (.iload 4, 2) := by decide +kernel
theorem dX8_said_252 : decode cX8_said 252 = .ok (.iload 5, 2) := by decide +kernel
theorem dX8_said_254 : decode cX8_said 254 = .ok (.iadd, 1) := by decide +kernel
theorem dX8_said_255 : decode cX8_said 255 = .ok (.invokestatic 204, 3) := by decide +kernel
theorem dX8_said_258 : decode cX8_said 258 = .ok (.goto 10, 3) := by decide +kernel
theorem dX8_said_261 : decode cX8_said 261 = .ok (.iload 4, 2) := by decide +kernel
theorem dX8_said_263 : decode cX8_said 263 = .ok (.iload 5, 2) := by decide +kernel
theorem dX8_said_265 : decode cX8_said 265 = .ok (.invokestatic 204, 3) := by decide +kernel
theorem dX8_said_268 : decode cX8_said 268 = .ok (.ireturn, 1) := by decide +kernel
theorem dX8_sayOf_0 : decode cX8_sayOf 0 = .ok (.aload_n 0, 1) := by decide +kernel
theorem dX8_sayOf_1 : decode cX8_sayOf 1 = .ok (.iconst 0, 1) := by decide +kernel
theorem dX8_sayOf_2 : decode cX8_sayOf 2 = .ok (.putfield 188, 3) := by decide +kernel
theorem dX8_sayOf_5 : decode cX8_sayOf 5 = .ok (.aload_n 0, 1) := by decide +kernel
theorem dX8_sayOf_6 : decode cX8_sayOf 6 = .ok (.iload_n 1, 1) := by decide +kernel
theorem dX8_sayOf_7 : decode cX8_sayOf 7 = .ok (.iload_n 2, 1) := by decide +kernel
theorem dX8_sayOf_8 : decode cX8_sayOf 8 = .ok (.invokevirtual 191, 3) := by decide +kernel
theorem dX8_sayOf_11 : decode cX8_sayOf 11 = .ok (.ireturn, 1) := by decide +kernel
theorem dX8_tells_0 : decode cX8_tells 0 = .ok (.iconst 0, 1) := by decide +kernel
theorem dX8_tells_1 : decode cX8_tells 1 = .ok (.istore_n 3, 1) := by decide +kernel
theorem dX8_tells_2 : decode cX8_tells 2 = .ok (.iload_n 3, 1) := by decide +kernel
theorem dX8_tells_3 : decode cX8_tells 3 = .ok (.sipush 224, 3) := by decide +kernel
theorem dX8_tells_6 : decode cX8_tells 6 = .ok (.if_icmp .ge 18, 3) := by decide +kernel
theorem dX8_tells_9 : decode cX8_tells 9 = .ok (.aload_n 2, 1) := by decide +kernel
theorem dX8_tells_10 : decode cX8_tells 10 = .ok (.iload_n 3, 1) := by decide +kernel
theorem dX8_tells_11 : decode cX8_tells 11 = .ok (.aload_n 0, 1) := by decide +kernel
theorem dX8_tells_12 : decode cX8_tells 12 = .ok (.iload_n 1, 1) := by decide +kernel
theorem dX8_tells_13 : decode cX8_tells 13 = .ok (.iload_n 3, 1) := by decide +kernel
theorem dX8_tells_14 : decode cX8_tells 14 = .ok (.invokevirtual 207, 3) := by decide +kernel
theorem dX8_tells_17 : decode cX8_tells 17 = .ok (.iastore, 1) := by decide +kernel
theorem dX8_tells_18 : decode cX8_tells 18 = .ok (.iinc 3 1, 3) := by decide +kernel
theorem dX8_tells_21 : decode cX8_tells 21 = .ok (.goto (-19), 3) := by decide +kernel
theorem dX8_tells_24 : decode cX8_tells 24 = .ok (.return_, 1) := by decide +kernel
theorem dX8_says_0 : decode cX8_says 0 = .ok (.aload_n 0, 1) := by decide +kernel
theorem dX8_says_1 : decode cX8_says 1 = .ok (.iconst (-1), 1) := by decide +kernel
theorem dX8_says_2 : decode cX8_says 2 = .ok (.putfield 194, 3) := by decide +kernel
theorem dX8_says_5 : decode cX8_says 5 = .ok (.aload_n 0, 1) := by decide +kernel
theorem dX8_says_6 : decode cX8_says 6 = .ok (.iload_n 1, 1) := by decide +kernel
theorem dX8_says_7 : decode cX8_says 7 = .ok (.invokevirtual 109, 3) := by decide +kernel
theorem dX8_says_10 : decode cX8_says 10 = .ok (.ifCond .eq 19, 3) := by decide +kernel
theorem dX8_says_13 : decode cX8_says 13 = .ok (.iload_n 2, 1) := by decide +kernel
theorem dX8_says_14 : decode cX8_says 14 = .ok (.invokestatic 210, 3) := by decide +kernel
theorem dX8_says_17 : decode cX8_says 17 = .ok (.ifCond .eq 12, 3) := by decide +kernel
theorem dX8_says_20 : decode cX8_says 20 = .ok (.aload_n 0, 1) := by decide +kernel
theorem dX8_says_21 : decode cX8_says 21 = .ok (.iload_n 1, 1) := by decide +kernel
theorem dX8_says_22 : decode cX8_says 22 = .ok (.iload_n 2, 1) := by decide +kernel
theorem dX8_says_23 : decode cX8_says 23 = .ok (.invokevirtual 207, 3) := by decide +kernel
theorem dX8_says_26 : decode cX8_says 26 = .ok (.goto 4, 3) := by decide +kernel
theorem dX8_says_29 : decode cX8_says 29 = .ok (.iconst (-1), 1) := by decide +kernel
theorem dX8_says_30 : decode cX8_says 30 = .ok (.ireturn, 1) := by decide +kernel
theorem dX8_sum_0 : decode cX8_sum 0 = .ok (.aload_n 0, 1) := by decide +kernel
theorem dX8_sum_1 : decode cX8_sum 1 = .ok (.iload_n 1, 1) := by decide +kernel
theorem dX8_sum_2 : decode cX8_sum 2 = .ok (.invokevirtual 109, 3) := by decide +kernel
theorem dX8_sum_5 : decode cX8_sum 5 = .ok (.ifCond .eq 12, 3) := by decide +kernel
theorem dX8_sum_8 : decode cX8_sum 8 = .ok (.iload_n 2, 1) := by decide +kernel
theorem dX8_sum_9 : decode cX8_sum 9 = .ok (.iconst 0, 1) := by decide +kernel
theorem dX8_sum_10 : decode cX8_sum 10 = .ok (.iconst 1, 1) := by decide +kernel
theorem dX8_sum_11 : decode cX8_sum 11 = .ok (.invokestatic 80, 3) := by decide +kernel
theorem dX8_sum_14 : decode cX8_sum 14 = .ok (.ifCond .ne 5, 3) := by decide +kernel
theorem dX8_sum_17 : decode cX8_sum 17 = .ok (.iconst (-1), 1) := by decide +kernel
theorem dX8_sum_18 : decode cX8_sum 18 = .ok (.ireturn, 1) := by decide +kernel
theorem dX8_sum_19 : decode cX8_sum 19 = .ok (.aload_n 0, 1) := by decide +kernel
theorem dX8_sum_20 : decode cX8_sum 20 = .ok (.iconst (-1), 1) := by decide +kernel
theorem dX8_sum_21 : decode cX8_sum 21 = .ok (.putfield 194, 3) := by decide +kernel
theorem dX8_sum_24 : decode cX8_sum 24 = .ok (.aload_n 0, 1) := by decide +kernel
theorem dX8_sum_25 : decode cX8_sum 25 = .ok (.iload_n 1, 1) := by decide +kernel
theorem dX8_sum_26 : decode cX8_sum 26 = .ok (.aload_n 0, 1) := by decide +kernel
theorem dX8_sum_27 : decode cX8_sum 27 = .ok (.getfield 39, 3) := by decide +kernel
theorem dX8_sum_30 : decode cX8_sum 30 = .ok (.invokevirtual 213, 3) := by decide +kernel
theorem dX8_sum_33 : decode cX8_sum 33 = .ok (.iconst 0, 1) := by decide +kernel
theorem dX8_sum_34 : decode cX8_sum 34 = .ok (.istore_n 3, 1) := by decide +kernel
theorem dX8_sum_35 : decode cX8_sum 35 = .ok (.iconst 0, 1) := by decide +kernel
theorem dX8_sum_36 : decode cX8_sum 36 = .ok (.istore 4, 2) := by decide +kernel
theorem dX8_sum_38 : decode cX8_sum 38 = .ok (.iload 4, 2) := by decide +kernel
theorem dX8_sum_40 : decode cX8_sum 40 = .ok (.sipush 224, 3) := by decide +kernel
theorem dX8_sum_43 : decode cX8_sum 43 = .ok (.if_icmp .ge 39, 3) := by decide +kernel
theorem dX8_sum_46 : decode cX8_sum 46 = .ok (.aload_n 0, 1) := by decide +kernel
theorem dX8_sum_47 : decode cX8_sum 47 = .ok (.getfield 39, 3) := by decide +kernel
theorem dX8_sum_50 : decode cX8_sum 50 = .ok (.iload 4, 2) := by decide +kernel
theorem dX8_sum_52 : decode cX8_sum 52 = .ok (.iaload, 1) := by decide +kernel
theorem dX8_sum_53 : decode cX8_sum 53 = .ok (.bipush (-5), 2) := by decide +kernel
theorem dX8_sum_55 : decode cX8_sum 55 = .ok (.if_icmp .eq 21, 3) := by decide +kernel
theorem dX8_sum_58 : decode cX8_sum 58 = .ok (.iload_n 3, 1) := by decide +kernel
theorem dX8_sum_59 : decode cX8_sum 59 = .ok (.iload_n 2, 1) := by decide +kernel
theorem dX8_sum_60 : decode cX8_sum 60 = .ok (.ifCond .ne 13, 3) := by decide +kernel
theorem dX8_sum_63 : decode cX8_sum 63 = .ok (.aload_n 0, 1) := by decide +kernel
theorem dX8_sum_64 : decode cX8_sum 64 = .ok (.getfield 39, 3) := by decide +kernel
theorem dX8_sum_67 : decode cX8_sum 67 = .ok (.iload 4, 2) := by decide +kernel
theorem dX8_sum_69 : decode cX8_sum 69 = .ok (.iaload, 1) := by decide +kernel
theorem dX8_sum_70 : decode cX8_sum 70 = .ok (.goto 4, 3) := by decide +kernel
theorem dX8_sum_73 : decode cX8_sum 73 = .ok (.iconst 1, 1) := by decide +kernel
theorem dX8_sum_74 : decode cX8_sum 74 = .ok (.iadd, 1) := by decide +kernel
theorem dX8_sum_75 : decode cX8_sum 75 = .ok (.istore_n 3, 1) := by decide +kernel
theorem dX8_sum_76 : decode cX8_sum 76 = .ok (.iinc 4 1, 3) := by decide +kernel
theorem dX8_sum_79 : decode cX8_sum 79 = .ok (.goto (-41), 3) := by decide +kernel
theorem dX8_sum_82 : decode cX8_sum 82 = .ok (.iload_n 3, 1) := by decide +kernel
theorem dX8_sum_83 : decode cX8_sum 83 = .ok (.ireturn, 1) := by decide +kernel
theorem dX8_odds_0 : decode cX8_odds 0 = .ok (.aload_n 0, 1) := by decide +kernel
theorem dX8_odds_1 : decode cX8_odds 1 = .ok (.iload_n 1, 1) := by decide +kernel
theorem dX8_odds_2 : decode cX8_odds 2 = .ok (.invokevirtual 109, 3) := by decide +kernel
theorem dX8_odds_5 : decode cX8_odds 5 = .ok (.ifCond .eq 12, 3) := by decide +kernel
theorem dX8_odds_8 : decode cX8_odds 8 = .ok (.iload_n 2, 1) := by decide +kernel
theorem dX8_odds_9 : decode cX8_odds 9 = .ok (.iconst 0, 1) := by decide +kernel
theorem dX8_odds_10 : decode cX8_odds 10 = .ok (.iconst 1, 1) := by decide +kernel
theorem dX8_odds_11 : decode cX8_odds 11 = .ok (.invokestatic 80, 3) := by decide +kernel
theorem dX8_odds_14 : decode cX8_odds 14 = .ok (.ifCond .ne 7, 3) := by decide +kernel
theorem dX8_odds_17 : decode cX8_odds 17 = .ok (.ldc2_w 217, 3) := by decide +kernel
theorem dX8_odds_20 : decode cX8_odds 20 = .ok (.lreturn, 1) := by decide +kernel
theorem dX8_odds_21 : decode cX8_odds 21 = .ok (.aload_n 0, 1) := by decide +kernel
theorem dX8_odds_22 : decode cX8_odds 22 = .ok (.iload_n 1, 1) := by decide +kernel
theorem dX8_odds_23 : decode cX8_odds 23 = .ok (.iconst 1, 1) := by decide +kernel
theorem dX8_odds_24 : decode cX8_odds 24 = .ok (.invokevirtual 219, 3) := by decide +kernel
theorem dX8_odds_27 : decode cX8_odds 27 = .ok (.istore_n 3, 1) := by decide +kernel
theorem dX8_odds_28 : decode cX8_odds 28 = .ok (.iload_n 3, 1) := by decide +kernel
theorem dX8_odds_29 : decode cX8_odds 29 = .ok (.istore 4, 2) := by decide +kernel
theorem dX8_odds_31 : decode cX8_odds 31 = .ok (.sipush 224, 3) := by decide +kernel
theorem dX8_odds_34 : decode cX8_odds 34 = .ok (.istore 5, 2) := by decide +kernel
theorem dX8_odds_36 : decode cX8_odds 36 = .ok (.iload 5, 2) := by decide +kernel
theorem dX8_odds_38 : decode cX8_odds 38 = .ok (.ifCond .eq 21, 3) := by decide +kernel
theorem dX8_odds_41 : decode cX8_odds 41 = .ok (.iload 4, 2) := by decide +kernel
theorem dX8_odds_43 : decode cX8_odds 43 = .ok (.iload 5, 2) := by decide +kernel
theorem dX8_odds_45 : decode cX8_odds 45 = .ok (.irem, 1) := by decide +kernel
theorem dX8_odds_46 : decode cX8_odds 46 = .ok (.istore 6, 2) := by decide +kernel
theorem dX8_odds_48 : decode cX8_odds 48 = .ok (.iload 5, 2) := by decide +kernel
theorem dX8_odds_50 : decode cX8_odds 50 = .ok (.istore 4, 2) := by decide +kernel
theorem dX8_odds_52 : decode cX8_odds 52 = .ok (.iload 6, 2) := by decide +kernel
theorem dX8_odds_54 : decode cX8_odds 54 = .ok (.istore 5, 2) := by decide +kernel
theorem dX8_odds_56 : decode cX8_odds 56 = .ok (.goto (-20), 3) := by decide +kernel
theorem dX8_odds_59 : decode cX8_odds 59 = .ok (.iload_n 2, 1) := by decide +kernel
theorem dX8_odds_60 : decode cX8_odds 60 = .ok (.ifCond .ne 11, 3) := by decide +kernel
theorem dX8_odds_63 : decode cX8_odds 63 = .ok (.iload_n 3, 1) := by decide +kernel
theorem dX8_odds_64 : decode cX8_odds 64 = .ok (.iload 4, 2) := by decide +kernel
theorem dX8_odds_66 : decode cX8_odds 66 = .ok (.idiv, 1) := by decide +kernel
theorem dX8_odds_67 : decode cX8_odds 67 = .ok (.i2l, 1) := by decide +kernel
theorem dX8_odds_68 : decode cX8_odds 68 = .ok (.goto 10, 3) := by decide +kernel
theorem dX8_odds_71 : decode cX8_odds 71 = .ok (.sipush 224, 3) := by decide +kernel
theorem dX8_odds_74 : decode cX8_odds 74 = .ok (.iload 4, 2) := by decide +kernel
theorem dX8_odds_76 : decode cX8_odds 76 = .ok (.idiv, 1) := by decide +kernel
theorem dX8_odds_77 : decode cX8_odds 77 = .ok (.i2l, 1) := by decide +kernel
theorem dX8_odds_78 : decode cX8_odds 78 = .ok (.lreturn, 1) := by decide +kernel
theorem dX8_goesWith_0 : decode cX8_goesWith 0 = .ok (.aload_n 0, 1) := by decide +kernel
theorem dX8_goesWith_1 : decode cX8_goesWith 1 = .ok (.getfield 45, 3) := by decide +kernel
theorem dX8_goesWith_4 : decode cX8_goesWith 4 = .ok (.iload_n 1, 1) := by decide +kernel
theorem dX8_goesWith_5 : decode cX8_goesWith 5 = .ok (.baload, 1) := by decide +kernel
theorem dX8_goesWith_6 : decode cX8_goesWith 6 = .ok (.ifCond .ne 37, 3) := by decide +kernel
theorem dX8_goesWith_9 : decode cX8_goesWith 9 = .ok (.aload_n 0, 1) := by decide +kernel
theorem dX8_goesWith_10 : decode cX8_goesWith 10 = .ok (.getfield 39, 3) := by decide +kernel
theorem dX8_goesWith_13 : decode cX8_goesWith 13 = .ok (.iload_n 1, 1) := by decide +kernel
theorem dX8_goesWith_14 : decode cX8_goesWith 14 = .ok (.iaload, 1) := by decide +kernel
theorem dX8_goesWith_15 : decode cX8_goesWith 15 = .ok (.aload_n 0, 1) := by decide +kernel
theorem dX8_goesWith_16 : decode cX8_goesWith 16 = .ok (.getfield 39, 3) := by decide +kernel
theorem dX8_goesWith_19 : decode cX8_goesWith 19 = .ok (.iload_n 2, 1) := by decide +kernel
theorem dX8_goesWith_20 : decode cX8_goesWith 20 = .ok (.iaload, 1) := by decide +kernel
theorem dX8_goesWith_21 : decode cX8_goesWith 21 = .ok (.if_icmp .ne 22, 3) := by decide +kernel
theorem dX8_goesWith_24 : decode cX8_goesWith 24 = .ok (.aload_n 0, 1) := by decide +kernel
theorem dX8_goesWith_25 : decode cX8_goesWith 25 = .ok (.getfield 42, 3) := by decide +kernel
theorem dX8_goesWith_28 : decode cX8_goesWith 28 = .ok (.iload_n 1, 1) := by decide +kernel
theorem dX8_goesWith_29 : decode cX8_goesWith 29 = .ok (.iaload, 1) := by decide +kernel
theorem dX8_goesWith_30 : decode cX8_goesWith 30 = .ok (.aload_n 0, 1) := by decide +kernel
theorem dX8_goesWith_31 : decode cX8_goesWith 31 = .ok (.getfield 42, 3) := by decide +kernel
theorem dX8_goesWith_34 : decode cX8_goesWith 34 = .ok (.iload_n 2, 1) := by decide +kernel
theorem dX8_goesWith_35 : decode cX8_goesWith 35 = .ok (.iaload, 1) := by decide +kernel
theorem dX8_goesWith_36 : decode cX8_goesWith 36 = .ok (.if_icmp .ne 7, 3) := by decide +kernel
theorem dX8_goesWith_39 : decode cX8_goesWith 39 = .ok (.iconst 1, 1) := by decide +kernel
theorem dX8_goesWith_40 : decode cX8_goesWith 40 = .ok (.goto 4, 3) := by decide +kernel
theorem dX8_goesWith_43 : decode cX8_goesWith 43 = .ok (.iconst 0, 1) := by decide +kernel
theorem dX8_goesWith_44 : decode cX8_goesWith 44 = .ok (.ireturn, 1) := by decide +kernel
theorem dX8_all_0 : decode cX8_all 0 = .ok (.iload_n 1, 1) := by decide +kernel
theorem dX8_all_1 : decode cX8_all 1 = .ok (.istore 8, 2) := by decide +kernel
theorem dX8_all_3 : decode cX8_all 3 = .ok (.iload 8, 2) := by decide +kernel
theorem dX8_all_5 : decode cX8_all 5 = .ok (.iload_n 2, 1) := by decide +kernel
theorem dX8_all_6 : decode cX8_all 6 = .ok (.if_icmp .gt 66, 3) := by decide +kernel
theorem dX8_all_9 : decode cX8_all 9 = .ok (.iload_n 3, 1) := by decide +kernel
theorem dX8_all_10 : decode cX8_all 10 = .ok (.istore 9, 2) := by decide +kernel
theorem dX8_all_12 : decode cX8_all 12 = .ok (.iload 9, 2) := by decide +kernel
theorem dX8_all_14 : decode cX8_all 14 = .ok (.iload 4, 2) := by decide +kernel
theorem dX8_all_16 : decode cX8_all 16 = .ok (.if_icmp .gt 50, 3) := by decide +kernel
theorem dX8_all_19 : decode cX8_all 19 = .ok (.iload 5, 2) := by decide +kernel
theorem dX8_all_21 : decode cX8_all 21 = .ok (.istore 10, 2) := by decide +kernel
theorem dX8_all_23 : decode cX8_all 23 = .ok (.iload 10, 2) := by decide +kernel
theorem dX8_all_25 : decode cX8_all 25 = .ok (.iload 6, 2) := by decide +kernel
theorem dX8_all_27 : decode cX8_all 27 = .ok (.if_icmp .gt 33, 3) := by decide +kernel
theorem dX8_all_30 : decode cX8_all 30 = .ok (.aload_n 0, 1) := by decide +kernel
theorem dX8_all_31 : decode cX8_all 31 = .ok (.bipush 28, 2) := by decide +kernel
theorem dX8_all_33 : decode cX8_all 33 = .ok (.iload 8, 2) := by decide +kernel
theorem dX8_all_35 : decode cX8_all 35 = .ok (.imul, 1) := by decide +kernel
theorem dX8_all_36 : decode cX8_all 36 = .ok (.iconst 4, 1) := by decide +kernel
theorem dX8_all_37 : decode cX8_all 37 = .ok (.iload 9, 2) := by decide +kernel
theorem dX8_all_39 : decode cX8_all 39 = .ok (.imul, 1) := by decide +kernel
theorem dX8_all_40 : decode cX8_all 40 = .ok (.iadd, 1) := by decide +kernel
theorem dX8_all_41 : decode cX8_all 41 = .ok (.iload 10, 2) := by decide +kernel
theorem dX8_all_43 : decode cX8_all 43 = .ok (.iadd, 1) := by decide +kernel
theorem dX8_all_44 : decode cX8_all 44 = .ok (.iload 7, 2) := by decide +kernel
theorem dX8_all_46 : decode cX8_all 46 = .ok (.invokevirtual 222, 3) := by decide +kernel
theorem dX8_all_49 : decode cX8_all 49 = .ok (.ifCond .ne 5, 3) := by decide +kernel
theorem dX8_all_52 : decode cX8_all 52 = .ok (.iconst 0, 1) := by decide +kernel
theorem dX8_all_53 : decode cX8_all 53 = .ok (.ireturn, 1) := by decide +kernel
theorem dX8_all_54 : decode cX8_all 54 = .ok (.iinc 10 1, 3) := by decide +kernel
theorem dX8_all_57 : decode cX8_all 57 = .ok (.goto (-34), 3) := by decide +kernel
theorem dX8_all_60 : decode cX8_all 60 = .ok (.iinc 9 1, 3) := by decide +kernel
theorem dX8_all_63 : decode cX8_all 63 = .ok (.goto (-51), 3) := by decide +kernel
theorem dX8_all_66 : decode cX8_all 66 = .ok (.iinc 8 1, 3) := by decide +kernel
theorem dX8_all_69 : decode cX8_all 69 = .ok (.goto (-66), 3) := by decide +kernel
theorem dX8_all_72 : decode cX8_all 72 = .ok (.iconst 1, 1) := by decide +kernel
theorem dX8_all_73 : decode cX8_all 73 = .ok (.ireturn, 1) := by decide +kernel
theorem dX8_packs_0 : decode cX8_packs 0 = .ok (.aload_n 0, 1) := by decide +kernel
theorem dX8_packs_1 : decode cX8_packs 1 = .ok (.iconst 0, 1) := by decide +kernel
theorem dX8_packs_2 : decode cX8_packs 2 = .ok (.putfield 225, 3) := by decide +kernel
theorem dX8_packs_5 : decode cX8_packs 5 = .ok (.iconst 0, 1) := by decide +kernel
theorem dX8_packs_6 : decode cX8_packs 6 = .ok (.istore_n 1, 1) := by decide +kernel
theorem dX8_packs_7 : decode cX8_packs 7 = .ok (.iload_n 1, 1) := by decide +kernel
theorem dX8_packs_8 : decode cX8_packs 8 = .ok (.sipush 224, 3) := by decide +kernel
theorem dX8_packs_11 : decode cX8_packs 11 = .ok (.if_icmp .ge 334, 3) := by decide +kernel
theorem dX8_packs_14 : decode cX8_packs 14 = .ok (.aload_n 0, 1) := by decide +kernel
theorem dX8_packs_15 : decode cX8_packs 15 = .ok (.getfield 45, 3) := by decide +kernel
theorem dX8_packs_18 : decode cX8_packs 18 = .ok (.iload_n 1, 1) := by decide +kernel
theorem dX8_packs_19 : decode cX8_packs 19 = .ok (.baload, 1) := by decide +kernel
theorem dX8_packs_20 : decode cX8_packs 20 = .ok (.ifCond .eq 6, 3) := by decide +kernel
theorem dX8_packs_23 : decode cX8_packs 23 = .ok (.goto 316, 3) := by decide +kernel
theorem dX8_packs_26 : decode cX8_packs 26 = .ok (.iload_n 1, 1) := by decide +kernel
theorem dX8_packs_27 : decode cX8_packs 27 = .ok (.iconst 0, 1) := by decide +kernel
theorem dX8_packs_28 : decode cX8_packs 28 = .ok (.invokestatic 93, 3) := by decide +kernel
theorem dX8_packs_31 : decode cX8_packs 31 = .ok (.istore_n 2, 1) := by decide +kernel
theorem dX8_packs_32 : decode cX8_packs 32 = .ok (.iload_n 1, 1) := by decide +kernel
theorem dX8_packs_33 : decode cX8_packs 33 = .ok (.iconst 1, 1) := by decide +kernel
theorem dX8_packs_34 : decode cX8_packs 34 = .ok (.invokestatic 93, 3) := by decide +kernel
theorem dX8_packs_37 : decode cX8_packs 37 = .ok (.istore_n 3, 1) := by decide +kernel
theorem dX8_packs_38 : decode cX8_packs 38 = .ok (.iload_n 1, 1) := by decide +kernel
theorem dX8_packs_39 : decode cX8_packs 39 = .ok (.iconst 2, 1) := by decide +kernel
theorem dX8_packs_40 : decode cX8_packs 40 = .ok (.invokestatic 93, 3) := by decide +kernel
theorem dX8_packs_43 : decode cX8_packs 43 = .ok (.istore 4, 2) := by decide +kernel
theorem dX8_packs_45 : decode cX8_packs 45 = .ok (.iload_n 2, 1) := by decide +kernel
theorem dX8_packs_46 : decode cX8_packs 46 = .ok (.istore 5, 2) := by decide +kernel
theorem dX8_packs_48 : decode cX8_packs 48 = .ok (.iload_n 3, 1) := by decide +kernel
theorem dX8_packs_49 : decode cX8_packs 49 = .ok (.istore 6, 2) := by decide +kernel
theorem dX8_packs_51 : decode cX8_packs 51 = .ok (.iload 4, 2) := by decide +kernel
theorem dX8_packs_53 : decode cX8_packs 53 = .ok (.istore 7, 2) := by decide +kernel
theorem dX8_packs_55 : decode cX8_packs 55 = .ok (.iload 7, 2) := by decide +kernel
theorem dX8_packs_57 : decode cX8_packs 57 = .ok (.iconst 3, 1) := by decide +kernel
theorem dX8_packs_58 : decode cX8_packs 58 = .ok (.if_icmp .ge 29, 3) := by decide +kernel
theorem dX8_packs_61 : decode cX8_packs 61 = .ok (.aload_n 0, 1) := by decide +kernel
theorem dX8_packs_62 : decode cX8_packs 62 = .ok (.iload_n 2, 1) := by decide +kernel
theorem dX8_packs_63 : decode cX8_packs 63 = .ok (.iload_n 2, 1) := by decide +kernel
theorem dX8_packs_64 : decode cX8_packs 64 = .ok (.iload_n 3, 1) := by decide +kernel
theorem dX8_packs_65 : decode cX8_packs 65 = .ok (.iload_n 3, 1) := by decide +kernel
theorem dX8_packs_66 : decode cX8_packs 66 = .ok (.iload 7, 2) := by decide +kernel
theorem dX8_packs_68 : decode cX8_packs 68 = .ok (.iconst 1, 1) := by decide +kernel
theorem dX8_packs_69 : decode cX8_packs 69 = .ok (.iadd, 1) := by decide +kernel
theorem dX8_packs_70 : decode cX8_packs 70 = .ok (.iload 7, 2) := by decide +kernel
theorem dX8_packs_72 : decode cX8_packs 72 = .ok (.iconst 1, 1) := by decide +kernel
theorem dX8_packs_73 : decode cX8_packs 73 = .ok (.iadd, 1) := by decide +kernel
theorem dX8_packs_74 : decode cX8_packs 74 = .ok (.iload_n 1, 1) := by decide +kernel
theorem dX8_packs_75 : decode cX8_packs 75 = .ok (.invokevirtual 228, 3) := by decide +kernel
theorem dX8_packs_78 : decode cX8_packs 78 = .ok (.ifCond .eq 9, 3) := by decide +kernel
theorem dX8_packs_81 : decode cX8_packs 81 = .ok (.iinc 7 1, 3) := by decide +kernel
theorem dX8_packs_84 : decode cX8_packs 84 = .ok (.goto (-29), 3) := by decide +kernel
theorem dX8_packs_87 : decode cX8_packs 87 = .ok (.iload 6, 2) := by decide +kernel
theorem dX8_packs_89 : decode cX8_packs 89 = .ok (.bipush 6, 2) := by decide +kernel
theorem dX8_packs_91 : decode cX8_packs 91 = .ok (.if_icmp .ge 31, 3) := by decide +kernel
theorem dX8_packs_94 : decode cX8_packs 94 = .ok (.aload_n 0, 1) := by decide +kernel
theorem dX8_packs_95 : decode cX8_packs 95 = .ok (.iload_n 2, 1) := by decide +kernel
theorem dX8_packs_96 : decode cX8_packs 96 = .ok (.iload_n 2, 1) := by decide +kernel
theorem dX8_packs_97 : decode cX8_packs 97 = .ok (.iload 6, 2) := by decide +kernel
theorem dX8_packs_99 : decode cX8_packs 99 = .ok (.iconst 1, 1) := by decide +kernel
theorem dX8_packs_100 : decode cX8_packs 100 = .ok (.iadd, 1) := by decide +kernel
theorem dX8_packs_101 : decode cX8_packs 101 = .ok (.iload 6, 2) := by decide +kernel
theorem dX8_packs_103 : decode cX8_packs 103 = .ok (.iconst 1, 1) := by decide +kernel
theorem dX8_packs_104 : decode cX8_packs 104 = .ok (.iadd, 1) := by decide +kernel
theorem dX8_packs_105 : decode cX8_packs 105 = .ok (.iload 4, 2) := by decide +kernel
theorem dX8_packs_107 : decode cX8_packs 107 = .ok (.iload 7, 2) := by decide +kernel
theorem dX8_packs_109 : decode cX8_packs 109 = .ok (.iload_n 1, 1) := by decide +kernel
theorem dX8_packs_110 : decode cX8_packs 110 = .ok (.invokevirtual 228, 3) := by decide +kernel
theorem dX8_packs_113 : decode cX8_packs 113 = .ok (.ifCond .eq 9, 3) := by decide +kernel
theorem dX8_packs_116 : decode cX8_packs 116 = .ok (.iinc 6 1, 3) := by decide +kernel
theorem dX8_packs_119 : decode cX8_packs 119 = .ok (.goto (-32), 3) := by decide +kernel
theorem dX8_packs_122 : decode cX8_packs 122 = .ok (.iload 5, 2) := by decide +kernel
theorem dX8_packs_124 : decode cX8_packs 124 = .ok (.bipush 7, 2) := by decide +kernel
theorem dX8_packs_126 : decode cX8_packs 126 = .ok (.if_icmp .ge 32, 3) := by decide +kernel
theorem dX8_packs_129 : decode cX8_packs 129 = .ok (.aload_n 0, 1) := by decide +kernel
theorem dX8_packs_130 : decode cX8_packs 130 = .ok (.iload 5, 2) := by decide +kernel
theorem dX8_packs_132 : decode cX8_packs 132 = .ok (.iconst 1, 1) := by decide +kernel
theorem dX8_packs_133 : decode cX8_packs 133 = .ok (.iadd, 1) := by decide +kernel
theorem dX8_packs_134 : decode cX8_packs 134 = .ok (.iload 5, 2) := by decide +kernel
theorem dX8_packs_136 : decode cX8_packs 136 = .ok (.iconst 1, 1) := by decide +kernel
theorem dX8_packs_137 : decode cX8_packs 137 = .ok (.iadd, 1) := by decide +kernel
theorem dX8_packs_138 : decode cX8_packs 138 = .ok (.iload_n 3, 1) := by decide +kernel
theorem dX8_packs_139 : decode cX8_packs 139 = .ok (.iload 6, 2) := by decide +kernel
theorem dX8_packs_141 : decode cX8_packs 141 = .ok (.iload 4, 2) := by decide +kernel
theorem dX8_packs_143 : decode cX8_packs 143 = .ok (.iload 7, 2) := by decide +kernel
theorem dX8_packs_145 : decode cX8_packs 145 = .ok (.iload_n 1, 1) := by decide +kernel
theorem dX8_packs_146 : decode cX8_packs 146 = .ok (.invokevirtual 228, 3) := by decide +kernel
theorem dX8_packs_149 : decode cX8_packs 149 = .ok (.ifCond .eq 9, 3) := by decide +kernel
theorem dX8_packs_152 : decode cX8_packs 152 = .ok (.iinc 5 1, 3) := by decide +kernel
theorem dX8_packs_155 : decode cX8_packs 155 = .ok (.goto (-33), 3) := by decide +kernel
theorem dX8_packs_158 : decode cX8_packs 158 = .ok (.bipush 8, 2) := by decide +kernel
theorem dX8_packs_160 : decode cX8_packs 160 = .ok (.aload_n 0, 1) := by decide +kernel
theorem dX8_packs_161 : decode cX8_packs 161 = .ok (.getfield 225, 3) := by decide +kernel
theorem dX8_packs_164 : decode cX8_packs 164 = .ok (.imul, 1) := by decide +kernel
theorem dX8_packs_165 : decode cX8_packs 165 = .ok (.istore 8, 2) := by decide +kernel
theorem dX8_packs_167 : decode cX8_packs 167 = .ok (.aload_n 0, 1) := by decide +kernel
theorem dX8_packs_168 : decode cX8_packs 168 = .ok (.getfield 49, 3) := by decide +kernel
theorem dX8_packs_171 : decode cX8_packs 171 = .ok (.iload 8, 2) := by decide +kernel
theorem dX8_packs_173 : decode cX8_packs 173 = .ok (.iload_n 2, 1) := by decide +kernel
theorem dX8_packs_174 : decode cX8_packs 174 = .ok (.iastore, 1) := by decide +kernel
theorem dX8_packs_175 : decode cX8_packs 175 = .ok (.aload_n 0, 1) := by decide +kernel
theorem dX8_packs_176 : decode cX8_packs 176 = .ok (.getfield 49, 3) := by decide +kernel
theorem dX8_packs_179 : decode cX8_packs 179 = .ok (.iload 8, 2) := by decide +kernel
theorem dX8_packs_181 : decode cX8_packs 181 = .ok (.iconst 1, 1) := by decide +kernel
theorem dX8_packs_182 : decode cX8_packs 182 = .ok (.iadd, 1) := by decide +kernel
theorem dX8_packs_183 : decode cX8_packs 183 = .ok (.iload 5, 2) := by decide +kernel
theorem dX8_packs_185 : decode cX8_packs 185 = .ok (.iastore, 1) := by decide +kernel
theorem dX8_packs_186 : decode cX8_packs 186 = .ok (.aload_n 0, 1) := by decide +kernel
theorem dX8_packs_187 : decode cX8_packs 187 = .ok (.getfield 49, 3) := by decide +kernel
theorem dX8_packs_190 : decode cX8_packs 190 = .ok (.iload 8, 2) := by decide +kernel
theorem dX8_packs_192 : decode cX8_packs 192 = .ok (.iconst 2, 1) := by decide +kernel
theorem dX8_packs_193 : decode cX8_packs 193 = .ok (.iadd, 1) := by decide +kernel
theorem dX8_packs_194 : decode cX8_packs 194 = .ok (.iload_n 3, 1) := by decide +kernel
theorem dX8_packs_195 : decode cX8_packs 195 = .ok (.iastore, 1) := by decide +kernel
theorem dX8_packs_196 : decode cX8_packs 196 = .ok (.aload_n 0, 1) := by decide +kernel
theorem dX8_packs_197 : decode cX8_packs 197 = .ok (.getfield 49, 3) := by decide +kernel
theorem dX8_packs_200 : decode cX8_packs 200 = .ok (.iload 8, 2) := by decide +kernel
theorem dX8_packs_202 : decode cX8_packs 202 = .ok (.iconst 3, 1) := by decide +kernel
theorem dX8_packs_203 : decode cX8_packs 203 = .ok (.iadd, 1) := by decide +kernel
theorem dX8_packs_204 : decode cX8_packs 204 = .ok (.iload 6, 2) := by decide +kernel
theorem dX8_packs_206 : decode cX8_packs 206 = .ok (.iastore, 1) := by decide +kernel
theorem dX8_packs_207 : decode cX8_packs 207 = .ok (.aload_n 0, 1) := by decide +kernel
theorem dX8_packs_208 : decode cX8_packs 208 = .ok (.getfield 49, 3) := by decide +kernel
theorem dX8_packs_211 : decode cX8_packs 211 = .ok (.iload 8, 2) := by decide +kernel
theorem dX8_packs_213 : decode cX8_packs 213 = .ok (.iconst 4, 1) := by decide +kernel
theorem dX8_packs_214 : decode cX8_packs 214 = .ok (.iadd, 1) := by decide +kernel
theorem dX8_packs_215 : decode cX8_packs 215 = .ok (.iload 4, 2) := by decide +kernel
theorem dX8_packs_217 : decode cX8_packs 217 = .ok (.iastore, 1) := by decide +kernel
theorem dX8_packs_218 : decode cX8_packs 218 = .ok (.aload_n 0, 1) := by decide +kernel
theorem dX8_packs_219 : decode cX8_packs 219 = .ok (.getfield 49, 3) := by decide +kernel
theorem dX8_packs_222 : decode cX8_packs 222 = .ok (.iload 8, 2) := by decide +kernel
theorem dX8_packs_224 : decode cX8_packs 224 = .ok (.iconst 5, 1) := by decide +kernel
theorem dX8_packs_225 : decode cX8_packs 225 = .ok (.iadd, 1) := by decide +kernel
theorem dX8_packs_226 : decode cX8_packs 226 = .ok (.iload 7, 2) := by decide +kernel
theorem dX8_packs_228 : decode cX8_packs 228 = .ok (.iastore, 1) := by decide +kernel
theorem dX8_packs_229 : decode cX8_packs 229 = .ok (.aload_n 0, 1) := by decide +kernel
theorem dX8_packs_230 : decode cX8_packs 230 = .ok (.getfield 49, 3) := by decide +kernel
theorem dX8_packs_233 : decode cX8_packs 233 = .ok (.iload 8, 2) := by decide +kernel
theorem dX8_packs_235 : decode cX8_packs 235 = .ok (.bipush 6, 2) := by decide +kernel
theorem dX8_packs_237 : decode cX8_packs 237 = .ok (.iadd, 1) := by decide +kernel
theorem dX8_packs_238 : decode cX8_packs 238 = .ok (.aload_n 0, 1) := by decide +kernel
theorem dX8_packs_239 : decode cX8_packs 239 = .ok (.getfield 39, 3) := by decide +kernel
theorem dX8_packs_242 : decode cX8_packs 242 = .ok (.iload_n 1, 1) := by decide +kernel
theorem dX8_packs_243 : decode cX8_packs 243 = .ok (.iaload, 1) := by decide +kernel
theorem dX8_packs_244 : decode cX8_packs 244 = .ok (.iastore, 1) := by decide +kernel
theorem dX8_packs_245 : decode cX8_packs 245 = .ok (.aload_n 0, 1) := by decide +kernel
theorem dX8_packs_246 : decode cX8_packs 246 = .ok (.getfield 49, 3) := by decide +kernel
theorem dX8_packs_249 : decode cX8_packs 249 = .ok (.iload 8, 2) := by decide +kernel
theorem dX8_packs_251 : decode cX8_packs 251 = .ok (.bipush 7, 2) := by decide +kernel
theorem dX8_packs_253 : decode cX8_packs 253 = .ok (.iadd, 1) := by decide +kernel
theorem dX8_packs_254 : decode cX8_packs 254 = .ok (.aload_n 0, 1) := by decide +kernel
theorem dX8_packs_255 : decode cX8_packs 255 = .ok (.getfield 42, 3) := by decide +kernel
theorem dX8_packs_258 : decode cX8_packs 258 = .ok (.iload_n 1, 1) := by decide +kernel
theorem dX8_packs_259 : decode cX8_packs 259 = .ok (.iaload, 1) := by decide +kernel
theorem dX8_packs_260 : decode cX8_packs 260 = .ok (.iastore, 1) := by decide +kernel
theorem dX8_packs_261 : decode cX8_packs 261 = .ok (.aload_n 0, 1) := by decide +kernel
theorem dX8_packs_262 : decode cX8_packs 262 = .ok (.dup, 1) := by decide +kernel
theorem dX8_packs_263 : decode cX8_packs 263 = .ok (.getfield 225, 3) := by decide +kernel
theorem dX8_packs_266 : decode cX8_packs 266 = .ok (.iconst 1, 1) := by decide +kernel
theorem dX8_packs_267 : decode cX8_packs 267 = .ok (.iadd, 1) := by decide +kernel
theorem dX8_packs_268 : decode cX8_packs 268 = .ok (.putfield 225, 3) := by decide +kernel
theorem dX8_packs_271 : decode cX8_packs 271 = .ok (.iload_n 2, 1) := by decide +kernel
theorem dX8_packs_272 : decode cX8_packs 272 = .ok (.istore 9, 2) := by decide +kernel
theorem dX8_packs_274 : decode cX8_packs 274 = .ok (.iload 9, 2) := by decide +kernel
theorem dX8_packs_276 : decode cX8_packs 276 = .ok (.iload 5, 2) := by decide +kernel
theorem dX8_packs_278 : decode cX8_packs 278 = .ok (.if_icmp .gt 61, 3) := by decide +kernel
theorem dX8_packs_281 : decode cX8_packs 281 = .ok (.iload_n 3, 1) := by decide +kernel
theorem dX8_packs_282 : decode cX8_packs 282 = .ok (.istore 10, 2) := by decide +kernel
theorem dX8_packs_284 : decode cX8_packs 284 = .ok (.iload 10, 2) := by decide +kernel
theorem dX8_packs_286 : decode cX8_packs 286 = .ok (.iload 6, 2) := by decide +kernel
theorem dX8_packs_288 : decode cX8_packs 288 = .ok (.if_icmp .gt 45, 3) := by decide +kernel
theorem dX8_packs_291 : decode cX8_packs 291 = .ok (.iload 4, 2) := by decide +kernel
theorem dX8_packs_293 : decode cX8_packs 293 = .ok (.istore 11, 2) := by decide +kernel
theorem dX8_packs_295 : decode cX8_packs 295 = .ok (.iload 11, 2) := by decide +kernel
theorem dX8_packs_297 : decode cX8_packs 297 = .ok (.iload 7, 2) := by decide +kernel
theorem dX8_packs_299 : decode cX8_packs 299 = .ok (.if_icmp .gt 28, 3) := by decide +kernel
theorem dX8_packs_302 : decode cX8_packs 302 = .ok (.aload_n 0, 1) := by decide +kernel
theorem dX8_packs_303 : decode cX8_packs 303 = .ok (.getfield 45, 3) := by decide +kernel
theorem dX8_packs_306 : decode cX8_packs 306 = .ok (.bipush 28, 2) := by decide +kernel
theorem dX8_packs_308 : decode cX8_packs 308 = .ok (.iload 9, 2) := by decide +kernel
theorem dX8_packs_310 : decode cX8_packs 310 = .ok (.imul, 1) := by decide +kernel
theorem dX8_packs_311 : decode cX8_packs 311 = .ok (.iconst 4, 1) := by decide +kernel
theorem dX8_packs_312 : decode cX8_packs 312 = .ok (.iload 10, 2) := by decide +kernel
theorem dX8_packs_314 : decode cX8_packs 314 = .ok (.imul, 1) := by decide +kernel
theorem dX8_packs_315 : decode cX8_packs 315 = .ok (.iadd, 1) := by decide +kernel
theorem dX8_packs_316 : decode cX8_packs 316 = .ok (.iload 11, 2) := by decide +kernel
theorem dX8_packs_318 : decode cX8_packs 318 = .ok (.iadd, 1) := by decide +kernel
theorem dX8_packs_319 : decode cX8_packs 319 = .ok (.iconst 1, 1) := by decide +kernel
theorem dX8_packs_320 : decode cX8_packs 320 = .ok (.bastore, 1) := by decide +kernel
theorem dX8_packs_321 : decode cX8_packs 321 = .ok (.iinc 11 1, 3) := by decide +kernel
theorem dX8_packs_324 : decode cX8_packs 324 = .ok (.goto (-29), 3) := by decide +kernel
theorem dX8_packs_327 : decode cX8_packs 327 = .ok (.iinc 10 1, 3) := by decide +kernel
theorem dX8_packs_330 : decode cX8_packs 330 = .ok (.goto (-46), 3) := by decide +kernel
theorem dX8_packs_333 : decode cX8_packs 333 = .ok (.iinc 9 1, 3) := by decide +kernel
theorem dX8_packs_336 : decode cX8_packs 336 = .ok (.goto (-62), 3) := by decide +kernel
theorem dX8_packs_339 : decode cX8_packs 339 = .ok (.iinc 1 1, 3) := by decide +kernel
theorem dX8_packs_342 : decode cX8_packs 342 = .ok (.goto (-335), 3) := by decide +kernel
theorem dX8_packs_345 : decode cX8_packs 345 = .ok (.return_, 1) := by decide +kernel
theorem dX8_finds_0 : decode cX8_finds 0 = .ok (.aload_n 0, 1) := by decide +kernel
theorem dX8_finds_1 : decode cX8_finds 1 = .ok (.iconst (-1), 1) := by decide +kernel
theorem dX8_finds_2 : decode cX8_finds 2 = .ok (.putfield 194, 3) := by decide +kernel
theorem dX8_finds_5 : decode cX8_finds 5 = .ok (.aload_n 0, 1) := by decide +kernel
theorem dX8_finds_6 : decode cX8_finds 6 = .ok (.iload_n 1, 1) := by decide +kernel
theorem dX8_finds_7 : decode cX8_finds 7 = .ok (.aload_n 0, 1) := by decide +kernel
theorem dX8_finds_8 : decode cX8_finds 8 = .ok (.getfield 39, 3) := by decide +kernel
theorem dX8_finds_11 : decode cX8_finds 11 = .ok (.invokevirtual 213, 3) := by decide +kernel
theorem dX8_finds_14 : decode cX8_finds 14 = .ok (.aload_n 0, 1) := by decide +kernel
theorem dX8_finds_15 : decode cX8_finds 15 = .ok (.iload_n 3, 1) := by decide +kernel
theorem dX8_finds_16 : decode cX8_finds 16 = .ok (.iconst 2, 1) := by decide +kernel
theorem dX8_finds_17 : decode cX8_finds 17 = .ok (.if_icmp .ne 7, 3) := by decide +kernel
theorem dX8_finds_20 : decode cX8_finds 20 = .ok (.iload_n 2, 1) := by decide +kernel
theorem dX8_finds_21 : decode cX8_finds 21 = .ok (.goto 4, 3) := by decide +kernel
theorem dX8_finds_24 : decode cX8_finds 24 = .ok (.iload_n 1, 1) := by decide +kernel
theorem dX8_finds_25 : decode cX8_finds 25 = .ok (.aload_n 0, 1) := by decide +kernel
theorem dX8_finds_26 : decode cX8_finds 26 = .ok (.getfield 42, 3) := by decide +kernel
theorem dX8_finds_29 : decode cX8_finds 29 = .ok (.invokevirtual 213, 3) := by decide +kernel
theorem dX8_finds_32 : decode cX8_finds 32 = .ok (.iconst 0, 1) := by decide +kernel
theorem dX8_finds_33 : decode cX8_finds 33 = .ok (.istore 4, 2) := by decide +kernel
theorem dX8_finds_35 : decode cX8_finds 35 = .ok (.iload 4, 2) := by decide +kernel
theorem dX8_finds_37 : decode cX8_finds 37 = .ok (.sipush 224, 3) := by decide +kernel
theorem dX8_finds_40 : decode cX8_finds 40 = .ok (.if_icmp .ge 80, 3) := by decide +kernel
theorem dX8_finds_43 : decode cX8_finds 43 = .ok (.aload_n 0, 1) := by decide +kernel
theorem dX8_finds_44 : decode cX8_finds 44 = .ok (.getfield 45, 3) := by decide +kernel
theorem dX8_finds_47 : decode cX8_finds 47 = .ok (.iload 4, 2) := by decide +kernel
theorem dX8_finds_49 : decode cX8_finds 49 = .ok (.iload_n 3, 1) := by decide +kernel
theorem dX8_finds_50 : decode cX8_finds 50 = .ok (.iconst 2, 1) := by decide +kernel
theorem dX8_finds_51 : decode cX8_finds 51 = .ok (.if_icmp .ne 28, 3) := by decide +kernel
theorem dX8_finds_54 : decode cX8_finds 54 = .ok (.aload_n 0, 1) := by decide +kernel
theorem dX8_finds_55 : decode cX8_finds 55 = .ok (.getfield 39, 3) := by decide +kernel
theorem dX8_finds_58 : decode cX8_finds 58 = .ok (.iload 4, 2) := by decide +kernel
theorem dX8_finds_60 : decode cX8_finds 60 = .ok (.iaload, 1) := by decide +kernel
theorem dX8_finds_61 : decode cX8_finds 61 = .ok (.aload_n 0, 1) := by decide +kernel
theorem dX8_finds_62 : decode cX8_finds 62 = .ok (.getfield 42, 3) := by decide +kernel
theorem dX8_finds_65 : decode cX8_finds 65 = .ok (.iload 4, 2) := by decide +kernel
theorem dX8_finds_67 : decode cX8_finds 67 = .ok (.iaload, 1) := by decide +kernel
theorem dX8_finds_68 : decode cX8_finds 68 = .ok (.if_icmp .ne 7, 3) := by decide +kernel
theorem dX8_finds_71 : decode cX8_finds 71 = .ok (.iconst 1, 1) := by decide +kernel
theorem dX8_finds_72 : decode cX8_finds 72 = .ok (.goto 41, 3) := by decide +kernel
theorem dX8_finds_75 : decode cX8_finds 75 = .ok (.iconst 0, 1) := by decide +kernel
theorem dX8_finds_76 : decode cX8_finds 76 = .ok (.goto 37, 3) := by decide +kernel
theorem dX8_finds_79 : decode cX8_finds 79 = .ok (.aload_n 0, 1) := by decide +kernel
theorem dX8_finds_80 : decode cX8_finds 80 = .ok (.getfield 39, 3) := by decide +kernel
theorem dX8_finds_83 : decode cX8_finds 83 = .ok (.iload 4, 2) := by decide +kernel
theorem dX8_finds_85 : decode cX8_finds 85 = .ok (.iaload, 1) := by decide +kernel
theorem dX8_finds_86 : decode cX8_finds 86 = .ok (.bipush (-5), 2) := by decide +kernel
theorem dX8_finds_88 : decode cX8_finds 88 = .ok (.if_icmp .ne 7, 3) := by decide +kernel
theorem dX8_finds_91 : decode cX8_finds 91 = .ok (.iconst 1, 1) := by decide +kernel
theorem dX8_finds_92 : decode cX8_finds 92 = .ok (.goto 4, 3) := by decide +kernel
theorem dX8_finds_95 : decode cX8_finds 95 = .ok (.iconst 0, 1) := by decide +kernel
theorem dX8_finds_96 : decode cX8_finds 96 = .ok (.iload_n 3, 1) := by decide +kernel
theorem dX8_finds_97 : decode cX8_finds 97 = .ok (.ifCond .ne 7, 3) := by decide +kernel
theorem dX8_finds_100 : decode cX8_finds 100 = .ok (.iconst 1, 1) := by decide +kernel
theorem dX8_finds_101 : decode cX8_finds 101 = .ok (.goto 4, 3) := by decide +kernel
theorem dX8_finds_104 : decode cX8_finds 104 = .ok (.iconst 0, 1) := by decide +kernel
theorem dX8_finds_105 : decode cX8_finds 105 = .ok (.if_icmp .ne 7, 3) := by decide +kernel
theorem dX8_finds_108 : decode cX8_finds 108 = .ok (.iconst 1, 1) := by decide +kernel
theorem dX8_finds_109 : decode cX8_finds 109 = .ok (.goto 4, 3) := by decide +kernel
theorem dX8_finds_112 : decode cX8_finds 112 = .ok (.iconst 0, 1) := by decide +kernel
theorem dX8_finds_113 : decode cX8_finds 113 = .ok (.bastore, 1) := by decide +kernel
theorem dX8_finds_114 : decode cX8_finds 114 = .ok (.iinc 4 1, 3) := by decide +kernel
theorem dX8_finds_117 : decode cX8_finds 117 = .ok (.goto (-82), 3) := by decide +kernel
theorem dX8_finds_120 : decode cX8_finds 120 = .ok (.aload_n 0, 1) := by decide +kernel
theorem dX8_finds_121 : decode cX8_finds 121 = .ok (.invokevirtual 232, 3) := by decide +kernel
theorem dX8_finds_124 : decode cX8_finds 124 = .ok (.return_, 1) := by decide +kernel
theorem dX8_found_0 : decode cX8_found 0 = .ok (.iload_n 1, 1) := by decide +kernel
theorem dX8_found_1 : decode cX8_found 1 = .ok (.iconst (-1), 1) := by decide +kernel
theorem dX8_found_2 : decode cX8_found 2 = .ok (.if_icmp .ne 8, 3) := by decide +kernel
theorem dX8_found_5 : decode cX8_found 5 = .ok (.aload_n 0, 1) := by decide +kernel
theorem dX8_found_6 : decode cX8_found 6 = .ok (.getfield 225, 3) := by decide +kernel
theorem dX8_found_9 : decode cX8_found 9 = .ok (.ireturn, 1) := by decide +kernel
theorem dX8_found_10 : decode cX8_found 10 = .ok (.iload_n 1, 1) := by decide +kernel
theorem dX8_found_11 : decode cX8_found 11 = .ok (.iconst 0, 1) := by decide +kernel
theorem dX8_found_12 : decode cX8_found 12 = .ok (.aload_n 0, 1) := by decide +kernel
theorem dX8_found_13 : decode cX8_found 13 = .ok (.getfield 225, 3) := by decide +kernel
theorem dX8_found_16 : decode cX8_found 16 = .ok (.iconst 1, 1) := by decide +kernel
theorem dX8_found_17 : decode cX8_found 17 = .ok (.isub, 1) := by decide +kernel
theorem dX8_found_18 : decode cX8_found 18 = .ok (.invokestatic 80, 3) := by decide +kernel
theorem dX8_found_21 : decode cX8_found 21 = .ok (.ifCond .eq 26, 3) := by decide +kernel
theorem dX8_found_24 : decode cX8_found 24 = .ok (.iload_n 2, 1) := by decide +kernel
theorem dX8_found_25 : decode cX8_found 25 = .ok (.iconst 0, 1) := by decide +kernel
theorem dX8_found_26 : decode cX8_found 26 = .ok (.iload_n 3, 1) := by decide +kernel
theorem dX8_found_27 : decode cX8_found 27 = .ok (.invokestatic 80, 3) := by decide +kernel
theorem dX8_found_30 : decode cX8_found 30 = .ok (.ifCond .eq 17, 3) := by decide +kernel
theorem dX8_found_33 : decode cX8_found 33 = .ok (.aload_n 0, 1) := by decide +kernel
theorem dX8_found_34 : decode cX8_found 34 = .ok (.getfield 49, 3) := by decide +kernel
theorem dX8_found_37 : decode cX8_found 37 = .ok (.bipush 8, 2) := by decide +kernel
theorem dX8_found_39 : decode cX8_found 39 = .ok (.iload_n 1, 1) := by decide +kernel
theorem dX8_found_40 : decode cX8_found 40 = .ok (.imul, 1) := by decide +kernel
theorem dX8_found_41 : decode cX8_found 41 = .ok (.iload_n 2, 1) := by decide +kernel
theorem dX8_found_42 : decode cX8_found 42 = .ok (.iadd, 1) := by decide +kernel
theorem dX8_found_43 : decode cX8_found 43 = .ok (.iaload, 1) := by decide +kernel
theorem dX8_found_44 : decode cX8_found 44 = .ok (.goto 4, 3) := by decide +kernel
theorem dX8_found_47 : decode cX8_found 47 = .ok (.iconst (-1), 1) := by decide +kernel
theorem dX8_found_48 : decode cX8_found 48 = .ok (.ireturn, 1) := by decide +kernel
theorem dX8_part__0 : decode cX8_part_ 0 = .ok (.aload_n 0, 1) := by decide +kernel
theorem dX8_part__1 : decode cX8_part_ 1 = .ok (.iload_n 1, 1) := by decide +kernel
theorem dX8_part__2 : decode cX8_part_ 2 = .ok (.invokevirtual 109, 3) := by decide +kernel
theorem dX8_part__5 : decode cX8_part_ 5 = .ok (.ifCond .ne 5, 3) := by decide +kernel
theorem dX8_part__8 : decode cX8_part_ 8 = .ok (.iconst (-1), 1) := by decide +kernel
theorem dX8_part__9 : decode cX8_part_ 9 = .ok (.ireturn, 1) := by decide +kernel
theorem dX8_part__10 : decode cX8_part_ 10 = .ok (.aload_n 0, 1) := by decide +kernel
theorem dX8_part__11 : decode cX8_part_ 11 = .ok (.iload_n 1, 1) := by decide +kernel
theorem dX8_part__12 : decode cX8_part_ 12 = .ok (.iload_n 1, 1) := by decide +kernel
theorem dX8_part__13 : decode cX8_part_ 13 = .ok (.iconst 0, 1) := by decide +kernel
theorem dX8_part__14 : decode cX8_part_ 14 = .ok (.invokevirtual 235, 3) := by decide +kernel
theorem dX8_part__17 : decode cX8_part_ 17 = .ok (.aload_n 0, 1) := by decide +kernel
theorem dX8_part__18 : decode cX8_part_ 18 = .ok (.iload_n 2, 1) := by decide +kernel
theorem dX8_part__19 : decode cX8_part_ 19 = .ok (.iload_n 3, 1) := by decide +kernel
theorem dX8_part__20 : decode cX8_part_ 20 = .ok (.bipush 6, 2) := by decide +kernel
theorem dX8_part__22 : decode cX8_part_ 22 = .ok (.invokevirtual 239, 3) := by decide +kernel
theorem dX8_part__25 : decode cX8_part_ 25 = .ok (.ireturn, 1) := by decide +kernel
theorem dX8_gap_0 : decode cX8_gap 0 = .ok (.aload_n 0, 1) := by decide +kernel
theorem dX8_gap_1 : decode cX8_gap 1 = .ok (.iload_n 1, 1) := by decide +kernel
theorem dX8_gap_2 : decode cX8_gap 2 = .ok (.invokevirtual 109, 3) := by decide +kernel
theorem dX8_gap_5 : decode cX8_gap 5 = .ok (.ifCond .ne 5, 3) := by decide +kernel
theorem dX8_gap_8 : decode cX8_gap 8 = .ok (.iconst (-1), 1) := by decide +kernel
theorem dX8_gap_9 : decode cX8_gap 9 = .ok (.ireturn, 1) := by decide +kernel
theorem dX8_gap_10 : decode cX8_gap 10 = .ok (.aload_n 0, 1) := by decide +kernel
theorem dX8_gap_11 : decode cX8_gap 11 = .ok (.iload_n 1, 1) := by decide +kernel
theorem dX8_gap_12 : decode cX8_gap 12 = .ok (.iload_n 1, 1) := by decide +kernel
theorem dX8_gap_13 : decode cX8_gap 13 = .ok (.iconst 1, 1) := by decide +kernel
theorem dX8_gap_14 : decode cX8_gap 14 = .ok (.invokevirtual 235, 3) := by decide +kernel
theorem dX8_gap_17 : decode cX8_gap 17 = .ok (.aload_n 0, 1) := by decide +kernel
theorem dX8_gap_18 : decode cX8_gap 18 = .ok (.iload_n 2, 1) := by decide +kernel
theorem dX8_gap_19 : decode cX8_gap 19 = .ok (.iload_n 3, 1) := by decide +kernel
theorem dX8_gap_20 : decode cX8_gap 20 = .ok (.iconst 5, 1) := by decide +kernel
theorem dX8_gap_21 : decode cX8_gap 21 = .ok (.invokevirtual 239, 3) := by decide +kernel
theorem dX8_gap_24 : decode cX8_gap 24 = .ok (.ireturn, 1) := by decide +kernel
theorem dX8_diff_0 : decode cX8_diff 0 = .ok (.aload_n 0, 1) := by decide +kernel
theorem dX8_diff_1 : decode cX8_diff 1 = .ok (.iload_n 1, 1) := by decide +kernel
theorem dX8_diff_2 : decode cX8_diff 2 = .ok (.invokevirtual 109, 3) := by decide +kernel
theorem dX8_diff_5 : decode cX8_diff 5 = .ok (.ifCond .eq 11, 3) := by decide +kernel
theorem dX8_diff_8 : decode cX8_diff 8 = .ok (.aload_n 0, 1) := by decide +kernel
theorem dX8_diff_9 : decode cX8_diff 9 = .ok (.iload_n 2, 1) := by decide +kernel
theorem dX8_diff_10 : decode cX8_diff 10 = .ok (.invokevirtual 109, 3) := by decide +kernel
theorem dX8_diff_13 : decode cX8_diff 13 = .ok (.ifCond .ne 5, 3) := by decide +kernel
theorem dX8_diff_16 : decode cX8_diff 16 = .ok (.iconst (-1), 1) := by decide +kernel
theorem dX8_diff_17 : decode cX8_diff 17 = .ok (.ireturn, 1) := by decide +kernel
theorem dX8_diff_18 : decode cX8_diff 18 = .ok (.aload_n 0, 1) := by decide +kernel
theorem dX8_diff_19 : decode cX8_diff 19 = .ok (.iload_n 1, 1) := by decide +kernel
theorem dX8_diff_20 : decode cX8_diff 20 = .ok (.iload_n 2, 1) := by decide +kernel
theorem dX8_diff_21 : decode cX8_diff 21 = .ok (.iconst 2, 1) := by decide +kernel
theorem dX8_diff_22 : decode cX8_diff 22 = .ok (.invokevirtual 235, 3) := by decide +kernel
theorem dX8_diff_25 : decode cX8_diff 25 = .ok (.aload_n 0, 1) := by decide +kernel
theorem dX8_diff_26 : decode cX8_diff 26 = .ok (.iload_n 3, 1) := by decide +kernel
theorem dX8_diff_27 : decode cX8_diff 27 = .ok (.iload 4, 2) := by decide +kernel
theorem dX8_diff_29 : decode cX8_diff 29 = .ok (.bipush 7, 2) := by decide +kernel
theorem dX8_diff_31 : decode cX8_diff 31 = .ok (.invokevirtual 239, 3) := by decide +kernel
theorem dX8_diff_34 : decode cX8_diff 34 = .ok (.ireturn, 1) := by decide +kernel
theorem dX8_meets_0 : decode cX8_meets 0 = .ok (.aload_n 0, 1) := by decide +kernel
theorem dX8_meets_1 : decode cX8_meets 1 = .ok (.getfield 9, 3) := by decide +kernel
theorem dX8_meets_4 : decode cX8_meets 4 = .ok (.iload_n 1, 1) := by decide +kernel
theorem dX8_meets_5 : decode cX8_meets 5 = .ok (.iaload, 1) := by decide +kernel
theorem dX8_meets_6 : decode cX8_meets 6 = .ok (.istore_n 2, 1) := by decide +kernel
theorem dX8_meets_7 : decode cX8_meets 7 = .ok (.iload_n 2, 1) := by decide +kernel
theorem dX8_meets_8 : decode cX8_meets 8 = .ok (.iconst 2, 1) := by decide +kernel
theorem dX8_meets_9 : decode cX8_meets 9 = .ok (.if_icmp .ne 29, 3) := by decide +kernel
theorem dX8_meets_12 : decode cX8_meets 12 = .ok (.aload_n 0, 1) := by decide +kernel
theorem dX8_meets_13 : decode cX8_meets 13 = .ok (.getfield 188, 3) := by decide +kernel
theorem dX8_meets_16 : decode cX8_meets 16 = .ok (.aload_n 0, 1) := by decide +kernel
theorem dX8_meets_17 : decode cX8_meets 17 = .ok (.getfield 194, 3) := by decide +kernel
theorem dX8_meets_20 : decode cX8_meets 20 = .ok (.if_icmp .ne 8, 3) := by decide +kernel
theorem dX8_meets_23 : decode cX8_meets 23 = .ok (.aload_n 0, 1) := by decide +kernel
theorem dX8_meets_24 : decode cX8_meets 24 = .ok (.iload_n 1, 1) := by decide +kernel
theorem dX8_meets_25 : decode cX8_meets 25 = .ok (.putfield 242, 3) := by decide +kernel
theorem dX8_meets_28 : decode cX8_meets 28 = .ok (.aload_n 0, 1) := by decide +kernel
theorem dX8_meets_29 : decode cX8_meets 29 = .ok (.dup, 1) := by decide +kernel
theorem dX8_meets_30 : decode cX8_meets 30 = .ok (.getfield 188, 3) := by decide +kernel
theorem dX8_meets_33 : decode cX8_meets 33 = .ok (.iconst 1, 1) := by decide +kernel
theorem dX8_meets_34 : decode cX8_meets 34 = .ok (.iadd, 1) := by decide +kernel
theorem dX8_meets_35 : decode cX8_meets 35 = .ok (.putfield 188, 3) := by decide +kernel
theorem dX8_meets_38 : decode cX8_meets 38 = .ok (.aload_n 0, 1) := by decide +kernel
theorem dX8_meets_39 : decode cX8_meets 39 = .ok (.getfield 18, 3) := by decide +kernel
theorem dX8_meets_42 : decode cX8_meets 42 = .ok (.iload_n 1, 1) := by decide +kernel
theorem dX8_meets_43 : decode cX8_meets 43 = .ok (.iaload, 1) := by decide +kernel
theorem dX8_meets_44 : decode cX8_meets 44 = .ok (.ifCond .lt 13, 3) := by decide +kernel
theorem dX8_meets_47 : decode cX8_meets 47 = .ok (.aload_n 0, 1) := by decide +kernel
theorem dX8_meets_48 : decode cX8_meets 48 = .ok (.aload_n 0, 1) := by decide +kernel
theorem dX8_meets_49 : decode cX8_meets 49 = .ok (.getfield 18, 3) := by decide +kernel
theorem dX8_meets_52 : decode cX8_meets 52 = .ok (.iload_n 1, 1) := by decide +kernel
theorem dX8_meets_53 : decode cX8_meets 53 = .ok (.iaload, 1) := by decide +kernel
theorem dX8_meets_54 : decode cX8_meets 54 = .ok (.invokevirtual 245, 3) := by decide +kernel
theorem dX8_meets_57 : decode cX8_meets 57 = .ok (.aload_n 0, 1) := by decide +kernel
theorem dX8_meets_58 : decode cX8_meets 58 = .ok (.getfield 21, 3) := by decide +kernel
theorem dX8_meets_61 : decode cX8_meets 61 = .ok (.iload_n 1, 1) := by decide +kernel
theorem dX8_meets_62 : decode cX8_meets 62 = .ok (.iaload, 1) := by decide +kernel
theorem dX8_meets_63 : decode cX8_meets 63 = .ok (.ifCond .lt 13, 3) := by decide +kernel
theorem dX8_meets_66 : decode cX8_meets 66 = .ok (.aload_n 0, 1) := by decide +kernel
theorem dX8_meets_67 : decode cX8_meets 67 = .ok (.aload_n 0, 1) := by decide +kernel
theorem dX8_meets_68 : decode cX8_meets 68 = .ok (.getfield 21, 3) := by decide +kernel
theorem dX8_meets_71 : decode cX8_meets 71 = .ok (.iload_n 1, 1) := by decide +kernel
theorem dX8_meets_72 : decode cX8_meets 72 = .ok (.iaload, 1) := by decide +kernel
theorem dX8_meets_73 : decode cX8_meets 73 = .ok (.invokevirtual 245, 3) := by decide +kernel
theorem dX8_meets_76 : decode cX8_meets 76 = .ok (.return_, 1) := by decide +kernel
theorem dX8_rule_0 : decode cX8_rule 0 = .ok (.aload_n 0, 1) := by decide +kernel
theorem dX8_rule_1 : decode cX8_rule 1 = .ok (.iload_n 1, 1) := by decide +kernel
theorem dX8_rule_2 : decode cX8_rule 2 = .ok (.invokevirtual 109, 3) := by decide +kernel
theorem dX8_rule_5 : decode cX8_rule 5 = .ok (.ifCond .ne 5, 3) := by decide +kernel
theorem dX8_rule_8 : decode cX8_rule 8 = .ok (.iconst (-1), 1) := by decide +kernel
theorem dX8_rule_9 : decode cX8_rule 9 = .ok (.ireturn, 1) := by decide +kernel
theorem dX8_rule_10 : decode cX8_rule 10 = .ok (.aload_n 0, 1) := by decide +kernel
theorem dX8_rule_11 : decode cX8_rule 11 = .ok (.iconst 0, 1) := by decide +kernel
theorem dX8_rule_12 : decode cX8_rule 12 = .ok (.putfield 188, 3) := by decide +kernel
theorem dX8_rule_15 : decode cX8_rule 15 = .ok (.aload_n 0, 1) := by decide +kernel
theorem dX8_rule_16 : decode cX8_rule 16 = .ok (.iload_n 2, 1) := by decide +kernel
theorem dX8_rule_17 : decode cX8_rule 17 = .ok (.putfield 194, 3) := by decide +kernel
theorem dX8_rule_20 : decode cX8_rule 20 = .ok (.aload_n 0, 1) := by decide +kernel
theorem dX8_rule_21 : decode cX8_rule 21 = .ok (.iconst (-1), 1) := by decide +kernel
theorem dX8_rule_22 : decode cX8_rule 22 = .ok (.putfield 242, 3) := by decide +kernel
theorem dX8_rule_25 : decode cX8_rule 25 = .ok (.aload_n 0, 1) := by decide +kernel
theorem dX8_rule_26 : decode cX8_rule 26 = .ok (.iload_n 1, 1) := by decide +kernel
theorem dX8_rule_27 : decode cX8_rule 27 = .ok (.invokevirtual 245, 3) := by decide +kernel
theorem dX8_rule_30 : decode cX8_rule 30 = .ok (.iload_n 2, 1) := by decide +kernel
theorem dX8_rule_31 : decode cX8_rule 31 = .ok (.iconst (-1), 1) := by decide +kernel
theorem dX8_rule_32 : decode cX8_rule 32 = .ok (.if_icmp .ne 10, 3) := by decide +kernel
theorem dX8_rule_35 : decode cX8_rule 35 = .ok (.aload_n 0, 1) := by decide +kernel
theorem dX8_rule_36 : decode cX8_rule 36 = .ok (.getfield 188, 3) := by decide +kernel
theorem dX8_rule_39 : decode cX8_rule 39 = .ok (.goto 7, 3) := by decide +kernel
theorem dX8_rule_42 : decode cX8_rule 42 = .ok (.aload_n 0, 1) := by decide +kernel
theorem dX8_rule_43 : decode cX8_rule 43 = .ok (.getfield 242, 3) := by decide +kernel
theorem dX8_rule_46 : decode cX8_rule 46 = .ok (.ireturn, 1) := by decide +kernel
theorem dX8_idle_0 : decode cX8_idle 0 = .ok (.iload_n 2, 1) := by decide +kernel
theorem dX8_idle_1 : decode cX8_idle 1 = .ok (.ifCond .lt 13, 3) := by decide +kernel
theorem dX8_idle_4 : decode cX8_idle 4 = .ok (.aload_n 0, 1) := by decide +kernel
theorem dX8_idle_5 : decode cX8_idle 5 = .ok (.iload_n 1, 1) := by decide +kernel
theorem dX8_idle_6 : decode cX8_idle 6 = .ok (.iload_n 2, 1) := by decide +kernel
theorem dX8_idle_7 : decode cX8_idle 7 = .ok (.invokevirtual 248, 3) := by decide +kernel
theorem dX8_idle_10 : decode cX8_idle 10 = .ok (.iconst (-1), 1) := by decide +kernel
theorem dX8_idle_11 : decode cX8_idle 11 = .ok (.if_icmp .ne 5, 3) := by decide +kernel
theorem dX8_idle_14 : decode cX8_idle 14 = .ok (.iconst (-1), 1) := by decide +kernel
theorem dX8_idle_15 : decode cX8_idle 15 = .ok (.ireturn, 1) := by decide +kernel
theorem dX8_idle_16 : decode cX8_idle 16 = .ok (.aload_n 0, 1) := by decide +kernel
theorem dX8_idle_17 : decode cX8_idle 17 = .ok (.iconst (-1), 1) := by decide +kernel
theorem dX8_idle_18 : decode cX8_idle 18 = .ok (.putfield 194, 3) := by decide +kernel
theorem dX8_idle_21 : decode cX8_idle 21 = .ok (.aload_n 0, 1) := by decide +kernel
theorem dX8_idle_22 : decode cX8_idle 22 = .ok (.iload_n 1, 1) := by decide +kernel
theorem dX8_idle_23 : decode cX8_idle 23 = .ok (.aload_n 0, 1) := by decide +kernel
theorem dX8_idle_24 : decode cX8_idle 24 = .ok (.getfield 39, 3) := by decide +kernel
theorem dX8_idle_27 : decode cX8_idle 27 = .ok (.invokevirtual 213, 3) := by decide +kernel
theorem dX8_idle_30 : decode cX8_idle 30 = .ok (.aload_n 0, 1) := by decide +kernel
theorem dX8_idle_31 : decode cX8_idle 31 = .ok (.iload_n 2, 1) := by decide +kernel
theorem dX8_idle_32 : decode cX8_idle 32 = .ok (.putfield 194, 3) := by decide +kernel
theorem dX8_idle_35 : decode cX8_idle 35 = .ok (.aload_n 0, 1) := by decide +kernel
theorem dX8_idle_36 : decode cX8_idle 36 = .ok (.iload_n 1, 1) := by decide +kernel
theorem dX8_idle_37 : decode cX8_idle 37 = .ok (.aload_n 0, 1) := by decide +kernel
theorem dX8_idle_38 : decode cX8_idle 38 = .ok (.getfield 42, 3) := by decide +kernel
theorem dX8_idle_41 : decode cX8_idle 41 = .ok (.invokevirtual 213, 3) := by decide +kernel
theorem dX8_idle_44 : decode cX8_idle 44 = .ok (.iconst 0, 1) := by decide +kernel
theorem dX8_idle_45 : decode cX8_idle 45 = .ok (.istore_n 3, 1) := by decide +kernel
theorem dX8_idle_46 : decode cX8_idle 46 = .ok (.iload_n 3, 1) := by decide +kernel
theorem dX8_idle_47 : decode cX8_idle 47 = .ok (.sipush 224, 3) := by decide +kernel
theorem dX8_idle_50 : decode cX8_idle 50 = .ok (.if_icmp .ge 26, 3) := by decide +kernel
theorem dX8_idle_53 : decode cX8_idle 53 = .ok (.aload_n 0, 1) := by decide +kernel
theorem dX8_idle_54 : decode cX8_idle 54 = .ok (.getfield 39, 3) := by decide +kernel
theorem dX8_idle_57 : decode cX8_idle 57 = .ok (.iload_n 3, 1) := by decide +kernel
theorem dX8_idle_58 : decode cX8_idle 58 = .ok (.iaload, 1) := by decide +kernel
theorem dX8_idle_59 : decode cX8_idle 59 = .ok (.aload_n 0, 1) := by decide +kernel
theorem dX8_idle_60 : decode cX8_idle 60 = .ok (.getfield 42, 3) := by decide +kernel
theorem dX8_idle_63 : decode cX8_idle 63 = .ok (.iload_n 3, 1) := by decide +kernel
theorem dX8_idle_64 : decode cX8_idle 64 = .ok (.iaload, 1) := by decide +kernel
theorem dX8_idle_65 : decode cX8_idle 65 = .ok (.if_icmp .eq 5, 3) := by decide +kernel
theorem dX8_idle_68 : decode cX8_idle 68 = .ok (.iconst 0, 1) := by decide +kernel
theorem dX8_idle_69 : decode cX8_idle 69 = .ok (.ireturn, 1) := by decide +kernel
theorem dX8_idle_70 : decode cX8_idle 70 = .ok (.iinc 3 1, 3) := by decide +kernel
theorem dX8_idle_73 : decode cX8_idle 73 = .ok (.goto (-27), 3) := by decide +kernel
theorem dX8_idle_76 : decode cX8_idle 76 = .ok (.iconst 1, 1) := by decide +kernel
theorem dX8_idle_77 : decode cX8_idle 77 = .ok (.ireturn, 1) := by decide +kernel
theorem dX8_overlap_0 : decode cX8_overlap 0 = .ok (.aload_n 0, 1) := by decide +kernel
theorem dX8_overlap_1 : decode cX8_overlap 1 = .ok (.iload_n 1, 1) := by decide +kernel
theorem dX8_overlap_2 : decode cX8_overlap 2 = .ok (.invokevirtual 109, 3) := by decide +kernel
theorem dX8_overlap_5 : decode cX8_overlap 5 = .ok (.ifCond .eq 11, 3) := by decide +kernel
theorem dX8_overlap_8 : decode cX8_overlap 8 = .ok (.aload_n 0, 1) := by decide +kernel
theorem dX8_overlap_9 : decode cX8_overlap 9 = .ok (.iload_n 2, 1) := by decide +kernel
theorem dX8_overlap_10 : decode cX8_overlap 10 = .ok (.invokevirtual 109, 3) := by decide +kernel
theorem dX8_overlap_13 : decode cX8_overlap 13 = .ok (.ifCond .ne 5, 3) := by decide +kernel
theorem dX8_overlap_16 : decode cX8_overlap 16 = .ok (.iconst (-1), 1) := by decide +kernel
theorem dX8_overlap_17 : decode cX8_overlap 17 = .ok (.ireturn, 1) := by decide +kernel
theorem dX8_overlap_18 : decode cX8_overlap 18 = .ok (.aload_n 0, 1) := by decide +kernel
theorem dX8_overlap_19 : decode cX8_overlap 19 = .ok (.getfield 24, 3) := by decide +kernel
theorem dX8_overlap_22 : decode cX8_overlap 22 = .ok (.iload_n 1, 1) := by decide +kernel
theorem dX8_overlap_23 : decode cX8_overlap 23 = .ok (.iaload, 1) := by decide +kernel
theorem dX8_overlap_24 : decode cX8_overlap 24 = .ok (.bipush (-5), 2) := by decide +kernel
theorem dX8_overlap_26 : decode cX8_overlap 26 = .ok (.if_icmp .eq 14, 3) := by decide +kernel
theorem dX8_overlap_29 : decode cX8_overlap 29 = .ok (.aload_n 0, 1) := by decide +kernel
theorem dX8_overlap_30 : decode cX8_overlap 30 = .ok (.getfield 24, 3) := by decide +kernel
theorem dX8_overlap_33 : decode cX8_overlap 33 = .ok (.iload_n 2, 1) := by decide +kernel
theorem dX8_overlap_34 : decode cX8_overlap 34 = .ok (.iaload, 1) := by decide +kernel
theorem dX8_overlap_35 : decode cX8_overlap 35 = .ok (.bipush (-5), 2) := by decide +kernel
theorem dX8_overlap_37 : decode cX8_overlap 37 = .ok (.if_icmp .ne 6, 3) := by decide +kernel
theorem dX8_overlap_40 : decode cX8_overlap 40 = .ok (.bipush (-5), 2) := by decide +kernel
theorem dX8_overlap_42 : decode cX8_overlap 42 = .ok (.ireturn, 1) := by decide +kernel
theorem dX8_overlap_43 : decode cX8_overlap 43 = .ok (.iconst 0, 1) := by decide +kernel
theorem dX8_overlap_44 : decode cX8_overlap 44 = .ok (.istore_n 3, 1) := by decide +kernel
theorem dX8_overlap_45 : decode cX8_overlap 45 = .ok (.iconst 0, 1) := by decide +kernel
theorem dX8_overlap_46 : decode cX8_overlap 46 = .ok (.istore 4, 2) := by decide +kernel
theorem dX8_overlap_48 : decode cX8_overlap 48 = .ok (.iload 4, 2) := by decide +kernel
theorem dX8_overlap_50 : decode cX8_overlap 50 = .ok (.sipush 224, 3) := by decide +kernel
theorem dX8_overlap_53 : decode cX8_overlap 53 = .ok (.if_icmp .ge 40, 3) := by decide +kernel
theorem dX8_overlap_56 : decode cX8_overlap 56 = .ok (.iload 4, 2) := by decide +kernel
theorem dX8_overlap_58 : decode cX8_overlap 58 = .ok (.aload_n 0, 1) := by decide +kernel
theorem dX8_overlap_59 : decode cX8_overlap 59 = .ok (.getfield 24, 3) := by decide +kernel
theorem dX8_overlap_62 : decode cX8_overlap 62 = .ok (.iload_n 1, 1) := by decide +kernel
theorem dX8_overlap_63 : decode cX8_overlap 63 = .ok (.iaload, 1) := by decide +kernel
theorem dX8_overlap_64 : decode cX8_overlap 64 = .ok (.invokestatic 197, 3) := by decide +kernel
theorem dX8_overlap_67 : decode cX8_overlap 67 = .ok (.ifCond .eq 20, 3) := by decide +kernel
theorem dX8_overlap_70 : decode cX8_overlap 70 = .ok (.iload 4, 2) := by decide +kernel
theorem dX8_overlap_72 : decode cX8_overlap 72 = .ok (.aload_n 0, 1) := by decide +kernel
theorem dX8_overlap_73 : decode cX8_overlap 73 = .ok (.getfield 24, 3) := by decide +kernel
theorem dX8_overlap_76 : decode cX8_overlap 76 = .ok (.iload_n 2, 1) := by decide +kernel
theorem dX8_overlap_77 : decode cX8_overlap 77 = .ok (.iaload, 1) := by decide +kernel
theorem dX8_overlap_78 : decode cX8_overlap 78 = .ok (.invokestatic 197, 3) := by decide +kernel
theorem dX8_overlap_81 : decode cX8_overlap 81 = .ok (.ifCond .eq 6, 3) := by decide +kernel
theorem dX8_overlap_84 : decode cX8_overlap 84 = .ok (.iinc 3 1, 3) := by decide +kernel
theorem dX8_overlap_87 : decode cX8_overlap 87 = .ok (.iinc 4 1, 3) := by decide +kernel
theorem dX8_overlap_90 : decode cX8_overlap 90 = .ok (.goto (-42), 3) := by decide +kernel
theorem dX8_overlap_93 : decode cX8_overlap 93 = .ok (.iload_n 3, 1) := by decide +kernel
theorem dX8_overlap_94 : decode cX8_overlap 94 = .ok (.ireturn, 1) := by decide +kernel
theorem dX8_isFlat_0 : decode cX8_isFlat 0 = .ok (.aload_n 0, 1) := by decide +kernel
theorem dX8_isFlat_1 : decode cX8_isFlat 1 = .ok (.iload_n 1, 1) := by decide +kernel
theorem dX8_isFlat_2 : decode cX8_isFlat 2 = .ok (.invokevirtual 109, 3) := by decide +kernel
theorem dX8_isFlat_5 : decode cX8_isFlat 5 = .ok (.ifCond .eq 16, 3) := by decide +kernel
theorem dX8_isFlat_8 : decode cX8_isFlat 8 = .ok (.aload_n 0, 1) := by decide +kernel
theorem dX8_isFlat_9 : decode cX8_isFlat 9 = .ok (.getfield 9, 3) := by decide +kernel
theorem dX8_isFlat_12 : decode cX8_isFlat 12 = .ok (.iload_n 1, 1) := by decide +kernel
theorem dX8_isFlat_13 : decode cX8_isFlat 13 = .ok (.iaload, 1) := by decide +kernel
theorem dX8_isFlat_14 : decode cX8_isFlat 14 = .ok (.ifCond .ne 7, 3) := by decide +kernel
theorem dX8_isFlat_17 : decode cX8_isFlat 17 = .ok (.iconst 1, 1) := by decide +kernel
theorem dX8_isFlat_18 : decode cX8_isFlat 18 = .ok (.goto 4, 3) := by decide +kernel
theorem dX8_isFlat_21 : decode cX8_isFlat 21 = .ok (.iconst 0, 1) := by decide +kernel
theorem dX8_isFlat_22 : decode cX8_isFlat 22 = .ok (.ireturn, 1) := by decide +kernel
theorem dX8_wouldSay_0 : decode cX8_wouldSay 0 = .ok (.aload_n 0, 1) := by decide +kernel
theorem dX8_wouldSay_1 : decode cX8_wouldSay 1 = .ok (.iconst (-1), 1) := by decide +kernel
theorem dX8_wouldSay_2 : decode cX8_wouldSay 2 = .ok (.putfield 194, 3) := by decide +kernel
theorem dX8_wouldSay_5 : decode cX8_wouldSay 5 = .ok (.aload_n 0, 1) := by decide +kernel
theorem dX8_wouldSay_6 : decode cX8_wouldSay 6 = .ok (.iload_n 1, 1) := by decide +kernel
theorem dX8_wouldSay_7 : decode cX8_wouldSay 7 = .ok (.putfield 52, 3) := by decide +kernel
theorem dX8_wouldSay_10 : decode cX8_wouldSay 10 = .ok (.aload_n 0, 1) := by decide +kernel
theorem dX8_wouldSay_11 : decode cX8_wouldSay 11 = .ok (.iload_n 2, 1) := by decide +kernel
theorem dX8_wouldSay_12 : decode cX8_wouldSay 12 = .ok (.putfield 201, 3) := by decide +kernel
theorem dX8_wouldSay_15 : decode cX8_wouldSay 15 = .ok (.aload_n 0, 1) := by decide +kernel
theorem dX8_wouldSay_16 : decode cX8_wouldSay 16 = .ok (.iload_n 3, 1) := by decide +kernel
theorem dX8_wouldSay_17 : decode cX8_wouldSay 17 = .ok (.iload 4, 2) := by decide +kernel
theorem dX8_wouldSay_19 : decode cX8_wouldSay 19 = .ok (.invokevirtual 207, 3) := by decide +kernel
theorem dX8_wouldSay_22 : decode cX8_wouldSay 22 = .ok (.istore 5, 2) := by decide +kernel
theorem dX8_wouldSay_24 : decode cX8_wouldSay 24 = .ok (.aload_n 0, 1) := by decide +kernel
theorem dX8_wouldSay_25 : decode cX8_wouldSay 25 = .ok (.iconst (-1), 1) := by decide +kernel
theorem dX8_wouldSay_26 : decode cX8_wouldSay 26 = .ok (.putfield 52, 3) := by decide +kernel
theorem dX8_wouldSay_29 : decode cX8_wouldSay 29 = .ok (.iload 5, 2) := by decide +kernel
theorem dX8_wouldSay_31 : decode cX8_wouldSay 31 = .ok (.ireturn, 1) := by decide +kernel
theorem dX8_would_0 : decode cX8_would 0 = .ok (.aload_n 0, 1) := by decide +kernel
theorem dX8_would_1 : decode cX8_would 1 = .ok (.iload_n 1, 1) := by decide +kernel
theorem dX8_would_2 : decode cX8_would 2 = .ok (.invokevirtual 251, 3) := by decide +kernel
theorem dX8_would_5 : decode cX8_would 5 = .ok (.ifCond .eq 19, 3) := by decide +kernel
theorem dX8_would_8 : decode cX8_would 8 = .ok (.aload_n 0, 1) := by decide +kernel
theorem dX8_would_9 : decode cX8_would 9 = .ok (.iload_n 3, 1) := by decide +kernel
theorem dX8_would_10 : decode cX8_would 10 = .ok (.invokevirtual 109, 3) := by decide +kernel
theorem dX8_would_13 : decode cX8_would 13 = .ok (.ifCond .eq 11, 3) := by decide +kernel
theorem dX8_would_16 : decode cX8_would 16 = .ok (.iload 4, 2) := by decide +kernel
theorem dX8_would_18 : decode cX8_would 18 = .ok (.invokestatic 210, 3) := by decide +kernel
theorem dX8_would_21 : decode cX8_would 21 = .ok (.ifCond .ne 5, 3) := by decide +kernel
theorem dX8_would_24 : decode cX8_would 24 = .ok (.iconst (-1), 1) := by decide +kernel
theorem dX8_would_25 : decode cX8_would 25 = .ok (.ireturn, 1) := by decide +kernel
theorem dX8_would_26 : decode cX8_would 26 = .ok (.iload_n 2, 1) := by decide +kernel
theorem dX8_would_27 : decode cX8_would 27 = .ok (.iconst 0, 1) := by decide +kernel
theorem dX8_would_28 : decode cX8_would 28 = .ok (.bipush 99, 2) := by decide +kernel
theorem dX8_would_30 : decode cX8_would 30 = .ok (.invokestatic 80, 3) := by decide +kernel
theorem dX8_would_33 : decode cX8_would 33 = .ok (.ifCond .eq 15, 3) := by decide +kernel
theorem dX8_would_36 : decode cX8_would 36 = .ok (.aload_n 0, 1) := by decide +kernel
theorem dX8_would_37 : decode cX8_would 37 = .ok (.iload_n 1, 1) := by decide +kernel
theorem dX8_would_38 : decode cX8_would 38 = .ok (.iload_n 2, 1) := by decide +kernel
theorem dX8_would_39 : decode cX8_would 39 = .ok (.iload_n 3, 1) := by decide +kernel
theorem dX8_would_40 : decode cX8_would 40 = .ok (.iload 4, 2) := by decide +kernel
theorem dX8_would_42 : decode cX8_would 42 = .ok (.invokevirtual 254, 3) := by decide +kernel
theorem dX8_would_45 : decode cX8_would 45 = .ok (.goto 5, 3) := by decide +kernel
theorem dX8_would_48 : decode cX8_would 48 = .ok (.bipush (-2), 2) := by decide +kernel
theorem dX8_would_50 : decode cX8_would 50 = .ok (.ireturn, 1) := by decide +kernel
theorem dX8_paid_0 : decode cX8_paid 0 = .ok (.iload_n 1, 1) := by decide +kernel
theorem dX8_paid_1 : decode cX8_paid 1 = .ok (.iconst (-1), 1) := by decide +kernel
theorem dX8_paid_2 : decode cX8_paid 2 = .ok (.if_icmp .ne 10, 3) := by decide +kernel
theorem dX8_paid_5 : decode cX8_paid 5 = .ok (.aload_n 0, 1) := by decide +kernel
theorem dX8_paid_6 : decode cX8_paid 6 = .ok (.iconst 0, 1) := by decide +kernel
theorem dX8_paid_7 : decode cX8_paid 7 = .ok (.putfield 258, 3) := by decide +kernel
theorem dX8_paid_10 : decode cX8_paid 10 = .ok (.iconst 0, 1) := by decide +kernel
theorem dX8_paid_11 : decode cX8_paid 11 = .ok (.ireturn, 1) := by decide +kernel
theorem dX8_paid_12 : decode cX8_paid 12 = .ok (.iload_n 1, 1) := by decide +kernel
theorem dX8_paid_13 : decode cX8_paid 13 = .ok (.invokestatic 210, 3) := by decide +kernel
theorem dX8_paid_16 : decode cX8_paid 16 = .ok (.ifCond .ne 5, 3) := by decide +kernel
theorem dX8_paid_19 : decode cX8_paid 19 = .ok (.iconst (-1), 1) := by decide +kernel
theorem dX8_paid_20 : decode cX8_paid 20 = .ok (.ireturn, 1) := by decide +kernel
theorem dX8_paid_21 : decode cX8_paid 21 = .ok (.iload_n 2, 1) := by decide +kernel
theorem dX8_paid_22 : decode cX8_paid 22 = .ok (.iconst (-1), 1) := by decide +kernel
theorem dX8_paid_23 : decode cX8_paid 23 = .ok (.bipush 99, 2) := by decide +kernel
theorem dX8_paid_25 : decode cX8_paid 25 = .ok (.invokestatic 80, 3) := by decide +kernel
theorem dX8_paid_28 : decode cX8_paid 28 = .ok (.ifCond .ne 6, 3) := by decide +kernel
theorem dX8_paid_31 : decode cX8_paid 31 = .ok (.bipush (-2), 2) := by decide +kernel
theorem dX8_paid_33 : decode cX8_paid 33 = .ok (.ireturn, 1) := by decide +kernel
theorem dX8_paid_34 : decode cX8_paid 34 = .ok (.aload_n 0, 1) := by decide +kernel
theorem dX8_paid_35 : decode cX8_paid 35 = .ok (.getfield 258, 3) := by decide +kernel
theorem dX8_paid_38 : decode cX8_paid 38 = .ok (.bipush 8, 2) := by decide +kernel
theorem dX8_paid_40 : decode cX8_paid 40 = .ok (.if_icmp .ne 6, 3) := by decide +kernel
theorem dX8_paid_43 : decode cX8_paid 43 = .ok (.bipush (-4), 2) := by decide +kernel
theorem dX8_paid_45 : decode cX8_paid 45 = .ok (.ireturn, 1) := by decide +kernel
theorem dX8_paid_46 : decode cX8_paid 46 = .ok (.aload_n 0, 1) := by decide +kernel
theorem dX8_paid_47 : decode cX8_paid 47 = .ok (.getfield 33, 3) := by decide +kernel
theorem dX8_paid_50 : decode cX8_paid 50 = .ok (.aload_n 0, 1) := by decide +kernel
theorem dX8_paid_51 : decode cX8_paid 51 = .ok (.getfield 258, 3) := by decide +kernel
theorem dX8_paid_54 : decode cX8_paid 54 = .ok (.iload_n 1, 1) := by decide +kernel
theorem dX8_paid_55 : decode cX8_paid 55 = .ok (.iastore, 1) := by decide +kernel
theorem dX8_paid_56 : decode cX8_paid 56 = .ok (.aload_n 0, 1) := by decide +kernel
theorem dX8_paid_57 : decode cX8_paid 57 = .ok (.getfield 36, 3) := by decide +kernel
theorem dX8_paid_60 : decode cX8_paid 60 = .ok (.aload_n 0, 1) := by decide +kernel
theorem dX8_paid_61 : decode cX8_paid 61 = .ok (.getfield 258, 3) := by decide +kernel
theorem dX8_paid_64 : decode cX8_paid 64 = .ok (.iload_n 2, 1) := by decide +kernel
theorem dX8_paid_65 : decode cX8_paid 65 = .ok (.iastore, 1) := by decide +kernel
theorem dX8_paid_66 : decode cX8_paid 66 = .ok (.aload_n 0, 1) := by decide +kernel
theorem dX8_paid_67 : decode cX8_paid 67 = .ok (.dup, 1) := by decide +kernel
theorem dX8_paid_68 : decode cX8_paid 68 = .ok (.getfield 258, 3) := by decide +kernel
theorem dX8_paid_71 : decode cX8_paid 71 = .ok (.iconst 1, 1) := by decide +kernel
theorem dX8_paid_72 : decode cX8_paid 72 = .ok (.iadd, 1) := by decide +kernel
theorem dX8_paid_73 : decode cX8_paid 73 = .ok (.putfield 258, 3) := by decide +kernel
theorem dX8_paid_76 : decode cX8_paid 76 = .ok (.aload_n 0, 1) := by decide +kernel
theorem dX8_paid_77 : decode cX8_paid 77 = .ok (.getfield 258, 3) := by decide +kernel
theorem dX8_paid_80 : decode cX8_paid 80 = .ok (.ireturn, 1) := by decide +kernel
theorem dX8_fits_0 : decode cX8_fits 0 = .ok (.aload_n 0, 1) := by decide +kernel
theorem dX8_fits_1 : decode cX8_fits 1 = .ok (.iload_n 1, 1) := by decide +kernel
theorem dX8_fits_2 : decode cX8_fits 2 = .ok (.invokevirtual 251, 3) := by decide +kernel
theorem dX8_fits_5 : decode cX8_fits 5 = .ok (.ifCond .eq 20, 3) := by decide +kernel
theorem dX8_fits_8 : decode cX8_fits 8 = .ok (.aload_n 0, 1) := by decide +kernel
theorem dX8_fits_9 : decode cX8_fits 9 = .ok (.iload_n 2, 1) := by decide +kernel
theorem dX8_fits_10 : decode cX8_fits 10 = .ok (.invokevirtual 109, 3) := by decide +kernel
theorem dX8_fits_13 : decode cX8_fits 13 = .ok (.ifCond .eq 12, 3) := by decide +kernel
theorem dX8_fits_16 : decode cX8_fits 16 = .ok (.iload_n 3, 1) := by decide +kernel
theorem dX8_fits_17 : decode cX8_fits 17 = .ok (.iconst 0, 1) := by decide +kernel
theorem dX8_fits_18 : decode cX8_fits 18 = .ok (.iconst 1, 1) := by decide +kernel
theorem dX8_fits_19 : decode cX8_fits 19 = .ok (.invokestatic 80, 3) := by decide +kernel
theorem dX8_fits_22 : decode cX8_fits 22 = .ok (.ifCond .ne 5, 3) := by decide +kernel
theorem dX8_fits_25 : decode cX8_fits 25 = .ok (.iconst (-1), 1) := by decide +kernel
theorem dX8_fits_26 : decode cX8_fits 26 = .ok (.ireturn, 1) := by decide +kernel
theorem dX8_fits_27 : decode cX8_fits 27 = .ok (.iconst 0, 1) := by decide +kernel
theorem dX8_fits_28 : decode cX8_fits 28 = .ok (.istore 4, 2) := by decide +kernel
theorem dX8_fits_30 : decode cX8_fits 30 = .ok (.bipush (-5), 2) := by decide +kernel
theorem dX8_fits_32 : decode cX8_fits 32 = .ok (.istore 5, 2) := by decide +kernel
theorem dX8_fits_34 : decode cX8_fits 34 = .ok (.bipush 99, 2) := by decide +kernel
theorem dX8_fits_36 : decode cX8_fits 36 = .ok (.istore 6, 2) := by decide +kernel
theorem dX8_fits_38 : decode cX8_fits 38 = .ok (.iload 6, 2) := by decide +kernel
theorem dX8_fits_40 : decode cX8_fits 40 = .ok (.ifCond .lt 88, 3) := by decide +kernel
theorem dX8_fits_43 : decode cX8_fits 43 = .ok (.iconst 1, 1) := by decide +kernel
theorem dX8_fits_44 : decode cX8_fits 44 = .ok (.istore 7, 2) := by decide +kernel
theorem dX8_fits_46 : decode cX8_fits 46 = .ok (.iconst 0, 1) := by decide +kernel
theorem dX8_fits_47 : decode cX8_fits 47 = .ok (.istore 8, 2) := by decide +kernel
theorem dX8_fits_49 : decode cX8_fits 49 = .ok (.iload 8, 2) := by decide +kernel
theorem dX8_fits_51 : decode cX8_fits 51 = .ok (.aload_n 0, 1) := by decide +kernel
theorem dX8_fits_52 : decode cX8_fits 52 = .ok (.getfield 258, 3) := by decide +kernel
theorem dX8_fits_55 : decode cX8_fits 55 = .ok (.if_icmp .ge 52, 3) := by decide +kernel
theorem dX8_fits_58 : decode cX8_fits 58 = .ok (.aload_n 0, 1) := by decide +kernel
theorem dX8_fits_59 : decode cX8_fits 59 = .ok (.iload_n 1, 1) := by decide +kernel
theorem dX8_fits_60 : decode cX8_fits 60 = .ok (.iload 6, 2) := by decide +kernel
theorem dX8_fits_62 : decode cX8_fits 62 = .ok (.iload_n 2, 1) := by decide +kernel
theorem dX8_fits_63 : decode cX8_fits 63 = .ok (.aload_n 0, 1) := by decide +kernel
theorem dX8_fits_64 : decode cX8_fits 64 = .ok (.getfield 33, 3) := by decide +kernel
theorem dX8_fits_67 : decode cX8_fits 67 = .ok (.iload 8, 2) := by decide +kernel
theorem dX8_fits_69 : decode cX8_fits 69 = .ok (.iaload, 1) := by decide +kernel
theorem dX8_fits_70 : decode cX8_fits 70 = .ok (.invokevirtual 254, 3) := by decide +kernel
theorem dX8_fits_73 : decode cX8_fits 73 = .ok (.istore 9, 2) := by decide +kernel
theorem dX8_fits_75 : decode cX8_fits 75 = .ok (.iload 9, 2) := by decide +kernel
theorem dX8_fits_77 : decode cX8_fits 77 = .ok (.bipush (-5), 2) := by decide +kernel
theorem dX8_fits_79 : decode cX8_fits 79 = .ok (.if_icmp .ne 7, 3) := by decide +kernel
theorem dX8_fits_82 : decode cX8_fits 82 = .ok (.iconst (-1), 1) := by decide +kernel
theorem dX8_fits_83 : decode cX8_fits 83 = .ok (.goto 5, 3) := by decide +kernel
theorem dX8_fits_86 : decode cX8_fits 86 = .ok (.iload 9, 2) := by decide +kernel
theorem dX8_fits_88 : decode cX8_fits 88 = .ok (.aload_n 0, 1) := by decide +kernel
theorem dX8_fits_89 : decode cX8_fits 89 = .ok (.getfield 36, 3) := by decide +kernel
theorem dX8_fits_92 : decode cX8_fits 92 = .ok (.iload 8, 2) := by decide +kernel
theorem dX8_fits_94 : decode cX8_fits 94 = .ok (.iaload, 1) := by decide +kernel
theorem dX8_fits_95 : decode cX8_fits 95 = .ok (.if_icmp .eq 6, 3) := by decide +kernel
theorem dX8_fits_98 : decode cX8_fits 98 = .ok (.iconst 0, 1) := by decide +kernel
theorem dX8_fits_99 : decode cX8_fits 99 = .ok (.istore 7, 2) := by decide +kernel
theorem dX8_fits_101 : decode cX8_fits 101 = .ok (.iinc 8 1, 3) := by decide +kernel
theorem dX8_fits_104 : decode cX8_fits 104 = .ok (.goto (-55), 3) := by decide +kernel
theorem dX8_fits_107 : decode cX8_fits 107 = .ok (.iload 7, 2) := by decide +kernel
theorem dX8_fits_109 : decode cX8_fits 109 = .ok (.ifCond .ne 6, 3) := by decide +kernel
theorem dX8_fits_112 : decode cX8_fits 112 = .ok (.goto 10, 3) := by decide +kernel
theorem dX8_fits_115 : decode cX8_fits 115 = .ok (.iinc 4 1, 3) := by decide +kernel
theorem dX8_fits_118 : decode cX8_fits 118 = .ok (.iload 6, 2) := by decide +kernel
theorem dX8_fits_120 : decode cX8_fits 120 = .ok (.istore 5, 2) := by decide +kernel
theorem dX8_fits_122 : decode cX8_fits 122 = .ok (.iinc 6 (-1), 3) := by decide +kernel
theorem dX8_fits_125 : decode cX8_fits 125 = .ok (.goto (-87), 3) := by decide +kernel
theorem dX8_fits_128 : decode cX8_fits 128 = .ok (.iload_n 3, 1) := by decide +kernel
theorem dX8_fits_129 : decode cX8_fits 129 = .ok (.ifCond .ne 8, 3) := by decide +kernel
theorem dX8_fits_132 : decode cX8_fits 132 = .ok (.iload 4, 2) := by decide +kernel
theorem dX8_fits_134 : decode cX8_fits 134 = .ok (.goto 5, 3) := by decide +kernel
theorem dX8_fits_137 : decode cX8_fits 137 = .ok (.iload 5, 2) := by decide +kernel
theorem dX8_fits_139 : decode cX8_fits 139 = .ok (.ireturn, 1) := by decide +kernel
theorem dX8_till_0 : decode cX8_till 0 = .ok (.aload_n 0, 1) := by decide +kernel
theorem dX8_till_1 : decode cX8_till 1 = .ok (.iload_n 1, 1) := by decide +kernel
theorem dX8_till_2 : decode cX8_till 2 = .ok (.invokevirtual 109, 3) := by decide +kernel
theorem dX8_till_5 : decode cX8_till 5 = .ok (.ifCond .eq 13, 3) := by decide +kernel
theorem dX8_till_8 : decode cX8_till 8 = .ok (.iload 4, 2) := by decide +kernel
theorem dX8_till_10 : decode cX8_till 10 = .ok (.iconst 0, 1) := by decide +kernel
theorem dX8_till_11 : decode cX8_till 11 = .ok (.iconst 2, 1) := by decide +kernel
theorem dX8_till_12 : decode cX8_till 12 = .ok (.invokestatic 80, 3) := by decide +kernel
theorem dX8_till_15 : decode cX8_till 15 = .ok (.ifCond .ne 5, 3) := by decide +kernel
theorem dX8_till_18 : decode cX8_till 18 = .ok (.iconst (-1), 1) := by decide +kernel
theorem dX8_till_19 : decode cX8_till 19 = .ok (.ireturn, 1) := by decide +kernel
theorem dX8_till_20 : decode cX8_till 20 = .ok (.iload_n 3, 1) := by decide +kernel
theorem dX8_till_21 : decode cX8_till 21 = .ok (.iconst 1, 1) := by decide +kernel
theorem dX8_till_22 : decode cX8_till 22 = .ok (.bipush 40, 2) := by decide +kernel
theorem dX8_till_24 : decode cX8_till 24 = .ok (.invokestatic 80, 3) := by decide +kernel
theorem dX8_till_27 : decode cX8_till 27 = .ok (.ifCond .ne 6, 3) := by decide +kernel
theorem dX8_till_30 : decode cX8_till 30 = .ok (.bipush (-2), 2) := by decide +kernel
theorem dX8_till_32 : decode cX8_till 32 = .ok (.ireturn, 1) := by decide +kernel
theorem dX8_till_33 : decode cX8_till 33 = .ok (.aload_n 0, 1) := by decide +kernel
theorem dX8_till_34 : decode cX8_till 34 = .ok (.iconst (-1), 1) := by decide +kernel
theorem dX8_till_35 : decode cX8_till 35 = .ok (.putfield 194, 3) := by decide +kernel
theorem dX8_till_38 : decode cX8_till 38 = .ok (.iload_n 2, 1) := by decide +kernel
theorem dX8_till_39 : decode cX8_till 39 = .ok (.istore 5, 2) := by decide +kernel
theorem dX8_till_41 : decode cX8_till 41 = .ok (.iconst 0, 1) := by decide +kernel
theorem dX8_till_42 : decode cX8_till 42 = .ok (.istore 6, 2) := by decide +kernel
theorem dX8_till_44 : decode cX8_till 44 = .ok (.iconst 0, 1) := by decide +kernel
theorem dX8_till_45 : decode cX8_till 45 = .ok (.istore 7, 2) := by decide +kernel
theorem dX8_till_47 : decode cX8_till 47 = .ok (.bipush (-5), 2) := by decide +kernel
theorem dX8_till_49 : decode cX8_till 49 = .ok (.istore 8, 2) := by decide +kernel
theorem dX8_till_51 : decode cX8_till 51 = .ok (.iconst 0, 1) := by decide +kernel
theorem dX8_till_52 : decode cX8_till 52 = .ok (.istore 9, 2) := by decide +kernel
theorem dX8_till_54 : decode cX8_till 54 = .ok (.iload 9, 2) := by decide +kernel
theorem dX8_till_56 : decode cX8_till 56 = .ok (.iload_n 3, 1) := by decide +kernel
theorem dX8_till_57 : decode cX8_till 57 = .ok (.if_icmp .ge 71, 3) := by decide +kernel
theorem dX8_till_60 : decode cX8_till 60 = .ok (.iload 5, 2) := by decide +kernel
theorem dX8_till_62 : decode cX8_till 62 = .ok (.ldc_w 261, 3) := by decide +kernel
theorem dX8_till_65 : decode cX8_till 65 = .ok (.imul, 1) := by decide +kernel
theorem dX8_till_66 : decode cX8_till 66 = .ok (.ldc_w 262, 3) := by decide +kernel
theorem dX8_till_69 : decode cX8_till 69 = .ok (.iadd, 1) := by decide +kernel
theorem dX8_till_70 : decode cX8_till 70 = .ok (.istore 5, 2) := by decide +kernel
theorem dX8_till_72 : decode cX8_till 72 = .ok (.aload_n 0, 1) := by decide +kernel
theorem dX8_till_73 : decode cX8_till 73 = .ok (.iload_n 1, 1) := by decide +kernel
theorem dX8_till_74 : decode cX8_till 74 = .ok (.iload 5, 2) := by decide +kernel
theorem dX8_till_76 : decode cX8_till 76 = .ok (.ldc_w 263, 3) := by decide +kernel
theorem dX8_till_79 : decode cX8_till 79 = .ok (.iand, 1) := by decide +kernel
theorem dX8_till_80 : decode cX8_till 80 = .ok (.sipush 256, 3) := by decide +kernel
theorem dX8_till_83 : decode cX8_till 83 = .ok (.idiv, 1) := by decide +kernel
theorem dX8_till_84 : decode cX8_till 84 = .ok (.sipush 224, 3) := by decide +kernel
theorem dX8_till_87 : decode cX8_till 87 = .ok (.irem, 1) := by decide +kernel
theorem dX8_till_88 : decode cX8_till 88 = .ok (.invokevirtual 207, 3) := by decide +kernel
theorem dX8_till_91 : decode cX8_till 91 = .ok (.istore 10, 2) := by decide +kernel
theorem dX8_till_93 : decode cX8_till 93 = .ok (.iload 10, 2) := by decide +kernel
theorem dX8_till_95 : decode cX8_till 95 = .ok (.bipush (-5), 2) := by decide +kernel
theorem dX8_till_97 : decode cX8_till 97 = .ok (.if_icmp .ne 9, 3) := by decide +kernel
theorem dX8_till_100 : decode cX8_till 100 = .ok (.iinc 7 1, 3) := by decide +kernel
theorem dX8_till_103 : decode cX8_till 103 = .ok (.goto 10, 3) := by decide +kernel
theorem dX8_till_106 : decode cX8_till 106 = .ok (.iload 6, 2) := by decide +kernel
theorem dX8_till_108 : decode cX8_till 108 = .ok (.iload 10, 2) := by decide +kernel
theorem dX8_till_110 : decode cX8_till 110 = .ok (.iadd, 1) := by decide +kernel
theorem dX8_till_111 : decode cX8_till 111 = .ok (.istore 6, 2) := by decide +kernel
theorem dX8_till_113 : decode cX8_till 113 = .ok (.iload 8, 2) := by decide +kernel
theorem dX8_till_115 : decode cX8_till 115 = .ok (.iload 10, 2) := by decide +kernel
theorem dX8_till_117 : decode cX8_till 117 = .ok (.invokestatic 96, 3) := by decide +kernel
theorem dX8_till_120 : decode cX8_till 120 = .ok (.istore 8, 2) := by decide +kernel
theorem dX8_till_122 : decode cX8_till 122 = .ok (.iinc 9 1, 3) := by decide +kernel
theorem dX8_till_125 : decode cX8_till 125 = .ok (.goto (-71), 3) := by decide +kernel
theorem dX8_till_128 : decode cX8_till 128 = .ok (.iload 4, 2) := by decide +kernel
theorem dX8_till_130 : decode cX8_till 130 = .ok (.ifCond .ne 8, 3) := by decide +kernel
theorem dX8_till_133 : decode cX8_till 133 = .ok (.iload 6, 2) := by decide +kernel
theorem dX8_till_135 : decode cX8_till 135 = .ok (.goto 16, 3) := by decide +kernel
theorem dX8_till_138 : decode cX8_till 138 = .ok (.iload 4, 2) := by decide +kernel
theorem dX8_till_140 : decode cX8_till 140 = .ok (.iconst 1, 1) := by decide +kernel
theorem dX8_till_141 : decode cX8_till 141 = .ok (.if_icmp .ne 8, 3) := by decide +kernel
theorem dX8_till_144 : decode cX8_till 144 = .ok (.iload 7, 2) := by decide +kernel
theorem dX8_till_146 : decode cX8_till 146 = .ok (.goto 5, 3) := by decide +kernel
theorem dX8_till_149 : decode cX8_till 149 = .ok (.iload 8, 2) := by decide +kernel
theorem dX8_till_151 : decode cX8_till 151 = .ok (.ireturn, 1) := by decide +kernel
theorem dX8_isRack_0 : decode cX8_isRack 0 = .ok (.iload_n 0, 1) := by decide +kernel
theorem dX8_isRack_1 : decode cX8_isRack 1 = .ok (.iconst 0, 1) := by decide +kernel
theorem dX8_isRack_2 : decode cX8_isRack 2 = .ok (.iconst 3, 1) := by decide +kernel
theorem dX8_isRack_3 : decode cX8_isRack 3 = .ok (.invokestatic 80, 3) := by decide +kernel
theorem dX8_isRack_6 : decode cX8_isRack 6 = .ok (.ireturn, 1) := by decide +kernel
theorem dX8_rack_0 : decode cX8_rack 0 = .ok (.iload_n 1, 1) := by decide +kernel
theorem dX8_rack_1 : decode cX8_rack 1 = .ok (.invokestatic 264, 3) := by decide +kernel
theorem dX8_rack_4 : decode cX8_rack 4 = .ok (.ifCond .ne 5, 3) := by decide +kernel
theorem dX8_rack_7 : decode cX8_rack 7 = .ok (.iconst (-1), 1) := by decide +kernel
theorem dX8_rack_8 : decode cX8_rack 8 = .ok (.ireturn, 1) := by decide +kernel
theorem dX8_rack_9 : decode cX8_rack 9 = .ok (.iload_n 2, 1) := by decide +kernel
theorem dX8_rack_10 : decode cX8_rack 10 = .ok (.bipush 70, 2) := by decide +kernel
theorem dX8_rack_12 : decode cX8_rack 12 = .ok (.if_icmp .le 6, 3) := by decide +kernel
theorem dX8_rack_15 : decode cX8_rack 15 = .ok (.bipush (-2), 2) := by decide +kernel
theorem dX8_rack_17 : decode cX8_rack 17 = .ok (.ireturn, 1) := by decide +kernel
theorem dX8_rack_18 : decode cX8_rack 18 = .ok (.iload_n 2, 1) := by decide +kernel
theorem dX8_rack_19 : decode cX8_rack 19 = .ok (.ifCond .ge 6, 3) := by decide +kernel
theorem dX8_rack_22 : decode cX8_rack 22 = .ok (.bipush (-14), 2) := by decide +kernel
theorem dX8_rack_24 : decode cX8_rack 24 = .ok (.ireturn, 1) := by decide +kernel
theorem dX8_rack_25 : decode cX8_rack 25 = .ok (.aload_n 0, 1) := by decide +kernel
theorem dX8_rack_26 : decode cX8_rack 26 = .ok (.getfield 71, 3) := by decide +kernel
theorem dX8_rack_29 : decode cX8_rack 29 = .ok (.iload_n 1, 1) := by decide +kernel
theorem dX8_rack_30 : decode cX8_rack 30 = .ok (.iload_n 2, 1) := by decide +kernel
theorem dX8_rack_31 : decode cX8_rack 31 = .ok (.iconst 1, 1) := by decide +kernel
theorem dX8_rack_32 : decode cX8_rack 32 = .ok (.iadd, 1) := by decide +kernel
theorem dX8_rack_33 : decode cX8_rack 33 = .ok (.iastore, 1) := by decide +kernel
theorem dX8_rack_34 : decode cX8_rack 34 = .ok (.iconst 0, 1) := by decide +kernel
theorem dX8_rack_35 : decode cX8_rack 35 = .ok (.istore_n 3, 1) := by decide +kernel
theorem dX8_rack_36 : decode cX8_rack 36 = .ok (.iload_n 3, 1) := by decide +kernel
theorem dX8_rack_37 : decode cX8_rack 37 = .ok (.bipush 70, 2) := by decide +kernel
theorem dX8_rack_39 : decode cX8_rack 39 = .ok (.if_icmp .ge 21, 3) := by decide +kernel
theorem dX8_rack_42 : decode cX8_rack 42 = .ok (.aload_n 0, 1) := by decide +kernel
theorem dX8_rack_43 : decode cX8_rack 43 = .ok (.getfield 74, 3) := by decide +kernel
theorem dX8_rack_46 : decode cX8_rack 46 = .ok (.bipush 70, 2) := by decide +kernel
theorem dX8_rack_48 : decode cX8_rack 48 = .ok (.iload_n 1, 1) := by decide +kernel
theorem dX8_rack_49 : decode cX8_rack 49 = .ok (.imul, 1) := by decide +kernel
theorem dX8_rack_50 : decode cX8_rack 50 = .ok (.iload_n 3, 1) := by decide +kernel
theorem dX8_rack_51 : decode cX8_rack 51 = .ok (.iadd, 1) := by decide +kernel
theorem dX8_rack_52 : decode cX8_rack 52 = .ok (.iconst 0, 1) := by decide +kernel
theorem dX8_rack_53 : decode cX8_rack 53 = .ok (.iastore, 1) := by decide +kernel
theorem dX8_rack_54 : decode cX8_rack 54 = .ok (.iinc 3 1, 3) := by decide +kernel
theorem dX8_rack_57 : decode cX8_rack 57 = .ok (.goto (-21), 3) := by decide +kernel
theorem dX8_rack_60 : decode cX8_rack 60 = .ok (.iconst 1, 1) := by decide +kernel
theorem dX8_rack_61 : decode cX8_rack 61 = .ok (.ireturn, 1) := by decide +kernel
theorem dX8_put_0 : decode cX8_put 0 = .ok (.iload_n 1, 1) := by decide +kernel
theorem dX8_put_1 : decode cX8_put 1 = .ok (.invokestatic 264, 3) := by decide +kernel
theorem dX8_put_4 : decode cX8_put 4 = .ok (.ifCond .ne 5, 3) := by decide +kernel
theorem dX8_put_7 : decode cX8_put 7 = .ok (.iconst (-1), 1) := by decide +kernel
theorem dX8_put_8 : decode cX8_put 8 = .ok (.ireturn, 1) := by decide +kernel
theorem dX8_put_9 : decode cX8_put 9 = .ok (.aload_n 0, 1) := by decide +kernel
theorem dX8_put_10 : decode cX8_put 10 = .ok (.getfield 71, 3) := by decide +kernel
theorem dX8_put_13 : decode cX8_put 13 = .ok (.iload_n 1, 1) := by decide +kernel
theorem dX8_put_14 : decode cX8_put 14 = .ok (.iaload, 1) := by decide +kernel
theorem dX8_put_15 : decode cX8_put 15 = .ok (.ifCond .ne 6, 3) := by decide +kernel
theorem dX8_put_18 : decode cX8_put 18 = .ok (.bipush (-11), 2) := by decide +kernel
theorem dX8_put_20 : decode cX8_put 20 = .ok (.ireturn, 1) := by decide +kernel
theorem dX8_put_21 : decode cX8_put 21 = .ok (.iload_n 2, 1) := by decide +kernel
theorem dX8_put_22 : decode cX8_put 22 = .ok (.iconst 0, 1) := by decide +kernel
theorem dX8_put_23 : decode cX8_put 23 = .ok (.aload_n 0, 1) := by decide +kernel
theorem dX8_put_24 : decode cX8_put 24 = .ok (.getfield 71, 3) := by decide +kernel
theorem dX8_put_27 : decode cX8_put 27 = .ok (.iload_n 1, 1) := by decide +kernel
theorem dX8_put_28 : decode cX8_put 28 = .ok (.iaload, 1) := by decide +kernel
theorem dX8_put_29 : decode cX8_put 29 = .ok (.iconst 2, 1) := by decide +kernel
theorem dX8_put_30 : decode cX8_put 30 = .ok (.isub, 1) := by decide +kernel
theorem dX8_put_31 : decode cX8_put 31 = .ok (.invokestatic 80, 3) := by decide +kernel
theorem dX8_put_34 : decode cX8_put 34 = .ok (.ifCond .ne 6, 3) := by decide +kernel
theorem dX8_put_37 : decode cX8_put 37 = .ok (.bipush (-13), 2) := by decide +kernel
theorem dX8_put_39 : decode cX8_put 39 = .ok (.ireturn, 1) := by decide +kernel
theorem dX8_put_40 : decode cX8_put 40 = .ok (.aload_n 0, 1) := by decide +kernel
theorem dX8_put_41 : decode cX8_put 41 = .ok (.getfield 74, 3) := by decide +kernel
theorem dX8_put_44 : decode cX8_put 44 = .ok (.bipush 70, 2) := by decide +kernel
theorem dX8_put_46 : decode cX8_put 46 = .ok (.iload_n 1, 1) := by decide +kernel
theorem dX8_put_47 : decode cX8_put 47 = .ok (.imul, 1) := by decide +kernel
theorem dX8_put_48 : decode cX8_put 48 = .ok (.iload_n 2, 1) := by decide +kernel
theorem dX8_put_49 : decode cX8_put 49 = .ok (.iadd, 1) := by decide +kernel
theorem dX8_put_50 : decode cX8_put 50 = .ok (.iload_n 3, 1) := by decide +kernel
theorem dX8_put_51 : decode cX8_put 51 = .ok (.iastore, 1) := by decide +kernel
theorem dX8_put_52 : decode cX8_put 52 = .ok (.iconst 1, 1) := by decide +kernel
theorem dX8_put_53 : decode cX8_put 53 = .ok (.ireturn, 1) := by decide +kernel
theorem dX8_get_0 : decode cX8_get 0 = .ok (.iload_n 1, 1) := by decide +kernel
theorem dX8_get_1 : decode cX8_get 1 = .ok (.invokestatic 264, 3) := by decide +kernel
theorem dX8_get_4 : decode cX8_get 4 = .ok (.ifCond .eq 34, 3) := by decide +kernel
theorem dX8_get_7 : decode cX8_get 7 = .ok (.iload_n 2, 1) := by decide +kernel
theorem dX8_get_8 : decode cX8_get 8 = .ok (.iconst 0, 1) := by decide +kernel
theorem dX8_get_9 : decode cX8_get 9 = .ok (.aload_n 0, 1) := by decide +kernel
theorem dX8_get_10 : decode cX8_get 10 = .ok (.getfield 71, 3) := by decide +kernel
theorem dX8_get_13 : decode cX8_get 13 = .ok (.iload_n 1, 1) := by decide +kernel
theorem dX8_get_14 : decode cX8_get 14 = .ok (.iaload, 1) := by decide +kernel
theorem dX8_get_15 : decode cX8_get 15 = .ok (.iconst 2, 1) := by decide +kernel
theorem dX8_get_16 : decode cX8_get 16 = .ok (.isub, 1) := by decide +kernel
theorem dX8_get_17 : decode cX8_get 17 = .ok (.invokestatic 80, 3) := by decide +kernel
theorem dX8_get_20 : decode cX8_get 20 = .ok (.ifCond .eq 18, 3) := by decide +kernel
theorem dX8_get_23 : decode cX8_get 23 = .ok (.aload_n 0, 1) := by decide +kernel
theorem dX8_get_24 : decode cX8_get 24 = .ok (.getfield 74, 3) := by decide +kernel
theorem dX8_get_27 : decode cX8_get 27 = .ok (.bipush 70, 2) := by decide +kernel
theorem dX8_get_29 : decode cX8_get 29 = .ok (.iload_n 1, 1) := by decide +kernel
theorem dX8_get_30 : decode cX8_get 30 = .ok (.imul, 1) := by decide +kernel
theorem dX8_get_31 : decode cX8_get 31 = .ok (.iload_n 2, 1) := by decide +kernel
theorem dX8_get_32 : decode cX8_get 32 = .ok (.iadd, 1) := by decide +kernel
theorem dX8_get_33 : decode cX8_get 33 = .ok (.iaload, 1) := by decide +kernel
theorem dX8_get_34 : decode cX8_get 34 = .ok (.i2l, 1) := by decide +kernel
theorem dX8_get_35 : decode cX8_get 35 = .ok (.goto 6, 3) := by decide +kernel
theorem dX8_get_38 : decode cX8_get 38 = .ok (.ldc2_w 217, 3) := by decide +kernel
theorem dX8_get_41 : decode cX8_get 41 = .ok (.lreturn, 1) := by decide +kernel
theorem dX8_lay_0 : decode cX8_lay 0 = .ok (.aload_n 0, 1) := by decide +kernel
theorem dX8_lay_1 : decode cX8_lay 1 = .ok (.iload_n 1, 1) := by decide +kernel
theorem dX8_lay_2 : decode cX8_lay 2 = .ok (.invokevirtual 109, 3) := by decide +kernel
theorem dX8_lay_5 : decode cX8_lay 5 = .ok (.ifCond .eq 10, 3) := by decide +kernel
theorem dX8_lay_8 : decode cX8_lay 8 = .ok (.iload_n 2, 1) := by decide +kernel
theorem dX8_lay_9 : decode cX8_lay 9 = .ok (.invokestatic 264, 3) := by decide +kernel
theorem dX8_lay_12 : decode cX8_lay 12 = .ok (.ifCond .ne 5, 3) := by decide +kernel
theorem dX8_lay_15 : decode cX8_lay 15 = .ok (.iconst (-1), 1) := by decide +kernel
theorem dX8_lay_16 : decode cX8_lay 16 = .ok (.ireturn, 1) := by decide +kernel
theorem dX8_lay_17 : decode cX8_lay 17 = .ok (.aload_n 0, 1) := by decide +kernel
theorem dX8_lay_18 : decode cX8_lay 18 = .ok (.getfield 71, 3) := by decide +kernel
theorem dX8_lay_21 : decode cX8_lay 21 = .ok (.iload_n 2, 1) := by decide +kernel
theorem dX8_lay_22 : decode cX8_lay 22 = .ok (.iaload, 1) := by decide +kernel
theorem dX8_lay_23 : decode cX8_lay 23 = .ok (.ifCond .ne 6, 3) := by decide +kernel
theorem dX8_lay_26 : decode cX8_lay 26 = .ok (.bipush (-11), 2) := by decide +kernel
theorem dX8_lay_28 : decode cX8_lay 28 = .ok (.ireturn, 1) := by decide +kernel
theorem dX8_lay_29 : decode cX8_lay 29 = .ok (.aload_n 0, 1) := by decide +kernel
theorem dX8_lay_30 : decode cX8_lay 30 = .ok (.iload_n 1, 1) := by decide +kernel
theorem dX8_lay_31 : decode cX8_lay 31 = .ok (.iload_n 1, 1) := by decide +kernel
theorem dX8_lay_32 : decode cX8_lay 32 = .ok (.iconst 0, 1) := by decide +kernel
theorem dX8_lay_33 : decode cX8_lay 33 = .ok (.invokevirtual 235, 3) := by decide +kernel
theorem dX8_lay_36 : decode cX8_lay 36 = .ok (.iconst 0, 1) := by decide +kernel
theorem dX8_lay_37 : decode cX8_lay 37 = .ok (.istore 4, 2) := by decide +kernel
theorem dX8_lay_39 : decode cX8_lay 39 = .ok (.iload 4, 2) := by decide +kernel
theorem dX8_lay_41 : decode cX8_lay 41 = .ok (.bipush 7, 2) := by decide +kernel
theorem dX8_lay_43 : decode cX8_lay 43 = .ok (.aload_n 0, 1) := by decide +kernel
theorem dX8_lay_44 : decode cX8_lay 44 = .ok (.getfield 225, 3) := by decide +kernel
theorem dX8_lay_47 : decode cX8_lay 47 = .ok (.imul, 1) := by decide +kernel
theorem dX8_lay_48 : decode cX8_lay 48 = .ok (.if_icmp .ge 71, 3) := by decide +kernel
theorem dX8_lay_51 : decode cX8_lay 51 = .ok (.iload_n 3, 1) := by decide +kernel
theorem dX8_lay_52 : decode cX8_lay 52 = .ok (.iload 4, 2) := by decide +kernel
theorem dX8_lay_54 : decode cX8_lay 54 = .ok (.iadd, 1) := by decide +kernel
theorem dX8_lay_55 : decode cX8_lay 55 = .ok (.istore 5, 2) := by decide +kernel
theorem dX8_lay_57 : decode cX8_lay 57 = .ok (.iload_n 3, 1) := by decide +kernel
theorem dX8_lay_58 : decode cX8_lay 58 = .ok (.ifCond .lt 21, 3) := by decide +kernel
theorem dX8_lay_61 : decode cX8_lay 61 = .ok (.iload 5, 2) := by decide +kernel
theorem dX8_lay_63 : decode cX8_lay 63 = .ok (.ifCond .lt 16, 3) := by decide +kernel
theorem dX8_lay_66 : decode cX8_lay 66 = .ok (.iload 5, 2) := by decide +kernel
theorem dX8_lay_68 : decode cX8_lay 68 = .ok (.aload_n 0, 1) := by decide +kernel
theorem dX8_lay_69 : decode cX8_lay 69 = .ok (.getfield 71, 3) := by decide +kernel
theorem dX8_lay_72 : decode cX8_lay 72 = .ok (.iload_n 2, 1) := by decide +kernel
theorem dX8_lay_73 : decode cX8_lay 73 = .ok (.iaload, 1) := by decide +kernel
theorem dX8_lay_74 : decode cX8_lay 74 = .ok (.iconst 2, 1) := by decide +kernel
theorem dX8_lay_75 : decode cX8_lay 75 = .ok (.isub, 1) := by decide +kernel
theorem dX8_lay_76 : decode cX8_lay 76 = .ok (.if_icmp .le 6, 3) := by decide +kernel
theorem dX8_lay_79 : decode cX8_lay 79 = .ok (.bipush (-13), 2) := by decide +kernel
theorem dX8_lay_81 : decode cX8_lay 81 = .ok (.ireturn, 1) := by decide +kernel
theorem dX8_lay_82 : decode cX8_lay 82 = .ok (.aload_n 0, 1) := by decide +kernel
theorem dX8_lay_83 : decode cX8_lay 83 = .ok (.getfield 74, 3) := by decide +kernel
theorem dX8_lay_86 : decode cX8_lay 86 = .ok (.bipush 70, 2) := by decide +kernel
theorem dX8_lay_88 : decode cX8_lay 88 = .ok (.iload_n 2, 1) := by decide +kernel
theorem dX8_lay_89 : decode cX8_lay 89 = .ok (.imul, 1) := by decide +kernel
theorem dX8_lay_90 : decode cX8_lay 90 = .ok (.iload 5, 2) := by decide +kernel
theorem dX8_lay_92 : decode cX8_lay 92 = .ok (.iadd, 1) := by decide +kernel
theorem dX8_lay_93 : decode cX8_lay 93 = .ok (.aload_n 0, 1) := by decide +kernel
theorem dX8_lay_94 : decode cX8_lay 94 = .ok (.getfield 49, 3) := by decide +kernel
theorem dX8_lay_97 : decode cX8_lay 97 = .ok (.bipush 8, 2) := by decide +kernel
theorem dX8_lay_99 : decode cX8_lay 99 = .ok (.iload 4, 2) := by decide +kernel
theorem dX8_lay_101 : decode cX8_lay 101 = .ok (.bipush 7, 2) := by decide +kernel
theorem dX8_lay_103 : decode cX8_lay 103 = .ok (.idiv, 1) := by decide +kernel
theorem dX8_lay_104 : decode cX8_lay 104 = .ok (.imul, 1) := by decide +kernel
theorem dX8_lay_105 : decode cX8_lay 105 = .ok (.iload 4, 2) := by decide +kernel
theorem dX8_lay_107 : decode cX8_lay 107 = .ok (.bipush 7, 2) := by decide +kernel
theorem dX8_lay_109 : decode cX8_lay 109 = .ok (.irem, 1) := by decide +kernel
theorem dX8_lay_110 : decode cX8_lay 110 = .ok (.iadd, 1) := by decide +kernel
theorem dX8_lay_111 : decode cX8_lay 111 = .ok (.iaload, 1) := by decide +kernel
theorem dX8_lay_112 : decode cX8_lay 112 = .ok (.iastore, 1) := by decide +kernel
theorem dX8_lay_113 : decode cX8_lay 113 = .ok (.iinc 4 1, 3) := by decide +kernel
theorem dX8_lay_116 : decode cX8_lay 116 = .ok (.goto (-77), 3) := by decide +kernel
theorem dX8_lay_119 : decode cX8_lay 119 = .ok (.bipush 7, 2) := by decide +kernel
theorem dX8_lay_121 : decode cX8_lay 121 = .ok (.aload_n 0, 1) := by decide +kernel
theorem dX8_lay_122 : decode cX8_lay 122 = .ok (.getfield 225, 3) := by decide +kernel
theorem dX8_lay_125 : decode cX8_lay 125 = .ok (.imul, 1) := by decide +kernel
theorem dX8_lay_126 : decode cX8_lay 126 = .ok (.ireturn, 1) := by decide +kernel
theorem dX8_tellsOf_0 : decode cX8_tellsOf 0 = .ok (.iconst 0, 1) := by decide +kernel
theorem dX8_tellsOf_1 : decode cX8_tellsOf 1 = .ok (.istore 4, 2) := by decide +kernel
theorem dX8_tellsOf_3 : decode cX8_tellsOf 3 = .ok (.iload 4, 2) := by decide +kernel
theorem dX8_tellsOf_5 : decode cX8_tellsOf 5 = .ok (.iload_n 2, 1) := by decide +kernel
theorem dX8_tellsOf_6 : decode cX8_tellsOf 6 = .ok (.if_icmp .ge 82, 3) := by decide +kernel
theorem dX8_tellsOf_9 : decode cX8_tellsOf 9 = .ok (.iconst 0, 1) := by decide +kernel
theorem dX8_tellsOf_10 : decode cX8_tellsOf 10 = .ok (.istore 5, 2) := by decide +kernel
theorem dX8_tellsOf_12 : decode cX8_tellsOf 12 = .ok (.iconst 0, 1) := by decide +kernel
theorem dX8_tellsOf_13 : decode cX8_tellsOf 13 = .ok (.istore 6, 2) := by decide +kernel
theorem dX8_tellsOf_15 : decode cX8_tellsOf 15 = .ok (.iload 6, 2) := by decide +kernel
theorem dX8_tellsOf_17 : decode cX8_tellsOf 17 = .ok (.bipush 6, 2) := by decide +kernel
theorem dX8_tellsOf_19 : decode cX8_tellsOf 19 = .ok (.if_icmp .ge 35, 3) := by decide +kernel
theorem dX8_tellsOf_22 : decode cX8_tellsOf 22 = .ok (.bipush 10, 2) := by decide +kernel
theorem dX8_tellsOf_24 : decode cX8_tellsOf 24 = .ok (.iload 5, 2) := by decide +kernel
theorem dX8_tellsOf_26 : decode cX8_tellsOf 26 = .ok (.imul, 1) := by decide +kernel
theorem dX8_tellsOf_27 : decode cX8_tellsOf 27 = .ok (.aload_n 0, 1) := by decide +kernel
theorem dX8_tellsOf_28 : decode cX8_tellsOf 28 = .ok (.getfield 74, 3) := by decide +kernel
theorem dX8_tellsOf_31 : decode cX8_tellsOf 31 = .ok (.bipush 70, 2) := by decide +kernel
theorem dX8_tellsOf_33 : decode cX8_tellsOf 33 = .ok (.iload_n 1, 1) := by decide +kernel
theorem dX8_tellsOf_34 : decode cX8_tellsOf 34 = .ok (.imul, 1) := by decide +kernel
theorem dX8_tellsOf_35 : decode cX8_tellsOf 35 = .ok (.bipush 7, 2) := by decide +kernel
theorem dX8_tellsOf_37 : decode cX8_tellsOf 37 = .ok (.iload 4, 2) := by decide +kernel
theorem dX8_tellsOf_39 : decode cX8_tellsOf 39 = .ok (.imul, 1) := by decide +kernel
theorem dX8_tellsOf_40 : decode cX8_tellsOf 40 = .ok (.iadd, 1) := by decide +kernel
theorem dX8_tellsOf_41 : decode cX8_tellsOf 41 = .ok (.iload 6, 2) := by decide +kernel
theorem dX8_tellsOf_43 : decode cX8_tellsOf 43 = .ok (.iadd, 1) := by decide +kernel
theorem dX8_tellsOf_44 : decode cX8_tellsOf 44 = .ok (.iaload, 1) := by decide +kernel
theorem dX8_tellsOf_45 : decode cX8_tellsOf 45 = .ok (.iadd, 1) := by decide +kernel
theorem dX8_tellsOf_46 : decode cX8_tellsOf 46 = .ok (.istore 5, 2) := by decide +kernel
theorem dX8_tellsOf_48 : decode cX8_tellsOf 48 = .ok (.iinc 6 1, 3) := by decide +kernel
theorem dX8_tellsOf_51 : decode cX8_tellsOf 51 = .ok (.goto (-36), 3) := by decide +kernel
theorem dX8_tellsOf_54 : decode cX8_tellsOf 54 = .ok (.iload_n 3, 1) := by decide +kernel
theorem dX8_tellsOf_55 : decode cX8_tellsOf 55 = .ok (.iload 5, 2) := by decide +kernel
theorem dX8_tellsOf_57 : decode cX8_tellsOf 57 = .ok (.invokestatic 197, 3) := by decide +kernel
theorem dX8_tellsOf_60 : decode cX8_tellsOf 60 = .ok (.ifCond .eq 22, 3) := by decide +kernel
theorem dX8_tellsOf_63 : decode cX8_tellsOf 63 = .ok (.aload_n 0, 1) := by decide +kernel
theorem dX8_tellsOf_64 : decode cX8_tellsOf 64 = .ok (.getfield 74, 3) := by decide +kernel
theorem dX8_tellsOf_67 : decode cX8_tellsOf 67 = .ok (.bipush 70, 2) := by decide +kernel
theorem dX8_tellsOf_69 : decode cX8_tellsOf 69 = .ok (.iload_n 1, 1) := by decide +kernel
theorem dX8_tellsOf_70 : decode cX8_tellsOf 70 = .ok (.imul, 1) := by decide +kernel
theorem dX8_tellsOf_71 : decode cX8_tellsOf 71 = .ok (.bipush 7, 2) := by decide +kernel
theorem dX8_tellsOf_73 : decode cX8_tellsOf 73 = .ok (.iload 4, 2) := by decide +kernel
theorem dX8_tellsOf_75 : decode cX8_tellsOf 75 = .ok (.imul, 1) := by decide +kernel
theorem dX8_tellsOf_76 : decode cX8_tellsOf 76 = .ok (.iadd, 1) := by decide +kernel
theorem dX8_tellsOf_77 : decode cX8_tellsOf 77 = .ok (.bipush 6, 2) := by decide +kernel
theorem dX8_tellsOf_79 : decode cX8_tellsOf 79 = .ok (.iadd, 1) := by decide +kernel
theorem dX8_tellsOf_80 : decode cX8_tellsOf 80 = .ok (.iaload, 1) := by decide +kernel
theorem dX8_tellsOf_81 : decode cX8_tellsOf 81 = .ok (.ireturn, 1) := by decide +kernel
theorem dX8_tellsOf_82 : decode cX8_tellsOf 82 = .ok (.iinc 4 1, 3) := by decide +kernel
theorem dX8_tellsOf_85 : decode cX8_tellsOf 85 = .ok (.goto (-82), 3) := by decide +kernel
theorem dX8_tellsOf_88 : decode cX8_tellsOf 88 = .ok (.bipush (-5), 2) := by decide +kernel
theorem dX8_tellsOf_90 : decode cX8_tellsOf 90 = .ok (.ireturn, 1) := by decide +kernel
theorem dX8_judge_0 : decode cX8_judge 0 = .ok (.iload_n 1, 1) := by decide +kernel
theorem dX8_judge_1 : decode cX8_judge 1 = .ok (.invokestatic 264, 3) := by decide +kernel
theorem dX8_judge_4 : decode cX8_judge 4 = .ok (.ifCond .eq 11, 3) := by decide +kernel
theorem dX8_judge_7 : decode cX8_judge 7 = .ok (.aload_n 0, 1) := by decide +kernel
theorem dX8_judge_8 : decode cX8_judge 8 = .ok (.iload_n 2, 1) := by decide +kernel
theorem dX8_judge_9 : decode cX8_judge 9 = .ok (.invokevirtual 109, 3) := by decide +kernel
theorem dX8_judge_12 : decode cX8_judge 12 = .ok (.ifCond .ne 5, 3) := by decide +kernel
theorem dX8_judge_15 : decode cX8_judge 15 = .ok (.iconst (-1), 1) := by decide +kernel
theorem dX8_judge_16 : decode cX8_judge 16 = .ok (.ireturn, 1) := by decide +kernel
theorem dX8_judge_17 : decode cX8_judge 17 = .ok (.aload_n 0, 1) := by decide +kernel
theorem dX8_judge_18 : decode cX8_judge 18 = .ok (.getfield 71, 3) := by decide +kernel
theorem dX8_judge_21 : decode cX8_judge 21 = .ok (.iload_n 1, 1) := by decide +kernel
theorem dX8_judge_22 : decode cX8_judge 22 = .ok (.iaload, 1) := by decide +kernel
theorem dX8_judge_23 : decode cX8_judge 23 = .ok (.ifCond .ne 6, 3) := by decide +kernel
theorem dX8_judge_26 : decode cX8_judge 26 = .ok (.bipush (-11), 2) := by decide +kernel
theorem dX8_judge_28 : decode cX8_judge 28 = .ok (.ireturn, 1) := by decide +kernel
theorem dX8_judge_29 : decode cX8_judge 29 = .ok (.aload_n 0, 1) := by decide +kernel
theorem dX8_judge_30 : decode cX8_judge 30 = .ok (.getfield 71, 3) := by decide +kernel
theorem dX8_judge_33 : decode cX8_judge 33 = .ok (.iload_n 1, 1) := by decide +kernel
theorem dX8_judge_34 : decode cX8_judge 34 = .ok (.iaload, 1) := by decide +kernel
theorem dX8_judge_35 : decode cX8_judge 35 = .ok (.iconst 1, 1) := by decide +kernel
theorem dX8_judge_36 : decode cX8_judge 36 = .ok (.isub, 1) := by decide +kernel
theorem dX8_judge_37 : decode cX8_judge 37 = .ok (.istore_n 3, 1) := by decide +kernel
theorem dX8_judge_38 : decode cX8_judge 38 = .ok (.iconst 0, 1) := by decide +kernel
theorem dX8_judge_39 : decode cX8_judge 39 = .ok (.istore 4, 2) := by decide +kernel
theorem dX8_judge_41 : decode cX8_judge 41 = .ok (.iload 4, 2) := by decide +kernel
theorem dX8_judge_43 : decode cX8_judge 43 = .ok (.iload_n 3, 1) := by decide +kernel
theorem dX8_judge_44 : decode cX8_judge 44 = .ok (.if_icmp .ge 103, 3) := by decide +kernel
theorem dX8_judge_47 : decode cX8_judge 47 = .ok (.iload 4, 2) := by decide +kernel
theorem dX8_judge_49 : decode cX8_judge 49 = .ok (.bipush 7, 2) := by decide +kernel
theorem dX8_judge_51 : decode cX8_judge 51 = .ok (.irem, 1) := by decide +kernel
theorem dX8_judge_52 : decode cX8_judge 52 = .ok (.istore 5, 2) := by decide +kernel
theorem dX8_judge_54 : decode cX8_judge 54 = .ok (.aload_n 0, 1) := by decide +kernel
theorem dX8_judge_55 : decode cX8_judge 55 = .ok (.getfield 74, 3) := by decide +kernel
theorem dX8_judge_58 : decode cX8_judge 58 = .ok (.bipush 70, 2) := by decide +kernel
theorem dX8_judge_60 : decode cX8_judge 60 = .ok (.iload_n 1, 1) := by decide +kernel
theorem dX8_judge_61 : decode cX8_judge 61 = .ok (.imul, 1) := by decide +kernel
theorem dX8_judge_62 : decode cX8_judge 62 = .ok (.iload 4, 2) := by decide +kernel
theorem dX8_judge_64 : decode cX8_judge 64 = .ok (.iadd, 1) := by decide +kernel
theorem dX8_judge_65 : decode cX8_judge 65 = .ok (.iaload, 1) := by decide +kernel
theorem dX8_judge_66 : decode cX8_judge 66 = .ok (.istore 6, 2) := by decide +kernel
theorem dX8_judge_68 : decode cX8_judge 68 = .ok (.iload 5, 2) := by decide +kernel
theorem dX8_judge_70 : decode cX8_judge 70 = .ok (.bipush 6, 2) := by decide +kernel
theorem dX8_judge_72 : decode cX8_judge 72 = .ok (.if_icmp .ne 14, 3) := by decide +kernel
theorem dX8_judge_75 : decode cX8_judge 75 = .ok (.iload 6, 2) := by decide +kernel
theorem dX8_judge_77 : decode cX8_judge 77 = .ok (.iconst 0, 1) := by decide +kernel
theorem dX8_judge_78 : decode cX8_judge 78 = .ok (.bipush 99, 2) := by decide +kernel
theorem dX8_judge_80 : decode cX8_judge 80 = .ok (.invokestatic 80, 3) := by decide +kernel
theorem dX8_judge_83 : decode cX8_judge 83 = .ok (.goto 39, 3) := by decide +kernel
theorem dX8_judge_86 : decode cX8_judge 86 = .ok (.iload 6, 2) := by decide +kernel
theorem dX8_judge_88 : decode cX8_judge 88 = .ok (.iload 5, 2) := by decide +kernel
theorem dX8_judge_90 : decode cX8_judge 90 = .ok (.iconst 2, 1) := by decide +kernel
theorem dX8_judge_91 : decode cX8_judge 91 = .ok (.irem, 1) := by decide +kernel
theorem dX8_judge_92 : decode cX8_judge 92 = .ok (.iconst 1, 1) := by decide +kernel
theorem dX8_judge_93 : decode cX8_judge 93 = .ok (.if_icmp .ne 20, 3) := by decide +kernel
theorem dX8_judge_96 : decode cX8_judge 96 = .ok (.aload_n 0, 1) := by decide +kernel
theorem dX8_judge_97 : decode cX8_judge 97 = .ok (.getfield 74, 3) := by decide +kernel
theorem dX8_judge_100 : decode cX8_judge 100 = .ok (.bipush 70, 2) := by decide +kernel
theorem dX8_judge_102 : decode cX8_judge 102 = .ok (.iload_n 1, 1) := by decide +kernel
theorem dX8_judge_103 : decode cX8_judge 103 = .ok (.imul, 1) := by decide +kernel
theorem dX8_judge_104 : decode cX8_judge 104 = .ok (.iload 4, 2) := by decide +kernel
theorem dX8_judge_106 : decode cX8_judge 106 = .ok (.iadd, 1) := by decide +kernel
theorem dX8_judge_107 : decode cX8_judge 107 = .ok (.iconst 1, 1) := by decide +kernel
theorem dX8_judge_108 : decode cX8_judge 108 = .ok (.isub, 1) := by decide +kernel
theorem dX8_judge_109 : decode cX8_judge 109 = .ok (.iaload, 1) := by decide +kernel
theorem dX8_judge_110 : decode cX8_judge 110 = .ok (.goto 4, 3) := by decide +kernel
theorem dX8_judge_113 : decode cX8_judge 113 = .ok (.iconst 0, 1) := by decide +kernel
theorem dX8_judge_114 : decode cX8_judge 114 = .ok (.iload 5, 2) := by decide +kernel
theorem dX8_judge_116 : decode cX8_judge 116 = .ok (.invokestatic 89, 3) := by decide +kernel
theorem dX8_judge_119 : decode cX8_judge 119 = .ok (.invokestatic 80, 3) := by decide +kernel
theorem dX8_judge_122 : decode cX8_judge 122 = .ok (.istore 7, 2) := by decide +kernel
theorem dX8_judge_124 : decode cX8_judge 124 = .ok (.iload 7, 2) := by decide +kernel
theorem dX8_judge_126 : decode cX8_judge 126 = .ok (.ifCond .ne 15, 3) := by decide +kernel
theorem dX8_judge_129 : decode cX8_judge 129 = .ok (.bipush 10, 2) := by decide +kernel
theorem dX8_judge_131 : decode cX8_judge 131 = .ok (.iload 4, 2) := by decide +kernel
theorem dX8_judge_133 : decode cX8_judge 133 = .ok (.bipush 7, 2) := by decide +kernel
theorem dX8_judge_135 : decode cX8_judge 135 = .ok (.idiv, 1) := by decide +kernel
theorem dX8_judge_136 : decode cX8_judge 136 = .ok (.imul, 1) := by decide +kernel
theorem dX8_judge_137 : decode cX8_judge 137 = .ok (.iload 5, 2) := by decide +kernel
theorem dX8_judge_139 : decode cX8_judge 139 = .ok (.iadd, 1) := by decide +kernel
theorem dX8_judge_140 : decode cX8_judge 140 = .ok (.ireturn, 1) := by decide +kernel
theorem dX8_judge_141 : decode cX8_judge 141 = .ok (.iinc 4 1, 3) := by decide +kernel
theorem dX8_judge_144 : decode cX8_judge 144 = .ok (.goto (-103), 3) := by decide +kernel
theorem dX8_judge_147 : decode cX8_judge 147 = .ok (.iload_n 3, 1) := by decide +kernel
theorem dX8_judge_148 : decode cX8_judge 148 = .ok (.bipush 7, 2) := by decide +kernel
theorem dX8_judge_150 : decode cX8_judge 150 = .ok (.irem, 1) := by decide +kernel
theorem dX8_judge_151 : decode cX8_judge 151 = .ok (.ifCond .eq 16, 3) := by decide +kernel
theorem dX8_judge_154 : decode cX8_judge 154 = .ok (.bipush 10, 2) := by decide +kernel
theorem dX8_judge_156 : decode cX8_judge 156 = .ok (.iload_n 3, 1) := by decide +kernel
theorem dX8_judge_157 : decode cX8_judge 157 = .ok (.bipush 7, 2) := by decide +kernel
theorem dX8_judge_159 : decode cX8_judge 159 = .ok (.idiv, 1) := by decide +kernel
theorem dX8_judge_160 : decode cX8_judge 160 = .ok (.imul, 1) := by decide +kernel
theorem dX8_judge_161 : decode cX8_judge 161 = .ok (.iload_n 3, 1) := by decide +kernel
theorem dX8_judge_162 : decode cX8_judge 162 = .ok (.bipush 7, 2) := by decide +kernel
theorem dX8_judge_164 : decode cX8_judge 164 = .ok (.irem, 1) := by decide +kernel
theorem dX8_judge_165 : decode cX8_judge 165 = .ok (.iadd, 1) := by decide +kernel
theorem dX8_judge_166 : decode cX8_judge 166 = .ok (.ireturn, 1) := by decide +kernel
theorem dX8_judge_167 : decode cX8_judge 167 = .ok (.aload_n 0, 1) := by decide +kernel
theorem dX8_judge_168 : decode cX8_judge 168 = .ok (.iconst (-1), 1) := by decide +kernel
theorem dX8_judge_169 : decode cX8_judge 169 = .ok (.putfield 194, 3) := by decide +kernel
theorem dX8_judge_172 : decode cX8_judge 172 = .ok (.iconst 0, 1) := by decide +kernel
theorem dX8_judge_173 : decode cX8_judge 173 = .ok (.istore 4, 2) := by decide +kernel
theorem dX8_judge_175 : decode cX8_judge 175 = .ok (.iload 4, 2) := by decide +kernel
theorem dX8_judge_177 : decode cX8_judge 177 = .ok (.sipush 224, 3) := by decide +kernel
theorem dX8_judge_180 : decode cX8_judge 180 = .ok (.if_icmp .ge 37, 3) := by decide +kernel
theorem dX8_judge_183 : decode cX8_judge 183 = .ok (.aload_n 0, 1) := by decide +kernel
theorem dX8_judge_184 : decode cX8_judge 184 = .ok (.iload_n 1, 1) := by decide +kernel
theorem dX8_judge_185 : decode cX8_judge 185 = .ok (.iload_n 3, 1) := by decide +kernel
theorem dX8_judge_186 : decode cX8_judge 186 = .ok (.bipush 7, 2) := by decide +kernel
theorem dX8_judge_188 : decode cX8_judge 188 = .ok (.idiv, 1) := by decide +kernel
theorem dX8_judge_189 : decode cX8_judge 189 = .ok (.iload 4, 2) := by decide +kernel
theorem dX8_judge_191 : decode cX8_judge 191 = .ok (.invokevirtual 267, 3) := by decide +kernel
theorem dX8_judge_194 : decode cX8_judge 194 = .ok (.aload_n 0, 1) := by decide +kernel
theorem dX8_judge_195 : decode cX8_judge 195 = .ok (.iload_n 2, 1) := by decide +kernel
theorem dX8_judge_196 : decode cX8_judge 196 = .ok (.iload 4, 2) := by decide +kernel
theorem dX8_judge_198 : decode cX8_judge 198 = .ok (.invokevirtual 207, 3) := by decide +kernel
theorem dX8_judge_201 : decode cX8_judge 201 = .ok (.if_icmp .eq 10, 3) := by decide +kernel
theorem dX8_judge_204 : decode cX8_judge 204 = .ok (.sipush 500, 3) := by decide +kernel
theorem dX8_judge_207 : decode cX8_judge 207 = .ok (.iload 4, 2) := by decide +kernel
theorem dX8_judge_209 : decode cX8_judge 209 = .ok (.iadd, 1) := by decide +kernel
theorem dX8_judge_210 : decode cX8_judge 210 = .ok (.ireturn, 1) := by decide +kernel
theorem dX8_judge_211 : decode cX8_judge 211 = .ok (.iinc 4 1, 3) := by decide +kernel
theorem dX8_judge_214 : decode cX8_judge 214 = .ok (.goto (-39), 3) := by decide +kernel
theorem dX8_judge_217 : decode cX8_judge 217 = .ok (.bipush (-5), 2) := by decide +kernel
theorem dX8_judge_219 : decode cX8_judge 219 = .ok (.ireturn, 1) := by decide +kernel
theorem dX8_image_0 : decode cX8_image 0 = .ok (.aload_n 0, 1) := by decide +kernel
theorem dX8_image_1 : decode cX8_image 1 = .ok (.iconst 1, 1) := by decide +kernel
theorem dX8_image_2 : decode cX8_image 2 = .ok (.putfield 270, 3) := by decide +kernel
theorem dX8_image_5 : decode cX8_image 5 = .ok (.aload_n 0, 1) := by decide +kernel
theorem dX8_image_6 : decode cX8_image 6 = .ok (.aload_n 0, 1) := by decide +kernel
theorem dX8_image_7 : decode cX8_image 7 = .ok (.getfield 77, 3) := by decide +kernel
theorem dX8_image_10 : decode cX8_image 10 = .ok (.putfield 274, 3) := by decide +kernel
theorem dX8_image_13 : decode cX8_image 13 = .ok (.aload_n 0, 1) := by decide +kernel
theorem dX8_image_14 : decode cX8_image 14 = .ok (.aload_n 0, 1) := by decide +kernel
theorem dX8_image_15 : decode cX8_image 15 = .ok (.getfield 258, 3) := by decide +kernel
theorem dX8_image_18 : decode cX8_image 18 = .ok (.putfield 277, 3) := by decide +kernel
theorem dX8_image_21 : decode cX8_image 21 = .ok (.iconst 0, 1) := by decide +kernel
theorem dX8_image_22 : decode cX8_image 22 = .ok (.istore_n 1, 1) := by decide +kernel
theorem dX8_image_23 : decode cX8_image 23 = .ok (.iload_n 1, 1) := by decide +kernel
theorem dX8_image_24 : decode cX8_image 24 = .ok (.bipush 24, 2) := by decide +kernel
theorem dX8_image_26 : decode cX8_image 26 = .ok (.if_icmp .ge 112, 3) := by decide +kernel
theorem dX8_image_29 : decode cX8_image 29 = .ok (.aload_n 0, 1) := by decide +kernel
theorem dX8_image_30 : decode cX8_image 30 = .ok (.getfield 68, 3) := by decide +kernel
theorem dX8_image_33 : decode cX8_image 33 = .ok (.iload_n 1, 1) := by decide +kernel
theorem dX8_image_34 : decode cX8_image 34 = .ok (.aload_n 0, 1) := by decide +kernel
theorem dX8_image_35 : decode cX8_image 35 = .ok (.getfield 9, 3) := by decide +kernel
theorem dX8_image_38 : decode cX8_image 38 = .ok (.iload_n 1, 1) := by decide +kernel
theorem dX8_image_39 : decode cX8_image 39 = .ok (.iaload, 1) := by decide +kernel
theorem dX8_image_40 : decode cX8_image 40 = .ok (.iastore, 1) := by decide +kernel
theorem dX8_image_41 : decode cX8_image 41 = .ok (.aload_n 0, 1) := by decide +kernel
theorem dX8_image_42 : decode cX8_image 42 = .ok (.getfield 68, 3) := by decide +kernel
theorem dX8_image_45 : decode cX8_image 45 = .ok (.bipush 24, 2) := by decide +kernel
theorem dX8_image_47 : decode cX8_image 47 = .ok (.iload_n 1, 1) := by decide +kernel
theorem dX8_image_48 : decode cX8_image 48 = .ok (.iadd, 1) := by decide +kernel
theorem dX8_image_49 : decode cX8_image 49 = .ok (.aload_n 0, 1) := by decide +kernel
theorem dX8_image_50 : decode cX8_image 50 = .ok (.getfield 15, 3) := by decide +kernel
theorem dX8_image_53 : decode cX8_image 53 = .ok (.iload_n 1, 1) := by decide +kernel
theorem dX8_image_54 : decode cX8_image 54 = .ok (.iaload, 1) := by decide +kernel
theorem dX8_image_55 : decode cX8_image 55 = .ok (.iastore, 1) := by decide +kernel
theorem dX8_image_56 : decode cX8_image 56 = .ok (.aload_n 0, 1) := by decide +kernel
theorem dX8_image_57 : decode cX8_image 57 = .ok (.getfield 68, 3) := by decide +kernel
theorem dX8_image_60 : decode cX8_image 60 = .ok (.bipush 48, 2) := by decide +kernel
theorem dX8_image_62 : decode cX8_image 62 = .ok (.iload_n 1, 1) := by decide +kernel
theorem dX8_image_63 : decode cX8_image 63 = .ok (.iadd, 1) := by decide +kernel
theorem dX8_image_64 : decode cX8_image 64 = .ok (.aload_n 0, 1) := by decide +kernel
theorem dX8_image_65 : decode cX8_image 65 = .ok (.getfield 18, 3) := by decide +kernel
theorem dX8_image_68 : decode cX8_image 68 = .ok (.iload_n 1, 1) := by decide +kernel
theorem dX8_image_69 : decode cX8_image 69 = .ok (.iaload, 1) := by decide +kernel
theorem dX8_image_70 : decode cX8_image 70 = .ok (.iastore, 1) := by decide +kernel
theorem dX8_image_71 : decode cX8_image 71 = .ok (.aload_n 0, 1) := by decide +kernel
theorem dX8_image_72 : decode cX8_image 72 = .ok (.getfield 68, 3) := by decide +kernel
theorem dX8_image_75 : decode cX8_image 75 = .ok (.bipush 72, 2) := by decide +kernel
theorem dX8_image_77 : decode cX8_image 77 = .ok (.iload_n 1, 1) := by decide +kernel
theorem dX8_image_78 : decode cX8_image 78 = .ok (.iadd, 1) := by decide +kernel
theorem dX8_image_79 : decode cX8_image 79 = .ok (.aload_n 0, 1) := by decide +kernel
theorem dX8_image_80 : decode cX8_image 80 = .ok (.getfield 21, 3) := by decide +kernel
theorem dX8_image_83 : decode cX8_image 83 = .ok (.iload_n 1, 1) := by decide +kernel
theorem dX8_image_84 : decode cX8_image 84 = .ok (.iaload, 1) := by decide +kernel
theorem dX8_image_85 : decode cX8_image 85 = .ok (.iastore, 1) := by decide +kernel
theorem dX8_image_86 : decode cX8_image 86 = .ok (.aload_n 0, 1) := by decide +kernel
theorem dX8_image_87 : decode cX8_image 87 = .ok (.getfield 68, 3) := by decide +kernel
theorem dX8_image_90 : decode cX8_image 90 = .ok (.bipush 96, 2) := by decide +kernel
theorem dX8_image_92 : decode cX8_image 92 = .ok (.iload_n 1, 1) := by decide +kernel
theorem dX8_image_93 : decode cX8_image 93 = .ok (.iadd, 1) := by decide +kernel
theorem dX8_image_94 : decode cX8_image 94 = .ok (.aload_n 0, 1) := by decide +kernel
theorem dX8_image_95 : decode cX8_image 95 = .ok (.getfield 24, 3) := by decide +kernel
theorem dX8_image_98 : decode cX8_image 98 = .ok (.iload_n 1, 1) := by decide +kernel
theorem dX8_image_99 : decode cX8_image 99 = .ok (.iaload, 1) := by decide +kernel
theorem dX8_image_100 : decode cX8_image 100 = .ok (.iastore, 1) := by decide +kernel
theorem dX8_image_101 : decode cX8_image 101 = .ok (.aload_n 0, 1) := by decide +kernel
theorem dX8_image_102 : decode cX8_image 102 = .ok (.getfield 68, 3) := by decide +kernel
theorem dX8_image_105 : decode cX8_image 105 = .ok (.bipush 120, 2) := by decide +kernel
theorem dX8_image_107 : decode cX8_image 107 = .ok (.iload_n 1, 1) := by decide +kernel
theorem dX8_image_108 : decode cX8_image 108 = .ok (.iadd, 1) := by decide +kernel
theorem dX8_image_109 : decode cX8_image 109 = .ok (.aload_n 0, 1) := by decide +kernel
theorem dX8_image_110 : decode cX8_image 110 = .ok (.getfield 27, 3) := by decide +kernel
theorem dX8_image_113 : decode cX8_image 113 = .ok (.iload_n 1, 1) := by decide +kernel
theorem dX8_image_114 : decode cX8_image 114 = .ok (.iaload, 1) := by decide +kernel
theorem dX8_image_115 : decode cX8_image 115 = .ok (.iastore, 1) := by decide +kernel
theorem dX8_image_116 : decode cX8_image 116 = .ok (.aload_n 0, 1) := by decide +kernel
theorem dX8_image_117 : decode cX8_image 117 = .ok (.getfield 68, 3) := by decide +kernel
theorem dX8_image_120 : decode cX8_image 120 = .ok (.sipush 144, 3) := by decide +kernel
theorem dX8_image_123 : decode cX8_image 123 = .ok (.iload_n 1, 1) := by decide +kernel
theorem dX8_image_124 : decode cX8_image 124 = .ok (.iadd, 1) := by decide +kernel
theorem dX8_image_125 : decode cX8_image 125 = .ok (.aload_n 0, 1) := by decide +kernel
theorem dX8_image_126 : decode cX8_image 126 = .ok (.getfield 30, 3) := by decide +kernel
theorem dX8_image_129 : decode cX8_image 129 = .ok (.iload_n 1, 1) := by decide +kernel
theorem dX8_image_130 : decode cX8_image 130 = .ok (.iaload, 1) := by decide +kernel
theorem dX8_image_131 : decode cX8_image 131 = .ok (.iastore, 1) := by decide +kernel
theorem dX8_image_132 : decode cX8_image 132 = .ok (.iinc 1 1, 3) := by decide +kernel
theorem dX8_image_135 : decode cX8_image 135 = .ok (.goto (-112), 3) := by decide +kernel
theorem dX8_image_138 : decode cX8_image 138 = .ok (.iconst 0, 1) := by decide +kernel
theorem dX8_image_139 : decode cX8_image 139 = .ok (.istore_n 1, 1) := by decide +kernel
theorem dX8_image_140 : decode cX8_image 140 = .ok (.iload_n 1, 1) := by decide +kernel
theorem dX8_image_141 : decode cX8_image 141 = .ok (.bipush 8, 2) := by decide +kernel
theorem dX8_image_143 : decode cX8_image 143 = .ok (.if_icmp .ge 41, 3) := by decide +kernel
theorem dX8_image_146 : decode cX8_image 146 = .ok (.aload_n 0, 1) := by decide +kernel
theorem dX8_image_147 : decode cX8_image 147 = .ok (.getfield 68, 3) := by decide +kernel
theorem dX8_image_150 : decode cX8_image 150 = .ok (.sipush 168, 3) := by decide +kernel
theorem dX8_image_153 : decode cX8_image 153 = .ok (.iload_n 1, 1) := by decide +kernel
theorem dX8_image_154 : decode cX8_image 154 = .ok (.iadd, 1) := by decide +kernel
theorem dX8_image_155 : decode cX8_image 155 = .ok (.aload_n 0, 1) := by decide +kernel
theorem dX8_image_156 : decode cX8_image 156 = .ok (.getfield 33, 3) := by decide +kernel
theorem dX8_image_159 : decode cX8_image 159 = .ok (.iload_n 1, 1) := by decide +kernel
theorem dX8_image_160 : decode cX8_image 160 = .ok (.iaload, 1) := by decide +kernel
theorem dX8_image_161 : decode cX8_image 161 = .ok (.iastore, 1) := by decide +kernel
theorem dX8_image_162 : decode cX8_image 162 = .ok (.aload_n 0, 1) := by decide +kernel
theorem dX8_image_163 : decode cX8_image 163 = .ok (.getfield 68, 3) := by decide +kernel
theorem dX8_image_166 : decode cX8_image 166 = .ok (.sipush 176, 3) := by decide +kernel
theorem dX8_image_169 : decode cX8_image 169 = .ok (.iload_n 1, 1) := by decide +kernel
theorem dX8_image_170 : decode cX8_image 170 = .ok (.iadd, 1) := by decide +kernel
theorem dX8_image_171 : decode cX8_image 171 = .ok (.aload_n 0, 1) := by decide +kernel
theorem dX8_image_172 : decode cX8_image 172 = .ok (.getfield 36, 3) := by decide +kernel
theorem dX8_image_175 : decode cX8_image 175 = .ok (.iload_n 1, 1) := by decide +kernel
theorem dX8_image_176 : decode cX8_image 176 = .ok (.iaload, 1) := by decide +kernel
theorem dX8_image_177 : decode cX8_image 177 = .ok (.iastore, 1) := by decide +kernel
theorem dX8_image_178 : decode cX8_image 178 = .ok (.iinc 1 1, 3) := by decide +kernel
theorem dX8_image_181 : decode cX8_image 181 = .ok (.goto (-41), 3) := by decide +kernel
theorem dX8_image_184 : decode cX8_image 184 = .ok (.aload_n 0, 1) := by decide +kernel
theorem dX8_image_185 : decode cX8_image 185 = .ok (.getfield 77, 3) := by decide +kernel
