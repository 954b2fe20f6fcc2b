/-! Part 21: the shape of the memory behind both constructors; what the tables answer, row by row; typed runs -/
def tb_S : tb_SH := [(54, []), (7, [3, 11, 14, 22, 0, 25, 29, 33, 37, 39]), (5, [4, 5, 6, 7, 8, 9, 10, 0]), (50, [24]), (50, [24]), (50, [24]), (50, [24]), (50, [24]), (50, [24]), (50, [24]), (1, [12, 13, 0]), (50, [8]), (50, [8]), (5, [15, 16, 17, 18, 19, 20, 21, 0]), (50, [24]), (50, [24]), (50, [24]), (50, [24]), (50, [24]), (50, [24]), (50, [24]), (1, [23, 24, 0]), (50, [8]), (50, [8]), (6, [3, 26, 27, 28, 0, 0, 0, 0]), (50, [40]), (50, [40]), (50, [40]), (0, [30, 31, 32, 0]), (50, [224]), (50, [224]), (50, [224]), (4, [3, 34, 0, 35, 0, 0, 0, 0, 0, 36, 0]), (50, [60]), (50, [7]), (50, [7]), (2, [3, 38, 0]), (52, [470]), (3, [40, 45]), (53, [41, 42, 43, 44]), (50, [70]), (50, [70]), (50, [70]), (50, [70]), (50, [4]), (8, [0, 47, 48, 49, 50, 51, 52, 53, 0, 54, 55, 56, 57, 58, 0, 59, 0, 0, 0, 0, 0, 0, 60, 0, 0, 61, 0, 62, 0, 0, 0, 63, 0, 0, 0, 64, 65, 66]), (50, [96]), (50, [96]), (50, [96]), (50, [96]), (50, [96]), (50, [96]), (50, [96]), (50, [8]), (50, [8]), (50, [224]), (50, [224]), (51, [224]), (50, [1792]), (50, [60]), (50, [9]), (50, [9]), (50, [700]), (50, [184]), (50, [4]), (50, [280])]
theorem sh_0 : tb_S[0]? = some (54, []) := rfl
theorem sh_1 : tb_S[1]? = some (7, [3, 11, 14, 22, 0, 25, 29, 33, 37, 39]) := rfl
theorem sh_2 : tb_S[2]? = some (5, [4, 5, 6, 7, 8, 9, 10, 0]) := rfl
theorem sh_3 : tb_S[3]? = some (50, [24]) := rfl
theorem sh_4 : tb_S[4]? = some (50, [24]) := rfl
theorem sh_5 : tb_S[5]? = some (50, [24]) := rfl
theorem sh_6 : tb_S[6]? = some (50, [24]) := rfl
theorem sh_7 : tb_S[7]? = some (50, [24]) := rfl
theorem sh_8 : tb_S[8]? = some (50, [24]) := rfl
theorem sh_9 : tb_S[9]? = some (50, [24]) := rfl
theorem sh_10 : tb_S[10]? = some (1, [12, 13, 0]) := rfl
theorem sh_11 : tb_S[11]? = some (50, [8]) := rfl
theorem sh_12 : tb_S[12]? = some (50, [8]) := rfl
theorem sh_13 : tb_S[13]? = some (5, [15, 16, 17, 18, 19, 20, 21, 0]) := rfl
theorem sh_14 : tb_S[14]? = some (50, [24]) := rfl
theorem sh_15 : tb_S[15]? = some (50, [24]) := rfl
theorem sh_16 : tb_S[16]? = some (50, [24]) := rfl
theorem sh_17 : tb_S[17]? = some (50, [24]) := rfl
theorem sh_18 : tb_S[18]? = some (50, [24]) := rfl
theorem sh_19 : tb_S[19]? = some (50, [24]) := rfl
theorem sh_20 : tb_S[20]? = some (50, [24]) := rfl
theorem sh_21 : tb_S[21]? = some (1, [23, 24, 0]) := rfl
theorem sh_22 : tb_S[22]? = some (50, [8]) := rfl
theorem sh_23 : tb_S[23]? = some (50, [8]) := rfl
theorem sh_24 : tb_S[24]? = some (6, [3, 26, 27, 28, 0, 0, 0, 0]) := rfl
theorem sh_25 : tb_S[25]? = some (50, [40]) := rfl
theorem sh_26 : tb_S[26]? = some (50, [40]) := rfl
theorem sh_27 : tb_S[27]? = some (50, [40]) := rfl
theorem sh_28 : tb_S[28]? = some (0, [30, 31, 32, 0]) := rfl
theorem sh_29 : tb_S[29]? = some (50, [224]) := rfl
theorem sh_30 : tb_S[30]? = some (50, [224]) := rfl
theorem sh_31 : tb_S[31]? = some (50, [224]) := rfl
theorem sh_32 : tb_S[32]? = some (4, [3, 34, 0, 35, 0, 0, 0, 0, 0, 36, 0]) := rfl
theorem sh_33 : tb_S[33]? = some (50, [60]) := rfl
theorem sh_34 : tb_S[34]? = some (50, [7]) := rfl
theorem sh_35 : tb_S[35]? = some (50, [7]) := rfl
theorem sh_36 : tb_S[36]? = some (2, [3, 38, 0]) := rfl
theorem sh_37 : tb_S[37]? = some (52, [470]) := rfl
theorem sh_38 : tb_S[38]? = some (3, [40, 45]) := rfl
theorem sh_39 : tb_S[39]? = some (53, [41, 42, 43, 44]) := rfl
theorem sh_40 : tb_S[40]? = some (50, [70]) := rfl
theorem sh_41 : tb_S[41]? = some (50, [70]) := rfl
theorem sh_42 : tb_S[42]? = some (50, [70]) := rfl
theorem sh_43 : tb_S[43]? = some (50, [70]) := rfl
theorem sh_44 : tb_S[44]? = some (50, [4]) := rfl
theorem sh_45 : tb_S[45]? = some (8, [0, 47, 48, 49, 50, 51, 52, 53, 0, 54, 55, 56, 57, 58, 0, 59, 0, 0, 0, 0, 0, 0, 60, 0, 0, 61, 0, 62, 0, 0, 0, 63, 0, 0, 0, 64, 65, 66]) := rfl
theorem sh_46 : tb_S[46]? = some (50, [96]) := rfl
theorem sh_47 : tb_S[47]? = some (50, [96]) := rfl
theorem sh_48 : tb_S[48]? = some (50, [96]) := rfl
theorem sh_49 : tb_S[49]? = some (50, [96]) := rfl
theorem sh_50 : tb_S[50]? = some (50, [96]) := rfl
theorem sh_51 : tb_S[51]? = some (50, [96]) := rfl
theorem sh_52 : tb_S[52]? = some (50, [96]) := rfl
theorem sh_53 : tb_S[53]? = some (50, [8]) := rfl
theorem sh_54 : tb_S[54]? = some (50, [8]) := rfl
theorem sh_55 : tb_S[55]? = some (50, [224]) := rfl
theorem sh_56 : tb_S[56]? = some (50, [224]) := rfl
theorem sh_57 : tb_S[57]? = some (51, [224]) := rfl
theorem sh_58 : tb_S[58]? = some (50, [1792]) := rfl
theorem sh_59 : tb_S[59]? = some (50, [60]) := rfl
theorem sh_60 : tb_S[60]? = some (50, [9]) := rfl
theorem sh_61 : tb_S[61]? = some (50, [9]) := rfl
theorem sh_62 : tb_S[62]? = some (50, [700]) := rfl
theorem sh_63 : tb_S[63]? = some (50, [184]) := rfl
theorem sh_64 : tb_S[64]? = some (50, [4]) := rfl
theorem sh_65 : tb_S[65]? = some (50, [280]) := rfl
theorem lf_0_9 : tb_look tb_fT 0 9 = some ((0, 0), 192) := by rfl
theorem lf_0_15 : tb_look tb_fT 0 15 = some ((0, 1), 194) := by rfl
theorem lf_0_18 : tb_look tb_fT 0 18 = some ((0, 2), 196) := by rfl
theorem lf_0_21 : tb_look tb_fT 0 21 = some ((0, 3), 198) := by rfl
theorem lf_1_9 : tb_look tb_fT 1 9 = some ((1, 0), 142) := by rfl
theorem lf_1_15 : tb_look tb_fT 1 15 = some ((1, 1), 144) := by rfl
theorem lf_1_18 : tb_look tb_fT 1 18 = some ((1, 2), 146) := by rfl
theorem lf_2_9 : tb_look tb_fT 2 9 = some ((2, 1), 259) := by rfl
theorem lf_2_15 : tb_look tb_fT 2 15 = some ((2, 2), 261) := by rfl
theorem lf_2_19 : tb_look tb_fT 2 19 = some ((2, 0), 258) := by rfl
theorem lf_2_33 : tb_look tb_fT 2 33 = some ((5, 0), 92) := by rfl
theorem lf_2_37 : tb_look tb_fT 2 37 = some ((5, 1), 96) := by rfl
theorem lf_2_54 : tb_look tb_fT 2 54 = some ((5, 3), 105) := by rfl
theorem lf_2_60 : tb_look tb_fT 2 60 = some ((5, 4), 109) := by rfl
theorem lf_2_63 : tb_look tb_fT 2 63 = some ((5, 2), 100) := by rfl
theorem lf_3_11 : tb_look tb_fT 3 11 = some ((3, 0), 279) := by rfl
theorem lf_3_16 : tb_look tb_fT 3 16 = some ((3, 1), 280) := by rfl
theorem lf_4_9 : tb_look tb_fT 4 9 = some ((4, 1), 216) := by rfl
theorem lf_4_15 : tb_look tb_fT 4 15 = some ((4, 2), 217) := by rfl
theorem lf_4_19 : tb_look tb_fT 4 19 = some ((4, 3), 219) := by rfl
theorem lf_4_22 : tb_look tb_fT 4 22 = some ((4, 4), 221) := by rfl
theorem lf_4_25 : tb_look tb_fT 4 25 = some ((4, 5), 223) := by rfl
theorem lf_4_28 : tb_look tb_fT 4 28 = some ((4, 6), 224) := by rfl
theorem lf_4_31 : tb_look tb_fT 4 31 = some ((4, 7), 225) := by rfl
theorem lf_4_34 : tb_look tb_fT 4 34 = some ((4, 8), 226) := by rfl
theorem lf_4_38 : tb_look tb_fT 4 38 = some ((4, 9), 227) := by rfl
theorem lf_4_41 : tb_look tb_fT 4 41 = some ((4, 10), 228) := by rfl
theorem lf_4_44 : tb_look tb_fT 4 44 = some ((4, 0), 215) := by rfl
theorem lf_4_48 : tb_look tb_fT 4 48 = some ((5, 7), 116) := by rfl
theorem lf_5_9 : tb_look tb_fT 5 9 = some ((5, 0), 91) := by rfl
theorem lf_5_15 : tb_look tb_fT 5 15 = some ((5, 1), 95) := by rfl
theorem lf_5_18 : tb_look tb_fT 5 18 = some ((5, 2), 99) := by rfl
theorem lf_5_21 : tb_look tb_fT 5 21 = some ((5, 3), 103) := by rfl
theorem lf_5_24 : tb_look tb_fT 5 24 = some ((5, 4), 107) := by rfl
theorem lf_5_27 : tb_look tb_fT 5 27 = some ((5, 5), 111) := by rfl
theorem lf_5_30 : tb_look tb_fT 5 30 = some ((5, 6), 113) := by rfl
theorem lf_5_33 : tb_look tb_fT 5 33 = some ((5, 7), 115) := by rfl
theorem lf_6_9 : tb_look tb_fT 6 9 = some ((6, 1), 162) := by rfl
theorem lf_6_15 : tb_look tb_fT 6 15 = some ((6, 2), 163) := by rfl
theorem lf_6_18 : tb_look tb_fT 6 18 = some ((6, 3), 164) := by rfl
theorem lf_6_21 : tb_look tb_fT 6 21 = some ((6, 4), 165) := by rfl
theorem lf_6_25 : tb_look tb_fT 6 25 = some ((6, 5), 166) := by rfl
theorem lf_6_28 : tb_look tb_fT 6 28 = some ((6, 6), 167) := by rfl
theorem lf_6_31 : tb_look tb_fT 6 31 = some ((6, 7), 168) := by rfl
theorem lf_6_34 : tb_look tb_fT 6 34 = some ((6, 0), 161) := by rfl
theorem lf_6_58 : tb_look tb_fT 6 58 = some ((5, 3), 104) := by rfl
theorem lf_6_61 : tb_look tb_fT 6 61 = some ((5, 4), 108) := by rfl
theorem lf_6_73 : tb_look tb_fT 6 73 = some ((5, 0), 93) := by rfl
theorem lf_6_76 : tb_look tb_fT 6 76 = some ((5, 1), 97) := by rfl
theorem lf_6_79 : tb_look tb_fT 6 79 = some ((5, 2), 101) := by rfl
theorem lf_7_12 : tb_look tb_fT 7 12 = some ((7, 0), 286) := by rfl
theorem lf_7_21 : tb_look tb_fT 7 21 = some ((7, 1), 287) := by rfl
theorem lf_7_25 : tb_look tb_fT 7 25 = some ((7, 2), 288) := by rfl
theorem lf_7_28 : tb_look tb_fT 7 28 = some ((7, 3), 289) := by rfl
theorem lf_7_31 : tb_look tb_fT 7 31 = some ((7, 4), 290) := by rfl
theorem lf_7_40 : tb_look tb_fT 7 40 = some ((7, 5), 291) := by rfl
theorem lf_7_47 : tb_look tb_fT 7 47 = some ((7, 6), 292) := by rfl
theorem lf_7_54 : tb_look tb_fT 7 54 = some ((7, 7), 293) := by rfl
theorem lf_7_61 : tb_look tb_fT 7 61 = some ((7, 8), 294) := by rfl
theorem lf_7_68 : tb_look tb_fT 7 68 = some ((7, 9), 295) := by rfl
theorem lf_7_89 : tb_look tb_fT 7 89 = some ((5, 7), 117) := by rfl
theorem lf_7_108 : tb_look tb_fT 7 108 = some ((4, 4), 222) := by rfl
theorem lf_7_111 : tb_look tb_fT 7 111 = some ((4, 3), 220) := by rfl
theorem lf_7_115 : tb_look tb_fT 7 115 = some ((5, 0), 94) := by rfl
theorem lf_7_118 : tb_look tb_fT 7 118 = some ((5, 1), 98) := by rfl
theorem lf_7_121 : tb_look tb_fT 7 121 = some ((5, 3), 106) := by rfl
theorem lf_7_124 : tb_look tb_fT 7 124 = some ((5, 4), 110) := by rfl
theorem lf_7_127 : tb_look tb_fT 7 127 = some ((5, 5), 112) := by rfl
theorem lf_7_130 : tb_look tb_fT 7 130 = some ((5, 6), 114) := by rfl
theorem lf_7_133 : tb_look tb_fT 7 133 = some ((5, 2), 102) := by rfl
theorem lf_7_142 : tb_look tb_fT 7 142 = some ((2, 2), 262) := by rfl
theorem lf_7_145 : tb_look tb_fT 7 145 = some ((2, 1), 260) := by rfl
theorem lf_7_174 : tb_look tb_fT 7 174 = some ((0, 2), 197) := by rfl
theorem lf_7_251 : tb_look tb_fT 7 251 = some ((0, 3), 199) := by rfl
theorem lf_7_266 : tb_look tb_fT 7 266 = some ((1, 2), 147) := by rfl
theorem lf_7_267 : tb_look tb_fT 7 267 = some ((4, 2), 218) := by rfl
theorem lf_7_298 : tb_look tb_fT 7 298 = some ((1, 0), 143) := by rfl
theorem lf_7_299 : tb_look tb_fT 7 299 = some ((1, 1), 145) := by rfl
theorem lf_7_300 : tb_look tb_fT 7 300 = some ((0, 0), 193) := by rfl
theorem lf_7_309 : tb_look tb_fT 7 309 = some ((0, 1), 195) := by rfl
theorem lf_8_9 : tb_look tb_fT 8 9 = some ((8, 1), 839) := by rfl
theorem lf_8_15 : tb_look tb_fT 8 15 = some ((8, 2), 840) := by rfl
theorem lf_8_18 : tb_look tb_fT 8 18 = some ((8, 3), 841) := by rfl
theorem lf_8_21 : tb_look tb_fT 8 21 = some ((8, 4), 842) := by rfl
theorem lf_8_24 : tb_look tb_fT 8 24 = some ((8, 5), 843) := by rfl
theorem lf_8_27 : tb_look tb_fT 8 27 = some ((8, 6), 844) := by rfl
theorem lf_8_30 : tb_look tb_fT 8 30 = some ((8, 7), 845) := by rfl
theorem lf_8_33 : tb_look tb_fT 8 33 = some ((8, 9), 847) := by rfl
theorem lf_8_36 : tb_look tb_fT 8 36 = some ((8, 10), 848) := by rfl
theorem lf_8_39 : tb_look tb_fT 8 39 = some ((8, 11), 849) := by rfl
theorem lf_8_42 : tb_look tb_fT 8 42 = some ((8, 12), 850) := by rfl
theorem lf_8_45 : tb_look tb_fT 8 45 = some ((8, 13), 851) := by rfl
theorem lf_8_49 : tb_look tb_fT 8 49 = some ((8, 15), 853) := by rfl
theorem lf_8_52 : tb_look tb_fT 8 52 = some ((8, 19), 857) := by rfl
theorem lf_8_56 : tb_look tb_fT 8 56 = some ((8, 22), 860) := by rfl
theorem lf_8_59 : tb_look tb_fT 8 59 = some ((8, 25), 863) := by rfl
theorem lf_8_62 : tb_look tb_fT 8 62 = some ((8, 27), 865) := by rfl
theorem lf_8_65 : tb_look tb_fT 8 65 = some ((8, 31), 869) := by rfl
theorem lf_8_68 : tb_look tb_fT 8 68 = some ((8, 35), 873) := by rfl
theorem lf_8_71 : tb_look tb_fT 8 71 = some ((8, 36), 874) := by rfl
theorem lf_8_74 : tb_look tb_fT 8 74 = some ((8, 37), 875) := by rfl
theorem lf_8_77 : tb_look tb_fT 8 77 = some ((8, 0), 838) := by rfl
theorem lf_8_119 : tb_look tb_fT 8 119 = some ((8, 21), 859) := by rfl
theorem lf_8_122 : tb_look tb_fT 8 122 = some ((8, 23), 861) := by rfl
theorem lf_8_132 : tb_look tb_fT 8 132 = some ((8, 28), 866) := by rfl
theorem lf_8_139 : tb_look tb_fT 8 139 = some ((8, 29), 867) := by rfl
theorem lf_8_151 : tb_look tb_fT 8 151 = some ((8, 24), 862) := by rfl
theorem lf_8_169 : tb_look tb_fT 8 169 = some ((8, 26), 864) := by rfl
theorem lf_8_172 : tb_look tb_fT 8 172 = some ((8, 30), 868) := by rfl
theorem lf_8_188 : tb_look tb_fT 8 188 = some ((8, 16), 854) := by rfl
theorem lf_8_194 : tb_look tb_fT 8 194 = some ((8, 17), 855) := by rfl
theorem lf_8_201 : tb_look tb_fT 8 201 = some ((8, 20), 858) := by rfl
theorem lf_8_225 : tb_look tb_fT 8 225 = some ((8, 14), 852) := by rfl
theorem lf_8_242 : tb_look tb_fT 8 242 = some ((8, 18), 856) := by rfl
theorem lf_8_258 : tb_look tb_fT 8 258 = some ((8, 8), 846) := by rfl
theorem lf_8_270 : tb_look tb_fT 8 270 = some ((8, 32), 870) := by rfl
theorem lf_8_274 : tb_look tb_fT 8 274 = some ((8, 33), 871) := by rfl
theorem lf_8_277 : tb_look tb_fT 8 277 = some ((8, 34), 872) := by rfl
theorem lk_0_55 : tb_look tb_kT 0 55 = some ((100000 : Int32), 607) := by rfl
theorem lk_7_225 : tb_look tb_kT 7 225 = some ((1664525 : Int32), 721) := by rfl
theorem lk_7_226 : tb_look tb_kT 7 226 = some ((1013904223 : Int32), 722) := by rfl
theorem lk_7_227 : tb_look tb_kT 7 227 = some ((2147483647 : Int32), 723) := by rfl
theorem lk_7_274 : tb_look tb_kT 7 274 = some ((999999 : Int32), 355) := by rfl
theorem lk_7_291 : tb_look tb_kT 7 291 = some ((100000 : Int32), 550) := by rfl
theorem lk_8_84 : tb_look tb_kT 8 84 = some ((999999 : Int32), 985) := by rfl
theorem lk_8_261 : tb_look tb_kT 8 261 = some ((1664525 : Int32), 1205) := by rfl
theorem lk_8_262 : tb_look tb_kT 8 262 = some ((1013904223 : Int32), 1206) := by rfl
theorem lk_8_263 : tb_look tb_kT 8 263 = some ((2147483647 : Int32), 1207) := by rfl
theorem ll_7_164 : tb_look tb_lT 7 164 = some ((-9223372036854775808 : Int64), 572) := by rfl
theorem ll_8_217 : tb_look tb_lT 8 217 = some ((-9223372036854775808 : Int64), 1130) := by rfl
theorem lm_0_25 : tb_look tb_mT 0 25 = some ((0, mX0_has), [621, 614, 615, 71, 616]) := by rfl
theorem lm_0_29 : tb_look tb_mT 0 29 = some ((2, mX7_figure), [622, 357, 0, 67, 358]) := by rfl
theorem lm_0_33 : tb_look tb_mT 0 33 = some ((0, mX0_takeFrom), [588, 590, 24, 71, 591]) := by rfl
theorem lm_0_37 : tb_look tb_mT 0 37 = some ((2, mX7_ageOf), [592, 542, 0, 67, 543]) := by rfl
theorem lm_0_41 : tb_look tb_mT 0 41 = some ((2, mX7_dayOf), [593, 545, 0, 67, 546]) := by rfl
theorem lm_0_44 : tb_look tb_mT 0 44 = some ((2, mX7_hourOf), [594, 548, 0, 67, 549]) := by rfl
theorem lm_0_47 : tb_look tb_mT 0 47 = some ((0, mX0_hoursAlike), [595, 597, 25, 71, 598]) := by rfl
theorem lm_0_51 : tb_look tb_mT 0 51 = some ((0, mX0_daysAlike), [603, 605, 26, 71, 606]) := by rfl
theorem lm_0_56 : tb_look tb_mT 0 56 = some ((0, mX0_keep), [608, 610, 27, 71, 611]) := by rfl
theorem lm_0_60 : tb_look tb_mT 0 60 = some ((2, mX7_caseOf), [599, 600, 0, 67, 601]) := by rfl
theorem lm_0_64 : tb_look tb_mT 0 64 = some ((2, mX7_isCase), [602, 507, 0, 67, 508]) := by rfl
theorem lm_0_67 : tb_look tb_mT 0 67 = some ((2, mX7_isInBox), [612, 539, 0, 67, 540]) := by rfl
theorem lm_2_23 : tb_look tb_mT 2 23 = some ((0, mX2_writeTerm), [475, 477, 12, 73, 478]) := by rfl
theorem lm_2_27 : tb_look tb_mT 2 27 = some ((0, mX5_has), [479, 333, 334, 68, 335]) := by rfl
theorem lm_2_40 : tb_look tb_mT 2 40 = some ((0, mX2_writeFee), [480, 482, 13, 73, 483]) := by rfl
theorem lm_2_44 : tb_look tb_mT 2 44 = some ((0, mX2_signOf), [488, 490, 15, 73, 491]) := by rfl
theorem lm_2_48 : tb_look tb_mT 2 48 = some ((0, mX2_writeByte), [484, 486, 14, 73, 487]) := by rfl
theorem lm_2_51 : tb_look tb_mT 2 51 = some ((0, mX2_writeHead), [492, 494, 16, 73, 495]) := by rfl
theorem lm_2_57 : tb_look tb_mT 2 57 = some ((2, mX7_isOfTwo), [497, 371, 0, 67, 372]) := by rfl
theorem lm_2_66 : tb_look tb_mT 2 66 = some ((2, mX7_figure), [496, 357, 0, 67, 358]) := by rfl
theorem lm_3_20 : tb_look tb_mT 3 20 = some ((0, mX3_has), [736, 729, 730, 74, 731]) := by rfl
theorem lm_3_24 : tb_look tb_mT 3 24 = some ((0, mX3_hasPlace), [753, 746, 747, 74, 748]) := by rfl
theorem lm_3_28 : tb_look tb_mT 3 28 = some ((0, mX3_partsOf), [778, 780, 35, 74, 781]) := by rfl
theorem lm_3_32 : tb_look tb_mT 3 32 = some ((0, mX3_numberCanBe), [782, 784, 36, 74, 785]) := by rfl
theorem lm_3_35 : tb_look tb_mT 3 35 = some ((0, mX3_at), [786, 759, 760, 74, 761]) := by rfl
theorem lm_3_39 : tb_look tb_mT 3 39 = some ((2, mX7_isFee), [787, 322, 0, 67, 323]) := by rfl
theorem lm_3_42 : tb_look tb_mT 3 42 = some ((2, mX7_canBe), [788, 360, 0, 67, 361]) := by rfl
theorem lm_3_46 : tb_look tb_mT 3 46 = some ((0, mX3_isInPart), [793, 795, 37, 74, 796]) := by rfl
theorem lm_3_49 : tb_look tb_mT 3 49 = some ((2, mX7_ageOf), [797, 542, 0, 67, 543]) := by rfl
theorem lm_3_52 : tb_look tb_mT 3 52 = some ((0, mX3_isWithin), [798, 800, 38, 74, 801]) := by rfl
theorem lm_3_55 : tb_look tb_mT 3 55 = some ((2, mX7_dayOf), [802, 545, 0, 67, 546]) := by rfl
theorem lm_3_58 : tb_look tb_mT 3 58 = some ((2, mX7_hourOf), [803, 548, 0, 67, 549]) := by rfl
theorem lm_4_53 : tb_look tb_mT 4 53 = some ((0, mX4_readTerm), [405, 407, 1, 72, 408]) := by rfl
theorem lm_4_57 : tb_look tb_mT 4 57 = some ((0, mX4_fail), [421, 423, 5, 72, 424]) := by rfl
theorem lm_4_61 : tb_look tb_mT 4 61 = some ((0, mX5_cutTo), [451, 378, 379, 68, 380]) := by rfl
theorem lm_4_64 : tb_look tb_mT 4 64 = some ((0, mX4_here), [409, 411, 2, 72, 412]) := by rfl
theorem lm_4_68 : tb_look tb_mT 4 68 = some ((0, mX4_isFigure), [413, 415, 3, 72, 416]) := by rfl
theorem lm_4_72 : tb_look tb_mT 4 72 = some ((0, mX4_readNumber), [417, 419, 4, 72, 420]) := by rfl
theorem lm_4_75 : tb_look tb_mT 4 75 = some ((0, mX4_take), [425, 427, 6, 72, 428]) := by rfl
theorem lm_4_79 : tb_look tb_mT 4 79 = some ((0, mX4_kindBySign), [430, 432, 7, 72, 433]) := by rfl
theorem lm_4_82 : tb_look tb_mT 4 82 = some ((0, mX4_readNamed), [434, 436, 8, 72, 437]) := by rfl
theorem lm_4_85 : tb_look tb_mT 4 85 = some ((0, mX4_readComposed), [438, 440, 9, 72, 441]) := by rfl
theorem lm_4_89 : tb_look tb_mT 4 89 = some ((0, mX4_readBox), [442, 444, 10, 72, 445]) := by rfl
theorem lm_4_92 : tb_look tb_mT 4 92 = some ((0, mX4_goOver), [447, 449, 11, 72, 450]) := by rfl
theorem lm_4_95 : tb_look tb_mT 4 95 = some ((2, mX7_canBe), [446, 360, 0, 67, 361]) := by rfl
theorem lm_4_99 : tb_look tb_mT 4 99 = some ((0, mX5_add), [429, 325, 326, 68, 327]) := by rfl
theorem lm_5_37 : tb_look tb_mT 5 37 = some ((0, mX5_sizeOf), [328, 329, 330, 68, 331]) := by rfl
theorem lm_5_41 : tb_look tb_mT 5 41 = some ((0, mX5_depthOf), [336, 338, 0, 68, 339]) := by rfl
theorem lm_5_50 : tb_look tb_mT 5 50 = some ((0, mX5_has), [332, 333, 334, 68, 335]) := by rfl
theorem lm_6_38 : tb_look tb_mT 6 38 = some ((0, mX5_sizeOf), [513, 329, 330, 68, 331]) := by rfl
theorem lm_6_50 : tb_look tb_mT 6 50 = some ((0, mX6_setPlace), [517, 519, 17, 70, 520]) := by rfl
theorem lm_6_54 : tb_look tb_mT 6 54 = some ((0, mX5_has), [521, 333, 334, 68, 335]) := by rfl
theorem lm_6_64 : tb_look tb_mT 6 64 = some ((0, mX6_answerAt), [526, 528, 18, 70, 529]) := by rfl
theorem lm_6_67 : tb_look tb_mT 6 67 = some ((0, mX6_saidAt), [534, 536, 19, 70, 537]) := by rfl
theorem lm_6_70 : tb_look tb_mT 6 70 = some ((0, mX6_termAt), [530, 531, 532, 70, 533]) := by rfl
theorem lm_6_82 : tb_look tb_mT 6 82 = some ((2, mX7_isInBox), [538, 539, 0, 67, 540]) := by rfl
theorem lm_6_86 : tb_look tb_mT 6 86 = some ((0, mX6_capped), [551, 553, 20, 70, 554]) := by rfl
theorem lm_6_90 : tb_look tb_mT 6 90 = some ((0, mX6_isRule), [656, 658, 30, 70, 659]) := by rfl
theorem lm_7_72 : tb_look tb_mT 7 72 = some ((1, mX7_isFee), [321, 322, 0, 67, 323]) := by rfl
theorem lm_7_76 : tb_look tb_mT 7 76 = some ((0, mX5_add), [324, 325, 326, 68, 327]) := by rfl
theorem lm_7_80 : tb_look tb_mT 7 80 = some ((0, mX5_has), [351, 333, 334, 68, 335]) := by rfl
theorem lm_7_83 : tb_look tb_mT 7 83 = some ((1, mX7_isBox), [352, 353, 0, 67, 354]) := by rfl
theorem lm_7_86 : tb_look tb_mT 7 86 = some ((1, mX7_isOfTwo), [370, 371, 0, 67, 372]) := by rfl
theorem lm_7_93 : tb_look tb_mT 7 93 = some ((0, mX5_cutTo), [377, 378, 379, 68, 380]) := by rfl
theorem lm_7_97 : tb_look tb_mT 7 97 = some ((0, mX4_append), [385, 386, 387, 72, 388]) := by rfl
theorem lm_7_101 : tb_look tb_mT 7 101 = some ((0, mX4_wipe), [393, 394, 395, 72, 396]) := by rfl
theorem lm_7_105 : tb_look tb_mT 7 105 = some ((0, mX4_readAll), [401, 402, 403, 72, 404]) := by rfl
theorem lm_7_136 : tb_look tb_mT 7 136 = some ((1, mX7_kindAbove), [464, 465, 0, 67, 466]) := by rfl
theorem lm_7_139 : tb_look tb_mT 7 139 = some ((0, mX2_write), [471, 472, 473, 73, 474]) := by rfl
theorem lm_7_149 : tb_look tb_mT 7 149 = some ((1, mX7_isCase), [506, 507, 0, 67, 508]) := by rfl
theorem lm_7_152 : tb_look tb_mT 7 152 = some ((0, mX6_unfold), [509, 510, 511, 70, 512]) := by rfl
theorem lm_7_155 : tb_look tb_mT 7 155 = some ((0, mX6_answer), [522, 523, 524, 70, 525]) := by rfl
theorem lm_7_158 : tb_look tb_mT 7 158 = some ((0, mX7_earned), [559, 561, 21, 67, 562]) := by rfl
theorem lm_7_161 : tb_look tb_mT 7 161 = some ((0, mX7_covered), [564, 566, 22, 67, 567]) := by rfl
theorem lm_7_166 : tb_look tb_mT 7 166 = some ((1, mX7_inLowestTerms), [573, 574, 0, 67, 575]) := by rfl
theorem lm_7_170 : tb_look tb_mT 7 170 = some ((0, mX7_boxFees), [580, 582, 23, 67, 583]) := by rfl
theorem lm_7_173 : tb_look tb_mT 7 173 = some ((0, mX0_has), [613, 614, 615, 71, 616]) := by rfl
theorem lm_7_177 : tb_look tb_mT 7 177 = some ((0, mX0_tell), [617, 618, 619, 71, 620]) := by rfl
theorem lm_7_180 : tb_look tb_mT 7 180 = some ((0, mX7_boxGaps), [627, 629, 28, 67, 630]) := by rfl
theorem lm_7_183 : tb_look tb_mT 7 183 = some ((0, mX7_boxDiffs), [635, 637, 29, 67, 638]) := by rfl
theorem lm_7_187 : tb_look tb_mT 7 187 = some ((1, mX7_firstOfPair), [642, 643, 0, 67, 644]) := by rfl
theorem lm_7_190 : tb_look tb_mT 7 190 = some ((1, mX7_secondOfPair), [645, 646, 0, 67, 647]) := by rfl
theorem lm_7_193 : tb_look tb_mT 7 193 = some ((0, mX6_ruleCount), [652, 653, 654, 70, 655]) := by rfl
theorem lm_7_196 : tb_look tb_mT 7 196 = some ((0, mX6_placeOfRule), [660, 661, 662, 70, 663]) := by rfl
theorem lm_7_199 : tb_look tb_mT 7 199 = some ((0, mX6_termAt), [664, 531, 532, 70, 533]) := by rfl
theorem lm_7_202 : tb_look tb_mT 7 202 = some ((0, mX7_isIdle), [669, 671, 31, 67, 672]) := by rfl
theorem lm_7_205 : tb_look tb_mT 7 205 = some ((1, mX7_sharedSide), [681, 682, 0, 67, 683]) := by rfl
theorem lm_7_209 : tb_look tb_mT 7 209 = some ((0, mX7_isFlat), [689, 691, 32, 67, 692]) := by rfl
theorem lm_7_212 : tb_look tb_mT 7 212 = some ((0, mX6_suppose), [693, 694, 695, 70, 696]) := by rfl
theorem lm_7_215 : tb_look tb_mT 7 215 = some ((0, mX1_forget), [701, 702, 703, 69, 704]) := by rfl
theorem lm_7_218 : tb_look tb_mT 7 218 = some ((0, mX1_note), [705, 706, 707, 69, 708]) := by rfl
theorem lm_7_221 : tb_look tb_mT 7 221 = some ((0, mX7_saysWhatWasPaid), [713, 715, 33, 67, 716]) := by rfl
theorem lm_7_233 : tb_look tb_mT 7 233 = some ((0, mX3_has), [728, 729, 730, 74, 731]) := by rfl
theorem lm_7_234 : tb_look tb_mT 7 234 = some ((0, mX3_renew), [732, 733, 734, 74, 735]) := by rfl
theorem lm_7_237 : tb_look tb_mT 7 237 = some ((0, mX3_holds), [741, 742, 743, 74, 744]) := by rfl
theorem lm_7_240 : tb_look tb_mT 7 240 = some ((0, mX3_hasPlace), [745, 746, 747, 74, 748]) := by rfl
theorem lm_7_244 : tb_look tb_mT 7 244 = some ((0, mX3_store), [749, 750, 751, 74, 752]) := by rfl
theorem lm_7_248 : tb_look tb_mT 7 248 = some ((0, mX3_at), [758, 759, 760, 74, 761]) := by rfl
theorem lm_7_252 : tb_look tb_mT 7 252 = some ((0, mX7_partNumber), [766, 768, 34, 67, 769]) := by rfl
theorem lm_7_255 : tb_look tb_mT 7 255 = some ((0, mX3_flaw), [774, 775, 776, 74, 777]) := by rfl
theorem lm_7_258 : tb_look tb_mT 7 258 = some ((0, mX3_answer), [789, 790, 791, 74, 792]) := by rfl
theorem lm_7_260 : tb_look tb_mT 7 260 = some ((0, mX5_copyFrom), [808, 809, 810, 68, 811]) := by rfl
theorem lm_7_263 : tb_look tb_mT 7 263 = some ((0, mX1_copyFrom), [812, 813, 814, 69, 815]) := by rfl
theorem lm_7_268 : tb_look tb_mT 7 268 = some ((0, mX5_countOf), [824, 825, 826, 68, 827]) := by rfl
theorem lm_7_271 : tb_look tb_mT 7 271 = some ((0, mX5_greatestSize), [828, 829, 830, 68, 831]) := by rfl
theorem lm_7_275 : tb_look tb_mT 7 275 = some ((1, mX7_figure), [356, 357, 0, 67, 358]) := by rfl
theorem lm_7_278 : tb_look tb_mT 7 278 = some ((1, mX7_canBe), [359, 360, 0, 67, 361]) := by rfl
theorem lm_7_282 : tb_look tb_mT 7 282 = some ((1, mX7_ageOf), [541, 542, 0, 67, 543]) := by rfl
theorem lm_7_285 : tb_look tb_mT 7 285 = some ((1, mX7_dayOf), [544, 545, 0, 67, 546]) := by rfl
theorem lm_7_288 : tb_look tb_mT 7 288 = some ((1, mX7_hourOf), [547, 548, 0, 67, 549]) := by rfl
theorem lm_7_295 : tb_look tb_mT 7 295 = some ((0, mX6_silence), [673, 674, 675, 70, 676]) := by rfl
theorem lm_7_303 : tb_look tb_mT 7 303 = some ((0, mX0_takeAll), [584, 585, 586, 71, 587]) := by rfl
theorem lm_7_306 : tb_look tb_mT 7 306 = some ((1, mX7_pair), [639, 640, 0, 67, 641]) := by rfl
theorem lm_8_80 : tb_look tb_mT 8 80 = some ((1, mX8_within), [958, 959, 0, 75, 960]) := by rfl
theorem lm_8_85 : tb_look tb_mT 8 85 = some ((1, mX8_figure), [986, 987, 0, 75, 988]) := by rfl
theorem lm_8_89 : tb_look tb_mT 8 89 = some ((1, mX8_most), [989, 990, 0, 75, 991]) := by rfl
theorem lm_8_93 : tb_look tb_mT 8 93 = some ((1, mX8_part), [1114, 1115, 0, 75, 1116]) := by rfl
theorem lm_8_101 : tb_look tb_mT 8 101 = some ((0, mX8_lays), [965, 967, 40, 75, 968]) := by rfl
theorem lm_8_105 : tb_look tb_mT 8 105 = some ((0, mX8_adds), [961, 963, 39, 75, 964]) := by rfl
theorem lm_8_109 : tb_look tb_mT 8 109 = some ((0, mX8_isTerm), [978, 980, 41, 75, 981]) := by rfl
theorem lm_8_113 : tb_look tb_mT 8 113 = some ((1, mX8_isBox), [982, 983, 0, 75, 984]) := by rfl
theorem lm_8_116 : tb_look tb_mT 8 116 = some ((1, mX8_ofTwo), [1000, 1001, 0, 75, 1002]) := by rfl
theorem lm_8_125 : tb_look tb_mT 8 125 = some ((0, mX8_next), [1027, 1029, 44, 75, 1030]) := by rfl
theorem lm_8_129 : tb_look tb_mT 8 129 = some ((0, mX8_wrong), [1057, 1059, 50, 75, 1060]) := by rfl
theorem lm_8_135 : tb_look tb_mT 8 135 = some ((0, mX8_isFigure), [1023, 1025, 43, 75, 1026]) := by rfl
theorem lm_8_142 : tb_look tb_mT 8 142 = some ((0, mX8_number), [1031, 1033, 45, 75, 1034]) := by rfl
theorem lm_8_145 : tb_look tb_mT 8 145 = some ((0, mX8_ends), [1035, 1037, 46, 75, 1038]) := by rfl
theorem lm_8_148 : tb_look tb_mT 8 148 = some ((0, mX8_makes), [1039, 1041, 47, 75, 1042]) := by rfl
theorem lm_8_154 : tb_look tb_mT 8 154 = some ((1, mX8_kindOf), [1043, 1044, 0, 75, 1045]) := by rfl
theorem lm_8_157 : tb_look tb_mT 8 157 = some ((1, mX8_ofOne), [1046, 1047, 0, 75, 1048]) := by rfl
theorem lm_8_160 : tb_look tb_mT 8 160 = some ((0, mX8_boxThere), [1049, 1051, 48, 75, 1052]) := by rfl
theorem lm_8_163 : tb_look tb_mT 8 163 = some ((0, mX8_is), [1053, 1055, 49, 75, 1056]) := by rfl
theorem lm_8_166 : tb_look tb_mT 8 166 = some ((0, mX8_term), [1019, 1021, 42, 75, 1022]) := by rfl
theorem lm_8_175 : tb_look tb_mT 8 175 = some ((0, mX8_writes), [1085, 1087, 53, 75, 1088]) := by rfl
theorem lm_8_179 : tb_look tb_mT 8 179 = some ((0, mX8_writesNumber), [1081, 1083, 52, 75, 1084]) := by rfl
theorem lm_8_182 : tb_look tb_mT 8 182 = some ((1, mX8_letterOf), [1089, 1090, 0, 75, 1091]) := by rfl
theorem lm_8_185 : tb_look tb_mT 8 185 = some ((0, mX8_spells), [1077, 1079, 51, 75, 1080]) := by rfl
theorem lm_8_191 : tb_look tb_mT 8 191 = some ((0, mX8_said), [1107, 1109, 55, 75, 1110]) := by rfl
theorem lm_8_197 : tb_look tb_mT 8 197 = some ((1, mX8_isIn), [1111, 1112, 0, 75, 1113]) := by rfl
theorem lm_8_207 : tb_look tb_mT 8 207 = some ((0, mX8_sayOf), [1103, 1105, 54, 75, 1106]) := by rfl
theorem lm_8_210 : tb_look tb_mT 8 210 = some ((1, mX8_isCase), [1100, 1101, 0, 75, 1102]) := by rfl
theorem lm_8_213 : tb_look tb_mT 8 213 = some ((0, mX8_tells), [1122, 1124, 56, 75, 1125]) := by rfl
theorem lm_8_219 : tb_look tb_mT 8 219 = some ((0, mX8_sum), [1131, 1119, 1120, 75, 1121]) := by rfl
theorem lm_8_222 : tb_look tb_mT 8 222 = some ((0, mX8_goesWith), [1148, 1150, 60, 75, 1151]) := by rfl
theorem lm_8_228 : tb_look tb_mT 8 228 = some ((0, mX8_all), [1144, 1146, 59, 75, 1147]) := by rfl
theorem lm_8_232 : tb_look tb_mT 8 232 = some ((0, mX8_packs), [1140, 1142, 58, 75, 1143]) := by rfl
theorem lm_8_235 : tb_look tb_mT 8 235 = some ((0, mX8_finds), [1136, 1138, 57, 75, 1139]) := by rfl
theorem lm_8_239 : tb_look tb_mT 8 239 = some ((0, mX8_found), [1152, 1154, 61, 75, 1155]) := by rfl
theorem lm_8_245 : tb_look tb_mT 8 245 = some ((0, mX8_meets), [1168, 1170, 62, 75, 1171]) := by rfl
theorem lm_8_248 : tb_look tb_mT 8 248 = some ((0, mX8_rule), [1176, 1165, 1166, 75, 1167]) := by rfl
theorem lm_8_251 : tb_look tb_mT 8 251 = some ((0, mX8_isFlat), [1185, 1187, 63, 75, 1188]) := by rfl
theorem lm_8_254 : tb_look tb_mT 8 254 = some ((0, mX8_wouldSay), [1189, 1191, 64, 75, 1192]) := by rfl
theorem lm_8_264 : tb_look tb_mT 8 264 = some ((1, mX8_isRack), [1212, 1213, 0, 75, 1214]) := by rfl
theorem lm_8_267 : tb_look tb_mT 8 267 = some ((0, mX8_tellsOf), [1231, 1233, 65, 75, 1234]) := by rfl
theorem lm_9_13 : tb_look tb_mT 9 13 = some ((0, mX7_flat), [317, 318, 319, 67, 320]) := by rfl
theorem lm_9_17 : tb_look tb_mT 9 17 = some ((0, mX8_flat), [954, 955, 956, 75, 957]) := by rfl
theorem lm_9_18 : tb_look tb_mT 9 18 = some ((0, mX7_empty), [343, 344, 345, 67, 346]) := by rfl
theorem lm_9_22 : tb_look tb_mT 9 22 = some ((0, mX8_empty), [970, 971, 972, 75, 973]) := by rfl
theorem lm_9_23 : tb_look tb_mT 9 23 = some ((0, mX7_when), [347, 348, 349, 67, 350]) := by rfl
theorem lm_9_27 : tb_look tb_mT 9 27 = some ((0, mX8_when), [974, 975, 976, 75, 977]) := by rfl
theorem lm_9_28 : tb_look tb_mT 9 28 = some ((0, mX7_cap), [362, 363, 364, 67, 365]) := by rfl
theorem lm_9_32 : tb_look tb_mT 9 32 = some ((0, mX8_cap), [992, 993, 994, 75, 995]) := by rfl
theorem lm_9_33 : tb_look tb_mT 9 33 = some ((0, mX7_two), [366, 367, 368, 67, 369]) := by rfl
theorem lm_9_36 : tb_look tb_mT 9 36 = some ((0, mX8_two), [996, 997, 998, 75, 999]) := by rfl
theorem lm_9_37 : tb_look tb_mT 9 37 = some ((0, mX7_drop), [373, 374, 375, 67, 376]) := by rfl
theorem lm_9_40 : tb_look tb_mT 9 40 = some ((0, mX8_drop), [1003, 1004, 1005, 75, 1006]) := by rfl
theorem lm_9_41 : tb_look tb_mT 9 41 = some ((0, mX7_feed), [381, 382, 383, 67, 384]) := by rfl
theorem lm_9_44 : tb_look tb_mT 9 44 = some ((0, mX8_feed), [1007, 1008, 1009, 75, 1010]) := by rfl
theorem lm_9_45 : tb_look tb_mT 9 45 = some ((0, mX7_clear), [389, 390, 391, 67, 392]) := by rfl
theorem lm_9_48 : tb_look tb_mT 9 48 = some ((0, mX8_clear), [1011, 1012, 1013, 75, 1014]) := by rfl
theorem lm_9_49 : tb_look tb_mT 9 49 = some ((0, mX7_read), [397, 398, 399, 67, 400]) := by rfl
theorem lm_9_52 : tb_look tb_mT 9 52 = some ((0, mX8_read), [1015, 1016, 1017, 75, 1018]) := by rfl
theorem lm_9_53 : tb_look tb_mT 9 53 = some ((0, mX7_way), [452, 453, 454, 67, 455]) := by rfl
theorem lm_9_56 : tb_look tb_mT 9 56 = some ((0, mX8_way), [1061, 1062, 1063, 75, 1064]) := by rfl
theorem lm_9_57 : tb_look tb_mT 9 57 = some ((0, mX7_of), [456, 457, 458, 67, 459]) := by rfl
theorem lm_9_60 : tb_look tb_mT 9 60 = some ((0, mX8_of), [1065, 1066, 1067, 75, 1068]) := by rfl
theorem lm_9_61 : tb_look tb_mT 9 61 = some ((0, mX7_taken), [460, 461, 462, 67, 463]) := by rfl
theorem lm_9_64 : tb_look tb_mT 9 64 = some ((0, mX8_taken), [1069, 1070, 1071, 75, 1072]) := by rfl
theorem lm_9_65 : tb_look tb_mT 9 65 = some ((0, mX7_spell), [467, 468, 469, 67, 470]) := by rfl
theorem lm_9_68 : tb_look tb_mT 9 68 = some ((0, mX8_spell), [1073, 1074, 1075, 75, 1076]) := by rfl
theorem lm_9_69 : tb_look tb_mT 9 69 = some ((0, mX7_paper), [498, 499, 500, 67, 501]) := by rfl
theorem lm_9_72 : tb_look tb_mT 9 72 = some ((0, mX8_paper), [1092, 1093, 1094, 75, 1095]) := by rfl
theorem lm_9_73 : tb_look tb_mT 9 73 = some ((0, mX7_says), [502, 503, 504, 67, 505]) := by rfl
theorem lm_9_76 : tb_look tb_mT 9 76 = some ((0, mX8_says), [1096, 1097, 1098, 75, 1099]) := by rfl
theorem lm_9_77 : tb_look tb_mT 9 77 = some ((0, mX7_sum), [555, 556, 557, 67, 558]) := by rfl
theorem lm_9_80 : tb_look tb_mT 9 80 = some ((0, mX8_sum), [1118, 1119, 1120, 75, 1121]) := by rfl
theorem lm_9_81 : tb_look tb_mT 9 81 = some ((0, mX7_odds), [568, 569, 570, 67, 571]) := by rfl
theorem lm_9_85 : tb_look tb_mT 9 85 = some ((0, mX8_odds), [1126, 1127, 1128, 75, 1129]) := by rfl
theorem lm_9_86 : tb_look tb_mT 9 86 = some ((0, mX7_part), [576, 577, 578, 67, 579]) := by rfl
theorem lm_9_89 : tb_look tb_mT 9 89 = some ((0, mX8_part_), [1132, 1133, 1134, 75, 1135]) := by rfl
theorem lm_9_90 : tb_look tb_mT 9 90 = some ((0, mX7_gap), [623, 624, 625, 67, 626]) := by rfl
theorem lm_9_93 : tb_look tb_mT 9 93 = some ((0, mX8_gap), [1156, 1157, 1158, 75, 1159]) := by rfl
theorem lm_9_94 : tb_look tb_mT 9 94 = some ((0, mX7_diff), [631, 632, 633, 67, 634]) := by rfl
theorem lm_9_98 : tb_look tb_mT 9 98 = some ((0, mX8_diff), [1160, 1161, 1162, 75, 1163]) := by rfl
theorem lm_9_99 : tb_look tb_mT 9 99 = some ((0, mX7_rule), [648, 649, 650, 67, 651]) := by rfl
theorem lm_9_102 : tb_look tb_mT 9 102 = some ((0, mX8_rule), [1164, 1165, 1166, 75, 1167]) := by rfl
theorem lm_9_103 : tb_look tb_mT 9 103 = some ((0, mX7_idle), [665, 666, 667, 67, 668]) := by rfl
theorem lm_9_106 : tb_look tb_mT 9 106 = some ((0, mX8_idle), [1172, 1173, 1174, 75, 1175]) := by rfl
theorem lm_9_107 : tb_look tb_mT 9 107 = some ((0, mX7_overlap), [677, 678, 679, 67, 680]) := by rfl
theorem lm_9_110 : tb_look tb_mT 9 110 = some ((0, mX8_overlap), [1177, 1178, 1179, 75, 1180]) := by rfl
theorem lm_9_111 : tb_look tb_mT 9 111 = some ((0, mX7_would), [685, 686, 687, 67, 688]) := by rfl
theorem lm_9_114 : tb_look tb_mT 9 114 = some ((0, mX8_would), [1181, 1182, 1183, 75, 1184]) := by rfl
theorem lm_9_115 : tb_look tb_mT 9 115 = some ((0, mX7_paid), [697, 698, 699, 67, 700]) := by rfl
theorem lm_9_118 : tb_look tb_mT 9 118 = some ((0, mX8_paid), [1193, 1194, 1195, 75, 1196]) := by rfl
theorem lm_9_119 : tb_look tb_mT 9 119 = some ((0, mX7_fits), [709, 710, 711, 67, 712]) := by rfl
theorem lm_9_122 : tb_look tb_mT 9 122 = some ((0, mX8_fits), [1197, 1198, 1199, 75, 1200]) := by rfl
theorem lm_9_123 : tb_look tb_mT 9 123 = some ((0, mX7_till), [717, 718, 719, 67, 720]) := by rfl
theorem lm_9_126 : tb_look tb_mT 9 126 = some ((0, mX8_till), [1201, 1202, 1203, 75, 1204]) := by rfl
theorem lm_9_127 : tb_look tb_mT 9 127 = some ((0, mX7_rack), [724, 725, 726, 67, 727]) := by rfl
theorem lm_9_130 : tb_look tb_mT 9 130 = some ((0, mX8_rack), [1208, 1209, 1210, 75, 1211]) := by rfl
theorem lm_9_131 : tb_look tb_mT 9 131 = some ((0, mX7_put), [737, 738, 739, 67, 740]) := by rfl
theorem lm_9_134 : tb_look tb_mT 9 134 = some ((0, mX8_put), [1215, 1216, 1217, 75, 1218]) := by rfl
theorem lm_9_135 : tb_look tb_mT 9 135 = some ((0, mX7_get), [754, 755, 756, 67, 757]) := by rfl
theorem lm_9_138 : tb_look tb_mT 9 138 = some ((0, mX8_get), [1219, 1220, 1221, 75, 1222]) := by rfl
theorem lm_9_139 : tb_look tb_mT 9 139 = some ((0, mX7_lay), [762, 763, 764, 67, 765]) := by rfl
theorem lm_9_142 : tb_look tb_mT 9 142 = some ((0, mX8_lay), [1223, 1224, 1225, 75, 1226]) := by rfl
theorem lm_9_143 : tb_look tb_mT 9 143 = some ((0, mX7_judge), [770, 771, 772, 67, 773]) := by rfl
theorem lm_9_146 : tb_look tb_mT 9 146 = some ((0, mX8_judge), [1227, 1228, 1229, 75, 1230]) := by rfl
theorem lm_9_147 : tb_look tb_mT 9 147 = some ((0, mX7_image), [804, 805, 806, 67, 807]) := by rfl
theorem lm_9_150 : tb_look tb_mT 9 150 = some ((0, mX8_image), [1235, 1236, 1237, 75, 1238]) := by rfl
theorem lm_9_151 : tb_look tb_mT 9 151 = some ((0, mX7_undo), [816, 817, 818, 67, 819]) := by rfl
theorem lm_9_154 : tb_look tb_mT 9 154 = some ((0, mX8_undo), [1239, 1240, 1241, 75, 1242]) := by rfl
theorem lm_9_155 : tb_look tb_mT 9 155 = some ((0, mX7_count), [820, 821, 822, 67, 823]) := by rfl
theorem lm_9_158 : tb_look tb_mT 9 158 = some ((0, mX8_count), [1243, 1244, 1245, 75, 1246]) := by rfl
theorem ln_5_44 : tb_look tb_mT 5 44 = none := by rfl
theorem ln_6_44 : tb_look tb_mT 6 44 = none := by rfl
theorem ln_7_228 : tb_look tb_mT 7 228 = none := by rfl
theorem ln_7_292 : tb_look tb_mT 7 292 = none := by rfl
theorem ln_8_96 : tb_look tb_mT 8 96 = none := by rfl
theorem ln_8_204 : tb_look tb_mT 8 204 = none := by rfl
theorem lx_5_44 : tb_look tb_xT 5 44 = some (0, 340) := by rfl
theorem lx_6_44 : tb_look tb_xT 6 44 = some (1, 514) := by rfl
theorem lx_7_228 : tb_look tb_xT 7 228 = some (0, 563) := by rfl
theorem lx_7_292 : tb_look tb_xT 7 292 = some (1, 684) := by rfl
theorem lx_8_96 : tb_look tb_xT 8 96 = some (0, 969) := by rfl
theorem lx_8_204 : tb_look tb_xT 8 204 = some (1, 1117) := by rfl
theorem k_bi_10 : (Int8.ofInt (10)).toInt32 = (10 : Int32) := by decide +kernel
theorem k_bi_100 : (Int8.ofInt (100)).toInt32 = (100 : Int32) := by decide +kernel
theorem k_bi_120 : (Int8.ofInt (120)).toInt32 = (120 : Int32) := by decide +kernel
theorem k_bi_127 : (Int8.ofInt (127)).toInt32 = (127 : Int32) := by decide +kernel
theorem k_bi_24 : (Int8.ofInt (24)).toInt32 = (24 : Int32) := by decide +kernel
theorem k_bi_28 : (Int8.ofInt (28)).toInt32 = (28 : Int32) := by decide +kernel
theorem k_bi_33 : (Int8.ofInt (33)).toInt32 = (33 : Int32) := by decide +kernel
theorem k_bi_35 : (Int8.ofInt (35)).toInt32 = (35 : Int32) := by decide +kernel
theorem k_bi_40 : (Int8.ofInt (40)).toInt32 = (40 : Int32) := by decide +kernel
theorem k_bi_41 : (Int8.ofInt (41)).toInt32 = (41 : Int32) := by decide +kernel
theorem k_bi_43 : (Int8.ofInt (43)).toInt32 = (43 : Int32) := by decide +kernel
theorem k_bi_44 : (Int8.ofInt (44)).toInt32 = (44 : Int32) := by decide +kernel
theorem k_bi_45 : (Int8.ofInt (45)).toInt32 = (45 : Int32) := by decide +kernel
theorem k_bi_47 : (Int8.ofInt (47)).toInt32 = (47 : Int32) := by decide +kernel
theorem k_bi_48 : (Int8.ofInt (48)).toInt32 = (48 : Int32) := by decide +kernel
theorem k_bi_57 : (Int8.ofInt (57)).toInt32 = (57 : Int32) := by decide +kernel
theorem k_bi_58 : (Int8.ofInt (58)).toInt32 = (58 : Int32) := by decide +kernel
theorem k_bi_6 : (Int8.ofInt (6)).toInt32 = (6 : Int32) := by decide +kernel
theorem k_bi_60 : (Int8.ofInt (60)).toInt32 = (60 : Int32) := by decide +kernel
theorem k_bi_63 : (Int8.ofInt (63)).toInt32 = (63 : Int32) := by decide +kernel
theorem k_bi_7 : (Int8.ofInt (7)).toInt32 = (7 : Int32) := by decide +kernel
theorem k_bi_70 : (Int8.ofInt (70)).toInt32 = (70 : Int32) := by decide +kernel
theorem k_bi_72 : (Int8.ofInt (72)).toInt32 = (72 : Int32) := by decide +kernel
theorem k_bi_8 : (Int8.ofInt (8)).toInt32 = (8 : Int32) := by decide +kernel
theorem k_bi_9 : (Int8.ofInt (9)).toInt32 = (9 : Int32) := by decide +kernel
theorem k_bi_94 : (Int8.ofInt (94)).toInt32 = (94 : Int32) := by decide +kernel
theorem k_bi_96 : (Int8.ofInt (96)).toInt32 = (96 : Int32) := by decide +kernel
theorem k_bi_99 : (Int8.ofInt (99)).toInt32 = (99 : Int32) := by decide +kernel
theorem k_bi_m100 : (Int8.ofInt (-100)).toInt32 = (-100 : Int32) := by decide +kernel
theorem k_bi_m11 : (Int8.ofInt (-11)).toInt32 = (-11 : Int32) := by decide +kernel
theorem k_bi_m12 : (Int8.ofInt (-12)).toInt32 = (-12 : Int32) := by decide +kernel
theorem k_bi_m13 : (Int8.ofInt (-13)).toInt32 = (-13 : Int32) := by decide +kernel
theorem k_bi_m14 : (Int8.ofInt (-14)).toInt32 = (-14 : Int32) := by decide +kernel
theorem k_bi_m2 : (Int8.ofInt (-2)).toInt32 = (-2 : Int32) := by decide +kernel
theorem k_bi_m3 : (Int8.ofInt (-3)).toInt32 = (-3 : Int32) := by decide +kernel
theorem k_bi_m4 : (Int8.ofInt (-4)).toInt32 = (-4 : Int32) := by decide +kernel
theorem k_bi_m5 : (Int8.ofInt (-5)).toInt32 = (-5 : Int32) := by decide +kernel
theorem k_ic_0 : Int32.ofInt (0) = (0 : Int32) := by decide +kernel
theorem k_ic_1 : Int32.ofInt (1) = (1 : Int32) := by decide +kernel
theorem k_ic_2 : Int32.ofInt (2) = (2 : Int32) := by decide +kernel
theorem k_ic_3 : Int32.ofInt (3) = (3 : Int32) := by decide +kernel
theorem k_ic_4 : Int32.ofInt (4) = (4 : Int32) := by decide +kernel
theorem k_ic_5 : Int32.ofInt (5) = (5 : Int32) := by decide +kernel
theorem k_ic_m1 : Int32.ofInt (-1) = (-1 : Int32) := by decide +kernel
theorem k_si_1000 : (Int16.ofInt (1000)).toInt32 = (1000 : Int32) := by decide +kernel
theorem k_si_10000 : (Int16.ofInt (10000)).toInt32 = (10000 : Int32) := by decide +kernel
theorem k_si_144 : (Int16.ofInt (144)).toInt32 = (144 : Int32) := by decide +kernel
theorem k_si_168 : (Int16.ofInt (168)).toInt32 = (168 : Int32) := by decide +kernel
theorem k_si_176 : (Int16.ofInt (176)).toInt32 = (176 : Int32) := by decide +kernel
theorem k_si_223 : (Int16.ofInt (223)).toInt32 = (223 : Int32) := by decide +kernel
theorem k_si_224 : (Int16.ofInt (224)).toInt32 = (224 : Int32) := by decide +kernel
theorem k_si_256 : (Int16.ofInt (256)).toInt32 = (256 : Int32) := by decide +kernel
theorem k_si_470 : (Int16.ofInt (470)).toInt32 = (470 : Int32) := by decide +kernel
theorem k_si_500 : (Int16.ofInt (500)).toInt32 = (500 : Int32) := by decide +kernel
theorem tb_nz0 : vp_nar .boolean 0 = 0 := by decide +kernel
theorem tb_nz1 : vp_nar .boolean 1 = 1 := by decide +kernel
theorem tb_ix_lt {i : Int32} {n j : Nat} (h : tb_ix i n = some j) : j < n := by
  obtain ⟨h1, rfl⟩ := tb_ix_some h
  exact Nat.not_le.mp fun q => h1 (Or.inr q)
theorem tb_shq {i : Int32} {j : Nat} (h : tb_ix i 4 = some j) : tb_S[40 + j]? = some (50, [70]) := by
  have h1 := tb_ix_lt h
  obtain rfl | rfl | rfl | rfl : j = 0 ∨ j = 1 ∨ j = 2 ∨ j = 3 := by omega
  · rfl
  · rfl
  · rfl
  · rfl
theorem tb_shr {i : Int32} {j : Nat} (h : tb_ix i 4 = some j) : [41, 42, 43, 44].getD j 0 = 40 + j + 1 := by
  have h1 := tb_ix_lt h
  obtain rfl | rfl | rfl | rfl : j = 0 ∨ j = 1 ∨ j = 2 ∨ j = 3 := by omega
  · rfl
  · rfl
  · rfl
  · rfl
def tb_dI (q : tb_XR) : Option (Int32 × tb_St) := match q.1 with
  | some (.int v) => if q.2.1 = tb_S then some (v, q.2.2) else none
  | _ => none
def tb_dL (q : tb_XR) : Option (Int64 × tb_St) := match q.1 with
  | some (.long v) => if q.2.1 = tb_S then some (v, q.2.2) else none
  | _ => none
def tb_dV (q : tb_XR) : Option tb_St := match q.1 with
  | none => if q.2.1 = tb_S then some q.2.2 else none
  | _ => none
theorem tb_dI_ok (v : Int32) (S : tb_St) : tb_dI (some (.int v), (tb_S, S)) = some (v, S) := by unfold tb_dI; exact if_pos rfl
theorem tb_dL_ok (v : Int64) (S : tb_St) : tb_dL (some (.long v), (tb_S, S)) = some (v, S) := by unfold tb_dL; exact if_pos rfl
theorem tb_dV_ok (S : tb_St) : tb_dV (none, (tb_S, S)) = some S := by unfold tb_dV; exact if_pos rfl
theorem tb_dI_inv {q : tb_XR} {r : Int32 × tb_St} (h : tb_dI q = some r) : q = (some (.int r.1), (tb_S, r.2)) := by
  obtain ⟨v, H, S⟩ := q
  unfold tb_dI at h
  dsimp only at h
  split at h
  · split at h
    · rename_i e
      cases h
      subst e
      rfl
    · cases h
  · cases h
theorem tb_dL_inv {q : tb_XR} {r : Int64 × tb_St} (h : tb_dL q = some r) : q = (some (.long r.1), (tb_S, r.2)) := by
  obtain ⟨v, H, S⟩ := q
  unfold tb_dL at h
  dsimp only at h
  split at h
  · split at h
    · rename_i e
      cases h
      subst e
      rfl
    · cases h
  · cases h
theorem tb_dV_inv {q : tb_XR} {r : tb_St} (h : tb_dV q = some r) : q = (none, (tb_S, r)) := by
  obtain ⟨v, H, S⟩ := q
  unfold tb_dV at h
  dsimp only at h
  split at h
  · split at h
    · rename_i e
      cases h
      subst e
      rfl
    · cases h
  · cases h
noncomputable def tb_cI (d : Nat) (z : tb_MD) (as : List Value) (S : tb_St) : Option (Int32 × tb_St) := (tb_rn d z as (tb_S, S)).bind tb_dI
noncomputable def tb_cL (d : Nat) (z : tb_MD) (as : List Value) (S : tb_St) : Option (Int64 × tb_St) := (tb_rn d z as (tb_S, S)).bind tb_dL
noncomputable def tb_cV (d : Nat) (z : tb_MD) (as : List Value) (S : tb_St) : Option tb_St := (tb_rn d z as (tb_S, S)).bind tb_dV
theorem tb_cI_inv {d : Nat} {z : tb_MD} {as : List Value} {S : tb_St} {r : Int32 × tb_St} (h : tb_cI d z as S = some r) : tb_rn d z as (tb_S, S) = some (some (.int r.1), (tb_S, r.2)) := by
  obtain ⟨q, h1, h2⟩ := Option.bind_eq_some_iff.mp h
  rw [h1, tb_dI_inv h2]
theorem tb_cL_inv {d : Nat} {z : tb_MD} {as : List Value} {S : tb_St} {r : Int64 × tb_St} (h : tb_cL d z as S = some r) : tb_rn d z as (tb_S, S) = some (some (.long r.1), (tb_S, r.2)) := by
  obtain ⟨q, h1, h2⟩ := Option.bind_eq_some_iff.mp h
  rw [h1, tb_dL_inv h2]
theorem tb_cV_inv {d : Nat} {z : tb_MD} {as : List Value} {S : tb_St} {r : tb_St} (h : tb_cV d z as S = some r) : tb_rn d z as (tb_S, S) = some (none, (tb_S, r)) := by
  obtain ⟨q, h1, h2⟩ := Option.bind_eq_some_iff.mp h
  rw [h1, tb_dV_inv h2]
section TRows
variable {α : Type} {d : Nat} {y : tb_MD} {dec : tb_XR → Option α} {pc pc' : Nat} {ls st : List Value} {S : tb_St} {r : α} {kx o c : Nat} {z : tb_MD} {ps rs : List Nat} {as rest : List Value}
theorem x_virtI {q : Int32 × tb_St} (hd : decode y.2.2.1 pc = .ok (.invokevirtual kx, 3)) (hp : pc + 3 = pc') (hl : tb_look tb_mT y.1 kx = some ((0, z), ps)) (h1 : st.drop z.2.2.2.2.2 = .ref o :: rest) (h2 : (st.take z.2.2.2.2.2).reverse = as) (h3 : Nat.beq (st.take z.2.2.2.2.2).length z.2.2.2.2.2 = true) (ht : tb_S[o]? = some (z.1, rs)) (hc : Nat.ble (rest.map tb_cat).sum 8 = true)
    (hq : tb_cI d z (.ref o :: as) S = some q) (k : tb_E d y dec pc' ls (.int q.1 :: rest) tb_S q.2 = some r) : tb_E d y dec pc ls st tb_S S = some r := x_virt hd hp hl h1 h2 h3 ht hc (tb_cI_inv hq) rfl k
theorem x_virtL {q : Int64 × tb_St} (hd : decode y.2.2.1 pc = .ok (.invokevirtual kx, 3)) (hp : pc + 3 = pc') (hl : tb_look tb_mT y.1 kx = some ((0, z), ps)) (h1 : st.drop z.2.2.2.2.2 = .ref o :: rest) (h2 : (st.take z.2.2.2.2.2).reverse = as) (h3 : Nat.beq (st.take z.2.2.2.2.2).length z.2.2.2.2.2 = true) (ht : tb_S[o]? = some (z.1, rs)) (hc : Nat.ble (rest.map tb_cat).sum 8 = true)
    (hq : tb_cL d z (.ref o :: as) S = some q) (k : tb_E d y dec pc' ls (.long q.1 :: rest) tb_S q.2 = some r) : tb_E d y dec pc ls st tb_S S = some r := x_virt hd hp hl h1 h2 h3 ht hc (tb_cL_inv hq) rfl k
theorem x_virtV {q : tb_St} (hd : decode y.2.2.1 pc = .ok (.invokevirtual kx, 3)) (hp : pc + 3 = pc') (hl : tb_look tb_mT y.1 kx = some ((0, z), ps)) (h1 : st.drop z.2.2.2.2.2 = .ref o :: rest) (h2 : (st.take z.2.2.2.2.2).reverse = as) (h3 : Nat.beq (st.take z.2.2.2.2.2).length z.2.2.2.2.2 = true) (ht : tb_S[o]? = some (z.1, rs)) (hc : Nat.ble (rest.map tb_cat).sum 8 = true)
    (hq : tb_cV d z (.ref o :: as) S = some q) (k : tb_E d y dec pc' ls rest tb_S q = some r) : tb_E d y dec pc ls st tb_S S = some r := x_virt hd hp hl h1 h2 h3 ht hc (tb_cV_inv hq) rfl k
theorem x_statI {q : Int32 × tb_St} (hd : decode y.2.2.1 pc = .ok (.invokestatic kx, 3)) (hp : pc + 3 = pc') (hl : tb_look tb_mT y.1 kx = some ((c, z), ps)) (hk : c = 1 ∨ c = 2) (h1 : st.drop z.2.2.2.2.2 = rest) (h2 : (st.take z.2.2.2.2.2).reverse = as) (h3 : Nat.beq (st.take z.2.2.2.2.2).length z.2.2.2.2.2 = true) (hc : Nat.ble (rest.map tb_cat).sum 8 = true)
    (hq : tb_cI d z as S = some q) (k : tb_E d y dec pc' ls (.int q.1 :: rest) tb_S q.2 = some r) : tb_E d y dec pc ls st tb_S S = some r := x_stat hd hp hl hk h1 h2 h3 hc (tb_cI_inv hq) rfl k
/-- a method's run from its first instruction -/
theorem tb_ent {z : tb_MD} {as ls : List Value} {H : tb_SH} {q : tb_XR} (h1 : (Nat.ble as.length z.2.2.2.1 && as.all fun v => tb_cat v == 1 && !tb_isJ v) = true) (h2 : as ++ List.replicate (z.2.2.2.1 - as.length) tb_jk = ls) (h : tb_ex (tb_rn d) z (0, ls, [], (H, S)) = some q) : tb_rn (d + 1) z as (H, S) = some q := by
  subst h2
  rw [Bool.and_eq_true] at h1
  unfold tb_rn
  rw [if_pos ⟨Nat.le_of_ble_eq_true h1.1, h1.2⟩]
  exact h
theorem tb_enI {z : tb_MD} {as ls : List Value} {r : Int32 × tb_St} (h1 : (Nat.ble as.length z.2.2.2.1 && as.all fun v => tb_cat v == 1 && !tb_isJ v) = true) (h2 : as ++ List.replicate (z.2.2.2.1 - as.length) tb_jk = ls) (h : tb_E d z tb_dI 0 ls [] tb_S S = some r) : tb_cI (d + 1) z as S = some r := by
  obtain ⟨q, g1, g2⟩ := Option.bind_eq_some_iff.mp h
  exact Option.bind_eq_some_iff.mpr ⟨q, tb_ent h1 h2 g1, g2⟩
theorem tb_enL {z : tb_MD} {as ls : List Value} {r : Int64 × tb_St} (h1 : (Nat.ble as.length z.2.2.2.1 && as.all fun v => tb_cat v == 1 && !tb_isJ v) = true) (h2 : as ++ List.replicate (z.2.2.2.1 - as.length) tb_jk = ls) (h : tb_E d z tb_dL 0 ls [] tb_S S = some r) : tb_cL (d + 1) z as S = some r := by
  obtain ⟨q, g1, g2⟩ := Option.bind_eq_some_iff.mp h
  exact Option.bind_eq_some_iff.mpr ⟨q, tb_ent h1 h2 g1, g2⟩
theorem tb_enV {z : tb_MD} {as ls : List Value} {r : tb_St} (h1 : (Nat.ble as.length z.2.2.2.1 && as.all fun v => tb_cat v == 1 && !tb_isJ v) = true) (h2 : as ++ List.replicate (z.2.2.2.1 - as.length) tb_jk = ls) (h : tb_E d z tb_dV 0 ls [] tb_S S = some r) : tb_cV (d + 1) z as S = some r := by
  obtain ⟨q, g1, g2⟩ := Option.bind_eq_some_iff.mp h
  exact Option.bind_eq_some_iff.mpr ⟨q, tb_ent h1 h2 g1, g2⟩
end TRows
