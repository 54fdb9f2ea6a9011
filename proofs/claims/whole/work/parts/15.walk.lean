/-! ===== the shapes behind the constructors; rows for walks ===== -/
def xr_Sh0 : List am_SE := [(100, 6, []), (100, 6, []), (6, 10, [5, 17, 19, 25, 31, 44, 70, 74, 0, 0]), (2, 3, [6, 7, 8]), (100, 8, []), (100, 8, []), (103, 8, [9, 10, 11, 12, 13, 14, 15, 16]), (100, 40, []), (100, 40, []), (100, 40, []), (100, 40, []), (100, 40, []), (100, 40, []), (100, 40, []), (100, 40, []), (4, 5, [18, 0, 0, 0, 0]), (100, 120, []), (5, 13, [20, 21, 22, 23, 24, 0, 0, 0, 0, 0, 0, 0, 0]), (100, 6, []), (100, 6, []), (100, 6, []), (100, 8, []), (100, 8, []), (5, 13, [26, 27, 28, 29, 30, 0, 0, 0, 0, 0, 0, 0, 0]), (100, 6, []), (100, 6, []), (100, 6, []), (100, 8, []), (100, 8, []), (102, 2, [32, 38]), (5, 13, [33, 34, 35, 36, 37, 0, 0, 0, 0, 0, 0, 0, 0]), (100, 6, []), (100, 6, []), (100, 6, []), (100, 8, []), (100, 8, []), (5, 13, [39, 40, 41, 42, 43, 0, 0, 0, 0, 0, 0, 0, 0]), (100, 6, []), (100, 6, []), (100, 6, []), (100, 8, []), (100, 8, []), (0, 3, [45, 0, 0]), (103, 24, [46, 47, 48, 49, 50, 51, 52, 53, 54, 55, 56, 57, 58, 59, 60, 61, 62, 63, 64, 65, 66, 67, 68, 69]), (100, 4, []), (100, 4, []), (100, 4, []), (100, 4, []), (100, 4, []), (100, 4, []), (100, 4, []), (100, 4, []), (100, 4, []), (100, 4, []), (100, 4, []), (100, 4, []), (100, 4, []), (100, 4, []), (100, 4, []), (100, 4, []), (100, 4, []), (100, 4, []), (100, 4, []), (100, 4, []), (100, 4, []), (100, 4, []), (100, 4, []), (100, 4, []), (3, 11, [71, 72, 73, 0, 0, 0, 0, 0, 0, 0, 0]), (100, 8, []), (100, 8, []), (101, 256, []), (1, 2, [75, 0]), (100, 16, []), (7, 32, [77, 78, 79, 80, 0, 81, 0, 0, 0, 0, 0, 0, 0, 82, 83, 84, 85, 0, 86, 87, 0, 88, 89, 90, 91, 92, 93, 0, 0, 0, 94, 0]), (100, 8, []), (100, 8, []), (100, 320, []), (100, 40, []), (100, 120, []), (100, 42, []), (100, 42, []), (100, 42, []), (100, 1008, []), (100, 84, []), (101, 2, []), (100, 8, []), (100, 9, []), (100, 9, []), (100, 9, []), (100, 9, []), (100, 8, []), (100, 16, [])]
def xr_Sh (L : Nat) : List am_SE := (100, L, []) :: xr_Sh0
abbrev rm_h (L : Nat) (σ : am_Mem) : am_H := (xr_Sh L, 0, 0, σ)
theorem sh_0 (L : Nat) : (xr_Sh L)[0]? = some (100, L, []) := rfl
theorem sh_1 (L : Nat) : (xr_Sh L)[1]? = some (100, 6, []) := rfl
theorem sh_2 (L : Nat) : (xr_Sh L)[2]? = some (100, 6, []) := rfl
theorem sh_3 (L : Nat) : (xr_Sh L)[3]? = some (6, 10, [5, 17, 19, 25, 31, 44, 70, 74, 0, 0]) := rfl
theorem sh_4 (L : Nat) : (xr_Sh L)[4]? = some (2, 3, [6, 7, 8]) := rfl
theorem sh_5 (L : Nat) : (xr_Sh L)[5]? = some (100, 8, []) := rfl
theorem sh_6 (L : Nat) : (xr_Sh L)[6]? = some (100, 8, []) := rfl
theorem sh_7 (L : Nat) : (xr_Sh L)[7]? = some (103, 8, [9, 10, 11, 12, 13, 14, 15, 16]) := rfl
theorem sh_8 (L : Nat) : (xr_Sh L)[8]? = some (100, 40, []) := rfl
theorem sh_9 (L : Nat) : (xr_Sh L)[9]? = some (100, 40, []) := rfl
theorem sh_10 (L : Nat) : (xr_Sh L)[10]? = some (100, 40, []) := rfl
theorem sh_11 (L : Nat) : (xr_Sh L)[11]? = some (100, 40, []) := rfl
theorem sh_12 (L : Nat) : (xr_Sh L)[12]? = some (100, 40, []) := rfl
theorem sh_13 (L : Nat) : (xr_Sh L)[13]? = some (100, 40, []) := rfl
theorem sh_14 (L : Nat) : (xr_Sh L)[14]? = some (100, 40, []) := rfl
theorem sh_15 (L : Nat) : (xr_Sh L)[15]? = some (100, 40, []) := rfl
theorem sh_16 (L : Nat) : (xr_Sh L)[16]? = some (4, 5, [18, 0, 0, 0, 0]) := rfl
theorem sh_17 (L : Nat) : (xr_Sh L)[17]? = some (100, 120, []) := rfl
theorem sh_18 (L : Nat) : (xr_Sh L)[18]? = some (5, 13, [20, 21, 22, 23, 24, 0, 0, 0, 0, 0, 0, 0, 0]) := rfl
theorem sh_19 (L : Nat) : (xr_Sh L)[19]? = some (100, 6, []) := rfl
theorem sh_20 (L : Nat) : (xr_Sh L)[20]? = some (100, 6, []) := rfl
theorem sh_21 (L : Nat) : (xr_Sh L)[21]? = some (100, 6, []) := rfl
theorem sh_22 (L : Nat) : (xr_Sh L)[22]? = some (100, 8, []) := rfl
theorem sh_23 (L : Nat) : (xr_Sh L)[23]? = some (100, 8, []) := rfl
theorem sh_24 (L : Nat) : (xr_Sh L)[24]? = some (5, 13, [26, 27, 28, 29, 30, 0, 0, 0, 0, 0, 0, 0, 0]) := rfl
theorem sh_25 (L : Nat) : (xr_Sh L)[25]? = some (100, 6, []) := rfl
theorem sh_26 (L : Nat) : (xr_Sh L)[26]? = some (100, 6, []) := rfl
theorem sh_27 (L : Nat) : (xr_Sh L)[27]? = some (100, 6, []) := rfl
theorem sh_28 (L : Nat) : (xr_Sh L)[28]? = some (100, 8, []) := rfl
theorem sh_29 (L : Nat) : (xr_Sh L)[29]? = some (100, 8, []) := rfl
theorem sh_30 (L : Nat) : (xr_Sh L)[30]? = some (102, 2, [32, 38]) := rfl
theorem sh_31 (L : Nat) : (xr_Sh L)[31]? = some (5, 13, [33, 34, 35, 36, 37, 0, 0, 0, 0, 0, 0, 0, 0]) := rfl
theorem sh_32 (L : Nat) : (xr_Sh L)[32]? = some (100, 6, []) := rfl
theorem sh_33 (L : Nat) : (xr_Sh L)[33]? = some (100, 6, []) := rfl
theorem sh_34 (L : Nat) : (xr_Sh L)[34]? = some (100, 6, []) := rfl
theorem sh_35 (L : Nat) : (xr_Sh L)[35]? = some (100, 8, []) := rfl
theorem sh_36 (L : Nat) : (xr_Sh L)[36]? = some (100, 8, []) := rfl
theorem sh_37 (L : Nat) : (xr_Sh L)[37]? = some (5, 13, [39, 40, 41, 42, 43, 0, 0, 0, 0, 0, 0, 0, 0]) := rfl
theorem sh_38 (L : Nat) : (xr_Sh L)[38]? = some (100, 6, []) := rfl
theorem sh_39 (L : Nat) : (xr_Sh L)[39]? = some (100, 6, []) := rfl
theorem sh_40 (L : Nat) : (xr_Sh L)[40]? = some (100, 6, []) := rfl
theorem sh_41 (L : Nat) : (xr_Sh L)[41]? = some (100, 8, []) := rfl
theorem sh_42 (L : Nat) : (xr_Sh L)[42]? = some (100, 8, []) := rfl
theorem sh_43 (L : Nat) : (xr_Sh L)[43]? = some (0, 3, [45, 0, 0]) := rfl
theorem sh_44 (L : Nat) : (xr_Sh L)[44]? = some (103, 24, [46, 47, 48, 49, 50, 51, 52, 53, 54, 55, 56, 57, 58, 59, 60, 61, 62, 63, 64, 65, 66, 67, 68, 69]) := rfl
theorem sh_45 (L : Nat) : (xr_Sh L)[45]? = some (100, 4, []) := rfl
theorem sh_46 (L : Nat) : (xr_Sh L)[46]? = some (100, 4, []) := rfl
theorem sh_47 (L : Nat) : (xr_Sh L)[47]? = some (100, 4, []) := rfl
theorem sh_48 (L : Nat) : (xr_Sh L)[48]? = some (100, 4, []) := rfl
theorem sh_49 (L : Nat) : (xr_Sh L)[49]? = some (100, 4, []) := rfl
theorem sh_50 (L : Nat) : (xr_Sh L)[50]? = some (100, 4, []) := rfl
theorem sh_51 (L : Nat) : (xr_Sh L)[51]? = some (100, 4, []) := rfl
theorem sh_52 (L : Nat) : (xr_Sh L)[52]? = some (100, 4, []) := rfl
theorem sh_53 (L : Nat) : (xr_Sh L)[53]? = some (100, 4, []) := rfl
theorem sh_54 (L : Nat) : (xr_Sh L)[54]? = some (100, 4, []) := rfl
theorem sh_55 (L : Nat) : (xr_Sh L)[55]? = some (100, 4, []) := rfl
theorem sh_56 (L : Nat) : (xr_Sh L)[56]? = some (100, 4, []) := rfl
theorem sh_57 (L : Nat) : (xr_Sh L)[57]? = some (100, 4, []) := rfl
theorem sh_58 (L : Nat) : (xr_Sh L)[58]? = some (100, 4, []) := rfl
theorem sh_59 (L : Nat) : (xr_Sh L)[59]? = some (100, 4, []) := rfl
theorem sh_60 (L : Nat) : (xr_Sh L)[60]? = some (100, 4, []) := rfl
theorem sh_61 (L : Nat) : (xr_Sh L)[61]? = some (100, 4, []) := rfl
theorem sh_62 (L : Nat) : (xr_Sh L)[62]? = some (100, 4, []) := rfl
theorem sh_63 (L : Nat) : (xr_Sh L)[63]? = some (100, 4, []) := rfl
theorem sh_64 (L : Nat) : (xr_Sh L)[64]? = some (100, 4, []) := rfl
theorem sh_65 (L : Nat) : (xr_Sh L)[65]? = some (100, 4, []) := rfl
theorem sh_66 (L : Nat) : (xr_Sh L)[66]? = some (100, 4, []) := rfl
theorem sh_67 (L : Nat) : (xr_Sh L)[67]? = some (100, 4, []) := rfl
theorem sh_68 (L : Nat) : (xr_Sh L)[68]? = some (100, 4, []) := rfl
theorem sh_69 (L : Nat) : (xr_Sh L)[69]? = some (3, 11, [71, 72, 73, 0, 0, 0, 0, 0, 0, 0, 0]) := rfl
theorem sh_70 (L : Nat) : (xr_Sh L)[70]? = some (100, 8, []) := rfl
theorem sh_71 (L : Nat) : (xr_Sh L)[71]? = some (100, 8, []) := rfl
theorem sh_72 (L : Nat) : (xr_Sh L)[72]? = some (101, 256, []) := rfl
theorem sh_73 (L : Nat) : (xr_Sh L)[73]? = some (1, 2, [75, 0]) := rfl
theorem sh_74 (L : Nat) : (xr_Sh L)[74]? = some (100, 16, []) := rfl
theorem sh_75 (L : Nat) : (xr_Sh L)[75]? = some (7, 32, [77, 78, 79, 80, 0, 81, 0, 0, 0, 0, 0, 0, 0, 82, 83, 84, 85, 0, 86, 87, 0, 88, 89, 90, 91, 92, 93, 0, 0, 0, 94, 0]) := rfl
theorem sh_76 (L : Nat) : (xr_Sh L)[76]? = some (100, 8, []) := rfl
theorem sh_77 (L : Nat) : (xr_Sh L)[77]? = some (100, 8, []) := rfl
theorem sh_78 (L : Nat) : (xr_Sh L)[78]? = some (100, 320, []) := rfl
theorem sh_79 (L : Nat) : (xr_Sh L)[79]? = some (100, 40, []) := rfl
theorem sh_80 (L : Nat) : (xr_Sh L)[80]? = some (100, 120, []) := rfl
theorem sh_81 (L : Nat) : (xr_Sh L)[81]? = some (100, 42, []) := rfl
theorem sh_82 (L : Nat) : (xr_Sh L)[82]? = some (100, 42, []) := rfl
theorem sh_83 (L : Nat) : (xr_Sh L)[83]? = some (100, 42, []) := rfl
theorem sh_84 (L : Nat) : (xr_Sh L)[84]? = some (100, 1008, []) := rfl
theorem sh_85 (L : Nat) : (xr_Sh L)[85]? = some (100, 84, []) := rfl
theorem sh_86 (L : Nat) : (xr_Sh L)[86]? = some (101, 2, []) := rfl
theorem sh_87 (L : Nat) : (xr_Sh L)[87]? = some (100, 8, []) := rfl
theorem sh_88 (L : Nat) : (xr_Sh L)[88]? = some (100, 9, []) := rfl
theorem sh_89 (L : Nat) : (xr_Sh L)[89]? = some (100, 9, []) := rfl
theorem sh_90 (L : Nat) : (xr_Sh L)[90]? = some (100, 9, []) := rfl
theorem sh_91 (L : Nat) : (xr_Sh L)[91]? = some (100, 9, []) := rfl
theorem sh_92 (L : Nat) : (xr_Sh L)[92]? = some (100, 8, []) := rfl
theorem sh_93 (L : Nat) : (xr_Sh L)[93]? = some (100, 16, []) := rfl
theorem fl_0_11 : xr_fld 0 11 = some (0, 0) := by decide +kernel
theorem fl_0_16 : xr_fld 0 16 = some (0, 1) := by decide +kernel
theorem fl_0_20 : xr_fld 0 20 = some (0, 2) := by decide +kernel
theorem fl_0_23 : xr_fld 0 23 = some (5, 9) := by decide +kernel
theorem fl_0_28 : xr_fld 0 28 = some (5, 10) := by decide +kernel
theorem fl_0_31 : xr_fld 0 31 = some (5, 11) := by decide +kernel
theorem fl_0_34 : xr_fld 0 34 = some (5, 12) := by decide +kernel
theorem fl_0_37 : xr_fld 0 37 = some (5, 1) := by decide +kernel
theorem fl_1_9 : xr_fld 1 9 = some (1, 0) := by decide +kernel
theorem fl_1_15 : xr_fld 1 15 = some (1, 1) := by decide +kernel
theorem fl_1_19 : xr_fld 1 19 = some (5, 0) := by decide +kernel
theorem fl_1_38 : xr_fld 1 38 = some (5, 2) := by decide +kernel
theorem fl_1_41 : xr_fld 1 41 = some (5, 1) := by decide +kernel
theorem fl_2_9 : xr_fld 2 9 = some (2, 0) := by decide +kernel
theorem fl_2_15 : xr_fld 2 15 = some (2, 1) := by decide +kernel
theorem fl_2_20 : xr_fld 2 20 = some (2, 2) := by decide +kernel
theorem fl_3_9 : xr_fld 3 9 = some (3, 0) := by decide +kernel
theorem fl_3_15 : xr_fld 3 15 = some (3, 1) := by decide +kernel
theorem fl_3_18 : xr_fld 3 18 = some (3, 2) := by decide +kernel
theorem fl_3_22 : xr_fld 3 22 = some (3, 3) := by decide +kernel
theorem fl_3_26 : xr_fld 3 26 = some (3, 4) := by decide +kernel
theorem fl_3_35 : xr_fld 3 35 = some (3, 5) := by decide +kernel
theorem fl_3_38 : xr_fld 3 38 = some (3, 7) := by decide +kernel
theorem fl_3_41 : xr_fld 3 41 = some (3, 8) := by decide +kernel
theorem fl_3_44 : xr_fld 3 44 = some (3, 9) := by decide +kernel
theorem fl_3_47 : xr_fld 3 47 = some (3, 10) := by decide +kernel
theorem fl_3_50 : xr_fld 3 50 = some (5, 9) := by decide +kernel
theorem fl_3_55 : xr_fld 3 55 = some (5, 10) := by decide +kernel
theorem fl_3_62 : xr_fld 3 62 = some (3, 6) := by decide +kernel
theorem fl_3_83 : xr_fld 3 83 = some (5, 6) := by decide +kernel
theorem fl_3_90 : xr_fld 3 90 = some (5, 4) := by decide +kernel
theorem fl_3_93 : xr_fld 3 93 = some (5, 12) := by decide +kernel
theorem fl_4_9 : xr_fld 4 9 = some (4, 0) := by decide +kernel
theorem fl_4_15 : xr_fld 4 15 = some (4, 1) := by decide +kernel
theorem fl_4_24 : xr_fld 4 24 = some (4, 4) := by decide +kernel
theorem fl_4_37 : xr_fld 4 37 = some (5, 6) := by decide +kernel
theorem fl_4_40 : xr_fld 4 40 = some (5, 8) := by decide +kernel
theorem fl_4_51 : xr_fld 4 51 = some (5, 7) := by decide +kernel
theorem fl_4_54 : xr_fld 4 54 = some (5, 10) := by decide +kernel
theorem fl_4_69 : xr_fld 4 69 = some (5, 0) := by decide +kernel
theorem fl_4_72 : xr_fld 4 72 = some (5, 1) := by decide +kernel
theorem fl_4_75 : xr_fld 4 75 = some (5, 2) := by decide +kernel
theorem fl_4_78 : xr_fld 4 78 = some (5, 5) := by decide +kernel
theorem fl_4_89 : xr_fld 4 89 = some (5, 3) := by decide +kernel
theorem fl_4_92 : xr_fld 4 92 = some (5, 4) := by decide +kernel
theorem fl_4_95 : xr_fld 4 95 = some (4, 3) := by decide +kernel
theorem fl_4_98 : xr_fld 4 98 = some (4, 2) := by decide +kernel
theorem fl_5_9 : xr_fld 5 9 = some (5, 0) := by decide +kernel
theorem fl_5_15 : xr_fld 5 15 = some (5, 1) := by decide +kernel
theorem fl_5_18 : xr_fld 5 18 = some (5, 2) := by decide +kernel
theorem fl_5_21 : xr_fld 5 21 = some (5, 3) := by decide +kernel
theorem fl_5_24 : xr_fld 5 24 = some (5, 4) := by decide +kernel
theorem fl_5_33 : xr_fld 5 33 = some (5, 5) := by decide +kernel
theorem fl_5_37 : xr_fld 5 37 = some (5, 6) := by decide +kernel
theorem fl_5_40 : xr_fld 5 40 = some (5, 7) := by decide +kernel
theorem fl_5_43 : xr_fld 5 43 = some (5, 8) := by decide +kernel
theorem fl_5_46 : xr_fld 5 46 = some (5, 9) := by decide +kernel
theorem fl_5_49 : xr_fld 5 49 = some (5, 10) := by decide +kernel
theorem fl_5_52 : xr_fld 5 52 = some (5, 11) := by decide +kernel
theorem fl_5_55 : xr_fld 5 55 = some (5, 12) := by decide +kernel
theorem fl_6_10 : xr_fld 6 10 = some (6, 0) := by decide +kernel
theorem fl_6_19 : xr_fld 6 19 = some (6, 1) := by decide +kernel
theorem fl_6_26 : xr_fld 6 26 = some (6, 2) := by decide +kernel
theorem fl_6_30 : xr_fld 6 30 = some (6, 3) := by decide +kernel
theorem fl_6_33 : xr_fld 6 33 = some (6, 4) := by decide +kernel
theorem fl_6_40 : xr_fld 6 40 = some (6, 5) := by decide +kernel
theorem fl_6_47 : xr_fld 6 47 = some (6, 6) := by decide +kernel
theorem fl_6_54 : xr_fld 6 54 = some (6, 7) := by decide +kernel
theorem fl_6_58 : xr_fld 6 58 = some (6, 8) := by decide +kernel
theorem fl_6_62 : xr_fld 6 62 = some (6, 9) := by decide +kernel
theorem fl_6_102 : xr_fld 6 102 = some (4, 1) := by decide +kernel
theorem fl_6_112 : xr_fld 6 112 = some (4, 2) := by decide +kernel
theorem fl_6_116 : xr_fld 6 116 = some (4, 3) := by decide +kernel
theorem fl_6_126 : xr_fld 6 126 = some (5, 6) := by decide +kernel
theorem fl_6_136 : xr_fld 6 136 = some (5, 12) := by decide +kernel
theorem fl_6_139 : xr_fld 6 139 = some (5, 9) := by decide +kernel
theorem fl_6_142 : xr_fld 6 142 = some (5, 10) := by decide +kernel
theorem fl_6_145 : xr_fld 6 145 = some (5, 11) := by decide +kernel
theorem fl_6_159 : xr_fld 6 159 = some (5, 1) := by decide +kernel
theorem fl_6_173 : xr_fld 6 173 = some (5, 8) := by decide +kernel
theorem fl_6_176 : xr_fld 6 176 = some (0, 2) := by decide +kernel
theorem fl_6_182 : xr_fld 6 182 = some (5, 2) := by decide +kernel
theorem fl_6_185 : xr_fld 6 185 = some (5, 3) := by decide +kernel
theorem fl_6_192 : xr_fld 6 192 = some (5, 4) := by decide +kernel
theorem fl_6_213 : xr_fld 6 213 = some (3, 7) := by decide +kernel
theorem fl_6_214 : xr_fld 6 214 = some (3, 8) := by decide +kernel
theorem fl_6_220 : xr_fld 6 220 = some (3, 9) := by decide +kernel
theorem fl_6_223 : xr_fld 6 223 = some (3, 10) := by decide +kernel
theorem fl_6_233 : xr_fld 6 233 = some (5, 7) := by decide +kernel
theorem fl_6_240 : xr_fld 6 240 = some (5, 0) := by decide +kernel
theorem fl_6_288 : xr_fld 6 288 = some (1, 1) := by decide +kernel
theorem fl_6_291 : xr_fld 6 291 = some (1, 0) := by decide +kernel
theorem fl_6_297 : xr_fld 6 297 = some (5, 5) := by decide +kernel
theorem fl_6_301 : xr_fld 6 301 = some (2, 2) := by decide +kernel
theorem fl_7_7 : xr_fld 7 7 = some (7, 0) := by decide +kernel
theorem fl_7_13 : xr_fld 7 13 = some (7, 1) := by decide +kernel
theorem fl_7_16 : xr_fld 7 16 = some (7, 2) := by decide +kernel
theorem fl_7_19 : xr_fld 7 19 = some (7, 3) := by decide +kernel
theorem fl_7_22 : xr_fld 7 22 = some (7, 5) := by decide +kernel
theorem fl_7_25 : xr_fld 7 25 = some (7, 13) := by decide +kernel
theorem fl_7_28 : xr_fld 7 28 = some (7, 14) := by decide +kernel
theorem fl_7_31 : xr_fld 7 31 = some (7, 15) := by decide +kernel
theorem fl_7_34 : xr_fld 7 34 = some (7, 16) := by decide +kernel
theorem fl_7_37 : xr_fld 7 37 = some (7, 18) := by decide +kernel
theorem fl_7_40 : xr_fld 7 40 = some (7, 19) := by decide +kernel
theorem fl_7_44 : xr_fld 7 44 = some (7, 21) := by decide +kernel
theorem fl_7_47 : xr_fld 7 47 = some (7, 22) := by decide +kernel
theorem fl_7_50 : xr_fld 7 50 = some (7, 23) := by decide +kernel
theorem fl_7_53 : xr_fld 7 53 = some (7, 24) := by decide +kernel
theorem fl_7_56 : xr_fld 7 56 = some (7, 25) := by decide +kernel
theorem fl_7_59 : xr_fld 7 59 = some (7, 26) := by decide +kernel
theorem fl_7_62 : xr_fld 7 62 = some (7, 30) := by decide +kernel
theorem fl_7_66 : xr_fld 7 66 = some (7, 4) := by decide +kernel
theorem fl_7_97 : xr_fld 7 97 = some (7, 6) := by decide +kernel
theorem fl_7_101 : xr_fld 7 101 = some (7, 9) := by decide +kernel
theorem fl_7_104 : xr_fld 7 104 = some (7, 10) := by decide +kernel
theorem fl_7_110 : xr_fld 7 110 = some (7, 12) := by decide +kernel
theorem fl_7_113 : xr_fld 7 113 = some (7, 11) := by decide +kernel
theorem fl_7_116 : xr_fld 7 116 = some (7, 8) := by decide +kernel
theorem fl_7_123 : xr_fld 7 123 = some (7, 7) := by decide +kernel
theorem fl_7_160 : xr_fld 7 160 = some (7, 17) := by decide +kernel
theorem fl_7_197 : xr_fld 7 197 = some (7, 20) := by decide +kernel
theorem fl_7_204 : xr_fld 7 204 = some (7, 27) := by decide +kernel
theorem fl_7_207 : xr_fld 7 207 = some (7, 28) := by decide +kernel
theorem fl_7_210 : xr_fld 7 210 = some (7, 29) := by decide +kernel
theorem fl_7_251 : xr_fld 7 251 = some (7, 31) := by decide +kernel
theorem cs_3_78 : xr_cst 3 78 = some (-1000000) := by decide +kernel
theorem cs_6_69 : xr_cst 6 69 = some (-1000001) := by decide +kernel
theorem cs_6_105 : xr_cst 6 105 = some (-1000003) := by decide +kernel
theorem cs_6_115 : xr_cst 6 115 = some (-1000100) := by decide +kernel
theorem cs_6_135 : xr_cst 6 135 = some (-1000002) := by decide +kernel
theorem cs_6_198 : xr_cst 6 198 = some (-1000000) := by decide +kernel
theorem cs_6_271 : xr_cst 6 271 = some (999999) := by decide +kernel
theorem cs_6_300 : xr_cst 6 300 = some (-1000010) := by decide +kernel
theorem cs_7_65 : xr_cst 7 65 = some (-1000000) := by decide +kernel
theorem cs_7_70 : xr_cst 7 70 = some (-1000010) := by decide +kernel
theorem cs_7_79 : xr_cst 7 79 = some (-1000001) := by decide +kernel
theorem cs_7_100 : xr_cst 7 100 = some (-1000003) := by decide +kernel
theorem cs_7_155 : xr_cst 7 155 = some (-1000100) := by decide +kernel
theorem cs_7_180 : xr_cst 7 180 = some (-1000002) := by decide +kernel
theorem cs_7_240 : xr_cst 7 240 = some (999999) := by decide +kernel
theorem cs_10_265 : xr_cst 10 265 = some (1431655765) := by decide +kernel
theorem cs_10_266 : xr_cst 10 266 = some (858993459) := by decide +kernel
theorem cs_10_267 : xr_cst 10 267 = some (252645135) := by decide +kernel
theorem cl_6_272 : xr_csl 6 272 = some (16807) := by decide +kernel
theorem cl_6_274 : xr_csl 6 274 = some (2147483647) := by decide +kernel
theorem cl_7_241 : xr_csl 7 241 = some (16807) := by decide +kernel
theorem cl_7_243 : xr_csl 7 243 = some (2147483647) := by decide +kernel
theorem gs_1_24 : xr_gst 1 24 = some 1 := by decide +kernel
theorem gs_1_27 : xr_gst 1 27 = some 2 := by decide +kernel
set_option maxRecDepth 100000 in
theorem ml_0_3 : xr_mth 0 3 = some (4, me_L_law, 1) := rfl
set_option maxRecDepth 100000 in
theorem ml_0_41 : xr_mth 0 41 = some (0, me_X5_turn, 2) := rfl
set_option maxRecDepth 100000 in
theorem ml_1_3 : xr_mth 1 3 = some (4, me_L_law, 1) := rfl
set_option maxRecDepth 100000 in
theorem ml_1_30 : xr_mth 1 30 = some (0, me_X1_gives, 5) := rfl
set_option maxRecDepth 100000 in
theorem ml_1_34 : xr_mth 1 34 = some (0, me_X1_leave, 2) := rfl
set_option maxRecDepth 100000 in
theorem ml_2_3 : xr_mth 2 3 = some (4, me_L_law, 1) := rfl
set_option maxRecDepth 100000 in
theorem ml_2_23 : xr_mth 2 23 = some (0, me_X2_isMissing, 2) := rfl
set_option maxRecDepth 100000 in
theorem ml_2_27 : xr_mth 2 27 = some (5, me_L_law, 5) := rfl
set_option maxRecDepth 100000 in
theorem ml_2_33 : xr_mth 2 33 = some (0, me_X2_spans, 4) := rfl
set_option maxRecDepth 100000 in
theorem ml_3_3 : xr_mth 3 3 = some (4, me_L_law, 1) := rfl
set_option maxRecDepth 100000 in
theorem ml_3_29 : xr_mth 3 29 = some (7, me_L_law, 5) := rfl
set_option maxRecDepth 100000 in
theorem ml_3_58 : xr_mth 3 58 = some (0, me_X3_walk, 7) := rfl
set_option maxRecDepth 100000 in
theorem ml_3_65 : xr_mth 3 65 = some (0, me_X3_seek, 5) := rfl
set_option maxRecDepth 100000 in
theorem ml_3_69 : xr_mth 3 69 = some (1, me_J6_bitCount_0f7a4, 1) := rfl
set_option maxRecDepth 100000 in
theorem ml_3_75 : xr_mth 3 75 = some (3, me_X6_power, 2) := rfl
set_option maxRecDepth 100000 in
theorem ml_3_79 : xr_mth 3 79 = some (0, me_X3_weigh, 6) := rfl
set_option maxRecDepth 100000 in
theorem ml_3_86 : xr_mth 3 86 = some (0, me_X5_leadsFrom, 3) := rfl
set_option maxRecDepth 100000 in
theorem ml_3_96 : xr_mth 3 96 = some (0, me_X5_moodBehind, 4) := rfl
set_option maxRecDepth 100000 in
theorem ml_3_100 : xr_mth 3 100 = some (0, me_X5_costBetween, 4) := rfl
set_option maxRecDepth 100000 in
theorem ml_3_103 : xr_mth 3 103 = some (0, me_X3_keepPath, 4) := rfl
set_option maxRecDepth 100000 in
theorem ml_3_107 : xr_mth 3 107 = some (5, me_L_law, 5) := rfl
set_option maxRecDepth 100000 in
theorem ml_4_3 : xr_mth 4 3 = some (4, me_L_law, 1) := rfl
set_option maxRecDepth 100000 in
theorem ml_4_19 : xr_mth 4 19 = some (0, me_X5_clear, 1) := rfl
set_option maxRecDepth 100000 in
theorem ml_4_27 : xr_mth 4 27 = some (0, me_X4_readLaw, 2) := rfl
set_option maxRecDepth 100000 in
theorem ml_4_31 : xr_mth 4 31 = some (0, me_X4_readCorners, 2) := rfl
set_option maxRecDepth 100000 in
theorem ml_4_34 : xr_mth 4 34 = some (0, me_X4_readStreets, 2) := rfl
set_option maxRecDepth 100000 in
theorem ml_4_43 : xr_mth 4 43 = some (0, me_X4_takes, 2) := rfl
set_option maxRecDepth 100000 in
theorem ml_4_47 : xr_mth 4 47 = some (0, me_X4_numberWithin, 3) := rfl
set_option maxRecDepth 100000 in
theorem ml_4_57 : xr_mth 4 57 = some (0, me_X4_letterHere, 1) := rfl
set_option maxRecDepth 100000 in
theorem ml_4_61 : xr_mth 4 61 = some (1, me_X4_kindOf, 1) := rfl
set_option maxRecDepth 100000 in
theorem ml_4_65 : xr_mth 4 65 = some (0, me_X4_failsAt, 3) := rfl
set_option maxRecDepth 100000 in
theorem ml_4_81 : xr_mth 4 81 = some (0, me_X4_readEnds, 3) := rfl
set_option maxRecDepth 100000 in
theorem ml_4_85 : xr_mth 4 85 = some (1, me_X4_isTold, 3) := rfl
set_option maxRecDepth 100000 in
theorem ml_5_3 : xr_mth 5 3 = some (4, me_L_law, 1) := rfl
set_option maxRecDepth 100000 in
theorem ml_5_27 : xr_mth 5 27 = some (5, me_L_law, 5) := rfl
set_option maxRecDepth 100000 in
theorem ml_5_58 : xr_mth 5 58 = some (0, me_X5_leadsFrom, 3) := rfl
set_option maxRecDepth 100000 in
theorem ml_5_62 : xr_mth 5 62 = some (0, me_X5_hasStreet, 2) := rfl
set_option maxRecDepth 100000 in
theorem ml_5_66 : xr_mth 5 66 = some (0, me_X5_isOpen, 2) := rfl
set_option maxRecDepth 100000 in
theorem ml_5_69 : xr_mth 5 69 = some (7, me_L_law, 5) := rfl
set_option maxRecDepth 100000 in
theorem ml_5_75 : xr_mth 5 75 = some (6, me_L_law, 5) := rfl
set_option maxRecDepth 100000 in
theorem ml_5_78 : xr_mth 5 78 = some (8, me_L_law, 5) := rfl
set_option maxRecDepth 100000 in
theorem ml_5_82 : xr_mth 5 82 = some (0, me_X5_moodBehind, 4) := rfl
set_option maxRecDepth 100000 in
theorem ml_5_86 : xr_mth 5 86 = some (0, me_X5_moodBy, 2) := rfl
set_option maxRecDepth 100000 in
theorem ml_5_89 : xr_mth 5 89 = some (0, me_X5_costBetween, 4) := rfl
set_option maxRecDepth 100000 in
theorem ml_5_92 : xr_mth 5 92 = some (0, me_X5_costBy, 2) := rfl
set_option maxRecDepth 100000 in
theorem ml_5_95 : xr_mth 5 95 = some (0, me_X5_leads, 2) := rfl
set_option maxRecDepth 100000 in
theorem ml_5_98 : xr_mth 5 98 = some (0, me_X5_goBy, 2) := rfl
set_option maxRecDepth 100000 in
theorem ml_6_1 : xr_mth 6 1 = some (4, me_L_law, 1) := rfl
set_option maxRecDepth 100000 in
theorem ml_6_9 : xr_mth 6 9 = some (2, me_X2_init, 1) := rfl
set_option maxRecDepth 100000 in
theorem ml_6_18 : xr_mth 6 18 = some (2, me_X4_init, 1) := rfl
set_option maxRecDepth 100000 in
theorem ml_6_25 : xr_mth 6 25 = some (2, me_X5_init, 1) := rfl
set_option maxRecDepth 100000 in
theorem ml_6_39 : xr_mth 6 39 = some (2, me_X0_init, 1) := rfl
set_option maxRecDepth 100000 in
theorem ml_6_46 : xr_mth 6 46 = some (2, me_X3_init, 1) := rfl
set_option maxRecDepth 100000 in
theorem ml_6_53 : xr_mth 6 53 = some (2, me_X1_init, 1) := rfl
set_option maxRecDepth 100000 in
theorem ml_6_65 : xr_mth 6 65 = some (1, me_X2_isRow, 1) := rfl
set_option maxRecDepth 100000 in
theorem ml_6_70 : xr_mth 6 70 = some (0, me_X6_found, 2) := rfl
set_option maxRecDepth 100000 in
theorem ml_6_74 : xr_mth 6 74 = some (0, me_X2_lay, 4) := rfl
set_option maxRecDepth 100000 in
theorem ml_6_78 : xr_mth 6 78 = some (0, me_X6_unfound, 2) := rfl
set_option maxRecDepth 100000 in
theorem ml_6_81 : xr_mth 6 81 = some (0, me_X2_findingOf, 4) := rfl
set_option maxRecDepth 100000 in
theorem ml_6_85 : xr_mth 6 85 = some (0, me_X2_put, 4) := rfl
set_option maxRecDepth 100000 in
theorem ml_6_88 : xr_mth 6 88 = some (0, me_X2_findingOfMove, 6) := rfl
set_option maxRecDepth 100000 in
theorem ml_6_92 : xr_mth 6 92 = some (0, me_X2_move, 6) := rfl
set_option maxRecDepth 100000 in
theorem ml_6_96 : xr_mth 6 96 = some (0, me_X2_isMissing, 2) := rfl
set_option maxRecDepth 100000 in
theorem ml_6_99 : xr_mth 6 99 = some (0, me_X2_lose, 2) := rfl
set_option maxRecDepth 100000 in
theorem ml_6_106 : xr_mth 6 106 = some (0, me_X4_put, 2) := rfl
set_option maxRecDepth 100000 in
theorem ml_6_108 : xr_mth 6 108 = some (0, me_X4_readInto, 2) := rfl
set_option maxRecDepth 100000 in
theorem ml_6_119 : xr_mth 6 119 = some (0, me_X5_become, 2) := rfl
set_option maxRecDepth 100000 in
theorem ml_6_123 : xr_mth 6 123 = some (0, me_X0_forget, 1) := rfl
set_option maxRecDepth 100000 in
theorem ml_6_129 : xr_mth 6 129 = some (0, me_X5_hasStreet, 2) := rfl
set_option maxRecDepth 100000 in
theorem ml_6_132 : xr_mth 6 132 = some (0, me_X5_leads, 2) := rfl
set_option maxRecDepth 100000 in
theorem ml_6_148 : xr_mth 6 148 = some (0, me_X0_keep, 5) := rfl
set_option maxRecDepth 100000 in
theorem ml_6_152 : xr_mth 6 152 = some (0, me_X5_goBy, 2) := rfl
set_option maxRecDepth 100000 in
theorem ml_6_156 : xr_mth 6 156 = some (0, me_X5_hasCorner, 2) := rfl
set_option maxRecDepth 100000 in
theorem ml_6_163 : xr_mth 6 163 = some (0, me_X5_stands, 1) := rfl
set_option maxRecDepth 100000 in
theorem ml_6_167 : xr_mth 6 167 = some (0, me_X5_isOpen, 2) := rfl
set_option maxRecDepth 100000 in
theorem ml_6_170 : xr_mth 6 170 = some (0, me_X5_turn, 2) := rfl
set_option maxRecDepth 100000 in
theorem ml_6_179 : xr_mth 6 179 = some (0, me_X0_takeBack, 2) := rfl
set_option maxRecDepth 100000 in
theorem ml_6_188 : xr_mth 6 188 = some (0, me_X6_streetsAt, 3) := rfl
set_option maxRecDepth 100000 in
theorem ml_6_195 : xr_mth 6 195 = some (0, me_X5_moodBehind, 4) := rfl
set_option maxRecDepth 100000 in
theorem ml_6_199 : xr_mth 6 199 = some (0, me_X5_moodBy, 2) := rfl
set_option maxRecDepth 100000 in
theorem ml_6_202 : xr_mth 6 202 = some (0, me_X5_costBy, 2) := rfl
set_option maxRecDepth 100000 in
theorem ml_6_205 : xr_mth 6 205 = some (0, me_X5_openWays, 1) := rfl
set_option maxRecDepth 100000 in
theorem ml_6_209 : xr_mth 6 209 = some (0, me_X3_seek, 5) := rfl
set_option maxRecDepth 100000 in
theorem ml_6_217 : xr_mth 6 217 = some (0, me_X3_streetOf, 2) := rfl
set_option maxRecDepth 100000 in
theorem ml_6_226 : xr_mth 6 226 = some (1, me_X6_areFitting, 4) := rfl
set_option maxRecDepth 100000 in
theorem ml_6_230 : xr_mth 6 230 = some (0, me_X6_findingOfTwo, 6) := rfl
set_option maxRecDepth 100000 in
theorem ml_6_236 : xr_mth 6 236 = some (0, me_X6_isSo, 6) := rfl
set_option maxRecDepth 100000 in
theorem ml_6_243 : xr_mth 6 243 = some (0, me_X6_owedFrom, 5) := rfl
set_option maxRecDepth 100000 in
theorem ml_6_247 : xr_mth 6 247 = some (0, me_X3_seekWithin, 4) := rfl
set_option maxRecDepth 100000 in
theorem ml_6_251 : xr_mth 6 251 = some (0, me_X3_weightOfEnough, 3) := rfl
set_option maxRecDepth 100000 in
theorem ml_6_255 : xr_mth 6 255 = some (1, me_J6_bitCount_0f7a4, 1) := rfl
set_option maxRecDepth 100000 in
theorem ml_6_260 : xr_mth 6 260 = some (1, me_X6_power, 2) := rfl
set_option maxRecDepth 100000 in
theorem ml_6_263 : xr_mth 6 263 = some (1, me_X6_commonDivisor, 2) := rfl
set_option maxRecDepth 100000 in
theorem ml_6_266 : xr_mth 6 266 = some (6, me_L_law, 5) := rfl
set_option maxRecDepth 100000 in
theorem ml_6_276 : xr_mth 6 276 = some (0, me_X5_goByDraw, 2) := rfl
set_option maxRecDepth 100000 in
theorem ml_6_280 : xr_mth 6 280 = some (1, me_X6_isOfKind, 2) := rfl
set_option maxRecDepth 100000 in
theorem ml_6_284 : xr_mth 6 284 = some (0, me_X1_answerOf, 4) := rfl
set_option maxRecDepth 100000 in
theorem ml_6_294 : xr_mth 6 294 = some (0, me_X2_howMany, 1) := rfl
set_option maxRecDepth 100000 in
theorem ml_7_1 : xr_mth 7 1 = some (4, me_L_law, 1) := rfl
set_option maxRecDepth 100000 in
theorem ml_7_71 : xr_mth 7 71 = some (1, me_X7_in, 3) := rfl
set_option maxRecDepth 100000 in
theorem ml_7_75 : xr_mth 7 75 = some (1, me_X7_isRow, 1) := rfl
set_option maxRecDepth 100000 in
theorem ml_7_80 : xr_mth 7 80 = some (0, me_X7_found, 2) := rfl
set_option maxRecDepth 100000 in
theorem ml_7_84 : xr_mth 7 84 = some (0, me_X7_well, 2) := rfl
set_option maxRecDepth 100000 in
theorem ml_7_87 : xr_mth 7 87 = some (0, me_X7_isMissing, 2) := rfl
set_option maxRecDepth 100000 in
theorem ml_7_90 : xr_mth 7 90 = some (1, me_X7_cut, 2) := rfl
set_option maxRecDepth 100000 in
theorem ml_7_94 : xr_mth 7 94 = some (0, me_X7_isPart, 4) := rfl
set_option maxRecDepth 100000 in
theorem ml_7_107 : xr_mth 7 107 = some (0, me_X7_byteAt, 2) := rfl
set_option maxRecDepth 100000 in
theorem ml_7_119 : xr_mth 7 119 = some (0, me_X7_isWell, 1) := rfl
set_option maxRecDepth 100000 in
theorem ml_7_126 : xr_mth 7 126 = some (0, me_X7_advances, 1) := rfl
set_option maxRecDepth 100000 in
theorem ml_7_129 : xr_mth 7 129 = some (0, me_X7_takes, 3) := rfl
set_option maxRecDepth 100000 in
theorem ml_7_133 : xr_mth 7 133 = some (0, me_X7_figure, 3) := rfl
set_option maxRecDepth 100000 in
theorem ml_7_136 : xr_mth 7 136 = some (1, me_X7_kindOf, 1) := rfl
set_option maxRecDepth 100000 in
theorem ml_7_139 : xr_mth 7 139 = some (0, me_X7_follows, 3) := rfl
set_option maxRecDepth 100000 in
theorem ml_7_142 : xr_mth 7 142 = some (0, me_X7_isStreetTold, 3) := rfl
set_option maxRecDepth 100000 in
theorem ml_7_146 : xr_mth 7 146 = some (0, me_X7_toFigure, 2) := rfl
set_option maxRecDepth 100000 in
theorem ml_7_149 : xr_mth 7 149 = some (0, me_X7_readsCorner, 1) := rfl
set_option maxRecDepth 100000 in
theorem ml_7_152 : xr_mth 7 152 = some (0, me_X7_readsStreet, 1) := rfl
set_option maxRecDepth 100000 in
theorem ml_7_156 : xr_mth 7 156 = some (1, me_X7_copies, 4) := rfl
set_option maxRecDepth 100000 in
theorem ml_7_163 : xr_mth 7 163 = some (1, me_X7_passed, 4) := rfl
set_option maxRecDepth 100000 in
theorem ml_7_167 : xr_mth 7 167 = some (1, me_X7_has, 2) := rfl
set_option maxRecDepth 100000 in
theorem ml_7_170 : xr_mth 7 170 = some (1, me_X7_cost, 4) := rfl
set_option maxRecDepth 100000 in
theorem ml_7_173 : xr_mth 7 173 = some (0, me_X7_isStreet, 2) := rfl
set_option maxRecDepth 100000 in
theorem ml_7_176 : xr_mth 7 176 = some (1, me_X7_goes, 3) := rfl
set_option maxRecDepth 100000 in
theorem ml_7_181 : xr_mth 7 181 = some (0, me_X7_notes, 1) := rfl
set_option maxRecDepth 100000 in
theorem ml_7_184 : xr_mth 7 184 = some (1, me_X7_rides, 2) := rfl
set_option maxRecDepth 100000 in
theorem ml_7_188 : xr_mth 7 188 = some (0, me_X7_isCorner, 2) := rfl
set_option maxRecDepth 100000 in
theorem ml_7_191 : xr_mth 7 191 = some (0, me_X7_isTown, 1) := rfl
set_option maxRecDepth 100000 in
theorem ml_7_194 : xr_mth 7 194 = some (0, me_X7_ends, 3) := rfl
set_option maxRecDepth 100000 in
theorem ml_7_200 : xr_mth 7 200 = some (0, me_X7_adds, 2) := rfl
set_option maxRecDepth 100000 in
theorem ml_7_213 : xr_mth 7 213 = some (0, me_X7_begins, 1) := rfl
set_option maxRecDepth 100000 in
theorem ml_7_216 : xr_mth 7 216 = some (0, me_X7_keeps, 2) := rfl
set_option maxRecDepth 100000 in
theorem ml_7_219 : xr_mth 7 219 = some (0, me_X7_goesOn, 2) := rfl
set_option maxRecDepth 100000 in
theorem ml_7_222 : xr_mth 7 222 = some (0, me_X7_finds, 3) := rfl
set_option maxRecDepth 100000 in
theorem ml_7_226 : xr_mth 7 226 = some (0, me_X7_told, 3) := rfl
set_option maxRecDepth 100000 in
theorem ml_7_229 : xr_mth 7 229 = some (0, me_X7_goesSo, 4) := rfl
set_option maxRecDepth 100000 in
theorem ml_7_232 : xr_mth 7 232 = some (0, me_X7_bar, 6) := rfl
set_option maxRecDepth 100000 in
theorem ml_7_236 : xr_mth 7 236 = some (0, me_X7_all, 7) := rfl
set_option maxRecDepth 100000 in
theorem ml_7_245 : xr_mth 7 245 = some (0, me_X7_streetAfter, 2) := rfl
set_option maxRecDepth 100000 in
theorem ml_7_248 : xr_mth 7 248 = some (0, me_X7_kindIn, 2) := rfl
set_option maxRecDepth 100000 in
theorem ml_7_254 : xr_mth 7 254 = some (0, me_X7_leaves, 2) := rfl
set_option maxRecDepth 100000 in
theorem ml_7_257 : xr_mth 7 257 = some (0, me_X7_joyMark, 2) := rfl
set_option maxRecDepth 100000 in
theorem ml_7_260 : xr_mth 7 260 = some (0, me_X7_griefSize, 2) := rfl
set_option maxRecDepth 100000 in
theorem ml_7_263 : xr_mth 7 263 = some (0, me_X7_joySize, 2) := rfl
set_option maxRecDepth 100000 in
theorem ml_7_266 : xr_mth 7 266 = some (0, me_X7_griefMark, 2) := rfl
set_option maxRecDepth 100000 in
theorem ml_8_9 : xr_mth 8 9 = some (2, me_X6_init, 1) := rfl
set_option maxRecDepth 100000 in
theorem ml_8_12 : xr_mth 8 12 = some (2, me_X7_init, 1) := rfl
set_option maxRecDepth 100000 in
theorem ml_8_13 : xr_mth 8 13 = some (0, me_X6_row, 4) := rfl
set_option maxRecDepth 100000 in
theorem ml_8_17 : xr_mth 8 17 = some (0, me_X7_row, 4) := rfl
set_option maxRecDepth 100000 in
theorem ml_8_18 : xr_mth 8 18 = some (0, me_X6_set, 4) := rfl
set_option maxRecDepth 100000 in
theorem ml_8_21 : xr_mth 8 21 = some (0, me_X7_set, 4) := rfl
set_option maxRecDepth 100000 in
theorem ml_8_22 : xr_mth 8 22 = some (0, me_X6_copy, 6) := rfl
set_option maxRecDepth 100000 in
theorem ml_8_26 : xr_mth 8 26 = some (0, me_X7_copy, 6) := rfl
set_option maxRecDepth 100000 in
theorem ml_8_27 : xr_mth 8 27 = some (0, me_X6_drop, 2) := rfl
set_option maxRecDepth 100000 in
theorem ml_8_31 : xr_mth 8 31 = some (0, me_X7_drop, 2) := rfl
set_option maxRecDepth 100000 in
theorem ml_8_32 : xr_mth 8 32 = some (0, me_X6_feed, 2) := rfl
set_option maxRecDepth 100000 in
theorem ml_8_35 : xr_mth 8 35 = some (0, me_X7_feed, 2) := rfl
set_option maxRecDepth 100000 in
theorem ml_8_36 : xr_mth 8 36 = some (0, me_X6_town, 1) := rfl
set_option maxRecDepth 100000 in
theorem ml_8_40 : xr_mth 8 40 = some (0, me_X7_town, 1) := rfl
set_option maxRecDepth 100000 in
theorem ml_8_41 : xr_mth 8 41 = some (0, me_X6_fault, 1) := rfl
set_option maxRecDepth 100000 in
theorem ml_8_44 : xr_mth 8 44 = some (0, me_X7_fault, 1) := rfl
set_option maxRecDepth 100000 in
theorem ml_8_45 : xr_mth 8 45 = some (0, me_X6_ride, 2) := rfl
set_option maxRecDepth 100000 in
theorem ml_8_48 : xr_mth 8 48 = some (0, me_X7_ride, 2) := rfl
set_option maxRecDepth 100000 in
theorem ml_8_49 : xr_mth 8 49 = some (0, me_X6_lesson, 3) := rfl
set_option maxRecDepth 100000 in
theorem ml_8_53 : xr_mth 8 53 = some (0, me_X7_lesson, 3) := rfl
set_option maxRecDepth 100000 in
theorem ml_8_54 : xr_mth 8 54 = some (0, me_X6_reset, 1) := rfl
set_option maxRecDepth 100000 in
theorem ml_8_57 : xr_mth 8 57 = some (0, me_X7_reset, 1) := rfl
set_option maxRecDepth 100000 in
theorem ml_8_58 : xr_mth 8 58 = some (0, me_X6_street, 3) := rfl
set_option maxRecDepth 100000 in
theorem ml_8_61 : xr_mth 8 61 = some (0, me_X7_street, 3) := rfl
set_option maxRecDepth 100000 in
theorem ml_8_62 : xr_mth 8 62 = some (0, me_X6_undo, 1) := rfl
set_option maxRecDepth 100000 in
theorem ml_8_65 : xr_mth 8 65 = some (0, me_X7_undo, 1) := rfl
set_option maxRecDepth 100000 in
theorem ml_8_66 : xr_mth 8 66 = some (0, me_X6_corner, 3) := rfl
set_option maxRecDepth 100000 in
theorem ml_8_69 : xr_mth 8 69 = some (0, me_X7_corner, 3) := rfl
set_option maxRecDepth 100000 in
theorem ml_8_70 : xr_mth 8 70 = some (0, me_X6_way, 3) := rfl
set_option maxRecDepth 100000 in
theorem ml_8_73 : xr_mth 8 73 = some (0, me_X7_way, 3) := rfl
set_option maxRecDepth 100000 in
theorem ml_8_74 : xr_mth 8 74 = some (0, me_X6_would, 3) := rfl
set_option maxRecDepth 100000 in
theorem ml_8_77 : xr_mth 8 77 = some (0, me_X7_would, 3) := rfl
set_option maxRecDepth 100000 in
theorem ml_8_78 : xr_mth 8 78 = some (0, me_X6_reach, 1) := rfl
set_option maxRecDepth 100000 in
theorem ml_8_81 : xr_mth 8 81 = some (0, me_X7_reach, 1) := rfl
set_option maxRecDepth 100000 in
theorem ml_8_82 : xr_mth 8 82 = some (0, me_X6_cheapest, 3) := rfl
set_option maxRecDepth 100000 in
theorem ml_8_85 : xr_mth 8 85 = some (0, me_X7_cheapest, 3) := rfl
set_option maxRecDepth 100000 in
theorem ml_8_86 : xr_mth 8 86 = some (0, me_X6_dearest, 3) := rfl
set_option maxRecDepth 100000 in
theorem ml_8_89 : xr_mth 8 89 = some (0, me_X7_dearest, 3) := rfl
set_option maxRecDepth 100000 in
theorem ml_8_90 : xr_mth 8 90 = some (0, me_X6_moods, 3) := rfl
set_option maxRecDepth 100000 in
theorem ml_8_93 : xr_mth 8 93 = some (0, me_X7_moods, 3) := rfl
set_option maxRecDepth 100000 in
theorem ml_8_94 : xr_mth 8 94 = some (0, me_X6_gets, 3) := rfl
set_option maxRecDepth 100000 in
theorem ml_8_97 : xr_mth 8 97 = some (0, me_X7_gets, 3) := rfl
set_option maxRecDepth 100000 in
theorem ml_8_98 : xr_mth 8 98 = some (0, me_X6_fits, 7) := rfl
set_option maxRecDepth 100000 in
theorem ml_8_102 : xr_mth 8 102 = some (0, me_X7_fits, 7) := rfl
set_option maxRecDepth 100000 in
theorem ml_8_103 : xr_mth 8 103 = some (0, me_X6_fitsOf, 8) := rfl
set_option maxRecDepth 100000 in
theorem ml_8_107 : xr_mth 8 107 = some (0, me_X7_fitsOf, 8) := rfl
set_option maxRecDepth 100000 in
theorem ml_8_108 : xr_mth 8 108 = some (0, me_X6_share, 5) := rfl
set_option maxRecDepth 100000 in
theorem ml_8_112 : xr_mth 8 112 = some (0, me_X7_share, 5) := rfl
set_option maxRecDepth 100000 in
theorem ml_8_113 : xr_mth 8 113 = some (0, me_X6_shut, 5) := rfl
set_option maxRecDepth 100000 in
theorem ml_8_116 : xr_mth 8 116 = some (0, me_X7_shut, 5) := rfl
set_option maxRecDepth 100000 in
theorem ml_8_117 : xr_mth 8 117 = some (0, me_X6_drawn, 4) := rfl
set_option maxRecDepth 100000 in
theorem ml_8_120 : xr_mth 8 120 = some (0, me_X7_drawn, 4) := rfl
set_option maxRecDepth 100000 in
theorem ml_8_121 : xr_mth 8 121 = some (0, me_X6_image, 2) := rfl
set_option maxRecDepth 100000 in
theorem ml_8_124 : xr_mth 8 124 = some (0, me_X7_image, 2) := rfl
set_option maxRecDepth 100000 in
theorem ml_8_125 : xr_mth 8 125 = some (0, me_X6_restore, 2) := rfl
set_option maxRecDepth 100000 in
theorem ml_8_128 : xr_mth 8 128 = some (0, me_X7_restore, 2) := rfl
set_option maxRecDepth 100000 in
theorem ml_8_129 : xr_mth 8 129 = some (0, me_X6_kind, 2) := rfl
set_option maxRecDepth 100000 in
theorem ml_8_132 : xr_mth 8 132 = some (0, me_X7_kind, 2) := rfl
set_option maxRecDepth 100000 in
theorem ml_8_133 : xr_mth 8 133 = some (0, me_X6_as, 3) := rfl
set_option maxRecDepth 100000 in
theorem ml_8_136 : xr_mth 8 136 = some (0, me_X7_as, 3) := rfl
set_option maxRecDepth 100000 in
theorem ml_8_137 : xr_mth 8 137 = some (0, me_X6_ask, 3) := rfl
set_option maxRecDepth 100000 in
theorem ml_8_140 : xr_mth 8 140 = some (0, me_X7_ask, 3) := rfl
set_option maxRecDepth 100000 in
theorem ml_8_141 : xr_mth 8 141 = some (0, me_X6_trace, 2) := rfl
set_option maxRecDepth 100000 in
theorem ml_8_144 : xr_mth 8 144 = some (0, me_X7_trace, 2) := rfl
set_option maxRecDepth 100000 in
theorem ml_8_145 : xr_mth 8 145 = some (0, me_X6_count, 2) := rfl
set_option maxRecDepth 100000 in
theorem ml_8_148 : xr_mth 8 148 = some (0, me_X7_count, 2) := rfl
set_option maxRecDepth 100000 in
theorem ml_8_149 : xr_mth 8 149 = some (0, me_X6_status, 1) := rfl
set_option maxRecDepth 100000 in
theorem ml_8_152 : xr_mth 8 152 = some (0, me_X7_status, 1) := rfl
theorem am_aw_mono {f1 : Nat → Nat → Option (Nat × Nat)} {f2 : Nat → Nat → Option (Nat × am_M × Nat)} {f3 f4 : Nat → Nat → Option Int} {f5 f6 : Nat → Nat → Option Nat} {f7 : Nat → Nat → Bool} {f8 : Nat → Nat} {f9 : Nat → Nat → Bool} :
    ∀ (d : Nat) (M : am_M) (as : List am_V) (h : am_H) (Q Q' : am_Post), (∀ v h, Q v h → Q' v h) → am_aw f1 f2 f3 f4 f5 f6 f7 f8 f9 d M as h Q → am_aw f1 f2 f3 f4 f5 f6 f7 f8 f9 d M as h Q'
  | 0, _, _, _, _, _, _, hs => hs.elim
  | d + 1, M, as, h, Q, Q', hQ, hs => fun X hX => hs X (fun pc ls st h k => hX pc ls st h (am_stp_mono (fun M as h Q Q' => am_aw_mono d M as h Q Q') (fun _ _ _ _ z => z) hQ k))
theorem xs_aw_le {M : am_M} {as : List am_V} {h : am_H} {Q : am_Post} : ∀ {d d' : Nat}, d ≤ d' → xs_aw d M as h Q → xs_aw d' M as h Q := by
  have step : ∀ (d : Nat) (M : am_M) (as : List am_V) (h : am_H) (Q : am_Post), xs_aw d M as h Q → xs_aw (d + 1) M as h Q := by
    intro d
    induction d with
    | zero => intro M as h Q hs; exact hs.elim
    | succ d ih => intro M as h Q hs X hX; exact hs X (fun pc ls st h k => hX pc ls st h (am_stp_mono (fun M as h Q Q' hq z => am_aw_mono (d + 1) M as h Q Q' hq (ih M as h Q z)) (fun _ _ _ _ z => z) (fun _ _ z => z) k))
  intro d d' hd hs
  induction hd with
  | refl => exact hs
  | step _ ih => exact step _ _ _ _ _ ih
section
variable {d : Nat} {M : am_M} {Q : am_Post} {pc : Nat} {ls : am_L} {st : List am_V} {h : am_H} {r : List am_V} {x y z : Int} {σ : am_Mem} {L : Nat}
theorem ar_go {i : Instr} {n pc' : Nat} {ls' : am_L} {st' : List am_V} {h' : am_H} (hd : decode M.2.2.1 pc = .ok (i, n)) (hn : n = am_len i n) (hs : xs_do M i pc ls st h = am_go pc' ls' st' h') (K : xs_AW (xs_aw d) M Q pc' ls' st' h') : xs_AW (xs_aw d) M Q pc ls st h := by
  intro X hX
  refine hX _ _ _ _ ?_
  unfold am_step
  rw [hd]
  show am_stp _ _ _ (am_if (n = am_len i n) (xs_do M i pc ls st h))
  unfold am_if
  rw [if_pos hn, hs]
  exact K X hX
theorem ar_ret {i : Instr} {n : Nat} {v : Option am_V} (hd : decode M.2.2.1 pc = .ok (i, n)) (hn : n = am_len i n) (hs : xs_do M i pc ls st h = some (Sum.inr (Sum.inl (v, h)))) (K : Q v h) : xs_AW (xs_aw d) M Q pc ls st h := by
  intro X hX
  refine hX _ _ _ _ ?_
  unfold am_step
  rw [hd]
  show am_stp _ _ _ (am_if (n = am_len i n) (xs_do M i pc ls st h))
  unfold am_if
  rw [if_pos hn, hs]
  exact K
theorem ar_call {i : Instr} {n na : Nat} {M' : am_M} {as rest : List am_V} (hd : decode M.2.2.1 pc = .ok (i, n)) (hn : n = am_len i n) (hs : xs_do M i pc ls st h = am_call M M' na pc ls st h) (hst : st = as.reverse ++ rest) (hna : as.length = na) (hw : am_words rest ≤ 8) (h1 : h.2.1 + M'.2.2.2.2.2.1 ≤ M.2.2.2.2.2.1) (h2 : h.2.2.1 + M'.2.2.2.2.2.2 ≤ M.2.2.2.2.2.2) (h3 : (am_sl as).length ≤ M'.2.2.2.1)
    (K : xs_aw d M' as (h.1, 0, 0, h.2.2.2) (fun v h' => xs_AW (xs_aw d) M Q (pc + 3) ls (v.toList ++ rest) (h'.1, h.2.1 + M'.2.2.2.2.2.1, h.2.2.1 + M'.2.2.2.2.2.2, h'.2.2.2))) : xs_AW (xs_aw d) M Q pc ls st h := by
  intro X hX
  refine hX _ _ _ _ ?_
  unfold am_step
  rw [hd]
  show am_stp _ _ _ (am_if (n = am_len i n) (xs_do M i pc ls st h))
  unfold am_if
  rw [if_pos hn, hs]
  subst hna hst
  have e1 : (as.reverse ++ rest).take as.length = as.reverse := by rw [← List.length_reverse, List.take_left]
  have e2 : (as.reverse ++ rest).drop as.length = rest := by rw [← List.length_reverse, List.drop_left]
  unfold am_call am_if
  rw [e1, e2, List.reverse_reverse, if_pos ⟨by rw [List.length_append, List.length_reverse]; omega, hw, h1, h2, h3⟩]
  exact am_aw_mono d _ _ _ _ _ (fun v h' k => k X hX) K
theorem ar_jmp {pc t : Nat} {off : Int} {f : Nat → Option am_Res} (h0 : (pc : Int) + off = (t : Int)) : am_jmp pc off f = f t := by unfold am_jmp; rw [h0, if_pos (Int.natCast_nonneg t)]; rfl
theorem rr_iconst {v : Int} (hd : decode M.2.2.1 pc = .ok (.iconst v, 1)) (h0 : am_ok v) (K : xs_AW (xs_aw d) M Q (pc + 1) ls (am_i v :: st) h) : xs_AW (xs_aw d) M Q pc ls st h := ar_go hd rfl (if_pos h0) K
theorem rr_bipush {v : Int} (hd : decode M.2.2.1 pc = .ok (.bipush v, 2)) (h0 : -128 ≤ v ∧ v ≤ 127) (K : xs_AW (xs_aw d) M Q (pc + 2) ls (am_i v :: st) h) : xs_AW (xs_aw d) M Q pc ls st h := ar_go hd rfl (if_pos h0) K
theorem rr_sipush {v : Int} (hd : decode M.2.2.1 pc = .ok (.sipush v, 3)) (h0 : -32768 ≤ v ∧ v ≤ 32767) (K : xs_AW (xs_aw d) M Q (pc + 3) ls (am_i v :: st) h) : xs_AW (xs_aw d) M Q pc ls st h := ar_go hd rfl (if_pos h0) K
theorem rr_ldc {v : Int} {ix : Nat} (hd : decode M.2.2.1 pc = .ok (.ldc ix, 2)) (h0 : xr_cst M.1 ix = some v) (K : xs_AW (xs_aw d) M Q (pc + 2) ls (am_i v :: st) h) : xs_AW (xs_aw d) M Q pc ls st h := ar_go hd rfl (by show am_opt _ _ = _; rw [h0]; rfl) K
theorem rr_ldc_w {v : Int} {ix : Nat} (hd : decode M.2.2.1 pc = .ok (.ldc_w ix, 3)) (h0 : xr_cst M.1 ix = some v) (K : xs_AW (xs_aw d) M Q (pc + 3) ls (am_i v :: st) h) : xs_AW (xs_aw d) M Q pc ls st h := ar_go hd rfl (by show am_opt _ _ = _; rw [h0]; rfl) K
theorem rr_ldc2_w {v : Int} {ix : Nat} (hd : decode M.2.2.1 pc = .ok (.ldc2_w ix, 3)) (h0 : xr_csl M.1 ix = some v) (K : xs_AW (xs_aw d) M Q (pc + 3) ls (am_l v :: st) h) : xs_AW (xs_aw d) M Q pc ls st h := ar_go hd rfl (by show am_opt _ _ = _; rw [h0]; rfl) K
theorem rr_iload {v : Int} {ix : Nat} (hd : decode M.2.2.1 pc = .ok (.iload ix, 2)) (h0 : am_get ls ix = some (am_i v)) (K : xs_AW (xs_aw d) M Q (pc + 2) ls (am_i v :: st) h) : xs_AW (xs_aw d) M Q pc ls st h := ar_go hd rfl (by show am_lI _ _ _ = _; unfold am_lI; rw [h0]) K
theorem rr_iload_n {v : Int} {ix : Fin 4} (hd : decode M.2.2.1 pc = .ok (.iload_n ix, 1)) (h0 : am_get ls ix.val = some (am_i v)) (K : xs_AW (xs_aw d) M Q (pc + 1) ls (am_i v :: st) h) : xs_AW (xs_aw d) M Q pc ls st h := ar_go hd rfl (by show am_lI _ _ _ = _; unfold am_lI; rw [h0]) K
theorem rr_lload {v : Int} {ix : Nat} (hd : decode M.2.2.1 pc = .ok (.lload ix, 2)) (h0 : am_get ls ix = some (am_l v)) (K : xs_AW (xs_aw d) M Q (pc + 2) ls (am_l v :: st) h) : xs_AW (xs_aw d) M Q pc ls st h := ar_go hd rfl (by show am_lL _ _ _ = _; unfold am_lL; rw [h0]) K
theorem rr_lload_n {v : Int} {ix : Fin 4} (hd : decode M.2.2.1 pc = .ok (.lload_n ix, 1)) (h0 : am_get ls ix.val = some (am_l v)) (K : xs_AW (xs_aw d) M Q (pc + 1) ls (am_l v :: st) h) : xs_AW (xs_aw d) M Q pc ls st h := ar_go hd rfl (by show am_lL _ _ _ = _; unfold am_lL; rw [h0]) K
theorem rr_aload {v : Nat} {ix : Nat} (hd : decode M.2.2.1 pc = .ok (.aload ix, 2)) (h0 : am_get ls ix = some (am_r v)) (K : xs_AW (xs_aw d) M Q (pc + 2) ls (am_r v :: st) h) : xs_AW (xs_aw d) M Q pc ls st h := ar_go hd rfl (by show am_lR _ _ _ = _; unfold am_lR; rw [h0]) K
theorem rr_aload_n {v : Nat} {ix : Fin 4} (hd : decode M.2.2.1 pc = .ok (.aload_n ix, 1)) (h0 : am_get ls ix.val = some (am_r v)) (K : xs_AW (xs_aw d) M Q (pc + 1) ls (am_r v :: st) h) : xs_AW (xs_aw d) M Q pc ls st h := ar_go hd rfl (by show am_lR _ _ _ = _; unfold am_lR; rw [h0]) K
theorem rr_istore {v : Int} {ix : Nat} {ls' : am_L} (hd : decode M.2.2.1 pc = .ok (.istore ix, 2)) (h0 : ix < ls.length) (h1 : am_sto ls ix (am_i v) = ls') (K : xs_AW (xs_aw d) M Q (pc + 2) ls' st h) : xs_AW (xs_aw d) M Q pc ls (am_i v :: st) h := ar_go hd rfl (h1 ▸ if_pos h0) K
theorem rr_istore_n {v : Int} {ix : Fin 4} {ls' : am_L} (hd : decode M.2.2.1 pc = .ok (.istore_n ix, 1)) (h0 : ix.val < ls.length) (h1 : am_sto ls ix.val (am_i v) = ls') (K : xs_AW (xs_aw d) M Q (pc + 1) ls' st h) : xs_AW (xs_aw d) M Q pc ls (am_i v :: st) h := ar_go hd rfl (h1 ▸ if_pos h0) K
theorem rr_astore {v : Nat} {ix : Nat} {ls' : am_L} (hd : decode M.2.2.1 pc = .ok (.astore ix, 2)) (h0 : ix < ls.length) (h1 : am_sto ls ix (am_r v) = ls') (K : xs_AW (xs_aw d) M Q (pc + 2) ls' st h) : xs_AW (xs_aw d) M Q pc ls (am_r v :: st) h := ar_go hd rfl (h1 ▸ if_pos h0) K
theorem rr_astore_n {v : Nat} {ix : Fin 4} {ls' : am_L} (hd : decode M.2.2.1 pc = .ok (.astore_n ix, 1)) (h0 : ix.val < ls.length) (h1 : am_sto ls ix.val (am_r v) = ls') (K : xs_AW (xs_aw d) M Q (pc + 1) ls' st h) : xs_AW (xs_aw d) M Q pc ls (am_r v :: st) h := ar_go hd rfl (h1 ▸ if_pos h0) K
theorem rr_lstore {v : Int} {ix : Nat} {ls' : am_L} (hd : decode M.2.2.1 pc = .ok (.lstore ix, 2)) (h0 : ix + 1 < ls.length) (h1 : am_stol ls ix (am_l v) = ls') (K : xs_AW (xs_aw d) M Q (pc + 2) ls' st h) : xs_AW (xs_aw d) M Q pc ls (am_l v :: st) h := ar_go hd rfl (h1 ▸ if_pos h0) K
theorem rr_lstore_n {v : Int} {ix : Fin 4} {ls' : am_L} (hd : decode M.2.2.1 pc = .ok (.lstore_n ix, 1)) (h0 : ix.val + 1 < ls.length) (h1 : am_stol ls ix.val (am_l v) = ls') (K : xs_AW (xs_aw d) M Q (pc + 1) ls' st h) : xs_AW (xs_aw d) M Q pc ls (am_l v :: st) h := ar_go hd rfl (h1 ▸ if_pos h0) K
theorem rr_iinc {v k : Int} {ix : Nat} {ls' : am_L} (hd : decode M.2.2.1 pc = .ok (.iinc ix k, 3)) (h0 : am_get ls ix = some (am_i v)) (h2 : ix < ls.length) (h1 : am_sto ls ix (am_i (am_w (v + k))) = ls') (K : xs_AW (xs_aw d) M Q (pc + 3) ls' st h) : xs_AW (xs_aw d) M Q pc ls st h := ar_go hd rfl (by show am_lI _ _ _ = _; unfold am_lI; rw [h0, ← h1]; exact if_pos h2) K
theorem rr_iadd (hd : decode M.2.2.1 pc = .ok (.iadd, 1)) (K : xs_AW (xs_aw d) M Q (pc + 1) ls (am_i (am_w (x + y)) :: st) h) : xs_AW (xs_aw d) M Q pc ls (am_i y :: am_i x :: st) h := ar_go hd rfl (rfl) K
theorem rr_isub (hd : decode M.2.2.1 pc = .ok (.isub, 1)) (K : xs_AW (xs_aw d) M Q (pc + 1) ls (am_i (am_w (x - y)) :: st) h) : xs_AW (xs_aw d) M Q pc ls (am_i y :: am_i x :: st) h := ar_go hd rfl (rfl) K
theorem rr_imul (hd : decode M.2.2.1 pc = .ok (.imul, 1)) (K : xs_AW (xs_aw d) M Q (pc + 1) ls (am_i (am_w (x * y)) :: st) h) : xs_AW (xs_aw d) M Q pc ls (am_i y :: am_i x :: st) h := ar_go hd rfl (rfl) K
theorem rr_iand (hd : decode M.2.2.1 pc = .ok (.iand, 1)) (K : xs_AW (xs_aw d) M Q (pc + 1) ls (am_i (am_and x y) :: st) h) : xs_AW (xs_aw d) M Q pc ls (am_i y :: am_i x :: st) h := ar_go hd rfl (rfl) K
theorem rr_ior (hd : decode M.2.2.1 pc = .ok (.ior, 1)) (K : xs_AW (xs_aw d) M Q (pc + 1) ls (am_i (am_or x y) :: st) h) : xs_AW (xs_aw d) M Q pc ls (am_i y :: am_i x :: st) h := ar_go hd rfl (rfl) K
theorem rr_ixor (hd : decode M.2.2.1 pc = .ok (.ixor, 1)) (K : xs_AW (xs_aw d) M Q (pc + 1) ls (am_i (am_xor x y) :: st) h) : xs_AW (xs_aw d) M Q pc ls (am_i y :: am_i x :: st) h := ar_go hd rfl (rfl) K
theorem rr_ishl (hd : decode M.2.2.1 pc = .ok (.ishl, 1)) (K : xs_AW (xs_aw d) M Q (pc + 1) ls (am_i (am_shl x y) :: st) h) : xs_AW (xs_aw d) M Q pc ls (am_i y :: am_i x :: st) h := ar_go hd rfl (rfl) K
theorem rr_ishr (hd : decode M.2.2.1 pc = .ok (.ishr, 1)) (K : xs_AW (xs_aw d) M Q (pc + 1) ls (am_i (am_shr x y) :: st) h) : xs_AW (xs_aw d) M Q pc ls (am_i y :: am_i x :: st) h := ar_go hd rfl (rfl) K
theorem rr_iushr (hd : decode M.2.2.1 pc = .ok (.iushr, 1)) (K : xs_AW (xs_aw d) M Q (pc + 1) ls (am_i (am_ushr x y) :: st) h) : xs_AW (xs_aw d) M Q pc ls (am_i y :: am_i x :: st) h := ar_go hd rfl (rfl) K
theorem rr_idiv (hd : decode M.2.2.1 pc = .ok (.idiv, 1)) (h0 : y ≠ 0) (K : xs_AW (xs_aw d) M Q (pc + 1) ls (am_i (am_w (Int.tdiv x y)) :: st) h) : xs_AW (xs_aw d) M Q pc ls (am_i y :: am_i x :: st) h := ar_go hd rfl (if_pos h0) K
theorem rr_irem (hd : decode M.2.2.1 pc = .ok (.irem, 1)) (h0 : y ≠ 0) (K : xs_AW (xs_aw d) M Q (pc + 1) ls (am_i (Int.tmod x y) :: st) h) : xs_AW (xs_aw d) M Q pc ls (am_i y :: am_i x :: st) h := ar_go hd rfl (if_pos h0) K
theorem rr_ineg (hd : decode M.2.2.1 pc = .ok (.ineg, 1)) (K : xs_AW (xs_aw d) M Q (pc + 1) ls (am_i (am_w (-x)) :: st) h) : xs_AW (xs_aw d) M Q pc ls (am_i x :: st) h := ar_go hd rfl (rfl) K
theorem rr_i2b (hd : decode M.2.2.1 pc = .ok (.i2b, 1)) (K : xs_AW (xs_aw d) M Q (pc + 1) ls (am_i (am_b8 x) :: st) h) : xs_AW (xs_aw d) M Q pc ls (am_i x :: st) h := ar_go hd rfl (rfl) K
theorem rr_i2s (hd : decode M.2.2.1 pc = .ok (.i2s, 1)) (K : xs_AW (xs_aw d) M Q (pc + 1) ls (am_i (am_b16 x) :: st) h) : xs_AW (xs_aw d) M Q pc ls (am_i x :: st) h := ar_go hd rfl (rfl) K
theorem rr_i2l (hd : decode M.2.2.1 pc = .ok (.i2l, 1)) (K : xs_AW (xs_aw d) M Q (pc + 1) ls (am_l x :: st) h) : xs_AW (xs_aw d) M Q pc ls (am_i x :: st) h := ar_go hd rfl (rfl) K
theorem rr_l2i (hd : decode M.2.2.1 pc = .ok (.l2i, 1)) (K : xs_AW (xs_aw d) M Q (pc + 1) ls (am_i (am_w x) :: st) h) : xs_AW (xs_aw d) M Q pc ls (am_l x :: st) h := ar_go hd rfl (rfl) K
theorem rr_lmul (hd : decode M.2.2.1 pc = .ok (.lmul, 1)) (K : xs_AW (xs_aw d) M Q (pc + 1) ls (am_l (am_wl (x * y)) :: st) h) : xs_AW (xs_aw d) M Q pc ls (am_l y :: am_l x :: st) h := ar_go hd rfl (rfl) K
theorem rr_lrem (hd : decode M.2.2.1 pc = .ok (.lrem, 1)) (h0 : y ≠ 0) (K : xs_AW (xs_aw d) M Q (pc + 1) ls (am_l (Int.tmod x y) :: st) h) : xs_AW (xs_aw d) M Q pc ls (am_l y :: am_l x :: st) h := ar_go hd rfl (if_pos h0) K
theorem rr_dup {v : am_V} (hd : decode M.2.2.1 pc = .ok (.dup, 1)) (h0 : am_cat v = 1) (K : xs_AW (xs_aw d) M Q (pc + 1) ls (v :: v :: st) h) : xs_AW (xs_aw d) M Q pc ls (v :: st) h := ar_go hd rfl (if_pos h0) K
theorem rr_pop {v : am_V} (hd : decode M.2.2.1 pc = .ok (.pop, 1)) (h0 : am_cat v = 1) (K : xs_AW (xs_aw d) M Q (pc + 1) ls st h) : xs_AW (xs_aw d) M Q pc ls (v :: st) h := ar_go hd rfl (if_pos h0) K
theorem rr_dup2 {v u : am_V} (hd : decode M.2.2.1 pc = .ok (.dup2, 1)) (h0 : am_cat v = 1) (h1 : am_cat u = 1) (K : xs_AW (xs_aw d) M Q (pc + 1) ls (v :: u :: v :: u :: st) h) : xs_AW (xs_aw d) M Q pc ls (v :: u :: st) h := ar_go hd rfl (if_pos ⟨h0, h1⟩) K
theorem rr_goto {off : Int} {t : Nat} (hd : decode M.2.2.1 pc = .ok (.goto off, 3)) (h0 : (pc : Int) + off = (t : Int)) (K : xs_AW (xs_aw d) M Q t ls st h) : xs_AW (xs_aw d) M Q pc ls st h := ar_go hd rfl (ar_jmp (f := fun t => am_go t ls st h) h0) K
theorem rr_icmp_eq_p {off : Int} {t : Nat} (hd : decode M.2.2.1 pc = .ok (.if_icmp .eq off, 3)) (h0 : (pc : Int) + off = (t : Int)) (c : x = y) (K : xs_AW (xs_aw d) M Q t ls st h) : xs_AW (xs_aw d) M Q pc ls (am_i y :: am_i x :: st) h := ar_go hd rfl ((ar_jmp (f := fun t => am_go (if am_cmp .eq x y = true then t else pc + 3) ls st h) h0).trans (by rw [if_pos (show  am_cmp .eq x y = true by simp [am_cmp, c])])) K
theorem rr_icmp_eq_n {off : Int} {t : Nat} (hd : decode M.2.2.1 pc = .ok (.if_icmp .eq off, 3)) (h0 : (pc : Int) + off = (t : Int)) (c : ¬ x = y) (K : xs_AW (xs_aw d) M Q (pc + 3) ls st h) : xs_AW (xs_aw d) M Q pc ls (am_i y :: am_i x :: st) h := ar_go hd rfl ((ar_jmp (f := fun t => am_go (if am_cmp .eq x y = true then t else pc + 3) ls st h) h0).trans (by rw [if_neg (show ¬ am_cmp .eq x y = true by simp [am_cmp, c])])) K
theorem rr_if_eq_p {off : Int} {t : Nat} (hd : decode M.2.2.1 pc = .ok (.ifCond .eq off, 3)) (h0 : (pc : Int) + off = (t : Int)) (c : x = 0) (K : xs_AW (xs_aw d) M Q t ls st h) : xs_AW (xs_aw d) M Q pc ls (am_i x :: st) h := ar_go hd rfl ((ar_jmp (f := fun t => am_go (if am_cmp .eq x 0 = true then t else pc + 3) ls st h) h0).trans (by rw [if_pos (show  am_cmp .eq x 0 = true by simp [am_cmp, c])])) K
theorem rr_if_eq_n {off : Int} {t : Nat} (hd : decode M.2.2.1 pc = .ok (.ifCond .eq off, 3)) (h0 : (pc : Int) + off = (t : Int)) (c : ¬ x = 0) (K : xs_AW (xs_aw d) M Q (pc + 3) ls st h) : xs_AW (xs_aw d) M Q pc ls (am_i x :: st) h := ar_go hd rfl ((ar_jmp (f := fun t => am_go (if am_cmp .eq x 0 = true then t else pc + 3) ls st h) h0).trans (by rw [if_neg (show ¬ am_cmp .eq x 0 = true by simp [am_cmp, c])])) K
theorem rr_icmp_ne_p {off : Int} {t : Nat} (hd : decode M.2.2.1 pc = .ok (.if_icmp .ne off, 3)) (h0 : (pc : Int) + off = (t : Int)) (c : x = y) (K : xs_AW (xs_aw d) M Q (pc + 3) ls st h) : xs_AW (xs_aw d) M Q pc ls (am_i y :: am_i x :: st) h := ar_go hd rfl ((ar_jmp (f := fun t => am_go (if am_cmp .ne x y = true then t else pc + 3) ls st h) h0).trans (by rw [if_neg (show ¬ am_cmp .ne x y = true by simp [am_cmp, c])])) K
theorem rr_icmp_ne_n {off : Int} {t : Nat} (hd : decode M.2.2.1 pc = .ok (.if_icmp .ne off, 3)) (h0 : (pc : Int) + off = (t : Int)) (c : ¬ x = y) (K : xs_AW (xs_aw d) M Q t ls st h) : xs_AW (xs_aw d) M Q pc ls (am_i y :: am_i x :: st) h := ar_go hd rfl ((ar_jmp (f := fun t => am_go (if am_cmp .ne x y = true then t else pc + 3) ls st h) h0).trans (by rw [if_pos (show  am_cmp .ne x y = true by simp [am_cmp, c])])) K
theorem rr_if_ne_p {off : Int} {t : Nat} (hd : decode M.2.2.1 pc = .ok (.ifCond .ne off, 3)) (h0 : (pc : Int) + off = (t : Int)) (c : x = 0) (K : xs_AW (xs_aw d) M Q (pc + 3) ls st h) : xs_AW (xs_aw d) M Q pc ls (am_i x :: st) h := ar_go hd rfl ((ar_jmp (f := fun t => am_go (if am_cmp .ne x 0 = true then t else pc + 3) ls st h) h0).trans (by rw [if_neg (show ¬ am_cmp .ne x 0 = true by simp [am_cmp, c])])) K
theorem rr_if_ne_n {off : Int} {t : Nat} (hd : decode M.2.2.1 pc = .ok (.ifCond .ne off, 3)) (h0 : (pc : Int) + off = (t : Int)) (c : ¬ x = 0) (K : xs_AW (xs_aw d) M Q t ls st h) : xs_AW (xs_aw d) M Q pc ls (am_i x :: st) h := ar_go hd rfl ((ar_jmp (f := fun t => am_go (if am_cmp .ne x 0 = true then t else pc + 3) ls st h) h0).trans (by rw [if_pos (show  am_cmp .ne x 0 = true by simp [am_cmp, c])])) K
theorem rr_icmp_lt_p {off : Int} {t : Nat} (hd : decode M.2.2.1 pc = .ok (.if_icmp .lt off, 3)) (h0 : (pc : Int) + off = (t : Int)) (c : x < y) (K : xs_AW (xs_aw d) M Q t ls st h) : xs_AW (xs_aw d) M Q pc ls (am_i y :: am_i x :: st) h := ar_go hd rfl ((ar_jmp (f := fun t => am_go (if am_cmp .lt x y = true then t else pc + 3) ls st h) h0).trans (by rw [if_pos (show  am_cmp .lt x y = true by simp [am_cmp, c])])) K
theorem rr_icmp_lt_n {off : Int} {t : Nat} (hd : decode M.2.2.1 pc = .ok (.if_icmp .lt off, 3)) (h0 : (pc : Int) + off = (t : Int)) (c : ¬ x < y) (K : xs_AW (xs_aw d) M Q (pc + 3) ls st h) : xs_AW (xs_aw d) M Q pc ls (am_i y :: am_i x :: st) h := ar_go hd rfl ((ar_jmp (f := fun t => am_go (if am_cmp .lt x y = true then t else pc + 3) ls st h) h0).trans (by rw [if_neg (show ¬ am_cmp .lt x y = true by simp [am_cmp, c])])) K
theorem rr_if_lt_p {off : Int} {t : Nat} (hd : decode M.2.2.1 pc = .ok (.ifCond .lt off, 3)) (h0 : (pc : Int) + off = (t : Int)) (c : x < 0) (K : xs_AW (xs_aw d) M Q t ls st h) : xs_AW (xs_aw d) M Q pc ls (am_i x :: st) h := ar_go hd rfl ((ar_jmp (f := fun t => am_go (if am_cmp .lt x 0 = true then t else pc + 3) ls st h) h0).trans (by rw [if_pos (show  am_cmp .lt x 0 = true by simp [am_cmp, c])])) K
theorem rr_if_lt_n {off : Int} {t : Nat} (hd : decode M.2.2.1 pc = .ok (.ifCond .lt off, 3)) (h0 : (pc : Int) + off = (t : Int)) (c : ¬ x < 0) (K : xs_AW (xs_aw d) M Q (pc + 3) ls st h) : xs_AW (xs_aw d) M Q pc ls (am_i x :: st) h := ar_go hd rfl ((ar_jmp (f := fun t => am_go (if am_cmp .lt x 0 = true then t else pc + 3) ls st h) h0).trans (by rw [if_neg (show ¬ am_cmp .lt x 0 = true by simp [am_cmp, c])])) K
theorem rr_icmp_ge_p {off : Int} {t : Nat} (hd : decode M.2.2.1 pc = .ok (.if_icmp .ge off, 3)) (h0 : (pc : Int) + off = (t : Int)) (c : x < y) (K : xs_AW (xs_aw d) M Q (pc + 3) ls st h) : xs_AW (xs_aw d) M Q pc ls (am_i y :: am_i x :: st) h := ar_go hd rfl ((ar_jmp (f := fun t => am_go (if am_cmp .ge x y = true then t else pc + 3) ls st h) h0).trans (by rw [if_neg (show ¬ am_cmp .ge x y = true by simp [am_cmp, c])])) K
theorem rr_icmp_ge_n {off : Int} {t : Nat} (hd : decode M.2.2.1 pc = .ok (.if_icmp .ge off, 3)) (h0 : (pc : Int) + off = (t : Int)) (c : ¬ x < y) (K : xs_AW (xs_aw d) M Q t ls st h) : xs_AW (xs_aw d) M Q pc ls (am_i y :: am_i x :: st) h := ar_go hd rfl ((ar_jmp (f := fun t => am_go (if am_cmp .ge x y = true then t else pc + 3) ls st h) h0).trans (by rw [if_pos (show  am_cmp .ge x y = true by simp [am_cmp, c])])) K
theorem rr_if_ge_p {off : Int} {t : Nat} (hd : decode M.2.2.1 pc = .ok (.ifCond .ge off, 3)) (h0 : (pc : Int) + off = (t : Int)) (c : x < 0) (K : xs_AW (xs_aw d) M Q (pc + 3) ls st h) : xs_AW (xs_aw d) M Q pc ls (am_i x :: st) h := ar_go hd rfl ((ar_jmp (f := fun t => am_go (if am_cmp .ge x 0 = true then t else pc + 3) ls st h) h0).trans (by rw [if_neg (show ¬ am_cmp .ge x 0 = true by simp [am_cmp, c])])) K
theorem rr_if_ge_n {off : Int} {t : Nat} (hd : decode M.2.2.1 pc = .ok (.ifCond .ge off, 3)) (h0 : (pc : Int) + off = (t : Int)) (c : ¬ x < 0) (K : xs_AW (xs_aw d) M Q t ls st h) : xs_AW (xs_aw d) M Q pc ls (am_i x :: st) h := ar_go hd rfl ((ar_jmp (f := fun t => am_go (if am_cmp .ge x 0 = true then t else pc + 3) ls st h) h0).trans (by rw [if_pos (show  am_cmp .ge x 0 = true by simp [am_cmp, c])])) K
theorem rr_icmp_gt_p {off : Int} {t : Nat} (hd : decode M.2.2.1 pc = .ok (.if_icmp .gt off, 3)) (h0 : (pc : Int) + off = (t : Int)) (c : x ≤ y) (K : xs_AW (xs_aw d) M Q (pc + 3) ls st h) : xs_AW (xs_aw d) M Q pc ls (am_i y :: am_i x :: st) h := ar_go hd rfl ((ar_jmp (f := fun t => am_go (if am_cmp .gt x y = true then t else pc + 3) ls st h) h0).trans (by rw [if_neg (show ¬ am_cmp .gt x y = true by simp [am_cmp, c])])) K
theorem rr_icmp_gt_n {off : Int} {t : Nat} (hd : decode M.2.2.1 pc = .ok (.if_icmp .gt off, 3)) (h0 : (pc : Int) + off = (t : Int)) (c : ¬ x ≤ y) (K : xs_AW (xs_aw d) M Q t ls st h) : xs_AW (xs_aw d) M Q pc ls (am_i y :: am_i x :: st) h := ar_go hd rfl ((ar_jmp (f := fun t => am_go (if am_cmp .gt x y = true then t else pc + 3) ls st h) h0).trans (by rw [if_pos (show  am_cmp .gt x y = true by simp [am_cmp, c])])) K
theorem rr_if_gt_p {off : Int} {t : Nat} (hd : decode M.2.2.1 pc = .ok (.ifCond .gt off, 3)) (h0 : (pc : Int) + off = (t : Int)) (c : x ≤ 0) (K : xs_AW (xs_aw d) M Q (pc + 3) ls st h) : xs_AW (xs_aw d) M Q pc ls (am_i x :: st) h := ar_go hd rfl ((ar_jmp (f := fun t => am_go (if am_cmp .gt x 0 = true then t else pc + 3) ls st h) h0).trans (by rw [if_neg (show ¬ am_cmp .gt x 0 = true by simp [am_cmp, c])])) K
theorem rr_if_gt_n {off : Int} {t : Nat} (hd : decode M.2.2.1 pc = .ok (.ifCond .gt off, 3)) (h0 : (pc : Int) + off = (t : Int)) (c : ¬ x ≤ 0) (K : xs_AW (xs_aw d) M Q t ls st h) : xs_AW (xs_aw d) M Q pc ls (am_i x :: st) h := ar_go hd rfl ((ar_jmp (f := fun t => am_go (if am_cmp .gt x 0 = true then t else pc + 3) ls st h) h0).trans (by rw [if_pos (show  am_cmp .gt x 0 = true by simp [am_cmp, c])])) K
theorem rr_icmp_le_p {off : Int} {t : Nat} (hd : decode M.2.2.1 pc = .ok (.if_icmp .le off, 3)) (h0 : (pc : Int) + off = (t : Int)) (c : x ≤ y) (K : xs_AW (xs_aw d) M Q t ls st h) : xs_AW (xs_aw d) M Q pc ls (am_i y :: am_i x :: st) h := ar_go hd rfl ((ar_jmp (f := fun t => am_go (if am_cmp .le x y = true then t else pc + 3) ls st h) h0).trans (by rw [if_pos (show  am_cmp .le x y = true by simp [am_cmp, c])])) K
theorem rr_icmp_le_n {off : Int} {t : Nat} (hd : decode M.2.2.1 pc = .ok (.if_icmp .le off, 3)) (h0 : (pc : Int) + off = (t : Int)) (c : ¬ x ≤ y) (K : xs_AW (xs_aw d) M Q (pc + 3) ls st h) : xs_AW (xs_aw d) M Q pc ls (am_i y :: am_i x :: st) h := ar_go hd rfl ((ar_jmp (f := fun t => am_go (if am_cmp .le x y = true then t else pc + 3) ls st h) h0).trans (by rw [if_neg (show ¬ am_cmp .le x y = true by simp [am_cmp, c])])) K
theorem rr_if_le_p {off : Int} {t : Nat} (hd : decode M.2.2.1 pc = .ok (.ifCond .le off, 3)) (h0 : (pc : Int) + off = (t : Int)) (c : x ≤ 0) (K : xs_AW (xs_aw d) M Q t ls st h) : xs_AW (xs_aw d) M Q pc ls (am_i x :: st) h := ar_go hd rfl ((ar_jmp (f := fun t => am_go (if am_cmp .le x 0 = true then t else pc + 3) ls st h) h0).trans (by rw [if_pos (show  am_cmp .le x 0 = true by simp [am_cmp, c])])) K
theorem rr_if_le_n {off : Int} {t : Nat} (hd : decode M.2.2.1 pc = .ok (.ifCond .le off, 3)) (h0 : (pc : Int) + off = (t : Int)) (c : ¬ x ≤ 0) (K : xs_AW (xs_aw d) M Q (pc + 3) ls st h) : xs_AW (xs_aw d) M Q pc ls (am_i x :: st) h := ar_go hd rfl ((ar_jmp (f := fun t => am_go (if am_cmp .le x 0 = true then t else pc + 3) ls st h) h0).trans (by rw [if_neg (show ¬ am_cmp .le x 0 = true by simp [am_cmp, c])])) K
theorem rr_tsw_in {df lo hi off : Int} {offs : Array Int} {n t : Nat} (hd : decode M.2.2.1 pc = .ok (.tableswitch df lo hi offs, n)) (h1 : ¬ (x < lo ∨ hi < x)) (h2 : offs[(x - lo).toNat]? = some off) (h0 : (pc : Int) + off = (t : Int)) (K : xs_AW (xs_aw d) M Q t ls st h) : xs_AW (xs_aw d) M Q pc ls (am_i x :: st) h := ar_go hd rfl (by
  show (if x < lo ∨ hi < x then am_jmp pc df fun t => am_go t ls st h else am_opt (offs[(x - lo).toNat]?) fun off => am_jmp pc off fun t => am_go t ls st h) = _
  rw [if_neg h1, h2]
  exact ar_jmp (f := fun t => am_go t ls st h) h0) K
theorem rr_tsw_out {df lo hi : Int} {offs : Array Int} {n t : Nat} (hd : decode M.2.2.1 pc = .ok (.tableswitch df lo hi offs, n)) (h1 : x < lo ∨ hi < x) (h0 : (pc : Int) + df = (t : Int)) (K : xs_AW (xs_aw d) M Q t ls st h) : xs_AW (xs_aw d) M Q pc ls (am_i x :: st) h := ar_go hd rfl (by
  show (if x < lo ∨ hi < x then am_jmp pc df fun t => am_go t ls st h else am_opt (offs[(x - lo).toNat]?) fun off => am_jmp pc off fun t => am_go t ls st h) = _
  rw [if_pos h1]
  exact ar_jmp (f := fun t => am_go t ls st h) h0) K
/-! fields: of an object at a, its shape known -/
theorem rr_geti {ix ci k a n : Nat} {rs : List Nat} {kz : Int} (hd : decode M.2.2.1 pc = .ok (.getfield ix, 3)) (hf : xr_fld M.1 ix = some (ci, k)) (hsh : (xr_Sh L)[a]? = some (ci, n, rs)) (hs : 3 ≤ a ∧ k < xr_num ci) (hr : xr_ref ci k = false) (hz : (k : Int) = kz) (K : xs_AW (xs_aw d) M Q (pc + 3) ls (am_i (σ a kz) :: st) (rm_h L σ)) : xs_AW (xs_aw d) M Q pc ls (am_r a :: st) (rm_h L σ) := ar_go hd rfl (by
  show am_getf xr_fld xr_ref xr_num M ix pc ls (am_r a :: st) (rm_h L σ) = _
  have e9 : (rm_h L σ).1[a]? = some (ci, n, rs) := hsh
  simp only [am_getf, am_pR, am_opt, am_sh, am_if, hf, e9]
  rw [if_pos ⟨hs.1, True.intro, hs.2⟩, hr, if_neg (by decide), ← hz]) K
theorem rr_getr {ix ci k a n t : Nat} {rs : List Nat} (hd : decode M.2.2.1 pc = .ok (.getfield ix, 3)) (hf : xr_fld M.1 ix = some (ci, k)) (hsh : (xr_Sh L)[a]? = some (ci, n, rs)) (hs : 3 ≤ a ∧ k < xr_num ci) (hr : xr_ref ci k = true) (ht : rs[k]? = some (t + 1)) (K : xs_AW (xs_aw d) M Q (pc + 3) ls (am_r t :: st) (rm_h L σ)) : xs_AW (xs_aw d) M Q pc ls (am_r a :: st) (rm_h L σ) := ar_go hd rfl (by
  show am_getf xr_fld xr_ref xr_num M ix pc ls (am_r a :: st) (rm_h L σ) = _
  have e9 : (rm_h L σ).1[a]? = some (ci, n, rs) := hsh
  simp only [am_getf, am_pR, am_opt, am_sh, am_if, hf, e9]
  rw [if_pos ⟨hs.1, True.intro, hs.2⟩, hr, if_pos rfl]
  simp only [am_rfs, ht]) K
theorem rr_puti {ix ci k a n : Nat} {rs : List Nat} {kz : Int} (hd : decode M.2.2.1 pc = .ok (.putfield ix, 3)) (hf : xr_fld M.1 ix = some (ci, k)) (hsh : (xr_Sh L)[a]? = some (ci, n, rs)) (hs : 3 ≤ a ∧ k < xr_num ci) (hr : xr_ref ci k = false ∧ xr_fin ci k = false) (hz : (k : Int) = kz) (K : xs_AW (xs_aw d) M Q (pc + 3) ls st (rm_h L (am_up σ a kz z))) : xs_AW (xs_aw d) M Q pc ls (am_i z :: am_r a :: st) (rm_h L σ) := ar_go hd rfl (by
  show am_putf xr_fld xr_ref xr_num xr_fin M ix pc ls (am_i z :: am_r a :: st) (rm_h L σ) = _
  have e9 : (rm_h L σ).1[a]? = some (ci, n, rs) := hsh
  simp only [am_putf, am_pRV, am_opt, am_sh, am_if, hf, e9]
  rw [if_pos ⟨hs.1, True.intro, hs.2, fun q => by rw [hr.2] at q; cases q⟩, if_pos hr.1, ← hz]) K
theorem rr_gst {ix a : Nat} (hd : decode M.2.2.1 pc = .ok (.getstatic ix, 3)) (hf : xr_gst M.1 ix = some a) (h3 : a < 3) (K : xs_AW (xs_aw d) M Q (pc + 3) ls (am_r a :: st) h) : xs_AW (xs_aw d) M Q pc ls st h := ar_go hd rfl (by
  show am_opt (xr_gst M.1 ix) (fun a => am_if (a < 3) <| am_go (pc + 3) ls (am_r a :: st) h) = _
  rw [hf]
  exact if_pos h3) K
theorem rr_iald {a n : Nat} {j nz : Int} {rs : List Nat} (hd : decode M.2.2.1 pc = .ok (.iaload, 1)) (hsh : (xr_Sh L)[a]? = some (100, n, rs)) (hz : (n : Int) = nz) (hj : 0 ≤ j ∧ j < nz) (K : xs_AW (xs_aw d) M Q (pc + 1) ls (am_i (σ a j) :: st) (rm_h L σ)) : xs_AW (xs_aw d) M Q pc ls (am_i j :: am_r a :: st) (rm_h L σ) := ar_go hd rfl (by
  show am_sh (rm_h L σ) a (fun ki n _ => am_if (ki = 100 ∧ 0 ≤ j ∧ j < n) <| am_go (pc + 1) ls (am_i (σ a j) :: st) (rm_h L σ)) = _
  unfold am_sh
  rw [show (rm_h L σ).1[a]? = _ from hsh]
  exact if_pos ⟨rfl, hj.1, by rw [hz]; exact hj.2⟩) K
theorem rr_bald {a n : Nat} {j nz : Int} {rs : List Nat} (hd : decode M.2.2.1 pc = .ok (.baload, 1)) (hsh : (xr_Sh L)[a]? = some (101, n, rs)) (h3 : 3 ≤ a) (hz : (n : Int) = nz) (hj : 0 ≤ j ∧ j < nz) (K : xs_AW (xs_aw d) M Q (pc + 1) ls (am_i (σ a j) :: st) (rm_h L σ)) : xs_AW (xs_aw d) M Q pc ls (am_i j :: am_r a :: st) (rm_h L σ) := ar_go hd rfl (by
  show am_sh (rm_h L σ) a (fun ki n _ => am_if (3 ≤ a ∧ ki = 101 ∧ 0 ≤ j ∧ j < n) <| am_go (pc + 1) ls (am_i (σ a j) :: st) (rm_h L σ)) = _
  unfold am_sh
  rw [show (rm_h L σ).1[a]? = _ from hsh]
  exact if_pos ⟨h3, rfl, hj.1, by rw [hz]; exact hj.2⟩) K
theorem rr_aald {a n kd t : Nat} {j nz : Int} {rs : List Nat} (hd : decode M.2.2.1 pc = .ok (.aaload, 1)) (hsh : (xr_Sh L)[a]? = some (kd, n, rs)) (h3 : 3 ≤ a ∧ (kd = 102 ∨ kd = 103)) (hz : (n : Int) = nz) (hj : 0 ≤ j ∧ j < nz) (ht : rs[j.toNat]? = some (t + 1)) (K : xs_AW (xs_aw d) M Q (pc + 1) ls (am_r t :: st) (rm_h L σ)) : xs_AW (xs_aw d) M Q pc ls (am_i j :: am_r a :: st) (rm_h L σ) := ar_go hd rfl (by
  show am_sh (rm_h L σ) a (fun ki n rs => am_if (3 ≤ a ∧ (ki = 102 ∨ ki = 103) ∧ 0 ≤ j ∧ j < n) <| am_rfs rs j.toNat fun t => am_go (pc + 1) ls (am_r t :: st) (rm_h L σ)) = _
  unfold am_sh
  rw [show (rm_h L σ).1[a]? = _ from hsh]
  refine (if_pos ⟨h3.1, h3.2, hj.1, by rw [hz]; exact hj.2⟩).trans ?_
  simp only [am_rfs, ht]) K
theorem rr_iast {a n : Nat} {j nz : Int} {rs : List Nat} (hd : decode M.2.2.1 pc = .ok (.iastore, 1)) (hsh : (xr_Sh L)[a]? = some (100, n, rs)) (h3 : 3 ≤ a) (hz : (n : Int) = nz) (hj : 0 ≤ j ∧ j < nz) (K : xs_AW (xs_aw d) M Q (pc + 1) ls st (rm_h L (am_up σ a j z))) : xs_AW (xs_aw d) M Q pc ls (am_i z :: am_i j :: am_r a :: st) (rm_h L σ) := ar_go hd rfl (by
  show am_sh (rm_h L σ) a (fun ki n _ => am_if (3 ≤ a ∧ ki = 100 ∧ 0 ≤ j ∧ j < n) <| am_go (pc + 1) ls st (rm_h L (am_up σ a j z))) = _
  unfold am_sh
  rw [show (rm_h L σ).1[a]? = _ from hsh]
  exact if_pos ⟨h3, rfl, hj.1, by rw [hz]; exact hj.2⟩) K
theorem rr_bast {a n : Nat} {j nz : Int} {rs : List Nat} (hd : decode M.2.2.1 pc = .ok (.bastore, 1)) (hsh : (xr_Sh L)[a]? = some (101, n, rs)) (h3 : 3 ≤ a) (hz : (n : Int) = nz) (hj : 0 ≤ j ∧ j < nz) (hb : z = 0 ∨ z = 1) (K : xs_AW (xs_aw d) M Q (pc + 1) ls st (rm_h L (am_up σ a j z))) : xs_AW (xs_aw d) M Q pc ls (am_i z :: am_i j :: am_r a :: st) (rm_h L σ) := ar_go hd rfl (by
  show am_sh (rm_h L σ) a (fun ki n _ => am_if (3 ≤ a ∧ ki = 101 ∧ 0 ≤ j ∧ j < n ∧ (z = 0 ∨ z = 1)) <| am_go (pc + 1) ls st (rm_h L (am_up σ a j z))) = _
  unfold am_sh
  rw [show (rm_h L σ).1[a]? = _ from hsh]
  exact if_pos ⟨h3, rfl, hj.1, by rw [hz]; exact hj.2, hb⟩) K
theorem rr_alen {a n : Nat} {nz : Int} {rs : List Nat} (hd : decode M.2.2.1 pc = .ok (.arraylength, 1)) (hsh : (xr_Sh L)[a]? = some (100, n, rs)) (hz : (n : Int) = nz) (hn : n ≤ 2147483647) (K : xs_AW (xs_aw d) M Q (pc + 1) ls (am_i nz :: st) (rm_h L σ)) : xs_AW (xs_aw d) M Q pc ls (am_r a :: st) (rm_h L σ) := ar_go hd rfl (by
  show am_sh (rm_h L σ) a (fun ki n _ => am_if ((ki = 100 ∨ (3 ≤ a ∧ ki = 101)) ∧ n ≤ 2147483647) <| am_go (pc + 1) ls (am_i n :: st) (rm_h L σ)) = _
  unfold am_sh
  rw [show (rm_h L σ).1[a]? = _ from hsh, ← hz]
  exact if_pos ⟨Or.inl rfl, hn⟩) K
theorem rr_alenz {a n : Nat} {nz : Int} {rs : List Nat} (hd : decode M.2.2.1 pc = .ok (.arraylength, 1)) (hsh : (xr_Sh L)[a]? = some (101, n, rs)) (h3 : 3 ≤ a) (hz : (n : Int) = nz) (hn : n ≤ 2147483647) (K : xs_AW (xs_aw d) M Q (pc + 1) ls (am_i nz :: st) (rm_h L σ)) : xs_AW (xs_aw d) M Q pc ls (am_r a :: st) (rm_h L σ) := ar_go hd rfl (by
  show am_sh (rm_h L σ) a (fun ki n _ => am_if ((ki = 100 ∨ (3 ≤ a ∧ ki = 101)) ∧ n ≤ 2147483647) <| am_go (pc + 1) ls (am_i n :: st) (rm_h L σ)) = _
  unfold am_sh
  rw [show (rm_h L σ).1[a]? = _ from hsh, ← hz]
  exact if_pos ⟨Or.inr ⟨h3, rfl⟩, hn⟩) K
theorem rr_acp {ix na' a b na nb : Nat} {i j n : Int} {ra rb : List Nat} {naz nbz : Int} {M' : am_M} (hd : decode M.2.2.1 pc = .ok (.invokestatic ix, 3)) (hm : xr_mth M.1 ix = some (5, M', na')) (ha : (xr_Sh L)[a]? = some (100, na, ra)) (hb : (xr_Sh L)[b]? = some (100, nb, rb)) (h3 : 3 ≤ a ∧ 3 ≤ b) (hza : (na : Int) = naz) (hzb : (nb : Int) = nbz) (hg : 0 ≤ i ∧ 0 ≤ j ∧ 0 ≤ n ∧ i + n ≤ naz ∧ j + n ≤ nbz) (hw : am_words st ≤ 8) (K : xs_AW (xs_aw d) M Q (pc + 3) ls st (rm_h L (am_cpy σ a i b j n))) : xs_AW (xs_aw d) M Q pc ls (am_i n :: am_i j :: am_r b :: am_i i :: am_r a :: st) (rm_h L σ) := ar_go hd rfl (by
  have e1 : (rm_h L σ).1[a]? = some (100, na, ra) := ha
  have e2 : (rm_h L σ).1[b]? = some (100, nb, rb) := hb
  have e3 : am_acp pc ls (am_i n :: am_i j :: am_r b :: am_i i :: am_r a :: st) (rm_h L σ) = am_go (pc + 3) ls st (rm_h L (am_cpy σ a i b j n)) := by
    simp only [am_acp, am_pCp, am_sh, e1, e2]
    exact if_pos ⟨h3.1, h3.2, True.intro, True.intro, hg.1, hg.2.1, hg.2.2.1, by rw [hza]; exact hg.2.2.2.1, by rw [hzb]; exact hg.2.2.2.2, hw⟩
  simp only [xs_do, am_do, am_opt, hm]
  exact e3) K
theorem rr_max {ix na : Nat} {M' : am_M} (hd : decode M.2.2.1 pc = .ok (.invokestatic ix, 3)) (hm : xr_mth M.1 ix = some (6, M', na)) (hw : am_words st ≤ 8) (K : xs_AW (xs_aw d) M Q (pc + 3) ls (am_i (if x < y then y else x) :: st) (rm_h L σ)) : xs_AW (xs_aw d) M Q pc ls (am_i y :: am_i x :: st) (rm_h L σ) := ar_go hd rfl (by
  have e3 : am_mth M (rm_h L σ) st (am_go (pc + 3) ls (am_i (if x < y then y else x) :: st) (rm_h L σ)) = am_go (pc + 3) ls (am_i (if x < y then y else x) :: st) (rm_h L σ) := if_pos ⟨Nat.zero_le _, Nat.zero_le _, hw⟩
  simp only [xs_do, am_do, am_opt, hm]
  exact e3) K
theorem rr_min {ix na : Nat} {M' : am_M} (hd : decode M.2.2.1 pc = .ok (.invokestatic ix, 3)) (hm : xr_mth M.1 ix = some (7, M', na)) (hw : am_words st ≤ 8) (K : xs_AW (xs_aw d) M Q (pc + 3) ls (am_i (if y < x then y else x) :: st) (rm_h L σ)) : xs_AW (xs_aw d) M Q pc ls (am_i y :: am_i x :: st) (rm_h L σ) := ar_go hd rfl (by
  have e3 : am_mth M (rm_h L σ) st (am_go (pc + 3) ls (am_i (if y < x then y else x) :: st) (rm_h L σ)) = am_go (pc + 3) ls (am_i (if y < x then y else x) :: st) (rm_h L σ) := if_pos ⟨Nat.zero_le _, Nat.zero_le _, hw⟩
  simp only [xs_do, am_do, am_opt, hm]
  exact e3) K
theorem rr_abs {ix na : Nat} {M' : am_M} (hd : decode M.2.2.1 pc = .ok (.invokestatic ix, 3)) (hm : xr_mth M.1 ix = some (8, M', na)) (hw : am_words st ≤ 8) (K : xs_AW (xs_aw d) M Q (pc + 3) ls (am_i (if 0 ≤ x then x else am_w (0 - x)) :: st) (rm_h L σ)) : xs_AW (xs_aw d) M Q pc ls (am_i x :: st) (rm_h L σ) := ar_go hd rfl (by
  have e3 : am_mth M (rm_h L σ) st (am_go (pc + 3) ls (am_i (if 0 ≤ x then x else am_w (0 - x)) :: st) (rm_h L σ)) = am_go (pc + 3) ls (am_i (if 0 ≤ x then x else am_w (0 - x)) :: st) (rm_h L σ) := if_pos ⟨Nat.zero_le _, Nat.zero_le _, hw⟩
  simp only [xs_do, am_do, am_opt, hm]
  exact e3) K
theorem rr_iret (hd : decode M.2.2.1 pc = .ok (.ireturn, 1)) (hr : M.2.2.2.2.1 = some .int) (K : Q (some (am_i z)) (rm_h L σ)) : xs_AW (xs_aw d) M Q pc ls [am_i z] (rm_h L σ) := ar_ret hd rfl (if_pos ⟨Nat.zero_le _, Nat.zero_le _, Or.inl hr⟩) K
theorem rr_zret (hd : decode M.2.2.1 pc = .ok (.ireturn, 1)) (hr : M.2.2.2.2.1 = some .boolean) (hz : z = 0 ∨ z = 1) (K : Q (some (am_i z)) (rm_h L σ)) : xs_AW (xs_aw d) M Q pc ls [am_i z] (rm_h L σ) := ar_ret hd rfl (if_pos ⟨Nat.zero_le _, Nat.zero_le _, Or.inr ⟨hr, hz⟩⟩) K
theorem rr_vret (hd : decode M.2.2.1 pc = .ok (.return_, 1)) (hr : M.2.2.2.2.1 = none) (K : Q none (rm_h L σ)) : xs_AW (xs_aw d) M Q pc ls [] (rm_h L σ) := ar_ret hd rfl (if_pos ⟨Nat.zero_le _, Nat.zero_le _, hr⟩) K
/-! calls: of methods that make nothing -/
theorem rr_V {ix na a n : Nat} {rs : List Nat} {M' : am_M} {as rest : List am_V} (hd : decode M.2.2.1 pc = .ok (.invokevirtual ix, 3)) (hm : xr_mth M.1 ix = some (0, M', na)) (hsh : (xr_Sh L)[a]? = some (M'.1, n, rs)) (h3 : 3 ≤ a ∧ M'.1 < 100 ∧ 0 < na) (hst : st = (am_r a :: as).reverse ++ rest) (hdr : st.drop (na - 1) = am_r a :: rest) (hna : (am_r a :: as).length = na) (hw : am_words rest ≤ 8) (hmc : M'.2.2.2.2.2.1 = 0 ∧ M'.2.2.2.2.2.2 = 0) (hsl : (am_sl (am_r a :: as)).length ≤ M'.2.2.2.1) {v : Option am_V} {σ' : am_Mem} (hC : ∀ Q' : am_Post, Q' v (rm_h L σ') → xs_aw d M' (am_r a :: as) (rm_h L σ) Q') (K : xs_AW (xs_aw d) M Q (pc + 3) ls (v.toList ++ rest) (rm_h L σ')) : xs_AW (xs_aw d) M Q pc ls st (rm_h L σ) := by
  refine ar_call (as := am_r a :: as) (rest := rest) (M' := M') (na := na) hd rfl ?_ hst hna hw (by rw [hmc.1]; exact Nat.zero_le _) (by rw [hmc.2]; exact Nat.zero_le _) hsl (hC _ ?_)
  · have e9 : (rm_h L σ).1[a]? = some (M'.1, n, rs) := hsh
    simp only [xs_do, am_do, am_opt, hm, am_if, hdr, am_sh, e9]
    rw [if_pos ⟨True.intro, h3.2.2⟩, if_pos ⟨h3.1, True.intro, h3.2.1⟩]
  · dsimp only
    rw [hmc.1, hmc.2]
    exact K
theorem rr_S {ix na kd : Nat} {M' : am_M} {as rest : List am_V} (hd : decode M.2.2.1 pc = .ok (.invokestatic ix, 3)) (hm : xr_mth M.1 ix = some (kd, M', na)) (hk : kd = 1 ∨ kd = 3) (hst : st = as.reverse ++ rest) (hna : as.length = na) (hw : am_words rest ≤ 8) (hmc : M'.2.2.2.2.2.1 = 0 ∧ M'.2.2.2.2.2.2 = 0) (hsl : (am_sl as).length ≤ M'.2.2.2.1) {v : Option am_V} {σ' : am_Mem} (hC : ∀ Q' : am_Post, Q' v (rm_h L σ') → xs_aw d M' as (rm_h L σ) Q') (K : xs_AW (xs_aw d) M Q (pc + 3) ls (v.toList ++ rest) (rm_h L σ')) : xs_AW (xs_aw d) M Q pc ls st (rm_h L σ) := by
  refine ar_call (as := as) (rest := rest) (M' := M') (na := na) hd rfl ?_ hst hna hw (by rw [hmc.1]; exact Nat.zero_le _) (by rw [hmc.2]; exact Nat.zero_le _) hsl (hC _ ?_)
  · simp only [xs_do, am_do, am_opt, hm]
    rw [if_neg (by omega), if_neg (by omega), if_neg (by omega), if_neg (by omega)]
    exact if_pos hk
  · dsimp only
    rw [hmc.1, hmc.2]
    exact K
theorem rr_Vi {ix na a n : Nat} {rs : List Nat} {M' : am_M} {as rest : List am_V} (hd : decode M.2.2.1 pc = .ok (.invokevirtual ix, 3)) (hm : xr_mth M.1 ix = some (0, M', na)) (hsh : (xr_Sh L)[a]? = some (M'.1, n, rs)) (h3 : 3 ≤ a ∧ M'.1 < 100 ∧ 0 < na) (hst : st = (am_r a :: as).reverse ++ rest) (hdr : st.drop (na - 1) = am_r a :: rest) (hna : (am_r a :: as).length = na) (hw : am_words rest ≤ 8) (hmc : M'.2.2.2.2.2.1 = 0 ∧ M'.2.2.2.2.2.2 = 0) (hsl : (am_sl (am_r a :: as)).length ≤ M'.2.2.2.1) {v : Int} {σ' : am_Mem} (hC : ∀ Q' : am_Post, Q' (some (am_i v)) (rm_h L σ') → xs_aw d M' (am_r a :: as) (rm_h L σ) Q') (K : xs_AW (xs_aw d) M Q (pc + 3) ls (am_i v :: rest) (rm_h L σ')) : xs_AW (xs_aw d) M Q pc ls st (rm_h L σ) := rr_V hd hm hsh h3 hst hdr hna hw hmc hsl hC K
theorem rr_Vv {ix na a n : Nat} {rs : List Nat} {M' : am_M} {as rest : List am_V} (hd : decode M.2.2.1 pc = .ok (.invokevirtual ix, 3)) (hm : xr_mth M.1 ix = some (0, M', na)) (hsh : (xr_Sh L)[a]? = some (M'.1, n, rs)) (h3 : 3 ≤ a ∧ M'.1 < 100 ∧ 0 < na) (hst : st = (am_r a :: as).reverse ++ rest) (hdr : st.drop (na - 1) = am_r a :: rest) (hna : (am_r a :: as).length = na) (hw : am_words rest ≤ 8) (hmc : M'.2.2.2.2.2.1 = 0 ∧ M'.2.2.2.2.2.2 = 0) (hsl : (am_sl (am_r a :: as)).length ≤ M'.2.2.2.1) {σ' : am_Mem} (hC : ∀ Q' : am_Post, Q' none (rm_h L σ') → xs_aw d M' (am_r a :: as) (rm_h L σ) Q') (K : xs_AW (xs_aw d) M Q (pc + 3) ls rest (rm_h L σ')) : xs_AW (xs_aw d) M Q pc ls st (rm_h L σ) := rr_V hd hm hsh h3 hst hdr hna hw hmc hsl hC K
theorem rr_Si {ix na kd : Nat} {M' : am_M} {as rest : List am_V} (hd : decode M.2.2.1 pc = .ok (.invokestatic ix, 3)) (hm : xr_mth M.1 ix = some (kd, M', na)) (hk : kd = 1 ∨ kd = 3) (hst : st = as.reverse ++ rest) (hna : as.length = na) (hw : am_words rest ≤ 8) (hmc : M'.2.2.2.2.2.1 = 0 ∧ M'.2.2.2.2.2.2 = 0) (hsl : (am_sl as).length ≤ M'.2.2.2.1) {v : Int} {σ' : am_Mem} (hC : ∀ Q' : am_Post, Q' (some (am_i v)) (rm_h L σ') → xs_aw d M' as (rm_h L σ) Q') (K : xs_AW (xs_aw d) M Q (pc + 3) ls (am_i v :: rest) (rm_h L σ')) : xs_AW (xs_aw d) M Q pc ls st (rm_h L σ) := rr_S hd hm hk hst hna hw hmc hsl hC K
theorem rr_Sv {ix na kd : Nat} {M' : am_M} {as rest : List am_V} (hd : decode M.2.2.1 pc = .ok (.invokestatic ix, 3)) (hm : xr_mth M.1 ix = some (kd, M', na)) (hk : kd = 1 ∨ kd = 3) (hst : st = as.reverse ++ rest) (hna : as.length = na) (hw : am_words rest ≤ 8) (hmc : M'.2.2.2.2.2.1 = 0 ∧ M'.2.2.2.2.2.2 = 0) (hsl : (am_sl as).length ≤ M'.2.2.2.1) {σ' : am_Mem} (hC : ∀ Q' : am_Post, Q' none (rm_h L σ') → xs_aw d M' as (rm_h L σ) Q') (K : xs_AW (xs_aw d) M Q (pc + 3) ls rest (rm_h L σ')) : xs_AW (xs_aw d) M Q pc ls st (rm_h L σ) := rr_S hd hm hk hst hna hw hmc hsl hC K
end
/-! what walks read off the functions -/
def am_b2 {α : Type} (o : Option (Int × am_Mem)) (f : Int → am_Mem → Option α) : Option α := match o with
  | some q => f q.1 q.2
  | none => none
def am_b1 {α : Type} (o : Option am_Mem) (f : am_Mem → Option α) : Option α := match o with
  | some q => f q
  | none => none
theorem am_b2_some {α : Type} (r : Int) (σ : am_Mem) (f : Int → am_Mem → Option α) : am_b2 (some (r, σ)) f = f r σ := rfl
theorem am_b1_some {α : Type} (σ : am_Mem) (f : am_Mem → Option α) : am_b1 (some σ) f = f σ := rfl
theorem ab_2 {α : Type} {o : Option (Int × am_Mem)} {f : Int → am_Mem → Option α} {q : α} (h : am_b2 o f = some q) : ∃ r σ, o = some (r, σ) ∧ f r σ = some q := by
  unfold am_b2 at h
  split at h
  · rename_i x; exact ⟨x.1, x.2, rfl, h⟩
  · cases h
theorem ab_1 {α : Type} {o : Option am_Mem} {f : am_Mem → Option α} {q : α} (h : am_b1 o f = some q) : ∃ σ, o = some σ ∧ f σ = some q := by
  unfold am_b1 at h
  split at h
  · exact ⟨_, rfl, h⟩
  · cases h
theorem ab_g {α : Type} {c : Prop} [Decidable c] {a : Option α} {q : α} (h : (if c then a else none) = some q) : c ∧ a = some q := by
  split at h
  · rename_i hc; exact ⟨hc, h⟩
  · cases h
theorem ab_i {α : Type} {c : Prop} [Decidable c] {a b : α} {q : α} (h : (if c then a else b) = q) : (c ∧ a = q) ∨ (¬ c ∧ b = q) := by
  split at h
  · rename_i hc; exact Or.inl ⟨hc, h⟩
  · rename_i hc; exact Or.inr ⟨hc, h⟩
theorem ab_r2 {a c : Int} {b d : am_Mem} (h : some (a, b) = some (c, d)) : a = c ∧ b = d := by cases h; exact ⟨rfl, rfl⟩
theorem ab_r1 {b d : am_Mem} (h : some b = some d) : b = d := by cases h; rfl
/-! the four towns, and the rows of rows -/
def tw (t : Nat) : Prop := t = 18 ∨ t = 24 ∨ t = 31 ∨ t = 37
theorem tw_18 : tw 18 := Or.inl rfl
theorem tw_24 : tw 24 := Or.inr (Or.inl rfl)
theorem tw_31 : tw 31 := Or.inr (Or.inr (Or.inl rfl))
theorem tw_37 : tw 37 := Or.inr (Or.inr (Or.inr rfl))
theorem tw_ge {t : Nat} (h : tw t) : 3 ≤ t := by rcases h with rfl | rfl | rfl | rfl <;> decide
theorem tw_sh {t : Nat} (h : tw t) (L : Nat) : (xr_Sh L)[t]? = some (5, 13, [t + 2, t + 3, t + 4, t + 5, t + 6, 0, 0, 0, 0, 0, 0, 0, 0]) := by rcases h with rfl | rfl | rfl | rfl <;> rfl
theorem tw_a1 {t : Nat} (h : tw t) (L : Nat) : (xr_Sh L)[t + 1]? = some (100, 6, []) := by rcases h with rfl | rfl | rfl | rfl <;> rfl
theorem tw_a2 {t : Nat} (h : tw t) (L : Nat) : (xr_Sh L)[t + 2]? = some (100, 6, []) := by rcases h with rfl | rfl | rfl | rfl <;> rfl
theorem tw_a3 {t : Nat} (h : tw t) (L : Nat) : (xr_Sh L)[t + 3]? = some (100, 6, []) := by rcases h with rfl | rfl | rfl | rfl <;> rfl
theorem tw_a4 {t : Nat} (h : tw t) (L : Nat) : (xr_Sh L)[t + 4]? = some (100, 8, []) := by rcases h with rfl | rfl | rfl | rfl <;> rfl
theorem tw_a5 {t : Nat} (h : tw t) (L : Nat) : (xr_Sh L)[t + 5]? = some (100, 8, []) := by rcases h with rfl | rfl | rfl | rfl <;> rfl
theorem el_7 {j : Int} (h : 0 ≤ j ∧ j < 8) (L : Nat) : (xr_Sh L)[8 + j.toNat]? = some (100, 40, []) := by
  have h2 : ∀ k, k < 8 → xr_Sh0[7 + k]? = some (100, 40, []) := by decide
  have e : 8 + j.toNat = (7 + j.toNat) + 1 := by omega
  rw [e]
  exact h2 j.toNat (by omega)
theorem er_7 {j : Int} (h : 0 ≤ j ∧ j < 8) : [9, 10, 11, 12, 13, 14, 15, 16][j.toNat]? = some (8 + j.toNat + 1) := by
  have h2 : ∀ k, k < 8 → [9, 10, 11, 12, 13, 14, 15, 16][k]? = some (8 + k + 1) := by decide
  exact h2 j.toNat (by omega)
theorem el_44 {j : Int} (h : 0 ≤ j ∧ j < 24) (L : Nat) : (xr_Sh L)[45 + j.toNat]? = some (100, 4, []) := by
  have h2 : ∀ k, k < 24 → xr_Sh0[44 + k]? = some (100, 4, []) := by decide
  have e : 45 + j.toNat = (44 + j.toNat) + 1 := by omega
  rw [e]
  exact h2 j.toNat (by omega)
theorem er_44 {j : Int} (h : 0 ≤ j ∧ j < 24) : [46, 47, 48, 49, 50, 51, 52, 53, 54, 55, 56, 57, 58, 59, 60, 61, 62, 63, 64, 65, 66, 67, 68, 69][j.toNat]? = some (45 + j.toNat + 1) := by
  have h2 : ∀ k, k < 24 → [46, 47, 48, 49, 50, 51, 52, 53, 54, 55, 56, 57, 58, 59, 60, 61, 62, 63, 64, 65, 66, 67, 68, 69][k]? = some (45 + k + 1) := by decide
  exact h2 j.toNat (by omega)
theorem el_30 {j : Int} (h : 0 ≤ j ∧ j < 2) : tw (31 + 6 * j.toNat) := by
  rcases (show j.toNat = 0 ∨ j.toNat = 1 by omega) with e | e <;> rw [e]
  · exact tw_31
  · exact tw_37
theorem er_30 {j : Int} (h : 0 ≤ j ∧ j < 2) : [32, 38][j.toNat]? = some (31 + 6 * j.toNat + 1) := by
  rcases (show j.toNat = 0 ∨ j.toNat = 1 by omega) with e | e <;> rw [e] <;> rfl
