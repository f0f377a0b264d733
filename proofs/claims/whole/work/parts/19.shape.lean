/-! THE CELLS after both constructors; a fact a cell (wip/gen/reg.py) -/
def bx_tab : Shp := [(0, 384, []), (13, 2, [3, 0]), (1, 41, []), (2, 0, []), (11, 12, [6, 9, 20, 31, 121, 145, 158, 161, 165, 169, 172, 0]), (8, 5, [7, 8, 0, 0, 0]), (0, 200, []), (0, 6, []), (10, 15, [0, 0, 0, 0, 0, 10, 11, 12, 13, 14, 15, 16, 17, 18, 19]), (0, 8, []), (0, 48, []), (0, 8, []), (0, 8, []), (0, 8, []), (0, 8, []), (0, 64, []), (0, 26, []), (0, 26, []), (0, 26, []), (10, 15, [0, 0, 0, 0, 0, 21, 22, 23, 24, 25, 26, 27, 28, 29, 30]), (0, 8, []), (0, 48, []), (0, 8, []), (0, 8, []), (0, 8, []), (0, 8, []), (0, 64, []), (0, 26, []), (0, 26, []), (0, 26, []), (7, 2, [32, 0]), (2, 8, []), (10, 15, [0, 0, 0, 0, 0, 34, 35, 36, 37, 38, 39, 40, 41, 42, 43]), (0, 8, []), (0, 48, []), (0, 8, []), (0, 8, []), (0, 8, []), (0, 8, []), (0, 64, []), (0, 26, []), (0, 26, []), (0, 26, []), (10, 15, [0, 0, 0, 0, 0, 45, 46, 47, 48, 49, 50, 51, 52, 53, 54]), (0, 8, []), (0, 48, []), (0, 8, []), (0, 8, []), (0, 8, []), (0, 8, []), (0, 64, []), (0, 26, []), (0, 26, []), (0, 26, []), (10, 15, [0, 0, 0, 0, 0, 56, 57, 58, 59, 60, 61, 62, 63, 64, 65]), (0, 8, []), (0, 48, []), (0, 8, []), (0, 8, []), (0, 8, []), (0, 8, []), (0, 64, []), (0, 26, []), (0, 26, []), (0, 26, []), (10, 15, [0, 0, 0, 0, 0, 67, 68, 69, 70, 71, 72, 73, 74, 75, 76]), (0, 8, []), (0, 48, []), (0, 8, []), (0, 8, []), (0, 8, []), (0, 8, []), (0, 64, []), (0, 26, []), (0, 26, []), (0, 26, []), (10, 15, [0, 0, 0, 0, 0, 78, 79, 80, 81, 82, 83, 84, 85, 86, 87]), (0, 8, []), (0, 48, []), (0, 8, []), (0, 8, []), (0, 8, []), (0, 8, []), (0, 64, []), (0, 26, []), (0, 26, []), (0, 26, []), (10, 15, [0, 0, 0, 0, 0, 89, 90, 91, 92, 93, 94, 95, 96, 97, 98]), (0, 8, []), (0, 48, []), (0, 8, []), (0, 8, []), (0, 8, []), (0, 8, []), (0, 64, []), (0, 26, []), (0, 26, []), (0, 26, []), (10, 15, [0, 0, 0, 0, 0, 100, 101, 102, 103, 104, 105, 106, 107, 108, 109]), (0, 8, []), (0, 48, []), (0, 8, []), (0, 8, []), (0, 8, []), (0, 8, []), (0, 64, []), (0, 26, []), (0, 26, []), (0, 26, []), (10, 15, [0, 0, 0, 0, 0, 111, 112, 113, 114, 115, 116, 117, 118, 119, 120]), (0, 8, []), (0, 48, []), (0, 8, []), (0, 8, []), (0, 8, []), (0, 8, []), (0, 64, []), (0, 26, []), (0, 26, []), (0, 26, []), (7, 2, [122, 0]), (2, 2, []), (10, 15, [0, 0, 0, 0, 0, 124, 125, 126, 127, 128, 129, 130, 131, 132, 133]), (0, 8, []), (0, 48, []), (0, 8, []), (0, 8, []), (0, 8, []), (0, 8, []), (0, 64, []), (0, 26, []), (0, 26, []), (0, 26, []), (10, 15, [0, 0, 0, 0, 0, 135, 136, 137, 138, 139, 140, 141, 142, 143, 144]), (0, 8, []), (0, 48, []), (0, 8, []), (0, 8, []), (0, 8, []), (0, 8, []), (0, 64, []), (0, 26, []), (0, 26, []), (0, 26, []), (5, 2, [146, 147]), (0, 8, []), (10, 15, [0, 0, 0, 0, 0, 148, 149, 150, 151, 152, 153, 154, 155, 156, 157]), (0, 8, []), (0, 48, []), (0, 8, []), (0, 8, []), (0, 8, []), (0, 8, []), (0, 64, []), (0, 26, []), (0, 26, []), (0, 26, []), (6, 2, [159, 160]), (0, 8, []), (0, 256, []), (9, 4, [162, 163, 164, 0]), (0, 2048, []), (0, 2048, []), (0, 8, []), (3, 3, [166, 167, 168]), (0, 8, []), (0, 256, []), (0, 256, []), (4, 3, [170, 171, 0]), (0, 8, []), (0, 8, []), (0, 6, []), (12, 25, [0, 174, 0, 175, 176, 177, 178, 179, 180, 181, 0, 0, 0, 182, 0, 183, 184, 185, 186, 187, 0, 188, 189, 0, 0]), (1, 200, []), (0, 12, []), (0, 16, []), (0, 56, []), (0, 8, []), (0, 26, []), (0, 24, []), (0, 2040, []), (0, 6, []), (0, 16, []), (0, 8, []), (0, 8, []), (0, 8, []), (0, 256, []), (0, 2, []), (0, 6, [])]
def bx_tw : List Nat := [8, 19, 32, 43, 54, 65, 76, 87, 98, 109, 122, 133, 146]
def KC (S : Shp) : Prop := ∀ k, 4 ≤ k → k < 172 → S[k]? = bx_tab[k]?
def KM (S : Shp) : Prop := ∀ k, 172 ≤ k → k < 189 → S[k]? = bx_tab[k]?
theorem sh_4 {S : Shp} (hS : KC S) : S[4]? = some (11, 12, [6, 9, 20, 31, 121, 145, 158, 161, 165, 169, 172, 0]) := hS 4 (by decide) (by decide)
theorem sh_5 {S : Shp} (hS : KC S) : S[5]? = some (8, 5, [7, 8, 0, 0, 0]) := hS 5 (by decide) (by decide)
theorem sh_6 {S : Shp} (hS : KC S) : S[6]? = some (0, 200, []) := hS 6 (by decide) (by decide)
theorem sh_7 {S : Shp} (hS : KC S) : S[7]? = some (0, 6, []) := hS 7 (by decide) (by decide)
theorem sh_8 {S : Shp} (hS : KC S) : S[8]? = some (10, 15, [0, 0, 0, 0, 0, 10, 11, 12, 13, 14, 15, 16, 17, 18, 19]) := hS 8 (by decide) (by decide)
theorem sh_9 {S : Shp} (hS : KC S) : S[9]? = some (0, 8, []) := hS 9 (by decide) (by decide)
theorem sh_10 {S : Shp} (hS : KC S) : S[10]? = some (0, 48, []) := hS 10 (by decide) (by decide)
theorem sh_11 {S : Shp} (hS : KC S) : S[11]? = some (0, 8, []) := hS 11 (by decide) (by decide)
theorem sh_12 {S : Shp} (hS : KC S) : S[12]? = some (0, 8, []) := hS 12 (by decide) (by decide)
theorem sh_13 {S : Shp} (hS : KC S) : S[13]? = some (0, 8, []) := hS 13 (by decide) (by decide)
theorem sh_14 {S : Shp} (hS : KC S) : S[14]? = some (0, 8, []) := hS 14 (by decide) (by decide)
theorem sh_15 {S : Shp} (hS : KC S) : S[15]? = some (0, 64, []) := hS 15 (by decide) (by decide)
theorem sh_16 {S : Shp} (hS : KC S) : S[16]? = some (0, 26, []) := hS 16 (by decide) (by decide)
theorem sh_17 {S : Shp} (hS : KC S) : S[17]? = some (0, 26, []) := hS 17 (by decide) (by decide)
theorem sh_18 {S : Shp} (hS : KC S) : S[18]? = some (0, 26, []) := hS 18 (by decide) (by decide)
theorem sh_19 {S : Shp} (hS : KC S) : S[19]? = some (10, 15, [0, 0, 0, 0, 0, 21, 22, 23, 24, 25, 26, 27, 28, 29, 30]) := hS 19 (by decide) (by decide)
theorem sh_20 {S : Shp} (hS : KC S) : S[20]? = some (0, 8, []) := hS 20 (by decide) (by decide)
theorem sh_21 {S : Shp} (hS : KC S) : S[21]? = some (0, 48, []) := hS 21 (by decide) (by decide)
theorem sh_22 {S : Shp} (hS : KC S) : S[22]? = some (0, 8, []) := hS 22 (by decide) (by decide)
theorem sh_23 {S : Shp} (hS : KC S) : S[23]? = some (0, 8, []) := hS 23 (by decide) (by decide)
theorem sh_24 {S : Shp} (hS : KC S) : S[24]? = some (0, 8, []) := hS 24 (by decide) (by decide)
theorem sh_25 {S : Shp} (hS : KC S) : S[25]? = some (0, 8, []) := hS 25 (by decide) (by decide)
theorem sh_26 {S : Shp} (hS : KC S) : S[26]? = some (0, 64, []) := hS 26 (by decide) (by decide)
theorem sh_27 {S : Shp} (hS : KC S) : S[27]? = some (0, 26, []) := hS 27 (by decide) (by decide)
theorem sh_28 {S : Shp} (hS : KC S) : S[28]? = some (0, 26, []) := hS 28 (by decide) (by decide)
theorem sh_29 {S : Shp} (hS : KC S) : S[29]? = some (0, 26, []) := hS 29 (by decide) (by decide)
theorem sh_30 {S : Shp} (hS : KC S) : S[30]? = some (7, 2, [32, 0]) := hS 30 (by decide) (by decide)
theorem sh_31 {S : Shp} (hS : KC S) : S[31]? = some (2, 8, []) := hS 31 (by decide) (by decide)
theorem sh_32 {S : Shp} (hS : KC S) : S[32]? = some (10, 15, [0, 0, 0, 0, 0, 34, 35, 36, 37, 38, 39, 40, 41, 42, 43]) := hS 32 (by decide) (by decide)
theorem sh_33 {S : Shp} (hS : KC S) : S[33]? = some (0, 8, []) := hS 33 (by decide) (by decide)
theorem sh_34 {S : Shp} (hS : KC S) : S[34]? = some (0, 48, []) := hS 34 (by decide) (by decide)
theorem sh_35 {S : Shp} (hS : KC S) : S[35]? = some (0, 8, []) := hS 35 (by decide) (by decide)
theorem sh_36 {S : Shp} (hS : KC S) : S[36]? = some (0, 8, []) := hS 36 (by decide) (by decide)
theorem sh_37 {S : Shp} (hS : KC S) : S[37]? = some (0, 8, []) := hS 37 (by decide) (by decide)
theorem sh_38 {S : Shp} (hS : KC S) : S[38]? = some (0, 8, []) := hS 38 (by decide) (by decide)
theorem sh_39 {S : Shp} (hS : KC S) : S[39]? = some (0, 64, []) := hS 39 (by decide) (by decide)
theorem sh_40 {S : Shp} (hS : KC S) : S[40]? = some (0, 26, []) := hS 40 (by decide) (by decide)
theorem sh_41 {S : Shp} (hS : KC S) : S[41]? = some (0, 26, []) := hS 41 (by decide) (by decide)
theorem sh_42 {S : Shp} (hS : KC S) : S[42]? = some (0, 26, []) := hS 42 (by decide) (by decide)
theorem sh_43 {S : Shp} (hS : KC S) : S[43]? = some (10, 15, [0, 0, 0, 0, 0, 45, 46, 47, 48, 49, 50, 51, 52, 53, 54]) := hS 43 (by decide) (by decide)
theorem sh_44 {S : Shp} (hS : KC S) : S[44]? = some (0, 8, []) := hS 44 (by decide) (by decide)
theorem sh_45 {S : Shp} (hS : KC S) : S[45]? = some (0, 48, []) := hS 45 (by decide) (by decide)
theorem sh_46 {S : Shp} (hS : KC S) : S[46]? = some (0, 8, []) := hS 46 (by decide) (by decide)
theorem sh_47 {S : Shp} (hS : KC S) : S[47]? = some (0, 8, []) := hS 47 (by decide) (by decide)
theorem sh_48 {S : Shp} (hS : KC S) : S[48]? = some (0, 8, []) := hS 48 (by decide) (by decide)
theorem sh_49 {S : Shp} (hS : KC S) : S[49]? = some (0, 8, []) := hS 49 (by decide) (by decide)
theorem sh_50 {S : Shp} (hS : KC S) : S[50]? = some (0, 64, []) := hS 50 (by decide) (by decide)
theorem sh_51 {S : Shp} (hS : KC S) : S[51]? = some (0, 26, []) := hS 51 (by decide) (by decide)
theorem sh_52 {S : Shp} (hS : KC S) : S[52]? = some (0, 26, []) := hS 52 (by decide) (by decide)
theorem sh_53 {S : Shp} (hS : KC S) : S[53]? = some (0, 26, []) := hS 53 (by decide) (by decide)
theorem sh_54 {S : Shp} (hS : KC S) : S[54]? = some (10, 15, [0, 0, 0, 0, 0, 56, 57, 58, 59, 60, 61, 62, 63, 64, 65]) := hS 54 (by decide) (by decide)
theorem sh_55 {S : Shp} (hS : KC S) : S[55]? = some (0, 8, []) := hS 55 (by decide) (by decide)
theorem sh_56 {S : Shp} (hS : KC S) : S[56]? = some (0, 48, []) := hS 56 (by decide) (by decide)
theorem sh_57 {S : Shp} (hS : KC S) : S[57]? = some (0, 8, []) := hS 57 (by decide) (by decide)
theorem sh_58 {S : Shp} (hS : KC S) : S[58]? = some (0, 8, []) := hS 58 (by decide) (by decide)
theorem sh_59 {S : Shp} (hS : KC S) : S[59]? = some (0, 8, []) := hS 59 (by decide) (by decide)
theorem sh_60 {S : Shp} (hS : KC S) : S[60]? = some (0, 8, []) := hS 60 (by decide) (by decide)
theorem sh_61 {S : Shp} (hS : KC S) : S[61]? = some (0, 64, []) := hS 61 (by decide) (by decide)
theorem sh_62 {S : Shp} (hS : KC S) : S[62]? = some (0, 26, []) := hS 62 (by decide) (by decide)
theorem sh_63 {S : Shp} (hS : KC S) : S[63]? = some (0, 26, []) := hS 63 (by decide) (by decide)
theorem sh_64 {S : Shp} (hS : KC S) : S[64]? = some (0, 26, []) := hS 64 (by decide) (by decide)
theorem sh_65 {S : Shp} (hS : KC S) : S[65]? = some (10, 15, [0, 0, 0, 0, 0, 67, 68, 69, 70, 71, 72, 73, 74, 75, 76]) := hS 65 (by decide) (by decide)
theorem sh_66 {S : Shp} (hS : KC S) : S[66]? = some (0, 8, []) := hS 66 (by decide) (by decide)
theorem sh_67 {S : Shp} (hS : KC S) : S[67]? = some (0, 48, []) := hS 67 (by decide) (by decide)
theorem sh_68 {S : Shp} (hS : KC S) : S[68]? = some (0, 8, []) := hS 68 (by decide) (by decide)
theorem sh_69 {S : Shp} (hS : KC S) : S[69]? = some (0, 8, []) := hS 69 (by decide) (by decide)
theorem sh_70 {S : Shp} (hS : KC S) : S[70]? = some (0, 8, []) := hS 70 (by decide) (by decide)
theorem sh_71 {S : Shp} (hS : KC S) : S[71]? = some (0, 8, []) := hS 71 (by decide) (by decide)
theorem sh_72 {S : Shp} (hS : KC S) : S[72]? = some (0, 64, []) := hS 72 (by decide) (by decide)
theorem sh_73 {S : Shp} (hS : KC S) : S[73]? = some (0, 26, []) := hS 73 (by decide) (by decide)
theorem sh_74 {S : Shp} (hS : KC S) : S[74]? = some (0, 26, []) := hS 74 (by decide) (by decide)
theorem sh_75 {S : Shp} (hS : KC S) : S[75]? = some (0, 26, []) := hS 75 (by decide) (by decide)
theorem sh_76 {S : Shp} (hS : KC S) : S[76]? = some (10, 15, [0, 0, 0, 0, 0, 78, 79, 80, 81, 82, 83, 84, 85, 86, 87]) := hS 76 (by decide) (by decide)
theorem sh_77 {S : Shp} (hS : KC S) : S[77]? = some (0, 8, []) := hS 77 (by decide) (by decide)
theorem sh_78 {S : Shp} (hS : KC S) : S[78]? = some (0, 48, []) := hS 78 (by decide) (by decide)
theorem sh_79 {S : Shp} (hS : KC S) : S[79]? = some (0, 8, []) := hS 79 (by decide) (by decide)
theorem sh_80 {S : Shp} (hS : KC S) : S[80]? = some (0, 8, []) := hS 80 (by decide) (by decide)
theorem sh_81 {S : Shp} (hS : KC S) : S[81]? = some (0, 8, []) := hS 81 (by decide) (by decide)
theorem sh_82 {S : Shp} (hS : KC S) : S[82]? = some (0, 8, []) := hS 82 (by decide) (by decide)
theorem sh_83 {S : Shp} (hS : KC S) : S[83]? = some (0, 64, []) := hS 83 (by decide) (by decide)
theorem sh_84 {S : Shp} (hS : KC S) : S[84]? = some (0, 26, []) := hS 84 (by decide) (by decide)
theorem sh_85 {S : Shp} (hS : KC S) : S[85]? = some (0, 26, []) := hS 85 (by decide) (by decide)
theorem sh_86 {S : Shp} (hS : KC S) : S[86]? = some (0, 26, []) := hS 86 (by decide) (by decide)
theorem sh_87 {S : Shp} (hS : KC S) : S[87]? = some (10, 15, [0, 0, 0, 0, 0, 89, 90, 91, 92, 93, 94, 95, 96, 97, 98]) := hS 87 (by decide) (by decide)
theorem sh_88 {S : Shp} (hS : KC S) : S[88]? = some (0, 8, []) := hS 88 (by decide) (by decide)
theorem sh_89 {S : Shp} (hS : KC S) : S[89]? = some (0, 48, []) := hS 89 (by decide) (by decide)
theorem sh_90 {S : Shp} (hS : KC S) : S[90]? = some (0, 8, []) := hS 90 (by decide) (by decide)
theorem sh_91 {S : Shp} (hS : KC S) : S[91]? = some (0, 8, []) := hS 91 (by decide) (by decide)
theorem sh_92 {S : Shp} (hS : KC S) : S[92]? = some (0, 8, []) := hS 92 (by decide) (by decide)
theorem sh_93 {S : Shp} (hS : KC S) : S[93]? = some (0, 8, []) := hS 93 (by decide) (by decide)
theorem sh_94 {S : Shp} (hS : KC S) : S[94]? = some (0, 64, []) := hS 94 (by decide) (by decide)
theorem sh_95 {S : Shp} (hS : KC S) : S[95]? = some (0, 26, []) := hS 95 (by decide) (by decide)
theorem sh_96 {S : Shp} (hS : KC S) : S[96]? = some (0, 26, []) := hS 96 (by decide) (by decide)
theorem sh_97 {S : Shp} (hS : KC S) : S[97]? = some (0, 26, []) := hS 97 (by decide) (by decide)
theorem sh_98 {S : Shp} (hS : KC S) : S[98]? = some (10, 15, [0, 0, 0, 0, 0, 100, 101, 102, 103, 104, 105, 106, 107, 108, 109]) := hS 98 (by decide) (by decide)
theorem sh_99 {S : Shp} (hS : KC S) : S[99]? = some (0, 8, []) := hS 99 (by decide) (by decide)
theorem sh_100 {S : Shp} (hS : KC S) : S[100]? = some (0, 48, []) := hS 100 (by decide) (by decide)
theorem sh_101 {S : Shp} (hS : KC S) : S[101]? = some (0, 8, []) := hS 101 (by decide) (by decide)
theorem sh_102 {S : Shp} (hS : KC S) : S[102]? = some (0, 8, []) := hS 102 (by decide) (by decide)
theorem sh_103 {S : Shp} (hS : KC S) : S[103]? = some (0, 8, []) := hS 103 (by decide) (by decide)
theorem sh_104 {S : Shp} (hS : KC S) : S[104]? = some (0, 8, []) := hS 104 (by decide) (by decide)
theorem sh_105 {S : Shp} (hS : KC S) : S[105]? = some (0, 64, []) := hS 105 (by decide) (by decide)
theorem sh_106 {S : Shp} (hS : KC S) : S[106]? = some (0, 26, []) := hS 106 (by decide) (by decide)
theorem sh_107 {S : Shp} (hS : KC S) : S[107]? = some (0, 26, []) := hS 107 (by decide) (by decide)
theorem sh_108 {S : Shp} (hS : KC S) : S[108]? = some (0, 26, []) := hS 108 (by decide) (by decide)
theorem sh_109 {S : Shp} (hS : KC S) : S[109]? = some (10, 15, [0, 0, 0, 0, 0, 111, 112, 113, 114, 115, 116, 117, 118, 119, 120]) := hS 109 (by decide) (by decide)
theorem sh_110 {S : Shp} (hS : KC S) : S[110]? = some (0, 8, []) := hS 110 (by decide) (by decide)
theorem sh_111 {S : Shp} (hS : KC S) : S[111]? = some (0, 48, []) := hS 111 (by decide) (by decide)
theorem sh_112 {S : Shp} (hS : KC S) : S[112]? = some (0, 8, []) := hS 112 (by decide) (by decide)
theorem sh_113 {S : Shp} (hS : KC S) : S[113]? = some (0, 8, []) := hS 113 (by decide) (by decide)
theorem sh_114 {S : Shp} (hS : KC S) : S[114]? = some (0, 8, []) := hS 114 (by decide) (by decide)
theorem sh_115 {S : Shp} (hS : KC S) : S[115]? = some (0, 8, []) := hS 115 (by decide) (by decide)
theorem sh_116 {S : Shp} (hS : KC S) : S[116]? = some (0, 64, []) := hS 116 (by decide) (by decide)
theorem sh_117 {S : Shp} (hS : KC S) : S[117]? = some (0, 26, []) := hS 117 (by decide) (by decide)
theorem sh_118 {S : Shp} (hS : KC S) : S[118]? = some (0, 26, []) := hS 118 (by decide) (by decide)
theorem sh_119 {S : Shp} (hS : KC S) : S[119]? = some (0, 26, []) := hS 119 (by decide) (by decide)
theorem sh_120 {S : Shp} (hS : KC S) : S[120]? = some (7, 2, [122, 0]) := hS 120 (by decide) (by decide)
theorem sh_121 {S : Shp} (hS : KC S) : S[121]? = some (2, 2, []) := hS 121 (by decide) (by decide)
theorem sh_122 {S : Shp} (hS : KC S) : S[122]? = some (10, 15, [0, 0, 0, 0, 0, 124, 125, 126, 127, 128, 129, 130, 131, 132, 133]) := hS 122 (by decide) (by decide)
theorem sh_123 {S : Shp} (hS : KC S) : S[123]? = some (0, 8, []) := hS 123 (by decide) (by decide)
theorem sh_124 {S : Shp} (hS : KC S) : S[124]? = some (0, 48, []) := hS 124 (by decide) (by decide)
theorem sh_125 {S : Shp} (hS : KC S) : S[125]? = some (0, 8, []) := hS 125 (by decide) (by decide)
theorem sh_126 {S : Shp} (hS : KC S) : S[126]? = some (0, 8, []) := hS 126 (by decide) (by decide)
theorem sh_127 {S : Shp} (hS : KC S) : S[127]? = some (0, 8, []) := hS 127 (by decide) (by decide)
theorem sh_128 {S : Shp} (hS : KC S) : S[128]? = some (0, 8, []) := hS 128 (by decide) (by decide)
theorem sh_129 {S : Shp} (hS : KC S) : S[129]? = some (0, 64, []) := hS 129 (by decide) (by decide)
theorem sh_130 {S : Shp} (hS : KC S) : S[130]? = some (0, 26, []) := hS 130 (by decide) (by decide)
theorem sh_131 {S : Shp} (hS : KC S) : S[131]? = some (0, 26, []) := hS 131 (by decide) (by decide)
theorem sh_132 {S : Shp} (hS : KC S) : S[132]? = some (0, 26, []) := hS 132 (by decide) (by decide)
theorem sh_133 {S : Shp} (hS : KC S) : S[133]? = some (10, 15, [0, 0, 0, 0, 0, 135, 136, 137, 138, 139, 140, 141, 142, 143, 144]) := hS 133 (by decide) (by decide)
theorem sh_134 {S : Shp} (hS : KC S) : S[134]? = some (0, 8, []) := hS 134 (by decide) (by decide)
theorem sh_135 {S : Shp} (hS : KC S) : S[135]? = some (0, 48, []) := hS 135 (by decide) (by decide)
theorem sh_136 {S : Shp} (hS : KC S) : S[136]? = some (0, 8, []) := hS 136 (by decide) (by decide)
theorem sh_137 {S : Shp} (hS : KC S) : S[137]? = some (0, 8, []) := hS 137 (by decide) (by decide)
theorem sh_138 {S : Shp} (hS : KC S) : S[138]? = some (0, 8, []) := hS 138 (by decide) (by decide)
theorem sh_139 {S : Shp} (hS : KC S) : S[139]? = some (0, 8, []) := hS 139 (by decide) (by decide)
theorem sh_140 {S : Shp} (hS : KC S) : S[140]? = some (0, 64, []) := hS 140 (by decide) (by decide)
theorem sh_141 {S : Shp} (hS : KC S) : S[141]? = some (0, 26, []) := hS 141 (by decide) (by decide)
theorem sh_142 {S : Shp} (hS : KC S) : S[142]? = some (0, 26, []) := hS 142 (by decide) (by decide)
theorem sh_143 {S : Shp} (hS : KC S) : S[143]? = some (0, 26, []) := hS 143 (by decide) (by decide)
theorem sh_144 {S : Shp} (hS : KC S) : S[144]? = some (5, 2, [146, 147]) := hS 144 (by decide) (by decide)
theorem sh_145 {S : Shp} (hS : KC S) : S[145]? = some (0, 8, []) := hS 145 (by decide) (by decide)
theorem sh_146 {S : Shp} (hS : KC S) : S[146]? = some (10, 15, [0, 0, 0, 0, 0, 148, 149, 150, 151, 152, 153, 154, 155, 156, 157]) := hS 146 (by decide) (by decide)
theorem sh_147 {S : Shp} (hS : KC S) : S[147]? = some (0, 8, []) := hS 147 (by decide) (by decide)
theorem sh_148 {S : Shp} (hS : KC S) : S[148]? = some (0, 48, []) := hS 148 (by decide) (by decide)
theorem sh_149 {S : Shp} (hS : KC S) : S[149]? = some (0, 8, []) := hS 149 (by decide) (by decide)
theorem sh_150 {S : Shp} (hS : KC S) : S[150]? = some (0, 8, []) := hS 150 (by decide) (by decide)
theorem sh_151 {S : Shp} (hS : KC S) : S[151]? = some (0, 8, []) := hS 151 (by decide) (by decide)
theorem sh_152 {S : Shp} (hS : KC S) : S[152]? = some (0, 8, []) := hS 152 (by decide) (by decide)
theorem sh_153 {S : Shp} (hS : KC S) : S[153]? = some (0, 64, []) := hS 153 (by decide) (by decide)
theorem sh_154 {S : Shp} (hS : KC S) : S[154]? = some (0, 26, []) := hS 154 (by decide) (by decide)
theorem sh_155 {S : Shp} (hS : KC S) : S[155]? = some (0, 26, []) := hS 155 (by decide) (by decide)
theorem sh_156 {S : Shp} (hS : KC S) : S[156]? = some (0, 26, []) := hS 156 (by decide) (by decide)
theorem sh_157 {S : Shp} (hS : KC S) : S[157]? = some (6, 2, [159, 160]) := hS 157 (by decide) (by decide)
theorem sh_158 {S : Shp} (hS : KC S) : S[158]? = some (0, 8, []) := hS 158 (by decide) (by decide)
theorem sh_159 {S : Shp} (hS : KC S) : S[159]? = some (0, 256, []) := hS 159 (by decide) (by decide)
theorem sh_160 {S : Shp} (hS : KC S) : S[160]? = some (9, 4, [162, 163, 164, 0]) := hS 160 (by decide) (by decide)
theorem sh_161 {S : Shp} (hS : KC S) : S[161]? = some (0, 2048, []) := hS 161 (by decide) (by decide)
theorem sh_162 {S : Shp} (hS : KC S) : S[162]? = some (0, 2048, []) := hS 162 (by decide) (by decide)
theorem sh_163 {S : Shp} (hS : KC S) : S[163]? = some (0, 8, []) := hS 163 (by decide) (by decide)
theorem sh_164 {S : Shp} (hS : KC S) : S[164]? = some (3, 3, [166, 167, 168]) := hS 164 (by decide) (by decide)
theorem sh_165 {S : Shp} (hS : KC S) : S[165]? = some (0, 8, []) := hS 165 (by decide) (by decide)
theorem sh_166 {S : Shp} (hS : KC S) : S[166]? = some (0, 256, []) := hS 166 (by decide) (by decide)
theorem sh_167 {S : Shp} (hS : KC S) : S[167]? = some (0, 256, []) := hS 167 (by decide) (by decide)
theorem sh_168 {S : Shp} (hS : KC S) : S[168]? = some (4, 3, [170, 171, 0]) := hS 168 (by decide) (by decide)
theorem sh_169 {S : Shp} (hS : KC S) : S[169]? = some (0, 8, []) := hS 169 (by decide) (by decide)
theorem sh_170 {S : Shp} (hS : KC S) : S[170]? = some (0, 8, []) := hS 170 (by decide) (by decide)
theorem sh_171 {S : Shp} (hS : KC S) : S[171]? = some (0, 6, []) := hS 171 (by decide) (by decide)
theorem sh_172 {S : Shp} (hS : KM S) : S[172]? = some (12, 25, [0, 174, 0, 175, 176, 177, 178, 179, 180, 181, 0, 0, 0, 182, 0, 183, 184, 185, 186, 187, 0, 188, 189, 0, 0]) := hS 172 (by decide) (by decide)
theorem sh_173 {S : Shp} (hS : KM S) : S[173]? = some (1, 200, []) := hS 173 (by decide) (by decide)
theorem sh_174 {S : Shp} (hS : KM S) : S[174]? = some (0, 12, []) := hS 174 (by decide) (by decide)
theorem sh_175 {S : Shp} (hS : KM S) : S[175]? = some (0, 16, []) := hS 175 (by decide) (by decide)
theorem sh_176 {S : Shp} (hS : KM S) : S[176]? = some (0, 56, []) := hS 176 (by decide) (by decide)
theorem sh_177 {S : Shp} (hS : KM S) : S[177]? = some (0, 8, []) := hS 177 (by decide) (by decide)
theorem sh_178 {S : Shp} (hS : KM S) : S[178]? = some (0, 26, []) := hS 178 (by decide) (by decide)
theorem sh_179 {S : Shp} (hS : KM S) : S[179]? = some (0, 24, []) := hS 179 (by decide) (by decide)
theorem sh_180 {S : Shp} (hS : KM S) : S[180]? = some (0, 2040, []) := hS 180 (by decide) (by decide)
theorem sh_181 {S : Shp} (hS : KM S) : S[181]? = some (0, 6, []) := hS 181 (by decide) (by decide)
theorem sh_182 {S : Shp} (hS : KM S) : S[182]? = some (0, 16, []) := hS 182 (by decide) (by decide)
theorem sh_183 {S : Shp} (hS : KM S) : S[183]? = some (0, 8, []) := hS 183 (by decide) (by decide)
theorem sh_184 {S : Shp} (hS : KM S) : S[184]? = some (0, 8, []) := hS 184 (by decide) (by decide)
theorem sh_185 {S : Shp} (hS : KM S) : S[185]? = some (0, 8, []) := hS 185 (by decide) (by decide)
theorem sh_186 {S : Shp} (hS : KM S) : S[186]? = some (0, 256, []) := hS 186 (by decide) (by decide)
theorem sh_187 {S : Shp} (hS : KM S) : S[187]? = some (0, 2, []) := hS 187 (by decide) (by decide)
theorem sh_188 {S : Shp} (hS : KM S) : S[188]? = some (0, 6, []) := hS 188 (by decide) (by decide)
theorem tw_4 : ∀ t, t ∈ bx_tw → 4 ≤ t ∧ t + 10 < 172 := by decide
theorem tz_0 : ∀ t, t ∈ bx_tw → bx_tab[t]? = some (10, 15, [0, 0, 0, 0, 0, t + 2, t + 3, t + 4, t + 5, t + 6, t + 7, t + 8, t + 9, t + 10, t + 11]) := by decide
theorem tw_o {S : Shp} {t : Nat} (hS : KC S) (ht : t ∈ bx_tw) : S[t]? = some (10, 15, [0, 0, 0, 0, 0, t + 2, t + 3, t + 4, t + 5, t + 6, t + 7, t + 8, t + 9, t + 10, t + 11]) := by
  have h := tw_4 t ht
  rw [hS _ (by omega) (by omega)]
  exact tz_0 t ht
theorem tz_1 : ∀ t, t ∈ bx_tw → bx_tab[t + 1]? = some (0, 8, []) := by decide
theorem tw_a1 {S : Shp} {t : Nat} (hS : KC S) (ht : t ∈ bx_tw) : S[t + 1]? = some (0, 8, []) := by
  have h := tw_4 t ht
  rw [hS _ (by omega) (by omega)]
  exact tz_1 t ht
theorem tz_2 : ∀ t, t ∈ bx_tw → bx_tab[t + 2]? = some (0, 48, []) := by decide
theorem tw_a2 {S : Shp} {t : Nat} (hS : KC S) (ht : t ∈ bx_tw) : S[t + 2]? = some (0, 48, []) := by
  have h := tw_4 t ht
  rw [hS _ (by omega) (by omega)]
  exact tz_2 t ht
theorem tz_3 : ∀ t, t ∈ bx_tw → bx_tab[t + 3]? = some (0, 8, []) := by decide
theorem tw_a3 {S : Shp} {t : Nat} (hS : KC S) (ht : t ∈ bx_tw) : S[t + 3]? = some (0, 8, []) := by
  have h := tw_4 t ht
  rw [hS _ (by omega) (by omega)]
  exact tz_3 t ht
theorem tz_4 : ∀ t, t ∈ bx_tw → bx_tab[t + 4]? = some (0, 8, []) := by decide
theorem tw_a4 {S : Shp} {t : Nat} (hS : KC S) (ht : t ∈ bx_tw) : S[t + 4]? = some (0, 8, []) := by
  have h := tw_4 t ht
  rw [hS _ (by omega) (by omega)]
  exact tz_4 t ht
theorem tz_5 : ∀ t, t ∈ bx_tw → bx_tab[t + 5]? = some (0, 8, []) := by decide
theorem tw_a5 {S : Shp} {t : Nat} (hS : KC S) (ht : t ∈ bx_tw) : S[t + 5]? = some (0, 8, []) := by
  have h := tw_4 t ht
  rw [hS _ (by omega) (by omega)]
  exact tz_5 t ht
theorem tz_6 : ∀ t, t ∈ bx_tw → bx_tab[t + 6]? = some (0, 8, []) := by decide
theorem tw_a6 {S : Shp} {t : Nat} (hS : KC S) (ht : t ∈ bx_tw) : S[t + 6]? = some (0, 8, []) := by
  have h := tw_4 t ht
  rw [hS _ (by omega) (by omega)]
  exact tz_6 t ht
theorem tz_7 : ∀ t, t ∈ bx_tw → bx_tab[t + 7]? = some (0, 64, []) := by decide
theorem tw_a7 {S : Shp} {t : Nat} (hS : KC S) (ht : t ∈ bx_tw) : S[t + 7]? = some (0, 64, []) := by
  have h := tw_4 t ht
  rw [hS _ (by omega) (by omega)]
  exact tz_7 t ht
theorem tz_8 : ∀ t, t ∈ bx_tw → bx_tab[t + 8]? = some (0, 26, []) := by decide
theorem tw_a8 {S : Shp} {t : Nat} (hS : KC S) (ht : t ∈ bx_tw) : S[t + 8]? = some (0, 26, []) := by
  have h := tw_4 t ht
  rw [hS _ (by omega) (by omega)]
  exact tz_8 t ht
theorem tz_9 : ∀ t, t ∈ bx_tw → bx_tab[t + 9]? = some (0, 26, []) := by decide
theorem tw_a9 {S : Shp} {t : Nat} (hS : KC S) (ht : t ∈ bx_tw) : S[t + 9]? = some (0, 26, []) := by
  have h := tw_4 t ht
  rw [hS _ (by omega) (by omega)]
  exact tz_9 t ht
theorem tz_10 : ∀ t, t ∈ bx_tw → bx_tab[t + 10]? = some (0, 26, []) := by decide
theorem tw_a10 {S : Shp} {t : Nat} (hS : KC S) (ht : t ∈ bx_tw) : S[t + 10]? = some (0, 26, []) := by
  have h := tw_4 t ht
  rw [hS _ (by omega) (by omega)]
  exact tz_10 t ht
section RowsR
variable {m i : Nat} {L : Lcl} {st : List AV} {S : Shp} {M : Mem} {Q : Res → Prop} {code : List Ins} {nL : Nat} {a : Nat} {c : Int} {l : List Nat}
theorem e_ldR {q : Nat} (hP : PR m = (code, nL)) (hi : code[i]? = some (1, a, 1, c, l)) (hv : L[a]? = some (some (.inr (.inr q)))) (hq : ¬ (q = 0 ∨ q = 4)) (h : En m (i + 1) L (.inr (.inr q) :: st) S M Q) : En m i L st S M Q := e_ld hP hi (by rw [hv]; exact if_neg hq) h
theorem e_stR {q : Nat} {L' : Lcl} (hP : PR m = (code, nL)) (hi : code[i]? = some (2, a, 1, c, l)) (hq : ¬ (q = 0 ∨ q = 4)) (ha : a < L.length) (hL : bi_st1 L a (.inr (.inr q)) = L') (h : En m (i + 1) L' st S M Q) : En m i L (.inr (.inr q) :: st) S M Q := e_st hP hi (by simp only [bi_store]; rw [if_neg hq, if_pos ha, hL]) h
end RowsR
theorem nz_q {q : Nat} (h : 4 ≤ q) : ¬ (q + 1 = 0 ∨ q + 1 = 4) := by omega
theorem mm_4 {u : Nat} (h : u = 30 ∨ u = 120) (k : Nat) : 4 ≤ u + k := by omega
theorem tw_p {t : Nat} (h : t ∈ bx_tw) (k : Nat) : 4 ≤ t + k := Nat.le_trans (tw_4 t h).1 (Nat.le_add_right t k)
theorem mm_o : ∀ u, u = 30 ∨ u = 120 → ∀ {S : Shp}, KC S → S[u]? = some (7, 2, [u + 2, 0]) := by
  rintro u (rfl | rfl) S hS
  · exact sh_30 hS
  · exact sh_120 hS
def mm_n (u : Nat) : Nat := if u = 30 then 8 else 2
theorem mm_a : ∀ u, u = 30 ∨ u = 120 → ∀ {S : Shp}, KC S → S[u + 1]? = some (2, mm_n u, []) := by
  rintro u (rfl | rfl) S hS
  · exact sh_31 hS
  · exact sh_121 hS
