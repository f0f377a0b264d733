/-! EVERY METHOD IS AS THE TABLES HAVE IT; the claim -/
theorem ok_of {m : Nat} {hs : List (List Nat)} {l : List Ins} (e : (PR m).1 = l) (h : bi_okM m hs 0 l = true) : bw_ok m := fun i x hx => ⟨hs.getD i [], by
  rw [e] at hx
  have := bi_okM_get l 0 i x h hx
  rw [Nat.zero_add] at this
  exact this⟩
theorem ok_b0 : ∀ r, r < 19 → bw_ok (0 + r) := by
  intro r h
  match r, h with
  | 0, _ => exact ok_of (m := 0) rfl bo_0
  | 1, _ => exact ok_of (m := 1) rfl bo_1
  | 2, _ => exact ok_of (m := 2) rfl bo_2
  | 3, _ => exact ok_of (m := 3) rfl bo_3
  | 4, _ => exact ok_of (m := 4) rfl bo_4
  | 5, _ => exact ok_of (m := 5) rfl bo_5
  | 6, _ => exact ok_of (m := 6) rfl bo_6
  | 7, _ => exact ok_of (m := 7) rfl bo_7
  | 8, _ => exact ok_of (m := 8) rfl bo_8
  | 9, _ => exact ok_of (m := 9) rfl bo_9
  | 10, _ => exact ok_of (m := 10) rfl bo_10
  | 11, _ => exact ok_of (m := 11) rfl bo_11
  | 12, _ => exact ok_of (m := 12) rfl bo_12
  | 13, _ => exact ok_of (m := 13) rfl bo_13
  | 14, _ => exact ok_of (m := 14) rfl bo_14
  | 15, _ => exact ok_of (m := 15) rfl bo_15
  | 16, _ => exact ok_of (m := 16) rfl bo_16
  | 17, _ => exact ok_of (m := 17) rfl bo_17
  | 18, _ => exact ok_of (m := 18) rfl bo_18
  | r + 19, h => omega
theorem ok_b19 : ∀ r, r < 19 → bw_ok (19 + r) := by
  intro r h
  match r, h with
  | 0, _ => exact ok_of (m := 19) rfl bo_19
  | 1, _ => exact ok_of (m := 20) rfl bo_20
  | 2, _ => exact ok_of (m := 21) rfl bo_21
  | 3, _ => exact ok_of (m := 22) rfl bo_22
  | 4, _ => exact ok_of (m := 23) rfl bo_23
  | 5, _ => exact ok_of (m := 24) rfl bo_24
  | 6, _ => exact ok_of (m := 25) rfl bo_25
  | 7, _ => exact ok_of (m := 26) rfl bo_26
  | 8, _ => exact ok_of (m := 27) rfl bo_27
  | 9, _ => exact ok_of (m := 28) rfl bo_28
  | 10, _ => exact ok_of (m := 29) rfl bo_29
  | 11, _ => exact ok_of (m := 30) rfl bo_30
  | 12, _ => exact ok_of (m := 31) rfl bo_31
  | 13, _ => exact ok_of (m := 32) rfl bo_32
  | 14, _ => exact ok_of (m := 33) rfl bo_33
  | 15, _ => exact ok_of (m := 34) rfl bo_34
  | 16, _ => exact ok_of (m := 35) rfl bo_35
  | 17, _ => exact ok_of (m := 36) rfl bo_36
  | 18, _ => exact ok_of (m := 37) rfl bo_37
  | r + 19, h => omega
theorem ok_b38 : ∀ r, r < 19 → bw_ok (38 + r) := by
  intro r h
  match r, h with
  | 0, _ => exact ok_of (m := 38) rfl bo_38
  | 1, _ => exact ok_of (m := 39) rfl bo_39
  | 2, _ => exact ok_of (m := 40) rfl bo_40
  | 3, _ => exact ok_of (m := 41) rfl bo_41
  | 4, _ => exact ok_of (m := 42) rfl bo_42
  | 5, _ => exact ok_of (m := 43) rfl bo_43
  | 6, _ => exact ok_of (m := 44) rfl bo_44
  | 7, _ => exact ok_of (m := 45) rfl bo_45
  | 8, _ => exact ok_of (m := 46) rfl bo_46
  | 9, _ => exact ok_of (m := 47) rfl bo_47
  | 10, _ => exact ok_of (m := 48) rfl bo_48
  | 11, _ => exact ok_of (m := 49) rfl bo_49
  | 12, _ => exact ok_of (m := 50) rfl bo_50
  | 13, _ => exact ok_of (m := 51) rfl bo_51
  | 14, _ => exact ok_of (m := 52) rfl bo_52
  | 15, _ => exact ok_of (m := 53) rfl bo_53
  | 16, _ => exact ok_of (m := 54) rfl bo_54
  | 17, _ => exact ok_of (m := 55) rfl bo_55
  | 18, _ => exact ok_of (m := 56) rfl bo_56
  | r + 19, h => omega
theorem ok_b57 : ∀ r, r < 19 → bw_ok (57 + r) := by
  intro r h
  match r, h with
  | 0, _ => exact ok_of (m := 57) rfl bo_57
  | 1, _ => exact ok_of (m := 58) rfl bo_58
  | 2, _ => exact ok_of (m := 59) rfl bo_59
  | 3, _ => exact ok_of (m := 60) rfl bo_60
  | 4, _ => exact ok_of (m := 61) rfl bo_61
  | 5, _ => exact ok_of (m := 62) rfl bo_62
  | 6, _ => exact ok_of (m := 63) rfl bo_63
  | 7, _ => exact ok_of (m := 64) rfl bo_64
  | 8, _ => exact ok_of (m := 65) rfl bo_65
  | 9, _ => exact ok_of (m := 66) rfl bo_66
  | 10, _ => exact ok_of (m := 67) rfl bo_67
  | 11, _ => exact ok_of (m := 68) rfl bo_68
  | 12, _ => exact ok_of (m := 69) rfl bo_69
  | 13, _ => exact ok_of (m := 70) rfl bo_70
  | 14, _ => exact ok_of (m := 71) rfl bo_71
  | 15, _ => exact ok_of (m := 72) rfl bo_72
  | 16, _ => exact ok_of (m := 73) rfl bo_73
  | 17, _ => exact ok_of (m := 74) rfl bo_74
  | 18, _ => exact ok_of (m := 75) rfl bo_75
  | r + 19, h => omega
theorem ok_b76 : ∀ r, r < 19 → bw_ok (76 + r) := by
  intro r h
  match r, h with
  | 0, _ => exact ok_of (m := 76) rfl bo_76
  | 1, _ => exact ok_of (m := 77) rfl bo_77
  | 2, _ => exact ok_of (m := 78) rfl bo_78
  | 3, _ => exact ok_of (m := 79) rfl bo_79
  | 4, _ => exact ok_of (m := 80) rfl bo_80
  | 5, _ => exact ok_of (m := 81) rfl bo_81
  | 6, _ => exact ok_of (m := 82) rfl bo_82
  | 7, _ => exact ok_of (m := 83) rfl bo_83
  | 8, _ => exact ok_of (m := 84) rfl bo_84
  | 9, _ => exact ok_of (m := 85) rfl bo_85
  | 10, _ => exact ok_of (m := 86) rfl bo_86
  | 11, _ => exact ok_of (m := 87) rfl bo_87
  | 12, _ => exact ok_of (m := 88) rfl bo_88
  | 13, _ => exact ok_of (m := 89) rfl bo_89
  | 14, _ => exact ok_of (m := 90) rfl bo_90
  | 15, _ => exact ok_of (m := 91) rfl bo_91
  | 16, _ => exact ok_of (m := 92) rfl bo_92
  | 17, _ => exact ok_of (m := 93) rfl bo_93
  | 18, _ => exact ok_of (m := 94) rfl bo_94
  | r + 19, h => omega
theorem ok_b95 : ∀ r, r < 19 → bw_ok (95 + r) := by
  intro r h
  match r, h with
  | 0, _ => exact ok_of (m := 95) rfl bo_95
  | 1, _ => exact ok_of (m := 96) rfl bo_96
  | 2, _ => exact ok_of (m := 97) rfl bo_97
  | 3, _ => exact ok_of (m := 98) rfl bo_98
  | 4, _ => exact ok_of (m := 99) rfl bo_99
  | 5, _ => exact ok_of (m := 100) rfl bo_100
  | 6, _ => exact ok_of (m := 101) rfl bo_101
  | 7, _ => exact ok_of (m := 102) rfl bo_102
  | 8, _ => exact ok_of (m := 103) rfl bo_103
  | 9, _ => exact ok_of (m := 104) rfl bo_104
  | 10, _ => exact ok_of (m := 105) rfl bo_105
  | 11, _ => exact ok_of (m := 106) rfl bo_106
  | 12, _ => exact ok_of (m := 107) rfl bo_107
  | 13, _ => exact ok_of (m := 108) rfl bo_108
  | 14, _ => exact ok_of (m := 109) rfl bo_109
  | 15, _ => exact ok_of (m := 110) rfl bo_110
  | 16, _ => exact ok_of (m := 111) rfl bo_111
  | 17, _ => exact ok_of (m := 112) rfl bo_112
  | 18, _ => exact ok_of (m := 113) rfl bo_113
  | r + 19, h => omega
theorem ok_b114 : ∀ r, r < 19 → bw_ok (114 + r) := by
  intro r h
  match r, h with
  | 0, _ => exact ok_of (m := 114) rfl bo_114
  | 1, _ => exact ok_of (m := 115) rfl bo_115
  | 2, _ => exact ok_of (m := 116) rfl bo_116
  | 3, _ => exact ok_of (m := 117) rfl bo_117
  | 4, _ => exact ok_of (m := 118) rfl bo_118
  | 5, _ => exact ok_of (m := 119) rfl bo_119
  | 6, _ => exact ok_of (m := 120) rfl bo_120
  | 7, _ => exact ok_of (m := 121) rfl bo_121
  | 8, _ => exact ok_of (m := 122) rfl bo_122
  | 9, _ => exact ok_of (m := 123) rfl bo_123
  | 10, _ => exact ok_of (m := 124) rfl bo_124
  | 11, _ => exact ok_of (m := 125) rfl bo_125
  | 12, _ => exact ok_of (m := 126) rfl bo_126
  | 13, _ => exact ok_of (m := 127) rfl bo_127
  | 14, _ => exact ok_of (m := 128) rfl bo_128
  | 15, _ => exact ok_of (m := 129) rfl bo_129
  | 16, _ => exact ok_of (m := 130) rfl bo_130
  | 17, _ => exact ok_of (m := 131) rfl bo_131
  | 18, _ => exact ok_of (m := 132) rfl bo_132
  | r + 19, h => omega
theorem ok_b133 : ∀ r, r < 19 → bw_ok (133 + r) := by
  intro r h
  match r, h with
  | 0, _ => exact ok_of (m := 133) rfl bo_133
  | 1, _ => exact ok_of (m := 134) rfl bo_134
  | 2, _ => exact ok_of (m := 135) rfl bo_135
  | 3, _ => exact ok_of (m := 136) rfl bo_136
  | 4, _ => exact ok_of (m := 137) rfl bo_137
  | 5, _ => exact ok_of (m := 138) rfl bo_138
  | 6, _ => exact ok_of (m := 139) rfl bo_139
  | 7, _ => exact ok_of (m := 140) rfl bo_140
  | 8, _ => exact ok_of (m := 141) rfl bo_141
  | 9, _ => exact ok_of (m := 142) rfl bo_142
  | 10, _ => exact ok_of (m := 143) rfl bo_143
  | 11, _ => exact ok_of (m := 144) rfl bo_144
  | 12, _ => exact ok_of (m := 145) rfl bo_145
  | 13, _ => exact ok_of (m := 146) rfl bo_146
  | 14, _ => exact ok_of (m := 147) rfl bo_147
  | 15, _ => exact ok_of (m := 148) rfl bo_148
  | 16, _ => exact ok_of (m := 149) rfl bo_149
  | 17, _ => exact ok_of (m := 150) rfl bo_150
  | 18, _ => exact ok_of (m := 151) rfl bo_151
  | r + 19, h => omega
theorem ok_b152 : ∀ r, r < 19 → bw_ok (152 + r) := by
  intro r h
  match r, h with
  | 0, _ => exact ok_of (m := 152) rfl bo_152
  | 1, _ => exact ok_of (m := 153) rfl bo_153
  | 2, _ => exact ok_of (m := 154) rfl bo_154
  | 3, _ => exact ok_of (m := 155) rfl bo_155
  | 4, _ => exact ok_of (m := 156) rfl bo_156
  | 5, _ => exact ok_of (m := 157) rfl bo_157
  | 6, _ => exact ok_of (m := 158) rfl bo_158
  | 7, _ => exact ok_of (m := 159) rfl bo_159
  | 8, _ => exact ok_of (m := 160) rfl bo_160
  | 9, _ => exact ok_of (m := 161) rfl bo_161
  | 10, _ => exact ok_of (m := 162) rfl bo_162
  | 11, _ => exact ok_of (m := 163) rfl bo_163
  | 12, _ => exact ok_of (m := 164) rfl bo_164
  | 13, _ => exact ok_of (m := 165) rfl bo_165
  | 14, _ => exact ok_of (m := 166) rfl bo_166
  | 15, _ => exact ok_of (m := 167) rfl bo_167
  | 16, _ => exact ok_of (m := 168) rfl bo_168
  | 17, _ => exact ok_of (m := 169) rfl bo_169
  | 18, _ => exact ok_of (m := 170) rfl bo_170
  | r + 19, h => omega
theorem ok_b171 : ∀ r, r < 19 → bw_ok (171 + r) := by
  intro r h
  match r, h with
  | 0, _ => exact ok_of (m := 171) rfl bo_171
  | 1, _ => exact ok_of (m := 172) rfl bo_172
  | 2, _ => exact ok_of (m := 173) rfl bo_173
  | 3, _ => exact ok_of (m := 174) rfl bo_174
  | 4, _ => exact ok_of (m := 175) rfl bo_175
  | 5, _ => exact ok_of (m := 176) rfl bo_176
  | 6, _ => exact ok_of (m := 177) rfl bo_177
  | 7, _ => exact ok_of (m := 178) rfl bo_178
  | 8, _ => exact ok_of (m := 179) rfl bo_179
  | 9, _ => exact ok_of (m := 180) rfl bo_180
  | 10, _ => exact ok_of (m := 181) rfl bo_181
  | 11, _ => exact ok_of (m := 182) rfl bo_182
  | 12, _ => exact ok_of (m := 183) rfl bo_183
  | 13, _ => exact ok_of (m := 184) rfl bo_184
  | 14, _ => exact ok_of (m := 185) rfl bo_185
  | 15, _ => exact ok_of (m := 186) rfl bo_186
  | 16, _ => exact ok_of (m := 187) rfl bo_187
  | 17, _ => exact ok_of (m := 188) rfl bo_188
  | 18, _ => exact ok_of (m := 189) rfl bo_189
  | r + 19, h => omega
theorem ok_b190 : ∀ r, r < 19 → bw_ok (190 + r) := by
  intro r h
  match r, h with
  | 0, _ => exact ok_of (m := 190) rfl bo_190
  | 1, _ => exact ok_of (m := 191) rfl bo_191
  | 2, _ => exact ok_of (m := 192) rfl bo_192
  | 3, _ => exact ok_of (m := 193) rfl bo_193
  | 4, _ => exact ok_of (m := 194) rfl bo_194
  | 5, _ => exact ok_of (m := 195) rfl bo_195
  | 6, _ => exact ok_of (m := 196) rfl bo_196
  | 7, _ => exact ok_of (m := 197) rfl bo_197
  | 8, _ => exact ok_of (m := 198) rfl bo_198
  | 9, _ => exact ok_of (m := 199) rfl bo_199
  | 10, _ => exact ok_of (m := 200) rfl bo_200
  | 11, _ => exact ok_of (m := 201) rfl bo_201
  | 12, _ => exact ok_of (m := 202) rfl bo_202
  | 13, _ => exact ok_of (m := 203) rfl bo_203
  | 14, _ => exact ok_of (m := 204) rfl bo_204
  | 15, _ => exact ok_of (m := 205) rfl bo_205
  | 16, _ => exact ok_of (m := 206) rfl bo_206
  | 17, _ => exact ok_of (m := 207) rfl bo_207
  | 18, _ => exact ok_of (m := 208) rfl bo_208
  | r + 19, h => omega
theorem ok_b209 : ∀ r, r < 18 → bw_ok (209 + r) := by
  intro r h
  match r, h with
  | 0, _ => exact ok_of (m := 209) rfl bo_209
  | 1, _ => exact ok_of (m := 210) rfl bo_210
  | 2, _ => exact ok_of (m := 211) rfl bo_211
  | 3, _ => exact ok_of (m := 212) rfl bo_212
  | 4, _ => exact ok_of (m := 213) rfl bo_213
  | 5, _ => exact ok_of (m := 214) rfl bo_214
  | 6, _ => exact ok_of (m := 215) rfl bo_215
  | 7, _ => exact ok_of (m := 216) rfl bo_216
  | 8, _ => exact ok_of (m := 217) rfl bo_217
  | 9, _ => exact ok_of (m := 218) rfl bo_218
  | 10, _ => exact ok_of (m := 219) rfl bo_219
  | 11, _ => exact ok_of (m := 220) rfl bo_220
  | 12, _ => exact ok_of (m := 221) rfl bo_221
  | 13, _ => exact ok_of (m := 222) rfl bo_222
  | 14, _ => exact ok_of (m := 223) rfl bo_223
  | 15, _ => exact ok_of (m := 224) rfl bo_224
  | 16, _ => exact ok_of (m := 225) rfl bo_225
  | 17, _ => exact ok_of (m := 226) rfl bo_226
  | r + 18, h => omega
theorem ok_ch {a : Nat} (h : bi_okM 227 bh_227 a ((bc_227.drop a).take 30) = true) {i : Nat} {x : Ins} (hx : bc_227[i]? = some x) (h1 : a ≤ i) (h2 : i < a + 30) : ∃ h, bi_ok 227 i h x = true := by
  have e : ((bc_227.drop a).take 30)[i - a]? = some x := by
    rw [List.getElem?_take, if_pos (by omega), List.getElem?_drop, show a + (i - a) = i by omega]
    exact hx
  have := bi_okM_get _ a (i - a) x h e
  rw [show a + (i - a) = i by omega] at this
  exact ⟨_, this⟩
theorem ok_227 : bw_ok 227 := by
  intro i x hx
  have hx' : bc_227[i]? = some x := hx
  have hlen : bc_227.length = 742 := by decide +kernel
  have hi : i < 742 := by
    have := (List.getElem?_eq_some_iff.mp hx').1
    omega
  by_cases c0 : i < 30
  · exact ok_ch bo_227_0 hx' (by omega) (by omega)
  by_cases c1 : i < 60
  · exact ok_ch bo_227_1 hx' (by omega) (by omega)
  by_cases c2 : i < 90
  · exact ok_ch bo_227_2 hx' (by omega) (by omega)
  by_cases c3 : i < 120
  · exact ok_ch bo_227_3 hx' (by omega) (by omega)
  by_cases c4 : i < 150
  · exact ok_ch bo_227_4 hx' (by omega) (by omega)
  by_cases c5 : i < 180
  · exact ok_ch bo_227_5 hx' (by omega) (by omega)
  by_cases c6 : i < 210
  · exact ok_ch bo_227_6 hx' (by omega) (by omega)
  by_cases c7 : i < 240
  · exact ok_ch bo_227_7 hx' (by omega) (by omega)
  by_cases c8 : i < 270
  · exact ok_ch bo_227_8 hx' (by omega) (by omega)
  by_cases c9 : i < 300
  · exact ok_ch bo_227_9 hx' (by omega) (by omega)
  by_cases c10 : i < 330
  · exact ok_ch bo_227_10 hx' (by omega) (by omega)
  by_cases c11 : i < 360
  · exact ok_ch bo_227_11 hx' (by omega) (by omega)
  by_cases c12 : i < 390
  · exact ok_ch bo_227_12 hx' (by omega) (by omega)
  by_cases c13 : i < 420
  · exact ok_ch bo_227_13 hx' (by omega) (by omega)
  by_cases c14 : i < 450
  · exact ok_ch bo_227_14 hx' (by omega) (by omega)
  by_cases c15 : i < 480
  · exact ok_ch bo_227_15 hx' (by omega) (by omega)
  by_cases c16 : i < 510
  · exact ok_ch bo_227_16 hx' (by omega) (by omega)
  by_cases c17 : i < 540
  · exact ok_ch bo_227_17 hx' (by omega) (by omega)
  by_cases c18 : i < 570
  · exact ok_ch bo_227_18 hx' (by omega) (by omega)
  by_cases c19 : i < 600
  · exact ok_ch bo_227_19 hx' (by omega) (by omega)
  by_cases c20 : i < 630
  · exact ok_ch bo_227_20 hx' (by omega) (by omega)
  by_cases c21 : i < 660
  · exact ok_ch bo_227_21 hx' (by omega) (by omega)
  by_cases c22 : i < 690
  · exact ok_ch bo_227_22 hx' (by omega) (by omega)
  by_cases c23 : i < 720
  · exact ok_ch bo_227_23 hx' (by omega) (by omega)
  by_cases c24 : i < 750
  · exact ok_ch bo_227_24 hx' (by omega) (by omega)
  omega
theorem allok : ∀ m, bw_ok m := by
  intro m
  by_cases c0 : m < 19
  · have := ok_b0 (m - 0) (by omega)
    rw [show 0 + (m - 0) = m by omega] at this
    exact this
  by_cases c19 : m < 38
  · have := ok_b19 (m - 19) (by omega)
    rw [show 19 + (m - 19) = m by omega] at this
    exact this
  by_cases c38 : m < 57
  · have := ok_b38 (m - 38) (by omega)
    rw [show 38 + (m - 38) = m by omega] at this
    exact this
  by_cases c57 : m < 76
  · have := ok_b57 (m - 57) (by omega)
    rw [show 57 + (m - 57) = m by omega] at this
    exact this
  by_cases c76 : m < 95
  · have := ok_b76 (m - 76) (by omega)
    rw [show 76 + (m - 76) = m by omega] at this
    exact this
  by_cases c95 : m < 114
  · have := ok_b95 (m - 95) (by omega)
    rw [show 95 + (m - 95) = m by omega] at this
    exact this
  by_cases c114 : m < 133
  · have := ok_b114 (m - 114) (by omega)
    rw [show 114 + (m - 114) = m by omega] at this
    exact this
  by_cases c133 : m < 152
  · have := ok_b133 (m - 133) (by omega)
    rw [show 133 + (m - 133) = m by omega] at this
    exact this
  by_cases c152 : m < 171
  · have := ok_b152 (m - 152) (by omega)
    rw [show 152 + (m - 152) = m by omega] at this
    exact this
  by_cases c171 : m < 190
  · have := ok_b171 (m - 171) (by omega)
    rw [show 171 + (m - 171) = m by omega] at this
    exact this
  by_cases c190 : m < 209
  · have := ok_b190 (m - 190) (by omega)
    rw [show 190 + (m - 190) = m by omega] at this
    exact this
  by_cases c209 : m < 227
  · have := ok_b209 (m - 209) (by omega)
    rw [show 209 + (m - 209) = m by omega] at this
    exact this
  by_cases c : m = 227
  · subst c; exact ok_227
  · intro i x hx
    have hlen : bi_tab.length = 228 := by decide +kernel
    have e : PR m = ([], 0) := by
      unfold PR
      rw [List.getD_eq_getElem?_getD, List.getElem?_eq_none (by omega)]
      rfl
    rw [e] at hx
    exact absurd hx (by simp)
