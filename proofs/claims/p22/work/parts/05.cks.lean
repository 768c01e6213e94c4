/-! All methods. -/
theorem cds_out (M : Nat) (h : 256 ≤ M) : l2 cds M = none := by
  unfold l2
  by_cases h1 : 16 ≤ M / 16
  · rw [List.getElem?_eq_none (show cds.length ≤ M / 16 from h1)]
  · rw [show M / 16 = 15 by omega]
    show [cd_240, cd_241, cd_242, cd_243, cd_244, cd_245, cd_246, cd_247, cd_248, cd_249, cd_250, cd_251, cd_252, cd_253, cd_254, cd_255][M % 16]? = none
    exact List.getElem?_eq_none (show 16 ≤ M % 16 by omega)
theorem cdc_0 {M : Nat} (h1 : 0 ≤ M) (h2 : M < 16) {t : List (List EN)} (h : l2 cds M = some t) : chkT (chkE M) t = true := by
  rcases (show M = 0 ∨ M = 1 ∨ M = 2 ∨ M = 3 ∨ M = 4 ∨ M = 5 ∨ M = 6 ∨ M = 7 ∨ M = 8 ∨ M = 9 ∨ M = 10 ∨ M = 11 ∨ M = 12 ∨ M = 13 ∨ M = 14 ∨ M = 15 by omega) with rfl | rfl | rfl | rfl | rfl | rfl | rfl | rfl | rfl | rfl | rfl | rfl | rfl | rfl | rfl | rfl
  · cases h; exact rfl
  · cases h; exact ck_1
  · cases h; exact ck_2
  · cases h; exact ck_3
  · cases h; exact ck_4
  · cases h; exact ck_5
  · cases h; exact ck_6
  · cases h; exact ck_7
  · cases h; exact ck_8
  · cases h; exact ck_9
  · cases h; exact ck_10
  · cases h; exact ck_11
  · cases h; exact ck_12
  · cases h; exact ck_13
  · cases h; exact ck_14
  · cases h; exact ck_15
theorem cdc_1 {M : Nat} (h1 : 16 ≤ M) (h2 : M < 32) {t : List (List EN)} (h : l2 cds M = some t) : chkT (chkE M) t = true := by
  rcases (show M = 16 ∨ M = 17 ∨ M = 18 ∨ M = 19 ∨ M = 20 ∨ M = 21 ∨ M = 22 ∨ M = 23 ∨ M = 24 ∨ M = 25 ∨ M = 26 ∨ M = 27 ∨ M = 28 ∨ M = 29 ∨ M = 30 ∨ M = 31 by omega) with rfl | rfl | rfl | rfl | rfl | rfl | rfl | rfl | rfl | rfl | rfl | rfl | rfl | rfl | rfl | rfl
  · cases h; exact ck_16
  · cases h; exact ck_17
  · cases h; exact ck_18
  · cases h; exact ck_19
  · cases h; exact ck_20
  · cases h; exact ck_21
  · cases h; exact ck_22
  · cases h; exact ck_23
  · cases h; exact ck_24
  · cases h; exact ck_25
  · cases h; exact ck_26
  · cases h; exact ck_27
  · cases h; exact ck_28
  · cases h; exact ck_29
  · cases h; exact ck_30
  · cases h; exact ck_31
theorem cdc_2 {M : Nat} (h1 : 32 ≤ M) (h2 : M < 48) {t : List (List EN)} (h : l2 cds M = some t) : chkT (chkE M) t = true := by
  rcases (show M = 32 ∨ M = 33 ∨ M = 34 ∨ M = 35 ∨ M = 36 ∨ M = 37 ∨ M = 38 ∨ M = 39 ∨ M = 40 ∨ M = 41 ∨ M = 42 ∨ M = 43 ∨ M = 44 ∨ M = 45 ∨ M = 46 ∨ M = 47 by omega) with rfl | rfl | rfl | rfl | rfl | rfl | rfl | rfl | rfl | rfl | rfl | rfl | rfl | rfl | rfl | rfl
  · cases h; exact ck_32
  · cases h; exact ck_33
  · cases h; exact ck_34
  · cases h; exact ck_35
  · cases h; exact ck_36
  · cases h; exact ck_37
  · cases h; exact ck_38
  · cases h; exact ck_39
  · cases h; exact ck_40
  · cases h; exact ck_41
  · cases h; exact ck_42
  · cases h; exact ck_43
  · cases h; exact ck_44
  · cases h; exact ck_45
  · cases h; exact ck_46
  · cases h; exact ck_47
theorem cdc_3 {M : Nat} (h1 : 48 ≤ M) (h2 : M < 64) {t : List (List EN)} (h : l2 cds M = some t) : chkT (chkE M) t = true := by
  rcases (show M = 48 ∨ M = 49 ∨ M = 50 ∨ M = 51 ∨ M = 52 ∨ M = 53 ∨ M = 54 ∨ M = 55 ∨ M = 56 ∨ M = 57 ∨ M = 58 ∨ M = 59 ∨ M = 60 ∨ M = 61 ∨ M = 62 ∨ M = 63 by omega) with rfl | rfl | rfl | rfl | rfl | rfl | rfl | rfl | rfl | rfl | rfl | rfl | rfl | rfl | rfl | rfl
  · cases h; exact ck_48
  · cases h; exact ck_49
  · cases h; exact ck_50
  · cases h; exact ck_51
  · cases h; exact ck_52
  · cases h; exact ck_53
  · cases h; exact ck_54
  · cases h; exact ck_55
  · cases h; exact ck_56
  · cases h; exact ck_57
  · cases h; exact ck_58
  · cases h; exact ck_59
  · cases h; exact ck_60
  · cases h; exact ck_61
  · cases h; exact ck_62
  · cases h; exact ck_63
theorem cdc_4 {M : Nat} (h1 : 64 ≤ M) (h2 : M < 80) {t : List (List EN)} (h : l2 cds M = some t) : chkT (chkE M) t = true := by
  rcases (show M = 64 ∨ M = 65 ∨ M = 66 ∨ M = 67 ∨ M = 68 ∨ M = 69 ∨ M = 70 ∨ M = 71 ∨ M = 72 ∨ M = 73 ∨ M = 74 ∨ M = 75 ∨ M = 76 ∨ M = 77 ∨ M = 78 ∨ M = 79 by omega) with rfl | rfl | rfl | rfl | rfl | rfl | rfl | rfl | rfl | rfl | rfl | rfl | rfl | rfl | rfl | rfl
  · cases h; exact ck_64
  · cases h; exact ck_65
  · cases h; exact ck_66
  · cases h; exact ck_67
  · cases h; exact ck_68
  · cases h; exact ck_69
  · cases h; exact ck_70
  · cases h; exact ck_71
  · cases h; exact ck_72
  · cases h; exact ck_73
  · cases h; exact ck_74
  · cases h; exact ck_75
  · cases h; exact ck_76
  · cases h; exact ck_77
  · cases h; exact ck_78
  · cases h; exact ck_79
theorem cdc_5 {M : Nat} (h1 : 80 ≤ M) (h2 : M < 96) {t : List (List EN)} (h : l2 cds M = some t) : chkT (chkE M) t = true := by
  rcases (show M = 80 ∨ M = 81 ∨ M = 82 ∨ M = 83 ∨ M = 84 ∨ M = 85 ∨ M = 86 ∨ M = 87 ∨ M = 88 ∨ M = 89 ∨ M = 90 ∨ M = 91 ∨ M = 92 ∨ M = 93 ∨ M = 94 ∨ M = 95 by omega) with rfl | rfl | rfl | rfl | rfl | rfl | rfl | rfl | rfl | rfl | rfl | rfl | rfl | rfl | rfl | rfl
  · cases h; exact ck_80
  · cases h; exact ck_81
  · cases h; exact ck_82
  · cases h; exact ck_83
  · cases h; exact ck_84
  · cases h; exact ck_85
  · cases h; exact ck_86
  · cases h; exact ck_87
  · cases h; exact ck_88
  · cases h; exact ck_89
  · cases h; exact ck_90
  · cases h; exact ck_91
  · cases h; exact ck_92
  · cases h; exact ck_93
  · cases h; exact ck_94
  · cases h; exact ck_95
theorem cdc_6 {M : Nat} (h1 : 96 ≤ M) (h2 : M < 112) {t : List (List EN)} (h : l2 cds M = some t) : chkT (chkE M) t = true := by
  rcases (show M = 96 ∨ M = 97 ∨ M = 98 ∨ M = 99 ∨ M = 100 ∨ M = 101 ∨ M = 102 ∨ M = 103 ∨ M = 104 ∨ M = 105 ∨ M = 106 ∨ M = 107 ∨ M = 108 ∨ M = 109 ∨ M = 110 ∨ M = 111 by omega) with rfl | rfl | rfl | rfl | rfl | rfl | rfl | rfl | rfl | rfl | rfl | rfl | rfl | rfl | rfl | rfl
  · cases h; exact ck_96
  · cases h; exact ck_97
  · cases h; exact ck_98
  · cases h; exact ck_99
  · cases h; exact ck_100
  · cases h; exact ck_101
  · cases h; exact ck_102
  · cases h; exact ck_103
  · cases h; exact ck_104
  · cases h; exact ck_105
  · cases h; exact ck_106
  · cases h; exact ck_107
  · cases h; exact ck_108
  · cases h; exact ck_109
  · cases h; exact ck_110
  · cases h; exact ck_111
theorem cdc_7 {M : Nat} (h1 : 112 ≤ M) (h2 : M < 128) {t : List (List EN)} (h : l2 cds M = some t) : chkT (chkE M) t = true := by
  rcases (show M = 112 ∨ M = 113 ∨ M = 114 ∨ M = 115 ∨ M = 116 ∨ M = 117 ∨ M = 118 ∨ M = 119 ∨ M = 120 ∨ M = 121 ∨ M = 122 ∨ M = 123 ∨ M = 124 ∨ M = 125 ∨ M = 126 ∨ M = 127 by omega) with rfl | rfl | rfl | rfl | rfl | rfl | rfl | rfl | rfl | rfl | rfl | rfl | rfl | rfl | rfl | rfl
  · cases h; exact ck_112
  · cases h; exact ck_113
  · cases h; exact ck_114
  · cases h; exact ck_115
  · cases h; exact ck_116
  · cases h; exact ck_117
  · cases h; exact ck_118
  · cases h; exact ck_119
  · cases h; exact ck_120
  · cases h; exact ck_121
  · cases h; exact ck_122
  · cases h; exact ck_123
  · cases h; exact ck_124
  · cases h; exact ck_125
  · cases h; exact ck_126
  · cases h; exact ck_127
theorem cdc_8 {M : Nat} (h1 : 128 ≤ M) (h2 : M < 144) {t : List (List EN)} (h : l2 cds M = some t) : chkT (chkE M) t = true := by
  rcases (show M = 128 ∨ M = 129 ∨ M = 130 ∨ M = 131 ∨ M = 132 ∨ M = 133 ∨ M = 134 ∨ M = 135 ∨ M = 136 ∨ M = 137 ∨ M = 138 ∨ M = 139 ∨ M = 140 ∨ M = 141 ∨ M = 142 ∨ M = 143 by omega) with rfl | rfl | rfl | rfl | rfl | rfl | rfl | rfl | rfl | rfl | rfl | rfl | rfl | rfl | rfl | rfl
  · cases h; exact ck_128
  · cases h; exact ck_129
  · cases h; exact ck_130
  · cases h; exact ck_131
  · cases h; exact ck_132
  · cases h; exact ck_133
  · cases h; exact ck_134
  · cases h; exact ck_135
  · cases h; exact ck_136
  · cases h; exact ck_137
  · cases h; exact ck_138
  · cases h; exact ck_139
  · cases h; exact ck_140
  · cases h; exact ck_141
  · cases h; exact ck_142
  · cases h; exact ck_143
theorem cdc_9 {M : Nat} (h1 : 144 ≤ M) (h2 : M < 160) {t : List (List EN)} (h : l2 cds M = some t) : chkT (chkE M) t = true := by
  rcases (show M = 144 ∨ M = 145 ∨ M = 146 ∨ M = 147 ∨ M = 148 ∨ M = 149 ∨ M = 150 ∨ M = 151 ∨ M = 152 ∨ M = 153 ∨ M = 154 ∨ M = 155 ∨ M = 156 ∨ M = 157 ∨ M = 158 ∨ M = 159 by omega) with rfl | rfl | rfl | rfl | rfl | rfl | rfl | rfl | rfl | rfl | rfl | rfl | rfl | rfl | rfl | rfl
  · cases h; exact ck_144
  · cases h; exact ck_145
  · cases h; exact ck_146
  · cases h; exact ck_147
  · cases h; exact ck_148
  · cases h; exact ck_149
  · cases h; exact ck_150
  · cases h; exact ck_151
  · cases h; exact ck_152
  · cases h; exact ck_153
  · cases h; exact ck_154
  · cases h; exact ck_155
  · cases h; exact ck_156
  · cases h; exact ck_157
  · cases h; exact ck_158
  · cases h; exact ck_159
theorem cdc_10 {M : Nat} (h1 : 160 ≤ M) (h2 : M < 176) {t : List (List EN)} (h : l2 cds M = some t) : chkT (chkE M) t = true := by
  rcases (show M = 160 ∨ M = 161 ∨ M = 162 ∨ M = 163 ∨ M = 164 ∨ M = 165 ∨ M = 166 ∨ M = 167 ∨ M = 168 ∨ M = 169 ∨ M = 170 ∨ M = 171 ∨ M = 172 ∨ M = 173 ∨ M = 174 ∨ M = 175 by omega) with rfl | rfl | rfl | rfl | rfl | rfl | rfl | rfl | rfl | rfl | rfl | rfl | rfl | rfl | rfl | rfl
  · cases h; exact ck_160
  · cases h; exact ck_161
  · cases h; exact ck_162
  · cases h; exact ck_163
  · cases h; exact ck_164
  · cases h; exact ck_165
  · cases h; exact ck_166
  · cases h; exact ck_167
  · cases h; exact ck_168
  · cases h; exact ck_169
  · cases h; exact ck_170
  · cases h; exact ck_171
  · cases h; exact ck_172
  · cases h; exact ck_173
  · cases h; exact ck_174
  · cases h; exact ck_175
theorem cdc_11 {M : Nat} (h1 : 176 ≤ M) (h2 : M < 192) {t : List (List EN)} (h : l2 cds M = some t) : chkT (chkE M) t = true := by
  rcases (show M = 176 ∨ M = 177 ∨ M = 178 ∨ M = 179 ∨ M = 180 ∨ M = 181 ∨ M = 182 ∨ M = 183 ∨ M = 184 ∨ M = 185 ∨ M = 186 ∨ M = 187 ∨ M = 188 ∨ M = 189 ∨ M = 190 ∨ M = 191 by omega) with rfl | rfl | rfl | rfl | rfl | rfl | rfl | rfl | rfl | rfl | rfl | rfl | rfl | rfl | rfl | rfl
  · cases h; exact ck_176
  · cases h; exact ck_177
  · cases h; exact ck_178
  · cases h; exact ck_179
  · cases h; exact ck_180
  · cases h; exact ck_181
  · cases h; exact ck_182
  · cases h; exact ck_183
  · cases h; exact ck_184
  · cases h; exact ck_185
  · cases h; exact ck_186
  · cases h; exact ck_187
  · cases h; exact ck_188
  · cases h; exact ck_189
  · cases h; exact ck_190
  · cases h; exact ck_191
theorem cdc_12 {M : Nat} (h1 : 192 ≤ M) (h2 : M < 208) {t : List (List EN)} (h : l2 cds M = some t) : chkT (chkE M) t = true := by
  rcases (show M = 192 ∨ M = 193 ∨ M = 194 ∨ M = 195 ∨ M = 196 ∨ M = 197 ∨ M = 198 ∨ M = 199 ∨ M = 200 ∨ M = 201 ∨ M = 202 ∨ M = 203 ∨ M = 204 ∨ M = 205 ∨ M = 206 ∨ M = 207 by omega) with rfl | rfl | rfl | rfl | rfl | rfl | rfl | rfl | rfl | rfl | rfl | rfl | rfl | rfl | rfl | rfl
  · cases h; exact ck_192
  · cases h; exact ck_193
  · cases h; exact ck_194
  · cases h; exact ck_195
  · cases h; exact ck_196
  · cases h; exact ck_197
  · cases h; exact ck_198
  · cases h; exact ck_199
  · cases h; exact ck_200
  · cases h; exact ck_201
  · cases h; exact ck_202
  · cases h; exact ck_203
  · cases h; exact ck_204
  · cases h; exact ck_205
  · cases h; exact ck_206
  · cases h; exact ck_207
theorem cdc_13 {M : Nat} (h1 : 208 ≤ M) (h2 : M < 224) {t : List (List EN)} (h : l2 cds M = some t) : chkT (chkE M) t = true := by
  rcases (show M = 208 ∨ M = 209 ∨ M = 210 ∨ M = 211 ∨ M = 212 ∨ M = 213 ∨ M = 214 ∨ M = 215 ∨ M = 216 ∨ M = 217 ∨ M = 218 ∨ M = 219 ∨ M = 220 ∨ M = 221 ∨ M = 222 ∨ M = 223 by omega) with rfl | rfl | rfl | rfl | rfl | rfl | rfl | rfl | rfl | rfl | rfl | rfl | rfl | rfl | rfl | rfl
  · cases h; exact ck_208
  · cases h; exact ck_209
  · cases h; exact ck_210
  · cases h; exact ck_211
  · cases h; exact ck_212
  · cases h; exact ck_213
  · cases h; exact ck_214
  · cases h; exact ck_215
  · cases h; exact ck_216
  · cases h; exact ck_217
  · cases h; exact ck_218
  · cases h; exact ck_219
  · cases h; exact ck_220
  · cases h; exact ck_221
  · cases h; exact ck_222
  · cases h; exact ck_223
theorem cdc_14 {M : Nat} (h1 : 224 ≤ M) (h2 : M < 240) {t : List (List EN)} (h : l2 cds M = some t) : chkT (chkE M) t = true := by
  rcases (show M = 224 ∨ M = 225 ∨ M = 226 ∨ M = 227 ∨ M = 228 ∨ M = 229 ∨ M = 230 ∨ M = 231 ∨ M = 232 ∨ M = 233 ∨ M = 234 ∨ M = 235 ∨ M = 236 ∨ M = 237 ∨ M = 238 ∨ M = 239 by omega) with rfl | rfl | rfl | rfl | rfl | rfl | rfl | rfl | rfl | rfl | rfl | rfl | rfl | rfl | rfl | rfl
  · cases h; exact ck_224
  · cases h; exact ck_225
  · cases h; exact ck_226
  · cases h; exact ck_227
  · cases h; exact ck_228
  · cases h; exact ck_229
  · cases h; exact ck_230
  · cases h; exact ck_231
  · cases h; exact ck_232
  · cases h; exact ck_233
  · cases h; exact ck_234
  · cases h; exact ck_235
  · cases h; exact ck_236
  · cases h; exact ck_237
  · cases h; exact ck_238
  · cases h; exact ck_239
theorem cdc_15 {M : Nat} (h1 : 240 ≤ M) (h2 : M < 256) {t : List (List EN)} (h : l2 cds M = some t) : chkT (chkE M) t = true := by
  rcases (show M = 240 ∨ M = 241 ∨ M = 242 ∨ M = 243 ∨ M = 244 ∨ M = 245 ∨ M = 246 ∨ M = 247 ∨ M = 248 ∨ M = 249 ∨ M = 250 ∨ M = 251 ∨ M = 252 ∨ M = 253 ∨ M = 254 ∨ M = 255 by omega) with rfl | rfl | rfl | rfl | rfl | rfl | rfl | rfl | rfl | rfl | rfl | rfl | rfl | rfl | rfl | rfl
  · cases h; exact ck_240
  · cases h; exact ck_241
  · cases h; exact ck_242
  · cases h; exact ck_243
  · cases h; exact ck_244
  · cases h; exact ck_245
  · cases h; exact ck_246
  · cases h; exact ck_247
  · cases h; exact ck_248
  · cases h; exact ck_249
  · cases h; exact ck_250
  · cases h; exact ck_251
  · cases h; exact ck_252
  · cases h; exact ck_253
  · cases h; exact ck_254
  · cases h; exact ck_255
theorem cds_at {M : Nat} {t : List (List EN)} (h : l2 cds M = some t) : chkT (chkE M) t = true := by
  rcases Nat.lt_or_ge M 256 with hM | hM
  · by_cases h0 : M < 16
    · exact cdc_0 (by omega) (by omega) h
    by_cases h1 : M < 32
    · exact cdc_1 (by omega) (by omega) h
    by_cases h2 : M < 48
    · exact cdc_2 (by omega) (by omega) h
    by_cases h3 : M < 64
    · exact cdc_3 (by omega) (by omega) h
    by_cases h4 : M < 80
    · exact cdc_4 (by omega) (by omega) h
    by_cases h5 : M < 96
    · exact cdc_5 (by omega) (by omega) h
    by_cases h6 : M < 112
    · exact cdc_6 (by omega) (by omega) h
    by_cases h7 : M < 128
    · exact cdc_7 (by omega) (by omega) h
    by_cases h8 : M < 144
    · exact cdc_8 (by omega) (by omega) h
    by_cases h9 : M < 160
    · exact cdc_9 (by omega) (by omega) h
    by_cases h10 : M < 176
    · exact cdc_10 (by omega) (by omega) h
    by_cases h11 : M < 192
    · exact cdc_11 (by omega) (by omega) h
    by_cases h12 : M < 208
    · exact cdc_12 (by omega) (by omega) h
    by_cases h13 : M < 224
    · exact cdc_13 (by omega) (by omega) h
    by_cases h14 : M < 240
    · exact cdc_14 (by omega) (by omega) h
    exact cdc_15 (by omega) (by omega) h
  · rw [cds_out M hM] at h; cases h
