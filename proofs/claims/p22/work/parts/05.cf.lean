/-! Every method as a callee, once. -/
theorem cf_1 : cfR 1 0 := ⟨wat_of (q := (1, 23)) rfl rfl, by decide +kernel⟩
theorem cf_2 : cfR 2 3 := ⟨wat_of (q := (3, 31)) rfl rfl, by decide +kernel⟩
theorem cf_3 : cfR 3 2 := ⟨wat_of (q := (3, 48)) rfl rfl, by decide +kernel⟩
theorem cf_4 : cfR 4 2 := ⟨wat_of (q := (3, 52)) rfl rfl, by decide +kernel⟩
theorem cf_5 : cfR 5 0 := ⟨wat_of (q := (3, 57)) rfl rfl, by decide +kernel⟩
theorem cf_6 : cfR 6 0 := ⟨wat_of (q := (3, 61)) rfl rfl, by decide +kernel⟩
theorem cf_7 : cfR 7 2 := ⟨wat_of (q := (3, 65)) rfl rfl, by decide +kernel⟩
theorem cf_8 : cfR 8 2 := ⟨wat_of (q := (3, 77)) rfl rfl, by decide +kernel⟩
theorem cf_9 : cfR 9 3 := ⟨wat_of (q := (3, 89)) rfl rfl, by decide +kernel⟩
theorem cf_10 : cfR 10 2 := ⟨wat_of (q := (3, 139)) rfl rfl, by decide +kernel⟩
theorem cf_11 : cfR 11 1 := ⟨wat_of (q := (3, 143)) rfl rfl, by decide +kernel⟩
theorem cf_12 : cfR 12 1 := ⟨wat_of (q := (3, 160)) rfl rfl, by decide +kernel⟩
theorem cf_13 : cfR 13 3 := ⟨wat_of (q := (3, 164)) rfl rfl, by decide +kernel⟩
theorem cf_14 : cfR 14 0 := ⟨wat_of (q := (3, 204)) rfl rfl, by decide +kernel⟩
theorem cf_15 : cfR 15 1 := ⟨wat_of (q := (3, 208)) rfl rfl, by decide +kernel⟩
theorem cf_16 : cfR 16 1 := ⟨wat_of (q := (3, 212)) rfl rfl, by decide +kernel⟩
theorem cf_17 : cfR 17 1 := ⟨wat_of (q := (3, 216)) rfl rfl, by decide +kernel⟩
theorem cf_18 : cfR 18 1 := ⟨wat_of (q := (3, 229)) rfl rfl, by decide +kernel⟩
theorem cf_19 : cfR 19 1 := ⟨wat_of (q := (4, 7)) rfl rfl, by decide +kernel⟩
theorem cf_20 : cfR 20 1 := ⟨wat_of (q := (4, 19)) rfl rfl, by decide +kernel⟩
theorem cf_21 : cfR 21 0 := ⟨wat_of (q := (4, 30)) rfl rfl, by decide +kernel⟩
theorem cf_22 : cfR 22 0 := ⟨wat_of (q := (4, 43)) rfl rfl, by decide +kernel⟩
theorem cf_23 : cfR 23 2 := ⟨wat_of (q := (4, 60)) rfl rfl, by decide +kernel⟩
theorem cf_24 : cfR 24 1 := ⟨wat_of (q := (4, 64)) rfl rfl, by decide +kernel⟩
theorem cf_25 : cfR 25 1 := ⟨wat_of (q := (5, 48)) rfl rfl, by decide +kernel⟩
theorem cf_26 : cfR 26 0 := ⟨wat_of (q := (5, 80)) rfl rfl, by decide +kernel⟩
theorem cf_27 : cfR 27 0 := ⟨wat_of (q := (5, 84)) rfl rfl, by decide +kernel⟩
theorem cf_28 : cfR 28 1 := ⟨wat_of (q := (5, 88)) rfl rfl, by decide +kernel⟩
theorem cf_29 : cfR 29 1 := ⟨wat_of (q := (5, 96)) rfl rfl, by decide +kernel⟩
theorem cf_30 : cfR 30 3 := ⟨wat_of (q := (5, 104)) rfl rfl, by decide +kernel⟩
theorem cf_31 : cfR 31 1 := ⟨wat_of (q := (5, 109)) rfl rfl, by decide +kernel⟩
theorem cf_32 : cfR 32 2 := ⟨wat_of (q := (5, 113)) rfl rfl, by decide +kernel⟩
theorem cf_33 : cfR 33 2 := ⟨wat_of (q := (5, 121)) rfl rfl, by decide +kernel⟩
theorem cf_34 : cfR 34 2 := ⟨wat_of (q := (5, 125)) rfl rfl, by decide +kernel⟩
theorem cf_35 : cfR 35 0 := ⟨wat_of (q := (5, 130)) rfl rfl, by decide +kernel⟩
theorem cf_36 : cfR 36 1 := ⟨wat_of (q := (5, 134)) rfl rfl, by decide +kernel⟩
theorem cf_37 : cfR 37 0 := ⟨wat_of (q := (5, 146)) rfl rfl, by decide +kernel⟩
theorem cf_38 : cfR 38 1 := ⟨wat_of (q := (5, 150)) rfl rfl, by decide +kernel⟩
theorem cf_39 : cfR 39 0 := ⟨wat_of (q := (5, 154)) rfl rfl, by decide +kernel⟩
theorem cf_40 : cfR 40 1 := ⟨wat_of (q := (3, 170)) rfl rfl, by decide +kernel⟩
theorem cf_41 : cfR 41 1 := ⟨wat_of (q := (4, 10)) rfl rfl, by decide +kernel⟩
theorem cf_42 : cfR 42 1 := ⟨wat_of (q := (4, 67)) rfl rfl, by decide +kernel⟩
theorem cf_43 : cfR 43 1 := ⟨wat_of (q := (2, 137)) rfl rfl, by decide +kernel⟩
theorem cf_44 : cfR 44 1 := ⟨wat_of (q := (2, 140)) rfl rfl, by decide +kernel⟩
theorem cf_45 : cfR 45 2 := ⟨wat_of (q := (3, 167)) rfl rfl, by decide +kernel⟩
theorem cf_46 : cfR 46 1 := ⟨wat_of (q := (5, 117)) rfl rfl, by decide +kernel⟩
theorem cf_47 : cfR 47 1 := ⟨wat_of (q := (3, 85)) rfl rfl, by decide +kernel⟩
theorem cf_48 : cfR 48 2 := ⟨wat_of (q := (3, 73)) rfl rfl, by decide +kernel⟩
theorem cf_49 : cfR 49 1 := ⟨wat_of (q := (5, 138)) rfl rfl, by decide +kernel⟩
theorem cf_50 : cfR 50 0 := ⟨wat_of (q := (5, 142)) rfl rfl, by decide +kernel⟩
theorem cf_51 : cfR 51 0 := ⟨wat_of (q := (3, 199)) rfl rfl, by decide +kernel⟩
theorem cf_52 : cfR 52 0 := ⟨wat_of (q := (3, 195)) rfl rfl, by decide +kernel⟩
theorem cf_53 : cfR 53 1 := ⟨wat_of (q := (4, 227)) rfl rfl, by decide +kernel⟩
theorem cf_54 : cfR 54 1 := ⟨wat_of (q := (5, 100)) rfl rfl, by decide +kernel⟩
theorem cf_55 : cfR 55 1 := ⟨wat_of (q := (2, 134)) rfl rfl, by decide +kernel⟩
theorem cf_56 : cfR 56 4 := ⟨wat_of (q := (2, 168)) rfl rfl, by decide +kernel⟩
theorem cf_57 : cfR 57 0 := ⟨wat_of (q := (4, 47)) rfl rfl, by decide +kernel⟩
theorem cf_58 : cfR 58 3 := ⟨wat_of (q := (4, 52)) rfl rfl, by decide +kernel⟩
theorem cf_59 : cfR 59 0 := ⟨wat_of (q := (5, 161)) rfl rfl, by decide +kernel⟩
theorem cf_60 : cfR 60 3 := ⟨wat_of (q := (6, 166)) rfl rfl, by decide +kernel⟩
theorem cf_61 : cfR 61 1 := ⟨wat_of (q := (7, 37)) rfl rfl, by decide +kernel⟩
theorem cf_62 : cfR 62 0 := ⟨wat_of (q := (6, 159)) rfl rfl, by decide +kernel⟩
theorem cf_63 : cfR 63 1 := ⟨wat_of (q := (6, 163)) rfl rfl, by decide +kernel⟩
theorem cf_64 : cfR 64 3 := ⟨wat_of (q := (7, 13)) rfl rfl, by decide +kernel⟩
theorem cf_65 : cfR 65 3 := ⟨wat_of (q := (7, 9)) rfl rfl, by decide +kernel⟩
theorem cf_66 : cfR 66 5 := ⟨wat_of (q := (6, 178)) rfl rfl, by decide +kernel⟩
theorem cf_67 : cfR 67 1 := ⟨wat_of (q := (6, 174)) rfl rfl, by decide +kernel⟩
theorem cf_68 : cfR 68 3 := ⟨wat_of (q := (6, 170)) rfl rfl, by decide +kernel⟩
theorem cf_69 : cfR 69 2 := ⟨wat_of (q := (6, 182)) rfl rfl, by decide +kernel⟩
theorem cf_70 : cfR 70 2 := ⟨wat_of (q := (6, 190)) rfl rfl, by decide +kernel⟩
theorem cf_71 : cfR 71 2 := ⟨wat_of (q := (7, 25)) rfl rfl, by decide +kernel⟩
theorem cf_72 : cfR 72 2 := ⟨wat_of (q := (6, 186)) rfl rfl, by decide +kernel⟩
theorem cf_73 : cfR 73 1 := ⟨wat_of (q := (6, 205)) rfl rfl, by decide +kernel⟩
theorem cf_74 : cfR 74 3 := ⟨wat_of (q := (5, 167)) rfl rfl, by decide +kernel⟩
theorem cf_75 : cfR 75 4 := ⟨wat_of (q := (5, 171)) rfl rfl, by decide +kernel⟩
theorem cf_76 : cfR 76 3 := ⟨wat_of (q := (7, 57)) rfl rfl, by decide +kernel⟩
theorem cf_77 : cfR 77 2 := ⟨wat_of (q := (7, 90)) rfl rfl, by decide +kernel⟩
theorem cf_78 : cfR 78 1 := ⟨wat_of (q := (6, 202)) rfl rfl, by decide +kernel⟩
theorem cf_79 : cfR 79 0 := ⟨wat_of (q := (6, 221)) rfl rfl, by decide +kernel⟩
theorem cf_80 : cfR 80 1 := ⟨wat_of (q := (6, 217)) rfl rfl, by decide +kernel⟩
theorem cf_81 : cfR 81 1 := ⟨wat_of (q := (6, 198)) rfl rfl, by decide +kernel⟩
theorem cf_82 : cfR 82 0 := ⟨wat_of (q := (6, 194)) rfl rfl, by decide +kernel⟩
theorem cf_83 : cfR 83 0 := ⟨wat_of (q := (6, 209)) rfl rfl, by decide +kernel⟩
theorem cf_84 : cfR 84 2 := ⟨wat_of (q := (7, 118)) rfl rfl, by decide +kernel⟩
theorem cf_85 : cfR 85 2 := ⟨wat_of (q := (6, 237)) rfl rfl, by decide +kernel⟩
theorem cf_86 : cfR 86 0 := ⟨wat_of (q := (6, 225)) rfl rfl, by decide +kernel⟩
theorem cf_87 : cfR 87 1 := ⟨wat_of (q := (7, 1)) rfl rfl, by decide +kernel⟩
theorem cf_88 : cfR 88 2 := ⟨wat_of (q := (6, 229)) rfl rfl, by decide +kernel⟩
theorem cf_89 : cfR 89 2 := ⟨wat_of (q := (6, 233)) rfl rfl, by decide +kernel⟩
theorem cf_90 : cfR 90 3 := ⟨wat_of (q := (7, 5)) rfl rfl, by decide +kernel⟩
theorem cf_91 : cfR 91 2 := ⟨wat_of (q := (7, 17)) rfl rfl, by decide +kernel⟩
theorem cf_92 : cfR 92 5 := ⟨wat_of (q := (7, 21)) rfl rfl, by decide +kernel⟩
theorem cf_93 : cfR 93 3 := ⟨wat_of (q := (7, 29)) rfl rfl, by decide +kernel⟩
theorem cf_94 : cfR 94 2 := ⟨wat_of (q := (6, 213)) rfl rfl, by decide +kernel⟩
theorem cf_95 : cfR 95 2 := ⟨wat_of (q := (7, 33)) rfl rfl, by decide +kernel⟩
theorem cf_96 : cfR 96 1 := ⟨wat_of (q := (7, 45)) rfl rfl, by decide +kernel⟩
theorem cf_97 : cfR 97 3 := ⟨wat_of (q := (7, 41)) rfl rfl, by decide +kernel⟩
theorem cf_98 : cfR 98 2 := ⟨wat_of (q := (7, 49)) rfl rfl, by decide +kernel⟩
theorem cf_99 : cfR 99 0 := ⟨wat_of (q := (7, 86)) rfl rfl, by decide +kernel⟩
theorem cf_100 : cfR 100 1 := ⟨wat_of (q := (7, 94)) rfl rfl, by decide +kernel⟩
theorem cf_101 : cfR 101 0 := ⟨wat_of (q := (7, 53)) rfl rfl, by decide +kernel⟩
theorem cf_102 : cfR 102 1 := ⟨wat_of (q := (7, 65)) rfl rfl, by decide +kernel⟩
theorem cf_103 : cfR 103 1 := ⟨wat_of (q := (7, 69)) rfl rfl, by decide +kernel⟩
theorem cf_104 : cfR 104 0 := ⟨wat_of (q := (7, 73)) rfl rfl, by decide +kernel⟩
theorem cf_105 : cfR 105 1 := ⟨wat_of (q := (7, 61)) rfl rfl, by decide +kernel⟩
theorem cf_106 : cfR 106 1 := ⟨wat_of (q := (7, 77)) rfl rfl, by decide +kernel⟩
theorem cf_107 : cfR 107 3 := ⟨wat_of (q := (7, 81)) rfl rfl, by decide +kernel⟩
theorem cf_108 : cfR 108 0 := ⟨wat_of (q := (7, 98)) rfl rfl, by decide +kernel⟩
theorem cf_109 : cfR 109 1 := ⟨wat_of (q := (7, 102)) rfl rfl, by decide +kernel⟩
theorem cf_110 : cfR 110 1 := ⟨wat_of (q := (7, 106)) rfl rfl, by decide +kernel⟩
theorem cf_111 : cfR 111 1 := ⟨wat_of (q := (7, 110)) rfl rfl, by decide +kernel⟩
theorem cf_112 : cfR 112 1 := ⟨wat_of (q := (7, 114)) rfl rfl, by decide +kernel⟩
theorem cf_113 : cfR 113 1 := ⟨wat_of (q := (7, 122)) rfl rfl, by decide +kernel⟩
theorem cf_114 : cfR 114 1 := ⟨wat_of (q := (7, 130)) rfl rfl, by decide +kernel⟩
theorem cf_115 : cfR 115 1 := ⟨wat_of (q := (7, 126)) rfl rfl, by decide +kernel⟩
theorem cf_116 : cfR 116 2 := ⟨wat_of (q := (7, 146)) rfl rfl, by decide +kernel⟩
theorem cf_117 : cfR 117 3 := ⟨wat_of (q := (7, 142)) rfl rfl, by decide +kernel⟩
theorem cf_118 : cfR 118 0 := ⟨wat_of (q := (7, 138)) rfl rfl, by decide +kernel⟩
theorem cf_119 : cfR 119 0 := ⟨wat_of (q := (7, 134)) rfl rfl, by decide +kernel⟩
theorem cf_120 : cfR 120 2 := ⟨wat_of (q := (7, 150)) rfl rfl, by decide +kernel⟩
theorem cf_121 : cfR 121 5 := ⟨wat_of (q := (7, 178)) rfl rfl, by decide +kernel⟩
theorem cf_122 : cfR 122 1 := ⟨wat_of (q := (7, 162)) rfl rfl, by decide +kernel⟩
theorem cf_123 : cfR 123 1 := ⟨wat_of (q := (7, 170)) rfl rfl, by decide +kernel⟩
theorem cf_124 : cfR 124 2 := ⟨wat_of (q := (7, 194)) rfl rfl, by decide +kernel⟩
theorem cf_125 : cfR 125 1 := ⟨wat_of (q := (7, 190)) rfl rfl, by decide +kernel⟩
theorem cf_126 : cfR 126 2 := ⟨wat_of (q := (7, 166)) rfl rfl, by decide +kernel⟩
theorem cf_127 : cfR 127 2 := ⟨wat_of (q := (7, 174)) rfl rfl, by decide +kernel⟩
theorem cf_128 : cfR 128 4 := ⟨wat_of (q := (7, 182)) rfl rfl, by decide +kernel⟩
theorem cf_129 : cfR 129 3 := ⟨wat_of (q := (7, 186)) rfl rfl, by decide +kernel⟩
theorem cf_130 : cfR 130 1 := ⟨wat_of (q := (7, 222)) rfl rfl, by decide +kernel⟩
theorem cf_131 : cfR 131 1 := ⟨wat_of (q := (7, 218)) rfl rfl, by decide +kernel⟩
theorem cf_132 : cfR 132 1 := ⟨wat_of (q := (7, 210)) rfl rfl, by decide +kernel⟩
theorem cf_133 : cfR 133 1 := ⟨wat_of (q := (7, 214)) rfl rfl, by decide +kernel⟩
theorem cf_134 : cfR 134 2 := ⟨wat_of (q := (7, 158)) rfl rfl, by decide +kernel⟩
theorem cf_135 : cfR 135 1 := ⟨wat_of (q := (7, 198)) rfl rfl, by decide +kernel⟩
theorem cf_136 : cfR 136 1 := ⟨wat_of (q := (7, 154)) rfl rfl, by decide +kernel⟩
theorem cf_137 : cfR 137 0 := ⟨wat_of (q := (7, 206)) rfl rfl, by decide +kernel⟩
theorem cf_138 : cfR 138 1 := ⟨wat_of (q := (7, 202)) rfl rfl, by decide +kernel⟩
theorem cf_139 : cfR 139 0 := ⟨wat_of (q := (7, 226)) rfl rfl, by decide +kernel⟩
theorem cf_140 : cfR 140 0 := ⟨wat_of (q := (7, 230)) rfl rfl, by decide +kernel⟩
theorem cf_141 : cfR 141 1 := ⟨wat_of (q := (8, 14)) rfl rfl, by decide +kernel⟩
theorem cf_142 : cfR 142 1 := ⟨wat_of (q := (8, 10)) rfl rfl, by decide +kernel⟩
theorem cf_143 : cfR 143 1 := ⟨wat_of (q := (8, 21)) rfl rfl, by decide +kernel⟩
theorem cf_144 : cfR 144 1 := ⟨wat_of (q := (8, 26)) rfl rfl, by decide +kernel⟩
theorem cf_145 : cfR 145 1 := ⟨wat_of (q := (8, 6)) rfl rfl, by decide +kernel⟩
theorem cf_146 : cfR 146 1 := ⟨wat_of (q := (8, 2)) rfl rfl, by decide +kernel⟩
theorem cf_147 : cfR 147 0 := ⟨wat_of (q := (7, 238)) rfl rfl, by decide +kernel⟩
theorem cf_148 : cfR 148 1 := ⟨wat_of (q := (7, 234)) rfl rfl, by decide +kernel⟩
theorem cf_149 : cfR 149 1 := ⟨wat_of (q := (8, 38)) rfl rfl, by decide +kernel⟩
theorem cf_150 : cfR 150 3 := ⟨wat_of (q := (8, 42)) rfl rfl, by decide +kernel⟩
theorem cf_151 : cfR 151 1 := ⟨wat_of (q := (8, 46)) rfl rfl, by decide +kernel⟩
theorem cf_152 : cfR 152 2 := ⟨wat_of (q := (8, 50)) rfl rfl, by decide +kernel⟩
theorem cf_153 : cfR 153 2 := ⟨wat_of (q := (8, 58)) rfl rfl, by decide +kernel⟩
theorem cf_154 : cfR 154 2 := ⟨wat_of (q := (8, 54)) rfl rfl, by decide +kernel⟩
theorem cf_155 : cfR 155 2 := ⟨wat_of (q := (8, 62)) rfl rfl, by decide +kernel⟩
theorem cf_156 : cfR 156 0 := ⟨wat_of (q := (8, 66)) rfl rfl, by decide +kernel⟩
theorem cf_157 : cfR 157 1 := ⟨wat_of (q := (8, 70)) rfl rfl, by decide +kernel⟩
theorem cf_158 : cfR 158 0 := ⟨wat_of (q := (8, 74)) rfl rfl, by decide +kernel⟩
theorem cf_159 : cfR 159 0 := ⟨wat_of (q := (2, 110)) rfl rfl, by decide +kernel⟩
theorem cf_160 : cfR 160 2 := ⟨wat_of (q := (4, 14)) rfl rfl, by decide +kernel⟩
theorem cf_161 : cfR 161 1 := ⟨wat_of (q := (4, 23)) rfl rfl, by decide +kernel⟩
theorem cf_162 : cfR 162 1 := ⟨wat_of (q := (2, 11)) rfl rfl, by decide +kernel⟩
theorem cf_163 : cfR 163 1 := ⟨wat_of (q := (2, 149)) rfl rfl, by decide +kernel⟩
theorem cf_164 : cfR 164 2 := ⟨wat_of (q := (4, 56)) rfl rfl, by decide +kernel⟩
theorem cf_165 : cfR 165 3 := ⟨wat_of (q := (2, 157)) rfl rfl, by decide +kernel⟩
theorem cf_166 : cfR 166 3 := ⟨wat_of (q := (2, 161)) rfl rfl, by decide +kernel⟩
theorem cf_167 : cfR 167 1 := ⟨wat_of (q := (2, 165)) rfl rfl, by decide +kernel⟩
theorem cf_168 : cfR 168 3 := ⟨wat_of (q := (2, 176)) rfl rfl, by decide +kernel⟩
theorem cf_169 : cfR 169 2 := ⟨wat_of (q := (2, 196)) rfl rfl, by decide +kernel⟩
theorem cf_170 : cfR 170 3 := ⟨wat_of (q := (2, 204)) rfl rfl, by decide +kernel⟩
theorem cf_171 : cfR 171 3 := ⟨wat_of (q := (2, 214)) rfl rfl, by decide +kernel⟩
theorem cf_172 : cfR 172 2 := ⟨wat_of (q := (2, 218)) rfl rfl, by decide +kernel⟩
theorem cf_173 : cfR 173 2 := ⟨wat_of (q := (2, 200)) rfl rfl, by decide +kernel⟩
theorem cf_174 : cfR 174 0 := ⟨wat_of (q := (1, 31)) rfl rfl, by decide +kernel⟩
theorem cf_175 : cfR 175 5 := ⟨wat_of (q := (1, 36)) rfl rfl, by decide +kernel⟩
theorem cf_176 : cfR 176 1 := ⟨wat_of (q := (3, 35)) rfl rfl, by decide +kernel⟩
theorem cf_177 : cfR 177 2 := ⟨wat_of (q := (2, 192)) rfl rfl, by decide +kernel⟩
theorem cf_178 : cfR 178 3 := ⟨wat_of (q := (3, 40)) rfl rfl, by decide +kernel⟩
theorem cf_179 : cfR 179 3 := ⟨wat_of (q := (3, 44)) rfl rfl, by decide +kernel⟩
theorem cf_180 : cfR 180 0 := ⟨wat_of (q := (2, 153)) rfl rfl, by decide +kernel⟩
theorem cf_181 : cfR 181 3 := ⟨wat_of (q := (2, 188)) rfl rfl, by decide +kernel⟩
theorem cf_182 : cfR 182 2 := ⟨wat_of (q := (2, 180)) rfl rfl, by decide +kernel⟩
theorem cf_183 : cfR 183 3 := ⟨wat_of (q := (2, 184)) rfl rfl, by decide +kernel⟩
theorem cf_184 : cfR 184 3 := ⟨wat_of (q := (2, 208)) rfl rfl, by decide +kernel⟩
theorem cf_185 : cfR 185 2 := ⟨wat_of (q := (3, 93)) rfl rfl, by decide +kernel⟩
theorem cf_186 : cfR 186 4 := ⟨wat_of (q := (1, 83)) rfl rfl, by decide +kernel⟩
theorem cf_187 : cfR 187 1 := ⟨wat_of (q := (3, 81)) rfl rfl, by decide +kernel⟩
theorem cf_188 : cfR 188 2 := ⟨wat_of (q := (2, 145)) rfl rfl, by decide +kernel⟩
theorem cf_189 : cfR 189 0 := ⟨wat_of (q := (2, 172)) rfl rfl, by decide +kernel⟩
theorem cf_190 : cfR 190 0 := ⟨wat_of (q := (5, 72)) rfl rfl, by decide +kernel⟩
theorem cf_191 : cfR 191 0 := ⟨wat_of (q := (1, 185)) rfl rfl, by decide +kernel⟩
theorem cf_192 : cfR 192 0 := ⟨wat_of (q := (1, 181)) rfl rfl, by decide +kernel⟩
theorem cf_193 : cfR 193 0 := ⟨wat_of (q := (2, 27)) rfl rfl, by decide +kernel⟩
theorem cf_194 : cfR 194 0 := ⟨wat_of (q := (4, 79)) rfl rfl, by decide +kernel⟩
theorem cf_195 : cfR 195 4 := ⟨wat_of (q := (4, 107)) rfl rfl, by decide +kernel⟩
theorem cf_196 : cfR 196 2 := ⟨wat_of (q := (4, 103)) rfl rfl, by decide +kernel⟩
theorem cf_197 : cfR 197 3 := ⟨wat_of (q := (4, 171)) rfl rfl, by decide +kernel⟩
theorem cf_198 : cfR 198 2 := ⟨wat_of (q := (4, 211)) rfl rfl, by decide +kernel⟩
theorem cf_199 : cfR 199 1 := ⟨wat_of (q := (4, 163)) rfl rfl, by decide +kernel⟩
theorem cf_200 : cfR 200 4 := ⟨wat_of (q := (4, 219)) rfl rfl, by decide +kernel⟩
theorem cf_201 : cfR 201 3 := ⟨wat_of (q := (4, 175)) rfl rfl, by decide +kernel⟩
theorem cf_202 : cfR 202 0 := ⟨wat_of (q := (4, 179)) rfl rfl, by decide +kernel⟩
theorem cf_203 : cfR 203 0 := ⟨wat_of (q := (1, 70)) rfl rfl, by decide +kernel⟩
theorem cf_204 : cfR 204 3 := ⟨wat_of (q := (1, 79)) rfl rfl, by decide +kernel⟩
theorem cf_205 : cfR 205 1 := ⟨wat_of (q := (3, 174)) rfl rfl, by decide +kernel⟩
theorem cf_206 : cfR 206 0 := ⟨wat_of (q := (1, 177)) rfl rfl, by decide +kernel⟩
theorem cf_207 : cfR 207 1 := ⟨wat_of (q := (3, 69)) rfl rfl, by decide +kernel⟩
theorem cf_208 : cfR 208 2 := ⟨wat_of (q := (3, 190)) rfl rfl, by decide +kernel⟩
theorem cf_209 : cfR 209 1 := ⟨wat_of (q := (3, 237)) rfl rfl, by decide +kernel⟩
theorem cf_210 : cfR 210 2 := ⟨wat_of (q := (3, 233)) rfl rfl, by decide +kernel⟩
theorem cf_211 : cfR 211 1 := ⟨wat_of (q := (3, 147)) rfl rfl, by decide +kernel⟩
theorem cf_212 : cfR 212 2 := ⟨wat_of (q := (3, 151)) rfl rfl, by decide +kernel⟩
theorem cf_213 : cfR 213 1 := ⟨wat_of (q := (3, 156)) rfl rfl, by decide +kernel⟩
theorem cf_214 : cfR 214 2 := ⟨wat_of (q := (3, 220)) rfl rfl, by decide +kernel⟩
theorem cf_215 : cfR 215 2 := ⟨wat_of (q := (3, 225)) rfl rfl, by decide +kernel⟩
theorem cf_216 : cfR 216 2 := ⟨wat_of (q := (4, 2)) rfl rfl, by decide +kernel⟩
theorem cf_217 : cfR 217 0 := ⟨wat_of (q := (4, 231)) rfl rfl, by decide +kernel⟩
theorem cf_218 : cfR 218 0 := ⟨wat_of (q := (5, 52)) rfl rfl, by decide +kernel⟩
theorem cf_219 : cfR 219 0 := ⟨wat_of (q := (3, 178)) rfl rfl, by decide +kernel⟩
theorem cf_220 : cfR 220 0 := ⟨wat_of (q := (4, 34)) rfl rfl, by decide +kernel⟩
theorem cf_221 : cfR 221 0 := ⟨wat_of (q := (1, 189)) rfl rfl, by decide +kernel⟩
theorem cf_222 : cfR 222 1 := ⟨wat_of (q := (3, 182)) rfl rfl, by decide +kernel⟩
theorem cf_223 : cfR 223 1 := ⟨wat_of (q := (4, 38)) rfl rfl, by decide +kernel⟩
theorem cf_224 : cfR 224 0 := ⟨wat_of (q := (4, 111)) rfl rfl, by decide +kernel⟩
theorem cf_225 : cfR 225 0 := ⟨wat_of (q := (4, 159)) rfl rfl, by decide +kernel⟩
theorem cf_226 : cfR 226 0 := ⟨wat_of (q := (2, 21)) rfl rfl, by decide +kernel⟩
theorem cf_227 : cfR 227 2 := ⟨wat_of (q := (4, 71)) rfl rfl, by decide +kernel⟩
theorem cf_228 : cfR 228 1 := ⟨wat_of (q := (5, 56)) rfl rfl, by decide +kernel⟩
theorem cf_229 : cfR 229 2 := ⟨wat_of (q := (4, 99)) rfl rfl, by decide +kernel⟩
theorem cf_230 : cfR 230 1 := ⟨wat_of (q := (4, 75)) rfl rfl, by decide +kernel⟩
theorem cf_231 : cfR 231 1 := ⟨wat_of (q := (4, 223)) rfl rfl, by decide +kernel⟩
theorem cf_232 : cfR 232 2 := ⟨wat_of (q := (4, 91)) rfl rfl, by decide +kernel⟩
theorem cf_233 : cfR 233 1 := ⟨wat_of (q := (4, 87)) rfl rfl, by decide +kernel⟩
theorem cf_234 : cfR 234 3 := ⟨wat_of (q := (4, 83)) rfl rfl, by decide +kernel⟩
theorem cf_235 : cfR 235 2 := ⟨wat_of (q := (4, 95)) rfl rfl, by decide +kernel⟩
theorem cf_236 : cfR 236 3 := ⟨wat_of (q := (4, 167)) rfl rfl, by decide +kernel⟩
theorem cf_237 : cfR 237 1 := ⟨wat_of (q := (4, 199)) rfl rfl, by decide +kernel⟩
theorem cf_238 : cfR 238 1 := ⟨wat_of (q := (4, 202)) rfl rfl, by decide +kernel⟩
theorem cf_239 : cfR 239 5 := ⟨wat_of (q := (4, 206)) rfl rfl, by decide +kernel⟩
theorem cf_240 : cfR 240 3 := ⟨wat_of (q := (4, 215)) rfl rfl, by decide +kernel⟩
theorem cf_241 : cfR 241 2 := ⟨wat_of (q := (5, 60)) rfl rfl, by decide +kernel⟩
theorem cf_242 : cfR 242 2 := ⟨wat_of (q := (5, 64)) rfl rfl, by decide +kernel⟩
theorem cf_243 : cfR 243 2 := ⟨wat_of (q := (5, 76)) rfl rfl, by decide +kernel⟩
theorem cf_244 : cfR 244 2 := ⟨wat_of (q := (5, 68)) rfl rfl, by decide +kernel⟩
theorem cf_245 : cfR 245 0 := ⟨wat_of (q := (2, 76)) rfl rfl, by decide +kernel⟩
theorem cf_246 : cfR 246 1 := ⟨wat_of (q := (5, 92)) rfl rfl, by decide +kernel⟩
theorem cf_247 : cfR 247 1 := ⟨wat_of (q := (4, 235)) rfl rfl, by decide +kernel⟩
theorem cf_248 : cfR 248 2 := ⟨wat_of (q := (4, 239)) rfl rfl, by decide +kernel⟩
theorem cf_249 : cfR 249 1 := ⟨wat_of (q := (5, 11)) rfl rfl, by decide +kernel⟩
theorem cf_250 : cfR 250 1 := ⟨wat_of (q := (5, 20)) rfl rfl, by decide +kernel⟩
theorem cf_251 : cfR 251 1 := ⟨wat_of (q := (5, 7)) rfl rfl, by decide +kernel⟩
theorem cf_252 : cfR 252 1 := ⟨wat_of (q := (5, 3)) rfl rfl, by decide +kernel⟩
theorem cf_253 : cfR 253 1 := ⟨wat_of (q := (5, 33)) rfl rfl, by decide +kernel⟩
theorem cf_254 : cfR 254 1 := ⟨wat_of (q := (5, 36)) rfl rfl, by decide +kernel⟩
theorem cfc_0 {x y : Nat} (h1 : 0 ≤ x) (h2 : x < 16) (h : l2 nas x = some (some y)) : cfR x y := by
  rcases (show x = 0 ∨ x = 1 ∨ x = 2 ∨ x = 3 ∨ x = 4 ∨ x = 5 ∨ x = 6 ∨ x = 7 ∨ x = 8 ∨ x = 9 ∨ x = 10 ∨ x = 11 ∨ x = 12 ∨ x = 13 ∨ x = 14 ∨ x = 15 by omega) with rfl | rfl | rfl | rfl | rfl | rfl | rfl | rfl | rfl | rfl | rfl | rfl | rfl | rfl | rfl | rfl
  · cases h
  · cases h; exact cf_1
  · cases h; exact cf_2
  · cases h; exact cf_3
  · cases h; exact cf_4
  · cases h; exact cf_5
  · cases h; exact cf_6
  · cases h; exact cf_7
  · cases h; exact cf_8
  · cases h; exact cf_9
  · cases h; exact cf_10
  · cases h; exact cf_11
  · cases h; exact cf_12
  · cases h; exact cf_13
  · cases h; exact cf_14
  · cases h; exact cf_15
theorem cfc_1 {x y : Nat} (h1 : 16 ≤ x) (h2 : x < 32) (h : l2 nas x = some (some y)) : cfR x y := by
  rcases (show x = 16 ∨ x = 17 ∨ x = 18 ∨ x = 19 ∨ x = 20 ∨ x = 21 ∨ x = 22 ∨ x = 23 ∨ x = 24 ∨ x = 25 ∨ x = 26 ∨ x = 27 ∨ x = 28 ∨ x = 29 ∨ x = 30 ∨ x = 31 by omega) with rfl | rfl | rfl | rfl | rfl | rfl | rfl | rfl | rfl | rfl | rfl | rfl | rfl | rfl | rfl | rfl
  · cases h; exact cf_16
  · cases h; exact cf_17
  · cases h; exact cf_18
  · cases h; exact cf_19
  · cases h; exact cf_20
  · cases h; exact cf_21
  · cases h; exact cf_22
  · cases h; exact cf_23
  · cases h; exact cf_24
  · cases h; exact cf_25
  · cases h; exact cf_26
  · cases h; exact cf_27
  · cases h; exact cf_28
  · cases h; exact cf_29
  · cases h; exact cf_30
  · cases h; exact cf_31
theorem cfc_2 {x y : Nat} (h1 : 32 ≤ x) (h2 : x < 48) (h : l2 nas x = some (some y)) : cfR x y := by
  rcases (show x = 32 ∨ x = 33 ∨ x = 34 ∨ x = 35 ∨ x = 36 ∨ x = 37 ∨ x = 38 ∨ x = 39 ∨ x = 40 ∨ x = 41 ∨ x = 42 ∨ x = 43 ∨ x = 44 ∨ x = 45 ∨ x = 46 ∨ x = 47 by omega) with rfl | rfl | rfl | rfl | rfl | rfl | rfl | rfl | rfl | rfl | rfl | rfl | rfl | rfl | rfl | rfl
  · cases h; exact cf_32
  · cases h; exact cf_33
  · cases h; exact cf_34
  · cases h; exact cf_35
  · cases h; exact cf_36
  · cases h; exact cf_37
  · cases h; exact cf_38
  · cases h; exact cf_39
  · cases h; exact cf_40
  · cases h; exact cf_41
  · cases h; exact cf_42
  · cases h; exact cf_43
  · cases h; exact cf_44
  · cases h; exact cf_45
  · cases h; exact cf_46
  · cases h; exact cf_47
theorem cfc_3 {x y : Nat} (h1 : 48 ≤ x) (h2 : x < 64) (h : l2 nas x = some (some y)) : cfR x y := by
  rcases (show x = 48 ∨ x = 49 ∨ x = 50 ∨ x = 51 ∨ x = 52 ∨ x = 53 ∨ x = 54 ∨ x = 55 ∨ x = 56 ∨ x = 57 ∨ x = 58 ∨ x = 59 ∨ x = 60 ∨ x = 61 ∨ x = 62 ∨ x = 63 by omega) with rfl | rfl | rfl | rfl | rfl | rfl | rfl | rfl | rfl | rfl | rfl | rfl | rfl | rfl | rfl | rfl
  · cases h; exact cf_48
  · cases h; exact cf_49
  · cases h; exact cf_50
  · cases h; exact cf_51
  · cases h; exact cf_52
  · cases h; exact cf_53
  · cases h; exact cf_54
  · cases h; exact cf_55
  · cases h; exact cf_56
  · cases h; exact cf_57
  · cases h; exact cf_58
  · cases h; exact cf_59
  · cases h; exact cf_60
  · cases h; exact cf_61
  · cases h; exact cf_62
  · cases h; exact cf_63
theorem cfc_4 {x y : Nat} (h1 : 64 ≤ x) (h2 : x < 80) (h : l2 nas x = some (some y)) : cfR x y := by
  rcases (show x = 64 ∨ x = 65 ∨ x = 66 ∨ x = 67 ∨ x = 68 ∨ x = 69 ∨ x = 70 ∨ x = 71 ∨ x = 72 ∨ x = 73 ∨ x = 74 ∨ x = 75 ∨ x = 76 ∨ x = 77 ∨ x = 78 ∨ x = 79 by omega) with rfl | rfl | rfl | rfl | rfl | rfl | rfl | rfl | rfl | rfl | rfl | rfl | rfl | rfl | rfl | rfl
  · cases h; exact cf_64
  · cases h; exact cf_65
  · cases h; exact cf_66
  · cases h; exact cf_67
  · cases h; exact cf_68
  · cases h; exact cf_69
  · cases h; exact cf_70
  · cases h; exact cf_71
  · cases h; exact cf_72
  · cases h; exact cf_73
  · cases h; exact cf_74
  · cases h; exact cf_75
  · cases h; exact cf_76
  · cases h; exact cf_77
  · cases h; exact cf_78
  · cases h; exact cf_79
theorem cfc_5 {x y : Nat} (h1 : 80 ≤ x) (h2 : x < 96) (h : l2 nas x = some (some y)) : cfR x y := by
  rcases (show x = 80 ∨ x = 81 ∨ x = 82 ∨ x = 83 ∨ x = 84 ∨ x = 85 ∨ x = 86 ∨ x = 87 ∨ x = 88 ∨ x = 89 ∨ x = 90 ∨ x = 91 ∨ x = 92 ∨ x = 93 ∨ x = 94 ∨ x = 95 by omega) with rfl | rfl | rfl | rfl | rfl | rfl | rfl | rfl | rfl | rfl | rfl | rfl | rfl | rfl | rfl | rfl
  · cases h; exact cf_80
  · cases h; exact cf_81
  · cases h; exact cf_82
  · cases h; exact cf_83
  · cases h; exact cf_84
  · cases h; exact cf_85
  · cases h; exact cf_86
  · cases h; exact cf_87
  · cases h; exact cf_88
  · cases h; exact cf_89
  · cases h; exact cf_90
  · cases h; exact cf_91
  · cases h; exact cf_92
  · cases h; exact cf_93
  · cases h; exact cf_94
  · cases h; exact cf_95
theorem cfc_6 {x y : Nat} (h1 : 96 ≤ x) (h2 : x < 112) (h : l2 nas x = some (some y)) : cfR x y := by
  rcases (show x = 96 ∨ x = 97 ∨ x = 98 ∨ x = 99 ∨ x = 100 ∨ x = 101 ∨ x = 102 ∨ x = 103 ∨ x = 104 ∨ x = 105 ∨ x = 106 ∨ x = 107 ∨ x = 108 ∨ x = 109 ∨ x = 110 ∨ x = 111 by omega) with rfl | rfl | rfl | rfl | rfl | rfl | rfl | rfl | rfl | rfl | rfl | rfl | rfl | rfl | rfl | rfl
  · cases h; exact cf_96
  · cases h; exact cf_97
  · cases h; exact cf_98
  · cases h; exact cf_99
  · cases h; exact cf_100
  · cases h; exact cf_101
  · cases h; exact cf_102
  · cases h; exact cf_103
  · cases h; exact cf_104
  · cases h; exact cf_105
  · cases h; exact cf_106
  · cases h; exact cf_107
  · cases h; exact cf_108
  · cases h; exact cf_109
  · cases h; exact cf_110
  · cases h; exact cf_111
theorem cfc_7 {x y : Nat} (h1 : 112 ≤ x) (h2 : x < 128) (h : l2 nas x = some (some y)) : cfR x y := by
  rcases (show x = 112 ∨ x = 113 ∨ x = 114 ∨ x = 115 ∨ x = 116 ∨ x = 117 ∨ x = 118 ∨ x = 119 ∨ x = 120 ∨ x = 121 ∨ x = 122 ∨ x = 123 ∨ x = 124 ∨ x = 125 ∨ x = 126 ∨ x = 127 by omega) with rfl | rfl | rfl | rfl | rfl | rfl | rfl | rfl | rfl | rfl | rfl | rfl | rfl | rfl | rfl | rfl
  · cases h; exact cf_112
  · cases h; exact cf_113
  · cases h; exact cf_114
  · cases h; exact cf_115
  · cases h; exact cf_116
  · cases h; exact cf_117
  · cases h; exact cf_118
  · cases h; exact cf_119
  · cases h; exact cf_120
  · cases h; exact cf_121
  · cases h; exact cf_122
  · cases h; exact cf_123
  · cases h; exact cf_124
  · cases h; exact cf_125
  · cases h; exact cf_126
  · cases h; exact cf_127
theorem cfc_8 {x y : Nat} (h1 : 128 ≤ x) (h2 : x < 144) (h : l2 nas x = some (some y)) : cfR x y := by
  rcases (show x = 128 ∨ x = 129 ∨ x = 130 ∨ x = 131 ∨ x = 132 ∨ x = 133 ∨ x = 134 ∨ x = 135 ∨ x = 136 ∨ x = 137 ∨ x = 138 ∨ x = 139 ∨ x = 140 ∨ x = 141 ∨ x = 142 ∨ x = 143 by omega) with rfl | rfl | rfl | rfl | rfl | rfl | rfl | rfl | rfl | rfl | rfl | rfl | rfl | rfl | rfl | rfl
  · cases h; exact cf_128
  · cases h; exact cf_129
  · cases h; exact cf_130
  · cases h; exact cf_131
  · cases h; exact cf_132
  · cases h; exact cf_133
  · cases h; exact cf_134
  · cases h; exact cf_135
  · cases h; exact cf_136
  · cases h; exact cf_137
  · cases h; exact cf_138
  · cases h; exact cf_139
  · cases h; exact cf_140
  · cases h; exact cf_141
  · cases h; exact cf_142
  · cases h; exact cf_143
theorem cfc_9 {x y : Nat} (h1 : 144 ≤ x) (h2 : x < 160) (h : l2 nas x = some (some y)) : cfR x y := by
  rcases (show x = 144 ∨ x = 145 ∨ x = 146 ∨ x = 147 ∨ x = 148 ∨ x = 149 ∨ x = 150 ∨ x = 151 ∨ x = 152 ∨ x = 153 ∨ x = 154 ∨ x = 155 ∨ x = 156 ∨ x = 157 ∨ x = 158 ∨ x = 159 by omega) with rfl | rfl | rfl | rfl | rfl | rfl | rfl | rfl | rfl | rfl | rfl | rfl | rfl | rfl | rfl | rfl
  · cases h; exact cf_144
  · cases h; exact cf_145
  · cases h; exact cf_146
  · cases h; exact cf_147
  · cases h; exact cf_148
  · cases h; exact cf_149
  · cases h; exact cf_150
  · cases h; exact cf_151
  · cases h; exact cf_152
  · cases h; exact cf_153
  · cases h; exact cf_154
  · cases h; exact cf_155
  · cases h; exact cf_156
  · cases h; exact cf_157
  · cases h; exact cf_158
  · cases h; exact cf_159
theorem cfc_10 {x y : Nat} (h1 : 160 ≤ x) (h2 : x < 176) (h : l2 nas x = some (some y)) : cfR x y := by
  rcases (show x = 160 ∨ x = 161 ∨ x = 162 ∨ x = 163 ∨ x = 164 ∨ x = 165 ∨ x = 166 ∨ x = 167 ∨ x = 168 ∨ x = 169 ∨ x = 170 ∨ x = 171 ∨ x = 172 ∨ x = 173 ∨ x = 174 ∨ x = 175 by omega) with rfl | rfl | rfl | rfl | rfl | rfl | rfl | rfl | rfl | rfl | rfl | rfl | rfl | rfl | rfl | rfl
  · cases h; exact cf_160
  · cases h; exact cf_161
  · cases h; exact cf_162
  · cases h; exact cf_163
  · cases h; exact cf_164
  · cases h; exact cf_165
  · cases h; exact cf_166
  · cases h; exact cf_167
  · cases h; exact cf_168
  · cases h; exact cf_169
  · cases h; exact cf_170
  · cases h; exact cf_171
  · cases h; exact cf_172
  · cases h; exact cf_173
  · cases h; exact cf_174
  · cases h; exact cf_175
theorem cfc_11 {x y : Nat} (h1 : 176 ≤ x) (h2 : x < 192) (h : l2 nas x = some (some y)) : cfR x y := by
  rcases (show x = 176 ∨ x = 177 ∨ x = 178 ∨ x = 179 ∨ x = 180 ∨ x = 181 ∨ x = 182 ∨ x = 183 ∨ x = 184 ∨ x = 185 ∨ x = 186 ∨ x = 187 ∨ x = 188 ∨ x = 189 ∨ x = 190 ∨ x = 191 by omega) with rfl | rfl | rfl | rfl | rfl | rfl | rfl | rfl | rfl | rfl | rfl | rfl | rfl | rfl | rfl | rfl
  · cases h; exact cf_176
  · cases h; exact cf_177
  · cases h; exact cf_178
  · cases h; exact cf_179
  · cases h; exact cf_180
  · cases h; exact cf_181
  · cases h; exact cf_182
  · cases h; exact cf_183
  · cases h; exact cf_184
  · cases h; exact cf_185
  · cases h; exact cf_186
  · cases h; exact cf_187
  · cases h; exact cf_188
  · cases h; exact cf_189
  · cases h; exact cf_190
  · cases h; exact cf_191
theorem cfc_12 {x y : Nat} (h1 : 192 ≤ x) (h2 : x < 208) (h : l2 nas x = some (some y)) : cfR x y := by
  rcases (show x = 192 ∨ x = 193 ∨ x = 194 ∨ x = 195 ∨ x = 196 ∨ x = 197 ∨ x = 198 ∨ x = 199 ∨ x = 200 ∨ x = 201 ∨ x = 202 ∨ x = 203 ∨ x = 204 ∨ x = 205 ∨ x = 206 ∨ x = 207 by omega) with rfl | rfl | rfl | rfl | rfl | rfl | rfl | rfl | rfl | rfl | rfl | rfl | rfl | rfl | rfl | rfl
  · cases h; exact cf_192
  · cases h; exact cf_193
  · cases h; exact cf_194
  · cases h; exact cf_195
  · cases h; exact cf_196
  · cases h; exact cf_197
  · cases h; exact cf_198
  · cases h; exact cf_199
  · cases h; exact cf_200
  · cases h; exact cf_201
  · cases h; exact cf_202
  · cases h; exact cf_203
  · cases h; exact cf_204
  · cases h; exact cf_205
  · cases h; exact cf_206
  · cases h; exact cf_207
theorem cfc_13 {x y : Nat} (h1 : 208 ≤ x) (h2 : x < 224) (h : l2 nas x = some (some y)) : cfR x y := by
  rcases (show x = 208 ∨ x = 209 ∨ x = 210 ∨ x = 211 ∨ x = 212 ∨ x = 213 ∨ x = 214 ∨ x = 215 ∨ x = 216 ∨ x = 217 ∨ x = 218 ∨ x = 219 ∨ x = 220 ∨ x = 221 ∨ x = 222 ∨ x = 223 by omega) with rfl | rfl | rfl | rfl | rfl | rfl | rfl | rfl | rfl | rfl | rfl | rfl | rfl | rfl | rfl | rfl
  · cases h; exact cf_208
  · cases h; exact cf_209
  · cases h; exact cf_210
  · cases h; exact cf_211
  · cases h; exact cf_212
  · cases h; exact cf_213
  · cases h; exact cf_214
  · cases h; exact cf_215
  · cases h; exact cf_216
  · cases h; exact cf_217
  · cases h; exact cf_218
  · cases h; exact cf_219
  · cases h; exact cf_220
  · cases h; exact cf_221
  · cases h; exact cf_222
  · cases h; exact cf_223
theorem cfc_14 {x y : Nat} (h1 : 224 ≤ x) (h2 : x < 240) (h : l2 nas x = some (some y)) : cfR x y := by
  rcases (show x = 224 ∨ x = 225 ∨ x = 226 ∨ x = 227 ∨ x = 228 ∨ x = 229 ∨ x = 230 ∨ x = 231 ∨ x = 232 ∨ x = 233 ∨ x = 234 ∨ x = 235 ∨ x = 236 ∨ x = 237 ∨ x = 238 ∨ x = 239 by omega) with rfl | rfl | rfl | rfl | rfl | rfl | rfl | rfl | rfl | rfl | rfl | rfl | rfl | rfl | rfl | rfl
  · cases h; exact cf_224
  · cases h; exact cf_225
  · cases h; exact cf_226
  · cases h; exact cf_227
  · cases h; exact cf_228
  · cases h; exact cf_229
  · cases h; exact cf_230
  · cases h; exact cf_231
  · cases h; exact cf_232
  · cases h; exact cf_233
  · cases h; exact cf_234
  · cases h; exact cf_235
  · cases h; exact cf_236
  · cases h; exact cf_237
  · cases h; exact cf_238
  · cases h; exact cf_239
theorem cfc_15 {x y : Nat} (h1 : 240 ≤ x) (h2 : x < 256) (h : l2 nas x = some (some y)) : cfR x y := by
  rcases (show x = 240 ∨ x = 241 ∨ x = 242 ∨ x = 243 ∨ x = 244 ∨ x = 245 ∨ x = 246 ∨ x = 247 ∨ x = 248 ∨ x = 249 ∨ x = 250 ∨ x = 251 ∨ x = 252 ∨ x = 253 ∨ x = 254 ∨ x = 255 by omega) with rfl | rfl | rfl | rfl | rfl | rfl | rfl | rfl | rfl | rfl | rfl | rfl | rfl | rfl | rfl | rfl
  · cases h; exact cf_240
  · cases h; exact cf_241
  · cases h; exact cf_242
  · cases h; exact cf_243
  · cases h; exact cf_244
  · cases h; exact cf_245
  · cases h; exact cf_246
  · cases h; exact cf_247
  · cases h; exact cf_248
  · cases h; exact cf_249
  · cases h; exact cf_250
  · cases h; exact cf_251
  · cases h; exact cf_252
  · cases h; exact cf_253
  · cases h; exact cf_254
  · cases h
theorem cf_all {x y : Nat} (h : l2 nas x = some (some y)) : cfR x y := by
  by_cases h0 : x < 16
  · exact cfc_0 (by omega) (by omega) h
  by_cases h1 : x < 32
  · exact cfc_1 (by omega) (by omega) h
  by_cases h2 : x < 48
  · exact cfc_2 (by omega) (by omega) h
  by_cases h3 : x < 64
  · exact cfc_3 (by omega) (by omega) h
  by_cases h4 : x < 80
  · exact cfc_4 (by omega) (by omega) h
  by_cases h5 : x < 96
  · exact cfc_5 (by omega) (by omega) h
  by_cases h6 : x < 112
  · exact cfc_6 (by omega) (by omega) h
  by_cases h7 : x < 128
  · exact cfc_7 (by omega) (by omega) h
  by_cases h8 : x < 144
  · exact cfc_8 (by omega) (by omega) h
  by_cases h9 : x < 160
  · exact cfc_9 (by omega) (by omega) h
  by_cases h10 : x < 176
  · exact cfc_10 (by omega) (by omega) h
  by_cases h11 : x < 192
  · exact cfc_11 (by omega) (by omega) h
  by_cases h12 : x < 208
  · exact cfc_12 (by omega) (by omega) h
  by_cases h13 : x < 224
  · exact cfc_13 (by omega) (by omega) h
  by_cases h14 : x < 240
  · exact cfc_14 (by omega) (by omega) h
  by_cases h15 : x < 256
  · exact cfc_15 (by omega) (by omega) h
  exfalso
  unfold l2 at h
  by_cases q : 16 ≤ x / 16
  · rw [List.getElem?_eq_none (show nas.length ≤ x / 16 from q)] at h; cases h
  · rw [show x / 16 = 15 by omega] at h
    have h : ([some 3, some 2, some 2, some 2, some 2, some 0, some 1, some 1, some 2, some 1, some 1, some 1, some 1, some 1, some 1, none] : List (Option Nat))[x % 16]? = some (some y) := h
    rw [List.getElem?_eq_none (show 16 ≤ x % 16 by omega)] at h
    cases h
theorem mlr_0_0 : rowM 0 0 = true := by decide +kernel
theorem mlr_0_1 : rowM 0 1 = true := by decide +kernel
theorem mlr_0_2 : rowM 0 2 = true := by decide +kernel
theorem mlr_0_3 : rowM 0 3 = true := by decide +kernel
theorem mlr_0_4 : rowM 0 4 = true := by decide +kernel
theorem mlr_0_5 : rowM 0 5 = true := by decide +kernel
theorem mlr_0_6 : rowM 0 6 = true := by decide +kernel
theorem mlr_0_7 : rowM 0 7 = true := by decide +kernel
theorem mlr_0_8 : rowM 0 8 = true := by decide +kernel
theorem mlr_0_9 : rowM 0 9 = true := by decide +kernel
theorem mlr_0_10 : rowM 0 10 = true := by decide +kernel
theorem mlr_0_11 : rowM 0 11 = true := by decide +kernel
theorem mlr_0_12 : rowM 0 12 = true := by decide +kernel
theorem mlr_0_13 : rowM 0 13 = true := by decide +kernel
theorem mlr_0_14 : rowM 0 14 = true := by decide +kernel
theorem mlr_0_15 : rowM 0 15 = true := by decide +kernel
theorem mlr_0_16 : rowM 0 16 = true := by decide +kernel
theorem mlr_0_17 : rowM 0 17 = true := by decide +kernel
theorem mlr_0_18 : rowM 0 18 = true := by decide +kernel
theorem mlr_0_19 : rowM 0 19 = true := by decide +kernel
theorem mlr_0_20 : rowM 0 20 = true := by decide +kernel
theorem mlr_0_21 : rowM 0 21 = true := by decide +kernel
theorem mlr_0_22 : rowM 0 22 = true := by decide +kernel
theorem mla_0 (a : Nat) : rowM 0 a = true := by
  by_cases h0 : a = 0
  · rw [h0]; exact mlr_0_0
  by_cases h1 : a = 1
  · rw [h1]; exact mlr_0_1
  by_cases h2 : a = 2
  · rw [h2]; exact mlr_0_2
  by_cases h3 : a = 3
  · rw [h3]; exact mlr_0_3
  by_cases h4 : a = 4
  · rw [h4]; exact mlr_0_4
  by_cases h5 : a = 5
  · rw [h5]; exact mlr_0_5
  by_cases h6 : a = 6
  · rw [h6]; exact mlr_0_6
  by_cases h7 : a = 7
  · rw [h7]; exact mlr_0_7
  by_cases h8 : a = 8
  · rw [h8]; exact mlr_0_8
  by_cases h9 : a = 9
  · rw [h9]; exact mlr_0_9
  by_cases h10 : a = 10
  · rw [h10]; exact mlr_0_10
  by_cases h11 : a = 11
  · rw [h11]; exact mlr_0_11
  by_cases h12 : a = 12
  · rw [h12]; exact mlr_0_12
  by_cases h13 : a = 13
  · rw [h13]; exact mlr_0_13
  by_cases h14 : a = 14
  · rw [h14]; exact mlr_0_14
  by_cases h15 : a = 15
  · rw [h15]; exact mlr_0_15
  by_cases h16 : a = 16
  · rw [h16]; exact mlr_0_16
  by_cases h17 : a = 17
  · rw [h17]; exact mlr_0_17
  by_cases h18 : a = 18
  · rw [h18]; exact mlr_0_18
  by_cases h19 : a = 19
  · rw [h19]; exact mlr_0_19
  by_cases h20 : a = 20
  · rw [h20]; exact mlr_0_20
  by_cases h21 : a = 21
  · rw [h21]; exact mlr_0_21
  by_cases h22 : a = 22
  · rw [h22]; exact mlr_0_22
  exact rowM_out (show (mlt 0).length ≤ a from (by show 23 ≤ a; omega))
theorem mlr_1_0 : rowM 1 0 = true := by decide +kernel
theorem mlr_1_1 : rowM 1 1 = true := by decide +kernel
theorem mlr_1_2 : rowM 1 2 = true := by decide +kernel
theorem mlr_1_3 : rowM 1 3 = true := by decide +kernel
theorem mlr_1_4 : rowM 1 4 = true := by decide +kernel
theorem mla_1 (a : Nat) : rowM 1 a = true := by
  by_cases h0 : a = 0
  · rw [h0]; exact mlr_1_0
  by_cases h1 : a = 1
  · rw [h1]; exact mlr_1_1
  by_cases h2 : a = 2
  · rw [h2]; exact mlr_1_2
  by_cases h3 : a = 3
  · rw [h3]; exact mlr_1_3
  by_cases h4 : a = 4
  · rw [h4]; exact mlr_1_4
  exact rowM_out (show (mlt 1).length ≤ a from (by show 5 ≤ a; omega))
theorem mlr_2_0 : rowM 2 0 = true := by decide +kernel
theorem mlr_2_1 : rowM 2 1 = true := by decide +kernel
theorem mlr_2_2 : rowM 2 2 = true := by decide +kernel
theorem mlr_2_3 : rowM 2 3 = true := by decide +kernel
theorem mlr_2_4 : rowM 2 4 = true := by decide +kernel
theorem mlr_2_5 : rowM 2 5 = true := by decide +kernel
theorem mlr_2_6 : rowM 2 6 = true := by decide +kernel
theorem mlr_2_7 : rowM 2 7 = true := by decide +kernel
theorem mla_2 (a : Nat) : rowM 2 a = true := by
  by_cases h0 : a = 0
  · rw [h0]; exact mlr_2_0
  by_cases h1 : a = 1
  · rw [h1]; exact mlr_2_1
  by_cases h2 : a = 2
  · rw [h2]; exact mlr_2_2
  by_cases h3 : a = 3
  · rw [h3]; exact mlr_2_3
  by_cases h4 : a = 4
  · rw [h4]; exact mlr_2_4
  by_cases h5 : a = 5
  · rw [h5]; exact mlr_2_5
  by_cases h6 : a = 6
  · rw [h6]; exact mlr_2_6
  by_cases h7 : a = 7
  · rw [h7]; exact mlr_2_7
  exact rowM_out (show (mlt 2).length ≤ a from (by show 8 ≤ a; omega))
theorem mlr_3_0 : rowM 3 0 = true := by decide +kernel
theorem mlr_3_1 : rowM 3 1 = true := by decide +kernel
theorem mlr_3_2 : rowM 3 2 = true := by decide +kernel
theorem mlr_3_3 : rowM 3 3 = true := by decide +kernel
theorem mla_3 (a : Nat) : rowM 3 a = true := by
  by_cases h0 : a = 0
  · rw [h0]; exact mlr_3_0
  by_cases h1 : a = 1
  · rw [h1]; exact mlr_3_1
  by_cases h2 : a = 2
  · rw [h2]; exact mlr_3_2
  by_cases h3 : a = 3
  · rw [h3]; exact mlr_3_3
  exact rowM_out (show (mlt 3).length ≤ a from (by show 4 ≤ a; omega))
theorem mlr_4_0 : rowM 4 0 = true := by decide +kernel
theorem mlr_4_1 : rowM 4 1 = true := by decide +kernel
theorem mlr_4_2 : rowM 4 2 = true := by decide +kernel
theorem mlr_4_3 : rowM 4 3 = true := by decide +kernel
theorem mla_4 (a : Nat) : rowM 4 a = true := by
  by_cases h0 : a = 0
  · rw [h0]; exact mlr_4_0
  by_cases h1 : a = 1
  · rw [h1]; exact mlr_4_1
  by_cases h2 : a = 2
  · rw [h2]; exact mlr_4_2
  by_cases h3 : a = 3
  · rw [h3]; exact mlr_4_3
  exact rowM_out (show (mlt 4).length ≤ a from (by show 4 ≤ a; omega))
theorem mlr_5_0 : rowM 5 0 = true := by decide +kernel
theorem mlr_5_1 : rowM 5 1 = true := by decide +kernel
theorem mlr_5_2 : rowM 5 2 = true := by decide +kernel
theorem mlr_5_3 : rowM 5 3 = true := by decide +kernel
theorem mlr_5_4 : rowM 5 4 = true := by decide +kernel
theorem mla_5 (a : Nat) : rowM 5 a = true := by
  by_cases h0 : a = 0
  · rw [h0]; exact mlr_5_0
  by_cases h1 : a = 1
  · rw [h1]; exact mlr_5_1
  by_cases h2 : a = 2
  · rw [h2]; exact mlr_5_2
  by_cases h3 : a = 3
  · rw [h3]; exact mlr_5_3
  by_cases h4 : a = 4
  · rw [h4]; exact mlr_5_4
  exact rowM_out (show (mlt 5).length ≤ a from (by show 5 ≤ a; omega))
theorem mlr_6_0 : rowM 6 0 = true := by decide +kernel
theorem mlr_6_1 : rowM 6 1 = true := by decide +kernel
theorem mla_6 (a : Nat) : rowM 6 a = true := by
  by_cases h0 : a = 0
  · rw [h0]; exact mlr_6_0
  by_cases h1 : a = 1
  · rw [h1]; exact mlr_6_1
  exact rowM_out (show (mlt 6).length ≤ a from (by show 2 ≤ a; omega))
theorem mlr_7_0 : rowM 7 0 = true := by decide +kernel
theorem mlr_7_1 : rowM 7 1 = true := by decide +kernel
theorem mlr_7_2 : rowM 7 2 = true := by decide +kernel
theorem mlr_7_3 : rowM 7 3 = true := by decide +kernel
theorem mlr_7_4 : rowM 7 4 = true := by decide +kernel
theorem mlr_7_5 : rowM 7 5 = true := by decide +kernel
theorem mlr_7_6 : rowM 7 6 = true := by decide +kernel
theorem mlr_7_7 : rowM 7 7 = true := by decide +kernel
theorem mla_7 (a : Nat) : rowM 7 a = true := by
  by_cases h0 : a = 0
  · rw [h0]; exact mlr_7_0
  by_cases h1 : a = 1
  · rw [h1]; exact mlr_7_1
  by_cases h2 : a = 2
  · rw [h2]; exact mlr_7_2
  by_cases h3 : a = 3
  · rw [h3]; exact mlr_7_3
  by_cases h4 : a = 4
  · rw [h4]; exact mlr_7_4
  by_cases h5 : a = 5
  · rw [h5]; exact mlr_7_5
  by_cases h6 : a = 6
  · rw [h6]; exact mlr_7_6
  by_cases h7 : a = 7
  · rw [h7]; exact mlr_7_7
  exact rowM_out (show (mlt 7).length ≤ a from (by show 8 ≤ a; omega))
theorem mlr_8_0 : rowM 8 0 = true := by decide +kernel
theorem mlr_8_1 : rowM 8 1 = true := by decide +kernel
theorem mlr_8_2 : rowM 8 2 = true := by decide +kernel
theorem mlr_8_3 : rowM 8 3 = true := by decide +kernel
theorem mla_8 (a : Nat) : rowM 8 a = true := by
  by_cases h0 : a = 0
  · rw [h0]; exact mlr_8_0
  by_cases h1 : a = 1
  · rw [h1]; exact mlr_8_1
  by_cases h2 : a = 2
  · rw [h2]; exact mlr_8_2
  by_cases h3 : a = 3
  · rw [h3]; exact mlr_8_3
  exact rowM_out (show (mlt 8).length ≤ a from (by show 4 ≤ a; omega))
theorem mlr_9_0 : rowM 9 0 = true := by decide +kernel
theorem mlr_9_1 : rowM 9 1 = true := by decide +kernel
theorem mla_9 (a : Nat) : rowM 9 a = true := by
  by_cases h0 : a = 0
  · rw [h0]; exact mlr_9_0
  by_cases h1 : a = 1
  · rw [h1]; exact mlr_9_1
  exact rowM_out (show (mlt 9).length ≤ a from (by show 2 ≤ a; omega))
theorem mlr_10_0 : rowM 10 0 = true := by decide +kernel
theorem mlr_10_1 : rowM 10 1 = true := by decide +kernel
theorem mlr_10_2 : rowM 10 2 = true := by decide +kernel
theorem mlr_10_3 : rowM 10 3 = true := by decide +kernel
theorem mlr_10_4 : rowM 10 4 = true := by decide +kernel
theorem mlr_10_5 : rowM 10 5 = true := by decide +kernel
theorem mlr_10_6 : rowM 10 6 = true := by decide +kernel
theorem mlr_10_7 : rowM 10 7 = true := by decide +kernel
theorem mlr_10_8 : rowM 10 8 = true := by decide +kernel
theorem mlr_10_9 : rowM 10 9 = true := by decide +kernel
theorem mlr_10_10 : rowM 10 10 = true := by decide +kernel
theorem mlr_10_11 : rowM 10 11 = true := by decide +kernel
theorem mla_10 (a : Nat) : rowM 10 a = true := by
  by_cases h0 : a = 0
  · rw [h0]; exact mlr_10_0
  by_cases h1 : a = 1
  · rw [h1]; exact mlr_10_1
  by_cases h2 : a = 2
  · rw [h2]; exact mlr_10_2
  by_cases h3 : a = 3
  · rw [h3]; exact mlr_10_3
  by_cases h4 : a = 4
  · rw [h4]; exact mlr_10_4
  by_cases h5 : a = 5
  · rw [h5]; exact mlr_10_5
  by_cases h6 : a = 6
  · rw [h6]; exact mlr_10_6
  by_cases h7 : a = 7
  · rw [h7]; exact mlr_10_7
  by_cases h8 : a = 8
  · rw [h8]; exact mlr_10_8
  by_cases h9 : a = 9
  · rw [h9]; exact mlr_10_9
  by_cases h10 : a = 10
  · rw [h10]; exact mlr_10_10
  by_cases h11 : a = 11
  · rw [h11]; exact mlr_10_11
  exact rowM_out (show (mlt 10).length ≤ a from (by show 12 ≤ a; omega))
theorem mlr_11_0 : rowM 11 0 = true := by decide +kernel
theorem mlr_11_1 : rowM 11 1 = true := by decide +kernel
theorem mlr_11_2 : rowM 11 2 = true := by decide +kernel
theorem mlr_11_3 : rowM 11 3 = true := by decide +kernel
theorem mlr_11_4 : rowM 11 4 = true := by decide +kernel
theorem mlr_11_5 : rowM 11 5 = true := by decide +kernel
theorem mlr_11_6 : rowM 11 6 = true := by decide +kernel
theorem mlr_11_7 : rowM 11 7 = true := by decide +kernel
theorem mla_11 (a : Nat) : rowM 11 a = true := by
  by_cases h0 : a = 0
  · rw [h0]; exact mlr_11_0
  by_cases h1 : a = 1
  · rw [h1]; exact mlr_11_1
  by_cases h2 : a = 2
  · rw [h2]; exact mlr_11_2
  by_cases h3 : a = 3
  · rw [h3]; exact mlr_11_3
  by_cases h4 : a = 4
  · rw [h4]; exact mlr_11_4
  by_cases h5 : a = 5
  · rw [h5]; exact mlr_11_5
  by_cases h6 : a = 6
  · rw [h6]; exact mlr_11_6
  by_cases h7 : a = 7
  · rw [h7]; exact mlr_11_7
  exact rowM_out (show (mlt 11).length ≤ a from (by show 8 ≤ a; omega))
theorem mlr_12_0 : rowM 12 0 = true := by decide +kernel
theorem mlr_12_1 : rowM 12 1 = true := by decide +kernel
theorem mlr_12_2 : rowM 12 2 = true := by decide +kernel
theorem mlr_12_3 : rowM 12 3 = true := by decide +kernel
theorem mlr_12_4 : rowM 12 4 = true := by decide +kernel
theorem mlr_12_5 : rowM 12 5 = true := by decide +kernel
theorem mlr_12_6 : rowM 12 6 = true := by decide +kernel
theorem mlr_12_7 : rowM 12 7 = true := by decide +kernel
theorem mlr_12_8 : rowM 12 8 = true := by decide +kernel
theorem mlr_12_9 : rowM 12 9 = true := by decide +kernel
theorem mlr_12_10 : rowM 12 10 = true := by decide +kernel
theorem mlr_12_11 : rowM 12 11 = true := by decide +kernel
theorem mlr_12_12 : rowM 12 12 = true := by decide +kernel
theorem mlr_12_13 : rowM 12 13 = true := by decide +kernel
theorem mlr_12_14 : rowM 12 14 = true := by decide +kernel
theorem mlr_12_15 : rowM 12 15 = true := by decide +kernel
theorem mlr_12_16 : rowM 12 16 = true := by decide +kernel
theorem mlr_12_17 : rowM 12 17 = true := by decide +kernel
theorem mlr_12_18 : rowM 12 18 = true := by decide +kernel
theorem mlr_12_19 : rowM 12 19 = true := by decide +kernel
theorem mlr_12_20 : rowM 12 20 = true := by decide +kernel
theorem mlr_12_21 : rowM 12 21 = true := by decide +kernel
theorem mlr_12_22 : rowM 12 22 = true := by decide +kernel
theorem mlr_12_23 : rowM 12 23 = true := by decide +kernel
theorem mlr_12_24 : rowM 12 24 = true := by decide +kernel
theorem mlr_12_25 : rowM 12 25 = true := by decide +kernel
theorem mlr_12_26 : rowM 12 26 = true := by decide +kernel
theorem mlr_12_27 : rowM 12 27 = true := by decide +kernel
theorem mlr_12_28 : rowM 12 28 = true := by decide +kernel
theorem mlr_12_29 : rowM 12 29 = true := by decide +kernel
theorem mla_12 (a : Nat) : rowM 12 a = true := by
  by_cases h0 : a = 0
  · rw [h0]; exact mlr_12_0
  by_cases h1 : a = 1
  · rw [h1]; exact mlr_12_1
  by_cases h2 : a = 2
  · rw [h2]; exact mlr_12_2
  by_cases h3 : a = 3
  · rw [h3]; exact mlr_12_3
  by_cases h4 : a = 4
  · rw [h4]; exact mlr_12_4
  by_cases h5 : a = 5
  · rw [h5]; exact mlr_12_5
  by_cases h6 : a = 6
  · rw [h6]; exact mlr_12_6
  by_cases h7 : a = 7
  · rw [h7]; exact mlr_12_7
  by_cases h8 : a = 8
  · rw [h8]; exact mlr_12_8
  by_cases h9 : a = 9
  · rw [h9]; exact mlr_12_9
  by_cases h10 : a = 10
  · rw [h10]; exact mlr_12_10
  by_cases h11 : a = 11
  · rw [h11]; exact mlr_12_11
  by_cases h12 : a = 12
  · rw [h12]; exact mlr_12_12
  by_cases h13 : a = 13
  · rw [h13]; exact mlr_12_13
  by_cases h14 : a = 14
  · rw [h14]; exact mlr_12_14
  by_cases h15 : a = 15
  · rw [h15]; exact mlr_12_15
  by_cases h16 : a = 16
  · rw [h16]; exact mlr_12_16
  by_cases h17 : a = 17
  · rw [h17]; exact mlr_12_17
  by_cases h18 : a = 18
  · rw [h18]; exact mlr_12_18
  by_cases h19 : a = 19
  · rw [h19]; exact mlr_12_19
  by_cases h20 : a = 20
  · rw [h20]; exact mlr_12_20
  by_cases h21 : a = 21
  · rw [h21]; exact mlr_12_21
  by_cases h22 : a = 22
  · rw [h22]; exact mlr_12_22
  by_cases h23 : a = 23
  · rw [h23]; exact mlr_12_23
  by_cases h24 : a = 24
  · rw [h24]; exact mlr_12_24
  by_cases h25 : a = 25
  · rw [h25]; exact mlr_12_25
  by_cases h26 : a = 26
  · rw [h26]; exact mlr_12_26
  by_cases h27 : a = 27
  · rw [h27]; exact mlr_12_27
  by_cases h28 : a = 28
  · rw [h28]; exact mlr_12_28
  by_cases h29 : a = 29
  · rw [h29]; exact mlr_12_29
  exact rowM_out (show (mlt 12).length ≤ a from (by show 30 ≤ a; omega))
theorem mlr_13_0 : rowM 13 0 = true := by decide +kernel
theorem mlr_13_1 : rowM 13 1 = true := by decide +kernel
theorem mlr_13_2 : rowM 13 2 = true := by decide +kernel
theorem mlr_13_3 : rowM 13 3 = true := by decide +kernel
theorem mlr_13_4 : rowM 13 4 = true := by decide +kernel
theorem mlr_13_5 : rowM 13 5 = true := by decide +kernel
theorem mlr_13_6 : rowM 13 6 = true := by decide +kernel
theorem mlr_13_7 : rowM 13 7 = true := by decide +kernel
theorem mlr_13_8 : rowM 13 8 = true := by decide +kernel
theorem mlr_13_9 : rowM 13 9 = true := by decide +kernel
theorem mlr_13_10 : rowM 13 10 = true := by decide +kernel
theorem mla_13 (a : Nat) : rowM 13 a = true := by
  by_cases h0 : a = 0
  · rw [h0]; exact mlr_13_0
  by_cases h1 : a = 1
  · rw [h1]; exact mlr_13_1
  by_cases h2 : a = 2
  · rw [h2]; exact mlr_13_2
  by_cases h3 : a = 3
  · rw [h3]; exact mlr_13_3
  by_cases h4 : a = 4
  · rw [h4]; exact mlr_13_4
  by_cases h5 : a = 5
  · rw [h5]; exact mlr_13_5
  by_cases h6 : a = 6
  · rw [h6]; exact mlr_13_6
  by_cases h7 : a = 7
  · rw [h7]; exact mlr_13_7
  by_cases h8 : a = 8
  · rw [h8]; exact mlr_13_8
  by_cases h9 : a = 9
  · rw [h9]; exact mlr_13_9
  by_cases h10 : a = 10
  · rw [h10]; exact mlr_13_10
  exact rowM_out (show (mlt 13).length ≤ a from (by show 11 ≤ a; omega))
theorem ml_all (ci a : Nat) : rowM ci a = true := by
  match ci with
  | 0 => exact mla_0 a
  | 1 => exact mla_1 a
  | 2 => exact mla_2 a
  | 3 => exact mla_3 a
  | 4 => exact mla_4 a
  | 5 => exact mla_5 a
  | 6 => exact mla_6 a
  | 7 => exact mla_7 a
  | 8 => exact mla_8 a
  | 9 => exact mla_9 a
  | 10 => exact mla_10 a
  | 11 => exact mla_11 a
  | 12 => exact mla_12 a
  | 13 => exact mla_13 a
  | _ + 14 => exact rowM_out (Nat.zero_le _)
theorem cnm_all : ((List.range 256).all fun M => decide (M = 0) || decide ((YB0 M).1.cls = cnm ((l2 mcls M).getD 0))) = true := by decide +kernel
theorem mlc_ok {M : Nat} {w : EN} (h : chkM M w = true) (pc : Nat) : chkX M pc w.1 w.2.2.1 w.2.2.2 = true := by
  unfold chkM at h
  simp only [Bool.and_eq_true] at h
  obtain ⟨h0, h⟩ := h
  have hn := of_decide_eq_true h0
  have hc := List.all_eq_true.mp cnm_all M (List.mem_range.mpr hn.2)
  simp only [Bool.or_eq_true, decide_eq_true_eq] at hc
  have hc := hc.resolve_left hn.1
  unfold chkX
  rw [hc]
  exact chkM_at ml_all h
