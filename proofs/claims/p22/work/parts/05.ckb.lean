/-! The same, the other half. -/
theorem ck_127_4 : chkTs (chkE 127) cd_127 4 4 = true := by decide +kernel
theorem ck_127_8 : chkTs (chkE 127) cd_127 8 4 = true := by decide +kernel
theorem ck_127_12 : chkTs (chkE 127) cd_127 12 4 = true := by decide +kernel
theorem ck_127_16 : chkTs (chkE 127) cd_127 16 4 = true := by decide +kernel
theorem ck_127_20 : chkTs (chkE 127) cd_127 20 3 = true := by decide +kernel
theorem ck_127 : chkT (chkE 127) cd_127 = true := chkT_of (by decide +kernel : cd_127.length = 23) (fun a ha => by
  by_cases h0 : a < 4
  · exact chkTs_at ck_127_0 a (by omega) (by omega)
  by_cases h4 : a < 8
  · exact chkTs_at ck_127_4 a (by omega) (by omega)
  by_cases h8 : a < 12
  · exact chkTs_at ck_127_8 a (by omega) (by omega)
  by_cases h12 : a < 16
  · exact chkTs_at ck_127_12 a (by omega) (by omega)
  by_cases h16 : a < 20
  · exact chkTs_at ck_127_16 a (by omega) (by omega)
  exact chkTs_at ck_127_20 a (by omega) (by omega))
theorem ck_128_0 : chkTs (chkE 128) cd_128 0 4 = true := by decide +kernel
theorem ck_128_4 : chkTs (chkE 128) cd_128 4 4 = true := by decide +kernel
theorem ck_128_8 : chkTs (chkE 128) cd_128 8 4 = true := by decide +kernel
theorem ck_128_12 : chkTs (chkE 128) cd_128 12 4 = true := by decide +kernel
theorem ck_128_16 : chkTs (chkE 128) cd_128 16 4 = true := by decide +kernel
theorem ck_128 : chkT (chkE 128) cd_128 = true := chkT_of (by decide +kernel : cd_128.length = 20) (fun a ha => by
  by_cases h0 : a < 4
  · exact chkTs_at ck_128_0 a (by omega) (by omega)
  by_cases h4 : a < 8
  · exact chkTs_at ck_128_4 a (by omega) (by omega)
  by_cases h8 : a < 12
  · exact chkTs_at ck_128_8 a (by omega) (by omega)
  by_cases h12 : a < 16
  · exact chkTs_at ck_128_12 a (by omega) (by omega)
  exact chkTs_at ck_128_16 a (by omega) (by omega))
theorem ck_129_0 : chkTs (chkE 129) cd_129 0 4 = true := by decide +kernel
theorem ck_129_4 : chkTs (chkE 129) cd_129 4 4 = true := by decide +kernel
theorem ck_129_8 : chkTs (chkE 129) cd_129 8 4 = true := by decide +kernel
theorem ck_129_12 : chkTs (chkE 129) cd_129 12 1 = true := by decide +kernel
theorem ck_129 : chkT (chkE 129) cd_129 = true := chkT_of (by decide +kernel : cd_129.length = 13) (fun a ha => by
  by_cases h0 : a < 4
  · exact chkTs_at ck_129_0 a (by omega) (by omega)
  by_cases h4 : a < 8
  · exact chkTs_at ck_129_4 a (by omega) (by omega)
  by_cases h8 : a < 12
  · exact chkTs_at ck_129_8 a (by omega) (by omega)
  exact chkTs_at ck_129_12 a (by omega) (by omega))
theorem ck_130 : chkT (chkE 130) cd_130 = true := by decide +kernel
theorem ck_131 : chkT (chkE 131) cd_131 = true := by decide +kernel
theorem ck_132 : chkT (chkE 132) cd_132 = true := by decide +kernel
theorem ck_133_0 : chkTs (chkE 133) cd_133 0 4 = true := by decide +kernel
theorem ck_133_4 : chkTs (chkE 133) cd_133 4 4 = true := by decide +kernel
theorem ck_133_8 : chkTs (chkE 133) cd_133 8 4 = true := by decide +kernel
theorem ck_133_12 : chkTs (chkE 133) cd_133 12 4 = true := by decide +kernel
theorem ck_133_16 : chkTs (chkE 133) cd_133 16 4 = true := by decide +kernel
theorem ck_133_20 : chkTs (chkE 133) cd_133 20 2 = true := by decide +kernel
theorem ck_133 : chkT (chkE 133) cd_133 = true := chkT_of (by decide +kernel : cd_133.length = 22) (fun a ha => by
  by_cases h0 : a < 4
  · exact chkTs_at ck_133_0 a (by omega) (by omega)
  by_cases h4 : a < 8
  · exact chkTs_at ck_133_4 a (by omega) (by omega)
  by_cases h8 : a < 12
  · exact chkTs_at ck_133_8 a (by omega) (by omega)
  by_cases h12 : a < 16
  · exact chkTs_at ck_133_12 a (by omega) (by omega)
  by_cases h16 : a < 20
  · exact chkTs_at ck_133_16 a (by omega) (by omega)
  exact chkTs_at ck_133_20 a (by omega) (by omega))
theorem ck_134 : chkT (chkE 134) cd_134 = true := by decide +kernel
theorem ck_135 : chkT (chkE 135) cd_135 = true := by decide +kernel
theorem ck_136 : chkT (chkE 136) cd_136 = true := by decide +kernel
theorem ck_137 : chkT (chkE 137) cd_137 = true := by decide +kernel
theorem ck_138 : chkT (chkE 138) cd_138 = true := by decide +kernel
theorem ck_139 : chkT (chkE 139) cd_139 = true := by decide +kernel
theorem ck_140 : chkT (chkE 140) cd_140 = true := by decide +kernel
theorem ck_141 : chkT (chkE 141) cd_141 = true := by decide +kernel
theorem ck_142 : chkT (chkE 142) cd_142 = true := by decide +kernel
theorem ck_143 : chkT (chkE 143) cd_143 = true := by decide +kernel
theorem ck_144 : chkT (chkE 144) cd_144 = true := by decide +kernel
theorem ck_145_0 : chkTs (chkE 145) cd_145 0 4 = true := by decide +kernel
theorem ck_145_4 : chkTs (chkE 145) cd_145 4 4 = true := by decide +kernel
theorem ck_145_8 : chkTs (chkE 145) cd_145 8 4 = true := by decide +kernel
theorem ck_145_12 : chkTs (chkE 145) cd_145 12 4 = true := by decide +kernel
theorem ck_145_16 : chkTs (chkE 145) cd_145 16 4 = true := by decide +kernel
theorem ck_145_20 : chkTs (chkE 145) cd_145 20 2 = true := by decide +kernel
theorem ck_145 : chkT (chkE 145) cd_145 = true := chkT_of (by decide +kernel : cd_145.length = 22) (fun a ha => by
  by_cases h0 : a < 4
  · exact chkTs_at ck_145_0 a (by omega) (by omega)
  by_cases h4 : a < 8
  · exact chkTs_at ck_145_4 a (by omega) (by omega)
  by_cases h8 : a < 12
  · exact chkTs_at ck_145_8 a (by omega) (by omega)
  by_cases h12 : a < 16
  · exact chkTs_at ck_145_12 a (by omega) (by omega)
  by_cases h16 : a < 20
  · exact chkTs_at ck_145_16 a (by omega) (by omega)
  exact chkTs_at ck_145_20 a (by omega) (by omega))
theorem ck_146 : chkT (chkE 146) cd_146 = true := by decide +kernel
theorem ck_147 : chkT (chkE 147) cd_147 = true := by decide +kernel
theorem ck_148 : chkT (chkE 148) cd_148 = true := by decide +kernel
theorem ck_149 : chkT (chkE 149) cd_149 = true := by decide +kernel
theorem ck_150 : chkT (chkE 150) cd_150 = true := by decide +kernel
theorem ck_151 : chkT (chkE 151) cd_151 = true := by decide +kernel
theorem ck_152 : chkT (chkE 152) cd_152 = true := by decide +kernel
theorem ck_153 : chkT (chkE 153) cd_153 = true := by decide +kernel
theorem ck_154 : chkT (chkE 154) cd_154 = true := by decide +kernel
theorem ck_155 : chkT (chkE 155) cd_155 = true := by decide +kernel
theorem ck_156 : chkT (chkE 156) cd_156 = true := by decide +kernel
theorem ck_157 : chkT (chkE 157) cd_157 = true := by decide +kernel
theorem ck_158 : chkT (chkE 158) cd_158 = true := by decide +kernel
theorem ck_159 : chkT (chkE 159) cd_159 = true := by decide +kernel
theorem ck_160 : chkT (chkE 160) cd_160 = true := by decide +kernel
theorem ck_161 : chkT (chkE 161) cd_161 = true := by decide +kernel
theorem ck_162 : chkT (chkE 162) cd_162 = true := by decide +kernel
theorem ck_163 : chkT (chkE 163) cd_163 = true := by decide +kernel
theorem ck_164 : chkT (chkE 164) cd_164 = true := by decide +kernel
theorem ck_165 : chkT (chkE 165) cd_165 = true := by decide +kernel
theorem ck_166_0 : chkTs (chkE 166) cd_166 0 4 = true := by decide +kernel
theorem ck_166_4 : chkTs (chkE 166) cd_166 4 4 = true := by decide +kernel
theorem ck_166_8 : chkTs (chkE 166) cd_166 8 4 = true := by decide +kernel
theorem ck_166_12 : chkTs (chkE 166) cd_166 12 2 = true := by decide +kernel
theorem ck_166 : chkT (chkE 166) cd_166 = true := chkT_of (by decide +kernel : cd_166.length = 14) (fun a ha => by
  by_cases h0 : a < 4
  · exact chkTs_at ck_166_0 a (by omega) (by omega)
  by_cases h4 : a < 8
  · exact chkTs_at ck_166_4 a (by omega) (by omega)
  by_cases h8 : a < 12
  · exact chkTs_at ck_166_8 a (by omega) (by omega)
  exact chkTs_at ck_166_12 a (by omega) (by omega))
theorem ck_167 : chkT (chkE 167) cd_167 = true := by decide +kernel
theorem ck_168 : chkT (chkE 168) cd_168 = true := by decide +kernel
theorem ck_169 : chkT (chkE 169) cd_169 = true := by decide +kernel
theorem ck_170 : chkT (chkE 170) cd_170 = true := by decide +kernel
theorem ck_171 : chkT (chkE 171) cd_171 = true := by decide +kernel
theorem ck_172 : chkT (chkE 172) cd_172 = true := by decide +kernel
theorem ck_173 : chkT (chkE 173) cd_173 = true := by decide +kernel
theorem ck_174 : chkT (chkE 174) cd_174 = true := by decide +kernel
theorem ck_175 : chkT (chkE 175) cd_175 = true := by decide +kernel
theorem ck_176 : chkT (chkE 176) cd_176 = true := by decide +kernel
theorem ck_177 : chkT (chkE 177) cd_177 = true := by decide +kernel
theorem ck_178 : chkT (chkE 178) cd_178 = true := by decide +kernel
theorem ck_179 : chkT (chkE 179) cd_179 = true := by decide +kernel
theorem ck_180 : chkT (chkE 180) cd_180 = true := by decide +kernel
theorem ck_181 : chkT (chkE 181) cd_181 = true := by decide +kernel
theorem ck_182 : chkT (chkE 182) cd_182 = true := by decide +kernel
theorem ck_183 : chkT (chkE 183) cd_183 = true := by decide +kernel
theorem ck_184 : chkT (chkE 184) cd_184 = true := by decide +kernel
theorem ck_185 : chkT (chkE 185) cd_185 = true := by decide +kernel
theorem ck_186 : chkT (chkE 186) cd_186 = true := by decide +kernel
theorem ck_187 : chkT (chkE 187) cd_187 = true := by decide +kernel
theorem ck_188 : chkT (chkE 188) cd_188 = true := by decide +kernel
theorem ck_189 : chkT (chkE 189) cd_189 = true := by decide +kernel
theorem ck_190 : chkT (chkE 190) cd_190 = true := by decide +kernel
theorem ck_191 : chkT (chkE 191) cd_191 = true := by decide +kernel
theorem ck_192 : chkT (chkE 192) cd_192 = true := by decide +kernel
theorem ck_193 : chkT (chkE 193) cd_193 = true := by decide +kernel
theorem ck_194 : chkT (chkE 194) cd_194 = true := by decide +kernel
theorem ck_195 : chkT (chkE 195) cd_195 = true := by decide +kernel
theorem ck_196 : chkT (chkE 196) cd_196 = true := by decide +kernel
theorem ck_197 : chkT (chkE 197) cd_197 = true := by decide +kernel
theorem ck_198 : chkT (chkE 198) cd_198 = true := by decide +kernel
theorem ck_199 : chkT (chkE 199) cd_199 = true := by decide +kernel
theorem ck_200 : chkT (chkE 200) cd_200 = true := by decide +kernel
theorem ck_201 : chkT (chkE 201) cd_201 = true := by decide +kernel
theorem ck_202 : chkT (chkE 202) cd_202 = true := by decide +kernel
theorem ck_203 : chkT (chkE 203) cd_203 = true := by decide +kernel
theorem ck_204 : chkT (chkE 204) cd_204 = true := by decide +kernel
theorem ck_205 : chkT (chkE 205) cd_205 = true := by decide +kernel
theorem ck_206 : chkT (chkE 206) cd_206 = true := by decide +kernel
theorem ck_207 : chkT (chkE 207) cd_207 = true := by decide +kernel
theorem ck_208 : chkT (chkE 208) cd_208 = true := by decide +kernel
theorem ck_209 : chkT (chkE 209) cd_209 = true := by decide +kernel
theorem ck_210 : chkT (chkE 210) cd_210 = true := by decide +kernel
theorem ck_211 : chkT (chkE 211) cd_211 = true := by decide +kernel
theorem ck_212 : chkT (chkE 212) cd_212 = true := by decide +kernel
theorem ck_213 : chkT (chkE 213) cd_213 = true := by decide +kernel
theorem ck_214 : chkT (chkE 214) cd_214 = true := by decide +kernel
theorem ck_215 : chkT (chkE 215) cd_215 = true := by decide +kernel
theorem ck_216 : chkT (chkE 216) cd_216 = true := by decide +kernel
theorem ck_217 : chkT (chkE 217) cd_217 = true := by decide +kernel
theorem ck_218 : chkT (chkE 218) cd_218 = true := by decide +kernel
theorem ck_219 : chkT (chkE 219) cd_219 = true := by decide +kernel
theorem ck_220 : chkT (chkE 220) cd_220 = true := by decide +kernel
theorem ck_221 : chkT (chkE 221) cd_221 = true := by decide +kernel
theorem ck_222 : chkT (chkE 222) cd_222 = true := by decide +kernel
theorem ck_223 : chkT (chkE 223) cd_223 = true := by decide +kernel
theorem ck_224 : chkT (chkE 224) cd_224 = true := by decide +kernel
theorem ck_225 : chkT (chkE 225) cd_225 = true := by decide +kernel
theorem ck_226 : chkT (chkE 226) cd_226 = true := by decide +kernel
theorem ck_227 : chkT (chkE 227) cd_227 = true := by decide +kernel
theorem ck_228 : chkT (chkE 228) cd_228 = true := by decide +kernel
theorem ck_229 : chkT (chkE 229) cd_229 = true := by decide +kernel
theorem ck_230 : chkT (chkE 230) cd_230 = true := by decide +kernel
theorem ck_231 : chkT (chkE 231) cd_231 = true := by decide +kernel
theorem ck_232 : chkT (chkE 232) cd_232 = true := by decide +kernel
theorem ck_233 : chkT (chkE 233) cd_233 = true := by decide +kernel
theorem ck_234 : chkT (chkE 234) cd_234 = true := by decide +kernel
theorem ck_235 : chkT (chkE 235) cd_235 = true := by decide +kernel
theorem ck_236_0 : chkTs (chkE 236) cd_236 0 4 = true := by decide +kernel
theorem ck_236_4 : chkTs (chkE 236) cd_236 4 4 = true := by decide +kernel
theorem ck_236_8 : chkTs (chkE 236) cd_236 8 4 = true := by decide +kernel
theorem ck_236_12 : chkTs (chkE 236) cd_236 12 2 = true := by decide +kernel
theorem ck_236 : chkT (chkE 236) cd_236 = true := chkT_of (by decide +kernel : cd_236.length = 14) (fun a ha => by
  by_cases h0 : a < 4
  · exact chkTs_at ck_236_0 a (by omega) (by omega)
  by_cases h4 : a < 8
  · exact chkTs_at ck_236_4 a (by omega) (by omega)
  by_cases h8 : a < 12
  · exact chkTs_at ck_236_8 a (by omega) (by omega)
  exact chkTs_at ck_236_12 a (by omega) (by omega))
theorem ck_237 : chkT (chkE 237) cd_237 = true := by decide +kernel
theorem ck_238 : chkT (chkE 238) cd_238 = true := by decide +kernel
theorem ck_239_0 : chkTs (chkE 239) cd_239 0 4 = true := by decide +kernel
theorem ck_239_4 : chkTs (chkE 239) cd_239 4 4 = true := by decide +kernel
theorem ck_239_8 : chkTs (chkE 239) cd_239 8 4 = true := by decide +kernel
theorem ck_239_12 : chkTs (chkE 239) cd_239 12 4 = true := by decide +kernel
theorem ck_239_16 : chkTs (chkE 239) cd_239 16 1 = true := by decide +kernel
theorem ck_239 : chkT (chkE 239) cd_239 = true := chkT_of (by decide +kernel : cd_239.length = 17) (fun a ha => by
  by_cases h0 : a < 4
  · exact chkTs_at ck_239_0 a (by omega) (by omega)
  by_cases h4 : a < 8
  · exact chkTs_at ck_239_4 a (by omega) (by omega)
  by_cases h8 : a < 12
  · exact chkTs_at ck_239_8 a (by omega) (by omega)
  by_cases h12 : a < 16
  · exact chkTs_at ck_239_12 a (by omega) (by omega)
  exact chkTs_at ck_239_16 a (by omega) (by omega))
theorem ck_240 : chkT (chkE 240) cd_240 = true := by decide +kernel
theorem ck_241 : chkT (chkE 241) cd_241 = true := by decide +kernel
theorem ck_242 : chkT (chkE 242) cd_242 = true := by decide +kernel
theorem ck_243 : chkT (chkE 243) cd_243 = true := by decide +kernel
theorem ck_244 : chkT (chkE 244) cd_244 = true := by decide +kernel
theorem ck_245 : chkT (chkE 245) cd_245 = true := by decide +kernel
theorem ck_246 : chkT (chkE 246) cd_246 = true := by decide +kernel
theorem ck_247 : chkT (chkE 247) cd_247 = true := by decide +kernel
theorem ck_248 : chkT (chkE 248) cd_248 = true := by decide +kernel
theorem ck_249 : chkT (chkE 249) cd_249 = true := by decide +kernel
theorem ck_250 : chkT (chkE 250) cd_250 = true := by decide +kernel
theorem ck_251 : chkT (chkE 251) cd_251 = true := by decide +kernel
theorem ck_252_0 : chkTs (chkE 252) cd_252 0 4 = true := by decide +kernel
theorem ck_252_4 : chkTs (chkE 252) cd_252 4 4 = true := by decide +kernel
theorem ck_252_8 : chkTs (chkE 252) cd_252 8 4 = true := by decide +kernel
theorem ck_252_12 : chkTs (chkE 252) cd_252 12 3 = true := by decide +kernel
theorem ck_252 : chkT (chkE 252) cd_252 = true := chkT_of (by decide +kernel : cd_252.length = 15) (fun a ha => by
  by_cases h0 : a < 4
  · exact chkTs_at ck_252_0 a (by omega) (by omega)
  by_cases h4 : a < 8
  · exact chkTs_at ck_252_4 a (by omega) (by omega)
  by_cases h8 : a < 12
  · exact chkTs_at ck_252_8 a (by omega) (by omega)
  exact chkTs_at ck_252_12 a (by omega) (by omega))
theorem ck_253 : chkT (chkE 253) cd_253 = true := by decide +kernel
theorem ck_254 : chkT (chkE 254) cd_254 = true := by decide +kernel
