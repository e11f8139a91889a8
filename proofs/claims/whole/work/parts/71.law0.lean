theorem d_Lw_law_0 : decode code 0 = .ok (.new 8, 3) := by decide +kernel
theorem d_Lw_law_3 : decode code 3 = .ok (.dup, 1) := by decide +kernel
theorem d_Lw_law_4 : decode code 4 = .ok (.invokespecial 66, 3) := by decide +kernel
theorem d_Lw_law_7 : decode code 7 = .ok (.astore_n 1, 1) := by decide +kernel
theorem d_Lw_law_8 : decode code 8 = .ok (.new 67, 3) := by decide +kernel
theorem d_Lw_law_11 : decode code 11 = .ok (.dup, 1) := by decide +kernel
theorem d_Lw_law_12 : decode code 12 = .ok (.invokespecial 69, 3) := by decide +kernel
theorem d_Lw_law_15 : decode code 15 = .ok (.astore_n 2, 1) := by decide +kernel
theorem d_Lw_law_16 : decode code 16 = .ok (.iconst 1, 1) := by decide +kernel
theorem d_Lw_law_17 : decode code 17 = .ok (.newarray .long, 2) := by decide +kernel
theorem d_Lw_law_19 : decode code 19 = .ok (.astore_n 3, 1) := by decide +kernel
theorem d_Lw_law_20 : decode code 20 = .ok (.iconst 0, 1) := by decide +kernel
theorem d_Lw_law_21 : decode code 21 = .ok (.istore 4, 2) := by decide +kernel
theorem d_Lw_law_23 : decode code 23 = .ok (.iload 4, 2) := by decide +kernel
theorem d_Lw_law_25 : decode code 25 = .ok (.aload_n 0, 1) := by decide +kernel
theorem d_Lw_law_26 : decode code 26 = .ok (.arraylength, 1) := by decide +kernel
theorem d_Lw_law_27 : decode code 27 = .ok (.iconst 4, 1) := by decide +kernel
theorem d_Lw_law_28 : decode code 28 = .ok (.isub, 1) := by decide +kernel
theorem d_Lw_law_29 : decode code 29 = .ok (.if_icmp .gt 982, 3) := by decide +kernel
theorem d_Lw_law_32 : decode code 32 = .ok (.aload_n 0, 1) := by decide +kernel
theorem d_Lw_law_33 : decode code 33 = .ok (.iload 4, 2) := by decide +kernel
theorem d_Lw_law_35 : decode code 35 = .ok (.iaload, 1) := by decide +kernel
theorem d_Lw_law_36 : decode code 36 = .ok (.bipush 15, 2) := by decide +kernel
theorem d_Lw_law_38 : decode code 38 = .ok (.iand, 1) := by decide +kernel
theorem d_Lw_law_39 : decode code 39 = .ok (.tableswitch 966 0 14 #[73, 112, 149, 211, 271, 327, 395, 451, 531, 587, 655, 730, 774, 842, 898], 73) := by decide +kernel
theorem d_Lw_law_112 : decode code 112 = .ok (.aload_n 1, 1) := by decide +kernel
theorem d_Lw_law_113 : decode code 113 = .ok (.aload_n 0, 1) := by decide +kernel
theorem d_Lw_law_114 : decode code 114 = .ok (.iload 4, 2) := by decide +kernel
theorem d_Lw_law_116 : decode code 116 = .ok (.iconst 1, 1) := by decide +kernel
theorem d_Lw_law_117 : decode code 117 = .ok (.iadd, 1) := by decide +kernel
theorem d_Lw_law_118 : decode code 118 = .ok (.iaload, 1) := by decide +kernel
theorem d_Lw_law_119 : decode code 119 = .ok (.aload_n 0, 1) := by decide +kernel
theorem d_Lw_law_120 : decode code 120 = .ok (.iload 4, 2) := by decide +kernel
theorem d_Lw_law_122 : decode code 122 = .ok (.iconst 2, 1) := by decide +kernel
theorem d_Lw_law_123 : decode code 123 = .ok (.iadd, 1) := by decide +kernel
theorem d_Lw_law_124 : decode code 124 = .ok (.iaload, 1) := by decide +kernel
theorem d_Lw_law_125 : decode code 125 = .ok (.i2c, 1) := by decide +kernel
theorem d_Lw_law_126 : decode code 126 = .ok (.invokevirtual 70, 3) := by decide +kernel
theorem d_Lw_law_129 : decode code 129 = .ok (.aload_n 2, 1) := by decide +kernel
theorem d_Lw_law_130 : decode code 130 = .ok (.aload_n 0, 1) := by decide +kernel
theorem d_Lw_law_131 : decode code 131 = .ok (.iload 4, 2) := by decide +kernel
theorem d_Lw_law_133 : decode code 133 = .ok (.iconst 1, 1) := by decide +kernel
theorem d_Lw_law_134 : decode code 134 = .ok (.iadd, 1) := by decide +kernel
theorem d_Lw_law_135 : decode code 135 = .ok (.iaload, 1) := by decide +kernel
theorem d_Lw_law_136 : decode code 136 = .ok (.aload_n 0, 1) := by decide +kernel
theorem d_Lw_law_137 : decode code 137 = .ok (.iload 4, 2) := by decide +kernel
theorem d_Lw_law_139 : decode code 139 = .ok (.iconst 2, 1) := by decide +kernel
theorem d_Lw_law_140 : decode code 140 = .ok (.iadd, 1) := by decide +kernel
theorem d_Lw_law_141 : decode code 141 = .ok (.iaload, 1) := by decide +kernel
theorem d_Lw_law_142 : decode code 142 = .ok (.i2c, 1) := by decide +kernel
theorem d_Lw_law_143 : decode code 143 = .ok (.invokevirtual 74, 3) := by decide +kernel
theorem d_Lw_law_146 : decode code 146 = .ok (.if_icmp .eq 859, 3) := by decide +kernel
theorem d_Lw_law_149 : decode code 149 = .ok (.iconst 0, 1) := by decide +kernel
theorem d_Lw_law_150 : decode code 150 = .ok (.ireturn, 1) := by decide +kernel
theorem d_Lw_law_151 : decode code 151 = .ok (.aload_n 1, 1) := by decide +kernel
theorem d_Lw_law_152 : decode code 152 = .ok (.aload_n 0, 1) := by decide +kernel
theorem d_Lw_law_153 : decode code 153 = .ok (.iload 4, 2) := by decide +kernel
theorem d_Lw_law_155 : decode code 155 = .ok (.iconst 1, 1) := by decide +kernel
theorem d_Lw_law_156 : decode code 156 = .ok (.iadd, 1) := by decide +kernel
theorem d_Lw_law_157 : decode code 157 = .ok (.iaload, 1) := by decide +kernel
theorem d_Lw_law_158 : decode code 158 = .ok (.aload_n 0, 1) := by decide +kernel
theorem d_Lw_law_159 : decode code 159 = .ok (.iload 4, 2) := by decide +kernel
theorem d_Lw_law_161 : decode code 161 = .ok (.iconst 2, 1) := by decide +kernel
theorem d_Lw_law_162 : decode code 162 = .ok (.iadd, 1) := by decide +kernel
theorem d_Lw_law_163 : decode code 163 = .ok (.iaload, 1) := by decide +kernel
theorem d_Lw_law_164 : decode code 164 = .ok (.invokevirtual 75, 3) := by decide +kernel
theorem d_Lw_law_167 : decode code 167 = .ok (.aload_n 2, 1) := by decide +kernel
theorem d_Lw_law_168 : decode code 168 = .ok (.aload_n 0, 1) := by decide +kernel
theorem d_Lw_law_169 : decode code 169 = .ok (.iload 4, 2) := by decide +kernel
theorem d_Lw_law_171 : decode code 171 = .ok (.iconst 1, 1) := by decide +kernel
theorem d_Lw_law_172 : decode code 172 = .ok (.iadd, 1) := by decide +kernel
theorem d_Lw_law_173 : decode code 173 = .ok (.iaload, 1) := by decide +kernel
theorem d_Lw_law_174 : decode code 174 = .ok (.aload_n 0, 1) := by decide +kernel
theorem d_Lw_law_175 : decode code 175 = .ok (.iload 4, 2) := by decide +kernel
theorem d_Lw_law_177 : decode code 177 = .ok (.iconst 2, 1) := by decide +kernel
theorem d_Lw_law_178 : decode code 178 = .ok (.iadd, 1) := by decide +kernel
theorem d_Lw_law_179 : decode code 179 = .ok (.iaload, 1) := by decide +kernel
theorem d_Lw_law_180 : decode code 180 = .ok (.invokevirtual 78, 3) := by decide +kernel
theorem d_Lw_law_183 : decode code 183 = .ok (.if_icmp .eq 822, 3) := by decide +kernel
theorem d_Lw_law_186 : decode code 186 = .ok (.iconst 0, 1) := by decide +kernel
theorem d_Lw_law_187 : decode code 187 = .ok (.ireturn, 1) := by decide +kernel
theorem d_Lw_law_188 : decode code 188 = .ok (.aload_n 1, 1) := by decide +kernel
theorem d_Lw_law_189 : decode code 189 = .ok (.aload_n 0, 1) := by decide +kernel
theorem d_Lw_law_190 : decode code 190 = .ok (.iload 4, 2) := by decide +kernel
theorem d_Lw_law_192 : decode code 192 = .ok (.iconst 1, 1) := by decide +kernel
theorem d_Lw_law_193 : decode code 193 = .ok (.iadd, 1) := by decide +kernel
theorem d_Lw_law_194 : decode code 194 = .ok (.iaload, 1) := by decide +kernel
theorem d_Lw_law_195 : decode code 195 = .ok (.aload_n 0, 1) := by decide +kernel
theorem d_Lw_law_196 : decode code 196 = .ok (.iload 4, 2) := by decide +kernel
theorem d_Lw_law_198 : decode code 198 = .ok (.iconst 2, 1) := by decide +kernel
theorem d_Lw_law_199 : decode code 199 = .ok (.iadd, 1) := by decide +kernel
theorem d_Lw_law_200 : decode code 200 = .ok (.iaload, 1) := by decide +kernel
theorem d_Lw_law_201 : decode code 201 = .ok (.aload_n 0, 1) := by decide +kernel
theorem d_Lw_law_202 : decode code 202 = .ok (.iload 4, 2) := by decide +kernel
theorem d_Lw_law_204 : decode code 204 = .ok (.iconst 3, 1) := by decide +kernel
theorem d_Lw_law_205 : decode code 205 = .ok (.iadd, 1) := by decide +kernel
theorem d_Lw_law_206 : decode code 206 = .ok (.iaload, 1) := by decide +kernel
theorem d_Lw_law_207 : decode code 207 = .ok (.i2c, 1) := by decide +kernel
theorem d_Lw_law_208 : decode code 208 = .ok (.invokestatic 79, 3) := by decide +kernel
theorem d_Lw_law_211 : decode code 211 = .ok (.istore 5, 2) := by decide +kernel
theorem d_Lw_law_213 : decode code 213 = .ok (.aload_n 2, 1) := by decide +kernel
theorem d_Lw_law_214 : decode code 214 = .ok (.aload_n 0, 1) := by decide +kernel
theorem d_Lw_law_215 : decode code 215 = .ok (.iload 4, 2) := by decide +kernel
theorem d_Lw_law_217 : decode code 217 = .ok (.iconst 1, 1) := by decide +kernel
theorem d_Lw_law_218 : decode code 218 = .ok (.iadd, 1) := by decide +kernel
theorem d_Lw_law_219 : decode code 219 = .ok (.iaload, 1) := by decide +kernel
theorem d_Lw_law_220 : decode code 220 = .ok (.aload_n 0, 1) := by decide +kernel
theorem d_Lw_law_221 : decode code 221 = .ok (.iload 4, 2) := by decide +kernel
theorem d_Lw_law_223 : decode code 223 = .ok (.iconst 2, 1) := by decide +kernel
theorem d_Lw_law_224 : decode code 224 = .ok (.iadd, 1) := by decide +kernel
theorem d_Lw_law_225 : decode code 225 = .ok (.iaload, 1) := by decide +kernel
theorem d_Lw_law_226 : decode code 226 = .ok (.aload_n 0, 1) := by decide +kernel
theorem d_Lw_law_227 : decode code 227 = .ok (.iload 4, 2) := by decide +kernel
theorem d_Lw_law_229 : decode code 229 = .ok (.iconst 3, 1) := by decide +kernel
theorem d_Lw_law_230 : decode code 230 = .ok (.iadd, 1) := by decide +kernel
theorem d_Lw_law_231 : decode code 231 = .ok (.iaload, 1) := by decide +kernel
theorem d_Lw_law_232 : decode code 232 = .ok (.i2c, 1) := by decide +kernel
theorem d_Lw_law_233 : decode code 233 = .ok (.invokevirtual 84, 3) := by decide +kernel
theorem d_Lw_law_236 : decode code 236 = .ok (.aload_n 2, 1) := by decide +kernel
theorem d_Lw_law_237 : decode code 237 = .ok (.invokevirtual 85, 3) := by decide +kernel
theorem d_Lw_law_240 : decode code 240 = .ok (.iload 5, 2) := by decide +kernel
theorem d_Lw_law_242 : decode code 242 = .ok (.if_icmp .eq 5, 3) := by decide +kernel
theorem d_Lw_law_245 : decode code 245 = .ok (.iconst 0, 1) := by decide +kernel
theorem d_Lw_law_246 : decode code 246 = .ok (.ireturn, 1) := by decide +kernel
theorem d_Lw_law_247 : decode code 247 = .ok (.goto 758, 3) := by decide +kernel
theorem d_Lw_law_250 : decode code 250 = .ok (.aload_n 1, 1) := by decide +kernel
theorem d_Lw_law_251 : decode code 251 = .ok (.aload_n 0, 1) := by decide +kernel
theorem d_Lw_law_252 : decode code 252 = .ok (.iload 4, 2) := by decide +kernel
theorem d_Lw_law_254 : decode code 254 = .ok (.iconst 1, 1) := by decide +kernel
theorem d_Lw_law_255 : decode code 255 = .ok (.iadd, 1) := by decide +kernel
theorem d_Lw_law_256 : decode code 256 = .ok (.iaload, 1) := by decide +kernel
theorem d_Lw_law_257 : decode code 257 = .ok (.aload_n 0, 1) := by decide +kernel
theorem d_Lw_law_258 : decode code 258 = .ok (.iload 4, 2) := by decide +kernel
theorem d_Lw_law_260 : decode code 260 = .ok (.iconst 2, 1) := by decide +kernel
theorem d_Lw_law_261 : decode code 261 = .ok (.iadd, 1) := by decide +kernel
theorem d_Lw_law_262 : decode code 262 = .ok (.iaload, 1) := by decide +kernel
theorem d_Lw_law_263 : decode code 263 = .ok (.aload_n 0, 1) := by decide +kernel
theorem d_Lw_law_264 : decode code 264 = .ok (.iload 4, 2) := by decide +kernel
theorem d_Lw_law_266 : decode code 266 = .ok (.iconst 3, 1) := by decide +kernel
theorem d_Lw_law_267 : decode code 267 = .ok (.iadd, 1) := by decide +kernel
theorem d_Lw_law_268 : decode code 268 = .ok (.iaload, 1) := by decide +kernel
theorem d_Lw_law_269 : decode code 269 = .ok (.invokestatic 88, 3) := by decide +kernel
theorem d_Lw_law_272 : decode code 272 = .ok (.istore 5, 2) := by decide +kernel
theorem d_Lw_law_274 : decode code 274 = .ok (.aload_n 2, 1) := by decide +kernel
theorem d_Lw_law_275 : decode code 275 = .ok (.aload_n 0, 1) := by decide +kernel
theorem d_Lw_law_276 : decode code 276 = .ok (.iload 4, 2) := by decide +kernel
theorem d_Lw_law_278 : decode code 278 = .ok (.iconst 1, 1) := by decide +kernel
theorem d_Lw_law_279 : decode code 279 = .ok (.iadd, 1) := by decide +kernel
theorem d_Lw_law_280 : decode code 280 = .ok (.iaload, 1) := by decide +kernel
theorem d_Lw_law_281 : decode code 281 = .ok (.aload_n 0, 1) := by decide +kernel
theorem d_Lw_law_282 : decode code 282 = .ok (.iload 4, 2) := by decide +kernel
theorem d_Lw_law_284 : decode code 284 = .ok (.iconst 2, 1) := by decide +kernel
theorem d_Lw_law_285 : decode code 285 = .ok (.iadd, 1) := by decide +kernel
theorem d_Lw_law_286 : decode code 286 = .ok (.iaload, 1) := by decide +kernel
theorem d_Lw_law_287 : decode code 287 = .ok (.aload_n 0, 1) := by decide +kernel
theorem d_Lw_law_288 : decode code 288 = .ok (.iload 4, 2) := by decide +kernel
theorem d_Lw_law_290 : decode code 290 = .ok (.iconst 3, 1) := by decide +kernel
theorem d_Lw_law_291 : decode code 291 = .ok (.iadd, 1) := by decide +kernel
theorem d_Lw_law_292 : decode code 292 = .ok (.iaload, 1) := by decide +kernel
theorem d_Lw_law_293 : decode code 293 = .ok (.invokevirtual 91, 3) := by decide +kernel
