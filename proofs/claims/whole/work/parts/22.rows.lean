/-! own: rows of the methods, for the rules -/
set_option maxRecDepth 100000
theorem rX10_init_0 : am_rw mX10_init 0 = some (.aload_n 0, 1, 0, 0) := by decide +kernel
theorem rX10_init_1 : am_rw mX10_init 1 = some (.invokespecial 1, 3, 999, 1) := by decide +kernel
theorem rX10_init_4 : am_rw mX10_init 4 = some (.aload_n 0, 1, 0, 0) := by decide +kernel
theorem rX10_init_5 : am_rw mX10_init 5 = some (.bipush 40, 2, 40, 0) := by decide +kernel
theorem rX10_init_7 : am_rw mX10_init 7 = some (.newarray .int, 2, 20, 0) := by decide +kernel
theorem rX10_init_9 : am_rw mX10_init 9 = some (.putfield 7, 3, 10, 3) := by decide +kernel
theorem rX10_init_12 : am_rw mX10_init 12 = some (.aload_n 0, 1, 0, 0) := by decide +kernel
theorem rX10_init_13 : am_rw mX10_init 13 = some (.bipush 40, 2, 40, 0) := by decide +kernel
theorem rX10_init_15 : am_rw mX10_init 15 = some (.newarray .int, 2, 20, 0) := by decide +kernel
theorem rX10_init_17 : am_rw mX10_init 17 = some (.putfield 13, 3, 10, 4) := by decide +kernel
theorem rX10_init_20 : am_rw mX10_init 20 = some (.aload_n 0, 1, 0, 0) := by decide +kernel
theorem rX10_init_21 : am_rw mX10_init 21 = some (.bipush 60, 2, 60, 0) := by decide +kernel
theorem rX10_init_23 : am_rw mX10_init 23 = some (.newarray .int, 2, 20, 0) := by decide +kernel
theorem rX10_init_25 : am_rw mX10_init 25 = some (.putfield 16, 3, 10, 6) := by decide +kernel
theorem rX10_init_28 : am_rw mX10_init 28 = some (.aload_n 0, 1, 0, 0) := by decide +kernel
theorem rX10_init_29 : am_rw mX10_init 29 = some (.bipush 60, 2, 60, 0) := by decide +kernel
theorem rX10_init_31 : am_rw mX10_init 31 = some (.newarray .int, 2, 20, 0) := by decide +kernel
theorem rX10_init_33 : am_rw mX10_init 33 = some (.putfield 19, 3, 10, 7) := by decide +kernel
theorem rX10_init_36 : am_rw mX10_init 36 = some (.aload_n 0, 1, 0, 0) := by decide +kernel
theorem rX10_init_37 : am_rw mX10_init 37 = some (.sipush 2400, 3, 2400, 0) := by decide +kernel
theorem rX10_init_40 : am_rw mX10_init 40 = some (.newarray .int, 2, 20, 0) := by decide +kernel
theorem rX10_init_42 : am_rw mX10_init 42 = some (.putfield 22, 3, 10, 8) := by decide +kernel
theorem rX10_init_45 : am_rw mX10_init 45 = some (.aload_n 0, 1, 0, 0) := by decide +kernel
theorem rX10_init_46 : am_rw mX10_init 46 = some (.sipush 360, 3, 360, 0) := by decide +kernel
theorem rX10_init_49 : am_rw mX10_init 49 = some (.newarray .int, 2, 20, 0) := by decide +kernel
theorem rX10_init_51 : am_rw mX10_init 51 = some (.putfield 25, 3, 10, 9) := by decide +kernel
theorem rX10_init_54 : am_rw mX10_init 54 = some (.aload_n 0, 1, 0, 0) := by decide +kernel
theorem rX10_init_55 : am_rw mX10_init 55 = some (.bipush 6, 2, 6, 0) := by decide +kernel
theorem rX10_init_57 : am_rw mX10_init 57 = some (.newarray .int, 2, 20, 0) := by decide +kernel
theorem rX10_init_59 : am_rw mX10_init 59 = some (.putfield 28, 3, 10, 10) := by decide +kernel
theorem rX10_init_62 : am_rw mX10_init 62 = some (.aload_n 0, 1, 0, 0) := by decide +kernel
theorem rX10_init_63 : am_rw mX10_init 63 = some (.bipush 6, 2, 6, 0) := by decide +kernel
theorem rX10_init_65 : am_rw mX10_init 65 = some (.newarray .int, 2, 20, 0) := by decide +kernel
theorem rX10_init_67 : am_rw mX10_init 67 = some (.putfield 31, 3, 10, 11) := by decide +kernel
theorem rX10_init_70 : am_rw mX10_init 70 = some (.aload_n 0, 1, 0, 0) := by decide +kernel
theorem rX10_init_71 : am_rw mX10_init 71 = some (.sipush 603, 3, 603, 0) := by decide +kernel
theorem rX10_init_74 : am_rw mX10_init 74 = some (.newarray .int, 2, 20, 0) := by decide +kernel
theorem rX10_init_76 : am_rw mX10_init 76 = some (.putfield 34, 3, 10, 12) := by decide +kernel
theorem rX10_init_79 : am_rw mX10_init 79 = some (.aload_n 0, 1, 0, 0) := by decide +kernel
theorem rX10_init_80 : am_rw mX10_init 80 = some (.sipush 603, 3, 603, 0) := by decide +kernel
theorem rX10_init_83 : am_rw mX10_init 83 = some (.newarray .int, 2, 20, 0) := by decide +kernel
theorem rX10_init_85 : am_rw mX10_init 85 = some (.putfield 37, 3, 10, 13) := by decide +kernel
theorem rX10_init_88 : am_rw mX10_init 88 = some (.aload_n 0, 1, 0, 0) := by decide +kernel
theorem rX10_init_89 : am_rw mX10_init 89 = some (.sipush 12060, 3, 12060, 0) := by decide +kernel
theorem rX10_init_92 : am_rw mX10_init 92 = some (.newarray .float, 2, 22, 0) := by decide +kernel
theorem rX10_init_94 : am_rw mX10_init 94 = some (.putfield 40, 3, 10, 15) := by decide +kernel
theorem rX10_init_97 : am_rw mX10_init 97 = some (.aload_n 0, 1, 0, 0) := by decide +kernel
theorem rX10_init_98 : am_rw mX10_init 98 = some (.bipush 60, 2, 60, 0) := by decide +kernel
theorem rX10_init_100 : am_rw mX10_init 100 = some (.newarray .int, 2, 20, 0) := by decide +kernel
theorem rX10_init_102 : am_rw mX10_init 102 = some (.putfield 44, 3, 10, 16) := by decide +kernel
theorem rX10_init_105 : am_rw mX10_init 105 = some (.aload_n 0, 1, 0, 0) := by decide +kernel
theorem rX10_init_106 : am_rw mX10_init 106 = some (.bipush 40, 2, 40, 0) := by decide +kernel
theorem rX10_init_108 : am_rw mX10_init 108 = some (.newarray .int, 2, 20, 0) := by decide +kernel
theorem rX10_init_110 : am_rw mX10_init 110 = some (.putfield 47, 3, 10, 18) := by decide +kernel
theorem rX10_init_113 : am_rw mX10_init 113 = some (.aload_n 0, 1, 0, 0) := by decide +kernel
theorem rX10_init_114 : am_rw mX10_init 114 = some (.bipush 40, 2, 40, 0) := by decide +kernel
theorem rX10_init_116 : am_rw mX10_init 116 = some (.newarray .int, 2, 20, 0) := by decide +kernel
theorem rX10_init_118 : am_rw mX10_init 118 = some (.putfield 50, 3, 10, 19) := by decide +kernel
theorem rX10_init_121 : am_rw mX10_init 121 = some (.aload_n 0, 1, 0, 0) := by decide +kernel
theorem rX10_init_122 : am_rw mX10_init 122 = some (.bipush 40, 2, 40, 0) := by decide +kernel
theorem rX10_init_124 : am_rw mX10_init 124 = some (.newarray .int, 2, 20, 0) := by decide +kernel
theorem rX10_init_126 : am_rw mX10_init 126 = some (.putfield 53, 3, 10, 20) := by decide +kernel
theorem rX10_init_129 : am_rw mX10_init 129 = some (.aload_n 0, 1, 0, 0) := by decide +kernel
theorem rX10_init_130 : am_rw mX10_init 130 = some (.bipush 40, 2, 40, 0) := by decide +kernel
theorem rX10_init_132 : am_rw mX10_init 132 = some (.newarray .float, 2, 22, 0) := by decide +kernel
theorem rX10_init_134 : am_rw mX10_init 134 = some (.putfield 56, 3, 10, 21) := by decide +kernel
theorem rX10_init_137 : am_rw mX10_init 137 = some (.aload_n 0, 1, 0, 0) := by decide +kernel
theorem rX10_init_138 : am_rw mX10_init 138 = some (.bipush 40, 2, 40, 0) := by decide +kernel
theorem rX10_init_140 : am_rw mX10_init 140 = some (.newarray .int, 2, 20, 0) := by decide +kernel
theorem rX10_init_142 : am_rw mX10_init 142 = some (.putfield 59, 3, 10, 22) := by decide +kernel
theorem rX10_init_145 : am_rw mX10_init 145 = some (.aload_n 0, 1, 0, 0) := by decide +kernel
theorem rX10_init_146 : am_rw mX10_init 146 = some (.bipush 40, 2, 40, 0) := by decide +kernel
theorem rX10_init_148 : am_rw mX10_init 148 = some (.newarray .int, 2, 20, 0) := by decide +kernel
theorem rX10_init_150 : am_rw mX10_init 150 = some (.putfield 62, 3, 10, 23) := by decide +kernel
theorem rX10_init_153 : am_rw mX10_init 153 = some (.aload_n 0, 1, 0, 0) := by decide +kernel
theorem rX10_init_154 : am_rw mX10_init 154 = some (.iconst 3, 1, 3, 0) := by decide +kernel
theorem rX10_init_155 : am_rw mX10_init 155 = some (.newarray .boolean, 2, 23, 0) := by decide +kernel
theorem rX10_init_157 : am_rw mX10_init 157 = some (.putfield 65, 3, 10, 24) := by decide +kernel
theorem rX10_init_160 : am_rw mX10_init 160 = some (.aload_n 0, 1, 0, 0) := by decide +kernel
theorem rX10_init_161 : am_rw mX10_init 161 = some (.iconst 3, 1, 3, 0) := by decide +kernel
theorem rX10_init_162 : am_rw mX10_init 162 = some (.newarray .int, 2, 20, 0) := by decide +kernel
theorem rX10_init_164 : am_rw mX10_init 164 = some (.putfield 69, 3, 10, 25) := by decide +kernel
theorem rX10_init_167 : am_rw mX10_init 167 = some (.aload_n 0, 1, 0, 0) := by decide +kernel
theorem rX10_init_168 : am_rw mX10_init 168 = some (.iconst 3, 1, 3, 0) := by decide +kernel
theorem rX10_init_169 : am_rw mX10_init 169 = some (.newarray .int, 2, 20, 0) := by decide +kernel
theorem rX10_init_171 : am_rw mX10_init 171 = some (.putfield 72, 3, 10, 26) := by decide +kernel
theorem rX10_init_174 : am_rw mX10_init 174 = some (.aload_n 0, 1, 0, 0) := by decide +kernel
theorem rX10_init_175 : am_rw mX10_init 175 = some (.iconst 3, 1, 3, 0) := by decide +kernel
theorem rX10_init_176 : am_rw mX10_init 176 = some (.newarray .float, 2, 22, 0) := by decide +kernel
theorem rX10_init_178 : am_rw mX10_init 178 = some (.putfield 75, 3, 10, 27) := by decide +kernel
theorem rX10_init_181 : am_rw mX10_init 181 = some (.aload_n 0, 1, 0, 0) := by decide +kernel
theorem rX10_init_182 : am_rw mX10_init 182 = some (.iconst 3, 1, 3, 0) := by decide +kernel
theorem rX10_init_183 : am_rw mX10_init 183 = some (.newarray .boolean, 2, 23, 0) := by decide +kernel
theorem rX10_init_185 : am_rw mX10_init 185 = some (.putfield 78, 3, 10, 28) := by decide +kernel
theorem rX10_init_188 : am_rw mX10_init 188 = some (.aload_n 0, 1, 0, 0) := by decide +kernel
theorem rX10_init_189 : am_rw mX10_init 189 = some (.iconst 3, 1, 3, 0) := by decide +kernel
theorem rX10_init_190 : am_rw mX10_init 190 = some (.newarray .int, 2, 20, 0) := by decide +kernel
theorem rX10_init_192 : am_rw mX10_init 192 = some (.putfield 81, 3, 10, 29) := by decide +kernel
theorem rX10_init_195 : am_rw mX10_init 195 = some (.aload_n 0, 1, 0, 0) := by decide +kernel
theorem rX10_init_196 : am_rw mX10_init 196 = some (.bipush 120, 2, 120, 0) := by decide +kernel
theorem rX10_init_198 : am_rw mX10_init 198 = some (.newarray .int, 2, 20, 0) := by decide +kernel
theorem rX10_init_200 : am_rw mX10_init 200 = some (.putfield 84, 3, 10, 30) := by decide +kernel
theorem rX10_init_203 : am_rw mX10_init 203 = some (.aload_n 0, 1, 0, 0) := by decide +kernel
theorem rX10_init_204 : am_rw mX10_init 204 = some (.iconst 3, 1, 3, 0) := by decide +kernel
theorem rX10_init_205 : am_rw mX10_init 205 = some (.newarray .int, 2, 20, 0) := by decide +kernel
theorem rX10_init_207 : am_rw mX10_init 207 = some (.putfield 87, 3, 10, 31) := by decide +kernel
theorem rX10_init_210 : am_rw mX10_init 210 = some (.aload_n 0, 1, 0, 0) := by decide +kernel
theorem rX10_init_211 : am_rw mX10_init 211 = some (.sipush 603, 3, 603, 0) := by decide +kernel
theorem rX10_init_214 : am_rw mX10_init 214 = some (.newarray .float, 2, 22, 0) := by decide +kernel
theorem rX10_init_216 : am_rw mX10_init 216 = some (.putfield 90, 3, 10, 32) := by decide +kernel
theorem rX10_init_219 : am_rw mX10_init 219 = some (.aload_n 0, 1, 0, 0) := by decide +kernel
theorem rX10_init_220 : am_rw mX10_init 220 = some (.iconst 3, 1, 3, 0) := by decide +kernel
theorem rX10_init_221 : am_rw mX10_init 221 = some (.newarray .boolean, 2, 23, 0) := by decide +kernel
theorem rX10_init_223 : am_rw mX10_init 223 = some (.putfield 93, 3, 10, 33) := by decide +kernel
theorem rX10_init_226 : am_rw mX10_init 226 = some (.aload_n 0, 1, 0, 0) := by decide +kernel
theorem rX10_init_227 : am_rw mX10_init 227 = some (.iconst 3, 1, 3, 0) := by decide +kernel
theorem rX10_init_228 : am_rw mX10_init 228 = some (.newarray .int, 2, 20, 0) := by decide +kernel
theorem rX10_init_230 : am_rw mX10_init 230 = some (.putfield 96, 3, 10, 34) := by decide +kernel
theorem rX10_init_233 : am_rw mX10_init 233 = some (.aload_n 0, 1, 0, 0) := by decide +kernel
theorem rX10_init_234 : am_rw mX10_init 234 = some (.iconst 3, 1, 3, 0) := by decide +kernel
theorem rX10_init_235 : am_rw mX10_init 235 = some (.newarray .int, 2, 20, 0) := by decide +kernel
theorem rX10_init_237 : am_rw mX10_init 237 = some (.putfield 99, 3, 10, 35) := by decide +kernel
theorem rX10_init_240 : am_rw mX10_init 240 = some (.aload_n 0, 1, 0, 0) := by decide +kernel
theorem rX10_init_241 : am_rw mX10_init 241 = some (.iconst 3, 1, 3, 0) := by decide +kernel
theorem rX10_init_242 : am_rw mX10_init 242 = some (.newarray .int, 2, 20, 0) := by decide +kernel
theorem rX10_init_244 : am_rw mX10_init 244 = some (.putfield 102, 3, 10, 36) := by decide +kernel
theorem rX10_init_247 : am_rw mX10_init 247 = some (.aload_n 0, 1, 0, 0) := by decide +kernel
theorem rX10_init_248 : am_rw mX10_init 248 = some (.iconst 3, 1, 3, 0) := by decide +kernel
theorem rX10_init_249 : am_rw mX10_init 249 = some (.newarray .float, 2, 22, 0) := by decide +kernel
theorem rX10_init_251 : am_rw mX10_init 251 = some (.putfield 105, 3, 10, 37) := by decide +kernel
theorem rX10_init_254 : am_rw mX10_init 254 = some (.aload_n 0, 1, 0, 0) := by decide +kernel
theorem rX10_init_255 : am_rw mX10_init 255 = some (.iconst 3, 1, 3, 0) := by decide +kernel
theorem rX10_init_256 : am_rw mX10_init 256 = some (.newarray .int, 2, 20, 0) := by decide +kernel
theorem rX10_init_258 : am_rw mX10_init 258 = some (.putfield 108, 3, 10, 38) := by decide +kernel
theorem rX10_init_261 : am_rw mX10_init 261 = some (.aload_n 0, 1, 0, 0) := by decide +kernel
theorem rX10_init_262 : am_rw mX10_init 262 = some (.bipush 60, 2, 60, 0) := by decide +kernel
theorem rX10_init_264 : am_rw mX10_init 264 = some (.newarray .int, 2, 20, 0) := by decide +kernel
theorem rX10_init_266 : am_rw mX10_init 266 = some (.putfield 111, 3, 10, 40) := by decide +kernel
theorem rX10_init_269 : am_rw mX10_init 269 = some (.aload_n 0, 1, 0, 0) := by decide +kernel
theorem rX10_init_270 : am_rw mX10_init 270 = some (.bipush 60, 2, 60, 0) := by decide +kernel
theorem rX10_init_272 : am_rw mX10_init 272 = some (.newarray .int, 2, 20, 0) := by decide +kernel
theorem rX10_init_274 : am_rw mX10_init 274 = some (.putfield 114, 3, 10, 41) := by decide +kernel
theorem rX10_init_277 : am_rw mX10_init 277 = some (.aload_n 0, 1, 0, 0) := by decide +kernel
theorem rX10_init_278 : am_rw mX10_init 278 = some (.bipush 60, 2, 60, 0) := by decide +kernel
theorem rX10_init_280 : am_rw mX10_init 280 = some (.newarray .int, 2, 20, 0) := by decide +kernel
theorem rX10_init_282 : am_rw mX10_init 282 = some (.putfield 117, 3, 10, 42) := by decide +kernel
theorem rX10_init_285 : am_rw mX10_init 285 = some (.aload_n 0, 1, 0, 0) := by decide +kernel
theorem rX10_init_286 : am_rw mX10_init 286 = some (.bipush 60, 2, 60, 0) := by decide +kernel
theorem rX10_init_288 : am_rw mX10_init 288 = some (.newarray .int, 2, 20, 0) := by decide +kernel
theorem rX10_init_290 : am_rw mX10_init 290 = some (.putfield 120, 3, 10, 43) := by decide +kernel
theorem rX10_init_293 : am_rw mX10_init 293 = some (.aload_n 0, 1, 0, 0) := by decide +kernel
theorem rX10_init_294 : am_rw mX10_init 294 = some (.bipush 60, 2, 60, 0) := by decide +kernel
theorem rX10_init_296 : am_rw mX10_init 296 = some (.newarray .int, 2, 20, 0) := by decide +kernel
theorem rX10_init_298 : am_rw mX10_init 298 = some (.putfield 123, 3, 10, 44) := by decide +kernel
theorem rX10_init_301 : am_rw mX10_init 301 = some (.aload_n 0, 1, 0, 0) := by decide +kernel
theorem rX10_init_302 : am_rw mX10_init 302 = some (.bipush 40, 2, 40, 0) := by decide +kernel
theorem rX10_init_304 : am_rw mX10_init 304 = some (.newarray .int, 2, 20, 0) := by decide +kernel
theorem rX10_init_306 : am_rw mX10_init 306 = some (.putfield 126, 3, 10, 45) := by decide +kernel
theorem rX10_init_309 : am_rw mX10_init 309 = some (.aload_n 0, 1, 0, 0) := by decide +kernel
theorem rX10_init_310 : am_rw mX10_init 310 = some (.bipush 48, 2, 48, 0) := by decide +kernel
theorem rX10_init_312 : am_rw mX10_init 312 = some (.newarray .float, 2, 22, 0) := by decide +kernel
theorem rX10_init_314 : am_rw mX10_init 314 = some (.putfield 129, 3, 10, 47) := by decide +kernel
theorem rX10_init_317 : am_rw mX10_init 317 = some (.aload_n 0, 1, 0, 0) := by decide +kernel
theorem rX10_init_318 : am_rw mX10_init 318 = some (.bipush 48, 2, 48, 0) := by decide +kernel
theorem rX10_init_320 : am_rw mX10_init 320 = some (.newarray .int, 2, 20, 0) := by decide +kernel
theorem rX10_init_322 : am_rw mX10_init 322 = some (.putfield 132, 3, 10, 49) := by decide +kernel
theorem rX10_init_325 : am_rw mX10_init 325 = some (.iconst 0, 1, 0, 0) := by decide +kernel
theorem rX10_init_326 : am_rw mX10_init 326 = some (.istore_n 1, 1, 0, 0) := by decide +kernel
theorem rX10_init_327 : am_rw mX10_init 327 = some (.iload_n 1, 1, 0, 0) := by decide +kernel
theorem rX10_init_328 : am_rw mX10_init 328 = some (.bipush 6, 2, 6, 0) := by decide +kernel
theorem rX10_init_330 : am_rw mX10_init 330 = some (.if_icmp .ge 16, 3, 346, 0) := by decide +kernel
theorem rX10_init_333 : am_rw mX10_init 333 = some (.aload_n 0, 1, 0, 0) := by decide +kernel
theorem rX10_init_334 : am_rw mX10_init 334 = some (.getfield 28, 3, 10, 10) := by decide +kernel
theorem rX10_init_337 : am_rw mX10_init 337 = some (.iload_n 1, 1, 0, 0) := by decide +kernel
theorem rX10_init_338 : am_rw mX10_init 338 = some (.iconst (-1), 1, 1, 1) := by decide +kernel
theorem rX10_init_339 : am_rw mX10_init 339 = some (.iastore, 1, 0, 0) := by decide +kernel
theorem rX10_init_340 : am_rw mX10_init 340 = some (.iinc 1 1, 3, 0, 0) := by decide +kernel
theorem rX10_init_343 : am_rw mX10_init 343 = some (.goto (-16), 3, 327, 0) := by decide +kernel
theorem rX10_init_346 : am_rw mX10_init 346 = some (.iconst 0, 1, 0, 0) := by decide +kernel
theorem rX10_init_347 : am_rw mX10_init 347 = some (.istore_n 1, 1, 0, 0) := by decide +kernel
theorem rX10_init_348 : am_rw mX10_init 348 = some (.iload_n 1, 1, 0, 0) := by decide +kernel
theorem rX10_init_349 : am_rw mX10_init 349 = some (.iconst 3, 1, 3, 0) := by decide +kernel
theorem rX10_init_350 : am_rw mX10_init 350 = some (.if_icmp .ge 23, 3, 373, 0) := by decide +kernel
theorem rX10_init_353 : am_rw mX10_init 353 = some (.aload_n 0, 1, 0, 0) := by decide +kernel
theorem rX10_init_354 : am_rw mX10_init 354 = some (.getfield 87, 3, 10, 31) := by decide +kernel
theorem rX10_init_357 : am_rw mX10_init 357 = some (.iload_n 1, 1, 0, 0) := by decide +kernel
theorem rX10_init_358 : am_rw mX10_init 358 = some (.iconst (-1), 1, 1, 1) := by decide +kernel
theorem rX10_init_359 : am_rw mX10_init 359 = some (.iastore, 1, 0, 0) := by decide +kernel
theorem rX10_init_360 : am_rw mX10_init 360 = some (.aload_n 0, 1, 0, 0) := by decide +kernel
theorem rX10_init_361 : am_rw mX10_init 361 = some (.getfield 105, 3, 10, 37) := by decide +kernel
theorem rX10_init_364 : am_rw mX10_init 364 = some (.iload_n 1, 1, 0, 0) := by decide +kernel
theorem rX10_init_365 : am_rw mX10_init 365 = some (.fconst 1, 1, 0, 0) := by decide +kernel
theorem rX10_init_366 : am_rw mX10_init 366 = some (.fastore, 1, 0, 0) := by decide +kernel
theorem rX10_init_367 : am_rw mX10_init 367 = some (.iinc 1 1, 3, 0, 0) := by decide +kernel
theorem rX10_init_370 : am_rw mX10_init 370 = some (.goto (-22), 3, 348, 0) := by decide +kernel
theorem rX10_init_373 : am_rw mX10_init 373 = some (.return_, 1, 0, 0) := by decide +kernel
theorem rX10_thrown_0 : am_rw mX10_thrown 0 = some (.aload_n 0, 1, 0, 0) := by decide +kernel
theorem rX10_thrown_1 : am_rw mX10_thrown 1 = some (.getfield 135, 3, 10, 0) := by decide +kernel
theorem rX10_thrown_4 : am_rw mX10_thrown 4 = some (.ireturn, 1, 0, 0) := by decide +kernel
theorem rX10_holds_0 : am_rw mX10_holds 0 = some (.aload_n 0, 1, 0, 0) := by decide +kernel
theorem rX10_holds_1 : am_rw mX10_holds 1 = some (.iload_n 1, 1, 0, 0) := by decide +kernel
theorem rX10_holds_2 : am_rw mX10_holds 2 = some (.putfield 135, 3, 10, 0) := by decide +kernel
theorem rX10_holds_5 : am_rw mX10_holds 5 = some (.iload_n 1, 1, 0, 0) := by decide +kernel
theorem rX10_holds_6 : am_rw mX10_holds 6 = some (.ifCond .ne 7, 3, 13, 0) := by decide +kernel
theorem rX10_holds_9 : am_rw mX10_holds 9 = some (.iconst 1, 1, 1, 0) := by decide +kernel
theorem rX10_holds_10 : am_rw mX10_holds 10 = some (.goto 4, 3, 14, 0) := by decide +kernel
theorem rX10_holds_13 : am_rw mX10_holds 13 = some (.iconst 0, 1, 0, 0) := by decide +kernel
theorem rX10_holds_14 : am_rw mX10_holds 14 = some (.ireturn, 1, 0, 0) := by decide +kernel
theorem rX10_isIn_0 : am_rw mX10_isIn 0 = some (.iload_n 0, 1, 0, 0) := by decide +kernel
theorem rX10_isIn_1 : am_rw mX10_isIn 1 = some (.iload_n 1, 1, 0, 0) := by decide +kernel
theorem rX10_isIn_2 : am_rw mX10_isIn 2 = some (.if_icmp .lt 12, 3, 14, 0) := by decide +kernel
theorem rX10_isIn_5 : am_rw mX10_isIn 5 = some (.iload_n 0, 1, 0, 0) := by decide +kernel
theorem rX10_isIn_6 : am_rw mX10_isIn 6 = some (.iload_n 2, 1, 0, 0) := by decide +kernel
theorem rX10_isIn_7 : am_rw mX10_isIn 7 = some (.if_icmp .gt 7, 3, 14, 0) := by decide +kernel
theorem rX10_isIn_10 : am_rw mX10_isIn 10 = some (.iconst 1, 1, 1, 0) := by decide +kernel
theorem rX10_isIn_11 : am_rw mX10_isIn 11 = some (.goto 4, 3, 15, 0) := by decide +kernel
theorem rX10_isIn_14 : am_rw mX10_isIn 14 = some (.iconst 0, 1, 0, 0) := by decide +kernel
theorem rX10_isIn_15 : am_rw mX10_isIn 15 = some (.ireturn, 1, 0, 0) := by decide +kernel
theorem rX10_isModel_0 : am_rw mX10_isModel 0 = some (.iload_n 0, 1, 0, 0) := by decide +kernel
theorem rX10_isModel_1 : am_rw mX10_isModel 1 = some (.iconst 0, 1, 0, 0) := by decide +kernel
theorem rX10_isModel_2 : am_rw mX10_isModel 2 = some (.iconst 5, 1, 5, 0) := by decide +kernel
theorem rX10_isModel_3 : am_rw mX10_isModel 3 = some (.invokestatic 139, 3, 103, 3) := by decide +kernel
theorem rX10_isModel_6 : am_rw mX10_isModel 6 = some (.ireturn, 1, 0, 0) := by decide +kernel
theorem rX10_isDam_0 : am_rw mX10_isDam 0 = some (.iload_n 0, 1, 0, 0) := by decide +kernel
theorem rX10_isDam_1 : am_rw mX10_isDam 1 = some (.iconst 0, 1, 0, 0) := by decide +kernel
theorem rX10_isDam_2 : am_rw mX10_isDam 2 = some (.iconst 2, 1, 2, 0) := by decide +kernel
theorem rX10_isDam_3 : am_rw mX10_isDam 3 = some (.invokestatic 139, 3, 103, 3) := by decide +kernel
theorem rX10_isDam_6 : am_rw mX10_isDam 6 = some (.ireturn, 1, 0, 0) := by decide +kernel
theorem rX10_isVersion_0 : am_rw mX10_isVersion 0 = some (.iload_n 1, 1, 0, 0) := by decide +kernel
theorem rX10_isVersion_1 : am_rw mX10_isVersion 1 = some (.iconst 0, 1, 0, 0) := by decide +kernel
theorem rX10_isVersion_2 : am_rw mX10_isVersion 2 = some (.aload_n 0, 1, 0, 0) := by decide +kernel
theorem rX10_isVersion_3 : am_rw mX10_isVersion 3 = some (.getfield 143, 3, 10, 5) := by decide +kernel
theorem rX10_isVersion_6 : am_rw mX10_isVersion 6 = some (.iconst 1, 1, 1, 0) := by decide +kernel
theorem rX10_isVersion_7 : am_rw mX10_isVersion 7 = some (.isub, 1, 0, 0) := by decide +kernel
theorem rX10_isVersion_8 : am_rw mX10_isVersion 8 = some (.invokestatic 139, 3, 103, 3) := by decide +kernel
theorem rX10_isVersion_11 : am_rw mX10_isVersion 11 = some (.ireturn, 1, 0, 0) := by decide +kernel
theorem rX10_isRun_0 : am_rw mX10_isRun 0 = some (.iload_n 1, 1, 0, 0) := by decide +kernel
theorem rX10_isRun_1 : am_rw mX10_isRun 1 = some (.iconst 0, 1, 0, 0) := by decide +kernel
theorem rX10_isRun_2 : am_rw mX10_isRun 2 = some (.aload_n 0, 1, 0, 0) := by decide +kernel
theorem rX10_isRun_3 : am_rw mX10_isRun 3 = some (.getfield 146, 3, 10, 17) := by decide +kernel
theorem rX10_isRun_6 : am_rw mX10_isRun 6 = some (.iconst 1, 1, 1, 0) := by decide +kernel
theorem rX10_isRun_7 : am_rw mX10_isRun 7 = some (.isub, 1, 0, 0) := by decide +kernel
theorem rX10_isRun_8 : am_rw mX10_isRun 8 = some (.invokestatic 139, 3, 103, 3) := by decide +kernel
theorem rX10_isRun_11 : am_rw mX10_isRun 11 = some (.ireturn, 1, 0, 0) := by decide +kernel
theorem rX10_isFigure_0 : am_rw mX10_isFigure 0 = some (.iload_n 0, 1, 0, 0) := by decide +kernel
theorem rX10_isFigure_1 : am_rw mX10_isFigure 1 = some (.bipush 48, 2, 48, 0) := by decide +kernel
theorem rX10_isFigure_3 : am_rw mX10_isFigure 3 = some (.bipush 57, 2, 57, 0) := by decide +kernel
theorem rX10_isFigure_5 : am_rw mX10_isFigure 5 = some (.invokestatic 139, 3, 103, 3) := by decide +kernel
theorem rX10_isFigure_8 : am_rw mX10_isFigure 8 = some (.ireturn, 1, 0, 0) := by decide +kernel
theorem rX10_isSign_0 : am_rw mX10_isSign 0 = some (.iload_n 0, 1, 0, 0) := by decide +kernel
theorem rX10_isSign_1 : am_rw mX10_isSign 1 = some (.bipush 43, 2, 43, 0) := by decide +kernel
theorem rX10_isSign_3 : am_rw mX10_isSign 3 = some (.if_icmp .eq 21, 3, 24, 0) := by decide +kernel
theorem rX10_isSign_6 : am_rw mX10_isSign 6 = some (.iload_n 0, 1, 0, 0) := by decide +kernel
theorem rX10_isSign_7 : am_rw mX10_isSign 7 = some (.bipush 45, 2, 45, 0) := by decide +kernel
theorem rX10_isSign_9 : am_rw mX10_isSign 9 = some (.if_icmp .eq 15, 3, 24, 0) := by decide +kernel
theorem rX10_isSign_12 : am_rw mX10_isSign 12 = some (.iload_n 0, 1, 0, 0) := by decide +kernel
theorem rX10_isSign_13 : am_rw mX10_isSign 13 = some (.bipush 42, 2, 42, 0) := by decide +kernel
theorem rX10_isSign_15 : am_rw mX10_isSign 15 = some (.if_icmp .eq 9, 3, 24, 0) := by decide +kernel
theorem rX10_isSign_18 : am_rw mX10_isSign 18 = some (.iload_n 0, 1, 0, 0) := by decide +kernel
theorem rX10_isSign_19 : am_rw mX10_isSign 19 = some (.bipush 47, 2, 47, 0) := by decide +kernel
theorem rX10_isSign_21 : am_rw mX10_isSign 21 = some (.if_icmp .ne 7, 3, 28, 0) := by decide +kernel
theorem rX10_isSign_24 : am_rw mX10_isSign 24 = some (.iconst 1, 1, 1, 0) := by decide +kernel
theorem rX10_isSign_25 : am_rw mX10_isSign 25 = some (.goto 4, 3, 29, 0) := by decide +kernel
theorem rX10_isSign_28 : am_rw mX10_isSign 28 = some (.iconst 0, 1, 0, 0) := by decide +kernel
theorem rX10_isSign_29 : am_rw mX10_isSign 29 = some (.ireturn, 1, 0, 0) := by decide +kernel
theorem rX10_inputs_0 : am_rw mX10_inputs 0 = some (.iload_n 0, 1, 0, 0) := by decide +kernel
theorem rX10_inputs_1 : am_rw mX10_inputs 1 = some (.bipush 120, 2, 120, 0) := by decide +kernel
theorem rX10_inputs_3 : am_rw mX10_inputs 3 = some (.if_icmp .eq 9, 3, 12, 0) := by decide +kernel
theorem rX10_inputs_6 : am_rw mX10_inputs 6 = some (.iload_n 0, 1, 0, 0) := by decide +kernel
theorem rX10_inputs_7 : am_rw mX10_inputs 7 = some (.bipush 110, 2, 110, 0) := by decide +kernel
theorem rX10_inputs_9 : am_rw mX10_inputs 9 = some (.if_icmp .ne 7, 3, 16, 0) := by decide +kernel
theorem rX10_inputs_12 : am_rw mX10_inputs 12 = some (.iconst 2, 1, 2, 0) := by decide +kernel
theorem rX10_inputs_13 : am_rw mX10_inputs 13 = some (.goto 30, 3, 43, 0) := by decide +kernel
theorem rX10_inputs_16 : am_rw mX10_inputs 16 = some (.iload_n 0, 1, 0, 0) := by decide +kernel
theorem rX10_inputs_17 : am_rw mX10_inputs 17 = some (.bipush 105, 2, 105, 0) := by decide +kernel
theorem rX10_inputs_19 : am_rw mX10_inputs 19 = some (.if_icmp .ne 7, 3, 26, 0) := by decide +kernel
theorem rX10_inputs_22 : am_rw mX10_inputs 22 = some (.iconst 3, 1, 3, 0) := by decide +kernel
theorem rX10_inputs_23 : am_rw mX10_inputs 23 = some (.goto 20, 3, 43, 0) := by decide +kernel
theorem rX10_inputs_26 : am_rw mX10_inputs 26 = some (.iload_n 0, 1, 0, 0) := by decide +kernel
theorem rX10_inputs_27 : am_rw mX10_inputs 27 = some (.bipush 116, 2, 116, 0) := by decide +kernel
theorem rX10_inputs_29 : am_rw mX10_inputs 29 = some (.if_icmp .eq 9, 3, 38, 0) := by decide +kernel
theorem rX10_inputs_32 : am_rw mX10_inputs 32 = some (.iload_n 0, 1, 0, 0) := by decide +kernel
theorem rX10_inputs_33 : am_rw mX10_inputs 33 = some (.bipush 97, 2, 97, 0) := by decide +kernel
theorem rX10_inputs_35 : am_rw mX10_inputs 35 = some (.if_icmp .ne 7, 3, 42, 0) := by decide +kernel
theorem rX10_inputs_38 : am_rw mX10_inputs 38 = some (.iconst 1, 1, 1, 0) := by decide +kernel
theorem rX10_inputs_39 : am_rw mX10_inputs 39 = some (.goto 4, 3, 43, 0) := by decide +kernel
theorem rX10_inputs_42 : am_rw mX10_inputs 42 = some (.iconst 0, 1, 0, 0) := by decide +kernel
theorem rX10_inputs_43 : am_rw mX10_inputs 43 = some (.ireturn, 1, 0, 0) := by decide +kernel
theorem rX10_figures_0 : am_rw mX10_figures 0 = some (.iload_n 1, 1, 0, 0) := by decide +kernel
theorem rX10_figures_1 : am_rw mX10_figures 1 = some (.ifCond .eq 7, 3, 8, 0) := by decide +kernel
theorem rX10_figures_4 : am_rw mX10_figures 4 = some (.iconst 0, 1, 0, 0) := by decide +kernel
theorem rX10_figures_5 : am_rw mX10_figures 5 = some (.goto 31, 3, 36, 0) := by decide +kernel
theorem rX10_figures_8 : am_rw mX10_figures 8 = some (.iload_n 0, 1, 0, 0) := by decide +kernel
theorem rX10_figures_9 : am_rw mX10_figures 9 = some (.bipush 103, 2, 103, 0) := by decide +kernel
theorem rX10_figures_11 : am_rw mX10_figures 11 = some (.if_icmp .ne 7, 3, 18, 0) := by decide +kernel
theorem rX10_figures_14 : am_rw mX10_figures 14 = some (.iconst 3, 1, 3, 0) := by decide +kernel
theorem rX10_figures_15 : am_rw mX10_figures 15 = some (.goto 21, 3, 36, 0) := by decide +kernel
theorem rX10_figures_18 : am_rw mX10_figures 18 = some (.iload_n 0, 1, 0, 0) := by decide +kernel
theorem rX10_figures_19 : am_rw mX10_figures 19 = some (.bipush 109, 2, 109, 0) := by decide +kernel
theorem rX10_figures_21 : am_rw mX10_figures 21 = some (.if_icmp .eq 9, 3, 30, 0) := by decide +kernel
theorem rX10_figures_24 : am_rw mX10_figures 24 = some (.iload_n 0, 1, 0, 0) := by decide +kernel
theorem rX10_figures_25 : am_rw mX10_figures 25 = some (.bipush 113, 2, 113, 0) := by decide +kernel
theorem rX10_figures_27 : am_rw mX10_figures 27 = some (.if_icmp .ne 8, 3, 35, 0) := by decide +kernel
theorem rX10_figures_30 : am_rw mX10_figures 30 = some (.bipush 6, 2, 6, 0) := by decide +kernel
theorem rX10_figures_32 : am_rw mX10_figures 32 = some (.goto 4, 3, 36, 0) := by decide +kernel
theorem rX10_figures_35 : am_rw mX10_figures 35 = some (.iconst 0, 1, 0, 0) := by decide +kernel
theorem rX10_figures_36 : am_rw mX10_figures 36 = some (.ireturn, 1, 0, 0) := by decide +kernel
theorem rX10_isPlain_0 : am_rw mX10_isPlain 0 = some (.iload_n 0, 1, 0, 0) := by decide +kernel
theorem rX10_isPlain_1 : am_rw mX10_isPlain 1 = some (.bipush 104, 2, 104, 0) := by decide +kernel
theorem rX10_isPlain_3 : am_rw mX10_isPlain 3 = some (.if_icmp .eq 34, 3, 37, 0) := by decide +kernel
theorem rX10_isPlain_6 : am_rw mX10_isPlain 6 = some (.iload_n 1, 1, 0, 0) := by decide +kernel
theorem rX10_isPlain_7 : am_rw mX10_isPlain 7 = some (.ifCond .eq 24, 3, 31, 0) := by decide +kernel
theorem rX10_isPlain_10 : am_rw mX10_isPlain 10 = some (.iload_n 0, 1, 0, 0) := by decide +kernel
theorem rX10_isPlain_11 : am_rw mX10_isPlain 11 = some (.bipush 108, 2, 108, 0) := by decide +kernel
theorem rX10_isPlain_13 : am_rw mX10_isPlain 13 = some (.if_icmp .eq 24, 3, 37, 0) := by decide +kernel
theorem rX10_isPlain_16 : am_rw mX10_isPlain 16 = some (.iload_n 0, 1, 0, 0) := by decide +kernel
theorem rX10_isPlain_17 : am_rw mX10_isPlain 17 = some (.bipush 102, 2, 102, 0) := by decide +kernel
theorem rX10_isPlain_19 : am_rw mX10_isPlain 19 = some (.if_icmp .eq 18, 3, 37, 0) := by decide +kernel
theorem rX10_isPlain_22 : am_rw mX10_isPlain 22 = some (.iload_n 0, 1, 0, 0) := by decide +kernel
theorem rX10_isPlain_23 : am_rw mX10_isPlain 23 = some (.bipush 114, 2, 114, 0) := by decide +kernel
theorem rX10_isPlain_25 : am_rw mX10_isPlain 25 = some (.if_icmp .ne 16, 3, 41, 0) := by decide +kernel
theorem rX10_isPlain_28 : am_rw mX10_isPlain 28 = some (.goto 9, 3, 37, 0) := by decide +kernel
theorem rX10_isPlain_31 : am_rw mX10_isPlain 31 = some (.iload_n 0, 1, 0, 0) := by decide +kernel
theorem rX10_isPlain_32 : am_rw mX10_isPlain 32 = some (.bipush 112, 2, 112, 0) := by decide +kernel
theorem rX10_isPlain_34 : am_rw mX10_isPlain 34 = some (.if_icmp .ne 7, 3, 41, 0) := by decide +kernel
theorem rX10_isPlain_37 : am_rw mX10_isPlain 37 = some (.iconst 1, 1, 1, 0) := by decide +kernel
theorem rX10_isPlain_38 : am_rw mX10_isPlain 38 = some (.goto 4, 3, 42, 0) := by decide +kernel
theorem rX10_isPlain_41 : am_rw mX10_isPlain 41 = some (.iconst 0, 1, 0, 0) := by decide +kernel
theorem rX10_isPlain_42 : am_rw mX10_isPlain 42 = some (.ireturn, 1, 0, 0) := by decide +kernel
theorem rX10_type_0 : am_rw mX10_type 0 = some (.iload_n 1, 1, 0, 0) := by decide +kernel
theorem rX10_type_1 : am_rw mX10_type 1 = some (.bipush 97, 2, 97, 0) := by decide +kernel
theorem rX10_type_3 : am_rw mX10_type 3 = some (.bipush 122, 2, 122, 0) := by decide +kernel
theorem rX10_type_5 : am_rw mX10_type 5 = some (.invokestatic 139, 3, 103, 3) := by decide +kernel
theorem rX10_type_8 : am_rw mX10_type 8 = some (.ifCond .ne 41, 3, 49, 0) := by decide +kernel
theorem rX10_type_11 : am_rw mX10_type 11 = some (.iload_n 1, 1, 0, 0) := by decide +kernel
theorem rX10_type_12 : am_rw mX10_type 12 = some (.invokestatic 149, 3, 108, 1) := by decide +kernel
theorem rX10_type_15 : am_rw mX10_type 15 = some (.ifCond .ne 34, 3, 49, 0) := by decide +kernel
theorem rX10_type_18 : am_rw mX10_type 18 = some (.iload_n 1, 1, 0, 0) := by decide +kernel
theorem rX10_type_19 : am_rw mX10_type 19 = some (.invokestatic 153, 3, 109, 1) := by decide +kernel
theorem rX10_type_22 : am_rw mX10_type 22 = some (.ifCond .ne 27, 3, 49, 0) := by decide +kernel
theorem rX10_type_25 : am_rw mX10_type 25 = some (.iload_n 1, 1, 0, 0) := by decide +kernel
theorem rX10_type_26 : am_rw mX10_type 26 = some (.bipush 40, 2, 40, 0) := by decide +kernel
theorem rX10_type_28 : am_rw mX10_type 28 = some (.if_icmp .eq 21, 3, 49, 0) := by decide +kernel
theorem rX10_type_31 : am_rw mX10_type 31 = some (.iload_n 1, 1, 0, 0) := by decide +kernel
theorem rX10_type_32 : am_rw mX10_type 32 = some (.bipush 41, 2, 41, 0) := by decide +kernel
theorem rX10_type_34 : am_rw mX10_type 34 = some (.if_icmp .eq 15, 3, 49, 0) := by decide +kernel
theorem rX10_type_37 : am_rw mX10_type 37 = some (.iload_n 1, 1, 0, 0) := by decide +kernel
theorem rX10_type_38 : am_rw mX10_type 38 = some (.bipush 44, 2, 44, 0) := by decide +kernel
theorem rX10_type_40 : am_rw mX10_type 40 = some (.if_icmp .eq 9, 3, 49, 0) := by decide +kernel
theorem rX10_type_43 : am_rw mX10_type 43 = some (.iload_n 1, 1, 0, 0) := by decide +kernel
theorem rX10_type_44 : am_rw mX10_type 44 = some (.bipush 46, 2, 46, 0) := by decide +kernel
theorem rX10_type_46 : am_rw mX10_type 46 = some (.if_icmp .ne 7, 3, 53, 0) := by decide +kernel
theorem rX10_type_49 : am_rw mX10_type 49 = some (.iconst 1, 1, 1, 0) := by decide +kernel
theorem rX10_type_50 : am_rw mX10_type 50 = some (.goto 4, 3, 54, 0) := by decide +kernel
theorem rX10_type_53 : am_rw mX10_type 53 = some (.iconst 0, 1, 0, 0) := by decide +kernel
theorem rX10_type_54 : am_rw mX10_type 54 = some (.istore_n 2, 1, 0, 0) := by decide +kernel
theorem rX10_type_55 : am_rw mX10_type 55 = some (.aload_n 0, 1, 0, 0) := by decide +kernel
theorem rX10_type_56 : am_rw mX10_type 56 = some (.iload_n 2, 1, 0, 0) := by decide +kernel
theorem rX10_type_57 : am_rw mX10_type 57 = some (.ifCond .ne 7, 3, 64, 0) := by decide +kernel
theorem rX10_type_60 : am_rw mX10_type 60 = some (.iconst 1, 1, 1, 0) := by decide +kernel
theorem rX10_type_61 : am_rw mX10_type 61 = some (.goto 17, 3, 78, 0) := by decide +kernel
theorem rX10_type_64 : am_rw mX10_type 64 = some (.aload_n 0, 1, 0, 0) := by decide +kernel
theorem rX10_type_65 : am_rw mX10_type 65 = some (.getfield 156, 3, 10, 2) := by decide +kernel
theorem rX10_type_68 : am_rw mX10_type 68 = some (.bipush 40, 2, 40, 0) := by decide +kernel
theorem rX10_type_70 : am_rw mX10_type 70 = some (.if_icmp .ne 7, 3, 77, 0) := by decide +kernel
theorem rX10_type_73 : am_rw mX10_type 73 = some (.iconst 2, 1, 2, 0) := by decide +kernel
theorem rX10_type_74 : am_rw mX10_type 74 = some (.goto 4, 3, 78, 0) := by decide +kernel
theorem rX10_type_77 : am_rw mX10_type 77 = some (.iconst 0, 1, 0, 0) := by decide +kernel
theorem rX10_type_78 : am_rw mX10_type 78 = some (.invokevirtual 159, 3, 102, 2) := by decide +kernel
theorem rX10_type_81 : am_rw mX10_type 81 = some (.ifCond .ne 5, 3, 86, 0) := by decide +kernel
theorem rX10_type_84 : am_rw mX10_type 84 = some (.iconst 0, 1, 0, 0) := by decide +kernel
theorem rX10_type_85 : am_rw mX10_type 85 = some (.ireturn, 1, 0, 0) := by decide +kernel
theorem rX10_type_86 : am_rw mX10_type 86 = some (.aload_n 0, 1, 0, 0) := by decide +kernel
theorem rX10_type_87 : am_rw mX10_type 87 = some (.getfield 7, 3, 10, 3) := by decide +kernel
theorem rX10_type_90 : am_rw mX10_type 90 = some (.aload_n 0, 1, 0, 0) := by decide +kernel
theorem rX10_type_91 : am_rw mX10_type 91 = some (.getfield 156, 3, 10, 2) := by decide +kernel
theorem rX10_type_94 : am_rw mX10_type 94 = some (.iload_n 1, 1, 0, 0) := by decide +kernel
theorem rX10_type_95 : am_rw mX10_type 95 = some (.iastore, 1, 0, 0) := by decide +kernel
theorem rX10_type_96 : am_rw mX10_type 96 = some (.aload_n 0, 1, 0, 0) := by decide +kernel
theorem rX10_type_97 : am_rw mX10_type 97 = some (.dup, 1, 0, 0) := by decide +kernel
theorem rX10_type_98 : am_rw mX10_type 98 = some (.getfield 156, 3, 10, 2) := by decide +kernel
theorem rX10_type_101 : am_rw mX10_type 101 = some (.iconst 1, 1, 1, 0) := by decide +kernel
theorem rX10_type_102 : am_rw mX10_type 102 = some (.iadd, 1, 0, 0) := by decide +kernel
theorem rX10_type_103 : am_rw mX10_type 103 = some (.putfield 156, 3, 10, 2) := by decide +kernel
theorem rX10_type_106 : am_rw mX10_type 106 = some (.aload_n 0, 1, 0, 0) := by decide +kernel
theorem rX10_type_107 : am_rw mX10_type 107 = some (.getfield 156, 3, 10, 2) := by decide +kernel
theorem rX10_type_110 : am_rw mX10_type 110 = some (.ireturn, 1, 0, 0) := by decide +kernel
theorem rX10_wipe_0 : am_rw mX10_wipe 0 = some (.aload_n 0, 1, 0, 0) := by decide +kernel
theorem rX10_wipe_1 : am_rw mX10_wipe 1 = some (.iconst 0, 1, 0, 0) := by decide +kernel
theorem rX10_wipe_2 : am_rw mX10_wipe 2 = some (.putfield 135, 3, 10, 0) := by decide +kernel
theorem rX10_wipe_5 : am_rw mX10_wipe 5 = some (.aload_n 0, 1, 0, 0) := by decide +kernel
theorem rX10_wipe_6 : am_rw mX10_wipe 6 = some (.getfield 156, 3, 10, 2) := by decide +kernel
theorem rX10_wipe_9 : am_rw mX10_wipe 9 = some (.istore_n 1, 1, 0, 0) := by decide +kernel
theorem rX10_wipe_10 : am_rw mX10_wipe 10 = some (.aload_n 0, 1, 0, 0) := by decide +kernel
theorem rX10_wipe_11 : am_rw mX10_wipe 11 = some (.iconst 0, 1, 0, 0) := by decide +kernel
theorem rX10_wipe_12 : am_rw mX10_wipe 12 = some (.putfield 156, 3, 10, 2) := by decide +kernel
theorem rX10_wipe_15 : am_rw mX10_wipe 15 = some (.iload_n 1, 1, 0, 0) := by decide +kernel
theorem rX10_wipe_16 : am_rw mX10_wipe 16 = some (.ireturn, 1, 0, 0) := by decide +kernel
theorem rX10_begun_0 : am_rw mX10_begun 0 = some (.iload_n 0, 1, 0, 0) := by decide +kernel
theorem rX10_begun_1 : am_rw mX10_begun 1 = some (.invokestatic 149, 3, 108, 1) := by decide +kernel
theorem rX10_begun_4 : am_rw mX10_begun 4 = some (.ifCond .eq 5, 3, 9, 0) := by decide +kernel
theorem rX10_begun_7 : am_rw mX10_begun 7 = some (.iconst 2, 1, 2, 0) := by decide +kernel
theorem rX10_begun_8 : am_rw mX10_begun 8 = some (.ireturn, 1, 0, 0) := by decide +kernel
theorem rX10_begun_9 : am_rw mX10_begun 9 = some (.iload_n 0, 1, 0, 0) := by decide +kernel
theorem rX10_begun_10 : am_rw mX10_begun 10 = some (.bipush 45, 2, 45, 0) := by decide +kernel
theorem rX10_begun_12 : am_rw mX10_begun 12 = some (.if_icmp .eq 9, 3, 21, 0) := by decide +kernel
theorem rX10_begun_15 : am_rw mX10_begun 15 = some (.iload_n 0, 1, 0, 0) := by decide +kernel
theorem rX10_begun_16 : am_rw mX10_begun 16 = some (.bipush 40, 2, 40, 0) := by decide +kernel
theorem rX10_begun_18 : am_rw mX10_begun 18 = some (.if_icmp .ne 7, 3, 25, 0) := by decide +kernel
theorem rX10_begun_21 : am_rw mX10_begun 21 = some (.iconst 0, 1, 0, 0) := by decide +kernel
theorem rX10_begun_22 : am_rw mX10_begun 22 = some (.goto 41, 3, 63, 0) := by decide +kernel
theorem rX10_begun_25 : am_rw mX10_begun 25 = some (.iload_n 0, 1, 0, 0) := by decide +kernel
theorem rX10_begun_26 : am_rw mX10_begun 26 = some (.invokestatic 162, 3, 110, 1) := by decide +kernel
theorem rX10_begun_29 : am_rw mX10_begun 29 = some (.ifCond .le 8, 3, 37, 0) := by decide +kernel
theorem rX10_begun_32 : am_rw mX10_begun 32 = some (.bipush 7, 2, 7, 0) := by decide +kernel
theorem rX10_begun_34 : am_rw mX10_begun 34 = some (.goto 29, 3, 63, 0) := by decide +kernel
theorem rX10_begun_37 : am_rw mX10_begun 37 = some (.iload_n 0, 1, 0, 0) := by decide +kernel
theorem rX10_begun_38 : am_rw mX10_begun 38 = some (.iload_n 1, 1, 0, 0) := by decide +kernel
theorem rX10_begun_39 : am_rw mX10_begun 39 = some (.invokestatic 166, 3, 111, 2) := by decide +kernel
theorem rX10_begun_42 : am_rw mX10_begun 42 = some (.ifCond .le 8, 3, 50, 0) := by decide +kernel
theorem rX10_begun_45 : am_rw mX10_begun 45 = some (.bipush 6, 2, 6, 0) := by decide +kernel
theorem rX10_begun_47 : am_rw mX10_begun 47 = some (.goto 16, 3, 63, 0) := by decide +kernel
theorem rX10_begun_50 : am_rw mX10_begun 50 = some (.iload_n 0, 1, 0, 0) := by decide +kernel
theorem rX10_begun_51 : am_rw mX10_begun 51 = some (.iload_n 1, 1, 0, 0) := by decide +kernel
theorem rX10_begun_52 : am_rw mX10_begun 52 = some (.invokestatic 170, 3, 112, 2) := by decide +kernel
theorem rX10_begun_55 : am_rw mX10_begun 55 = some (.ifCond .eq 7, 3, 62, 0) := by decide +kernel
theorem rX10_begun_58 : am_rw mX10_begun 58 = some (.iconst 1, 1, 1, 0) := by decide +kernel
theorem rX10_begun_59 : am_rw mX10_begun 59 = some (.goto 4, 3, 63, 0) := by decide +kernel
theorem rX10_begun_62 : am_rw mX10_begun 62 = some (.iconst (-1), 1, 1, 1) := by decide +kernel
theorem rX10_begun_63 : am_rw mX10_begun 63 = some (.ireturn, 1, 0, 0) := by decide +kernel
theorem rX10_faultOf_0 : am_rw mX10_faultOf 0 = some (.iconst 0, 1, 0, 0) := by decide +kernel
theorem rX10_faultOf_1 : am_rw mX10_faultOf 1 = some (.istore_n 2, 1, 0, 0) := by decide +kernel
theorem rX10_faultOf_2 : am_rw mX10_faultOf 2 = some (.iconst 0, 1, 0, 0) := by decide +kernel
theorem rX10_faultOf_3 : am_rw mX10_faultOf 3 = some (.istore_n 3, 1, 0, 0) := by decide +kernel
theorem rX10_faultOf_4 : am_rw mX10_faultOf 4 = some (.iconst 0, 1, 0, 0) := by decide +kernel
theorem rX10_faultOf_5 : am_rw mX10_faultOf 5 = some (.istore 4, 2, 0, 0) := by decide +kernel
theorem rX10_faultOf_7 : am_rw mX10_faultOf 7 = some (.iconst 0, 1, 0, 0) := by decide +kernel
theorem rX10_faultOf_8 : am_rw mX10_faultOf 8 = some (.istore 5, 2, 0, 0) := by decide +kernel
theorem rX10_faultOf_10 : am_rw mX10_faultOf 10 = some (.iconst 0, 1, 0, 0) := by decide +kernel
theorem rX10_faultOf_11 : am_rw mX10_faultOf 11 = some (.istore 6, 2, 0, 0) := by decide +kernel
theorem rX10_faultOf_13 : am_rw mX10_faultOf 13 = some (.iload 6, 2, 0, 0) := by decide +kernel
theorem rX10_faultOf_15 : am_rw mX10_faultOf 15 = some (.aload_n 0, 1, 0, 0) := by decide +kernel
theorem rX10_faultOf_16 : am_rw mX10_faultOf 16 = some (.getfield 156, 3, 10, 2) := by decide +kernel
theorem rX10_faultOf_19 : am_rw mX10_faultOf 19 = some (.if_icmp .ge 359, 3, 378, 0) := by decide +kernel
theorem rX10_faultOf_22 : am_rw mX10_faultOf 22 = some (.aload_n 0, 1, 0, 0) := by decide +kernel
theorem rX10_faultOf_23 : am_rw mX10_faultOf 23 = some (.getfield 7, 3, 10, 3) := by decide +kernel
theorem rX10_faultOf_26 : am_rw mX10_faultOf 26 = some (.iload 6, 2, 0, 0) := by decide +kernel
theorem rX10_faultOf_28 : am_rw mX10_faultOf 28 = some (.iaload, 1, 0, 0) := by decide +kernel
theorem rX10_faultOf_29 : am_rw mX10_faultOf 29 = some (.istore 7, 2, 0, 0) := by decide +kernel
theorem rX10_faultOf_31 : am_rw mX10_faultOf 31 = some (.iconst (-1), 1, 1, 1) := by decide +kernel
theorem rX10_faultOf_32 : am_rw mX10_faultOf 32 = some (.istore 8, 2, 0, 0) := by decide +kernel
theorem rX10_faultOf_34 : am_rw mX10_faultOf 34 = some (.iload_n 2, 1, 0, 0) := by decide +kernel
theorem rX10_faultOf_35 : am_rw mX10_faultOf 35 = some (.iconst 1, 1, 1, 0) := by decide +kernel
theorem rX10_faultOf_36 : am_rw mX10_faultOf 36 = some (.if_icmp .eq 18, 3, 54, 0) := by decide +kernel
theorem rX10_faultOf_39 : am_rw mX10_faultOf 39 = some (.iload_n 2, 1, 0, 0) := by decide +kernel
theorem rX10_faultOf_40 : am_rw mX10_faultOf 40 = some (.iconst 2, 1, 2, 0) := by decide +kernel
theorem rX10_faultOf_41 : am_rw mX10_faultOf 41 = some (.if_icmp .eq 13, 3, 54, 0) := by decide +kernel
theorem rX10_faultOf_44 : am_rw mX10_faultOf 44 = some (.iload_n 2, 1, 0, 0) := by decide +kernel
theorem rX10_faultOf_45 : am_rw mX10_faultOf 45 = some (.iconst 4, 1, 4, 0) := by decide +kernel
theorem rX10_faultOf_46 : am_rw mX10_faultOf 46 = some (.if_icmp .eq 8, 3, 54, 0) := by decide +kernel
theorem rX10_faultOf_49 : am_rw mX10_faultOf 49 = some (.iload_n 2, 1, 0, 0) := by decide +kernel
theorem rX10_faultOf_50 : am_rw mX10_faultOf 50 = some (.iconst 5, 1, 5, 0) := by decide +kernel
theorem rX10_faultOf_51 : am_rw mX10_faultOf 51 = some (.if_icmp .ne 7, 3, 58, 0) := by decide +kernel
theorem rX10_faultOf_54 : am_rw mX10_faultOf 54 = some (.iconst 1, 1, 1, 0) := by decide +kernel
theorem rX10_faultOf_55 : am_rw mX10_faultOf 55 = some (.goto 4, 3, 59, 0) := by decide +kernel
theorem rX10_faultOf_58 : am_rw mX10_faultOf 58 = some (.iconst 0, 1, 0, 0) := by decide +kernel
theorem rX10_faultOf_59 : am_rw mX10_faultOf 59 = some (.istore 9, 2, 0, 0) := by decide +kernel
theorem rX10_faultOf_61 : am_rw mX10_faultOf 61 = some (.iload_n 2, 1, 0, 0) := by decide +kernel
theorem rX10_faultOf_62 : am_rw mX10_faultOf 62 = some (.ifCond .ne 57, 3, 119, 0) := by decide +kernel
theorem rX10_faultOf_65 : am_rw mX10_faultOf 65 = some (.iload 7, 2, 0, 0) := by decide +kernel
theorem rX10_faultOf_67 : am_rw mX10_faultOf 67 = some (.iload_n 1, 1, 0, 0) := by decide +kernel
theorem rX10_faultOf_68 : am_rw mX10_faultOf 68 = some (.invokestatic 174, 3, 115, 2) := by decide +kernel
theorem rX10_faultOf_71 : am_rw mX10_faultOf 71 = some (.istore 8, 2, 0, 0) := by decide +kernel
theorem rX10_faultOf_73 : am_rw mX10_faultOf 73 = some (.iconst 1, 1, 1, 0) := by decide +kernel
theorem rX10_faultOf_74 : am_rw mX10_faultOf 74 = some (.istore 4, 2, 0, 0) := by decide +kernel
theorem rX10_faultOf_76 : am_rw mX10_faultOf 76 = some (.iload 8, 2, 0, 0) := by decide +kernel
theorem rX10_faultOf_78 : am_rw mX10_faultOf 78 = some (.bipush 7, 2, 7, 0) := by decide +kernel
theorem rX10_faultOf_80 : am_rw mX10_faultOf 80 = some (.if_icmp .ne 11, 3, 91, 0) := by decide +kernel
theorem rX10_faultOf_83 : am_rw mX10_faultOf 83 = some (.iload 7, 2, 0, 0) := by decide +kernel
theorem rX10_faultOf_85 : am_rw mX10_faultOf 85 = some (.invokestatic 162, 3, 110, 1) := by decide +kernel
theorem rX10_faultOf_88 : am_rw mX10_faultOf 88 = some (.goto 9, 3, 97, 0) := by decide +kernel
theorem rX10_faultOf_91 : am_rw mX10_faultOf 91 = some (.iload 7, 2, 0, 0) := by decide +kernel
theorem rX10_faultOf_93 : am_rw mX10_faultOf 93 = some (.iload_n 1, 1, 0, 0) := by decide +kernel
theorem rX10_faultOf_94 : am_rw mX10_faultOf 94 = some (.invokestatic 166, 3, 111, 2) := by decide +kernel
theorem rX10_faultOf_97 : am_rw mX10_faultOf 97 = some (.istore 5, 2, 0, 0) := by decide +kernel
theorem rX10_faultOf_99 : am_rw mX10_faultOf 99 = some (.iload 7, 2, 0, 0) := by decide +kernel
theorem rX10_faultOf_101 : am_rw mX10_faultOf 101 = some (.bipush 40, 2, 40, 0) := by decide +kernel
theorem rX10_faultOf_103 : am_rw mX10_faultOf 103 = some (.if_icmp .ne 257, 3, 360, 0) := by decide +kernel
theorem rX10_faultOf_106 : am_rw mX10_faultOf 106 = some (.aload_n 0, 1, 0, 0) := by decide +kernel
theorem rX10_faultOf_107 : am_rw mX10_faultOf 107 = some (.getfield 13, 3, 10, 4) := by decide +kernel
theorem rX10_faultOf_110 : am_rw mX10_faultOf 110 = some (.iload_n 3, 1, 0, 0) := by decide +kernel
theorem rX10_faultOf_111 : am_rw mX10_faultOf 111 = some (.iconst 1, 1, 1, 0) := by decide +kernel
theorem rX10_faultOf_112 : am_rw mX10_faultOf 112 = some (.iastore, 1, 0, 0) := by decide +kernel
theorem rX10_faultOf_113 : am_rw mX10_faultOf 113 = some (.iinc 3 1, 3, 0, 0) := by decide +kernel
theorem rX10_faultOf_116 : am_rw mX10_faultOf 116 = some (.goto 244, 3, 360, 0) := by decide +kernel
theorem rX10_faultOf_119 : am_rw mX10_faultOf 119 = some (.iload 7, 2, 0, 0) := by decide +kernel
theorem rX10_faultOf_121 : am_rw mX10_faultOf 121 = some (.invokestatic 149, 3, 108, 1) := by decide +kernel
theorem rX10_faultOf_124 : am_rw mX10_faultOf 124 = some (.ifCond .eq 89, 3, 213, 0) := by decide +kernel
theorem rX10_faultOf_127 : am_rw mX10_faultOf 127 = some (.iload_n 2, 1, 0, 0) := by decide +kernel
theorem rX10_faultOf_128 : am_rw mX10_faultOf 128 = some (.iconst 2, 1, 2, 0) := by decide +kernel
theorem rX10_faultOf_129 : am_rw mX10_faultOf 129 = some (.if_icmp .ne 13, 3, 142, 0) := by decide +kernel
theorem rX10_faultOf_132 : am_rw mX10_faultOf 132 = some (.iload 4, 2, 0, 0) := by decide +kernel
theorem rX10_faultOf_134 : am_rw mX10_faultOf 134 = some (.iconst 3, 1, 3, 0) := by decide +kernel
theorem rX10_faultOf_135 : am_rw mX10_faultOf 135 = some (.if_icmp .ge 7, 3, 142, 0) := by decide +kernel
theorem rX10_faultOf_138 : am_rw mX10_faultOf 138 = some (.iconst 1, 1, 1, 0) := by decide +kernel
theorem rX10_faultOf_139 : am_rw mX10_faultOf 139 = some (.goto 4, 3, 143, 0) := by decide +kernel
theorem rX10_faultOf_142 : am_rw mX10_faultOf 142 = some (.iconst 0, 1, 0, 0) := by decide +kernel
theorem rX10_faultOf_143 : am_rw mX10_faultOf 143 = some (.istore 10, 2, 0, 0) := by decide +kernel
theorem rX10_faultOf_145 : am_rw mX10_faultOf 145 = some (.iload 4, 2, 0, 0) := by decide +kernel
theorem rX10_faultOf_147 : am_rw mX10_faultOf 147 = some (.iload 10, 2, 0, 0) := by decide +kernel
theorem rX10_faultOf_149 : am_rw mX10_faultOf 149 = some (.ifCond .eq 7, 3, 156, 0) := by decide +kernel
theorem rX10_faultOf_152 : am_rw mX10_faultOf 152 = some (.iconst 1, 1, 1, 0) := by decide +kernel
theorem rX10_faultOf_153 : am_rw mX10_faultOf 153 = some (.goto 4, 3, 157, 0) := by decide +kernel
theorem rX10_faultOf_156 : am_rw mX10_faultOf 156 = some (.iconst 0, 1, 0, 0) := by decide +kernel
theorem rX10_faultOf_157 : am_rw mX10_faultOf 157 = some (.iadd, 1, 0, 0) := by decide +kernel
theorem rX10_faultOf_158 : am_rw mX10_faultOf 158 = some (.istore 4, 2, 0, 0) := by decide +kernel
theorem rX10_faultOf_160 : am_rw mX10_faultOf 160 = some (.iload 10, 2, 0, 0) := by decide +kernel
theorem rX10_faultOf_162 : am_rw mX10_faultOf 162 = some (.ifCond .eq 7, 3, 169, 0) := by decide +kernel
theorem rX10_faultOf_165 : am_rw mX10_faultOf 165 = some (.iconst 2, 1, 2, 0) := by decide +kernel
theorem rX10_faultOf_166 : am_rw mX10_faultOf 166 = some (.goto 42, 3, 208, 0) := by decide +kernel
theorem rX10_faultOf_169 : am_rw mX10_faultOf 169 = some (.iload_n 2, 1, 0, 0) := by decide +kernel
theorem rX10_faultOf_170 : am_rw mX10_faultOf 170 = some (.iconst 3, 1, 3, 0) := by decide +kernel
theorem rX10_faultOf_171 : am_rw mX10_faultOf 171 = some (.if_icmp .ne 7, 3, 178, 0) := by decide +kernel
theorem rX10_faultOf_174 : am_rw mX10_faultOf 174 = some (.iconst 4, 1, 4, 0) := by decide +kernel
theorem rX10_faultOf_175 : am_rw mX10_faultOf 175 = some (.goto 33, 3, 208, 0) := by decide +kernel
theorem rX10_faultOf_178 : am_rw mX10_faultOf 178 = some (.iload_n 2, 1, 0, 0) := by decide +kernel
theorem rX10_faultOf_179 : am_rw mX10_faultOf 179 = some (.iconst 4, 1, 4, 0) := by decide +kernel
theorem rX10_faultOf_180 : am_rw mX10_faultOf 180 = some (.if_icmp .ne 7, 3, 187, 0) := by decide +kernel
theorem rX10_faultOf_183 : am_rw mX10_faultOf 183 = some (.iconst 5, 1, 5, 0) := by decide +kernel
theorem rX10_faultOf_184 : am_rw mX10_faultOf 184 = some (.goto 24, 3, 208, 0) := by decide +kernel
theorem rX10_faultOf_187 : am_rw mX10_faultOf 187 = some (.iload_n 2, 1, 0, 0) := by decide +kernel
theorem rX10_faultOf_188 : am_rw mX10_faultOf 188 = some (.bipush 6, 2, 6, 0) := by decide +kernel
theorem rX10_faultOf_190 : am_rw mX10_faultOf 190 = some (.if_icmp .ne 17, 3, 207, 0) := by decide +kernel
theorem rX10_faultOf_193 : am_rw mX10_faultOf 193 = some (.iload 7, 2, 0, 0) := by decide +kernel
theorem rX10_faultOf_195 : am_rw mX10_faultOf 195 = some (.bipush 48, 2, 48, 0) := by decide +kernel
theorem rX10_faultOf_197 : am_rw mX10_faultOf 197 = some (.isub, 1, 0, 0) := by decide +kernel
theorem rX10_faultOf_198 : am_rw mX10_faultOf 198 = some (.iload 5, 2, 0, 0) := by decide +kernel
theorem rX10_faultOf_200 : am_rw mX10_faultOf 200 = some (.if_icmp .ge 7, 3, 207, 0) := by decide +kernel
theorem rX10_faultOf_203 : am_rw mX10_faultOf 203 = some (.iconst 1, 1, 1, 0) := by decide +kernel
theorem rX10_faultOf_204 : am_rw mX10_faultOf 204 = some (.goto 4, 3, 208, 0) := by decide +kernel
theorem rX10_faultOf_207 : am_rw mX10_faultOf 207 = some (.iconst (-1), 1, 1, 1) := by decide +kernel
theorem rX10_faultOf_208 : am_rw mX10_faultOf 208 = some (.istore 8, 2, 0, 0) := by decide +kernel
theorem rX10_faultOf_210 : am_rw mX10_faultOf 210 = some (.goto 150, 3, 360, 0) := by decide +kernel
theorem rX10_faultOf_213 : am_rw mX10_faultOf 213 = some (.iload_n 2, 1, 0, 0) := by decide +kernel
theorem rX10_faultOf_214 : am_rw mX10_faultOf 214 = some (.bipush 7, 2, 7, 0) := by decide +kernel
theorem rX10_faultOf_216 : am_rw mX10_faultOf 216 = some (.if_icmp .ne 27, 3, 243, 0) := by decide +kernel
theorem rX10_faultOf_219 : am_rw mX10_faultOf 219 = some (.iload 7, 2, 0, 0) := by decide +kernel
theorem rX10_faultOf_221 : am_rw mX10_faultOf 221 = some (.bipush 40, 2, 40, 0) := by decide +kernel
theorem rX10_faultOf_223 : am_rw mX10_faultOf 223 = some (.if_icmp .ne 20, 3, 243, 0) := by decide +kernel
theorem rX10_faultOf_226 : am_rw mX10_faultOf 226 = some (.aload_n 0, 1, 0, 0) := by decide +kernel
theorem rX10_faultOf_227 : am_rw mX10_faultOf 227 = some (.getfield 13, 3, 10, 4) := by decide +kernel
theorem rX10_faultOf_230 : am_rw mX10_faultOf 230 = some (.iload_n 3, 1, 0, 0) := by decide +kernel
theorem rX10_faultOf_231 : am_rw mX10_faultOf 231 = some (.iload 5, 2, 0, 0) := by decide +kernel
theorem rX10_faultOf_233 : am_rw mX10_faultOf 233 = some (.iastore, 1, 0, 0) := by decide +kernel
theorem rX10_faultOf_234 : am_rw mX10_faultOf 234 = some (.iinc 3 1, 3, 0, 0) := by decide +kernel
theorem rX10_faultOf_237 : am_rw mX10_faultOf 237 = some (.iconst 0, 1, 0, 0) := by decide +kernel
theorem rX10_faultOf_238 : am_rw mX10_faultOf 238 = some (.istore 8, 2, 0, 0) := by decide +kernel
theorem rX10_faultOf_240 : am_rw mX10_faultOf 240 = some (.goto 120, 3, 360, 0) := by decide +kernel
theorem rX10_faultOf_243 : am_rw mX10_faultOf 243 = some (.iload_n 2, 1, 0, 0) := by decide +kernel
theorem rX10_faultOf_244 : am_rw mX10_faultOf 244 = some (.iconst 2, 1, 2, 0) := by decide +kernel
theorem rX10_faultOf_245 : am_rw mX10_faultOf 245 = some (.if_icmp .ne 16, 3, 261, 0) := by decide +kernel
theorem rX10_faultOf_248 : am_rw mX10_faultOf 248 = some (.iload 7, 2, 0, 0) := by decide +kernel
theorem rX10_faultOf_250 : am_rw mX10_faultOf 250 = some (.bipush 46, 2, 46, 0) := by decide +kernel
theorem rX10_faultOf_252 : am_rw mX10_faultOf 252 = some (.if_icmp .ne 9, 3, 261, 0) := by decide +kernel
theorem rX10_faultOf_255 : am_rw mX10_faultOf 255 = some (.iconst 3, 1, 3, 0) := by decide +kernel
theorem rX10_faultOf_256 : am_rw mX10_faultOf 256 = some (.istore 8, 2, 0, 0) := by decide +kernel
theorem rX10_faultOf_258 : am_rw mX10_faultOf 258 = some (.goto 102, 3, 360, 0) := by decide +kernel
theorem rX10_faultOf_261 : am_rw mX10_faultOf 261 = some (.iload 9, 2, 0, 0) := by decide +kernel
theorem rX10_faultOf_263 : am_rw mX10_faultOf 263 = some (.ifCond .eq 17, 3, 280, 0) := by decide +kernel
theorem rX10_faultOf_266 : am_rw mX10_faultOf 266 = some (.iload 7, 2, 0, 0) := by decide +kernel
theorem rX10_faultOf_268 : am_rw mX10_faultOf 268 = some (.invokestatic 153, 3, 109, 1) := by decide +kernel
theorem rX10_faultOf_271 : am_rw mX10_faultOf 271 = some (.ifCond .eq 9, 3, 280, 0) := by decide +kernel
theorem rX10_faultOf_274 : am_rw mX10_faultOf 274 = some (.iconst 0, 1, 0, 0) := by decide +kernel
theorem rX10_faultOf_275 : am_rw mX10_faultOf 275 = some (.istore 8, 2, 0, 0) := by decide +kernel
theorem rX10_faultOf_277 : am_rw mX10_faultOf 277 = some (.goto 83, 3, 360, 0) := by decide +kernel
theorem rX10_faultOf_280 : am_rw mX10_faultOf 280 = some (.iload 9, 2, 0, 0) := by decide +kernel
theorem rX10_faultOf_282 : am_rw mX10_faultOf 282 = some (.ifCond .eq 44, 3, 326, 0) := by decide +kernel
theorem rX10_faultOf_285 : am_rw mX10_faultOf 285 = some (.iload 7, 2, 0, 0) := by decide +kernel
theorem rX10_faultOf_287 : am_rw mX10_faultOf 287 = some (.bipush 44, 2, 44, 0) := by decide +kernel
theorem rX10_faultOf_289 : am_rw mX10_faultOf 289 = some (.if_icmp .ne 37, 3, 326, 0) := by decide +kernel
theorem rX10_faultOf_292 : am_rw mX10_faultOf 292 = some (.iload_n 3, 1, 0, 0) := by decide +kernel
theorem rX10_faultOf_293 : am_rw mX10_faultOf 293 = some (.ifCond .le 33, 3, 326, 0) := by decide +kernel
theorem rX10_faultOf_296 : am_rw mX10_faultOf 296 = some (.aload_n 0, 1, 0, 0) := by decide +kernel
theorem rX10_faultOf_297 : am_rw mX10_faultOf 297 = some (.getfield 13, 3, 10, 4) := by decide +kernel
theorem rX10_faultOf_300 : am_rw mX10_faultOf 300 = some (.iload_n 3, 1, 0, 0) := by decide +kernel
theorem rX10_faultOf_301 : am_rw mX10_faultOf 301 = some (.iconst 1, 1, 1, 0) := by decide +kernel
theorem rX10_faultOf_302 : am_rw mX10_faultOf 302 = some (.isub, 1, 0, 0) := by decide +kernel
theorem rX10_faultOf_303 : am_rw mX10_faultOf 303 = some (.iaload, 1, 0, 0) := by decide +kernel
theorem rX10_faultOf_304 : am_rw mX10_faultOf 304 = some (.iconst 1, 1, 1, 0) := by decide +kernel
theorem rX10_faultOf_305 : am_rw mX10_faultOf 305 = some (.if_icmp .le 21, 3, 326, 0) := by decide +kernel
theorem rX10_faultOf_308 : am_rw mX10_faultOf 308 = some (.aload_n 0, 1, 0, 0) := by decide +kernel
theorem rX10_faultOf_309 : am_rw mX10_faultOf 309 = some (.getfield 13, 3, 10, 4) := by decide +kernel
theorem rX10_faultOf_312 : am_rw mX10_faultOf 312 = some (.iload_n 3, 1, 0, 0) := by decide +kernel
theorem rX10_faultOf_313 : am_rw mX10_faultOf 313 = some (.iconst 1, 1, 1, 0) := by decide +kernel
theorem rX10_faultOf_314 : am_rw mX10_faultOf 314 = some (.isub, 1, 0, 0) := by decide +kernel
theorem rX10_faultOf_315 : am_rw mX10_faultOf 315 = some (.dup2, 1, 0, 0) := by decide +kernel
theorem rX10_faultOf_316 : am_rw mX10_faultOf 316 = some (.iaload, 1, 0, 0) := by decide +kernel
theorem rX10_faultOf_317 : am_rw mX10_faultOf 317 = some (.iconst 1, 1, 1, 0) := by decide +kernel
theorem rX10_faultOf_318 : am_rw mX10_faultOf 318 = some (.isub, 1, 0, 0) := by decide +kernel
theorem rX10_faultOf_319 : am_rw mX10_faultOf 319 = some (.iastore, 1, 0, 0) := by decide +kernel
theorem rX10_faultOf_320 : am_rw mX10_faultOf 320 = some (.iconst 0, 1, 0, 0) := by decide +kernel
theorem rX10_faultOf_321 : am_rw mX10_faultOf 321 = some (.istore 8, 2, 0, 0) := by decide +kernel
theorem rX10_faultOf_323 : am_rw mX10_faultOf 323 = some (.goto 37, 3, 360, 0) := by decide +kernel
theorem rX10_faultOf_326 : am_rw mX10_faultOf 326 = some (.iload 9, 2, 0, 0) := by decide +kernel
theorem rX10_faultOf_328 : am_rw mX10_faultOf 328 = some (.ifCond .eq 32, 3, 360, 0) := by decide +kernel
theorem rX10_faultOf_331 : am_rw mX10_faultOf 331 = some (.iload 7, 2, 0, 0) := by decide +kernel
theorem rX10_faultOf_333 : am_rw mX10_faultOf 333 = some (.bipush 41, 2, 41, 0) := by decide +kernel
theorem rX10_faultOf_335 : am_rw mX10_faultOf 335 = some (.if_icmp .ne 25, 3, 360, 0) := by decide +kernel
theorem rX10_faultOf_338 : am_rw mX10_faultOf 338 = some (.iload_n 3, 1, 0, 0) := by decide +kernel
theorem rX10_faultOf_339 : am_rw mX10_faultOf 339 = some (.ifCond .le 21, 3, 360, 0) := by decide +kernel
theorem rX10_faultOf_342 : am_rw mX10_faultOf 342 = some (.aload_n 0, 1, 0, 0) := by decide +kernel
theorem rX10_faultOf_343 : am_rw mX10_faultOf 343 = some (.getfield 13, 3, 10, 4) := by decide +kernel
theorem rX10_faultOf_346 : am_rw mX10_faultOf 346 = some (.iload_n 3, 1, 0, 0) := by decide +kernel
theorem rX10_faultOf_347 : am_rw mX10_faultOf 347 = some (.iconst 1, 1, 1, 0) := by decide +kernel
theorem rX10_faultOf_348 : am_rw mX10_faultOf 348 = some (.isub, 1, 0, 0) := by decide +kernel
theorem rX10_faultOf_349 : am_rw mX10_faultOf 349 = some (.iaload, 1, 0, 0) := by decide +kernel
theorem rX10_faultOf_350 : am_rw mX10_faultOf 350 = some (.iconst 1, 1, 1, 0) := by decide +kernel
theorem rX10_faultOf_351 : am_rw mX10_faultOf 351 = some (.if_icmp .ne 9, 3, 360, 0) := by decide +kernel
theorem rX10_faultOf_354 : am_rw mX10_faultOf 354 = some (.iinc 3 (-1), 3, 0, 0) := by decide +kernel
theorem rX10_faultOf_357 : am_rw mX10_faultOf 357 = some (.iconst 1, 1, 1, 0) := by decide +kernel
theorem rX10_faultOf_358 : am_rw mX10_faultOf 358 = some (.istore 8, 2, 0, 0) := by decide +kernel
theorem rX10_faultOf_360 : am_rw mX10_faultOf 360 = some (.iload 8, 2, 0, 0) := by decide +kernel
theorem rX10_faultOf_362 : am_rw mX10_faultOf 362 = some (.iconst (-1), 1, 1, 1) := by decide +kernel
theorem rX10_faultOf_363 : am_rw mX10_faultOf 363 = some (.if_icmp .ne 6, 3, 369, 0) := by decide +kernel
theorem rX10_faultOf_366 : am_rw mX10_faultOf 366 = some (.iload 6, 2, 0, 0) := by decide +kernel
theorem rX10_faultOf_368 : am_rw mX10_faultOf 368 = some (.ireturn, 1, 0, 0) := by decide +kernel
theorem rX10_faultOf_369 : am_rw mX10_faultOf 369 = some (.iload 8, 2, 0, 0) := by decide +kernel
theorem rX10_faultOf_371 : am_rw mX10_faultOf 371 = some (.istore_n 2, 1, 0, 0) := by decide +kernel
theorem rX10_faultOf_372 : am_rw mX10_faultOf 372 = some (.iinc 6 1, 3, 0, 0) := by decide +kernel
theorem rX10_faultOf_375 : am_rw mX10_faultOf 375 = some (.goto (-362), 3, 13, 0) := by decide +kernel
theorem rX10_faultOf_378 : am_rw mX10_faultOf 378 = some (.iload_n 3, 1, 0, 0) := by decide +kernel
theorem rX10_faultOf_379 : am_rw mX10_faultOf 379 = some (.ifCond .ne 27, 3, 406, 0) := by decide +kernel
theorem rX10_faultOf_382 : am_rw mX10_faultOf 382 = some (.iload_n 2, 1, 0, 0) := by decide +kernel
theorem rX10_faultOf_383 : am_rw mX10_faultOf 383 = some (.iconst 1, 1, 1, 0) := by decide +kernel
theorem rX10_faultOf_384 : am_rw mX10_faultOf 384 = some (.if_icmp .eq 18, 3, 402, 0) := by decide +kernel
theorem rX10_faultOf_387 : am_rw mX10_faultOf 387 = some (.iload_n 2, 1, 0, 0) := by decide +kernel
theorem rX10_faultOf_388 : am_rw mX10_faultOf 388 = some (.iconst 2, 1, 2, 0) := by decide +kernel
theorem rX10_faultOf_389 : am_rw mX10_faultOf 389 = some (.if_icmp .eq 13, 3, 402, 0) := by decide +kernel
theorem rX10_faultOf_392 : am_rw mX10_faultOf 392 = some (.iload_n 2, 1, 0, 0) := by decide +kernel
theorem rX10_faultOf_393 : am_rw mX10_faultOf 393 = some (.iconst 4, 1, 4, 0) := by decide +kernel
theorem rX10_faultOf_394 : am_rw mX10_faultOf 394 = some (.if_icmp .eq 8, 3, 402, 0) := by decide +kernel
theorem rX10_faultOf_397 : am_rw mX10_faultOf 397 = some (.iload_n 2, 1, 0, 0) := by decide +kernel
theorem rX10_faultOf_398 : am_rw mX10_faultOf 398 = some (.iconst 5, 1, 5, 0) := by decide +kernel
theorem rX10_faultOf_399 : am_rw mX10_faultOf 399 = some (.if_icmp .ne 7, 3, 406, 0) := by decide +kernel
theorem rX10_faultOf_402 : am_rw mX10_faultOf 402 = some (.iconst 1, 1, 1, 0) := by decide +kernel
theorem rX10_faultOf_403 : am_rw mX10_faultOf 403 = some (.goto 4, 3, 407, 0) := by decide +kernel
theorem rX10_faultOf_406 : am_rw mX10_faultOf 406 = some (.iconst 0, 1, 0, 0) := by decide +kernel
theorem rX10_faultOf_407 : am_rw mX10_faultOf 407 = some (.istore 6, 2, 0, 0) := by decide +kernel
theorem rX10_faultOf_409 : am_rw mX10_faultOf 409 = some (.iload 6, 2, 0, 0) := by decide +kernel
theorem rX10_faultOf_411 : am_rw mX10_faultOf 411 = some (.ifCond .eq 7, 3, 418, 0) := by decide +kernel
theorem rX10_faultOf_414 : am_rw mX10_faultOf 414 = some (.iconst (-1), 1, 1, 1) := by decide +kernel
theorem rX10_faultOf_415 : am_rw mX10_faultOf 415 = some (.goto 7, 3, 422, 0) := by decide +kernel
theorem rX10_faultOf_418 : am_rw mX10_faultOf 418 = some (.aload_n 0, 1, 0, 0) := by decide +kernel
theorem rX10_faultOf_419 : am_rw mX10_faultOf 419 = some (.getfield 156, 3, 10, 2) := by decide +kernel
theorem rX10_faultOf_422 : am_rw mX10_faultOf 422 = some (.ireturn, 1, 0, 0) := by decide +kernel
theorem rX10_fault_0 : am_rw mX10_fault 0 = some (.aload_n 0, 1, 0, 0) := by decide +kernel
theorem rX10_fault_1 : am_rw mX10_fault 1 = some (.iconst 0, 1, 0, 0) := by decide +kernel
theorem rX10_fault_2 : am_rw mX10_fault 2 = some (.putfield 135, 3, 10, 0) := by decide +kernel
theorem rX10_fault_5 : am_rw mX10_fault 5 = some (.aload_n 0, 1, 0, 0) := by decide +kernel
theorem rX10_fault_6 : am_rw mX10_fault 6 = some (.iload_n 1, 1, 0, 0) := by decide +kernel
theorem rX10_fault_7 : am_rw mX10_fault 7 = some (.invokevirtual 177, 3, 116, 2) := by decide +kernel
theorem rX10_fault_10 : am_rw mX10_fault 10 = some (.ireturn, 1, 0, 0) := by decide +kernel
theorem rX10_kept_0 : am_rw mX10_kept 0 = some (.fload_n 0, 1, 0, 0) := by decide +kernel
theorem rX10_kept_1 : am_rw mX10_kept 1 = some (.ldc 181, 2, 1, 1315859240) := by decide +kernel
theorem rX10_kept_3 : am_rw mX10_kept 3 = some (.fcmp .l, 1, 0, 0) := by decide +kernel
theorem rX10_kept_4 : am_rw mX10_kept 4 = some (.ifCond .le 8, 3, 12, 0) := by decide +kernel
theorem rX10_kept_7 : am_rw mX10_kept 7 = some (.ldc 181, 2, 1, 1315859240) := by decide +kernel
theorem rX10_kept_9 : am_rw mX10_kept 9 = some (.goto 26, 3, 35, 0) := by decide +kernel
theorem rX10_kept_12 : am_rw mX10_kept 12 = some (.fload_n 0, 1, 0, 0) := by decide +kernel
theorem rX10_kept_13 : am_rw mX10_kept 13 = some (.ldc 182, 2, 1, 3463342888) := by decide +kernel
theorem rX10_kept_15 : am_rw mX10_kept 15 = some (.fcmp .g, 1, 0, 0) := by decide +kernel
theorem rX10_kept_16 : am_rw mX10_kept 16 = some (.ifCond .ge 8, 3, 24, 0) := by decide +kernel
theorem rX10_kept_19 : am_rw mX10_kept 19 = some (.ldc 182, 2, 1, 3463342888) := by decide +kernel
theorem rX10_kept_21 : am_rw mX10_kept 21 = some (.goto 14, 3, 35, 0) := by decide +kernel
theorem rX10_kept_24 : am_rw mX10_kept 24 = some (.fload_n 0, 1, 0, 0) := by decide +kernel
theorem rX10_kept_25 : am_rw mX10_kept 25 = some (.fconst 0, 1, 0, 0) := by decide +kernel
theorem rX10_kept_26 : am_rw mX10_kept 26 = some (.fcmp .l, 1, 0, 0) := by decide +kernel
theorem rX10_kept_27 : am_rw mX10_kept 27 = some (.ifCond .ne 7, 3, 34, 0) := by decide +kernel
theorem rX10_kept_30 : am_rw mX10_kept 30 = some (.fconst 0, 1, 0, 0) := by decide +kernel
theorem rX10_kept_31 : am_rw mX10_kept 31 = some (.goto 4, 3, 35, 0) := by decide +kernel
theorem rX10_kept_34 : am_rw mX10_kept 34 = some (.fload_n 0, 1, 0, 0) := by decide +kernel
theorem rX10_kept_35 : am_rw mX10_kept 35 = some (.freturn, 1, 0, 0) := by decide +kernel
theorem rX10_puts_0 : am_rw mX10_puts 0 = some (.aload_n 0, 1, 0, 0) := by decide +kernel
theorem rX10_puts_1 : am_rw mX10_puts 1 = some (.getfield 129, 3, 10, 47) := by decide +kernel
theorem rX10_puts_4 : am_rw mX10_puts 4 = some (.aload_n 0, 1, 0, 0) := by decide +kernel
theorem rX10_puts_5 : am_rw mX10_puts 5 = some (.getfield 183, 3, 10, 48) := by decide +kernel
theorem rX10_puts_8 : am_rw mX10_puts 8 = some (.fload_n 1, 1, 0, 0) := by decide +kernel
theorem rX10_puts_9 : am_rw mX10_puts 9 = some (.invokestatic 186, 3, 118, 1) := by decide +kernel
theorem rX10_puts_12 : am_rw mX10_puts 12 = some (.fastore, 1, 0, 0) := by decide +kernel
theorem rX10_puts_13 : am_rw mX10_puts 13 = some (.aload_n 0, 1, 0, 0) := by decide +kernel
theorem rX10_puts_14 : am_rw mX10_puts 14 = some (.dup, 1, 0, 0) := by decide +kernel
theorem rX10_puts_15 : am_rw mX10_puts 15 = some (.getfield 183, 3, 10, 48) := by decide +kernel
theorem rX10_puts_18 : am_rw mX10_puts 18 = some (.iconst 1, 1, 1, 0) := by decide +kernel
theorem rX10_puts_19 : am_rw mX10_puts 19 = some (.iadd, 1, 0, 0) := by decide +kernel
theorem rX10_puts_20 : am_rw mX10_puts 20 = some (.putfield 183, 3, 10, 48) := by decide +kernel
theorem rX10_puts_23 : am_rw mX10_puts 23 = some (.return_, 1, 0, 0) := by decide +kernel
theorem rX10_pops_0 : am_rw mX10_pops 0 = some (.aload_n 0, 1, 0, 0) := by decide +kernel
theorem rX10_pops_1 : am_rw mX10_pops 1 = some (.dup, 1, 0, 0) := by decide +kernel
theorem rX10_pops_2 : am_rw mX10_pops 2 = some (.getfield 183, 3, 10, 48) := by decide +kernel
theorem rX10_pops_5 : am_rw mX10_pops 5 = some (.iconst 1, 1, 1, 0) := by decide +kernel
theorem rX10_pops_6 : am_rw mX10_pops 6 = some (.isub, 1, 0, 0) := by decide +kernel
theorem rX10_pops_7 : am_rw mX10_pops 7 = some (.putfield 183, 3, 10, 48) := by decide +kernel
theorem rX10_pops_10 : am_rw mX10_pops 10 = some (.aload_n 0, 1, 0, 0) := by decide +kernel
theorem rX10_pops_11 : am_rw mX10_pops 11 = some (.getfield 129, 3, 10, 47) := by decide +kernel
theorem rX10_pops_14 : am_rw mX10_pops 14 = some (.aload_n 0, 1, 0, 0) := by decide +kernel
theorem rX10_pops_15 : am_rw mX10_pops 15 = some (.getfield 183, 3, 10, 48) := by decide +kernel
theorem rX10_pops_18 : am_rw mX10_pops 18 = some (.faload, 1, 0, 0) := by decide +kernel
theorem rX10_pops_19 : am_rw mX10_pops 19 = some (.freturn, 1, 0, 0) := by decide +kernel
theorem rX10_applies_0 : am_rw mX10_applies 0 = some (.aload_n 0, 1, 0, 0) := by decide +kernel
theorem rX10_applies_1 : am_rw mX10_applies 1 = some (.dup, 1, 0, 0) := by decide +kernel
theorem rX10_applies_2 : am_rw mX10_applies 2 = some (.getfield 190, 3, 10, 50) := by decide +kernel
theorem rX10_applies_5 : am_rw mX10_applies 5 = some (.iconst 1, 1, 1, 0) := by decide +kernel
theorem rX10_applies_6 : am_rw mX10_applies 6 = some (.isub, 1, 0, 0) := by decide +kernel
theorem rX10_applies_7 : am_rw mX10_applies 7 = some (.putfield 190, 3, 10, 50) := by decide +kernel
theorem rX10_applies_10 : am_rw mX10_applies 10 = some (.aload_n 0, 1, 0, 0) := by decide +kernel
theorem rX10_applies_11 : am_rw mX10_applies 11 = some (.getfield 132, 3, 10, 49) := by decide +kernel
theorem rX10_applies_14 : am_rw mX10_applies 14 = some (.aload_n 0, 1, 0, 0) := by decide +kernel
theorem rX10_applies_15 : am_rw mX10_applies 15 = some (.getfield 190, 3, 10, 50) := by decide +kernel
theorem rX10_applies_18 : am_rw mX10_applies 18 = some (.iaload, 1, 0, 0) := by decide +kernel
theorem rX10_applies_19 : am_rw mX10_applies 19 = some (.istore_n 1, 1, 0, 0) := by decide +kernel
theorem rX10_applies_20 : am_rw mX10_applies 20 = some (.aload_n 0, 1, 0, 0) := by decide +kernel
theorem rX10_applies_21 : am_rw mX10_applies 21 = some (.invokevirtual 193, 3, 120, 1) := by decide +kernel
theorem rX10_applies_24 : am_rw mX10_applies 24 = some (.fstore_n 2, 1, 0, 0) := by decide +kernel
theorem rX10_applies_25 : am_rw mX10_applies 25 = some (.iload_n 1, 1, 0, 0) := by decide +kernel
theorem rX10_applies_26 : am_rw mX10_applies 26 = some (.bipush 126, 2, 126, 0) := by decide +kernel
theorem rX10_applies_28 : am_rw mX10_applies 28 = some (.if_icmp .ne 12, 3, 40, 0) := by decide +kernel
theorem rX10_applies_31 : am_rw mX10_applies 31 = some (.aload_n 0, 1, 0, 0) := by decide +kernel
theorem rX10_applies_32 : am_rw mX10_applies 32 = some (.fload_n 2, 1, 0, 0) := by decide +kernel
theorem rX10_applies_33 : am_rw mX10_applies 33 = some (.fneg, 1, 0, 0) := by decide +kernel
theorem rX10_applies_34 : am_rw mX10_applies 34 = some (.invokevirtual 197, 3, 119, 2) := by decide +kernel
theorem rX10_applies_37 : am_rw mX10_applies 37 = some (.goto 178, 3, 215, 0) := by decide +kernel
theorem rX10_applies_40 : am_rw mX10_applies 40 = some (.iload_n 1, 1, 0, 0) := by decide +kernel
theorem rX10_applies_41 : am_rw mX10_applies 41 = some (.bipush 116, 2, 116, 0) := by decide +kernel
theorem rX10_applies_43 : am_rw mX10_applies 43 = some (.if_icmp .ne 13, 3, 56, 0) := by decide +kernel
theorem rX10_applies_46 : am_rw mX10_applies 46 = some (.aload_n 0, 1, 0, 0) := by decide +kernel
theorem rX10_applies_47 : am_rw mX10_applies 47 = some (.fload_n 2, 1, 0, 0) := by decide +kernel
theorem rX10_applies_48 : am_rw mX10_applies 48 = some (.f2i, 1, 0, 0) := by decide +kernel
theorem rX10_applies_49 : am_rw mX10_applies 49 = some (.i2f, 1, 0, 0) := by decide +kernel
theorem rX10_applies_50 : am_rw mX10_applies 50 = some (.invokevirtual 197, 3, 119, 2) := by decide +kernel
theorem rX10_applies_53 : am_rw mX10_applies 53 = some (.goto 162, 3, 215, 0) := by decide +kernel
theorem rX10_applies_56 : am_rw mX10_applies 56 = some (.iload_n 1, 1, 0, 0) := by decide +kernel
theorem rX10_applies_57 : am_rw mX10_applies 57 = some (.bipush 97, 2, 97, 0) := by decide +kernel
theorem rX10_applies_59 : am_rw mX10_applies 59 = some (.if_icmp .ne 22, 3, 81, 0) := by decide +kernel
theorem rX10_applies_62 : am_rw mX10_applies 62 = some (.aload_n 0, 1, 0, 0) := by decide +kernel
theorem rX10_applies_63 : am_rw mX10_applies 63 = some (.fload_n 2, 1, 0, 0) := by decide +kernel
theorem rX10_applies_64 : am_rw mX10_applies 64 = some (.fconst 0, 1, 0, 0) := by decide +kernel
theorem rX10_applies_65 : am_rw mX10_applies 65 = some (.fcmp .g, 1, 0, 0) := by decide +kernel
theorem rX10_applies_66 : am_rw mX10_applies 66 = some (.ifCond .ge 8, 3, 74, 0) := by decide +kernel
theorem rX10_applies_69 : am_rw mX10_applies 69 = some (.fload_n 2, 1, 0, 0) := by decide +kernel
theorem rX10_applies_70 : am_rw mX10_applies 70 = some (.fneg, 1, 0, 0) := by decide +kernel
theorem rX10_applies_71 : am_rw mX10_applies 71 = some (.goto 4, 3, 75, 0) := by decide +kernel
theorem rX10_applies_74 : am_rw mX10_applies 74 = some (.fload_n 2, 1, 0, 0) := by decide +kernel
theorem rX10_applies_75 : am_rw mX10_applies 75 = some (.invokevirtual 197, 3, 119, 2) := by decide +kernel
theorem rX10_applies_78 : am_rw mX10_applies 78 = some (.goto 137, 3, 215, 0) := by decide +kernel
theorem rX10_applies_81 : am_rw mX10_applies 81 = some (.iload_n 1, 1, 0, 0) := by decide +kernel
theorem rX10_applies_82 : am_rw mX10_applies 82 = some (.bipush 105, 2, 105, 0) := by decide +kernel
theorem rX10_applies_84 : am_rw mX10_applies 84 = some (.if_icmp .ne 33, 3, 117, 0) := by decide +kernel
theorem rX10_applies_87 : am_rw mX10_applies 87 = some (.aload_n 0, 1, 0, 0) := by decide +kernel
theorem rX10_applies_88 : am_rw mX10_applies 88 = some (.invokevirtual 193, 3, 120, 1) := by decide +kernel
theorem rX10_applies_91 : am_rw mX10_applies 91 = some (.fstore_n 3, 1, 0, 0) := by decide +kernel
theorem rX10_applies_92 : am_rw mX10_applies 92 = some (.aload_n 0, 1, 0, 0) := by decide +kernel
theorem rX10_applies_93 : am_rw mX10_applies 93 = some (.invokevirtual 193, 3, 120, 1) := by decide +kernel
theorem rX10_applies_96 : am_rw mX10_applies 96 = some (.fstore 4, 2, 0, 0) := by decide +kernel
theorem rX10_applies_98 : am_rw mX10_applies 98 = some (.aload_n 0, 1, 0, 0) := by decide +kernel
theorem rX10_applies_99 : am_rw mX10_applies 99 = some (.fload 4, 2, 0, 0) := by decide +kernel
theorem rX10_applies_101 : am_rw mX10_applies 101 = some (.fconst 0, 1, 0, 0) := by decide +kernel
theorem rX10_applies_102 : am_rw mX10_applies 102 = some (.fcmp .l, 1, 0, 0) := by decide +kernel
theorem rX10_applies_103 : am_rw mX10_applies 103 = some (.ifCond .le 7, 3, 110, 0) := by decide +kernel
theorem rX10_applies_106 : am_rw mX10_applies 106 = some (.fload_n 3, 1, 0, 0) := by decide +kernel
theorem rX10_applies_107 : am_rw mX10_applies 107 = some (.goto 4, 3, 111, 0) := by decide +kernel
theorem rX10_applies_110 : am_rw mX10_applies 110 = some (.fload_n 2, 1, 0, 0) := by decide +kernel
theorem rX10_applies_111 : am_rw mX10_applies 111 = some (.invokevirtual 197, 3, 119, 2) := by decide +kernel
theorem rX10_applies_114 : am_rw mX10_applies 114 = some (.goto 101, 3, 215, 0) := by decide +kernel
theorem rX10_applies_117 : am_rw mX10_applies 117 = some (.aload_n 0, 1, 0, 0) := by decide +kernel
theorem rX10_applies_118 : am_rw mX10_applies 118 = some (.invokevirtual 193, 3, 120, 1) := by decide +kernel
theorem rX10_applies_121 : am_rw mX10_applies 121 = some (.fstore_n 3, 1, 0, 0) := by decide +kernel
theorem rX10_applies_122 : am_rw mX10_applies 122 = some (.aload_n 0, 1, 0, 0) := by decide +kernel
theorem rX10_applies_123 : am_rw mX10_applies 123 = some (.iload_n 1, 1, 0, 0) := by decide +kernel
theorem rX10_applies_124 : am_rw mX10_applies 124 = some (.bipush 43, 2, 43, 0) := by decide +kernel
theorem rX10_applies_126 : am_rw mX10_applies 126 = some (.if_icmp .ne 9, 3, 135, 0) := by decide +kernel
theorem rX10_applies_129 : am_rw mX10_applies 129 = some (.fload_n 3, 1, 0, 0) := by decide +kernel
theorem rX10_applies_130 : am_rw mX10_applies 130 = some (.fload_n 2, 1, 0, 0) := by decide +kernel
theorem rX10_applies_131 : am_rw mX10_applies 131 = some (.fadd, 1, 0, 0) := by decide +kernel
theorem rX10_applies_132 : am_rw mX10_applies 132 = some (.goto 80, 3, 212, 0) := by decide +kernel
theorem rX10_applies_135 : am_rw mX10_applies 135 = some (.iload_n 1, 1, 0, 0) := by decide +kernel
theorem rX10_applies_136 : am_rw mX10_applies 136 = some (.bipush 45, 2, 45, 0) := by decide +kernel
theorem rX10_applies_138 : am_rw mX10_applies 138 = some (.if_icmp .ne 9, 3, 147, 0) := by decide +kernel
theorem rX10_applies_141 : am_rw mX10_applies 141 = some (.fload_n 3, 1, 0, 0) := by decide +kernel
theorem rX10_applies_142 : am_rw mX10_applies 142 = some (.fload_n 2, 1, 0, 0) := by decide +kernel
theorem rX10_applies_143 : am_rw mX10_applies 143 = some (.fsub, 1, 0, 0) := by decide +kernel
theorem rX10_applies_144 : am_rw mX10_applies 144 = some (.goto 68, 3, 212, 0) := by decide +kernel
theorem rX10_applies_147 : am_rw mX10_applies 147 = some (.iload_n 1, 1, 0, 0) := by decide +kernel
theorem rX10_applies_148 : am_rw mX10_applies 148 = some (.bipush 42, 2, 42, 0) := by decide +kernel
theorem rX10_applies_150 : am_rw mX10_applies 150 = some (.if_icmp .ne 9, 3, 159, 0) := by decide +kernel
theorem rX10_applies_153 : am_rw mX10_applies 153 = some (.fload_n 3, 1, 0, 0) := by decide +kernel
theorem rX10_applies_154 : am_rw mX10_applies 154 = some (.fload_n 2, 1, 0, 0) := by decide +kernel
theorem rX10_applies_155 : am_rw mX10_applies 155 = some (.fmul, 1, 0, 0) := by decide +kernel
theorem rX10_applies_156 : am_rw mX10_applies 156 = some (.goto 56, 3, 212, 0) := by decide +kernel
theorem rX10_applies_159 : am_rw mX10_applies 159 = some (.iload_n 1, 1, 0, 0) := by decide +kernel
theorem rX10_applies_160 : am_rw mX10_applies 160 = some (.bipush 120, 2, 120, 0) := by decide +kernel
theorem rX10_applies_162 : am_rw mX10_applies 162 = some (.if_icmp .ne 17, 3, 179, 0) := by decide +kernel
theorem rX10_applies_165 : am_rw mX10_applies 165 = some (.fload_n 3, 1, 0, 0) := by decide +kernel
theorem rX10_applies_166 : am_rw mX10_applies 166 = some (.fload_n 2, 1, 0, 0) := by decide +kernel
theorem rX10_applies_167 : am_rw mX10_applies 167 = some (.fcmp .l, 1, 0, 0) := by decide +kernel
theorem rX10_applies_168 : am_rw mX10_applies 168 = some (.ifCond .le 7, 3, 175, 0) := by decide +kernel
theorem rX10_applies_171 : am_rw mX10_applies 171 = some (.fload_n 3, 1, 0, 0) := by decide +kernel
theorem rX10_applies_172 : am_rw mX10_applies 172 = some (.goto 40, 3, 212, 0) := by decide +kernel
theorem rX10_applies_175 : am_rw mX10_applies 175 = some (.fload_n 2, 1, 0, 0) := by decide +kernel
theorem rX10_applies_176 : am_rw mX10_applies 176 = some (.goto 36, 3, 212, 0) := by decide +kernel
theorem rX10_applies_179 : am_rw mX10_applies 179 = some (.iload_n 1, 1, 0, 0) := by decide +kernel
theorem rX10_applies_180 : am_rw mX10_applies 180 = some (.bipush 110, 2, 110, 0) := by decide +kernel
theorem rX10_applies_182 : am_rw mX10_applies 182 = some (.if_icmp .ne 17, 3, 199, 0) := by decide +kernel
theorem rX10_applies_185 : am_rw mX10_applies 185 = some (.fload_n 3, 1, 0, 0) := by decide +kernel
theorem rX10_applies_186 : am_rw mX10_applies 186 = some (.fload_n 2, 1, 0, 0) := by decide +kernel
theorem rX10_applies_187 : am_rw mX10_applies 187 = some (.fcmp .g, 1, 0, 0) := by decide +kernel
theorem rX10_applies_188 : am_rw mX10_applies 188 = some (.ifCond .ge 7, 3, 195, 0) := by decide +kernel
theorem rX10_applies_191 : am_rw mX10_applies 191 = some (.fload_n 3, 1, 0, 0) := by decide +kernel
theorem rX10_applies_192 : am_rw mX10_applies 192 = some (.goto 20, 3, 212, 0) := by decide +kernel
theorem rX10_applies_195 : am_rw mX10_applies 195 = some (.fload_n 2, 1, 0, 0) := by decide +kernel
theorem rX10_applies_196 : am_rw mX10_applies 196 = some (.goto 16, 3, 212, 0) := by decide +kernel
theorem rX10_applies_199 : am_rw mX10_applies 199 = some (.fload_n 2, 1, 0, 0) := by decide +kernel
theorem rX10_applies_200 : am_rw mX10_applies 200 = some (.fconst 0, 1, 0, 0) := by decide +kernel
theorem rX10_applies_201 : am_rw mX10_applies 201 = some (.fcmp .l, 1, 0, 0) := by decide +kernel
theorem rX10_applies_202 : am_rw mX10_applies 202 = some (.ifCond .ne 7, 3, 209, 0) := by decide +kernel
theorem rX10_applies_205 : am_rw mX10_applies 205 = some (.fconst 0, 1, 0, 0) := by decide +kernel
theorem rX10_applies_206 : am_rw mX10_applies 206 = some (.goto 6, 3, 212, 0) := by decide +kernel
theorem rX10_applies_209 : am_rw mX10_applies 209 = some (.fload_n 3, 1, 0, 0) := by decide +kernel
theorem rX10_applies_210 : am_rw mX10_applies 210 = some (.fload_n 2, 1, 0, 0) := by decide +kernel
theorem rX10_applies_211 : am_rw mX10_applies 211 = some (.fdiv, 1, 0, 0) := by decide +kernel
theorem rX10_applies_212 : am_rw mX10_applies 212 = some (.invokevirtual 197, 3, 119, 2) := by decide +kernel
theorem rX10_applies_215 : am_rw mX10_applies 215 = some (.return_, 1, 0, 0) := by decide +kernel
theorem rX10_closes_0 : am_rw mX10_closes 0 = some (.aload_n 0, 1, 0, 0) := by decide +kernel
theorem rX10_closes_1 : am_rw mX10_closes 1 = some (.getfield 190, 3, 10, 50) := by decide +kernel
theorem rX10_closes_4 : am_rw mX10_closes 4 = some (.ifCond .le 26, 3, 30, 0) := by decide +kernel
theorem rX10_closes_7 : am_rw mX10_closes 7 = some (.aload_n 0, 1, 0, 0) := by decide +kernel
theorem rX10_closes_8 : am_rw mX10_closes 8 = some (.getfield 132, 3, 10, 49) := by decide +kernel
theorem rX10_closes_11 : am_rw mX10_closes 11 = some (.aload_n 0, 1, 0, 0) := by decide +kernel
theorem rX10_closes_12 : am_rw mX10_closes 12 = some (.getfield 190, 3, 10, 50) := by decide +kernel
theorem rX10_closes_15 : am_rw mX10_closes 15 = some (.iconst 1, 1, 1, 0) := by decide +kernel
theorem rX10_closes_16 : am_rw mX10_closes 16 = some (.isub, 1, 0, 0) := by decide +kernel
theorem rX10_closes_17 : am_rw mX10_closes 17 = some (.iaload, 1, 0, 0) := by decide +kernel
theorem rX10_closes_18 : am_rw mX10_closes 18 = some (.bipush 126, 2, 126, 0) := by decide +kernel
theorem rX10_closes_20 : am_rw mX10_closes 20 = some (.if_icmp .ne 10, 3, 30, 0) := by decide +kernel
theorem rX10_closes_23 : am_rw mX10_closes 23 = some (.aload_n 0, 1, 0, 0) := by decide +kernel
theorem rX10_closes_24 : am_rw mX10_closes 24 = some (.invokevirtual 201, 3, 121, 1) := by decide +kernel
theorem rX10_closes_27 : am_rw mX10_closes 27 = some (.goto (-27), 3, 0, 0) := by decide +kernel
theorem rX10_closes_30 : am_rw mX10_closes 30 = some (.return_, 1, 0, 0) := by decide +kernel
theorem rX10_waitsFor_0 : am_rw mX10_waitsFor 0 = some (.aload_n 0, 1, 0, 0) := by decide +kernel
theorem rX10_waitsFor_1 : am_rw mX10_waitsFor 1 = some (.getfield 190, 3, 10, 50) := by decide +kernel
theorem rX10_waitsFor_4 : am_rw mX10_waitsFor 4 = some (.ifCond .ne 8, 3, 12, 0) := by decide +kernel
theorem rX10_waitsFor_7 : am_rw mX10_waitsFor 7 = some (.bipush 40, 2, 40, 0) := by decide +kernel
theorem rX10_waitsFor_9 : am_rw mX10_waitsFor 9 = some (.goto 14, 3, 23, 0) := by decide +kernel
theorem rX10_waitsFor_12 : am_rw mX10_waitsFor 12 = some (.aload_n 0, 1, 0, 0) := by decide +kernel
theorem rX10_waitsFor_13 : am_rw mX10_waitsFor 13 = some (.getfield 132, 3, 10, 49) := by decide +kernel
theorem rX10_waitsFor_16 : am_rw mX10_waitsFor 16 = some (.aload_n 0, 1, 0, 0) := by decide +kernel
theorem rX10_waitsFor_17 : am_rw mX10_waitsFor 17 = some (.getfield 190, 3, 10, 50) := by decide +kernel
theorem rX10_waitsFor_20 : am_rw mX10_waitsFor 20 = some (.iconst 1, 1, 1, 0) := by decide +kernel
theorem rX10_waitsFor_21 : am_rw mX10_waitsFor 21 = some (.isub, 1, 0, 0) := by decide +kernel
theorem rX10_waitsFor_22 : am_rw mX10_waitsFor 22 = some (.iaload, 1, 0, 0) := by decide +kernel
theorem rX10_waitsFor_23 : am_rw mX10_waitsFor 23 = some (.istore_n 2, 1, 0, 0) := by decide +kernel
theorem rX10_waitsFor_24 : am_rw mX10_waitsFor 24 = some (.iload_n 2, 1, 0, 0) := by decide +kernel
theorem rX10_waitsFor_25 : am_rw mX10_waitsFor 25 = some (.bipush 42, 2, 42, 0) := by decide +kernel
theorem rX10_waitsFor_27 : am_rw mX10_waitsFor 27 = some (.if_icmp .eq 25, 3, 52, 0) := by decide +kernel
theorem rX10_waitsFor_30 : am_rw mX10_waitsFor 30 = some (.iload_n 2, 1, 0, 0) := by decide +kernel
theorem rX10_waitsFor_31 : am_rw mX10_waitsFor 31 = some (.bipush 47, 2, 47, 0) := by decide +kernel
theorem rX10_waitsFor_33 : am_rw mX10_waitsFor 33 = some (.if_icmp .eq 19, 3, 52, 0) := by decide +kernel
theorem rX10_waitsFor_36 : am_rw mX10_waitsFor 36 = some (.iload_n 1, 1, 0, 0) := by decide +kernel
theorem rX10_waitsFor_37 : am_rw mX10_waitsFor 37 = some (.ifCond .ne 19, 3, 56, 0) := by decide +kernel
theorem rX10_waitsFor_40 : am_rw mX10_waitsFor 40 = some (.iload_n 2, 1, 0, 0) := by decide +kernel
theorem rX10_waitsFor_41 : am_rw mX10_waitsFor 41 = some (.bipush 43, 2, 43, 0) := by decide +kernel
theorem rX10_waitsFor_43 : am_rw mX10_waitsFor 43 = some (.if_icmp .eq 9, 3, 52, 0) := by decide +kernel
theorem rX10_waitsFor_46 : am_rw mX10_waitsFor 46 = some (.iload_n 2, 1, 0, 0) := by decide +kernel
theorem rX10_waitsFor_47 : am_rw mX10_waitsFor 47 = some (.bipush 45, 2, 45, 0) := by decide +kernel
theorem rX10_waitsFor_49 : am_rw mX10_waitsFor 49 = some (.if_icmp .ne 7, 3, 56, 0) := by decide +kernel
theorem rX10_waitsFor_52 : am_rw mX10_waitsFor 52 = some (.iconst 1, 1, 1, 0) := by decide +kernel
theorem rX10_waitsFor_53 : am_rw mX10_waitsFor 53 = some (.goto 4, 3, 57, 0) := by decide +kernel
theorem rX10_waitsFor_56 : am_rw mX10_waitsFor 56 = some (.iconst 0, 1, 0, 0) := by decide +kernel
theorem rX10_waitsFor_57 : am_rw mX10_waitsFor 57 = some (.ireturn, 1, 0, 0) := by decide +kernel
theorem rX10_waitsOn_0 : am_rw mX10_waitsOn 0 = some (.aload_n 0, 1, 0, 0) := by decide +kernel
theorem rX10_waitsOn_1 : am_rw mX10_waitsOn 1 = some (.getfield 132, 3, 10, 49) := by decide +kernel
theorem rX10_waitsOn_4 : am_rw mX10_waitsOn 4 = some (.aload_n 0, 1, 0, 0) := by decide +kernel
theorem rX10_waitsOn_5 : am_rw mX10_waitsOn 5 = some (.getfield 190, 3, 10, 50) := by decide +kernel
theorem rX10_waitsOn_8 : am_rw mX10_waitsOn 8 = some (.iload_n 1, 1, 0, 0) := by decide +kernel
theorem rX10_waitsOn_9 : am_rw mX10_waitsOn 9 = some (.iastore, 1, 0, 0) := by decide +kernel
theorem rX10_waitsOn_10 : am_rw mX10_waitsOn 10 = some (.aload_n 0, 1, 0, 0) := by decide +kernel
theorem rX10_waitsOn_11 : am_rw mX10_waitsOn 11 = some (.dup, 1, 0, 0) := by decide +kernel
theorem rX10_waitsOn_12 : am_rw mX10_waitsOn 12 = some (.getfield 190, 3, 10, 50) := by decide +kernel
theorem rX10_waitsOn_15 : am_rw mX10_waitsOn 15 = some (.iconst 1, 1, 1, 0) := by decide +kernel
theorem rX10_waitsOn_16 : am_rw mX10_waitsOn 16 = some (.iadd, 1, 0, 0) := by decide +kernel
theorem rX10_waitsOn_17 : am_rw mX10_waitsOn 17 = some (.putfield 190, 3, 10, 50) := by decide +kernel
theorem rX10_waitsOn_20 : am_rw mX10_waitsOn 20 = some (.return_, 1, 0, 0) := by decide +kernel
theorem rX10_named_0 : am_rw mX10_named 0 = some (.iload_n 1, 1, 0, 0) := by decide +kernel
theorem rX10_named_1 : am_rw mX10_named 1 = some (.iconst (-1), 1, 1, 1) := by decide +kernel
theorem rX10_named_2 : am_rw mX10_named 2 = some (.if_icmp .eq 9, 3, 11, 0) := by decide +kernel
theorem rX10_named_5 : am_rw mX10_named 5 = some (.iload_n 3, 1, 0, 0) := by decide +kernel
theorem rX10_named_6 : am_rw mX10_named 6 = some (.bipush 104, 2, 104, 0) := by decide +kernel
theorem rX10_named_8 : am_rw mX10_named 8 = some (.if_icmp .ne 45, 3, 53, 0) := by decide +kernel
theorem rX10_named_11 : am_rw mX10_named 11 = some (.iload_n 3, 1, 0, 0) := by decide +kernel
theorem rX10_named_12 : am_rw mX10_named 12 = some (.bipush 104, 2, 104, 0) := by decide +kernel
theorem rX10_named_14 : am_rw mX10_named 14 = some (.if_icmp .ne 8, 3, 22, 0) := by decide +kernel
theorem rX10_named_17 : am_rw mX10_named 17 = some (.iload_n 2, 1, 0, 0) := by decide +kernel
theorem rX10_named_18 : am_rw mX10_named 18 = some (.i2f, 1, 0, 0) := by decide +kernel
theorem rX10_named_19 : am_rw mX10_named 19 = some (.goto 33, 3, 52, 0) := by decide +kernel
theorem rX10_named_22 : am_rw mX10_named 22 = some (.iload_n 3, 1, 0, 0) := by decide +kernel
theorem rX10_named_23 : am_rw mX10_named 23 = some (.bipush 108, 2, 108, 0) := by decide +kernel
theorem rX10_named_25 : am_rw mX10_named 25 = some (.if_icmp .ne 10, 3, 35, 0) := by decide +kernel
theorem rX10_named_28 : am_rw mX10_named 28 = some (.aload_n 0, 1, 0, 0) := by decide +kernel
theorem rX10_named_29 : am_rw mX10_named 29 = some (.getfield 204, 3, 10, 51) := by decide +kernel
theorem rX10_named_32 : am_rw mX10_named 32 = some (.goto 20, 3, 52, 0) := by decide +kernel
theorem rX10_named_35 : am_rw mX10_named 35 = some (.iload_n 3, 1, 0, 0) := by decide +kernel
theorem rX10_named_36 : am_rw mX10_named 36 = some (.bipush 102, 2, 102, 0) := by decide +kernel
theorem rX10_named_38 : am_rw mX10_named 38 = some (.if_icmp .ne 10, 3, 48, 0) := by decide +kernel
theorem rX10_named_41 : am_rw mX10_named 41 = some (.aload_n 0, 1, 0, 0) := by decide +kernel
theorem rX10_named_42 : am_rw mX10_named 42 = some (.getfield 208, 3, 10, 52) := by decide +kernel
theorem rX10_named_45 : am_rw mX10_named 45 = some (.goto 7, 3, 52, 0) := by decide +kernel
theorem rX10_named_48 : am_rw mX10_named 48 = some (.aload_n 0, 1, 0, 0) := by decide +kernel
theorem rX10_named_49 : am_rw mX10_named 49 = some (.getfield 211, 3, 10, 53) := by decide +kernel
theorem rX10_named_52 : am_rw mX10_named 52 = some (.freturn, 1, 0, 0) := by decide +kernel
theorem rX10_named_53 : am_rw mX10_named 53 = some (.iload_n 3, 1, 0, 0) := by decide +kernel
theorem rX10_named_54 : am_rw mX10_named 54 = some (.bipush 103, 2, 103, 0) := by decide +kernel
theorem rX10_named_56 : am_rw mX10_named 56 = some (.if_icmp .ne 18, 3, 74, 0) := by decide +kernel
theorem rX10_named_59 : am_rw mX10_named 59 = some (.aload_n 0, 1, 0, 0) := by decide +kernel
theorem rX10_named_60 : am_rw mX10_named 60 = some (.getfield 34, 3, 10, 12) := by decide +kernel
theorem rX10_named_63 : am_rw mX10_named 63 = some (.sipush 201, 3, 201, 0) := by decide +kernel
theorem rX10_named_66 : am_rw mX10_named 66 = some (.iload 4, 2, 0, 0) := by decide +kernel
theorem rX10_named_68 : am_rw mX10_named 68 = some (.imul, 1, 0, 0) := by decide +kernel
theorem rX10_named_69 : am_rw mX10_named 69 = some (.iload_n 2, 1, 0, 0) := by decide +kernel
theorem rX10_named_70 : am_rw mX10_named 70 = some (.iadd, 1, 0, 0) := by decide +kernel
theorem rX10_named_71 : am_rw mX10_named 71 = some (.iaload, 1, 0, 0) := by decide +kernel
theorem rX10_named_72 : am_rw mX10_named 72 = some (.i2f, 1, 0, 0) := by decide +kernel
theorem rX10_named_73 : am_rw mX10_named 73 = some (.freturn, 1, 0, 0) := by decide +kernel
theorem rX10_named_74 : am_rw mX10_named 74 = some (.iload_n 3, 1, 0, 0) := by decide +kernel
theorem rX10_named_75 : am_rw mX10_named 75 = some (.bipush 112, 2, 112, 0) := by decide +kernel
theorem rX10_named_77 : am_rw mX10_named 77 = some (.if_icmp .ne 7, 3, 84, 0) := by decide +kernel
theorem rX10_named_80 : am_rw mX10_named 80 = some (.iload_n 1, 1, 0, 0) := by decide +kernel
theorem rX10_named_81 : am_rw mX10_named 81 = some (.goto 15, 3, 96, 0) := by decide +kernel
theorem rX10_named_84 : am_rw mX10_named 84 = some (.aload_n 0, 1, 0, 0) := by decide +kernel
theorem rX10_named_85 : am_rw mX10_named 85 = some (.getfield 25, 3, 10, 9) := by decide +kernel
theorem rX10_named_88 : am_rw mX10_named 88 = some (.bipush 6, 2, 6, 0) := by decide +kernel
theorem rX10_named_90 : am_rw mX10_named 90 = some (.iload_n 1, 1, 0, 0) := by decide +kernel
theorem rX10_named_91 : am_rw mX10_named 91 = some (.imul, 1, 0, 0) := by decide +kernel
theorem rX10_named_92 : am_rw mX10_named 92 = some (.iload 4, 2, 0, 0) := by decide +kernel
theorem rX10_named_94 : am_rw mX10_named 94 = some (.iadd, 1, 0, 0) := by decide +kernel
theorem rX10_named_95 : am_rw mX10_named 95 = some (.iaload, 1, 0, 0) := by decide +kernel
theorem rX10_named_96 : am_rw mX10_named 96 = some (.istore 5, 2, 0, 0) := by decide +kernel
theorem rX10_named_98 : am_rw mX10_named 98 = some (.iload_n 3, 1, 0, 0) := by decide +kernel
theorem rX10_named_99 : am_rw mX10_named 99 = some (.bipush 109, 2, 109, 0) := by decide +kernel
theorem rX10_named_101 : am_rw mX10_named 101 = some (.if_icmp .ne 7, 3, 108, 0) := by decide +kernel
theorem rX10_named_104 : am_rw mX10_named 104 = some (.iload_n 2, 1, 0, 0) := by decide +kernel
theorem rX10_named_105 : am_rw mX10_named 105 = some (.goto 6, 3, 111, 0) := by decide +kernel
theorem rX10_named_108 : am_rw mX10_named 108 = some (.iload_n 2, 1, 0, 0) := by decide +kernel
theorem rX10_named_109 : am_rw mX10_named 109 = some (.iconst 1, 1, 1, 0) := by decide +kernel
theorem rX10_named_110 : am_rw mX10_named 110 = some (.isub, 1, 0, 0) := by decide +kernel
theorem rX10_named_111 : am_rw mX10_named 111 = some (.istore 6, 2, 0, 0) := by decide +kernel
theorem rX10_named_113 : am_rw mX10_named 113 = some (.iload 6, 2, 0, 0) := by decide +kernel
theorem rX10_named_115 : am_rw mX10_named 115 = some (.ifCond .ge 7, 3, 122, 0) := by decide +kernel
theorem rX10_named_118 : am_rw mX10_named 118 = some (.fconst 0, 1, 0, 0) := by decide +kernel
theorem rX10_named_119 : am_rw mX10_named 119 = some (.goto 17, 3, 136, 0) := by decide +kernel
theorem rX10_named_122 : am_rw mX10_named 122 = some (.aload_n 0, 1, 0, 0) := by decide +kernel
theorem rX10_named_123 : am_rw mX10_named 123 = some (.getfield 40, 3, 10, 15) := by decide +kernel
theorem rX10_named_126 : am_rw mX10_named 126 = some (.sipush 201, 3, 201, 0) := by decide +kernel
theorem rX10_named_129 : am_rw mX10_named 129 = some (.iload 5, 2, 0, 0) := by decide +kernel
theorem rX10_named_131 : am_rw mX10_named 131 = some (.imul, 1, 0, 0) := by decide +kernel
theorem rX10_named_132 : am_rw mX10_named 132 = some (.iload 6, 2, 0, 0) := by decide +kernel
theorem rX10_named_134 : am_rw mX10_named 134 = some (.iadd, 1, 0, 0) := by decide +kernel
theorem rX10_named_135 : am_rw mX10_named 135 = some (.faload, 1, 0, 0) := by decide +kernel
theorem rX10_named_136 : am_rw mX10_named 136 = some (.freturn, 1, 0, 0) := by decide +kernel
theorem rX10_putsNumber_0 : am_rw mX10_putsNumber 0 = some (.iconst 0, 1, 0, 0) := by decide +kernel
theorem rX10_putsNumber_1 : am_rw mX10_putsNumber 1 = some (.istore_n 2, 1, 0, 0) := by decide +kernel
theorem rX10_putsNumber_2 : am_rw mX10_putsNumber 2 = some (.iconst 0, 1, 0, 0) := by decide +kernel
theorem rX10_putsNumber_3 : am_rw mX10_putsNumber 3 = some (.istore_n 3, 1, 0, 0) := by decide +kernel
theorem rX10_putsNumber_4 : am_rw mX10_putsNumber 4 = some (.iload_n 1, 1, 0, 0) := by decide +kernel
theorem rX10_putsNumber_5 : am_rw mX10_putsNumber 5 = some (.istore 4, 2, 0, 0) := by decide +kernel
theorem rX10_putsNumber_7 : am_rw mX10_putsNumber 7 = some (.iload 4, 2, 0, 0) := by decide +kernel
theorem rX10_putsNumber_9 : am_rw mX10_putsNumber 9 = some (.aload_n 0, 1, 0, 0) := by decide +kernel
theorem rX10_putsNumber_10 : am_rw mX10_putsNumber 10 = some (.getfield 214, 3, 10, 46) := by decide +kernel
theorem rX10_putsNumber_13 : am_rw mX10_putsNumber 13 = some (.if_icmp .ge 99, 3, 112, 0) := by decide +kernel
theorem rX10_putsNumber_16 : am_rw mX10_putsNumber 16 = some (.aload_n 0, 1, 0, 0) := by decide +kernel
theorem rX10_putsNumber_17 : am_rw mX10_putsNumber 17 = some (.getfield 126, 3, 10, 45) := by decide +kernel
theorem rX10_putsNumber_20 : am_rw mX10_putsNumber 20 = some (.iload 4, 2, 0, 0) := by decide +kernel
theorem rX10_putsNumber_22 : am_rw mX10_putsNumber 22 = some (.iaload, 1, 0, 0) := by decide +kernel
theorem rX10_putsNumber_23 : am_rw mX10_putsNumber 23 = some (.invokestatic 149, 3, 108, 1) := by decide +kernel
theorem rX10_putsNumber_26 : am_rw mX10_putsNumber 26 = some (.ifCond .ne 15, 3, 41, 0) := by decide +kernel
theorem rX10_putsNumber_29 : am_rw mX10_putsNumber 29 = some (.aload_n 0, 1, 0, 0) := by decide +kernel
theorem rX10_putsNumber_30 : am_rw mX10_putsNumber 30 = some (.getfield 126, 3, 10, 45) := by decide +kernel
theorem rX10_putsNumber_33 : am_rw mX10_putsNumber 33 = some (.iload 4, 2, 0, 0) := by decide +kernel
theorem rX10_putsNumber_35 : am_rw mX10_putsNumber 35 = some (.iaload, 1, 0, 0) := by decide +kernel
theorem rX10_putsNumber_36 : am_rw mX10_putsNumber 36 = some (.bipush 46, 2, 46, 0) := by decide +kernel
theorem rX10_putsNumber_38 : am_rw mX10_putsNumber 38 = some (.if_icmp .ne 74, 3, 112, 0) := by decide +kernel
theorem rX10_putsNumber_41 : am_rw mX10_putsNumber 41 = some (.aload_n 0, 1, 0, 0) := by decide +kernel
theorem rX10_putsNumber_42 : am_rw mX10_putsNumber 42 = some (.getfield 126, 3, 10, 45) := by decide +kernel
theorem rX10_putsNumber_45 : am_rw mX10_putsNumber 45 = some (.iload 4, 2, 0, 0) := by decide +kernel
theorem rX10_putsNumber_47 : am_rw mX10_putsNumber 47 = some (.iaload, 1, 0, 0) := by decide +kernel
theorem rX10_putsNumber_48 : am_rw mX10_putsNumber 48 = some (.bipush 46, 2, 46, 0) := by decide +kernel
theorem rX10_putsNumber_50 : am_rw mX10_putsNumber 50 = some (.if_icmp .ne 7, 3, 57, 0) := by decide +kernel
theorem rX10_putsNumber_53 : am_rw mX10_putsNumber 53 = some (.iconst 1, 1, 1, 0) := by decide +kernel
theorem rX10_putsNumber_54 : am_rw mX10_putsNumber 54 = some (.goto 4, 3, 58, 0) := by decide +kernel
theorem rX10_putsNumber_57 : am_rw mX10_putsNumber 57 = some (.iconst 0, 1, 0, 0) := by decide +kernel
theorem rX10_putsNumber_58 : am_rw mX10_putsNumber 58 = some (.istore 5, 2, 0, 0) := by decide +kernel
theorem rX10_putsNumber_60 : am_rw mX10_putsNumber 60 = some (.iload 5, 2, 0, 0) := by decide +kernel
theorem rX10_putsNumber_62 : am_rw mX10_putsNumber 62 = some (.ifCond .eq 7, 3, 69, 0) := by decide +kernel
theorem rX10_putsNumber_65 : am_rw mX10_putsNumber 65 = some (.iload_n 2, 1, 0, 0) := by decide +kernel
theorem rX10_putsNumber_66 : am_rw mX10_putsNumber 66 = some (.goto 18, 3, 84, 0) := by decide +kernel
theorem rX10_putsNumber_69 : am_rw mX10_putsNumber 69 = some (.bipush 10, 2, 10, 0) := by decide +kernel
theorem rX10_putsNumber_71 : am_rw mX10_putsNumber 71 = some (.iload_n 2, 1, 0, 0) := by decide +kernel
theorem rX10_putsNumber_72 : am_rw mX10_putsNumber 72 = some (.imul, 1, 0, 0) := by decide +kernel
theorem rX10_putsNumber_73 : am_rw mX10_putsNumber 73 = some (.aload_n 0, 1, 0, 0) := by decide +kernel
theorem rX10_putsNumber_74 : am_rw mX10_putsNumber 74 = some (.getfield 126, 3, 10, 45) := by decide +kernel
theorem rX10_putsNumber_77 : am_rw mX10_putsNumber 77 = some (.iload 4, 2, 0, 0) := by decide +kernel
theorem rX10_putsNumber_79 : am_rw mX10_putsNumber 79 = some (.iaload, 1, 0, 0) := by decide +kernel
theorem rX10_putsNumber_80 : am_rw mX10_putsNumber 80 = some (.iadd, 1, 0, 0) := by decide +kernel
theorem rX10_putsNumber_81 : am_rw mX10_putsNumber 81 = some (.bipush 48, 2, 48, 0) := by decide +kernel
theorem rX10_putsNumber_83 : am_rw mX10_putsNumber 83 = some (.isub, 1, 0, 0) := by decide +kernel
theorem rX10_putsNumber_84 : am_rw mX10_putsNumber 84 = some (.istore_n 2, 1, 0, 0) := by decide +kernel
theorem rX10_putsNumber_85 : am_rw mX10_putsNumber 85 = some (.iload 5, 2, 0, 0) := by decide +kernel
theorem rX10_putsNumber_87 : am_rw mX10_putsNumber 87 = some (.ifCond .eq 7, 3, 94, 0) := by decide +kernel
theorem rX10_putsNumber_90 : am_rw mX10_putsNumber 90 = some (.iconst 1, 1, 1, 0) := by decide +kernel
theorem rX10_putsNumber_91 : am_rw mX10_putsNumber 91 = some (.goto 14, 3, 105, 0) := by decide +kernel
theorem rX10_putsNumber_94 : am_rw mX10_putsNumber 94 = some (.iload_n 3, 1, 0, 0) := by decide +kernel
theorem rX10_putsNumber_95 : am_rw mX10_putsNumber 95 = some (.ifCond .le 9, 3, 104, 0) := by decide +kernel
theorem rX10_putsNumber_98 : am_rw mX10_putsNumber 98 = some (.iload_n 3, 1, 0, 0) := by decide +kernel
theorem rX10_putsNumber_99 : am_rw mX10_putsNumber 99 = some (.iconst 1, 1, 1, 0) := by decide +kernel
theorem rX10_putsNumber_100 : am_rw mX10_putsNumber 100 = some (.iadd, 1, 0, 0) := by decide +kernel
theorem rX10_putsNumber_101 : am_rw mX10_putsNumber 101 = some (.goto 4, 3, 105, 0) := by decide +kernel
theorem rX10_putsNumber_104 : am_rw mX10_putsNumber 104 = some (.iconst 0, 1, 0, 0) := by decide +kernel
theorem rX10_putsNumber_105 : am_rw mX10_putsNumber 105 = some (.istore_n 3, 1, 0, 0) := by decide +kernel
theorem rX10_putsNumber_106 : am_rw mX10_putsNumber 106 = some (.iinc 4 1, 3, 0, 0) := by decide +kernel
theorem rX10_putsNumber_109 : am_rw mX10_putsNumber 109 = some (.goto (-102), 3, 7, 0) := by decide +kernel
theorem rX10_putsNumber_112 : am_rw mX10_putsNumber 112 = some (.iload_n 2, 1, 0, 0) := by decide +kernel
theorem rX10_putsNumber_113 : am_rw mX10_putsNumber 113 = some (.iload_n 3, 1, 0, 0) := by decide +kernel
theorem rX10_putsNumber_114 : am_rw mX10_putsNumber 114 = some (.iconst 3, 1, 3, 0) := by decide +kernel
theorem rX10_putsNumber_115 : am_rw mX10_putsNumber 115 = some (.if_icmp .ne 7, 3, 122, 0) := by decide +kernel
theorem rX10_putsNumber_118 : am_rw mX10_putsNumber 118 = some (.iconst 1, 1, 1, 0) := by decide +kernel
theorem rX10_putsNumber_119 : am_rw mX10_putsNumber 119 = some (.goto 15, 3, 134, 0) := by decide +kernel
theorem rX10_putsNumber_122 : am_rw mX10_putsNumber 122 = some (.iload_n 3, 1, 0, 0) := by decide +kernel
theorem rX10_putsNumber_123 : am_rw mX10_putsNumber 123 = some (.iconst 2, 1, 2, 0) := by decide +kernel
theorem rX10_putsNumber_124 : am_rw mX10_putsNumber 124 = some (.if_icmp .ne 8, 3, 132, 0) := by decide +kernel
theorem rX10_putsNumber_127 : am_rw mX10_putsNumber 127 = some (.bipush 10, 2, 10, 0) := by decide +kernel
theorem rX10_putsNumber_129 : am_rw mX10_putsNumber 129 = some (.goto 5, 3, 134, 0) := by decide +kernel
theorem rX10_putsNumber_132 : am_rw mX10_putsNumber 132 = some (.bipush 100, 2, 100, 0) := by decide +kernel
theorem rX10_putsNumber_134 : am_rw mX10_putsNumber 134 = some (.imul, 1, 0, 0) := by decide +kernel
theorem rX10_putsNumber_135 : am_rw mX10_putsNumber 135 = some (.istore_n 2, 1, 0, 0) := by decide +kernel
theorem rX10_putsNumber_136 : am_rw mX10_putsNumber 136 = some (.aload_n 0, 1, 0, 0) := by decide +kernel
theorem rX10_putsNumber_137 : am_rw mX10_putsNumber 137 = some (.iload_n 2, 1, 0, 0) := by decide +kernel
theorem rX10_putsNumber_138 : am_rw mX10_putsNumber 138 = some (.i2f, 1, 0, 0) := by decide +kernel
theorem rX10_putsNumber_139 : am_rw mX10_putsNumber 139 = some (.ldc 217, 2, 1, 1120403456) := by decide +kernel
theorem rX10_putsNumber_141 : am_rw mX10_putsNumber 141 = some (.fdiv, 1, 0, 0) := by decide +kernel
theorem rX10_putsNumber_142 : am_rw mX10_putsNumber 142 = some (.invokevirtual 197, 3, 119, 2) := by decide +kernel
theorem rX10_putsNumber_145 : am_rw mX10_putsNumber 145 = some (.iload 4, 2, 0, 0) := by decide +kernel
theorem rX10_putsNumber_147 : am_rw mX10_putsNumber 147 = some (.iconst 1, 1, 1, 0) := by decide +kernel
theorem rX10_putsNumber_148 : am_rw mX10_putsNumber 148 = some (.isub, 1, 0, 0) := by decide +kernel
theorem rX10_putsNumber_149 : am_rw mX10_putsNumber 149 = some (.ireturn, 1, 0, 0) := by decide +kernel
theorem rX10_goesOn_0 : am_rw mX10_goesOn 0 = some (.iload_n 1, 1, 0, 0) := by decide +kernel
theorem rX10_goesOn_1 : am_rw mX10_goesOn 1 = some (.bipush 42, 2, 42, 0) := by decide +kernel
theorem rX10_goesOn_3 : am_rw mX10_goesOn 3 = some (.if_icmp .eq 9, 3, 12, 0) := by decide +kernel
theorem rX10_goesOn_6 : am_rw mX10_goesOn 6 = some (.iload_n 1, 1, 0, 0) := by decide +kernel
theorem rX10_goesOn_7 : am_rw mX10_goesOn 7 = some (.bipush 47, 2, 47, 0) := by decide +kernel
theorem rX10_goesOn_9 : am_rw mX10_goesOn 9 = some (.if_icmp .ne 7, 3, 16, 0) := by decide +kernel
theorem rX10_goesOn_12 : am_rw mX10_goesOn 12 = some (.iconst 1, 1, 1, 0) := by decide +kernel
theorem rX10_goesOn_13 : am_rw mX10_goesOn 13 = some (.goto 4, 3, 17, 0) := by decide +kernel
theorem rX10_goesOn_16 : am_rw mX10_goesOn 16 = some (.iconst 0, 1, 0, 0) := by decide +kernel
theorem rX10_goesOn_17 : am_rw mX10_goesOn 17 = some (.istore_n 2, 1, 0, 0) := by decide +kernel
theorem rX10_goesOn_18 : am_rw mX10_goesOn 18 = some (.aload_n 0, 1, 0, 0) := by decide +kernel
theorem rX10_goesOn_19 : am_rw mX10_goesOn 19 = some (.iload_n 2, 1, 0, 0) := by decide +kernel
theorem rX10_goesOn_20 : am_rw mX10_goesOn 20 = some (.invokevirtual 218, 3, 123, 2) := by decide +kernel
theorem rX10_goesOn_23 : am_rw mX10_goesOn 23 = some (.ifCond .eq 10, 3, 33, 0) := by decide +kernel
theorem rX10_goesOn_26 : am_rw mX10_goesOn 26 = some (.aload_n 0, 1, 0, 0) := by decide +kernel
theorem rX10_goesOn_27 : am_rw mX10_goesOn 27 = some (.invokevirtual 201, 3, 121, 1) := by decide +kernel
theorem rX10_goesOn_30 : am_rw mX10_goesOn 30 = some (.goto (-12), 3, 18, 0) := by decide +kernel
theorem rX10_goesOn_33 : am_rw mX10_goesOn 33 = some (.iload_n 1, 1, 0, 0) := by decide +kernel
theorem rX10_goesOn_34 : am_rw mX10_goesOn 34 = some (.invokestatic 153, 3, 109, 1) := by decide +kernel
theorem rX10_goesOn_37 : am_rw mX10_goesOn 37 = some (.ifCond .eq 10, 3, 47, 0) := by decide +kernel
theorem rX10_goesOn_40 : am_rw mX10_goesOn 40 = some (.aload_n 0, 1, 0, 0) := by decide +kernel
theorem rX10_goesOn_41 : am_rw mX10_goesOn 41 = some (.iload_n 1, 1, 0, 0) := by decide +kernel
theorem rX10_goesOn_42 : am_rw mX10_goesOn 42 = some (.invokevirtual 222, 3, 124, 2) := by decide +kernel
theorem rX10_goesOn_45 : am_rw mX10_goesOn 45 = some (.iconst 0, 1, 0, 0) := by decide +kernel
theorem rX10_goesOn_46 : am_rw mX10_goesOn 46 = some (.ireturn, 1, 0, 0) := by decide +kernel
theorem rX10_goesOn_47 : am_rw mX10_goesOn 47 = some (.iload_n 1, 1, 0, 0) := by decide +kernel
theorem rX10_goesOn_48 : am_rw mX10_goesOn 48 = some (.bipush 44, 2, 44, 0) := by decide +kernel
theorem rX10_goesOn_50 : am_rw mX10_goesOn 50 = some (.if_icmp .ne 5, 3, 55, 0) := by decide +kernel
theorem rX10_goesOn_53 : am_rw mX10_goesOn 53 = some (.iconst 0, 1, 0, 0) := by decide +kernel
theorem rX10_goesOn_54 : am_rw mX10_goesOn 54 = some (.ireturn, 1, 0, 0) := by decide +kernel
theorem rX10_goesOn_55 : am_rw mX10_goesOn 55 = some (.aload_n 0, 1, 0, 0) := by decide +kernel
theorem rX10_goesOn_56 : am_rw mX10_goesOn 56 = some (.getfield 132, 3, 10, 49) := by decide +kernel
theorem rX10_goesOn_59 : am_rw mX10_goesOn 59 = some (.aload_n 0, 1, 0, 0) := by decide +kernel
theorem rX10_goesOn_60 : am_rw mX10_goesOn 60 = some (.getfield 190, 3, 10, 50) := by decide +kernel
theorem rX10_goesOn_63 : am_rw mX10_goesOn 63 = some (.iconst 1, 1, 1, 0) := by decide +kernel
theorem rX10_goesOn_64 : am_rw mX10_goesOn 64 = some (.isub, 1, 0, 0) := by decide +kernel
theorem rX10_goesOn_65 : am_rw mX10_goesOn 65 = some (.iaload, 1, 0, 0) := by decide +kernel
theorem rX10_goesOn_66 : am_rw mX10_goesOn 66 = some (.bipush 40, 2, 40, 0) := by decide +kernel
theorem rX10_goesOn_68 : am_rw mX10_goesOn 68 = some (.if_icmp .ne 16, 3, 84, 0) := by decide +kernel
theorem rX10_goesOn_71 : am_rw mX10_goesOn 71 = some (.aload_n 0, 1, 0, 0) := by decide +kernel
theorem rX10_goesOn_72 : am_rw mX10_goesOn 72 = some (.dup, 1, 0, 0) := by decide +kernel
theorem rX10_goesOn_73 : am_rw mX10_goesOn 73 = some (.getfield 190, 3, 10, 50) := by decide +kernel
theorem rX10_goesOn_76 : am_rw mX10_goesOn 76 = some (.iconst 1, 1, 1, 0) := by decide +kernel
theorem rX10_goesOn_77 : am_rw mX10_goesOn 77 = some (.isub, 1, 0, 0) := by decide +kernel
theorem rX10_goesOn_78 : am_rw mX10_goesOn 78 = some (.putfield 190, 3, 10, 50) := by decide +kernel
theorem rX10_goesOn_81 : am_rw mX10_goesOn 81 = some (.goto 7, 3, 88, 0) := by decide +kernel
theorem rX10_goesOn_84 : am_rw mX10_goesOn 84 = some (.aload_n 0, 1, 0, 0) := by decide +kernel
theorem rX10_goesOn_85 : am_rw mX10_goesOn 85 = some (.invokevirtual 201, 3, 121, 1) := by decide +kernel
theorem rX10_goesOn_88 : am_rw mX10_goesOn 88 = some (.aload_n 0, 1, 0, 0) := by decide +kernel
theorem rX10_goesOn_89 : am_rw mX10_goesOn 89 = some (.invokevirtual 226, 3, 122, 1) := by decide +kernel
theorem rX10_goesOn_92 : am_rw mX10_goesOn 92 = some (.iconst 1, 1, 1, 0) := by decide +kernel
theorem rX10_goesOn_93 : am_rw mX10_goesOn 93 = some (.ireturn, 1, 0, 0) := by decide +kernel
theorem rX10_worth_0 : am_rw mX10_worth 0 = some (.aload_n 0, 1, 0, 0) := by decide +kernel
theorem rX10_worth_1 : am_rw mX10_worth 1 = some (.iconst 0, 1, 0, 0) := by decide +kernel
theorem rX10_worth_2 : am_rw mX10_worth 2 = some (.putfield 183, 3, 10, 48) := by decide +kernel
theorem rX10_worth_5 : am_rw mX10_worth 5 = some (.aload_n 0, 1, 0, 0) := by decide +kernel
theorem rX10_worth_6 : am_rw mX10_worth 6 = some (.iconst 0, 1, 0, 0) := by decide +kernel
theorem rX10_worth_7 : am_rw mX10_worth 7 = some (.putfield 190, 3, 10, 50) := by decide +kernel
theorem rX10_worth_10 : am_rw mX10_worth 10 = some (.iconst 0, 1, 0, 0) := by decide +kernel
theorem rX10_worth_11 : am_rw mX10_worth 11 = some (.istore_n 3, 1, 0, 0) := by decide +kernel
theorem rX10_worth_12 : am_rw mX10_worth 12 = some (.iconst 0, 1, 0, 0) := by decide +kernel
theorem rX10_worth_13 : am_rw mX10_worth 13 = some (.istore 4, 2, 0, 0) := by decide +kernel
theorem rX10_worth_15 : am_rw mX10_worth 15 = some (.iload 4, 2, 0, 0) := by decide +kernel
theorem rX10_worth_17 : am_rw mX10_worth 17 = some (.aload_n 0, 1, 0, 0) := by decide +kernel
theorem rX10_worth_18 : am_rw mX10_worth 18 = some (.getfield 214, 3, 10, 46) := by decide +kernel
theorem rX10_worth_21 : am_rw mX10_worth 21 = some (.if_icmp .ge 181, 3, 202, 0) := by decide +kernel
theorem rX10_worth_24 : am_rw mX10_worth 24 = some (.aload_n 0, 1, 0, 0) := by decide +kernel
theorem rX10_worth_25 : am_rw mX10_worth 25 = some (.getfield 126, 3, 10, 45) := by decide +kernel
theorem rX10_worth_28 : am_rw mX10_worth 28 = some (.iload 4, 2, 0, 0) := by decide +kernel
theorem rX10_worth_30 : am_rw mX10_worth 30 = some (.iaload, 1, 0, 0) := by decide +kernel
theorem rX10_worth_31 : am_rw mX10_worth 31 = some (.istore 5, 2, 0, 0) := by decide +kernel
theorem rX10_worth_33 : am_rw mX10_worth 33 = some (.iload_n 3, 1, 0, 0) := by decide +kernel
theorem rX10_worth_34 : am_rw mX10_worth 34 = some (.ifCond .eq 13, 3, 47, 0) := by decide +kernel
theorem rX10_worth_37 : am_rw mX10_worth 37 = some (.aload_n 0, 1, 0, 0) := by decide +kernel
theorem rX10_worth_38 : am_rw mX10_worth 38 = some (.iload 5, 2, 0, 0) := by decide +kernel
theorem rX10_worth_40 : am_rw mX10_worth 40 = some (.invokevirtual 229, 3, 127, 2) := by decide +kernel
theorem rX10_worth_43 : am_rw mX10_worth 43 = some (.istore_n 3, 1, 0, 0) := by decide +kernel
theorem rX10_worth_44 : am_rw mX10_worth 44 = some (.goto 152, 3, 196, 0) := by decide +kernel
theorem rX10_worth_47 : am_rw mX10_worth 47 = some (.iload 5, 2, 0, 0) := by decide +kernel
theorem rX10_worth_49 : am_rw mX10_worth 49 = some (.bipush 45, 2, 45, 0) := by decide +kernel
theorem rX10_worth_51 : am_rw mX10_worth 51 = some (.if_icmp .eq 10, 3, 61, 0) := by decide +kernel
theorem rX10_worth_54 : am_rw mX10_worth 54 = some (.iload 5, 2, 0, 0) := by decide +kernel
theorem rX10_worth_56 : am_rw mX10_worth 56 = some (.bipush 40, 2, 40, 0) := by decide +kernel
theorem rX10_worth_58 : am_rw mX10_worth 58 = some (.if_icmp .ne 24, 3, 82, 0) := by decide +kernel
theorem rX10_worth_61 : am_rw mX10_worth 61 = some (.aload_n 0, 1, 0, 0) := by decide +kernel
theorem rX10_worth_62 : am_rw mX10_worth 62 = some (.iload 5, 2, 0, 0) := by decide +kernel
theorem rX10_worth_64 : am_rw mX10_worth 64 = some (.bipush 45, 2, 45, 0) := by decide +kernel
theorem rX10_worth_66 : am_rw mX10_worth 66 = some (.if_icmp .ne 8, 3, 74, 0) := by decide +kernel
theorem rX10_worth_69 : am_rw mX10_worth 69 = some (.bipush 126, 2, 126, 0) := by decide +kernel
theorem rX10_worth_71 : am_rw mX10_worth 71 = some (.goto 5, 3, 76, 0) := by decide +kernel
theorem rX10_worth_74 : am_rw mX10_worth 74 = some (.bipush 40, 2, 40, 0) := by decide +kernel
theorem rX10_worth_76 : am_rw mX10_worth 76 = some (.invokevirtual 222, 3, 124, 2) := by decide +kernel
theorem rX10_worth_79 : am_rw mX10_worth 79 = some (.goto 117, 3, 196, 0) := by decide +kernel
theorem rX10_worth_82 : am_rw mX10_worth 82 = some (.iload 5, 2, 0, 0) := by decide +kernel
theorem rX10_worth_84 : am_rw mX10_worth 84 = some (.invokestatic 162, 3, 110, 1) := by decide +kernel
theorem rX10_worth_87 : am_rw mX10_worth 87 = some (.ifCond .le 15, 3, 102, 0) := by decide +kernel
theorem rX10_worth_90 : am_rw mX10_worth 90 = some (.aload_n 0, 1, 0, 0) := by decide +kernel
theorem rX10_worth_91 : am_rw mX10_worth 91 = some (.iload 5, 2, 0, 0) := by decide +kernel
theorem rX10_worth_93 : am_rw mX10_worth 93 = some (.invokevirtual 222, 3, 124, 2) := by decide +kernel
theorem rX10_worth_96 : am_rw mX10_worth 96 = some (.iinc 4 1, 3, 0, 0) := by decide +kernel
theorem rX10_worth_99 : am_rw mX10_worth 99 = some (.goto 97, 3, 196, 0) := by decide +kernel
theorem rX10_worth_102 : am_rw mX10_worth 102 = some (.iload_n 1, 1, 0, 0) := by decide +kernel
theorem rX10_worth_103 : am_rw mX10_worth 103 = some (.iconst (-1), 1, 1, 1) := by decide +kernel
theorem rX10_worth_104 : am_rw mX10_worth 104 = some (.if_icmp .eq 16, 3, 120, 0) := by decide +kernel
theorem rX10_worth_107 : am_rw mX10_worth 107 = some (.iload 5, 2, 0, 0) := by decide +kernel
theorem rX10_worth_109 : am_rw mX10_worth 109 = some (.iconst 0, 1, 0, 0) := by decide +kernel
theorem rX10_worth_110 : am_rw mX10_worth 110 = some (.invokestatic 166, 3, 111, 2) := by decide +kernel
theorem rX10_worth_113 : am_rw mX10_worth 113 = some (.ifCond .le 7, 3, 120, 0) := by decide +kernel
theorem rX10_worth_116 : am_rw mX10_worth 116 = some (.iconst 1, 1, 1, 0) := by decide +kernel
theorem rX10_worth_117 : am_rw mX10_worth 117 = some (.goto 4, 3, 121, 0) := by decide +kernel
theorem rX10_worth_120 : am_rw mX10_worth 120 = some (.iconst 0, 1, 0, 0) := by decide +kernel
theorem rX10_worth_121 : am_rw mX10_worth 121 = some (.istore 6, 2, 0, 0) := by decide +kernel
theorem rX10_worth_123 : am_rw mX10_worth 123 = some (.iload 5, 2, 0, 0) := by decide +kernel
theorem rX10_worth_125 : am_rw mX10_worth 125 = some (.invokestatic 149, 3, 108, 1) := by decide +kernel
theorem rX10_worth_128 : am_rw mX10_worth 128 = some (.ifCond .eq 14, 3, 142, 0) := by decide +kernel
theorem rX10_worth_131 : am_rw mX10_worth 131 = some (.aload_n 0, 1, 0, 0) := by decide +kernel
theorem rX10_worth_132 : am_rw mX10_worth 132 = some (.iload 4, 2, 0, 0) := by decide +kernel
theorem rX10_worth_134 : am_rw mX10_worth 134 = some (.invokevirtual 232, 3, 126, 2) := by decide +kernel
theorem rX10_worth_137 : am_rw mX10_worth 137 = some (.istore 4, 2, 0, 0) := by decide +kernel
theorem rX10_worth_139 : am_rw mX10_worth 139 = some (.goto 51, 3, 190, 0) := by decide +kernel
theorem rX10_worth_142 : am_rw mX10_worth 142 = some (.aload_n 0, 1, 0, 0) := by decide +kernel
theorem rX10_worth_143 : am_rw mX10_worth 143 = some (.aload_n 0, 1, 0, 0) := by decide +kernel
theorem rX10_worth_144 : am_rw mX10_worth 144 = some (.iload_n 1, 1, 0, 0) := by decide +kernel
theorem rX10_worth_145 : am_rw mX10_worth 145 = some (.iload_n 2, 1, 0, 0) := by decide +kernel
theorem rX10_worth_146 : am_rw mX10_worth 146 = some (.iload 5, 2, 0, 0) := by decide +kernel
theorem rX10_worth_148 : am_rw mX10_worth 148 = some (.iload 6, 2, 0, 0) := by decide +kernel
theorem rX10_worth_150 : am_rw mX10_worth 150 = some (.ifCond .eq 18, 3, 168, 0) := by decide +kernel
theorem rX10_worth_153 : am_rw mX10_worth 153 = some (.aload_n 0, 1, 0, 0) := by decide +kernel
theorem rX10_worth_154 : am_rw mX10_worth 154 = some (.getfield 126, 3, 10, 45) := by decide +kernel
theorem rX10_worth_157 : am_rw mX10_worth 157 = some (.iload 4, 2, 0, 0) := by decide +kernel
theorem rX10_worth_159 : am_rw mX10_worth 159 = some (.iconst 1, 1, 1, 0) := by decide +kernel
theorem rX10_worth_160 : am_rw mX10_worth 160 = some (.iadd, 1, 0, 0) := by decide +kernel
theorem rX10_worth_161 : am_rw mX10_worth 161 = some (.iaload, 1, 0, 0) := by decide +kernel
theorem rX10_worth_162 : am_rw mX10_worth 162 = some (.bipush 48, 2, 48, 0) := by decide +kernel
theorem rX10_worth_164 : am_rw mX10_worth 164 = some (.isub, 1, 0, 0) := by decide +kernel
theorem rX10_worth_165 : am_rw mX10_worth 165 = some (.goto 4, 3, 169, 0) := by decide +kernel
theorem rX10_worth_168 : am_rw mX10_worth 168 = some (.iconst 0, 1, 0, 0) := by decide +kernel
theorem rX10_worth_169 : am_rw mX10_worth 169 = some (.invokevirtual 235, 3, 125, 5) := by decide +kernel
theorem rX10_worth_172 : am_rw mX10_worth 172 = some (.invokevirtual 197, 3, 119, 2) := by decide +kernel
theorem rX10_worth_175 : am_rw mX10_worth 175 = some (.iload 4, 2, 0, 0) := by decide +kernel
theorem rX10_worth_177 : am_rw mX10_worth 177 = some (.iload 6, 2, 0, 0) := by decide +kernel
theorem rX10_worth_179 : am_rw mX10_worth 179 = some (.ifCond .eq 7, 3, 186, 0) := by decide +kernel
theorem rX10_worth_182 : am_rw mX10_worth 182 = some (.iconst 1, 1, 1, 0) := by decide +kernel
theorem rX10_worth_183 : am_rw mX10_worth 183 = some (.goto 4, 3, 187, 0) := by decide +kernel
theorem rX10_worth_186 : am_rw mX10_worth 186 = some (.iconst 0, 1, 0, 0) := by decide +kernel
theorem rX10_worth_187 : am_rw mX10_worth 187 = some (.iadd, 1, 0, 0) := by decide +kernel
theorem rX10_worth_188 : am_rw mX10_worth 188 = some (.istore 4, 2, 0, 0) := by decide +kernel
theorem rX10_worth_190 : am_rw mX10_worth 190 = some (.aload_n 0, 1, 0, 0) := by decide +kernel
theorem rX10_worth_191 : am_rw mX10_worth 191 = some (.invokevirtual 226, 3, 122, 1) := by decide +kernel
theorem rX10_worth_194 : am_rw mX10_worth 194 = some (.iconst 1, 1, 1, 0) := by decide +kernel
theorem rX10_worth_195 : am_rw mX10_worth 195 = some (.istore_n 3, 1, 0, 0) := by decide +kernel
theorem rX10_worth_196 : am_rw mX10_worth 196 = some (.iinc 4 1, 3, 0, 0) := by decide +kernel
theorem rX10_worth_199 : am_rw mX10_worth 199 = some (.goto (-184), 3, 15, 0) := by decide +kernel
theorem rX10_worth_202 : am_rw mX10_worth 202 = some (.aload_n 0, 1, 0, 0) := by decide +kernel
theorem rX10_worth_203 : am_rw mX10_worth 203 = some (.getfield 190, 3, 10, 50) := by decide +kernel
theorem rX10_worth_206 : am_rw mX10_worth 206 = some (.ifCond .le 10, 3, 216, 0) := by decide +kernel
theorem rX10_worth_209 : am_rw mX10_worth 209 = some (.aload_n 0, 1, 0, 0) := by decide +kernel
theorem rX10_worth_210 : am_rw mX10_worth 210 = some (.invokevirtual 201, 3, 121, 1) := by decide +kernel
theorem rX10_worth_213 : am_rw mX10_worth 213 = some (.goto (-11), 3, 202, 0) := by decide +kernel
theorem rX10_worth_216 : am_rw mX10_worth 216 = some (.aload_n 0, 1, 0, 0) := by decide +kernel
theorem rX10_worth_217 : am_rw mX10_worth 217 = some (.getfield 129, 3, 10, 47) := by decide +kernel
theorem rX10_worth_220 : am_rw mX10_worth 220 = some (.iconst 0, 1, 0, 0) := by decide +kernel
theorem rX10_worth_221 : am_rw mX10_worth 221 = some (.faload, 1, 0, 0) := by decide +kernel
theorem rX10_worth_222 : am_rw mX10_worth 222 = some (.freturn, 1, 0, 0) := by decide +kernel
theorem rX10_names_0 : am_rw mX10_names 0 = some (.iconst 0, 1, 0, 0) := by decide +kernel
theorem rX10_names_1 : am_rw mX10_names 1 = some (.istore_n 3, 1, 0, 0) := by decide +kernel
theorem rX10_names_2 : am_rw mX10_names 2 = some (.bipush 40, 2, 40, 0) := by decide +kernel
theorem rX10_names_4 : am_rw mX10_names 4 = some (.iload_n 1, 1, 0, 0) := by decide +kernel
theorem rX10_names_5 : am_rw mX10_names 5 = some (.imul, 1, 0, 0) := by decide +kernel
theorem rX10_names_6 : am_rw mX10_names 6 = some (.istore 4, 2, 0, 0) := by decide +kernel
theorem rX10_names_8 : am_rw mX10_names 8 = some (.iload 4, 2, 0, 0) := by decide +kernel
theorem rX10_names_10 : am_rw mX10_names 10 = some (.bipush 40, 2, 40, 0) := by decide +kernel
theorem rX10_names_12 : am_rw mX10_names 12 = some (.iload_n 1, 1, 0, 0) := by decide +kernel
theorem rX10_names_13 : am_rw mX10_names 13 = some (.imul, 1, 0, 0) := by decide +kernel
theorem rX10_names_14 : am_rw mX10_names 14 = some (.aload_n 0, 1, 0, 0) := by decide +kernel
theorem rX10_names_15 : am_rw mX10_names 15 = some (.getfield 19, 3, 10, 7) := by decide +kernel
theorem rX10_names_18 : am_rw mX10_names 18 = some (.iload_n 1, 1, 0, 0) := by decide +kernel
theorem rX10_names_19 : am_rw mX10_names 19 = some (.iaload, 1, 0, 0) := by decide +kernel
theorem rX10_names_20 : am_rw mX10_names 20 = some (.iadd, 1, 0, 0) := by decide +kernel
theorem rX10_names_21 : am_rw mX10_names 21 = some (.if_icmp .ge 90, 3, 111, 0) := by decide +kernel
theorem rX10_names_24 : am_rw mX10_names 24 = some (.iload_n 2, 1, 0, 0) := by decide +kernel
theorem rX10_names_25 : am_rw mX10_names 25 = some (.ifCond .eq 23, 3, 48, 0) := by decide +kernel
theorem rX10_names_28 : am_rw mX10_names 28 = some (.aload_n 0, 1, 0, 0) := by decide +kernel
theorem rX10_names_29 : am_rw mX10_names 29 = some (.getfield 22, 3, 10, 8) := by decide +kernel
theorem rX10_names_32 : am_rw mX10_names 32 = some (.iload 4, 2, 0, 0) := by decide +kernel
theorem rX10_names_34 : am_rw mX10_names 34 = some (.iaload, 1, 0, 0) := by decide +kernel
theorem rX10_names_35 : am_rw mX10_names 35 = some (.bipush 103, 2, 103, 0) := by decide +kernel
theorem rX10_names_37 : am_rw mX10_names 37 = some (.if_icmp .ne 7, 3, 44, 0) := by decide +kernel
theorem rX10_names_40 : am_rw mX10_names 40 = some (.iconst 1, 1, 1, 0) := by decide +kernel
theorem rX10_names_41 : am_rw mX10_names 41 = some (.goto 36, 3, 77, 0) := by decide +kernel
theorem rX10_names_44 : am_rw mX10_names 44 = some (.iconst 0, 1, 0, 0) := by decide +kernel
theorem rX10_names_45 : am_rw mX10_names 45 = some (.goto 32, 3, 77, 0) := by decide +kernel
theorem rX10_names_48 : am_rw mX10_names 48 = some (.aload_n 0, 1, 0, 0) := by decide +kernel
theorem rX10_names_49 : am_rw mX10_names 49 = some (.getfield 22, 3, 10, 8) := by decide +kernel
theorem rX10_names_52 : am_rw mX10_names 52 = some (.iload 4, 2, 0, 0) := by decide +kernel
theorem rX10_names_54 : am_rw mX10_names 54 = some (.iaload, 1, 0, 0) := by decide +kernel
theorem rX10_names_55 : am_rw mX10_names 55 = some (.bipush 109, 2, 109, 0) := by decide +kernel
theorem rX10_names_57 : am_rw mX10_names 57 = some (.if_icmp .eq 15, 3, 72, 0) := by decide +kernel
theorem rX10_names_60 : am_rw mX10_names 60 = some (.aload_n 0, 1, 0, 0) := by decide +kernel
theorem rX10_names_61 : am_rw mX10_names 61 = some (.getfield 22, 3, 10, 8) := by decide +kernel
theorem rX10_names_64 : am_rw mX10_names 64 = some (.iload 4, 2, 0, 0) := by decide +kernel
theorem rX10_names_66 : am_rw mX10_names 66 = some (.iaload, 1, 0, 0) := by decide +kernel
theorem rX10_names_67 : am_rw mX10_names 67 = some (.bipush 113, 2, 113, 0) := by decide +kernel
theorem rX10_names_69 : am_rw mX10_names 69 = some (.if_icmp .ne 7, 3, 76, 0) := by decide +kernel
theorem rX10_names_72 : am_rw mX10_names 72 = some (.iconst 1, 1, 1, 0) := by decide +kernel
theorem rX10_names_73 : am_rw mX10_names 73 = some (.goto 4, 3, 77, 0) := by decide +kernel
theorem rX10_names_76 : am_rw mX10_names 76 = some (.iconst 0, 1, 0, 0) := by decide +kernel
theorem rX10_names_77 : am_rw mX10_names 77 = some (.istore 5, 2, 0, 0) := by decide +kernel
theorem rX10_names_79 : am_rw mX10_names 79 = some (.iload_n 3, 1, 0, 0) := by decide +kernel
theorem rX10_names_80 : am_rw mX10_names 80 = some (.iload 5, 2, 0, 0) := by decide +kernel
theorem rX10_names_82 : am_rw mX10_names 82 = some (.ifCond .eq 20, 3, 102, 0) := by decide +kernel
theorem rX10_names_85 : am_rw mX10_names 85 = some (.iconst 1, 1, 1, 0) := by decide +kernel
theorem rX10_names_86 : am_rw mX10_names 86 = some (.aload_n 0, 1, 0, 0) := by decide +kernel
theorem rX10_names_87 : am_rw mX10_names 87 = some (.getfield 22, 3, 10, 8) := by decide +kernel
theorem rX10_names_90 : am_rw mX10_names 90 = some (.iload 4, 2, 0, 0) := by decide +kernel
theorem rX10_names_92 : am_rw mX10_names 92 = some (.iconst 1, 1, 1, 0) := by decide +kernel
theorem rX10_names_93 : am_rw mX10_names 93 = some (.iadd, 1, 0, 0) := by decide +kernel
theorem rX10_names_94 : am_rw mX10_names 94 = some (.iaload, 1, 0, 0) := by decide +kernel
theorem rX10_names_95 : am_rw mX10_names 95 = some (.bipush 48, 2, 48, 0) := by decide +kernel
theorem rX10_names_97 : am_rw mX10_names 97 = some (.isub, 1, 0, 0) := by decide +kernel
theorem rX10_names_98 : am_rw mX10_names 98 = some (.ishl, 1, 0, 0) := by decide +kernel
theorem rX10_names_99 : am_rw mX10_names 99 = some (.goto 4, 3, 103, 0) := by decide +kernel
theorem rX10_names_102 : am_rw mX10_names 102 = some (.iconst 0, 1, 0, 0) := by decide +kernel
theorem rX10_names_103 : am_rw mX10_names 103 = some (.ior, 1, 0, 0) := by decide +kernel
theorem rX10_names_104 : am_rw mX10_names 104 = some (.istore_n 3, 1, 0, 0) := by decide +kernel
theorem rX10_names_105 : am_rw mX10_names 105 = some (.iinc 4 1, 3, 0, 0) := by decide +kernel
theorem rX10_names_108 : am_rw mX10_names 108 = some (.goto (-100), 3, 8, 0) := by decide +kernel
theorem rX10_names_111 : am_rw mX10_names 111 = some (.iload_n 3, 1, 0, 0) := by decide +kernel
theorem rX10_names_112 : am_rw mX10_names 112 = some (.ireturn, 1, 0, 0) := by decide +kernel
theorem rX10_namesOfDraft_0 : am_rw mX10_namesOfDraft 0 = some (.iconst 0, 1, 0, 0) := by decide +kernel
theorem rX10_namesOfDraft_1 : am_rw mX10_namesOfDraft 1 = some (.istore_n 1, 1, 0, 0) := by decide +kernel
theorem rX10_namesOfDraft_2 : am_rw mX10_namesOfDraft 2 = some (.iconst 0, 1, 0, 0) := by decide +kernel
theorem rX10_namesOfDraft_3 : am_rw mX10_namesOfDraft 3 = some (.istore_n 2, 1, 0, 0) := by decide +kernel
theorem rX10_namesOfDraft_4 : am_rw mX10_namesOfDraft 4 = some (.iload_n 2, 1, 0, 0) := by decide +kernel
theorem rX10_namesOfDraft_5 : am_rw mX10_namesOfDraft 5 = some (.aload_n 0, 1, 0, 0) := by decide +kernel
theorem rX10_namesOfDraft_6 : am_rw mX10_namesOfDraft 6 = some (.getfield 156, 3, 10, 2) := by decide +kernel
theorem rX10_namesOfDraft_9 : am_rw mX10_namesOfDraft 9 = some (.if_icmp .ge 51, 3, 60, 0) := by decide +kernel
theorem rX10_namesOfDraft_12 : am_rw mX10_namesOfDraft 12 = some (.iload_n 1, 1, 0, 0) := by decide +kernel
theorem rX10_namesOfDraft_13 : am_rw mX10_namesOfDraft 13 = some (.aload_n 0, 1, 0, 0) := by decide +kernel
theorem rX10_namesOfDraft_14 : am_rw mX10_namesOfDraft 14 = some (.getfield 7, 3, 10, 3) := by decide +kernel
theorem rX10_namesOfDraft_17 : am_rw mX10_namesOfDraft 17 = some (.iload_n 2, 1, 0, 0) := by decide +kernel
theorem rX10_namesOfDraft_18 : am_rw mX10_namesOfDraft 18 = some (.iaload, 1, 0, 0) := by decide +kernel
theorem rX10_namesOfDraft_19 : am_rw mX10_namesOfDraft 19 = some (.bipush 109, 2, 109, 0) := by decide +kernel
theorem rX10_namesOfDraft_21 : am_rw mX10_namesOfDraft 21 = some (.if_icmp .eq 14, 3, 35, 0) := by decide +kernel
theorem rX10_namesOfDraft_24 : am_rw mX10_namesOfDraft 24 = some (.aload_n 0, 1, 0, 0) := by decide +kernel
theorem rX10_namesOfDraft_25 : am_rw mX10_namesOfDraft 25 = some (.getfield 7, 3, 10, 3) := by decide +kernel
theorem rX10_namesOfDraft_28 : am_rw mX10_namesOfDraft 28 = some (.iload_n 2, 1, 0, 0) := by decide +kernel
theorem rX10_namesOfDraft_29 : am_rw mX10_namesOfDraft 29 = some (.iaload, 1, 0, 0) := by decide +kernel
theorem rX10_namesOfDraft_30 : am_rw mX10_namesOfDraft 30 = some (.bipush 113, 2, 113, 0) := by decide +kernel
theorem rX10_namesOfDraft_32 : am_rw mX10_namesOfDraft 32 = some (.if_icmp .ne 19, 3, 51, 0) := by decide +kernel
theorem rX10_namesOfDraft_35 : am_rw mX10_namesOfDraft 35 = some (.iconst 1, 1, 1, 0) := by decide +kernel
theorem rX10_namesOfDraft_36 : am_rw mX10_namesOfDraft 36 = some (.aload_n 0, 1, 0, 0) := by decide +kernel
theorem rX10_namesOfDraft_37 : am_rw mX10_namesOfDraft 37 = some (.getfield 7, 3, 10, 3) := by decide +kernel
theorem rX10_namesOfDraft_40 : am_rw mX10_namesOfDraft 40 = some (.iload_n 2, 1, 0, 0) := by decide +kernel
theorem rX10_namesOfDraft_41 : am_rw mX10_namesOfDraft 41 = some (.iconst 1, 1, 1, 0) := by decide +kernel
theorem rX10_namesOfDraft_42 : am_rw mX10_namesOfDraft 42 = some (.iadd, 1, 0, 0) := by decide +kernel
theorem rX10_namesOfDraft_43 : am_rw mX10_namesOfDraft 43 = some (.iaload, 1, 0, 0) := by decide +kernel
theorem rX10_namesOfDraft_44 : am_rw mX10_namesOfDraft 44 = some (.bipush 48, 2, 48, 0) := by decide +kernel
theorem rX10_namesOfDraft_46 : am_rw mX10_namesOfDraft 46 = some (.isub, 1, 0, 0) := by decide +kernel
theorem rX10_namesOfDraft_47 : am_rw mX10_namesOfDraft 47 = some (.ishl, 1, 0, 0) := by decide +kernel
theorem rX10_namesOfDraft_48 : am_rw mX10_namesOfDraft 48 = some (.goto 4, 3, 52, 0) := by decide +kernel
theorem rX10_namesOfDraft_51 : am_rw mX10_namesOfDraft 51 = some (.iconst 0, 1, 0, 0) := by decide +kernel
theorem rX10_namesOfDraft_52 : am_rw mX10_namesOfDraft 52 = some (.ior, 1, 0, 0) := by decide +kernel
theorem rX10_namesOfDraft_53 : am_rw mX10_namesOfDraft 53 = some (.istore_n 1, 1, 0, 0) := by decide +kernel
theorem rX10_namesOfDraft_54 : am_rw mX10_namesOfDraft 54 = some (.iinc 2 1, 3, 0, 0) := by decide +kernel
theorem rX10_namesOfDraft_57 : am_rw mX10_namesOfDraft 57 = some (.goto (-53), 3, 4, 0) := by decide +kernel
theorem rX10_namesOfDraft_60 : am_rw mX10_namesOfDraft 60 = some (.iload_n 1, 1, 0, 0) := by decide +kernel
theorem rX10_namesOfDraft_61 : am_rw mX10_namesOfDraft 61 = some (.ireturn, 1, 0, 0) := by decide +kernel
theorem rX10_laysReach_0 : am_rw mX10_laysReach 0 = some (.iconst 0, 1, 0, 0) := by decide +kernel
theorem rX10_laysReach_1 : am_rw mX10_laysReach 1 = some (.istore_n 1, 1, 0, 0) := by decide +kernel
theorem rX10_laysReach_2 : am_rw mX10_laysReach 2 = some (.iload_n 1, 1, 0, 0) := by decide +kernel
theorem rX10_laysReach_3 : am_rw mX10_laysReach 3 = some (.bipush 6, 2, 6, 0) := by decide +kernel
theorem rX10_laysReach_5 : am_rw mX10_laysReach 5 = some (.if_icmp .ge 40, 3, 45, 0) := by decide +kernel
theorem rX10_laysReach_8 : am_rw mX10_laysReach 8 = some (.aload_n 0, 1, 0, 0) := by decide +kernel
theorem rX10_laysReach_9 : am_rw mX10_laysReach 9 = some (.getfield 31, 3, 10, 11) := by decide +kernel
theorem rX10_laysReach_12 : am_rw mX10_laysReach 12 = some (.iload_n 1, 1, 0, 0) := by decide +kernel
theorem rX10_laysReach_13 : am_rw mX10_laysReach 13 = some (.aload_n 0, 1, 0, 0) := by decide +kernel
theorem rX10_laysReach_14 : am_rw mX10_laysReach 14 = some (.getfield 28, 3, 10, 10) := by decide +kernel
theorem rX10_laysReach_17 : am_rw mX10_laysReach 17 = some (.iload_n 1, 1, 0, 0) := by decide +kernel
theorem rX10_laysReach_18 : am_rw mX10_laysReach 18 = some (.iaload, 1, 0, 0) := by decide +kernel
theorem rX10_laysReach_19 : am_rw mX10_laysReach 19 = some (.iconst (-1), 1, 1, 1) := by decide +kernel
theorem rX10_laysReach_20 : am_rw mX10_laysReach 20 = some (.if_icmp .ne 7, 3, 27, 0) := by decide +kernel
theorem rX10_laysReach_23 : am_rw mX10_laysReach 23 = some (.iconst 0, 1, 0, 0) := by decide +kernel
theorem rX10_laysReach_24 : am_rw mX10_laysReach 24 = some (.goto 14, 3, 38, 0) := by decide +kernel
theorem rX10_laysReach_27 : am_rw mX10_laysReach 27 = some (.aload_n 0, 1, 0, 0) := by decide +kernel
theorem rX10_laysReach_28 : am_rw mX10_laysReach 28 = some (.aload_n 0, 1, 0, 0) := by decide +kernel
theorem rX10_laysReach_29 : am_rw mX10_laysReach 29 = some (.getfield 28, 3, 10, 10) := by decide +kernel
theorem rX10_laysReach_32 : am_rw mX10_laysReach 32 = some (.iload_n 1, 1, 0, 0) := by decide +kernel
theorem rX10_laysReach_33 : am_rw mX10_laysReach 33 = some (.iaload, 1, 0, 0) := by decide +kernel
theorem rX10_laysReach_34 : am_rw mX10_laysReach 34 = some (.iconst 0, 1, 0, 0) := by decide +kernel
theorem rX10_laysReach_35 : am_rw mX10_laysReach 35 = some (.invokevirtual 239, 3, 129, 3) := by decide +kernel
theorem rX10_laysReach_38 : am_rw mX10_laysReach 38 = some (.iastore, 1, 0, 0) := by decide +kernel
theorem rX10_laysReach_39 : am_rw mX10_laysReach 39 = some (.iinc 1 1, 3, 0, 0) := by decide +kernel
theorem rX10_laysReach_42 : am_rw mX10_laysReach 42 = some (.goto (-40), 3, 2, 0) := by decide +kernel
theorem rX10_laysReach_45 : am_rw mX10_laysReach 45 = some (.iconst 0, 1, 0, 0) := by decide +kernel
theorem rX10_laysReach_46 : am_rw mX10_laysReach 46 = some (.istore_n 1, 1, 0, 0) := by decide +kernel
theorem rX10_laysReach_47 : am_rw mX10_laysReach 47 = some (.iload_n 1, 1, 0, 0) := by decide +kernel
theorem rX10_laysReach_48 : am_rw mX10_laysReach 48 = some (.bipush 6, 2, 6, 0) := by decide +kernel
theorem rX10_laysReach_50 : am_rw mX10_laysReach 50 = some (.if_icmp .ge 70, 3, 120, 0) := by decide +kernel
theorem rX10_laysReach_53 : am_rw mX10_laysReach 53 = some (.iconst 0, 1, 0, 0) := by decide +kernel
theorem rX10_laysReach_54 : am_rw mX10_laysReach 54 = some (.istore_n 2, 1, 0, 0) := by decide +kernel
theorem rX10_laysReach_55 : am_rw mX10_laysReach 55 = some (.iload_n 2, 1, 0, 0) := by decide +kernel
theorem rX10_laysReach_56 : am_rw mX10_laysReach 56 = some (.bipush 6, 2, 6, 0) := by decide +kernel
theorem rX10_laysReach_58 : am_rw mX10_laysReach 58 = some (.if_icmp .ge 56, 3, 114, 0) := by decide +kernel
theorem rX10_laysReach_61 : am_rw mX10_laysReach 61 = some (.iconst 0, 1, 0, 0) := by decide +kernel
theorem rX10_laysReach_62 : am_rw mX10_laysReach 62 = some (.istore_n 3, 1, 0, 0) := by decide +kernel
theorem rX10_laysReach_63 : am_rw mX10_laysReach 63 = some (.iload_n 3, 1, 0, 0) := by decide +kernel
theorem rX10_laysReach_64 : am_rw mX10_laysReach 64 = some (.bipush 6, 2, 6, 0) := by decide +kernel
theorem rX10_laysReach_66 : am_rw mX10_laysReach 66 = some (.if_icmp .ge 42, 3, 108, 0) := by decide +kernel
theorem rX10_laysReach_69 : am_rw mX10_laysReach 69 = some (.aload_n 0, 1, 0, 0) := by decide +kernel
theorem rX10_laysReach_70 : am_rw mX10_laysReach 70 = some (.getfield 31, 3, 10, 11) := by decide +kernel
theorem rX10_laysReach_73 : am_rw mX10_laysReach 73 = some (.iload_n 2, 1, 0, 0) := by decide +kernel
theorem rX10_laysReach_74 : am_rw mX10_laysReach 74 = some (.dup2, 1, 0, 0) := by decide +kernel
theorem rX10_laysReach_75 : am_rw mX10_laysReach 75 = some (.iaload, 1, 0, 0) := by decide +kernel
theorem rX10_laysReach_76 : am_rw mX10_laysReach 76 = some (.aload_n 0, 1, 0, 0) := by decide +kernel
theorem rX10_laysReach_77 : am_rw mX10_laysReach 77 = some (.getfield 31, 3, 10, 11) := by decide +kernel
theorem rX10_laysReach_80 : am_rw mX10_laysReach 80 = some (.iload_n 2, 1, 0, 0) := by decide +kernel
theorem rX10_laysReach_81 : am_rw mX10_laysReach 81 = some (.iaload, 1, 0, 0) := by decide +kernel
theorem rX10_laysReach_82 : am_rw mX10_laysReach 82 = some (.iload_n 3, 1, 0, 0) := by decide +kernel
theorem rX10_laysReach_83 : am_rw mX10_laysReach 83 = some (.ishr, 1, 0, 0) := by decide +kernel
theorem rX10_laysReach_84 : am_rw mX10_laysReach 84 = some (.iconst 1, 1, 1, 0) := by decide +kernel
theorem rX10_laysReach_85 : am_rw mX10_laysReach 85 = some (.iand, 1, 0, 0) := by decide +kernel
theorem rX10_laysReach_86 : am_rw mX10_laysReach 86 = some (.iconst 1, 1, 1, 0) := by decide +kernel
theorem rX10_laysReach_87 : am_rw mX10_laysReach 87 = some (.if_icmp .ne 12, 3, 99, 0) := by decide +kernel
theorem rX10_laysReach_90 : am_rw mX10_laysReach 90 = some (.aload_n 0, 1, 0, 0) := by decide +kernel
theorem rX10_laysReach_91 : am_rw mX10_laysReach 91 = some (.getfield 31, 3, 10, 11) := by decide +kernel
theorem rX10_laysReach_94 : am_rw mX10_laysReach 94 = some (.iload_n 3, 1, 0, 0) := by decide +kernel
theorem rX10_laysReach_95 : am_rw mX10_laysReach 95 = some (.iaload, 1, 0, 0) := by decide +kernel
theorem rX10_laysReach_96 : am_rw mX10_laysReach 96 = some (.goto 4, 3, 100, 0) := by decide +kernel
theorem rX10_laysReach_99 : am_rw mX10_laysReach 99 = some (.iconst 0, 1, 0, 0) := by decide +kernel
theorem rX10_laysReach_100 : am_rw mX10_laysReach 100 = some (.ior, 1, 0, 0) := by decide +kernel
theorem rX10_laysReach_101 : am_rw mX10_laysReach 101 = some (.iastore, 1, 0, 0) := by decide +kernel
theorem rX10_laysReach_102 : am_rw mX10_laysReach 102 = some (.iinc 3 1, 3, 0, 0) := by decide +kernel
theorem rX10_laysReach_105 : am_rw mX10_laysReach 105 = some (.goto (-42), 3, 63, 0) := by decide +kernel
theorem rX10_laysReach_108 : am_rw mX10_laysReach 108 = some (.iinc 2 1, 3, 0, 0) := by decide +kernel
theorem rX10_laysReach_111 : am_rw mX10_laysReach 111 = some (.goto (-56), 3, 55, 0) := by decide +kernel
theorem rX10_laysReach_114 : am_rw mX10_laysReach 114 = some (.iinc 1 1, 3, 0, 0) := by decide +kernel
theorem rX10_laysReach_117 : am_rw mX10_laysReach 117 = some (.goto (-70), 3, 47, 0) := by decide +kernel
theorem rX10_laysReach_120 : am_rw mX10_laysReach 120 = some (.return_, 1, 0, 0) := by decide +kernel
theorem rX10_restsOn_0 : am_rw mX10_restsOn 0 = some (.aload_n 0, 1, 0, 0) := by decide +kernel
theorem rX10_restsOn_1 : am_rw mX10_restsOn 1 = some (.getfield 31, 3, 10, 11) := by decide +kernel
theorem rX10_restsOn_4 : am_rw mX10_restsOn 4 = some (.iload_n 1, 1, 0, 0) := by decide +kernel
theorem rX10_restsOn_5 : am_rw mX10_restsOn 5 = some (.iaload, 1, 0, 0) := by decide +kernel
theorem rX10_restsOn_6 : am_rw mX10_restsOn 6 = some (.iload_n 2, 1, 0, 0) := by decide +kernel
theorem rX10_restsOn_7 : am_rw mX10_restsOn 7 = some (.ishr, 1, 0, 0) := by decide +kernel
theorem rX10_restsOn_8 : am_rw mX10_restsOn 8 = some (.iconst 1, 1, 1, 0) := by decide +kernel
theorem rX10_restsOn_9 : am_rw mX10_restsOn 9 = some (.iand, 1, 0, 0) := by decide +kernel
theorem rX10_restsOn_10 : am_rw mX10_restsOn 10 = some (.iconst 1, 1, 1, 0) := by decide +kernel
theorem rX10_restsOn_11 : am_rw mX10_restsOn 11 = some (.if_icmp .ne 7, 3, 18, 0) := by decide +kernel
theorem rX10_restsOn_14 : am_rw mX10_restsOn 14 = some (.iconst 1, 1, 1, 0) := by decide +kernel
theorem rX10_restsOn_15 : am_rw mX10_restsOn 15 = some (.goto 4, 3, 19, 0) := by decide +kernel
theorem rX10_restsOn_18 : am_rw mX10_restsOn 18 = some (.iconst 0, 1, 0, 0) := by decide +kernel
theorem rX10_restsOn_19 : am_rw mX10_restsOn 19 = some (.ireturn, 1, 0, 0) := by decide +kernel
theorem rX10_resting_0 : am_rw mX10_resting 0 = some (.aload_n 0, 1, 0, 0) := by decide +kernel
theorem rX10_resting_1 : am_rw mX10_resting 1 = some (.invokevirtual 242, 3, 131, 1) := by decide +kernel
theorem rX10_resting_4 : am_rw mX10_resting 4 = some (.iconst 0, 1, 0, 0) := by decide +kernel
theorem rX10_resting_5 : am_rw mX10_resting 5 = some (.istore_n 2, 1, 0, 0) := by decide +kernel
theorem rX10_resting_6 : am_rw mX10_resting 6 = some (.iconst 0, 1, 0, 0) := by decide +kernel
theorem rX10_resting_7 : am_rw mX10_resting 7 = some (.istore_n 3, 1, 0, 0) := by decide +kernel
theorem rX10_resting_8 : am_rw mX10_resting 8 = some (.iload_n 3, 1, 0, 0) := by decide +kernel
theorem rX10_resting_9 : am_rw mX10_resting 9 = some (.bipush 6, 2, 6, 0) := by decide +kernel
theorem rX10_resting_11 : am_rw mX10_resting 11 = some (.if_icmp .ge 26, 3, 37, 0) := by decide +kernel
theorem rX10_resting_14 : am_rw mX10_resting 14 = some (.iload_n 2, 1, 0, 0) := by decide +kernel
theorem rX10_resting_15 : am_rw mX10_resting 15 = some (.aload_n 0, 1, 0, 0) := by decide +kernel
theorem rX10_resting_16 : am_rw mX10_resting 16 = some (.iload_n 3, 1, 0, 0) := by decide +kernel
theorem rX10_resting_17 : am_rw mX10_resting 17 = some (.iload_n 1, 1, 0, 0) := by decide +kernel
theorem rX10_resting_18 : am_rw mX10_resting 18 = some (.invokevirtual 245, 3, 132, 3) := by decide +kernel
theorem rX10_resting_21 : am_rw mX10_resting 21 = some (.ifCond .eq 7, 3, 28, 0) := by decide +kernel
theorem rX10_resting_24 : am_rw mX10_resting 24 = some (.iconst 1, 1, 1, 0) := by decide +kernel
theorem rX10_resting_25 : am_rw mX10_resting 25 = some (.goto 4, 3, 29, 0) := by decide +kernel
theorem rX10_resting_28 : am_rw mX10_resting 28 = some (.iconst 0, 1, 0, 0) := by decide +kernel
theorem rX10_resting_29 : am_rw mX10_resting 29 = some (.iadd, 1, 0, 0) := by decide +kernel
theorem rX10_resting_30 : am_rw mX10_resting 30 = some (.istore_n 2, 1, 0, 0) := by decide +kernel
theorem rX10_resting_31 : am_rw mX10_resting 31 = some (.iinc 3 1, 3, 0, 0) := by decide +kernel
theorem rX10_resting_34 : am_rw mX10_resting 34 = some (.goto (-26), 3, 8, 0) := by decide +kernel
theorem rX10_resting_37 : am_rw mX10_resting 37 = some (.iload_n 2, 1, 0, 0) := by decide +kernel
theorem rX10_resting_38 : am_rw mX10_resting 38 = some (.ireturn, 1, 0, 0) := by decide +kernel
theorem rX10_canName_0 : am_rw mX10_canName 0 = some (.aload_n 0, 1, 0, 0) := by decide +kernel
theorem rX10_canName_1 : am_rw mX10_canName 1 = some (.invokevirtual 249, 3, 130, 1) := by decide +kernel
theorem rX10_canName_4 : am_rw mX10_canName 4 = some (.istore_n 2, 1, 0, 0) := by decide +kernel
theorem rX10_canName_5 : am_rw mX10_canName 5 = some (.aload_n 0, 1, 0, 0) := by decide +kernel
theorem rX10_canName_6 : am_rw mX10_canName 6 = some (.invokevirtual 242, 3, 131, 1) := by decide +kernel
theorem rX10_canName_9 : am_rw mX10_canName 9 = some (.iload_n 2, 1, 0, 0) := by decide +kernel
theorem rX10_canName_10 : am_rw mX10_canName 10 = some (.iload_n 1, 1, 0, 0) := by decide +kernel
theorem rX10_canName_11 : am_rw mX10_canName 11 = some (.ishr, 1, 0, 0) := by decide +kernel
theorem rX10_canName_12 : am_rw mX10_canName 12 = some (.iconst 1, 1, 1, 0) := by decide +kernel
theorem rX10_canName_13 : am_rw mX10_canName 13 = some (.iand, 1, 0, 0) := by decide +kernel
theorem rX10_canName_14 : am_rw mX10_canName 14 = some (.ifCond .ne 7, 3, 21, 0) := by decide +kernel
theorem rX10_canName_17 : am_rw mX10_canName 17 = some (.iconst 1, 1, 1, 0) := by decide +kernel
theorem rX10_canName_18 : am_rw mX10_canName 18 = some (.goto 4, 3, 22, 0) := by decide +kernel
theorem rX10_canName_21 : am_rw mX10_canName 21 = some (.iconst 0, 1, 0, 0) := by decide +kernel
theorem rX10_canName_22 : am_rw mX10_canName 22 = some (.istore_n 3, 1, 0, 0) := by decide +kernel
theorem rX10_canName_23 : am_rw mX10_canName 23 = some (.iconst 0, 1, 0, 0) := by decide +kernel
theorem rX10_canName_24 : am_rw mX10_canName 24 = some (.istore 4, 2, 0, 0) := by decide +kernel
theorem rX10_canName_26 : am_rw mX10_canName 26 = some (.iload 4, 2, 0, 0) := by decide +kernel
theorem rX10_canName_28 : am_rw mX10_canName 28 = some (.bipush 6, 2, 6, 0) := by decide +kernel
theorem rX10_canName_30 : am_rw mX10_canName 30 = some (.if_icmp .ge 49, 3, 79, 0) := by decide +kernel
theorem rX10_canName_33 : am_rw mX10_canName 33 = some (.iload_n 3, 1, 0, 0) := by decide +kernel
theorem rX10_canName_34 : am_rw mX10_canName 34 = some (.ifCond .eq 37, 3, 71, 0) := by decide +kernel
theorem rX10_canName_37 : am_rw mX10_canName 37 = some (.iload_n 2, 1, 0, 0) := by decide +kernel
theorem rX10_canName_38 : am_rw mX10_canName 38 = some (.iload 4, 2, 0, 0) := by decide +kernel
theorem rX10_canName_40 : am_rw mX10_canName 40 = some (.ishr, 1, 0, 0) := by decide +kernel
theorem rX10_canName_41 : am_rw mX10_canName 41 = some (.iconst 1, 1, 1, 0) := by decide +kernel
theorem rX10_canName_42 : am_rw mX10_canName 42 = some (.iand, 1, 0, 0) := by decide +kernel
theorem rX10_canName_43 : am_rw mX10_canName 43 = some (.ifCond .eq 24, 3, 67, 0) := by decide +kernel
theorem rX10_canName_46 : am_rw mX10_canName 46 = some (.aload_n 0, 1, 0, 0) := by decide +kernel
theorem rX10_canName_47 : am_rw mX10_canName 47 = some (.getfield 28, 3, 10, 10) := by decide +kernel
theorem rX10_canName_50 : am_rw mX10_canName 50 = some (.iload 4, 2, 0, 0) := by decide +kernel
theorem rX10_canName_52 : am_rw mX10_canName 52 = some (.iaload, 1, 0, 0) := by decide +kernel
theorem rX10_canName_53 : am_rw mX10_canName 53 = some (.iconst (-1), 1, 1, 1) := by decide +kernel
theorem rX10_canName_54 : am_rw mX10_canName 54 = some (.if_icmp .eq 17, 3, 71, 0) := by decide +kernel
theorem rX10_canName_57 : am_rw mX10_canName 57 = some (.aload_n 0, 1, 0, 0) := by decide +kernel
theorem rX10_canName_58 : am_rw mX10_canName 58 = some (.iload 4, 2, 0, 0) := by decide +kernel
theorem rX10_canName_60 : am_rw mX10_canName 60 = some (.iload_n 1, 1, 0, 0) := by decide +kernel
theorem rX10_canName_61 : am_rw mX10_canName 61 = some (.invokevirtual 245, 3, 132, 3) := by decide +kernel
theorem rX10_canName_64 : am_rw mX10_canName 64 = some (.ifCond .ne 7, 3, 71, 0) := by decide +kernel
theorem rX10_canName_67 : am_rw mX10_canName 67 = some (.iconst 1, 1, 1, 0) := by decide +kernel
theorem rX10_canName_68 : am_rw mX10_canName 68 = some (.goto 4, 3, 72, 0) := by decide +kernel
theorem rX10_canName_71 : am_rw mX10_canName 71 = some (.iconst 0, 1, 0, 0) := by decide +kernel
theorem rX10_canName_72 : am_rw mX10_canName 72 = some (.istore_n 3, 1, 0, 0) := by decide +kernel
theorem rX10_canName_73 : am_rw mX10_canName 73 = some (.iinc 4 1, 3, 0, 0) := by decide +kernel
theorem rX10_canName_76 : am_rw mX10_canName 76 = some (.goto (-50), 3, 26, 0) := by decide +kernel
theorem rX10_canName_79 : am_rw mX10_canName 79 = some (.iload_n 3, 1, 0, 0) := by decide +kernel
theorem rX10_canName_80 : am_rw mX10_canName 80 = some (.ireturn, 1, 0, 0) := by decide +kernel
theorem rX10_enters_0 : am_rw mX10_enters 0 = some (.aload_n 0, 1, 0, 0) := by decide +kernel
theorem rX10_enters_1 : am_rw mX10_enters 1 = some (.aload_n 0, 1, 0, 0) := by decide +kernel
theorem rX10_enters_2 : am_rw mX10_enters 2 = some (.getfield 143, 3, 10, 5) := by decide +kernel
theorem rX10_enters_5 : am_rw mX10_enters 5 = some (.iconst 0, 1, 0, 0) := by decide +kernel
theorem rX10_enters_6 : am_rw mX10_enters 6 = some (.invokevirtual 239, 3, 129, 3) := by decide +kernel
theorem rX10_enters_9 : am_rw mX10_enters 9 = some (.istore_n 2, 1, 0, 0) := by decide +kernel
theorem rX10_enters_10 : am_rw mX10_enters 10 = some (.aload_n 0, 1, 0, 0) := by decide +kernel
theorem rX10_enters_11 : am_rw mX10_enters 11 = some (.getfield 16, 3, 10, 6) := by decide +kernel
theorem rX10_enters_14 : am_rw mX10_enters 14 = some (.aload_n 0, 1, 0, 0) := by decide +kernel
theorem rX10_enters_15 : am_rw mX10_enters 15 = some (.getfield 143, 3, 10, 5) := by decide +kernel
theorem rX10_enters_18 : am_rw mX10_enters 18 = some (.iload_n 1, 1, 0, 0) := by decide +kernel
theorem rX10_enters_19 : am_rw mX10_enters 19 = some (.iastore, 1, 0, 0) := by decide +kernel
theorem rX10_enters_20 : am_rw mX10_enters 20 = some (.aload_n 0, 1, 0, 0) := by decide +kernel
theorem rX10_enters_21 : am_rw mX10_enters 21 = some (.getfield 44, 3, 10, 16) := by decide +kernel
theorem rX10_enters_24 : am_rw mX10_enters 24 = some (.aload_n 0, 1, 0, 0) := by decide +kernel
theorem rX10_enters_25 : am_rw mX10_enters 25 = some (.getfield 143, 3, 10, 5) := by decide +kernel
theorem rX10_enters_28 : am_rw mX10_enters 28 = some (.iconst 0, 1, 0, 0) := by decide +kernel
theorem rX10_enters_29 : am_rw mX10_enters 29 = some (.iastore, 1, 0, 0) := by decide +kernel
theorem rX10_enters_30 : am_rw mX10_enters 30 = some (.iconst 0, 1, 0, 0) := by decide +kernel
theorem rX10_enters_31 : am_rw mX10_enters 31 = some (.istore_n 3, 1, 0, 0) := by decide +kernel
theorem rX10_enters_32 : am_rw mX10_enters 32 = some (.iload_n 3, 1, 0, 0) := by decide +kernel
theorem rX10_enters_33 : am_rw mX10_enters 33 = some (.bipush 6, 2, 6, 0) := by decide +kernel
theorem rX10_enters_35 : am_rw mX10_enters 35 = some (.if_icmp .ge 42, 3, 77, 0) := by decide +kernel
theorem rX10_enters_38 : am_rw mX10_enters 38 = some (.aload_n 0, 1, 0, 0) := by decide +kernel
theorem rX10_enters_39 : am_rw mX10_enters 39 = some (.getfield 25, 3, 10, 9) := by decide +kernel
theorem rX10_enters_42 : am_rw mX10_enters 42 = some (.bipush 6, 2, 6, 0) := by decide +kernel
theorem rX10_enters_44 : am_rw mX10_enters 44 = some (.aload_n 0, 1, 0, 0) := by decide +kernel
theorem rX10_enters_45 : am_rw mX10_enters 45 = some (.getfield 143, 3, 10, 5) := by decide +kernel
theorem rX10_enters_48 : am_rw mX10_enters 48 = some (.imul, 1, 0, 0) := by decide +kernel
theorem rX10_enters_49 : am_rw mX10_enters 49 = some (.iload_n 3, 1, 0, 0) := by decide +kernel
theorem rX10_enters_50 : am_rw mX10_enters 50 = some (.iadd, 1, 0, 0) := by decide +kernel
theorem rX10_enters_51 : am_rw mX10_enters 51 = some (.iload_n 2, 1, 0, 0) := by decide +kernel
theorem rX10_enters_52 : am_rw mX10_enters 52 = some (.iload_n 3, 1, 0, 0) := by decide +kernel
theorem rX10_enters_53 : am_rw mX10_enters 53 = some (.ishr, 1, 0, 0) := by decide +kernel
theorem rX10_enters_54 : am_rw mX10_enters 54 = some (.iconst 1, 1, 1, 0) := by decide +kernel
theorem rX10_enters_55 : am_rw mX10_enters 55 = some (.iand, 1, 0, 0) := by decide +kernel
theorem rX10_enters_56 : am_rw mX10_enters 56 = some (.iconst 1, 1, 1, 0) := by decide +kernel
theorem rX10_enters_57 : am_rw mX10_enters 57 = some (.if_icmp .ne 12, 3, 69, 0) := by decide +kernel
theorem rX10_enters_60 : am_rw mX10_enters 60 = some (.aload_n 0, 1, 0, 0) := by decide +kernel
theorem rX10_enters_61 : am_rw mX10_enters 61 = some (.getfield 28, 3, 10, 10) := by decide +kernel
theorem rX10_enters_64 : am_rw mX10_enters 64 = some (.iload_n 3, 1, 0, 0) := by decide +kernel
theorem rX10_enters_65 : am_rw mX10_enters 65 = some (.iaload, 1, 0, 0) := by decide +kernel
theorem rX10_enters_66 : am_rw mX10_enters 66 = some (.goto 4, 3, 70, 0) := by decide +kernel
theorem rX10_enters_69 : am_rw mX10_enters 69 = some (.iconst (-1), 1, 1, 1) := by decide +kernel
theorem rX10_enters_70 : am_rw mX10_enters 70 = some (.iastore, 1, 0, 0) := by decide +kernel
theorem rX10_enters_71 : am_rw mX10_enters 71 = some (.iinc 3 1, 3, 0, 0) := by decide +kernel
theorem rX10_enters_74 : am_rw mX10_enters 74 = some (.goto (-42), 3, 32, 0) := by decide +kernel
theorem rX10_enters_77 : am_rw mX10_enters 77 = some (.aload_n 0, 1, 0, 0) := by decide +kernel
theorem rX10_enters_78 : am_rw mX10_enters 78 = some (.getfield 28, 3, 10, 10) := by decide +kernel
theorem rX10_enters_81 : am_rw mX10_enters 81 = some (.iload_n 1, 1, 0, 0) := by decide +kernel
theorem rX10_enters_82 : am_rw mX10_enters 82 = some (.aload_n 0, 1, 0, 0) := by decide +kernel
theorem rX10_enters_83 : am_rw mX10_enters 83 = some (.getfield 143, 3, 10, 5) := by decide +kernel
theorem rX10_enters_86 : am_rw mX10_enters 86 = some (.iastore, 1, 0, 0) := by decide +kernel
theorem rX10_enters_87 : am_rw mX10_enters 87 = some (.aload_n 0, 1, 0, 0) := by decide +kernel
theorem rX10_enters_88 : am_rw mX10_enters 88 = some (.dup, 1, 0, 0) := by decide +kernel
theorem rX10_enters_89 : am_rw mX10_enters 89 = some (.getfield 143, 3, 10, 5) := by decide +kernel
theorem rX10_enters_92 : am_rw mX10_enters 92 = some (.iconst 1, 1, 1, 0) := by decide +kernel
theorem rX10_enters_93 : am_rw mX10_enters 93 = some (.iadd, 1, 0, 0) := by decide +kernel
theorem rX10_enters_94 : am_rw mX10_enters 94 = some (.putfield 143, 3, 10, 5) := by decide +kernel
theorem rX10_enters_97 : am_rw mX10_enters 97 = some (.return_, 1, 0, 0) := by decide +kernel
theorem rX10_isStale_0 : am_rw mX10_isStale 0 = some (.iconst 0, 1, 0, 0) := by decide +kernel
theorem rX10_isStale_1 : am_rw mX10_isStale 1 = some (.istore_n 2, 1, 0, 0) := by decide +kernel
theorem rX10_isStale_2 : am_rw mX10_isStale 2 = some (.iconst 0, 1, 0, 0) := by decide +kernel
theorem rX10_isStale_3 : am_rw mX10_isStale 3 = some (.istore_n 3, 1, 0, 0) := by decide +kernel
theorem rX10_isStale_4 : am_rw mX10_isStale 4 = some (.iload_n 3, 1, 0, 0) := by decide +kernel
theorem rX10_isStale_5 : am_rw mX10_isStale 5 = some (.bipush 6, 2, 6, 0) := by decide +kernel
theorem rX10_isStale_7 : am_rw mX10_isStale 7 = some (.if_icmp .ge 64, 3, 71, 0) := by decide +kernel
theorem rX10_isStale_10 : am_rw mX10_isStale 10 = some (.aload_n 0, 1, 0, 0) := by decide +kernel
theorem rX10_isStale_11 : am_rw mX10_isStale 11 = some (.getfield 28, 3, 10, 10) := by decide +kernel
theorem rX10_isStale_14 : am_rw mX10_isStale 14 = some (.iload_n 1, 1, 0, 0) := by decide +kernel
theorem rX10_isStale_15 : am_rw mX10_isStale 15 = some (.iaload, 1, 0, 0) := by decide +kernel
theorem rX10_isStale_16 : am_rw mX10_isStale 16 = some (.iconst (-1), 1, 1, 1) := by decide +kernel
theorem rX10_isStale_17 : am_rw mX10_isStale 17 = some (.if_icmp .eq 54, 3, 71, 0) := by decide +kernel
theorem rX10_isStale_20 : am_rw mX10_isStale 20 = some (.aload_n 0, 1, 0, 0) := by decide +kernel
theorem rX10_isStale_21 : am_rw mX10_isStale 21 = some (.getfield 25, 3, 10, 9) := by decide +kernel
theorem rX10_isStale_24 : am_rw mX10_isStale 24 = some (.bipush 6, 2, 6, 0) := by decide +kernel
theorem rX10_isStale_26 : am_rw mX10_isStale 26 = some (.aload_n 0, 1, 0, 0) := by decide +kernel
theorem rX10_isStale_27 : am_rw mX10_isStale 27 = some (.getfield 28, 3, 10, 10) := by decide +kernel
theorem rX10_isStale_30 : am_rw mX10_isStale 30 = some (.iload_n 1, 1, 0, 0) := by decide +kernel
theorem rX10_isStale_31 : am_rw mX10_isStale 31 = some (.iaload, 1, 0, 0) := by decide +kernel
theorem rX10_isStale_32 : am_rw mX10_isStale 32 = some (.imul, 1, 0, 0) := by decide +kernel
theorem rX10_isStale_33 : am_rw mX10_isStale 33 = some (.iload_n 3, 1, 0, 0) := by decide +kernel
theorem rX10_isStale_34 : am_rw mX10_isStale 34 = some (.iadd, 1, 0, 0) := by decide +kernel
theorem rX10_isStale_35 : am_rw mX10_isStale 35 = some (.iaload, 1, 0, 0) := by decide +kernel
theorem rX10_isStale_36 : am_rw mX10_isStale 36 = some (.istore 4, 2, 0, 0) := by decide +kernel
theorem rX10_isStale_38 : am_rw mX10_isStale 38 = some (.iload_n 2, 1, 0, 0) := by decide +kernel
theorem rX10_isStale_39 : am_rw mX10_isStale 39 = some (.ifCond .ne 20, 3, 59, 0) := by decide +kernel
theorem rX10_isStale_42 : am_rw mX10_isStale 42 = some (.iload 4, 2, 0, 0) := by decide +kernel
theorem rX10_isStale_44 : am_rw mX10_isStale 44 = some (.iconst (-1), 1, 1, 1) := by decide +kernel
theorem rX10_isStale_45 : am_rw mX10_isStale 45 = some (.if_icmp .eq 18, 3, 63, 0) := by decide +kernel
theorem rX10_isStale_48 : am_rw mX10_isStale 48 = some (.iload 4, 2, 0, 0) := by decide +kernel
theorem rX10_isStale_50 : am_rw mX10_isStale 50 = some (.aload_n 0, 1, 0, 0) := by decide +kernel
theorem rX10_isStale_51 : am_rw mX10_isStale 51 = some (.getfield 28, 3, 10, 10) := by decide +kernel
theorem rX10_isStale_54 : am_rw mX10_isStale 54 = some (.iload_n 3, 1, 0, 0) := by decide +kernel
theorem rX10_isStale_55 : am_rw mX10_isStale 55 = some (.iaload, 1, 0, 0) := by decide +kernel
theorem rX10_isStale_56 : am_rw mX10_isStale 56 = some (.if_icmp .eq 7, 3, 63, 0) := by decide +kernel
theorem rX10_isStale_59 : am_rw mX10_isStale 59 = some (.iconst 1, 1, 1, 0) := by decide +kernel
theorem rX10_isStale_60 : am_rw mX10_isStale 60 = some (.goto 4, 3, 64, 0) := by decide +kernel
theorem rX10_isStale_63 : am_rw mX10_isStale 63 = some (.iconst 0, 1, 0, 0) := by decide +kernel
theorem rX10_isStale_64 : am_rw mX10_isStale 64 = some (.istore_n 2, 1, 0, 0) := by decide +kernel
theorem rX10_isStale_65 : am_rw mX10_isStale 65 = some (.iinc 3 1, 3, 0, 0) := by decide +kernel
theorem rX10_isStale_68 : am_rw mX10_isStale 68 = some (.goto (-64), 3, 4, 0) := by decide +kernel
theorem rX10_isStale_71 : am_rw mX10_isStale 71 = some (.iload_n 2, 1, 0, 0) := by decide +kernel
theorem rX10_isStale_72 : am_rw mX10_isStale 72 = some (.ireturn, 1, 0, 0) := by decide +kernel
theorem rX10_nextStale_0 : am_rw mX10_nextStale 0 = some (.aload_n 0, 1, 0, 0) := by decide +kernel
theorem rX10_nextStale_1 : am_rw mX10_nextStale 1 = some (.invokevirtual 242, 3, 131, 1) := by decide +kernel
theorem rX10_nextStale_4 : am_rw mX10_nextStale 4 = some (.iconst (-1), 1, 1, 1) := by decide +kernel
theorem rX10_nextStale_5 : am_rw mX10_nextStale 5 = some (.istore_n 1, 1, 0, 0) := by decide +kernel
theorem rX10_nextStale_6 : am_rw mX10_nextStale 6 = some (.iconst 5, 1, 5, 0) := by decide +kernel
theorem rX10_nextStale_7 : am_rw mX10_nextStale 7 = some (.istore_n 2, 1, 0, 0) := by decide +kernel
theorem rX10_nextStale_8 : am_rw mX10_nextStale 8 = some (.iload_n 2, 1, 0, 0) := by decide +kernel
theorem rX10_nextStale_9 : am_rw mX10_nextStale 9 = some (.ifCond .lt 76, 3, 85, 0) := by decide +kernel
theorem rX10_nextStale_12 : am_rw mX10_nextStale 12 = some (.aload_n 0, 1, 0, 0) := by decide +kernel
theorem rX10_nextStale_13 : am_rw mX10_nextStale 13 = some (.iload_n 2, 1, 0, 0) := by decide +kernel
theorem rX10_nextStale_14 : am_rw mX10_nextStale 14 = some (.invokevirtual 253, 3, 136, 2) := by decide +kernel
theorem rX10_nextStale_17 : am_rw mX10_nextStale 17 = some (.istore_n 3, 1, 0, 0) := by decide +kernel
theorem rX10_nextStale_18 : am_rw mX10_nextStale 18 = some (.iconst 0, 1, 0, 0) := by decide +kernel
theorem rX10_nextStale_19 : am_rw mX10_nextStale 19 = some (.istore 4, 2, 0, 0) := by decide +kernel
theorem rX10_nextStale_21 : am_rw mX10_nextStale 21 = some (.iload 4, 2, 0, 0) := by decide +kernel
theorem rX10_nextStale_23 : am_rw mX10_nextStale 23 = some (.bipush 6, 2, 6, 0) := by decide +kernel
theorem rX10_nextStale_25 : am_rw mX10_nextStale 25 = some (.if_icmp .ge 44, 3, 69, 0) := by decide +kernel
theorem rX10_nextStale_28 : am_rw mX10_nextStale 28 = some (.iload_n 3, 1, 0, 0) := by decide +kernel
theorem rX10_nextStale_29 : am_rw mX10_nextStale 29 = some (.ifCond .eq 32, 3, 61, 0) := by decide +kernel
theorem rX10_nextStale_32 : am_rw mX10_nextStale 32 = some (.iload 4, 2, 0, 0) := by decide +kernel
theorem rX10_nextStale_34 : am_rw mX10_nextStale 34 = some (.iload_n 2, 1, 0, 0) := by decide +kernel
theorem rX10_nextStale_35 : am_rw mX10_nextStale 35 = some (.if_icmp .eq 22, 3, 57, 0) := by decide +kernel
theorem rX10_nextStale_38 : am_rw mX10_nextStale 38 = some (.aload_n 0, 1, 0, 0) := by decide +kernel
theorem rX10_nextStale_39 : am_rw mX10_nextStale 39 = some (.iload 4, 2, 0, 0) := by decide +kernel
theorem rX10_nextStale_41 : am_rw mX10_nextStale 41 = some (.invokevirtual 253, 3, 136, 2) := by decide +kernel
theorem rX10_nextStale_44 : am_rw mX10_nextStale 44 = some (.ifCond .eq 13, 3, 57, 0) := by decide +kernel
theorem rX10_nextStale_47 : am_rw mX10_nextStale 47 = some (.aload_n 0, 1, 0, 0) := by decide +kernel
theorem rX10_nextStale_48 : am_rw mX10_nextStale 48 = some (.iload_n 2, 1, 0, 0) := by decide +kernel
theorem rX10_nextStale_49 : am_rw mX10_nextStale 49 = some (.iload 4, 2, 0, 0) := by decide +kernel
theorem rX10_nextStale_51 : am_rw mX10_nextStale 51 = some (.invokevirtual 245, 3, 132, 3) := by decide +kernel
theorem rX10_nextStale_54 : am_rw mX10_nextStale 54 = some (.ifCond .ne 7, 3, 61, 0) := by decide +kernel
theorem rX10_nextStale_57 : am_rw mX10_nextStale 57 = some (.iconst 1, 1, 1, 0) := by decide +kernel
theorem rX10_nextStale_58 : am_rw mX10_nextStale 58 = some (.goto 4, 3, 62, 0) := by decide +kernel
theorem rX10_nextStale_61 : am_rw mX10_nextStale 61 = some (.iconst 0, 1, 0, 0) := by decide +kernel
theorem rX10_nextStale_62 : am_rw mX10_nextStale 62 = some (.istore_n 3, 1, 0, 0) := by decide +kernel
theorem rX10_nextStale_63 : am_rw mX10_nextStale 63 = some (.iinc 4 1, 3, 0, 0) := by decide +kernel
theorem rX10_nextStale_66 : am_rw mX10_nextStale 66 = some (.goto (-45), 3, 21, 0) := by decide +kernel
theorem rX10_nextStale_69 : am_rw mX10_nextStale 69 = some (.iload_n 3, 1, 0, 0) := by decide +kernel
theorem rX10_nextStale_70 : am_rw mX10_nextStale 70 = some (.ifCond .eq 7, 3, 77, 0) := by decide +kernel
theorem rX10_nextStale_73 : am_rw mX10_nextStale 73 = some (.iload_n 2, 1, 0, 0) := by decide +kernel
theorem rX10_nextStale_74 : am_rw mX10_nextStale 74 = some (.goto 4, 3, 78, 0) := by decide +kernel
theorem rX10_nextStale_77 : am_rw mX10_nextStale 77 = some (.iload_n 1, 1, 0, 0) := by decide +kernel
theorem rX10_nextStale_78 : am_rw mX10_nextStale 78 = some (.istore_n 1, 1, 0, 0) := by decide +kernel
theorem rX10_nextStale_79 : am_rw mX10_nextStale 79 = some (.iinc 2 (-1), 3, 0, 0) := by decide +kernel
theorem rX10_nextStale_82 : am_rw mX10_nextStale 82 = some (.goto (-74), 3, 8, 0) := by decide +kernel
theorem rX10_nextStale_85 : am_rw mX10_nextStale 85 = some (.iload_n 1, 1, 0, 0) := by decide +kernel
theorem rX10_nextStale_86 : am_rw mX10_nextStale 86 = some (.ireturn, 1, 0, 0) := by decide +kernel
theorem rX10_publish_0 : am_rw mX10_publish 0 = some (.iload_n 1, 1, 0, 0) := by decide +kernel
theorem rX10_publish_1 : am_rw mX10_publish 1 = some (.invokestatic 256, 3, 104, 1) := by decide +kernel
theorem rX10_publish_4 : am_rw mX10_publish 4 = some (.istore_n 2, 1, 0, 0) := by decide +kernel
theorem rX10_publish_5 : am_rw mX10_publish 5 = some (.iload_n 2, 1, 0, 0) := by decide +kernel
theorem rX10_publish_6 : am_rw mX10_publish 6 = some (.ifCond .eq 16, 3, 22, 0) := by decide +kernel
theorem rX10_publish_9 : am_rw mX10_publish 9 = some (.aload_n 0, 1, 0, 0) := by decide +kernel
theorem rX10_publish_10 : am_rw mX10_publish 10 = some (.iconst 0, 1, 0, 0) := by decide +kernel
theorem rX10_publish_11 : am_rw mX10_publish 11 = some (.invokevirtual 177, 3, 116, 2) := by decide +kernel
theorem rX10_publish_14 : am_rw mX10_publish 14 = some (.iconst (-1), 1, 1, 1) := by decide +kernel
theorem rX10_publish_15 : am_rw mX10_publish 15 = some (.if_icmp .ne 7, 3, 22, 0) := by decide +kernel
theorem rX10_publish_18 : am_rw mX10_publish 18 = some (.iconst 1, 1, 1, 0) := by decide +kernel
theorem rX10_publish_19 : am_rw mX10_publish 19 = some (.goto 4, 3, 23, 0) := by decide +kernel
theorem rX10_publish_22 : am_rw mX10_publish 22 = some (.iconst 0, 1, 0, 0) := by decide +kernel
theorem rX10_publish_23 : am_rw mX10_publish 23 = some (.istore_n 3, 1, 0, 0) := by decide +kernel
theorem rX10_publish_24 : am_rw mX10_publish 24 = some (.iload_n 3, 1, 0, 0) := by decide +kernel
theorem rX10_publish_25 : am_rw mX10_publish 25 = some (.ifCond .eq 32, 3, 57, 0) := by decide +kernel
theorem rX10_publish_28 : am_rw mX10_publish 28 = some (.aload_n 0, 1, 0, 0) := by decide +kernel
theorem rX10_publish_29 : am_rw mX10_publish 29 = some (.iload_n 1, 1, 0, 0) := by decide +kernel
theorem rX10_publish_30 : am_rw mX10_publish 30 = some (.invokevirtual 259, 3, 134, 2) := by decide +kernel
theorem rX10_publish_33 : am_rw mX10_publish 33 = some (.ifCond .eq 24, 3, 57, 0) := by decide +kernel
theorem rX10_publish_36 : am_rw mX10_publish 36 = some (.aload_n 0, 1, 0, 0) := by decide +kernel
theorem rX10_publish_37 : am_rw mX10_publish 37 = some (.getfield 143, 3, 10, 5) := by decide +kernel
theorem rX10_publish_40 : am_rw mX10_publish 40 = some (.iconst 1, 1, 1, 0) := by decide +kernel
theorem rX10_publish_41 : am_rw mX10_publish 41 = some (.iadd, 1, 0, 0) := by decide +kernel
theorem rX10_publish_42 : am_rw mX10_publish 42 = some (.aload_n 0, 1, 0, 0) := by decide +kernel
theorem rX10_publish_43 : am_rw mX10_publish 43 = some (.iload_n 1, 1, 0, 0) := by decide +kernel
theorem rX10_publish_44 : am_rw mX10_publish 44 = some (.invokevirtual 262, 3, 133, 2) := by decide +kernel
theorem rX10_publish_47 : am_rw mX10_publish 47 = some (.iadd, 1, 0, 0) := by decide +kernel
theorem rX10_publish_48 : am_rw mX10_publish 48 = some (.bipush 60, 2, 60, 0) := by decide +kernel
theorem rX10_publish_50 : am_rw mX10_publish 50 = some (.if_icmp .gt 7, 3, 57, 0) := by decide +kernel
theorem rX10_publish_53 : am_rw mX10_publish 53 = some (.iconst 1, 1, 1, 0) := by decide +kernel
theorem rX10_publish_54 : am_rw mX10_publish 54 = some (.goto 4, 3, 58, 0) := by decide +kernel
theorem rX10_publish_57 : am_rw mX10_publish 57 = some (.iconst 0, 1, 0, 0) := by decide +kernel
theorem rX10_publish_58 : am_rw mX10_publish 58 = some (.istore 4, 2, 0, 0) := by decide +kernel
theorem rX10_publish_60 : am_rw mX10_publish 60 = some (.aload_n 0, 1, 0, 0) := by decide +kernel
theorem rX10_publish_61 : am_rw mX10_publish 61 = some (.iload_n 2, 1, 0, 0) := by decide +kernel
theorem rX10_publish_62 : am_rw mX10_publish 62 = some (.ifCond .ne 7, 3, 69, 0) := by decide +kernel
theorem rX10_publish_65 : am_rw mX10_publish 65 = some (.iconst 1, 1, 1, 0) := by decide +kernel
theorem rX10_publish_66 : am_rw mX10_publish 66 = some (.goto 21, 3, 87, 0) := by decide +kernel
theorem rX10_publish_69 : am_rw mX10_publish 69 = some (.iload_n 3, 1, 0, 0) := by decide +kernel
theorem rX10_publish_70 : am_rw mX10_publish 70 = some (.ifCond .ne 7, 3, 77, 0) := by decide +kernel
theorem rX10_publish_73 : am_rw mX10_publish 73 = some (.iconst 2, 1, 2, 0) := by decide +kernel
theorem rX10_publish_74 : am_rw mX10_publish 74 = some (.goto 13, 3, 87, 0) := by decide +kernel
theorem rX10_publish_77 : am_rw mX10_publish 77 = some (.iload 4, 2, 0, 0) := by decide +kernel
theorem rX10_publish_79 : am_rw mX10_publish 79 = some (.ifCond .eq 7, 3, 86, 0) := by decide +kernel
theorem rX10_publish_82 : am_rw mX10_publish 82 = some (.iconst 0, 1, 0, 0) := by decide +kernel
theorem rX10_publish_83 : am_rw mX10_publish 83 = some (.goto 4, 3, 87, 0) := by decide +kernel
theorem rX10_publish_86 : am_rw mX10_publish 86 = some (.iconst 3, 1, 3, 0) := by decide +kernel
theorem rX10_publish_87 : am_rw mX10_publish 87 = some (.invokevirtual 159, 3, 102, 2) := by decide +kernel
theorem rX10_publish_90 : am_rw mX10_publish 90 = some (.ifCond .ne 5, 3, 95, 0) := by decide +kernel
theorem rX10_publish_93 : am_rw mX10_publish 93 = some (.iconst 0, 1, 0, 0) := by decide +kernel
theorem rX10_publish_94 : am_rw mX10_publish 94 = some (.ireturn, 1, 0, 0) := by decide +kernel
theorem rX10_publish_95 : am_rw mX10_publish 95 = some (.aload_n 0, 1, 0, 0) := by decide +kernel
theorem rX10_publish_96 : am_rw mX10_publish 96 = some (.getfield 143, 3, 10, 5) := by decide +kernel
theorem rX10_publish_99 : am_rw mX10_publish 99 = some (.istore 5, 2, 0, 0) := by decide +kernel
theorem rX10_publish_101 : am_rw mX10_publish 101 = some (.aload_n 0, 1, 0, 0) := by decide +kernel
theorem rX10_publish_102 : am_rw mX10_publish 102 = some (.getfield 19, 3, 10, 7) := by decide +kernel
theorem rX10_publish_105 : am_rw mX10_publish 105 = some (.aload_n 0, 1, 0, 0) := by decide +kernel
theorem rX10_publish_106 : am_rw mX10_publish 106 = some (.getfield 143, 3, 10, 5) := by decide +kernel
theorem rX10_publish_109 : am_rw mX10_publish 109 = some (.aload_n 0, 1, 0, 0) := by decide +kernel
theorem rX10_publish_110 : am_rw mX10_publish 110 = some (.getfield 156, 3, 10, 2) := by decide +kernel
theorem rX10_publish_113 : am_rw mX10_publish 113 = some (.iastore, 1, 0, 0) := by decide +kernel
theorem rX10_publish_114 : am_rw mX10_publish 114 = some (.iconst 0, 1, 0, 0) := by decide +kernel
theorem rX10_publish_115 : am_rw mX10_publish 115 = some (.istore 6, 2, 0, 0) := by decide +kernel
theorem rX10_publish_117 : am_rw mX10_publish 117 = some (.iload 6, 2, 0, 0) := by decide +kernel
theorem rX10_publish_119 : am_rw mX10_publish 119 = some (.aload_n 0, 1, 0, 0) := by decide +kernel
theorem rX10_publish_120 : am_rw mX10_publish 120 = some (.getfield 156, 3, 10, 2) := by decide +kernel
theorem rX10_publish_123 : am_rw mX10_publish 123 = some (.if_icmp .ge 31, 3, 154, 0) := by decide +kernel
theorem rX10_publish_126 : am_rw mX10_publish 126 = some (.aload_n 0, 1, 0, 0) := by decide +kernel
theorem rX10_publish_127 : am_rw mX10_publish 127 = some (.getfield 22, 3, 10, 8) := by decide +kernel
theorem rX10_publish_130 : am_rw mX10_publish 130 = some (.bipush 40, 2, 40, 0) := by decide +kernel
theorem rX10_publish_132 : am_rw mX10_publish 132 = some (.aload_n 0, 1, 0, 0) := by decide +kernel
theorem rX10_publish_133 : am_rw mX10_publish 133 = some (.getfield 143, 3, 10, 5) := by decide +kernel
theorem rX10_publish_136 : am_rw mX10_publish 136 = some (.imul, 1, 0, 0) := by decide +kernel
theorem rX10_publish_137 : am_rw mX10_publish 137 = some (.iload 6, 2, 0, 0) := by decide +kernel
theorem rX10_publish_139 : am_rw mX10_publish 139 = some (.iadd, 1, 0, 0) := by decide +kernel
theorem rX10_publish_140 : am_rw mX10_publish 140 = some (.aload_n 0, 1, 0, 0) := by decide +kernel
theorem rX10_publish_141 : am_rw mX10_publish 141 = some (.getfield 7, 3, 10, 3) := by decide +kernel
theorem rX10_publish_144 : am_rw mX10_publish 144 = some (.iload 6, 2, 0, 0) := by decide +kernel
theorem rX10_publish_146 : am_rw mX10_publish 146 = some (.iaload, 1, 0, 0) := by decide +kernel
theorem rX10_publish_147 : am_rw mX10_publish 147 = some (.iastore, 1, 0, 0) := by decide +kernel
theorem rX10_publish_148 : am_rw mX10_publish 148 = some (.iinc 6 1, 3, 0, 0) := by decide +kernel
theorem rX10_publish_151 : am_rw mX10_publish 151 = some (.goto (-34), 3, 117, 0) := by decide +kernel
theorem rX10_publish_154 : am_rw mX10_publish 154 = some (.aload_n 0, 1, 0, 0) := by decide +kernel
theorem rX10_publish_155 : am_rw mX10_publish 155 = some (.iload_n 1, 1, 0, 0) := by decide +kernel
theorem rX10_publish_156 : am_rw mX10_publish 156 = some (.invokevirtual 265, 3, 135, 2) := by decide +kernel
theorem rX10_publish_159 : am_rw mX10_publish 159 = some (.aload_n 0, 1, 0, 0) := by decide +kernel
theorem rX10_publish_160 : am_rw mX10_publish 160 = some (.invokevirtual 268, 3, 137, 1) := by decide +kernel
theorem rX10_publish_163 : am_rw mX10_publish 163 = some (.istore 6, 2, 0, 0) := by decide +kernel
theorem rX10_publish_165 : am_rw mX10_publish 165 = some (.iload 6, 2, 0, 0) := by decide +kernel
theorem rX10_publish_167 : am_rw mX10_publish 167 = some (.iconst (-1), 1, 1, 1) := by decide +kernel
theorem rX10_publish_168 : am_rw mX10_publish 168 = some (.if_icmp .eq 88, 3, 256, 0) := by decide +kernel
theorem rX10_publish_171 : am_rw mX10_publish 171 = some (.aload_n 0, 1, 0, 0) := by decide +kernel
theorem rX10_publish_172 : am_rw mX10_publish 172 = some (.getfield 19, 3, 10, 7) := by decide +kernel
theorem rX10_publish_175 : am_rw mX10_publish 175 = some (.aload_n 0, 1, 0, 0) := by decide +kernel
theorem rX10_publish_176 : am_rw mX10_publish 176 = some (.getfield 143, 3, 10, 5) := by decide +kernel
theorem rX10_publish_179 : am_rw mX10_publish 179 = some (.aload_n 0, 1, 0, 0) := by decide +kernel
theorem rX10_publish_180 : am_rw mX10_publish 180 = some (.getfield 19, 3, 10, 7) := by decide +kernel
theorem rX10_publish_183 : am_rw mX10_publish 183 = some (.aload_n 0, 1, 0, 0) := by decide +kernel
theorem rX10_publish_184 : am_rw mX10_publish 184 = some (.getfield 28, 3, 10, 10) := by decide +kernel
theorem rX10_publish_187 : am_rw mX10_publish 187 = some (.iload 6, 2, 0, 0) := by decide +kernel
theorem rX10_publish_189 : am_rw mX10_publish 189 = some (.iaload, 1, 0, 0) := by decide +kernel
theorem rX10_publish_190 : am_rw mX10_publish 190 = some (.iaload, 1, 0, 0) := by decide +kernel
theorem rX10_publish_191 : am_rw mX10_publish 191 = some (.iastore, 1, 0, 0) := by decide +kernel
theorem rX10_publish_192 : am_rw mX10_publish 192 = some (.iconst 0, 1, 0, 0) := by decide +kernel
theorem rX10_publish_193 : am_rw mX10_publish 193 = some (.istore 7, 2, 0, 0) := by decide +kernel
theorem rX10_publish_195 : am_rw mX10_publish 195 = some (.iload 7, 2, 0, 0) := by decide +kernel
theorem rX10_publish_197 : am_rw mX10_publish 197 = some (.bipush 40, 2, 40, 0) := by decide +kernel
theorem rX10_publish_199 : am_rw mX10_publish 199 = some (.if_icmp .ge 42, 3, 241, 0) := by decide +kernel
theorem rX10_publish_202 : am_rw mX10_publish 202 = some (.aload_n 0, 1, 0, 0) := by decide +kernel
theorem rX10_publish_203 : am_rw mX10_publish 203 = some (.getfield 22, 3, 10, 8) := by decide +kernel
theorem rX10_publish_206 : am_rw mX10_publish 206 = some (.bipush 40, 2, 40, 0) := by decide +kernel
theorem rX10_publish_208 : am_rw mX10_publish 208 = some (.aload_n 0, 1, 0, 0) := by decide +kernel
theorem rX10_publish_209 : am_rw mX10_publish 209 = some (.getfield 143, 3, 10, 5) := by decide +kernel
theorem rX10_publish_212 : am_rw mX10_publish 212 = some (.imul, 1, 0, 0) := by decide +kernel
theorem rX10_publish_213 : am_rw mX10_publish 213 = some (.iload 7, 2, 0, 0) := by decide +kernel
theorem rX10_publish_215 : am_rw mX10_publish 215 = some (.iadd, 1, 0, 0) := by decide +kernel
theorem rX10_publish_216 : am_rw mX10_publish 216 = some (.aload_n 0, 1, 0, 0) := by decide +kernel
theorem rX10_publish_217 : am_rw mX10_publish 217 = some (.getfield 22, 3, 10, 8) := by decide +kernel
theorem rX10_publish_220 : am_rw mX10_publish 220 = some (.bipush 40, 2, 40, 0) := by decide +kernel
theorem rX10_publish_222 : am_rw mX10_publish 222 = some (.aload_n 0, 1, 0, 0) := by decide +kernel
theorem rX10_publish_223 : am_rw mX10_publish 223 = some (.getfield 28, 3, 10, 10) := by decide +kernel
theorem rX10_publish_226 : am_rw mX10_publish 226 = some (.iload 6, 2, 0, 0) := by decide +kernel
theorem rX10_publish_228 : am_rw mX10_publish 228 = some (.iaload, 1, 0, 0) := by decide +kernel
theorem rX10_publish_229 : am_rw mX10_publish 229 = some (.imul, 1, 0, 0) := by decide +kernel
theorem rX10_publish_230 : am_rw mX10_publish 230 = some (.iload 7, 2, 0, 0) := by decide +kernel
theorem rX10_publish_232 : am_rw mX10_publish 232 = some (.iadd, 1, 0, 0) := by decide +kernel
theorem rX10_publish_233 : am_rw mX10_publish 233 = some (.iaload, 1, 0, 0) := by decide +kernel
theorem rX10_publish_234 : am_rw mX10_publish 234 = some (.iastore, 1, 0, 0) := by decide +kernel
theorem rX10_publish_235 : am_rw mX10_publish 235 = some (.iinc 7 1, 3, 0, 0) := by decide +kernel
theorem rX10_publish_238 : am_rw mX10_publish 238 = some (.goto (-43), 3, 195, 0) := by decide +kernel
theorem rX10_publish_241 : am_rw mX10_publish 241 = some (.aload_n 0, 1, 0, 0) := by decide +kernel
theorem rX10_publish_242 : am_rw mX10_publish 242 = some (.iload 6, 2, 0, 0) := by decide +kernel
theorem rX10_publish_244 : am_rw mX10_publish 244 = some (.invokevirtual 265, 3, 135, 2) := by decide +kernel
theorem rX10_publish_247 : am_rw mX10_publish 247 = some (.aload_n 0, 1, 0, 0) := by decide +kernel
theorem rX10_publish_248 : am_rw mX10_publish 248 = some (.invokevirtual 268, 3, 137, 1) := by decide +kernel
theorem rX10_publish_251 : am_rw mX10_publish 251 = some (.istore 6, 2, 0, 0) := by decide +kernel
theorem rX10_publish_253 : am_rw mX10_publish 253 = some (.goto (-88), 3, 165, 0) := by decide +kernel
theorem rX10_publish_256 : am_rw mX10_publish 256 = some (.iload 5, 2, 0, 0) := by decide +kernel
theorem rX10_publish_258 : am_rw mX10_publish 258 = some (.ireturn, 1, 0, 0) := by decide +kernel
theorem rX10_retire_0 : am_rw mX10_retire 0 = some (.iload_n 1, 1, 0, 0) := by decide +kernel
theorem rX10_retire_1 : am_rw mX10_retire 1 = some (.invokestatic 256, 3, 104, 1) := by decide +kernel
theorem rX10_retire_4 : am_rw mX10_retire 4 = some (.istore_n 2, 1, 0, 0) := by decide +kernel
theorem rX10_retire_5 : am_rw mX10_retire 5 = some (.aload_n 0, 1, 0, 0) := by decide +kernel
theorem rX10_retire_6 : am_rw mX10_retire 6 = some (.iload_n 2, 1, 0, 0) := by decide +kernel
theorem rX10_retire_7 : am_rw mX10_retire 7 = some (.ifCond .ne 7, 3, 14, 0) := by decide +kernel
theorem rX10_retire_10 : am_rw mX10_retire 10 = some (.iconst 1, 1, 1, 0) := by decide +kernel
theorem rX10_retire_11 : am_rw mX10_retire 11 = some (.goto 26, 3, 37, 0) := by decide +kernel
theorem rX10_retire_14 : am_rw mX10_retire 14 = some (.aload_n 0, 1, 0, 0) := by decide +kernel
theorem rX10_retire_15 : am_rw mX10_retire 15 = some (.getfield 28, 3, 10, 10) := by decide +kernel
theorem rX10_retire_18 : am_rw mX10_retire 18 = some (.iload_n 1, 1, 0, 0) := by decide +kernel
theorem rX10_retire_19 : am_rw mX10_retire 19 = some (.iaload, 1, 0, 0) := by decide +kernel
theorem rX10_retire_20 : am_rw mX10_retire 20 = some (.iconst (-1), 1, 1, 1) := by decide +kernel
theorem rX10_retire_21 : am_rw mX10_retire 21 = some (.if_icmp .eq 11, 3, 32, 0) := by decide +kernel
theorem rX10_retire_24 : am_rw mX10_retire 24 = some (.aload_n 0, 1, 0, 0) := by decide +kernel
theorem rX10_retire_25 : am_rw mX10_retire 25 = some (.iload_n 1, 1, 0, 0) := by decide +kernel
theorem rX10_retire_26 : am_rw mX10_retire 26 = some (.invokevirtual 262, 3, 133, 2) := by decide +kernel
theorem rX10_retire_29 : am_rw mX10_retire 29 = some (.ifCond .le 7, 3, 36, 0) := by decide +kernel
theorem rX10_retire_32 : am_rw mX10_retire 32 = some (.iconst 2, 1, 2, 0) := by decide +kernel
theorem rX10_retire_33 : am_rw mX10_retire 33 = some (.goto 4, 3, 37, 0) := by decide +kernel
theorem rX10_retire_36 : am_rw mX10_retire 36 = some (.iconst 0, 1, 0, 0) := by decide +kernel
theorem rX10_retire_37 : am_rw mX10_retire 37 = some (.invokevirtual 159, 3, 102, 2) := by decide +kernel
theorem rX10_retire_40 : am_rw mX10_retire 40 = some (.ifCond .ne 5, 3, 45, 0) := by decide +kernel
theorem rX10_retire_43 : am_rw mX10_retire 43 = some (.iconst 0, 1, 0, 0) := by decide +kernel
theorem rX10_retire_44 : am_rw mX10_retire 44 = some (.ireturn, 1, 0, 0) := by decide +kernel
theorem rX10_retire_45 : am_rw mX10_retire 45 = some (.aload_n 0, 1, 0, 0) := by decide +kernel
theorem rX10_retire_46 : am_rw mX10_retire 46 = some (.getfield 28, 3, 10, 10) := by decide +kernel
theorem rX10_retire_49 : am_rw mX10_retire 49 = some (.iload_n 1, 1, 0, 0) := by decide +kernel
theorem rX10_retire_50 : am_rw mX10_retire 50 = some (.iaload, 1, 0, 0) := by decide +kernel
theorem rX10_retire_51 : am_rw mX10_retire 51 = some (.istore_n 3, 1, 0, 0) := by decide +kernel
theorem rX10_retire_52 : am_rw mX10_retire 52 = some (.aload_n 0, 1, 0, 0) := by decide +kernel
theorem rX10_retire_53 : am_rw mX10_retire 53 = some (.getfield 28, 3, 10, 10) := by decide +kernel
theorem rX10_retire_56 : am_rw mX10_retire 56 = some (.iload_n 1, 1, 0, 0) := by decide +kernel
theorem rX10_retire_57 : am_rw mX10_retire 57 = some (.iconst (-1), 1, 1, 1) := by decide +kernel
theorem rX10_retire_58 : am_rw mX10_retire 58 = some (.iastore, 1, 0, 0) := by decide +kernel
theorem rX10_retire_59 : am_rw mX10_retire 59 = some (.iload_n 3, 1, 0, 0) := by decide +kernel
theorem rX10_retire_60 : am_rw mX10_retire 60 = some (.ireturn, 1, 0, 0) := by decide +kernel
theorem rX10_latest_0 : am_rw mX10_latest 0 = some (.aload_n 0, 1, 0, 0) := by decide +kernel
theorem rX10_latest_1 : am_rw mX10_latest 1 = some (.iload_n 1, 1, 0, 0) := by decide +kernel
theorem rX10_latest_2 : am_rw mX10_latest 2 = some (.invokestatic 256, 3, 104, 1) := by decide +kernel
theorem rX10_latest_5 : am_rw mX10_latest 5 = some (.ifCond .eq 7, 3, 12, 0) := by decide +kernel
theorem rX10_latest_8 : am_rw mX10_latest 8 = some (.iconst 0, 1, 0, 0) := by decide +kernel
theorem rX10_latest_9 : am_rw mX10_latest 9 = some (.goto 4, 3, 13, 0) := by decide +kernel
theorem rX10_latest_12 : am_rw mX10_latest 12 = some (.iconst 1, 1, 1, 0) := by decide +kernel
theorem rX10_latest_13 : am_rw mX10_latest 13 = some (.invokevirtual 159, 3, 102, 2) := by decide +kernel
theorem rX10_latest_16 : am_rw mX10_latest 16 = some (.ifCond .eq 12, 3, 28, 0) := by decide +kernel
theorem rX10_latest_19 : am_rw mX10_latest 19 = some (.aload_n 0, 1, 0, 0) := by decide +kernel
theorem rX10_latest_20 : am_rw mX10_latest 20 = some (.getfield 28, 3, 10, 10) := by decide +kernel
theorem rX10_latest_23 : am_rw mX10_latest 23 = some (.iload_n 1, 1, 0, 0) := by decide +kernel
theorem rX10_latest_24 : am_rw mX10_latest 24 = some (.iaload, 1, 0, 0) := by decide +kernel
theorem rX10_latest_25 : am_rw mX10_latest 25 = some (.goto 4, 3, 29, 0) := by decide +kernel
theorem rX10_latest_28 : am_rw mX10_latest 28 = some (.iconst 0, 1, 0, 0) := by decide +kernel
theorem rX10_latest_29 : am_rw mX10_latest 29 = some (.ireturn, 1, 0, 0) := by decide +kernel
theorem rX10_pin_0 : am_rw mX10_pin 0 = some (.aload_n 0, 1, 0, 0) := by decide +kernel
theorem rX10_pin_1 : am_rw mX10_pin 1 = some (.aload_n 0, 1, 0, 0) := by decide +kernel
theorem rX10_pin_2 : am_rw mX10_pin 2 = some (.iload_n 1, 1, 0, 0) := by decide +kernel
theorem rX10_pin_3 : am_rw mX10_pin 3 = some (.invokevirtual 271, 3, 106, 2) := by decide +kernel
theorem rX10_pin_6 : am_rw mX10_pin 6 = some (.ifCond .eq 14, 3, 20, 0) := by decide +kernel
theorem rX10_pin_9 : am_rw mX10_pin 9 = some (.iload_n 2, 1, 0, 0) := by decide +kernel
theorem rX10_pin_10 : am_rw mX10_pin 10 = some (.invokestatic 256, 3, 104, 1) := by decide +kernel
theorem rX10_pin_13 : am_rw mX10_pin 13 = some (.ifCond .eq 7, 3, 20, 0) := by decide +kernel
theorem rX10_pin_16 : am_rw mX10_pin 16 = some (.iconst 0, 1, 0, 0) := by decide +kernel
theorem rX10_pin_17 : am_rw mX10_pin 17 = some (.goto 4, 3, 21, 0) := by decide +kernel
theorem rX10_pin_20 : am_rw mX10_pin 20 = some (.iconst 1, 1, 1, 0) := by decide +kernel
theorem rX10_pin_21 : am_rw mX10_pin 21 = some (.invokevirtual 159, 3, 102, 2) := by decide +kernel
theorem rX10_pin_24 : am_rw mX10_pin 24 = some (.ifCond .eq 17, 3, 41, 0) := by decide +kernel
theorem rX10_pin_27 : am_rw mX10_pin 27 = some (.aload_n 0, 1, 0, 0) := by decide +kernel
theorem rX10_pin_28 : am_rw mX10_pin 28 = some (.getfield 25, 3, 10, 9) := by decide +kernel
theorem rX10_pin_31 : am_rw mX10_pin 31 = some (.bipush 6, 2, 6, 0) := by decide +kernel
theorem rX10_pin_33 : am_rw mX10_pin 33 = some (.iload_n 1, 1, 0, 0) := by decide +kernel
theorem rX10_pin_34 : am_rw mX10_pin 34 = some (.imul, 1, 0, 0) := by decide +kernel
theorem rX10_pin_35 : am_rw mX10_pin 35 = some (.iload_n 2, 1, 0, 0) := by decide +kernel
theorem rX10_pin_36 : am_rw mX10_pin 36 = some (.iadd, 1, 0, 0) := by decide +kernel
theorem rX10_pin_37 : am_rw mX10_pin 37 = some (.iaload, 1, 0, 0) := by decide +kernel
theorem rX10_pin_38 : am_rw mX10_pin 38 = some (.goto 4, 3, 42, 0) := by decide +kernel
theorem rX10_pin_41 : am_rw mX10_pin 41 = some (.iconst 0, 1, 0, 0) := by decide +kernel
theorem rX10_pin_42 : am_rw mX10_pin 42 = some (.ireturn, 1, 0, 0) := by decide +kernel
theorem rX10_rain_0 : am_rw mX10_rain 0 = some (.aload_n 0, 1, 0, 0) := by decide +kernel
theorem rX10_rain_1 : am_rw mX10_rain 1 = some (.iload_n 1, 1, 0, 0) := by decide +kernel
theorem rX10_rain_2 : am_rw mX10_rain 2 = some (.iconst 0, 1, 0, 0) := by decide +kernel
theorem rX10_rain_3 : am_rw mX10_rain 3 = some (.iconst 2, 1, 2, 0) := by decide +kernel
theorem rX10_rain_4 : am_rw mX10_rain 4 = some (.invokestatic 139, 3, 103, 3) := by decide +kernel
theorem rX10_rain_7 : am_rw mX10_rain 7 = some (.ifCond .ne 7, 3, 14, 0) := by decide +kernel
theorem rX10_rain_10 : am_rw mX10_rain 10 = some (.iconst 1, 1, 1, 0) := by decide +kernel
theorem rX10_rain_11 : am_rw mX10_rain 11 = some (.goto 30, 3, 41, 0) := by decide +kernel
theorem rX10_rain_14 : am_rw mX10_rain 14 = some (.iload_n 2, 1, 0, 0) := by decide +kernel
theorem rX10_rain_15 : am_rw mX10_rain 15 = some (.iconst 0, 1, 0, 0) := by decide +kernel
theorem rX10_rain_16 : am_rw mX10_rain 16 = some (.sipush 200, 3, 200, 0) := by decide +kernel
theorem rX10_rain_19 : am_rw mX10_rain 19 = some (.invokestatic 139, 3, 103, 3) := by decide +kernel
theorem rX10_rain_22 : am_rw mX10_rain 22 = some (.ifCond .eq 18, 3, 40, 0) := by decide +kernel
theorem rX10_rain_25 : am_rw mX10_rain 25 = some (.iload_n 3, 1, 0, 0) := by decide +kernel
theorem rX10_rain_26 : am_rw mX10_rain 26 = some (.iconst 0, 1, 0, 0) := by decide +kernel
theorem rX10_rain_27 : am_rw mX10_rain 27 = some (.sipush 500, 3, 500, 0) := by decide +kernel
theorem rX10_rain_30 : am_rw mX10_rain 30 = some (.invokestatic 139, 3, 103, 3) := by decide +kernel
theorem rX10_rain_33 : am_rw mX10_rain 33 = some (.ifCond .eq 7, 3, 40, 0) := by decide +kernel
theorem rX10_rain_36 : am_rw mX10_rain 36 = some (.iconst 0, 1, 0, 0) := by decide +kernel
theorem rX10_rain_37 : am_rw mX10_rain 37 = some (.goto 4, 3, 41, 0) := by decide +kernel
theorem rX10_rain_40 : am_rw mX10_rain 40 = some (.iconst 2, 1, 2, 0) := by decide +kernel
theorem rX10_rain_41 : am_rw mX10_rain 41 = some (.invokevirtual 159, 3, 102, 2) := by decide +kernel
theorem rX10_rain_44 : am_rw mX10_rain 44 = some (.ifCond .ne 5, 3, 49, 0) := by decide +kernel
theorem rX10_rain_47 : am_rw mX10_rain 47 = some (.iconst 0, 1, 0, 0) := by decide +kernel
theorem rX10_rain_48 : am_rw mX10_rain 48 = some (.ireturn, 1, 0, 0) := by decide +kernel
theorem rX10_rain_49 : am_rw mX10_rain 49 = some (.aload_n 0, 1, 0, 0) := by decide +kernel
theorem rX10_rain_50 : am_rw mX10_rain 50 = some (.getfield 34, 3, 10, 12) := by decide +kernel
theorem rX10_rain_53 : am_rw mX10_rain 53 = some (.sipush 201, 3, 201, 0) := by decide +kernel
theorem rX10_rain_56 : am_rw mX10_rain 56 = some (.iload_n 1, 1, 0, 0) := by decide +kernel
theorem rX10_rain_57 : am_rw mX10_rain 57 = some (.imul, 1, 0, 0) := by decide +kernel
theorem rX10_rain_58 : am_rw mX10_rain 58 = some (.iload_n 2, 1, 0, 0) := by decide +kernel
theorem rX10_rain_59 : am_rw mX10_rain 59 = some (.iadd, 1, 0, 0) := by decide +kernel
theorem rX10_rain_60 : am_rw mX10_rain 60 = some (.iaload, 1, 0, 0) := by decide +kernel
theorem rX10_rain_61 : am_rw mX10_rain 61 = some (.istore 4, 2, 0, 0) := by decide +kernel
theorem rX10_rain_63 : am_rw mX10_rain 63 = some (.iload 4, 2, 0, 0) := by decide +kernel
theorem rX10_rain_65 : am_rw mX10_rain 65 = some (.iload_n 3, 1, 0, 0) := by decide +kernel
theorem rX10_rain_66 : am_rw mX10_rain 66 = some (.if_icmp .eq 89, 3, 155, 0) := by decide +kernel
theorem rX10_rain_69 : am_rw mX10_rain 69 = some (.aload_n 0, 1, 0, 0) := by decide +kernel
theorem rX10_rain_70 : am_rw mX10_rain 70 = some (.dup, 1, 0, 0) := by decide +kernel
theorem rX10_rain_71 : am_rw mX10_rain 71 = some (.getfield 274, 3, 10, 14) := by decide +kernel
theorem rX10_rain_74 : am_rw mX10_rain 74 = some (.iconst 1, 1, 1, 0) := by decide +kernel
theorem rX10_rain_75 : am_rw mX10_rain 75 = some (.iadd, 1, 0, 0) := by decide +kernel
theorem rX10_rain_76 : am_rw mX10_rain 76 = some (.putfield 274, 3, 10, 14) := by decide +kernel
theorem rX10_rain_79 : am_rw mX10_rain 79 = some (.aload_n 0, 1, 0, 0) := by decide +kernel
theorem rX10_rain_80 : am_rw mX10_rain 80 = some (.getfield 34, 3, 10, 12) := by decide +kernel
theorem rX10_rain_83 : am_rw mX10_rain 83 = some (.sipush 201, 3, 201, 0) := by decide +kernel
theorem rX10_rain_86 : am_rw mX10_rain 86 = some (.iload_n 1, 1, 0, 0) := by decide +kernel
theorem rX10_rain_87 : am_rw mX10_rain 87 = some (.imul, 1, 0, 0) := by decide +kernel
theorem rX10_rain_88 : am_rw mX10_rain 88 = some (.iload_n 2, 1, 0, 0) := by decide +kernel
theorem rX10_rain_89 : am_rw mX10_rain 89 = some (.iadd, 1, 0, 0) := by decide +kernel
theorem rX10_rain_90 : am_rw mX10_rain 90 = some (.iload_n 3, 1, 0, 0) := by decide +kernel
theorem rX10_rain_91 : am_rw mX10_rain 91 = some (.iastore, 1, 0, 0) := by decide +kernel
theorem rX10_rain_92 : am_rw mX10_rain 92 = some (.aload_n 0, 1, 0, 0) := by decide +kernel
theorem rX10_rain_93 : am_rw mX10_rain 93 = some (.getfield 37, 3, 10, 13) := by decide +kernel
theorem rX10_rain_96 : am_rw mX10_rain 96 = some (.sipush 201, 3, 201, 0) := by decide +kernel
theorem rX10_rain_99 : am_rw mX10_rain 99 = some (.iload_n 1, 1, 0, 0) := by decide +kernel
theorem rX10_rain_100 : am_rw mX10_rain 100 = some (.imul, 1, 0, 0) := by decide +kernel
theorem rX10_rain_101 : am_rw mX10_rain 101 = some (.iload_n 2, 1, 0, 0) := by decide +kernel
theorem rX10_rain_102 : am_rw mX10_rain 102 = some (.iadd, 1, 0, 0) := by decide +kernel
theorem rX10_rain_103 : am_rw mX10_rain 103 = some (.aload_n 0, 1, 0, 0) := by decide +kernel
theorem rX10_rain_104 : am_rw mX10_rain 104 = some (.getfield 274, 3, 10, 14) := by decide +kernel
theorem rX10_rain_107 : am_rw mX10_rain 107 = some (.iastore, 1, 0, 0) := by decide +kernel
theorem rX10_rain_108 : am_rw mX10_rain 108 = some (.iconst 0, 1, 0, 0) := by decide +kernel
theorem rX10_rain_109 : am_rw mX10_rain 109 = some (.istore 5, 2, 0, 0) := by decide +kernel
theorem rX10_rain_111 : am_rw mX10_rain 111 = some (.iload 5, 2, 0, 0) := by decide +kernel
theorem rX10_rain_113 : am_rw mX10_rain 113 = some (.aload_n 0, 1, 0, 0) := by decide +kernel
theorem rX10_rain_114 : am_rw mX10_rain 114 = some (.getfield 143, 3, 10, 5) := by decide +kernel
theorem rX10_rain_117 : am_rw mX10_rain 117 = some (.if_icmp .ge 38, 3, 155, 0) := by decide +kernel
theorem rX10_rain_120 : am_rw mX10_rain 120 = some (.aload_n 0, 1, 0, 0) := by decide +kernel
theorem rX10_rain_121 : am_rw mX10_rain 121 = some (.getfield 44, 3, 10, 16) := by decide +kernel
theorem rX10_rain_124 : am_rw mX10_rain 124 = some (.iload 5, 2, 0, 0) := by decide +kernel
theorem rX10_rain_126 : am_rw mX10_rain 126 = some (.aload_n 0, 1, 0, 0) := by decide +kernel
theorem rX10_rain_127 : am_rw mX10_rain 127 = some (.getfield 44, 3, 10, 16) := by decide +kernel
theorem rX10_rain_130 : am_rw mX10_rain 130 = some (.iload 5, 2, 0, 0) := by decide +kernel
theorem rX10_rain_132 : am_rw mX10_rain 132 = some (.iaload, 1, 0, 0) := by decide +kernel
theorem rX10_rain_133 : am_rw mX10_rain 133 = some (.iload_n 2, 1, 0, 0) := by decide +kernel
theorem rX10_rain_134 : am_rw mX10_rain 134 = some (.if_icmp .le 7, 3, 141, 0) := by decide +kernel
theorem rX10_rain_137 : am_rw mX10_rain 137 = some (.iload_n 2, 1, 0, 0) := by decide +kernel
theorem rX10_rain_138 : am_rw mX10_rain 138 = some (.goto 10, 3, 148, 0) := by decide +kernel
theorem rX10_rain_141 : am_rw mX10_rain 141 = some (.aload_n 0, 1, 0, 0) := by decide +kernel
theorem rX10_rain_142 : am_rw mX10_rain 142 = some (.getfield 44, 3, 10, 16) := by decide +kernel
theorem rX10_rain_145 : am_rw mX10_rain 145 = some (.iload 5, 2, 0, 0) := by decide +kernel
theorem rX10_rain_147 : am_rw mX10_rain 147 = some (.iaload, 1, 0, 0) := by decide +kernel
theorem rX10_rain_148 : am_rw mX10_rain 148 = some (.iastore, 1, 0, 0) := by decide +kernel
theorem rX10_rain_149 : am_rw mX10_rain 149 = some (.iinc 5 1, 3, 0, 0) := by decide +kernel
theorem rX10_rain_152 : am_rw mX10_rain 152 = some (.goto (-41), 3, 111, 0) := by decide +kernel
theorem rX10_rain_155 : am_rw mX10_rain 155 = some (.iload 4, 2, 0, 0) := by decide +kernel
theorem rX10_rain_157 : am_rw mX10_rain 157 = some (.ireturn, 1, 0, 0) := by decide +kernel
theorem rX10_closure_0 : am_rw mX10_closure 0 = some (.lconst 1, 1, 0, 0) := by decide +kernel
theorem rX10_closure_1 : am_rw mX10_closure 1 = some (.iload_n 1, 1, 0, 0) := by decide +kernel
theorem rX10_closure_2 : am_rw mX10_closure 2 = some (.lshl, 1, 0, 0) := by decide +kernel
theorem rX10_closure_3 : am_rw mX10_closure 3 = some (.lstore_n 2, 1, 0, 0) := by decide +kernel
theorem rX10_closure_4 : am_rw mX10_closure 4 = some (.iload_n 1, 1, 0, 0) := by decide +kernel
theorem rX10_closure_5 : am_rw mX10_closure 5 = some (.istore 4, 2, 0, 0) := by decide +kernel
theorem rX10_closure_7 : am_rw mX10_closure 7 = some (.iload 4, 2, 0, 0) := by decide +kernel
theorem rX10_closure_9 : am_rw mX10_closure 9 = some (.ifCond .lt 68, 3, 77, 0) := by decide +kernel
theorem rX10_closure_12 : am_rw mX10_closure 12 = some (.iconst 0, 1, 0, 0) := by decide +kernel
theorem rX10_closure_13 : am_rw mX10_closure 13 = some (.istore 5, 2, 0, 0) := by decide +kernel
theorem rX10_closure_15 : am_rw mX10_closure 15 = some (.iload 5, 2, 0, 0) := by decide +kernel
theorem rX10_closure_17 : am_rw mX10_closure 17 = some (.bipush 6, 2, 6, 0) := by decide +kernel
theorem rX10_closure_19 : am_rw mX10_closure 19 = some (.if_icmp .ge 52, 3, 71, 0) := by decide +kernel
theorem rX10_closure_22 : am_rw mX10_closure 22 = some (.lload_n 2, 1, 0, 0) := by decide +kernel
theorem rX10_closure_23 : am_rw mX10_closure 23 = some (.iload 4, 2, 0, 0) := by decide +kernel
theorem rX10_closure_25 : am_rw mX10_closure 25 = some (.lshr, 1, 0, 0) := by decide +kernel
theorem rX10_closure_26 : am_rw mX10_closure 26 = some (.lconst 1, 1, 0, 0) := by decide +kernel
theorem rX10_closure_27 : am_rw mX10_closure 27 = some (.land, 1, 0, 0) := by decide +kernel
theorem rX10_closure_28 : am_rw mX10_closure 28 = some (.lconst 1, 1, 0, 0) := by decide +kernel
theorem rX10_closure_29 : am_rw mX10_closure 29 = some (.lcmp, 1, 0, 0) := by decide +kernel
theorem rX10_closure_30 : am_rw mX10_closure 30 = some (.ifCond .ne 41, 3, 71, 0) := by decide +kernel
theorem rX10_closure_33 : am_rw mX10_closure 33 = some (.aload_n 0, 1, 0, 0) := by decide +kernel
theorem rX10_closure_34 : am_rw mX10_closure 34 = some (.getfield 25, 3, 10, 9) := by decide +kernel
theorem rX10_closure_37 : am_rw mX10_closure 37 = some (.bipush 6, 2, 6, 0) := by decide +kernel
theorem rX10_closure_39 : am_rw mX10_closure 39 = some (.iload 4, 2, 0, 0) := by decide +kernel
theorem rX10_closure_41 : am_rw mX10_closure 41 = some (.imul, 1, 0, 0) := by decide +kernel
theorem rX10_closure_42 : am_rw mX10_closure 42 = some (.iload 5, 2, 0, 0) := by decide +kernel
theorem rX10_closure_44 : am_rw mX10_closure 44 = some (.iadd, 1, 0, 0) := by decide +kernel
theorem rX10_closure_45 : am_rw mX10_closure 45 = some (.iaload, 1, 0, 0) := by decide +kernel
theorem rX10_closure_46 : am_rw mX10_closure 46 = some (.istore 6, 2, 0, 0) := by decide +kernel
theorem rX10_closure_48 : am_rw mX10_closure 48 = some (.lload_n 2, 1, 0, 0) := by decide +kernel
theorem rX10_closure_49 : am_rw mX10_closure 49 = some (.iload 6, 2, 0, 0) := by decide +kernel
theorem rX10_closure_51 : am_rw mX10_closure 51 = some (.iconst (-1), 1, 1, 1) := by decide +kernel
theorem rX10_closure_52 : am_rw mX10_closure 52 = some (.if_icmp .ne 7, 3, 59, 0) := by decide +kernel
theorem rX10_closure_55 : am_rw mX10_closure 55 = some (.lconst 0, 1, 0, 0) := by decide +kernel
theorem rX10_closure_56 : am_rw mX10_closure 56 = some (.goto 7, 3, 63, 0) := by decide +kernel
theorem rX10_closure_59 : am_rw mX10_closure 59 = some (.lconst 1, 1, 0, 0) := by decide +kernel
theorem rX10_closure_60 : am_rw mX10_closure 60 = some (.iload 6, 2, 0, 0) := by decide +kernel
theorem rX10_closure_62 : am_rw mX10_closure 62 = some (.lshl, 1, 0, 0) := by decide +kernel
theorem rX10_closure_63 : am_rw mX10_closure 63 = some (.lor, 1, 0, 0) := by decide +kernel
theorem rX10_closure_64 : am_rw mX10_closure 64 = some (.lstore_n 2, 1, 0, 0) := by decide +kernel
theorem rX10_closure_65 : am_rw mX10_closure 65 = some (.iinc 5 1, 3, 0, 0) := by decide +kernel
theorem rX10_closure_68 : am_rw mX10_closure 68 = some (.goto (-53), 3, 15, 0) := by decide +kernel
theorem rX10_closure_71 : am_rw mX10_closure 71 = some (.iinc 4 (-1), 3, 0, 0) := by decide +kernel
theorem rX10_closure_74 : am_rw mX10_closure 74 = some (.goto (-67), 3, 7, 0) := by decide +kernel
theorem rX10_closure_77 : am_rw mX10_closure 77 = some (.lload_n 2, 1, 0, 0) := by decide +kernel
theorem rX10_closure_78 : am_rw mX10_closure 78 = some (.lreturn, 1, 0, 0) := by decide +kernel
theorem rX10_finds_0 : am_rw mX10_finds 0 = some (.aload_n 0, 1, 0, 0) := by decide +kernel
theorem rX10_finds_1 : am_rw mX10_finds 1 = some (.aload_n 0, 1, 0, 0) := by decide +kernel
theorem rX10_finds_2 : am_rw mX10_finds 2 = some (.getfield 19, 3, 10, 7) := by decide +kernel
theorem rX10_finds_5 : am_rw mX10_finds 5 = some (.iload_n 1, 1, 0, 0) := by decide +kernel
theorem rX10_finds_6 : am_rw mX10_finds 6 = some (.iaload, 1, 0, 0) := by decide +kernel
theorem rX10_finds_7 : am_rw mX10_finds 7 = some (.putfield 214, 3, 10, 46) := by decide +kernel
theorem rX10_finds_10 : am_rw mX10_finds 10 = some (.iconst 0, 1, 0, 0) := by decide +kernel
theorem rX10_finds_11 : am_rw mX10_finds 11 = some (.istore_n 3, 1, 0, 0) := by decide +kernel
theorem rX10_finds_12 : am_rw mX10_finds 12 = some (.iload_n 3, 1, 0, 0) := by decide +kernel
theorem rX10_finds_13 : am_rw mX10_finds 13 = some (.aload_n 0, 1, 0, 0) := by decide +kernel
theorem rX10_finds_14 : am_rw mX10_finds 14 = some (.getfield 214, 3, 10, 46) := by decide +kernel
theorem rX10_finds_17 : am_rw mX10_finds 17 = some (.if_icmp .ge 26, 3, 43, 0) := by decide +kernel
theorem rX10_finds_20 : am_rw mX10_finds 20 = some (.aload_n 0, 1, 0, 0) := by decide +kernel
theorem rX10_finds_21 : am_rw mX10_finds 21 = some (.getfield 126, 3, 10, 45) := by decide +kernel
theorem rX10_finds_24 : am_rw mX10_finds 24 = some (.iload_n 3, 1, 0, 0) := by decide +kernel
theorem rX10_finds_25 : am_rw mX10_finds 25 = some (.aload_n 0, 1, 0, 0) := by decide +kernel
theorem rX10_finds_26 : am_rw mX10_finds 26 = some (.getfield 22, 3, 10, 8) := by decide +kernel
theorem rX10_finds_29 : am_rw mX10_finds 29 = some (.bipush 40, 2, 40, 0) := by decide +kernel
theorem rX10_finds_31 : am_rw mX10_finds 31 = some (.iload_n 1, 1, 0, 0) := by decide +kernel
theorem rX10_finds_32 : am_rw mX10_finds 32 = some (.imul, 1, 0, 0) := by decide +kernel
theorem rX10_finds_33 : am_rw mX10_finds 33 = some (.iload_n 3, 1, 0, 0) := by decide +kernel
theorem rX10_finds_34 : am_rw mX10_finds 34 = some (.iadd, 1, 0, 0) := by decide +kernel
theorem rX10_finds_35 : am_rw mX10_finds 35 = some (.iaload, 1, 0, 0) := by decide +kernel
theorem rX10_finds_36 : am_rw mX10_finds 36 = some (.iastore, 1, 0, 0) := by decide +kernel
theorem rX10_finds_37 : am_rw mX10_finds 37 = some (.iinc 3 1, 3, 0, 0) := by decide +kernel
theorem rX10_finds_40 : am_rw mX10_finds 40 = some (.goto (-28), 3, 12, 0) := by decide +kernel
theorem rX10_finds_43 : am_rw mX10_finds 43 = some (.aload_n 0, 1, 0, 0) := by decide +kernel
theorem rX10_finds_44 : am_rw mX10_finds 44 = some (.getfield 40, 3, 10, 15) := by decide +kernel
theorem rX10_finds_47 : am_rw mX10_finds 47 = some (.sipush 201, 3, 201, 0) := by decide +kernel
theorem rX10_finds_50 : am_rw mX10_finds 50 = some (.iload_n 1, 1, 0, 0) := by decide +kernel
theorem rX10_finds_51 : am_rw mX10_finds 51 = some (.imul, 1, 0, 0) := by decide +kernel
theorem rX10_finds_52 : am_rw mX10_finds 52 = some (.iload_n 2, 1, 0, 0) := by decide +kernel
theorem rX10_finds_53 : am_rw mX10_finds 53 = some (.iadd, 1, 0, 0) := by decide +kernel
theorem rX10_finds_54 : am_rw mX10_finds 54 = some (.aload_n 0, 1, 0, 0) := by decide +kernel
theorem rX10_finds_55 : am_rw mX10_finds 55 = some (.iload_n 1, 1, 0, 0) := by decide +kernel
theorem rX10_finds_56 : am_rw mX10_finds 56 = some (.iload_n 2, 1, 0, 0) := by decide +kernel
theorem rX10_finds_57 : am_rw mX10_finds 57 = some (.invokevirtual 277, 3, 128, 3) := by decide +kernel
theorem rX10_finds_60 : am_rw mX10_finds 60 = some (.fastore, 1, 0, 0) := by decide +kernel
theorem rX10_finds_61 : am_rw mX10_finds 61 = some (.aload_n 0, 1, 0, 0) := by decide +kernel
theorem rX10_finds_62 : am_rw mX10_finds 62 = some (.getfield 44, 3, 10, 16) := by decide +kernel
theorem rX10_finds_65 : am_rw mX10_finds 65 = some (.iload_n 1, 1, 0, 0) := by decide +kernel
theorem rX10_finds_66 : am_rw mX10_finds 66 = some (.iload_n 2, 1, 0, 0) := by decide +kernel
theorem rX10_finds_67 : am_rw mX10_finds 67 = some (.iconst 1, 1, 1, 0) := by decide +kernel
theorem rX10_finds_68 : am_rw mX10_finds 68 = some (.iadd, 1, 0, 0) := by decide +kernel
theorem rX10_finds_69 : am_rw mX10_finds 69 = some (.iastore, 1, 0, 0) := by decide +kernel
theorem rX10_finds_70 : am_rw mX10_finds 70 = some (.return_, 1, 0, 0) := by decide +kernel
