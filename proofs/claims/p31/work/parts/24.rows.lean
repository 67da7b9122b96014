/-! own: rows of the methods, for the rules -/
set_option maxRecDepth 100000
theorem rL_draw_0 : am_rw mL_draw 0 = some (.iload_n 1, 1, 0, 0) := by decide +kernel
theorem rL_draw_1 : am_rw mL_draw 1 = some (.aload_n 0, 1, 0, 0) := by decide +kernel
theorem rL_draw_2 : am_rw mL_draw 2 = some (.arraylength, 1, 1, 0) := by decide +kernel
theorem rL_draw_3 : am_rw mL_draw 3 = some (.if_icmp .ge 12, 3, 15, 0) := by decide +kernel
theorem rL_draw_6 : am_rw mL_draw 6 = some (.aload_n 0, 1, 0, 0) := by decide +kernel
theorem rL_draw_7 : am_rw mL_draw 7 = some (.iload_n 1, 1, 0, 0) := by decide +kernel
theorem rL_draw_8 : am_rw mL_draw 8 = some (.iaload, 1, 1, 0) := by decide +kernel
theorem rL_draw_9 : am_rw mL_draw 9 = some (.ldc 7, 2, 0, 2147483647) := by decide +kernel
theorem rL_draw_11 : am_rw mL_draw 11 = some (.iand, 1, 0, 0) := by decide +kernel
theorem rL_draw_12 : am_rw mL_draw 12 = some (.goto 12, 3, 24, 0) := by decide +kernel
theorem rL_draw_15 : am_rw mL_draw 15 = some (.ldc 8, 2, 0, 104729) := by decide +kernel
theorem rL_draw_17 : am_rw mL_draw 17 = some (.iload_n 1, 1, 0, 0) := by decide +kernel
theorem rL_draw_18 : am_rw mL_draw 18 = some (.iconst 2, 1, 2, 0) := by decide +kernel
theorem rL_draw_19 : am_rw mL_draw 19 = some (.iadd, 1, 0, 0) := by decide +kernel
theorem rL_draw_20 : am_rw mL_draw 20 = some (.imul, 1, 0, 0) := by decide +kernel
theorem rL_draw_21 : am_rw mL_draw 21 = some (.ldc 9, 2, 0, 65521) := by decide +kernel
theorem rL_draw_23 : am_rw mL_draw 23 = some (.irem, 1, 0, 0) := by decide +kernel
theorem rL_draw_24 : am_rw mL_draw 24 = some (.ireturn, 1, 0, 0) := by decide +kernel
theorem rL_step_0 : am_rw mL_step 0 = some (.iload 7, 2, 0, 0) := by decide +kernel
theorem rL_step_2 : am_rw mL_step 2 = some (.iconst 3, 1, 3, 0) := by decide +kernel
theorem rL_step_3 : am_rw mL_step 3 = some (.irem, 1, 0, 0) := by decide +kernel
theorem rL_step_4 : am_rw mL_step 4 = some (.istore 8, 2, 0, 0) := by decide +kernel
theorem rL_step_6 : am_rw mL_step 6 = some (.iconst 4, 1, 4, 0) := by decide +kernel
theorem rL_step_7 : am_rw mL_step 7 = some (.bipush 6, 2, 6, 0) := by decide +kernel
theorem rL_step_9 : am_rw mL_step 9 = some (.iload 8, 2, 0, 0) := by decide +kernel
theorem rL_step_11 : am_rw mL_step 11 = some (.imul, 1, 0, 0) := by decide +kernel
theorem rL_step_12 : am_rw mL_step 12 = some (.iadd, 1, 0, 0) := by decide +kernel
theorem rL_step_13 : am_rw mL_step 13 = some (.istore 9, 2, 0, 0) := by decide +kernel
theorem rL_step_15 : am_rw mL_step 15 = some (.iload 5, 2, 0, 0) := by decide +kernel
theorem rL_step_17 : am_rw mL_step 17 = some (.bipush 20, 2, 20, 0) := by decide +kernel
theorem rL_step_19 : am_rw mL_step 19 = some (.irem, 1, 0, 0) := by decide +kernel
theorem rL_step_20 : am_rw mL_step 20 = some (.tableswitch 605 0 16 #[84, 84, 84, 84, 114, 123, 198, 198, 198, 267, 365, 391, 471, 471, 528, 565, 565], 84, 0, 0) := by decide +kernel
theorem rL_step_104 : am_rw mL_step 104 = some (.aload_n 1, 1, 0, 0) := by decide +kernel
theorem rL_step_105 : am_rw mL_step 105 = some (.iconst 3, 1, 3, 0) := by decide +kernel
theorem rL_step_106 : am_rw mL_step 106 = some (.iaload, 1, 0, 0) := by decide +kernel
theorem rL_step_107 : am_rw mL_step 107 = some (.bipush 50, 2, 50, 0) := by decide +kernel
theorem rL_step_109 : am_rw mL_step 109 = some (.if_icmp .gt 19, 3, 128, 0) := by decide +kernel
theorem rL_step_112 : am_rw mL_step 112 = some (.aload_n 0, 1, 0, 0) := by decide +kernel
theorem rL_step_113 : am_rw mL_step 113 = some (.aload_n 1, 1, 0, 0) := by decide +kernel
theorem rL_step_114 : am_rw mL_step 114 = some (.aload_n 2, 1, 0, 0) := by decide +kernel
theorem rL_step_115 : am_rw mL_step 115 = some (.iload 6, 2, 0, 0) := by decide +kernel
theorem rL_step_117 : am_rw mL_step 117 = some (.bipush 6, 2, 6, 0) := by decide +kernel
theorem rL_step_119 : am_rw mL_step 119 = some (.irem, 1, 0, 0) := by decide +kernel
theorem rL_step_120 : am_rw mL_step 120 = some (.iload 7, 2, 0, 0) := by decide +kernel
theorem rL_step_122 : am_rw mL_step 122 = some (.invokestatic 10, 3, 117, 5) := by decide +kernel
theorem rL_step_125 : am_rw mL_step 125 = some (.ifCond .eq 7, 3, 132, 0) := by decide +kernel
theorem rL_step_128 : am_rw mL_step 128 = some (.iconst 1, 1, 1, 0) := by decide +kernel
theorem rL_step_129 : am_rw mL_step 129 = some (.goto 4, 3, 133, 0) := by decide +kernel
theorem rL_step_132 : am_rw mL_step 132 = some (.iconst 0, 1, 0, 0) := by decide +kernel
theorem rL_step_133 : am_rw mL_step 133 = some (.ireturn, 1, 0, 0) := by decide +kernel
theorem rL_step_134 : am_rw mL_step 134 = some (.aload_n 0, 1, 0, 0) := by decide +kernel
theorem rL_step_135 : am_rw mL_step 135 = some (.iload 6, 2, 0, 0) := by decide +kernel
theorem rL_step_137 : am_rw mL_step 137 = some (.iload 7, 2, 0, 0) := by decide +kernel
theorem rL_step_139 : am_rw mL_step 139 = some (.invokestatic 16, 3, 120, 3) := by decide +kernel
theorem rL_step_142 : am_rw mL_step 142 = some (.ireturn, 1, 0, 0) := by decide +kernel
theorem rL_step_143 : am_rw mL_step 143 = some (.iload 6, 2, 0, 0) := by decide +kernel
theorem rL_step_145 : am_rw mL_step 145 = some (.bipush 6, 2, 6, 0) := by decide +kernel
theorem rL_step_147 : am_rw mL_step 147 = some (.irem, 1, 0, 0) := by decide +kernel
theorem rL_step_148 : am_rw mL_step 148 = some (.istore 10, 2, 0, 0) := by decide +kernel
theorem rL_step_150 : am_rw mL_step 150 = some (.aload_n 0, 1, 0, 0) := by decide +kernel
theorem rL_step_151 : am_rw mL_step 151 = some (.iload 10, 2, 0, 0) := by decide +kernel
theorem rL_step_153 : am_rw mL_step 153 = some (.invokevirtual 20, 3, 65, 2) := by decide +kernel
theorem rL_step_156 : am_rw mL_step 156 = some (.istore 11, 2, 0, 0) := by decide +kernel
theorem rL_step_158 : am_rw mL_step 158 = some (.iload 7, 2, 0, 0) := by decide +kernel
theorem rL_step_160 : am_rw mL_step 160 = some (.iconst 3, 1, 3, 0) := by decide +kernel
theorem rL_step_161 : am_rw mL_step 161 = some (.irem, 1, 0, 0) := by decide +kernel
theorem rL_step_162 : am_rw mL_step 162 = some (.ifCond .le 19, 3, 181, 0) := by decide +kernel
theorem rL_step_165 : am_rw mL_step 165 = some (.iload 11, 2, 0, 0) := by decide +kernel
theorem rL_step_167 : am_rw mL_step 167 = some (.aload_n 1, 1, 0, 0) := by decide +kernel
theorem rL_step_168 : am_rw mL_step 168 = some (.iconst 3, 1, 3, 0) := by decide +kernel
theorem rL_step_169 : am_rw mL_step 169 = some (.iaload, 1, 0, 0) := by decide +kernel
theorem rL_step_170 : am_rw mL_step 170 = some (.if_icmp .ge 7, 3, 177, 0) := by decide +kernel
theorem rL_step_173 : am_rw mL_step 173 = some (.iconst 1, 1, 1, 0) := by decide +kernel
theorem rL_step_174 : am_rw mL_step 174 = some (.goto 43, 3, 217, 0) := by decide +kernel
theorem rL_step_177 : am_rw mL_step 177 = some (.iconst 0, 1, 0, 0) := by decide +kernel
theorem rL_step_178 : am_rw mL_step 178 = some (.goto 39, 3, 217, 0) := by decide +kernel
theorem rL_step_181 : am_rw mL_step 181 = some (.aload_n 0, 1, 0, 0) := by decide +kernel
theorem rL_step_182 : am_rw mL_step 182 = some (.iload 10, 2, 0, 0) := by decide +kernel
theorem rL_step_184 : am_rw mL_step 184 = some (.invokestatic 26, 3, 122, 2) := by decide +kernel
theorem rL_step_187 : am_rw mL_step 187 = some (.iload 11, 2, 0, 0) := by decide +kernel
theorem rL_step_189 : am_rw mL_step 189 = some (.iconst (-1), 1, 1, 1) := by decide +kernel
theorem rL_step_190 : am_rw mL_step 190 = some (.if_icmp .eq 12, 3, 202, 0) := by decide +kernel
theorem rL_step_193 : am_rw mL_step 193 = some (.aload_n 0, 1, 0, 0) := by decide +kernel
theorem rL_step_194 : am_rw mL_step 194 = some (.iload 10, 2, 0, 0) := by decide +kernel
theorem rL_step_196 : am_rw mL_step 196 = some (.invokestatic 30, 3, 123, 2) := by decide +kernel
theorem rL_step_199 : am_rw mL_step 199 = some (.ifCond .eq 8, 3, 207, 0) := by decide +kernel
theorem rL_step_202 : am_rw mL_step 202 = some (.bipush (-2), 2, 2, 1) := by decide +kernel
theorem rL_step_204 : am_rw mL_step 204 = some (.goto 5, 3, 209, 0) := by decide +kernel
theorem rL_step_207 : am_rw mL_step 207 = some (.iload 11, 2, 0, 0) := by decide +kernel
theorem rL_step_209 : am_rw mL_step 209 = some (.if_icmp .ne 7, 3, 216, 0) := by decide +kernel
theorem rL_step_212 : am_rw mL_step 212 = some (.iconst 1, 1, 1, 0) := by decide +kernel
theorem rL_step_213 : am_rw mL_step 213 = some (.goto 4, 3, 217, 0) := by decide +kernel
theorem rL_step_216 : am_rw mL_step 216 = some (.iconst 0, 1, 0, 0) := by decide +kernel
theorem rL_step_217 : am_rw mL_step 217 = some (.ireturn, 1, 0, 0) := by decide +kernel
theorem rL_step_218 : am_rw mL_step 218 = some (.iload 6, 2, 0, 0) := by decide +kernel
theorem rL_step_220 : am_rw mL_step 220 = some (.bipush 60, 2, 60, 0) := by decide +kernel
theorem rL_step_222 : am_rw mL_step 222 = some (.irem, 1, 0, 0) := by decide +kernel
theorem rL_step_223 : am_rw mL_step 223 = some (.istore 12, 2, 0, 0) := by decide +kernel
theorem rL_step_225 : am_rw mL_step 225 = some (.aload_n 0, 1, 0, 0) := by decide +kernel
theorem rL_step_226 : am_rw mL_step 226 = some (.iload 7, 2, 0, 0) := by decide +kernel
theorem rL_step_228 : am_rw mL_step 228 = some (.iconst 3, 1, 3, 0) := by decide +kernel
theorem rL_step_229 : am_rw mL_step 229 = some (.irem, 1, 0, 0) := by decide +kernel
theorem rL_step_230 : am_rw mL_step 230 = some (.iload 12, 2, 0, 0) := by decide +kernel
theorem rL_step_232 : am_rw mL_step 232 = some (.iload 6, 2, 0, 0) := by decide +kernel
theorem rL_step_234 : am_rw mL_step 234 = some (.bipush 60, 2, 60, 0) := by decide +kernel
theorem rL_step_236 : am_rw mL_step 236 = some (.idiv, 1, 0, 0) := by decide +kernel
theorem rL_step_237 : am_rw mL_step 237 = some (.sipush 501, 3, 501, 0) := by decide +kernel
theorem rL_step_240 : am_rw mL_step 240 = some (.irem, 1, 0, 0) := by decide +kernel
theorem rL_step_241 : am_rw mL_step 241 = some (.invokevirtual 34, 3, 67, 4) := by decide +kernel
theorem rL_step_244 : am_rw mL_step 244 = some (.sipush 500, 3, 500, 0) := by decide +kernel
theorem rL_step_247 : am_rw mL_step 247 = some (.if_icmp .gt 38, 3, 285, 0) := by decide +kernel
theorem rL_step_250 : am_rw mL_step 250 = some (.aload_n 0, 1, 0, 0) := by decide +kernel
theorem rL_step_251 : am_rw mL_step 251 = some (.iload 7, 2, 0, 0) := by decide +kernel
theorem rL_step_253 : am_rw mL_step 253 = some (.iconst 3, 1, 3, 0) := by decide +kernel
theorem rL_step_254 : am_rw mL_step 254 = some (.irem, 1, 0, 0) := by decide +kernel
theorem rL_step_255 : am_rw mL_step 255 = some (.iload 12, 2, 0, 0) := by decide +kernel
theorem rL_step_257 : am_rw mL_step 257 = some (.iload 6, 2, 0, 0) := by decide +kernel
theorem rL_step_259 : am_rw mL_step 259 = some (.bipush 60, 2, 60, 0) := by decide +kernel
theorem rL_step_261 : am_rw mL_step 261 = some (.idiv, 1, 0, 0) := by decide +kernel
theorem rL_step_262 : am_rw mL_step 262 = some (.sipush 501, 3, 501, 0) := by decide +kernel
theorem rL_step_265 : am_rw mL_step 265 = some (.irem, 1, 0, 0) := by decide +kernel
theorem rL_step_266 : am_rw mL_step 266 = some (.invokevirtual 34, 3, 67, 4) := by decide +kernel
theorem rL_step_269 : am_rw mL_step 269 = some (.iload 6, 2, 0, 0) := by decide +kernel
theorem rL_step_271 : am_rw mL_step 271 = some (.bipush 60, 2, 60, 0) := by decide +kernel
theorem rL_step_273 : am_rw mL_step 273 = some (.idiv, 1, 0, 0) := by decide +kernel
theorem rL_step_274 : am_rw mL_step 274 = some (.sipush 501, 3, 501, 0) := by decide +kernel
theorem rL_step_277 : am_rw mL_step 277 = some (.irem, 1, 0, 0) := by decide +kernel
theorem rL_step_278 : am_rw mL_step 278 = some (.if_icmp .ne 7, 3, 285, 0) := by decide +kernel
theorem rL_step_281 : am_rw mL_step 281 = some (.iconst 1, 1, 1, 0) := by decide +kernel
theorem rL_step_282 : am_rw mL_step 282 = some (.goto 4, 3, 286, 0) := by decide +kernel
theorem rL_step_285 : am_rw mL_step 285 = some (.iconst 0, 1, 0, 0) := by decide +kernel
theorem rL_step_286 : am_rw mL_step 286 = some (.ireturn, 1, 0, 0) := by decide +kernel
theorem rL_step_287 : am_rw mL_step 287 = some (.aload_n 1, 1, 0, 0) := by decide +kernel
theorem rL_step_288 : am_rw mL_step 288 = some (.iload 9, 2, 0, 0) := by decide +kernel
theorem rL_step_290 : am_rw mL_step 290 = some (.iaload, 1, 0, 0) := by decide +kernel
theorem rL_step_291 : am_rw mL_step 291 = some (.iconst 1, 1, 1, 0) := by decide +kernel
theorem rL_step_292 : am_rw mL_step 292 = some (.if_icmp .ne 18, 3, 310, 0) := by decide +kernel
theorem rL_step_295 : am_rw mL_step 295 = some (.aload_n 0, 1, 0, 0) := by decide +kernel
theorem rL_step_296 : am_rw mL_step 296 = some (.iload 8, 2, 0, 0) := by decide +kernel
theorem rL_step_298 : am_rw mL_step 298 = some (.invokevirtual 38, 3, 78, 2) := by decide +kernel
theorem rL_step_301 : am_rw mL_step 301 = some (.ifCond .lt 7, 3, 308, 0) := by decide +kernel
theorem rL_step_304 : am_rw mL_step 304 = some (.iconst 1, 1, 1, 0) := by decide +kernel
theorem rL_step_305 : am_rw mL_step 305 = some (.goto 4, 3, 309, 0) := by decide +kernel
theorem rL_step_308 : am_rw mL_step 308 = some (.iconst 0, 1, 0, 0) := by decide +kernel
theorem rL_step_309 : am_rw mL_step 309 = some (.ireturn, 1, 0, 0) := by decide +kernel
theorem rL_step_310 : am_rw mL_step 310 = some (.aload_n 1, 1, 0, 0) := by decide +kernel
theorem rL_step_311 : am_rw mL_step 311 = some (.iload 9, 2, 0, 0) := by decide +kernel
theorem rL_step_313 : am_rw mL_step 313 = some (.iconst 1, 1, 1, 0) := by decide +kernel
theorem rL_step_314 : am_rw mL_step 314 = some (.iastore, 1, 0, 0) := by decide +kernel
theorem rL_step_315 : am_rw mL_step 315 = some (.aload_n 1, 1, 0, 0) := by decide +kernel
theorem rL_step_316 : am_rw mL_step 316 = some (.iload 9, 2, 0, 0) := by decide +kernel
theorem rL_step_318 : am_rw mL_step 318 = some (.iconst 1, 1, 1, 0) := by decide +kernel
theorem rL_step_319 : am_rw mL_step 319 = some (.iadd, 1, 0, 0) := by decide +kernel
theorem rL_step_320 : am_rw mL_step 320 = some (.iload 6, 2, 0, 0) := by decide +kernel
theorem rL_step_322 : am_rw mL_step 322 = some (.bipush 6, 2, 6, 0) := by decide +kernel
theorem rL_step_324 : am_rw mL_step 324 = some (.irem, 1, 0, 0) := by decide +kernel
theorem rL_step_325 : am_rw mL_step 325 = some (.iastore, 1, 0, 0) := by decide +kernel
theorem rL_step_326 : am_rw mL_step 326 = some (.aload_n 1, 1, 0, 0) := by decide +kernel
theorem rL_step_327 : am_rw mL_step 327 = some (.iload 9, 2, 0, 0) := by decide +kernel
theorem rL_step_329 : am_rw mL_step 329 = some (.iconst 2, 1, 2, 0) := by decide +kernel
theorem rL_step_330 : am_rw mL_step 330 = some (.iadd, 1, 0, 0) := by decide +kernel
theorem rL_step_331 : am_rw mL_step 331 = some (.iconst 1, 1, 1, 0) := by decide +kernel
theorem rL_step_332 : am_rw mL_step 332 = some (.iload 7, 2, 0, 0) := by decide +kernel
theorem rL_step_334 : am_rw mL_step 334 = some (.sipush 1000, 3, 1000, 0) := by decide +kernel
theorem rL_step_337 : am_rw mL_step 337 = some (.irem, 1, 0, 0) := by decide +kernel
theorem rL_step_338 : am_rw mL_step 338 = some (.iadd, 1, 0, 0) := by decide +kernel
theorem rL_step_339 : am_rw mL_step 339 = some (.iastore, 1, 0, 0) := by decide +kernel
theorem rL_step_340 : am_rw mL_step 340 = some (.aload_n 0, 1, 0, 0) := by decide +kernel
theorem rL_step_341 : am_rw mL_step 341 = some (.iload 8, 2, 0, 0) := by decide +kernel
theorem rL_step_343 : am_rw mL_step 343 = some (.iload 6, 2, 0, 0) := by decide +kernel
theorem rL_step_345 : am_rw mL_step 345 = some (.bipush 6, 2, 6, 0) := by decide +kernel
theorem rL_step_347 : am_rw mL_step 347 = some (.irem, 1, 0, 0) := by decide +kernel
theorem rL_step_348 : am_rw mL_step 348 = some (.iconst 1, 1, 1, 0) := by decide +kernel
theorem rL_step_349 : am_rw mL_step 349 = some (.iload 7, 2, 0, 0) := by decide +kernel
theorem rL_step_351 : am_rw mL_step 351 = some (.sipush 1000, 3, 1000, 0) := by decide +kernel
theorem rL_step_354 : am_rw mL_step 354 = some (.irem, 1, 0, 0) := by decide +kernel
theorem rL_step_355 : am_rw mL_step 355 = some (.iadd, 1, 0, 0) := by decide +kernel
theorem rL_step_356 : am_rw mL_step 356 = some (.invokevirtual 41, 3, 75, 4) := by decide +kernel
theorem rL_step_359 : am_rw mL_step 359 = some (.aload_n 0, 1, 0, 0) := by decide +kernel
theorem rL_step_360 : am_rw mL_step 360 = some (.iload 8, 2, 0, 0) := by decide +kernel
theorem rL_step_362 : am_rw mL_step 362 = some (.invokevirtual 38, 3, 78, 2) := by decide +kernel
theorem rL_step_365 : am_rw mL_step 365 = some (.ifCond .ne 18, 3, 383, 0) := by decide +kernel
theorem rL_step_368 : am_rw mL_step 368 = some (.aload_n 0, 1, 0, 0) := by decide +kernel
theorem rL_step_369 : am_rw mL_step 369 = some (.iload 8, 2, 0, 0) := by decide +kernel
theorem rL_step_371 : am_rw mL_step 371 = some (.invokevirtual 45, 3, 84, 2) := by decide +kernel
theorem rL_step_374 : am_rw mL_step 374 = some (.ldc 48, 2, 0, 1065353216) := by decide +kernel
theorem rL_step_376 : am_rw mL_step 376 = some (.if_icmp .ne 7, 3, 383, 0) := by decide +kernel
theorem rL_step_379 : am_rw mL_step 379 = some (.iconst 1, 1, 1, 0) := by decide +kernel
theorem rL_step_380 : am_rw mL_step 380 = some (.goto 4, 3, 384, 0) := by decide +kernel
theorem rL_step_383 : am_rw mL_step 383 = some (.iconst 0, 1, 0, 0) := by decide +kernel
theorem rL_step_384 : am_rw mL_step 384 = some (.ireturn, 1, 0, 0) := by decide +kernel
theorem rL_step_385 : am_rw mL_step 385 = some (.aload_n 1, 1, 0, 0) := by decide +kernel
theorem rL_step_386 : am_rw mL_step 386 = some (.iload 9, 2, 0, 0) := by decide +kernel
theorem rL_step_388 : am_rw mL_step 388 = some (.iaload, 1, 0, 0) := by decide +kernel
theorem rL_step_389 : am_rw mL_step 389 = some (.ifCond .eq 16, 3, 405, 0) := by decide +kernel
theorem rL_step_392 : am_rw mL_step 392 = some (.aload_n 0, 1, 0, 0) := by decide +kernel
theorem rL_step_393 : am_rw mL_step 393 = some (.iload 8, 2, 0, 0) := by decide +kernel
theorem rL_step_395 : am_rw mL_step 395 = some (.iload 6, 2, 0, 0) := by decide +kernel
theorem rL_step_397 : am_rw mL_step 397 = some (.iload 7, 2, 0, 0) := by decide +kernel
theorem rL_step_399 : am_rw mL_step 399 = some (.invokestatic 49, 3, 124, 4) := by decide +kernel
theorem rL_step_402 : am_rw mL_step 402 = some (.ifCond .eq 7, 3, 409, 0) := by decide +kernel
theorem rL_step_405 : am_rw mL_step 405 = some (.iconst 1, 1, 1, 0) := by decide +kernel
theorem rL_step_406 : am_rw mL_step 406 = some (.goto 4, 3, 410, 0) := by decide +kernel
theorem rL_step_409 : am_rw mL_step 409 = some (.iconst 0, 1, 0, 0) := by decide +kernel
theorem rL_step_410 : am_rw mL_step 410 = some (.ireturn, 1, 0, 0) := by decide +kernel
theorem rL_step_411 : am_rw mL_step 411 = some (.aload_n 1, 1, 0, 0) := by decide +kernel
theorem rL_step_412 : am_rw mL_step 412 = some (.iload 9, 2, 0, 0) := by decide +kernel
theorem rL_step_414 : am_rw mL_step 414 = some (.iaload, 1, 0, 0) := by decide +kernel
theorem rL_step_415 : am_rw mL_step 415 = some (.ifCond .ne 18, 3, 433, 0) := by decide +kernel
theorem rL_step_418 : am_rw mL_step 418 = some (.aload_n 0, 1, 0, 0) := by decide +kernel
theorem rL_step_419 : am_rw mL_step 419 = some (.iload 8, 2, 0, 0) := by decide +kernel
theorem rL_step_421 : am_rw mL_step 421 = some (.invokevirtual 53, 3, 85, 2) := by decide +kernel
theorem rL_step_424 : am_rw mL_step 424 = some (.ifCond .ne 7, 3, 431, 0) := by decide +kernel
theorem rL_step_427 : am_rw mL_step 427 = some (.iconst 1, 1, 1, 0) := by decide +kernel
theorem rL_step_428 : am_rw mL_step 428 = some (.goto 4, 3, 432, 0) := by decide +kernel
theorem rL_step_431 : am_rw mL_step 431 = some (.iconst 0, 1, 0, 0) := by decide +kernel
theorem rL_step_432 : am_rw mL_step 432 = some (.ireturn, 1, 0, 0) := by decide +kernel
theorem rL_step_433 : am_rw mL_step 433 = some (.aload_n 1, 1, 0, 0) := by decide +kernel
theorem rL_step_434 : am_rw mL_step 434 = some (.iload 9, 2, 0, 0) := by decide +kernel
theorem rL_step_436 : am_rw mL_step 436 = some (.iconst 3, 1, 3, 0) := by decide +kernel
theorem rL_step_437 : am_rw mL_step 437 = some (.iadd, 1, 0, 0) := by decide +kernel
theorem rL_step_438 : am_rw mL_step 438 = some (.iconst 1, 1, 1, 0) := by decide +kernel
theorem rL_step_439 : am_rw mL_step 439 = some (.iastore, 1, 0, 0) := by decide +kernel
theorem rL_step_440 : am_rw mL_step 440 = some (.aload_n 1, 1, 0, 0) := by decide +kernel
theorem rL_step_441 : am_rw mL_step 441 = some (.iload 9, 2, 0, 0) := by decide +kernel
theorem rL_step_443 : am_rw mL_step 443 = some (.iconst 4, 1, 4, 0) := by decide +kernel
theorem rL_step_444 : am_rw mL_step 444 = some (.iadd, 1, 0, 0) := by decide +kernel
theorem rL_step_445 : am_rw mL_step 445 = some (.iload 6, 2, 0, 0) := by decide +kernel
theorem rL_step_447 : am_rw mL_step 447 = some (.sipush 10001, 3, 10001, 0) := by decide +kernel
theorem rL_step_450 : am_rw mL_step 450 = some (.irem, 1, 0, 0) := by decide +kernel
theorem rL_step_451 : am_rw mL_step 451 = some (.iastore, 1, 0, 0) := by decide +kernel
theorem rL_step_452 : am_rw mL_step 452 = some (.aload_n 1, 1, 0, 0) := by decide +kernel
theorem rL_step_453 : am_rw mL_step 453 = some (.iload 9, 2, 0, 0) := by decide +kernel
theorem rL_step_455 : am_rw mL_step 455 = some (.iconst 5, 1, 5, 0) := by decide +kernel
theorem rL_step_456 : am_rw mL_step 456 = some (.iadd, 1, 0, 0) := by decide +kernel
theorem rL_step_457 : am_rw mL_step 457 = some (.iconst 1, 1, 1, 0) := by decide +kernel
theorem rL_step_458 : am_rw mL_step 458 = some (.iload 7, 2, 0, 0) := by decide +kernel
theorem rL_step_460 : am_rw mL_step 460 = some (.sipush 500, 3, 500, 0) := by decide +kernel
theorem rL_step_463 : am_rw mL_step 463 = some (.irem, 1, 0, 0) := by decide +kernel
theorem rL_step_464 : am_rw mL_step 464 = some (.iadd, 1, 0, 0) := by decide +kernel
theorem rL_step_465 : am_rw mL_step 465 = some (.iastore, 1, 0, 0) := by decide +kernel
theorem rL_step_466 : am_rw mL_step 466 = some (.aload_n 0, 1, 0, 0) := by decide +kernel
theorem rL_step_467 : am_rw mL_step 467 = some (.iload 8, 2, 0, 0) := by decide +kernel
theorem rL_step_469 : am_rw mL_step 469 = some (.aload_n 1, 1, 0, 0) := by decide +kernel
theorem rL_step_470 : am_rw mL_step 470 = some (.iload 9, 2, 0, 0) := by decide +kernel
theorem rL_step_472 : am_rw mL_step 472 = some (.iconst 4, 1, 4, 0) := by decide +kernel
theorem rL_step_473 : am_rw mL_step 473 = some (.iadd, 1, 0, 0) := by decide +kernel
theorem rL_step_474 : am_rw mL_step 474 = some (.iaload, 1, 0, 0) := by decide +kernel
theorem rL_step_475 : am_rw mL_step 475 = some (.aload_n 1, 1, 0, 0) := by decide +kernel
theorem rL_step_476 : am_rw mL_step 476 = some (.iload 9, 2, 0, 0) := by decide +kernel
theorem rL_step_478 : am_rw mL_step 478 = some (.iconst 5, 1, 5, 0) := by decide +kernel
theorem rL_step_479 : am_rw mL_step 479 = some (.iadd, 1, 0, 0) := by decide +kernel
theorem rL_step_480 : am_rw mL_step 480 = some (.iaload, 1, 0, 0) := by decide +kernel
theorem rL_step_481 : am_rw mL_step 481 = some (.iload 6, 2, 0, 0) := by decide +kernel
theorem rL_step_483 : am_rw mL_step 483 = some (.bipush 13, 2, 13, 0) := by decide +kernel
theorem rL_step_485 : am_rw mL_step 485 = some (.irem, 1, 0, 0) := by decide +kernel
theorem rL_step_486 : am_rw mL_step 486 = some (.invokevirtual 56, 3, 80, 5) := by decide +kernel
theorem rL_step_489 : am_rw mL_step 489 = some (.iconst 1, 1, 1, 0) := by decide +kernel
theorem rL_step_490 : am_rw mL_step 490 = some (.ireturn, 1, 0, 0) := by decide +kernel
theorem rL_step_491 : am_rw mL_step 491 = some (.aload_n 1, 1, 0, 0) := by decide +kernel
theorem rL_step_492 : am_rw mL_step 492 = some (.iconst 1, 1, 1, 0) := by decide +kernel
theorem rL_step_493 : am_rw mL_step 493 = some (.iaload, 1, 0, 0) := by decide +kernel
theorem rL_step_494 : am_rw mL_step 494 = some (.bipush 12, 2, 12, 0) := by decide +kernel
theorem rL_step_496 : am_rw mL_step 496 = some (.if_icmp .eq 46, 3, 542, 0) := by decide +kernel
theorem rL_step_499 : am_rw mL_step 499 = some (.aload_n 0, 1, 0, 0) := by decide +kernel
theorem rL_step_500 : am_rw mL_step 500 = some (.iload 6, 2, 0, 0) := by decide +kernel
theorem rL_step_502 : am_rw mL_step 502 = some (.bipush 6, 2, 6, 0) := by decide +kernel
theorem rL_step_504 : am_rw mL_step 504 = some (.irem, 1, 0, 0) := by decide +kernel
theorem rL_step_505 : am_rw mL_step 505 = some (.invokevirtual 20, 3, 65, 2) := by decide +kernel
theorem rL_step_508 : am_rw mL_step 508 = some (.iconst (-1), 1, 1, 1) := by decide +kernel
theorem rL_step_509 : am_rw mL_step 509 = some (.if_icmp .eq 33, 3, 542, 0) := by decide +kernel
theorem rL_step_512 : am_rw mL_step 512 = some (.aload_n 1, 1, 0, 0) := by decide +kernel
theorem rL_step_513 : am_rw mL_step 513 = some (.iconst 0, 1, 0, 0) := by decide +kernel
theorem rL_step_514 : am_rw mL_step 514 = some (.iaload, 1, 0, 0) := by decide +kernel
theorem rL_step_515 : am_rw mL_step 515 = some (.sipush 150, 3, 150, 0) := by decide +kernel
theorem rL_step_518 : am_rw mL_step 518 = some (.if_icmp .gt 24, 3, 542, 0) := by decide +kernel
theorem rL_step_521 : am_rw mL_step 521 = some (.aload_n 0, 1, 0, 0) := by decide +kernel
theorem rL_step_522 : am_rw mL_step 522 = some (.aload_n 1, 1, 0, 0) := by decide +kernel
theorem rL_step_523 : am_rw mL_step 523 = some (.aload_n 3, 1, 0, 0) := by decide +kernel
theorem rL_step_524 : am_rw mL_step 524 = some (.iload 6, 2, 0, 0) := by decide +kernel
theorem rL_step_526 : am_rw mL_step 526 = some (.bipush 6, 2, 6, 0) := by decide +kernel
theorem rL_step_528 : am_rw mL_step 528 = some (.irem, 1, 0, 0) := by decide +kernel
theorem rL_step_529 : am_rw mL_step 529 = some (.iconst 1, 1, 1, 0) := by decide +kernel
theorem rL_step_530 : am_rw mL_step 530 = some (.iload 7, 2, 0, 0) := by decide +kernel
theorem rL_step_532 : am_rw mL_step 532 = some (.bipush 48, 2, 48, 0) := by decide +kernel
theorem rL_step_534 : am_rw mL_step 534 = some (.irem, 1, 0, 0) := by decide +kernel
theorem rL_step_535 : am_rw mL_step 535 = some (.iadd, 1, 0, 0) := by decide +kernel
theorem rL_step_536 : am_rw mL_step 536 = some (.invokestatic 60, 3, 125, 5) := by decide +kernel
theorem rL_step_539 : am_rw mL_step 539 = some (.ifCond .eq 7, 3, 546, 0) := by decide +kernel
theorem rL_step_542 : am_rw mL_step 542 = some (.iconst 1, 1, 1, 0) := by decide +kernel
theorem rL_step_543 : am_rw mL_step 543 = some (.goto 4, 3, 547, 0) := by decide +kernel
theorem rL_step_546 : am_rw mL_step 546 = some (.iconst 0, 1, 0, 0) := by decide +kernel
theorem rL_step_547 : am_rw mL_step 547 = some (.ireturn, 1, 0, 0) := by decide +kernel
theorem rL_step_548 : am_rw mL_step 548 = some (.aload_n 1, 1, 0, 0) := by decide +kernel
theorem rL_step_549 : am_rw mL_step 549 = some (.iconst 1, 1, 1, 0) := by decide +kernel
theorem rL_step_550 : am_rw mL_step 550 = some (.iaload, 1, 0, 0) := by decide +kernel
theorem rL_step_551 : am_rw mL_step 551 = some (.ifCond .eq 28, 3, 579, 0) := by decide +kernel
theorem rL_step_554 : am_rw mL_step 554 = some (.aload_n 1, 1, 0, 0) := by decide +kernel
theorem rL_step_555 : am_rw mL_step 555 = some (.iload 9, 2, 0, 0) := by decide +kernel
theorem rL_step_557 : am_rw mL_step 557 = some (.iaload, 1, 0, 0) := by decide +kernel
theorem rL_step_558 : am_rw mL_step 558 = some (.ifCond .eq 21, 3, 579, 0) := by decide +kernel
theorem rL_step_561 : am_rw mL_step 561 = some (.aload_n 0, 1, 0, 0) := by decide +kernel
theorem rL_step_562 : am_rw mL_step 562 = some (.aload_n 1, 1, 0, 0) := by decide +kernel
theorem rL_step_563 : am_rw mL_step 563 = some (.aload_n 2, 1, 0, 0) := by decide +kernel
theorem rL_step_564 : am_rw mL_step 564 = some (.aload_n 3, 1, 0, 0) := by decide +kernel
theorem rL_step_565 : am_rw mL_step 565 = some (.iload 8, 2, 0, 0) := by decide +kernel
theorem rL_step_567 : am_rw mL_step 567 = some (.iload 6, 2, 0, 0) := by decide +kernel
theorem rL_step_569 : am_rw mL_step 569 = some (.aload_n 1, 1, 0, 0) := by decide +kernel
theorem rL_step_570 : am_rw mL_step 570 = some (.iconst 1, 1, 1, 0) := by decide +kernel
theorem rL_step_571 : am_rw mL_step 571 = some (.iaload, 1, 0, 0) := by decide +kernel
theorem rL_step_572 : am_rw mL_step 572 = some (.irem, 1, 0, 0) := by decide +kernel
theorem rL_step_573 : am_rw mL_step 573 = some (.invokestatic 63, 3, 127, 6) := by decide +kernel
theorem rL_step_576 : am_rw mL_step 576 = some (.ifCond .eq 7, 3, 583, 0) := by decide +kernel
theorem rL_step_579 : am_rw mL_step 579 = some (.iconst 1, 1, 1, 0) := by decide +kernel
theorem rL_step_580 : am_rw mL_step 580 = some (.goto 4, 3, 584, 0) := by decide +kernel
theorem rL_step_583 : am_rw mL_step 583 = some (.iconst 0, 1, 0, 0) := by decide +kernel
theorem rL_step_584 : am_rw mL_step 584 = some (.ireturn, 1, 0, 0) := by decide +kernel
theorem rL_step_585 : am_rw mL_step 585 = some (.aload_n 1, 1, 0, 0) := by decide +kernel
theorem rL_step_586 : am_rw mL_step 586 = some (.iconst 1, 1, 1, 0) := by decide +kernel
theorem rL_step_587 : am_rw mL_step 587 = some (.iaload, 1, 0, 0) := by decide +kernel
theorem rL_step_588 : am_rw mL_step 588 = some (.ifCond .eq 31, 3, 619, 0) := by decide +kernel
theorem rL_step_591 : am_rw mL_step 591 = some (.aload_n 1, 1, 0, 0) := by decide +kernel
theorem rL_step_592 : am_rw mL_step 592 = some (.iconst 2, 1, 2, 0) := by decide +kernel
theorem rL_step_593 : am_rw mL_step 593 = some (.iaload, 1, 0, 0) := by decide +kernel
theorem rL_step_594 : am_rw mL_step 594 = some (.bipush 12, 2, 12, 0) := by decide +kernel
theorem rL_step_596 : am_rw mL_step 596 = some (.if_icmp .eq 23, 3, 619, 0) := by decide +kernel
theorem rL_step_599 : am_rw mL_step 599 = some (.aload_n 0, 1, 0, 0) := by decide +kernel
theorem rL_step_600 : am_rw mL_step 600 = some (.aload_n 1, 1, 0, 0) := by decide +kernel
theorem rL_step_601 : am_rw mL_step 601 = some (.aload_n 2, 1, 0, 0) := by decide +kernel
theorem rL_step_602 : am_rw mL_step 602 = some (.aload_n 3, 1, 0, 0) := by decide +kernel
theorem rL_step_603 : am_rw mL_step 603 = some (.aload 4, 2, 0, 0) := by decide +kernel
theorem rL_step_605 : am_rw mL_step 605 = some (.iload 8, 2, 0, 0) := by decide +kernel
theorem rL_step_607 : am_rw mL_step 607 = some (.iload 6, 2, 0, 0) := by decide +kernel
theorem rL_step_609 : am_rw mL_step 609 = some (.aload_n 1, 1, 0, 0) := by decide +kernel
theorem rL_step_610 : am_rw mL_step 610 = some (.iconst 1, 1, 1, 0) := by decide +kernel
theorem rL_step_611 : am_rw mL_step 611 = some (.iaload, 1, 0, 0) := by decide +kernel
theorem rL_step_612 : am_rw mL_step 612 = some (.irem, 1, 0, 0) := by decide +kernel
theorem rL_step_613 : am_rw mL_step 613 = some (.invokestatic 67, 3, 130, 7) := by decide +kernel
theorem rL_step_616 : am_rw mL_step 616 = some (.ifCond .eq 7, 3, 623, 0) := by decide +kernel
theorem rL_step_619 : am_rw mL_step 619 = some (.iconst 1, 1, 1, 0) := by decide +kernel
theorem rL_step_620 : am_rw mL_step 620 = some (.goto 4, 3, 624, 0) := by decide +kernel
theorem rL_step_623 : am_rw mL_step 623 = some (.iconst 0, 1, 0, 0) := by decide +kernel
theorem rL_step_624 : am_rw mL_step 624 = some (.ireturn, 1, 0, 0) := by decide +kernel
theorem rL_step_625 : am_rw mL_step 625 = some (.aload_n 1, 1, 0, 0) := by decide +kernel
theorem rL_step_626 : am_rw mL_step 626 = some (.iconst 0, 1, 0, 0) := by decide +kernel
theorem rL_step_627 : am_rw mL_step 627 = some (.iaload, 1, 0, 0) := by decide +kernel
theorem rL_step_628 : am_rw mL_step 628 = some (.sipush 190, 3, 190, 0) := by decide +kernel
theorem rL_step_631 : am_rw mL_step 631 = some (.if_icmp .gt 19, 3, 650, 0) := by decide +kernel
theorem rL_step_634 : am_rw mL_step 634 = some (.aload_n 0, 1, 0, 0) := by decide +kernel
theorem rL_step_635 : am_rw mL_step 635 = some (.aload_n 1, 1, 0, 0) := by decide +kernel
theorem rL_step_636 : am_rw mL_step 636 = some (.aload 4, 2, 0, 0) := by decide +kernel
theorem rL_step_638 : am_rw mL_step 638 = some (.iconst 1, 1, 1, 0) := by decide +kernel
theorem rL_step_639 : am_rw mL_step 639 = some (.iload 6, 2, 0, 0) := by decide +kernel
theorem rL_step_641 : am_rw mL_step 641 = some (.iconst 4, 1, 4, 0) := by decide +kernel
theorem rL_step_642 : am_rw mL_step 642 = some (.irem, 1, 0, 0) := by decide +kernel
theorem rL_step_643 : am_rw mL_step 643 = some (.iadd, 1, 0, 0) := by decide +kernel
theorem rL_step_644 : am_rw mL_step 644 = some (.invokestatic 71, 3, 131, 4) := by decide +kernel
theorem rL_step_647 : am_rw mL_step 647 = some (.ifCond .eq 7, 3, 654, 0) := by decide +kernel
theorem rL_step_650 : am_rw mL_step 650 = some (.iconst 1, 1, 1, 0) := by decide +kernel
theorem rL_step_651 : am_rw mL_step 651 = some (.goto 4, 3, 655, 0) := by decide +kernel
theorem rL_step_654 : am_rw mL_step 654 = some (.iconst 0, 1, 0, 0) := by decide +kernel
theorem rL_step_655 : am_rw mL_step 655 = some (.ireturn, 1, 0, 0) := by decide +kernel
theorem rL_key_0 : am_rw mL_key 0 = some (.iload_n 0, 1, 0, 0) := by decide +kernel
theorem rL_key_1 : am_rw mL_key 1 = some (.ifCond .ge 10, 3, 11, 0) := by decide +kernel
theorem rL_key_4 : am_rw mL_key 4 = some (.iload_n 0, 1, 0, 0) := by decide +kernel
theorem rL_key_5 : am_rw mL_key 5 = some (.ldc 7, 2, 0, 2147483647) := by decide +kernel
theorem rL_key_7 : am_rw mL_key 7 = some (.ixor, 1, 0, 0) := by decide +kernel
theorem rL_key_8 : am_rw mL_key 8 = some (.goto 4, 3, 12, 0) := by decide +kernel
theorem rL_key_11 : am_rw mL_key 11 = some (.iload_n 0, 1, 0, 0) := by decide +kernel
theorem rL_key_12 : am_rw mL_key 12 = some (.ireturn, 1, 0, 0) := by decide +kernel
theorem rL_bits_0 : am_rw mL_bits 0 = some (.iconst 0, 1, 0, 0) := by decide +kernel
theorem rL_bits_1 : am_rw mL_bits 1 = some (.istore_n 1, 1, 0, 0) := by decide +kernel
theorem rL_bits_2 : am_rw mL_bits 2 = some (.iload_n 0, 1, 0, 0) := by decide +kernel
theorem rL_bits_3 : am_rw mL_bits 3 = some (.iload_n 1, 1, 0, 0) := by decide +kernel
theorem rL_bits_4 : am_rw mL_bits 4 = some (.ishr, 1, 0, 0) := by decide +kernel
theorem rL_bits_5 : am_rw mL_bits 5 = some (.iconst 1, 1, 1, 0) := by decide +kernel
theorem rL_bits_6 : am_rw mL_bits 6 = some (.if_icmp .le 9, 3, 15, 0) := by decide +kernel
theorem rL_bits_9 : am_rw mL_bits 9 = some (.iinc 1 1, 3, 0, 0) := by decide +kernel
theorem rL_bits_12 : am_rw mL_bits 12 = some (.goto (-10), 3, 2, 0) := by decide +kernel
theorem rL_bits_15 : am_rw mL_bits 15 = some (.bipush 127, 2, 127, 0) := by decide +kernel
theorem rL_bits_17 : am_rw mL_bits 17 = some (.iload_n 1, 1, 0, 0) := by decide +kernel
theorem rL_bits_18 : am_rw mL_bits 18 = some (.iadd, 1, 0, 0) := by decide +kernel
theorem rL_bits_19 : am_rw mL_bits 19 = some (.bipush 23, 2, 23, 0) := by decide +kernel
theorem rL_bits_21 : am_rw mL_bits 21 = some (.ishl, 1, 0, 0) := by decide +kernel
theorem rL_bits_22 : am_rw mL_bits 22 = some (.iload_n 0, 1, 0, 0) := by decide +kernel
theorem rL_bits_23 : am_rw mL_bits 23 = some (.bipush 23, 2, 23, 0) := by decide +kernel
theorem rL_bits_25 : am_rw mL_bits 25 = some (.iload_n 1, 1, 0, 0) := by decide +kernel
theorem rL_bits_26 : am_rw mL_bits 26 = some (.isub, 1, 0, 0) := by decide +kernel
theorem rL_bits_27 : am_rw mL_bits 27 = some (.ishl, 1, 0, 0) := by decide +kernel
theorem rL_bits_28 : am_rw mL_bits 28 = some (.ldc 75, 2, 0, 8388607) := by decide +kernel
theorem rL_bits_30 : am_rw mL_bits 30 = some (.iand, 1, 0, 0) := by decide +kernel
theorem rL_bits_31 : am_rw mL_bits 31 = some (.iadd, 1, 0, 0) := by decide +kernel
theorem rL_bits_32 : am_rw mL_bits 32 = some (.ireturn, 1, 0, 0) := by decide +kernel
theorem rL_inputs_0 : am_rw mL_inputs 0 = some (.iload_n 0, 1, 0, 0) := by decide +kernel
theorem rL_inputs_1 : am_rw mL_inputs 1 = some (.ifCond .eq 8, 3, 9, 0) := by decide +kernel
theorem rL_inputs_4 : am_rw mL_inputs 4 = some (.iload_n 0, 1, 0, 0) := by decide +kernel
theorem rL_inputs_5 : am_rw mL_inputs 5 = some (.iconst 1, 1, 1, 0) := by decide +kernel
theorem rL_inputs_6 : am_rw mL_inputs 6 = some (.if_icmp .ne 7, 3, 13, 0) := by decide +kernel
theorem rL_inputs_9 : am_rw mL_inputs 9 = some (.iconst 2, 1, 2, 0) := by decide +kernel
theorem rL_inputs_10 : am_rw mL_inputs 10 = some (.goto 13, 3, 23, 0) := by decide +kernel
theorem rL_inputs_13 : am_rw mL_inputs 13 = some (.iload_n 0, 1, 0, 0) := by decide +kernel
theorem rL_inputs_14 : am_rw mL_inputs 14 = some (.iconst 2, 1, 2, 0) := by decide +kernel
theorem rL_inputs_15 : am_rw mL_inputs 15 = some (.if_icmp .ne 7, 3, 22, 0) := by decide +kernel
theorem rL_inputs_18 : am_rw mL_inputs 18 = some (.iconst 3, 1, 3, 0) := by decide +kernel
theorem rL_inputs_19 : am_rw mL_inputs 19 = some (.goto 4, 3, 23, 0) := by decide +kernel
theorem rL_inputs_22 : am_rw mL_inputs 22 = some (.iconst 1, 1, 1, 0) := by decide +kernel
theorem rL_inputs_23 : am_rw mL_inputs 23 = some (.ireturn, 1, 0, 0) := by decide +kernel
theorem rL_types_0 : am_rw mL_types 0 = some (.aload_n 1, 1, 0, 0) := by decide +kernel
theorem rL_types_1 : am_rw mL_types 1 = some (.iconst 0, 1, 0, 0) := by decide +kernel
theorem rL_types_2 : am_rw mL_types 2 = some (.dup2, 1, 0, 0) := by decide +kernel
theorem rL_types_3 : am_rw mL_types 3 = some (.iaload, 1, 0, 0) := by decide +kernel
theorem rL_types_4 : am_rw mL_types 4 = some (.iconst 1, 1, 1, 0) := by decide +kernel
theorem rL_types_5 : am_rw mL_types 5 = some (.iadd, 1, 0, 0) := by decide +kernel
theorem rL_types_6 : am_rw mL_types 6 = some (.iastore, 1, 0, 0) := by decide +kernel
theorem rL_types_7 : am_rw mL_types 7 = some (.aload_n 0, 1, 0, 0) := by decide +kernel
theorem rL_types_8 : am_rw mL_types 8 = some (.iload_n 2, 1, 0, 0) := by decide +kernel
theorem rL_types_9 : am_rw mL_types 9 = some (.i2c, 1, 0, 0) := by decide +kernel
theorem rL_types_10 : am_rw mL_types 10 = some (.invokevirtual 76, 3, 60, 2) := by decide +kernel
theorem rL_types_13 : am_rw mL_types 13 = some (.aload_n 1, 1, 0, 0) := by decide +kernel
theorem rL_types_14 : am_rw mL_types 14 = some (.iconst 0, 1, 0, 0) := by decide +kernel
theorem rL_types_15 : am_rw mL_types 15 = some (.iaload, 1, 0, 0) := by decide +kernel
theorem rL_types_16 : am_rw mL_types 16 = some (.if_icmp .ne 26, 3, 42, 0) := by decide +kernel
theorem rL_types_19 : am_rw mL_types 19 = some (.aload_n 0, 1, 0, 0) := by decide +kernel
theorem rL_types_20 : am_rw mL_types 20 = some (.iconst 0, 1, 0, 0) := by decide +kernel
theorem rL_types_21 : am_rw mL_types 21 = some (.invokevirtual 80, 3, 62, 2) := by decide +kernel
theorem rL_types_24 : am_rw mL_types 24 = some (.iload_n 3, 1, 0, 0) := by decide +kernel
theorem rL_types_25 : am_rw mL_types 25 = some (.ifCond .eq 7, 3, 32, 0) := by decide +kernel
theorem rL_types_28 : am_rw mL_types 28 = some (.iconst (-1), 1, 1, 1) := by decide +kernel
theorem rL_types_29 : am_rw mL_types 29 = some (.goto 6, 3, 35, 0) := by decide +kernel
theorem rL_types_32 : am_rw mL_types 32 = some (.aload_n 1, 1, 0, 0) := by decide +kernel
theorem rL_types_33 : am_rw mL_types 33 = some (.iconst 0, 1, 0, 0) := by decide +kernel
theorem rL_types_34 : am_rw mL_types 34 = some (.iaload, 1, 0, 0) := by decide +kernel
theorem rL_types_35 : am_rw mL_types 35 = some (.if_icmp .ne 7, 3, 42, 0) := by decide +kernel
theorem rL_types_38 : am_rw mL_types 38 = some (.iconst 1, 1, 1, 0) := by decide +kernel
theorem rL_types_39 : am_rw mL_types 39 = some (.goto 4, 3, 43, 0) := by decide +kernel
theorem rL_types_42 : am_rw mL_types 42 = some (.iconst 0, 1, 0, 0) := by decide +kernel
theorem rL_types_43 : am_rw mL_types 43 = some (.ireturn, 1, 0, 0) := by decide +kernel
theorem rL_texts_0 : am_rw mL_texts 0 = some (.iconst 1, 1, 1, 0) := by decide +kernel
theorem rL_texts_1 : am_rw mL_texts 1 = some (.newarray .int, 2, 20, 0) := by decide +kernel
theorem rL_texts_3 : am_rw mL_texts 3 = some (.astore 5, 2, 0, 0) := by decide +kernel
theorem rL_texts_5 : am_rw mL_texts 5 = some (.bipush 8, 2, 8, 0) := by decide +kernel
theorem rL_texts_7 : am_rw mL_texts 7 = some (.newarray .int, 2, 20, 0) := by decide +kernel
theorem rL_texts_9 : am_rw mL_texts 9 = some (.astore 6, 2, 0, 0) := by decide +kernel
theorem rL_texts_11 : am_rw mL_texts 11 = some (.iconst 0, 1, 0, 0) := by decide +kernel
theorem rL_texts_12 : am_rw mL_texts 12 = some (.istore 7, 2, 0, 0) := by decide +kernel
theorem rL_texts_14 : am_rw mL_texts 14 = some (.iload 4, 2, 0, 0) := by decide +kernel
theorem rL_texts_16 : am_rw mL_texts 16 = some (.ldc 84, 2, 0, 60000) := by decide +kernel
theorem rL_texts_18 : am_rw mL_texts 18 = some (.irem, 1, 0, 0) := by decide +kernel
theorem rL_texts_19 : am_rw mL_texts 19 = some (.istore 8, 2, 0, 0) := by decide +kernel
theorem rL_texts_21 : am_rw mL_texts 21 = some (.iconst 0, 1, 0, 0) := by decide +kernel
theorem rL_texts_22 : am_rw mL_texts 22 = some (.istore 9, 2, 0, 0) := by decide +kernel
theorem rL_texts_24 : am_rw mL_texts 24 = some (.aload_n 0, 1, 0, 0) := by decide +kernel
theorem rL_texts_25 : am_rw mL_texts 25 = some (.invokevirtual 85, 3, 61, 1) := by decide +kernel
theorem rL_texts_28 : am_rw mL_texts 28 = some (.ifCond .lt 23, 3, 51, 0) := by decide +kernel
theorem rL_texts_31 : am_rw mL_texts 31 = some (.aload_n 0, 1, 0, 0) := by decide +kernel
theorem rL_texts_32 : am_rw mL_texts 32 = some (.iconst 0, 1, 0, 0) := by decide +kernel
theorem rL_texts_33 : am_rw mL_texts 33 = some (.invokevirtual 80, 3, 62, 2) := by decide +kernel
theorem rL_texts_36 : am_rw mL_texts 36 = some (.ifCond .ne 15, 3, 51, 0) := by decide +kernel
theorem rL_texts_39 : am_rw mL_texts 39 = some (.aload_n 0, 1, 0, 0) := by decide +kernel
theorem rL_texts_40 : am_rw mL_texts 40 = some (.iconst 1, 1, 1, 0) := by decide +kernel
theorem rL_texts_41 : am_rw mL_texts 41 = some (.invokevirtual 80, 3, 62, 2) := by decide +kernel
theorem rL_texts_44 : am_rw mL_texts 44 = some (.ifCond .ne 7, 3, 51, 0) := by decide +kernel
theorem rL_texts_47 : am_rw mL_texts 47 = some (.iconst 1, 1, 1, 0) := by decide +kernel
theorem rL_texts_48 : am_rw mL_texts 48 = some (.goto 4, 3, 52, 0) := by decide +kernel
theorem rL_texts_51 : am_rw mL_texts 51 = some (.iconst 0, 1, 0, 0) := by decide +kernel
theorem rL_texts_52 : am_rw mL_texts 52 = some (.istore 10, 2, 0, 0) := by decide +kernel
theorem rL_texts_54 : am_rw mL_texts 54 = some (.iload 10, 2, 0, 0) := by decide +kernel
theorem rL_texts_56 : am_rw mL_texts 56 = some (.ifCond .eq 495, 3, 551, 0) := by decide +kernel
theorem rL_texts_59 : am_rw mL_texts 59 = some (.iload 9, 2, 0, 0) := by decide +kernel
theorem rL_texts_61 : am_rw mL_texts 61 = some (.ifCond .eq 24, 3, 85, 0) := by decide +kernel
theorem rL_texts_64 : am_rw mL_texts 64 = some (.iload 7, 2, 0, 0) := by decide +kernel
theorem rL_texts_66 : am_rw mL_texts 66 = some (.ifCond .gt 19, 3, 85, 0) := by decide +kernel
theorem rL_texts_69 : am_rw mL_texts 69 = some (.aload 5, 2, 0, 0) := by decide +kernel
theorem rL_texts_71 : am_rw mL_texts 71 = some (.iconst 0, 1, 0, 0) := by decide +kernel
theorem rL_texts_72 : am_rw mL_texts 72 = some (.iaload, 1, 0, 0) := by decide +kernel
theorem rL_texts_73 : am_rw mL_texts 73 = some (.bipush 12, 2, 12, 0) := by decide +kernel
theorem rL_texts_75 : am_rw mL_texts 75 = some (.if_icmp .ge 476, 3, 551, 0) := by decide +kernel
theorem rL_texts_78 : am_rw mL_texts 78 = some (.iload 8, 2, 0, 0) := by decide +kernel
theorem rL_texts_80 : am_rw mL_texts 80 = some (.iconst 5, 1, 5, 0) := by decide +kernel
theorem rL_texts_81 : am_rw mL_texts 81 = some (.irem, 1, 0, 0) := by decide +kernel
theorem rL_texts_82 : am_rw mL_texts 82 = some (.ifCond .le 469, 3, 551, 0) := by decide +kernel
theorem rL_texts_85 : am_rw mL_texts 85 = some (.iload 8, 2, 0, 0) := by decide +kernel
theorem rL_texts_87 : am_rw mL_texts 87 = some (.bipush 31, 2, 31, 0) := by decide +kernel
theorem rL_texts_89 : am_rw mL_texts 89 = some (.imul, 1, 0, 0) := by decide +kernel
theorem rL_texts_90 : am_rw mL_texts 90 = some (.bipush 17, 2, 17, 0) := by decide +kernel
theorem rL_texts_92 : am_rw mL_texts 92 = some (.aload 5, 2, 0, 0) := by decide +kernel
theorem rL_texts_94 : am_rw mL_texts 94 = some (.iconst 0, 1, 0, 0) := by decide +kernel
theorem rL_texts_95 : am_rw mL_texts 95 = some (.iaload, 1, 0, 0) := by decide +kernel
theorem rL_texts_96 : am_rw mL_texts 96 = some (.imul, 1, 0, 0) := by decide +kernel
theorem rL_texts_97 : am_rw mL_texts 97 = some (.iadd, 1, 0, 0) := by decide +kernel
theorem rL_texts_98 : am_rw mL_texts 98 = some (.bipush 11, 2, 11, 0) := by decide +kernel
theorem rL_texts_100 : am_rw mL_texts 100 = some (.iadd, 1, 0, 0) := by decide +kernel
theorem rL_texts_101 : am_rw mL_texts 101 = some (.ldc 89, 2, 0, 60013) := by decide +kernel
theorem rL_texts_103 : am_rw mL_texts 103 = some (.irem, 1, 0, 0) := by decide +kernel
theorem rL_texts_104 : am_rw mL_texts 104 = some (.istore 8, 2, 0, 0) := by decide +kernel
theorem rL_texts_106 : am_rw mL_texts 106 = some (.aload 5, 2, 0, 0) := by decide +kernel
theorem rL_texts_108 : am_rw mL_texts 108 = some (.iconst 0, 1, 0, 0) := by decide +kernel
theorem rL_texts_109 : am_rw mL_texts 109 = some (.iaload, 1, 0, 0) := by decide +kernel
theorem rL_texts_110 : am_rw mL_texts 110 = some (.bipush 10, 2, 10, 0) := by decide +kernel
theorem rL_texts_112 : am_rw mL_texts 112 = some (.if_icmp .le 7, 3, 119, 0) := by decide +kernel
theorem rL_texts_115 : am_rw mL_texts 115 = some (.iconst 1, 1, 1, 0) := by decide +kernel
theorem rL_texts_116 : am_rw mL_texts 116 = some (.goto 4, 3, 120, 0) := by decide +kernel
theorem rL_texts_119 : am_rw mL_texts 119 = some (.iconst 0, 1, 0, 0) := by decide +kernel
theorem rL_texts_120 : am_rw mL_texts 120 = some (.istore 11, 2, 0, 0) := by decide +kernel
theorem rL_texts_122 : am_rw mL_texts 122 = some (.iload 8, 2, 0, 0) := by decide +kernel
theorem rL_texts_124 : am_rw mL_texts 124 = some (.bipush 7, 2, 7, 0) := by decide +kernel
theorem rL_texts_126 : am_rw mL_texts 126 = some (.idiv, 1, 0, 0) := by decide +kernel
theorem rL_texts_127 : am_rw mL_texts 127 = some (.istore 12, 2, 0, 0) := by decide +kernel
theorem rL_texts_129 : am_rw mL_texts 129 = some (.iload 9, 2, 0, 0) := by decide +kernel
theorem rL_texts_131 : am_rw mL_texts 131 = some (.ifCond .ne 276, 3, 407, 0) := by decide +kernel
theorem rL_texts_134 : am_rw mL_texts 134 = some (.iload 11, 2, 0, 0) := by decide +kernel
theorem rL_texts_136 : am_rw mL_texts 136 = some (.ifCond .ne 28, 3, 164, 0) := by decide +kernel
theorem rL_texts_139 : am_rw mL_texts 139 = some (.iload 7, 2, 0, 0) := by decide +kernel
theorem rL_texts_141 : am_rw mL_texts 141 = some (.iconst 3, 1, 3, 0) := by decide +kernel
theorem rL_texts_142 : am_rw mL_texts 142 = some (.if_icmp .ne 29, 3, 171, 0) := by decide +kernel
theorem rL_texts_145 : am_rw mL_texts 145 = some (.iload 12, 2, 0, 0) := by decide +kernel
theorem rL_texts_147 : am_rw mL_texts 147 = some (.bipush 9, 2, 9, 0) := by decide +kernel
theorem rL_texts_149 : am_rw mL_texts 149 = some (.irem, 1, 0, 0) := by decide +kernel
theorem rL_texts_150 : am_rw mL_texts 150 = some (.iconst 4, 1, 4, 0) := by decide +kernel
theorem rL_texts_151 : am_rw mL_texts 151 = some (.if_icmp .le 20, 3, 171, 0) := by decide +kernel
theorem rL_texts_154 : am_rw mL_texts 154 = some (.iload 12, 2, 0, 0) := by decide +kernel
theorem rL_texts_156 : am_rw mL_texts 156 = some (.bipush 9, 2, 9, 0) := by decide +kernel
theorem rL_texts_158 : am_rw mL_texts 158 = some (.irem, 1, 0, 0) := by decide +kernel
theorem rL_texts_159 : am_rw mL_texts 159 = some (.bipush 8, 2, 8, 0) := by decide +kernel
theorem rL_texts_161 : am_rw mL_texts 161 = some (.if_icmp .ge 10, 3, 171, 0) := by decide +kernel
theorem rL_texts_164 : am_rw mL_texts 164 = some (.iload 12, 2, 0, 0) := by decide +kernel
theorem rL_texts_166 : am_rw mL_texts 166 = some (.iconst 3, 1, 3, 0) := by decide +kernel
theorem rL_texts_167 : am_rw mL_texts 167 = some (.irem, 1, 0, 0) := by decide +kernel
theorem rL_texts_168 : am_rw mL_texts 168 = some (.goto 8, 3, 176, 0) := by decide +kernel
theorem rL_texts_171 : am_rw mL_texts 171 = some (.iload 12, 2, 0, 0) := by decide +kernel
theorem rL_texts_173 : am_rw mL_texts 173 = some (.bipush 9, 2, 9, 0) := by decide +kernel
theorem rL_texts_175 : am_rw mL_texts 175 = some (.irem, 1, 0, 0) := by decide +kernel
theorem rL_texts_176 : am_rw mL_texts 176 = some (.istore 13, 2, 0, 0) := by decide +kernel
theorem rL_texts_178 : am_rw mL_texts 178 = some (.iload 7, 2, 0, 0) := by decide +kernel
theorem rL_texts_180 : am_rw mL_texts 180 = some (.ifCond .ne 7, 3, 187, 0) := by decide +kernel
theorem rL_texts_183 : am_rw mL_texts 183 = some (.iconst 1, 1, 1, 0) := by decide +kernel
theorem rL_texts_184 : am_rw mL_texts 184 = some (.goto 4, 3, 188, 0) := by decide +kernel
theorem rL_texts_187 : am_rw mL_texts 187 = some (.iconst 0, 1, 0, 0) := by decide +kernel
theorem rL_texts_188 : am_rw mL_texts 188 = some (.istore 14, 2, 0, 0) := by decide +kernel
theorem rL_texts_190 : am_rw mL_texts 190 = some (.iload 13, 2, 0, 0) := by decide +kernel
theorem rL_texts_192 : am_rw mL_texts 192 = some (.iconst 5, 1, 5, 0) := by decide +kernel
theorem rL_texts_193 : am_rw mL_texts 193 = some (.if_icmp .eq 17, 3, 210, 0) := by decide +kernel
theorem rL_texts_196 : am_rw mL_texts 196 = some (.iload 13, 2, 0, 0) := by decide +kernel
theorem rL_texts_198 : am_rw mL_texts 198 = some (.bipush 6, 2, 6, 0) := by decide +kernel
theorem rL_texts_200 : am_rw mL_texts 200 = some (.if_icmp .eq 10, 3, 210, 0) := by decide +kernel
theorem rL_texts_203 : am_rw mL_texts 203 = some (.iload 13, 2, 0, 0) := by decide +kernel
theorem rL_texts_205 : am_rw mL_texts 205 = some (.bipush 7, 2, 7, 0) := by decide +kernel
theorem rL_texts_207 : am_rw mL_texts 207 = some (.if_icmp .ne 175, 3, 382, 0) := by decide +kernel
theorem rL_texts_210 : am_rw mL_texts 210 = some (.iload 12, 2, 0, 0) := by decide +kernel
theorem rL_texts_212 : am_rw mL_texts 212 = some (.bipush 9, 2, 9, 0) := by decide +kernel
theorem rL_texts_214 : am_rw mL_texts 214 = some (.idiv, 1, 0, 0) := by decide +kernel
theorem rL_texts_215 : am_rw mL_texts 215 = some (.iconst 5, 1, 5, 0) := by decide +kernel
theorem rL_texts_216 : am_rw mL_texts 216 = some (.irem, 1, 0, 0) := by decide +kernel
theorem rL_texts_217 : am_rw mL_texts 217 = some (.istore 15, 2, 0, 0) := by decide +kernel
theorem rL_texts_219 : am_rw mL_texts 219 = some (.iload 13, 2, 0, 0) := by decide +kernel
theorem rL_texts_221 : am_rw mL_texts 221 = some (.bipush 7, 2, 7, 0) := by decide +kernel
theorem rL_texts_223 : am_rw mL_texts 223 = some (.if_icmp .ne 8, 3, 231, 0) := by decide +kernel
theorem rL_texts_226 : am_rw mL_texts 226 = some (.bipush 45, 2, 45, 0) := by decide +kernel
theorem rL_texts_228 : am_rw mL_texts 228 = some (.goto 59, 3, 287, 0) := by decide +kernel
theorem rL_texts_231 : am_rw mL_texts 231 = some (.iload 13, 2, 0, 0) := by decide +kernel
theorem rL_texts_233 : am_rw mL_texts 233 = some (.iconst 5, 1, 5, 0) := by decide +kernel
theorem rL_texts_234 : am_rw mL_texts 234 = some (.if_icmp .ne 8, 3, 242, 0) := by decide +kernel
theorem rL_texts_237 : am_rw mL_texts 237 = some (.bipush 40, 2, 40, 0) := by decide +kernel
theorem rL_texts_239 : am_rw mL_texts 239 = some (.goto 48, 3, 287, 0) := by decide +kernel
theorem rL_texts_242 : am_rw mL_texts 242 = some (.iload 15, 2, 0, 0) := by decide +kernel
theorem rL_texts_244 : am_rw mL_texts 244 = some (.ifCond .ne 8, 3, 252, 0) := by decide +kernel
theorem rL_texts_247 : am_rw mL_texts 247 = some (.bipush 120, 2, 120, 0) := by decide +kernel
theorem rL_texts_249 : am_rw mL_texts 249 = some (.goto 38, 3, 287, 0) := by decide +kernel
theorem rL_texts_252 : am_rw mL_texts 252 = some (.iload 15, 2, 0, 0) := by decide +kernel
theorem rL_texts_254 : am_rw mL_texts 254 = some (.iconst 1, 1, 1, 0) := by decide +kernel
theorem rL_texts_255 : am_rw mL_texts 255 = some (.if_icmp .ne 8, 3, 263, 0) := by decide +kernel
theorem rL_texts_258 : am_rw mL_texts 258 = some (.bipush 110, 2, 110, 0) := by decide +kernel
theorem rL_texts_260 : am_rw mL_texts 260 = some (.goto 27, 3, 287, 0) := by decide +kernel
theorem rL_texts_263 : am_rw mL_texts 263 = some (.iload 15, 2, 0, 0) := by decide +kernel
theorem rL_texts_265 : am_rw mL_texts 265 = some (.iconst 2, 1, 2, 0) := by decide +kernel
theorem rL_texts_266 : am_rw mL_texts 266 = some (.if_icmp .ne 8, 3, 274, 0) := by decide +kernel
theorem rL_texts_269 : am_rw mL_texts 269 = some (.bipush 105, 2, 105, 0) := by decide +kernel
theorem rL_texts_271 : am_rw mL_texts 271 = some (.goto 16, 3, 287, 0) := by decide +kernel
theorem rL_texts_274 : am_rw mL_texts 274 = some (.iload 15, 2, 0, 0) := by decide +kernel
theorem rL_texts_276 : am_rw mL_texts 276 = some (.iconst 3, 1, 3, 0) := by decide +kernel
theorem rL_texts_277 : am_rw mL_texts 277 = some (.if_icmp .ne 8, 3, 285, 0) := by decide +kernel
theorem rL_texts_280 : am_rw mL_texts 280 = some (.bipush 116, 2, 116, 0) := by decide +kernel
theorem rL_texts_282 : am_rw mL_texts 282 = some (.goto 5, 3, 287, 0) := by decide +kernel
theorem rL_texts_285 : am_rw mL_texts 285 = some (.bipush 97, 2, 97, 0) := by decide +kernel
theorem rL_texts_287 : am_rw mL_texts 287 = some (.istore 16, 2, 0, 0) := by decide +kernel
theorem rL_texts_289 : am_rw mL_texts 289 = some (.aload_n 0, 1, 0, 0) := by decide +kernel
theorem rL_texts_290 : am_rw mL_texts 290 = some (.aload 5, 2, 0, 0) := by decide +kernel
theorem rL_texts_292 : am_rw mL_texts 292 = some (.iload 16, 2, 0, 0) := by decide +kernel
theorem rL_texts_294 : am_rw mL_texts 294 = some (.iconst 0, 1, 0, 0) := by decide +kernel
theorem rL_texts_295 : am_rw mL_texts 295 = some (.invokestatic 90, 3, 116, 4) := by decide +kernel
theorem rL_texts_298 : am_rw mL_texts 298 = some (.ifCond .eq 26, 3, 324, 0) := by decide +kernel
theorem rL_texts_301 : am_rw mL_texts 301 = some (.iload 13, 2, 0, 0) := by decide +kernel
theorem rL_texts_303 : am_rw mL_texts 303 = some (.bipush 6, 2, 6, 0) := by decide +kernel
theorem rL_texts_305 : am_rw mL_texts 305 = some (.if_icmp .ne 15, 3, 320, 0) := by decide +kernel
theorem rL_texts_308 : am_rw mL_texts 308 = some (.aload_n 0, 1, 0, 0) := by decide +kernel
theorem rL_texts_309 : am_rw mL_texts 309 = some (.aload 5, 2, 0, 0) := by decide +kernel
theorem rL_texts_311 : am_rw mL_texts 311 = some (.bipush 40, 2, 40, 0) := by decide +kernel
theorem rL_texts_313 : am_rw mL_texts 313 = some (.iconst 0, 1, 0, 0) := by decide +kernel
theorem rL_texts_314 : am_rw mL_texts 314 = some (.invokestatic 90, 3, 116, 4) := by decide +kernel
theorem rL_texts_317 : am_rw mL_texts 317 = some (.ifCond .eq 7, 3, 324, 0) := by decide +kernel
theorem rL_texts_320 : am_rw mL_texts 320 = some (.iconst 1, 1, 1, 0) := by decide +kernel
theorem rL_texts_321 : am_rw mL_texts 321 = some (.goto 4, 3, 325, 0) := by decide +kernel
theorem rL_texts_324 : am_rw mL_texts 324 = some (.iconst 0, 1, 0, 0) := by decide +kernel
theorem rL_texts_325 : am_rw mL_texts 325 = some (.istore 10, 2, 0, 0) := by decide +kernel
theorem rL_texts_327 : am_rw mL_texts 327 = some (.aload 6, 2, 0, 0) := by decide +kernel
theorem rL_texts_329 : am_rw mL_texts 329 = some (.iload 7, 2, 0, 0) := by decide +kernel
theorem rL_texts_331 : am_rw mL_texts 331 = some (.iload 13, 2, 0, 0) := by decide +kernel
theorem rL_texts_333 : am_rw mL_texts 333 = some (.bipush 7, 2, 7, 0) := by decide +kernel
theorem rL_texts_335 : am_rw mL_texts 335 = some (.if_icmp .ne 11, 3, 346, 0) := by decide +kernel
theorem rL_texts_338 : am_rw mL_texts 338 = some (.aload 6, 2, 0, 0) := by decide +kernel
theorem rL_texts_340 : am_rw mL_texts 340 = some (.iload 7, 2, 0, 0) := by decide +kernel
theorem rL_texts_342 : am_rw mL_texts 342 = some (.iaload, 1, 0, 0) := by decide +kernel
theorem rL_texts_343 : am_rw mL_texts 343 = some (.goto 18, 3, 361, 0) := by decide +kernel
theorem rL_texts_346 : am_rw mL_texts 346 = some (.iload 13, 2, 0, 0) := by decide +kernel
theorem rL_texts_348 : am_rw mL_texts 348 = some (.iconst 5, 1, 5, 0) := by decide +kernel
theorem rL_texts_349 : am_rw mL_texts 349 = some (.if_icmp .ne 7, 3, 356, 0) := by decide +kernel
theorem rL_texts_352 : am_rw mL_texts 352 = some (.iconst 1, 1, 1, 0) := by decide +kernel
theorem rL_texts_353 : am_rw mL_texts 353 = some (.goto 8, 3, 361, 0) := by decide +kernel
theorem rL_texts_356 : am_rw mL_texts 356 = some (.iload 15, 2, 0, 0) := by decide +kernel
theorem rL_texts_358 : am_rw mL_texts 358 = some (.invokestatic 94, 3, 115, 1) := by decide +kernel
theorem rL_texts_361 : am_rw mL_texts 361 = some (.iastore, 1, 0, 0) := by decide +kernel
theorem rL_texts_362 : am_rw mL_texts 362 = some (.iload 7, 2, 0, 0) := by decide +kernel
theorem rL_texts_364 : am_rw mL_texts 364 = some (.iload 13, 2, 0, 0) := by decide +kernel
theorem rL_texts_366 : am_rw mL_texts 366 = some (.bipush 7, 2, 7, 0) := by decide +kernel
theorem rL_texts_368 : am_rw mL_texts 368 = some (.if_icmp .ne 7, 3, 375, 0) := by decide +kernel
theorem rL_texts_371 : am_rw mL_texts 371 = some (.iconst 0, 1, 0, 0) := by decide +kernel
theorem rL_texts_372 : am_rw mL_texts 372 = some (.goto 4, 3, 376, 0) := by decide +kernel
theorem rL_texts_375 : am_rw mL_texts 375 = some (.iconst 1, 1, 1, 0) := by decide +kernel
theorem rL_texts_376 : am_rw mL_texts 376 = some (.iadd, 1, 0, 0) := by decide +kernel
theorem rL_texts_377 : am_rw mL_texts 377 = some (.istore 7, 2, 0, 0) := by decide +kernel
theorem rL_texts_379 : am_rw mL_texts 379 = some (.goto 25, 3, 404, 0) := by decide +kernel
theorem rL_texts_382 : am_rw mL_texts 382 = some (.aload_n 0, 1, 0, 0) := by decide +kernel
theorem rL_texts_383 : am_rw mL_texts 383 = some (.aload 5, 2, 0, 0) := by decide +kernel
theorem rL_texts_385 : am_rw mL_texts 385 = some (.aload_n 2, 1, 0, 0) := by decide +kernel
theorem rL_texts_386 : am_rw mL_texts 386 = some (.iload_n 3, 1, 0, 0) := by decide +kernel
theorem rL_texts_387 : am_rw mL_texts 387 = some (.iload 13, 2, 0, 0) := by decide +kernel
theorem rL_texts_389 : am_rw mL_texts 389 = some (.iload 12, 2, 0, 0) := by decide +kernel
theorem rL_texts_391 : am_rw mL_texts 391 = some (.bipush 9, 2, 9, 0) := by decide +kernel
theorem rL_texts_393 : am_rw mL_texts 393 = some (.idiv, 1, 0, 0) := by decide +kernel
theorem rL_texts_394 : am_rw mL_texts 394 = some (.iload 14, 2, 0, 0) := by decide +kernel
theorem rL_texts_396 : am_rw mL_texts 396 = some (.invokestatic 97, 3, 118, 7) := by decide +kernel
theorem rL_texts_399 : am_rw mL_texts 399 = some (.istore 10, 2, 0, 0) := by decide +kernel
theorem rL_texts_401 : am_rw mL_texts 401 = some (.iconst 1, 1, 1, 0) := by decide +kernel
theorem rL_texts_402 : am_rw mL_texts 402 = some (.istore 9, 2, 0, 0) := by decide +kernel
theorem rL_texts_404 : am_rw mL_texts 404 = some (.goto 144, 3, 548, 0) := by decide +kernel
theorem rL_texts_407 : am_rw mL_texts 407 = some (.iload 7, 2, 0, 0) := by decide +kernel
theorem rL_texts_409 : am_rw mL_texts 409 = some (.ifCond .le 42, 3, 451, 0) := by decide +kernel
theorem rL_texts_412 : am_rw mL_texts 412 = some (.aload 6, 2, 0, 0) := by decide +kernel
theorem rL_texts_414 : am_rw mL_texts 414 = some (.iload 7, 2, 0, 0) := by decide +kernel
theorem rL_texts_416 : am_rw mL_texts 416 = some (.iconst 1, 1, 1, 0) := by decide +kernel
theorem rL_texts_417 : am_rw mL_texts 417 = some (.isub, 1, 0, 0) := by decide +kernel
theorem rL_texts_418 : am_rw mL_texts 418 = some (.iaload, 1, 0, 0) := by decide +kernel
theorem rL_texts_419 : am_rw mL_texts 419 = some (.iconst 1, 1, 1, 0) := by decide +kernel
theorem rL_texts_420 : am_rw mL_texts 420 = some (.if_icmp .le 31, 3, 451, 0) := by decide +kernel
theorem rL_texts_423 : am_rw mL_texts 423 = some (.aload_n 0, 1, 0, 0) := by decide +kernel
theorem rL_texts_424 : am_rw mL_texts 424 = some (.aload 5, 2, 0, 0) := by decide +kernel
theorem rL_texts_426 : am_rw mL_texts 426 = some (.bipush 44, 2, 44, 0) := by decide +kernel
theorem rL_texts_428 : am_rw mL_texts 428 = some (.iconst 0, 1, 0, 0) := by decide +kernel
theorem rL_texts_429 : am_rw mL_texts 429 = some (.invokestatic 90, 3, 116, 4) := by decide +kernel
theorem rL_texts_432 : am_rw mL_texts 432 = some (.istore 10, 2, 0, 0) := by decide +kernel
theorem rL_texts_434 : am_rw mL_texts 434 = some (.aload 6, 2, 0, 0) := by decide +kernel
theorem rL_texts_436 : am_rw mL_texts 436 = some (.iload 7, 2, 0, 0) := by decide +kernel
theorem rL_texts_438 : am_rw mL_texts 438 = some (.iconst 1, 1, 1, 0) := by decide +kernel
theorem rL_texts_439 : am_rw mL_texts 439 = some (.isub, 1, 0, 0) := by decide +kernel
theorem rL_texts_440 : am_rw mL_texts 440 = some (.dup2, 1, 0, 0) := by decide +kernel
theorem rL_texts_441 : am_rw mL_texts 441 = some (.iaload, 1, 0, 0) := by decide +kernel
theorem rL_texts_442 : am_rw mL_texts 442 = some (.iconst 1, 1, 1, 0) := by decide +kernel
theorem rL_texts_443 : am_rw mL_texts 443 = some (.isub, 1, 0, 0) := by decide +kernel
theorem rL_texts_444 : am_rw mL_texts 444 = some (.iastore, 1, 0, 0) := by decide +kernel
theorem rL_texts_445 : am_rw mL_texts 445 = some (.iconst 0, 1, 0, 0) := by decide +kernel
theorem rL_texts_446 : am_rw mL_texts 446 = some (.istore 9, 2, 0, 0) := by decide +kernel
theorem rL_texts_448 : am_rw mL_texts 448 = some (.goto 100, 3, 548, 0) := by decide +kernel
theorem rL_texts_451 : am_rw mL_texts 451 = some (.iload 7, 2, 0, 0) := by decide +kernel
theorem rL_texts_453 : am_rw mL_texts 453 = some (.ifCond .le 41, 3, 494, 0) := by decide +kernel
theorem rL_texts_456 : am_rw mL_texts 456 = some (.iload 11, 2, 0, 0) := by decide +kernel
theorem rL_texts_458 : am_rw mL_texts 458 = some (.ifCond .ne 10, 3, 468, 0) := by decide +kernel
theorem rL_texts_461 : am_rw mL_texts 461 = some (.iload 12, 2, 0, 0) := by decide +kernel
theorem rL_texts_463 : am_rw mL_texts 463 = some (.iconst 2, 1, 2, 0) := by decide +kernel
theorem rL_texts_464 : am_rw mL_texts 464 = some (.irem, 1, 0, 0) := by decide +kernel
theorem rL_texts_465 : am_rw mL_texts 465 = some (.ifCond .ne 29, 3, 494, 0) := by decide +kernel
theorem rL_texts_468 : am_rw mL_texts 468 = some (.iinc 7 (-1), 3, 0, 0) := by decide +kernel
theorem rL_texts_471 : am_rw mL_texts 471 = some (.aload_n 0, 1, 0, 0) := by decide +kernel
theorem rL_texts_472 : am_rw mL_texts 472 = some (.aload 5, 2, 0, 0) := by decide +kernel
theorem rL_texts_474 : am_rw mL_texts 474 = some (.bipush 41, 2, 41, 0) := by decide +kernel
theorem rL_texts_476 : am_rw mL_texts 476 = some (.iload 7, 2, 0, 0) := by decide +kernel
theorem rL_texts_478 : am_rw mL_texts 478 = some (.ifCond .ne 7, 3, 485, 0) := by decide +kernel
theorem rL_texts_481 : am_rw mL_texts 481 = some (.iconst 1, 1, 1, 0) := by decide +kernel
theorem rL_texts_482 : am_rw mL_texts 482 = some (.goto 4, 3, 486, 0) := by decide +kernel
theorem rL_texts_485 : am_rw mL_texts 485 = some (.iconst 0, 1, 0, 0) := by decide +kernel
theorem rL_texts_486 : am_rw mL_texts 486 = some (.invokestatic 90, 3, 116, 4) := by decide +kernel
theorem rL_texts_489 : am_rw mL_texts 489 = some (.istore 10, 2, 0, 0) := by decide +kernel
theorem rL_texts_491 : am_rw mL_texts 491 = some (.goto 57, 3, 548, 0) := by decide +kernel
theorem rL_texts_494 : am_rw mL_texts 494 = some (.iload 12, 2, 0, 0) := by decide +kernel
theorem rL_texts_496 : am_rw mL_texts 496 = some (.iconst 2, 1, 2, 0) := by decide +kernel
theorem rL_texts_497 : am_rw mL_texts 497 = some (.idiv, 1, 0, 0) := by decide +kernel
theorem rL_texts_498 : am_rw mL_texts 498 = some (.iconst 4, 1, 4, 0) := by decide +kernel
theorem rL_texts_499 : am_rw mL_texts 499 = some (.irem, 1, 0, 0) := by decide +kernel
theorem rL_texts_500 : am_rw mL_texts 500 = some (.istore 13, 2, 0, 0) := by decide +kernel
theorem rL_texts_502 : am_rw mL_texts 502 = some (.aload_n 0, 1, 0, 0) := by decide +kernel
theorem rL_texts_503 : am_rw mL_texts 503 = some (.aload 5, 2, 0, 0) := by decide +kernel
theorem rL_texts_505 : am_rw mL_texts 505 = some (.iload 13, 2, 0, 0) := by decide +kernel
theorem rL_texts_507 : am_rw mL_texts 507 = some (.ifCond .ne 8, 3, 515, 0) := by decide +kernel
theorem rL_texts_510 : am_rw mL_texts 510 = some (.bipush 43, 2, 43, 0) := by decide +kernel
theorem rL_texts_512 : am_rw mL_texts 512 = some (.goto 27, 3, 539, 0) := by decide +kernel
theorem rL_texts_515 : am_rw mL_texts 515 = some (.iload 13, 2, 0, 0) := by decide +kernel
theorem rL_texts_517 : am_rw mL_texts 517 = some (.iconst 1, 1, 1, 0) := by decide +kernel
theorem rL_texts_518 : am_rw mL_texts 518 = some (.if_icmp .ne 8, 3, 526, 0) := by decide +kernel
theorem rL_texts_521 : am_rw mL_texts 521 = some (.bipush 45, 2, 45, 0) := by decide +kernel
theorem rL_texts_523 : am_rw mL_texts 523 = some (.goto 16, 3, 539, 0) := by decide +kernel
theorem rL_texts_526 : am_rw mL_texts 526 = some (.iload 13, 2, 0, 0) := by decide +kernel
theorem rL_texts_528 : am_rw mL_texts 528 = some (.iconst 2, 1, 2, 0) := by decide +kernel
theorem rL_texts_529 : am_rw mL_texts 529 = some (.if_icmp .ne 8, 3, 537, 0) := by decide +kernel
theorem rL_texts_532 : am_rw mL_texts 532 = some (.bipush 42, 2, 42, 0) := by decide +kernel
theorem rL_texts_534 : am_rw mL_texts 534 = some (.goto 5, 3, 539, 0) := by decide +kernel
theorem rL_texts_537 : am_rw mL_texts 537 = some (.bipush 47, 2, 47, 0) := by decide +kernel
theorem rL_texts_539 : am_rw mL_texts 539 = some (.iconst 0, 1, 0, 0) := by decide +kernel
theorem rL_texts_540 : am_rw mL_texts 540 = some (.invokestatic 90, 3, 116, 4) := by decide +kernel
theorem rL_texts_543 : am_rw mL_texts 543 = some (.istore 10, 2, 0, 0) := by decide +kernel
theorem rL_texts_545 : am_rw mL_texts 545 = some (.iconst 0, 1, 0, 0) := by decide +kernel
theorem rL_texts_546 : am_rw mL_texts 546 = some (.istore 9, 2, 0, 0) := by decide +kernel
theorem rL_texts_548 : am_rw mL_texts 548 = some (.goto (-494), 3, 54, 0) := by decide +kernel
theorem rL_texts_551 : am_rw mL_texts 551 = some (.iload 10, 2, 0, 0) := by decide +kernel
theorem rL_texts_553 : am_rw mL_texts 553 = some (.ifCond .eq 17, 3, 570, 0) := by decide +kernel
theorem rL_texts_556 : am_rw mL_texts 556 = some (.aload_n 0, 1, 0, 0) := by decide +kernel
theorem rL_texts_557 : am_rw mL_texts 557 = some (.aload_n 1, 1, 0, 0) := by decide +kernel
theorem rL_texts_558 : am_rw mL_texts 558 = some (.aload_n 2, 1, 0, 0) := by decide +kernel
theorem rL_texts_559 : am_rw mL_texts 559 = some (.iload_n 3, 1, 0, 0) := by decide +kernel
theorem rL_texts_560 : am_rw mL_texts 560 = some (.invokestatic 101, 3, 119, 4) := by decide +kernel
theorem rL_texts_563 : am_rw mL_texts 563 = some (.ifCond .eq 7, 3, 570, 0) := by decide +kernel
theorem rL_texts_566 : am_rw mL_texts 566 = some (.iconst 1, 1, 1, 0) := by decide +kernel
theorem rL_texts_567 : am_rw mL_texts 567 = some (.goto 4, 3, 571, 0) := by decide +kernel
theorem rL_texts_570 : am_rw mL_texts 570 = some (.iconst 0, 1, 0, 0) := by decide +kernel
theorem rL_texts_571 : am_rw mL_texts 571 = some (.ireturn, 1, 0, 0) := by decide +kernel
theorem rL_factor_0 : am_rw mL_factor 0 = some (.iload 4, 2, 0, 0) := by decide +kernel
theorem rL_factor_2 : am_rw mL_factor 2 = some (.ifCond .ne 55, 3, 57, 0) := by decide +kernel
theorem rL_factor_5 : am_rw mL_factor 5 = some (.aload_n 0, 1, 0, 0) := by decide +kernel
theorem rL_factor_6 : am_rw mL_factor 6 = some (.aload_n 1, 1, 0, 0) := by decide +kernel
theorem rL_factor_7 : am_rw mL_factor 7 = some (.bipush 48, 2, 48, 0) := by decide +kernel
theorem rL_factor_9 : am_rw mL_factor 9 = some (.iload 5, 2, 0, 0) := by decide +kernel
theorem rL_factor_11 : am_rw mL_factor 11 = some (.bipush 10, 2, 10, 0) := by decide +kernel
theorem rL_factor_13 : am_rw mL_factor 13 = some (.irem, 1, 0, 0) := by decide +kernel
theorem rL_factor_14 : am_rw mL_factor 14 = some (.iadd, 1, 0, 0) := by decide +kernel
theorem rL_factor_15 : am_rw mL_factor 15 = some (.iload 6, 2, 0, 0) := by decide +kernel
theorem rL_factor_17 : am_rw mL_factor 17 = some (.invokestatic 90, 3, 116, 4) := by decide +kernel
theorem rL_factor_20 : am_rw mL_factor 20 = some (.ifCond .eq 35, 3, 55, 0) := by decide +kernel
theorem rL_factor_23 : am_rw mL_factor 23 = some (.iload 5, 2, 0, 0) := by decide +kernel
theorem rL_factor_25 : am_rw mL_factor 25 = some (.iconst 3, 1, 3, 0) := by decide +kernel
theorem rL_factor_26 : am_rw mL_factor 26 = some (.irem, 1, 0, 0) := by decide +kernel
theorem rL_factor_27 : am_rw mL_factor 27 = some (.ifCond .gt 24, 3, 51, 0) := by decide +kernel
theorem rL_factor_30 : am_rw mL_factor 30 = some (.aload_n 0, 1, 0, 0) := by decide +kernel
theorem rL_factor_31 : am_rw mL_factor 31 = some (.aload_n 1, 1, 0, 0) := by decide +kernel
theorem rL_factor_32 : am_rw mL_factor 32 = some (.bipush 48, 2, 48, 0) := by decide +kernel
theorem rL_factor_34 : am_rw mL_factor 34 = some (.iload 5, 2, 0, 0) := by decide +kernel
theorem rL_factor_36 : am_rw mL_factor 36 = some (.bipush 10, 2, 10, 0) := by decide +kernel
theorem rL_factor_38 : am_rw mL_factor 38 = some (.idiv, 1, 0, 0) := by decide +kernel
theorem rL_factor_39 : am_rw mL_factor 39 = some (.bipush 10, 2, 10, 0) := by decide +kernel
theorem rL_factor_41 : am_rw mL_factor 41 = some (.irem, 1, 0, 0) := by decide +kernel
theorem rL_factor_42 : am_rw mL_factor 42 = some (.iadd, 1, 0, 0) := by decide +kernel
theorem rL_factor_43 : am_rw mL_factor 43 = some (.iload 6, 2, 0, 0) := by decide +kernel
theorem rL_factor_45 : am_rw mL_factor 45 = some (.invokestatic 90, 3, 116, 4) := by decide +kernel
theorem rL_factor_48 : am_rw mL_factor 48 = some (.ifCond .eq 7, 3, 55, 0) := by decide +kernel
theorem rL_factor_51 : am_rw mL_factor 51 = some (.iconst 1, 1, 1, 0) := by decide +kernel
theorem rL_factor_52 : am_rw mL_factor 52 = some (.goto 4, 3, 56, 0) := by decide +kernel
theorem rL_factor_55 : am_rw mL_factor 55 = some (.iconst 0, 1, 0, 0) := by decide +kernel
theorem rL_factor_56 : am_rw mL_factor 56 = some (.ireturn, 1, 0, 0) := by decide +kernel
theorem rL_factor_57 : am_rw mL_factor 57 = some (.iload 4, 2, 0, 0) := by decide +kernel
theorem rL_factor_59 : am_rw mL_factor 59 = some (.iconst 1, 1, 1, 0) := by decide +kernel
theorem rL_factor_60 : am_rw mL_factor 60 = some (.if_icmp .ne 37, 3, 97, 0) := by decide +kernel
theorem rL_factor_63 : am_rw mL_factor 63 = some (.aload_n 0, 1, 0, 0) := by decide +kernel
theorem rL_factor_64 : am_rw mL_factor 64 = some (.aload_n 1, 1, 0, 0) := by decide +kernel
theorem rL_factor_65 : am_rw mL_factor 65 = some (.bipush 103, 2, 103, 0) := by decide +kernel
theorem rL_factor_67 : am_rw mL_factor 67 = some (.iconst 0, 1, 0, 0) := by decide +kernel
theorem rL_factor_68 : am_rw mL_factor 68 = some (.invokestatic 90, 3, 116, 4) := by decide +kernel
theorem rL_factor_71 : am_rw mL_factor 71 = some (.ifCond .eq 24, 3, 95, 0) := by decide +kernel
theorem rL_factor_74 : am_rw mL_factor 74 = some (.aload_n 0, 1, 0, 0) := by decide +kernel
theorem rL_factor_75 : am_rw mL_factor 75 = some (.aload_n 1, 1, 0, 0) := by decide +kernel
theorem rL_factor_76 : am_rw mL_factor 76 = some (.bipush 48, 2, 48, 0) := by decide +kernel
theorem rL_factor_78 : am_rw mL_factor 78 = some (.iload 5, 2, 0, 0) := by decide +kernel
theorem rL_factor_80 : am_rw mL_factor 80 = some (.iconst 3, 1, 3, 0) := by decide +kernel
theorem rL_factor_81 : am_rw mL_factor 81 = some (.irem, 1, 0, 0) := by decide +kernel
theorem rL_factor_82 : am_rw mL_factor 82 = some (.iadd, 1, 0, 0) := by decide +kernel
theorem rL_factor_83 : am_rw mL_factor 83 = some (.iload 6, 2, 0, 0) := by decide +kernel
theorem rL_factor_85 : am_rw mL_factor 85 = some (.invokestatic 90, 3, 116, 4) := by decide +kernel
theorem rL_factor_88 : am_rw mL_factor 88 = some (.ifCond .eq 7, 3, 95, 0) := by decide +kernel
theorem rL_factor_91 : am_rw mL_factor 91 = some (.iconst 1, 1, 1, 0) := by decide +kernel
theorem rL_factor_92 : am_rw mL_factor 92 = some (.goto 4, 3, 96, 0) := by decide +kernel
theorem rL_factor_95 : am_rw mL_factor 95 = some (.iconst 0, 1, 0, 0) := by decide +kernel
theorem rL_factor_96 : am_rw mL_factor 96 = some (.ireturn, 1, 0, 0) := by decide +kernel
theorem rL_factor_97 : am_rw mL_factor 97 = some (.iload 4, 2, 0, 0) := by decide +kernel
theorem rL_factor_99 : am_rw mL_factor 99 = some (.iconst 2, 1, 2, 0) := by decide +kernel
theorem rL_factor_100 : am_rw mL_factor 100 = some (.if_icmp .ne 25, 3, 125, 0) := by decide +kernel
theorem rL_factor_103 : am_rw mL_factor 103 = some (.aload_n 0, 1, 0, 0) := by decide +kernel
theorem rL_factor_104 : am_rw mL_factor 104 = some (.aload_n 1, 1, 0, 0) := by decide +kernel
theorem rL_factor_105 : am_rw mL_factor 105 = some (.iload 5, 2, 0, 0) := by decide +kernel
theorem rL_factor_107 : am_rw mL_factor 107 = some (.iconst 2, 1, 2, 0) := by decide +kernel
theorem rL_factor_108 : am_rw mL_factor 108 = some (.irem, 1, 0, 0) := by decide +kernel
theorem rL_factor_109 : am_rw mL_factor 109 = some (.ifCond .ne 8, 3, 117, 0) := by decide +kernel
theorem rL_factor_112 : am_rw mL_factor 112 = some (.bipush 112, 2, 112, 0) := by decide +kernel
theorem rL_factor_114 : am_rw mL_factor 114 = some (.goto 5, 3, 119, 0) := by decide +kernel
theorem rL_factor_117 : am_rw mL_factor 117 = some (.bipush 104, 2, 104, 0) := by decide +kernel
theorem rL_factor_119 : am_rw mL_factor 119 = some (.iload 6, 2, 0, 0) := by decide +kernel
theorem rL_factor_121 : am_rw mL_factor 121 = some (.invokestatic 90, 3, 116, 4) := by decide +kernel
theorem rL_factor_124 : am_rw mL_factor 124 = some (.ireturn, 1, 0, 0) := by decide +kernel
theorem rL_factor_125 : am_rw mL_factor 125 = some (.iload_n 3, 1, 0, 0) := by decide +kernel
theorem rL_factor_126 : am_rw mL_factor 126 = some (.ifCond .ne 7, 3, 133, 0) := by decide +kernel
theorem rL_factor_129 : am_rw mL_factor 129 = some (.iconst 0, 1, 0, 0) := by decide +kernel
theorem rL_factor_130 : am_rw mL_factor 130 = some (.goto 7, 3, 137, 0) := by decide +kernel
theorem rL_factor_133 : am_rw mL_factor 133 = some (.iload 5, 2, 0, 0) := by decide +kernel
theorem rL_factor_135 : am_rw mL_factor 135 = some (.iload_n 3, 1, 0, 0) := by decide +kernel
theorem rL_factor_136 : am_rw mL_factor 136 = some (.irem, 1, 0, 0) := by decide +kernel
theorem rL_factor_137 : am_rw mL_factor 137 = some (.istore 7, 2, 0, 0) := by decide +kernel
theorem rL_factor_139 : am_rw mL_factor 139 = some (.iload 4, 2, 0, 0) := by decide +kernel
theorem rL_factor_141 : am_rw mL_factor 141 = some (.iconst 3, 1, 3, 0) := by decide +kernel
theorem rL_factor_142 : am_rw mL_factor 142 = some (.if_icmp .ne 64, 3, 206, 0) := by decide +kernel
theorem rL_factor_145 : am_rw mL_factor 145 = some (.iload_n 3, 1, 0, 0) := by decide +kernel
theorem rL_factor_146 : am_rw mL_factor 146 = some (.ifCond .le 60, 3, 206, 0) := by decide +kernel
theorem rL_factor_149 : am_rw mL_factor 149 = some (.aload_n 0, 1, 0, 0) := by decide +kernel
theorem rL_factor_150 : am_rw mL_factor 150 = some (.iload 7, 2, 0, 0) := by decide +kernel
theorem rL_factor_152 : am_rw mL_factor 152 = some (.invokevirtual 20, 3, 65, 2) := by decide +kernel
theorem rL_factor_155 : am_rw mL_factor 155 = some (.iconst (-1), 1, 1, 1) := by decide +kernel
theorem rL_factor_156 : am_rw mL_factor 156 = some (.if_icmp .eq 50, 3, 206, 0) := by decide +kernel
theorem rL_factor_159 : am_rw mL_factor 159 = some (.aload_n 0, 1, 0, 0) := by decide +kernel
theorem rL_factor_160 : am_rw mL_factor 160 = some (.aload_n 1, 1, 0, 0) := by decide +kernel
theorem rL_factor_161 : am_rw mL_factor 161 = some (.iload 5, 2, 0, 0) := by decide +kernel
theorem rL_factor_163 : am_rw mL_factor 163 = some (.bipush 6, 2, 6, 0) := by decide +kernel
theorem rL_factor_165 : am_rw mL_factor 165 = some (.idiv, 1, 0, 0) := by decide +kernel
theorem rL_factor_166 : am_rw mL_factor 166 = some (.iconst 2, 1, 2, 0) := by decide +kernel
theorem rL_factor_167 : am_rw mL_factor 167 = some (.irem, 1, 0, 0) := by decide +kernel
theorem rL_factor_168 : am_rw mL_factor 168 = some (.ifCond .ne 8, 3, 176, 0) := by decide +kernel
theorem rL_factor_171 : am_rw mL_factor 171 = some (.bipush 109, 2, 109, 0) := by decide +kernel
theorem rL_factor_173 : am_rw mL_factor 173 = some (.goto 5, 3, 178, 0) := by decide +kernel
theorem rL_factor_176 : am_rw mL_factor 176 = some (.bipush 113, 2, 113, 0) := by decide +kernel
theorem rL_factor_178 : am_rw mL_factor 178 = some (.iconst 0, 1, 0, 0) := by decide +kernel
theorem rL_factor_179 : am_rw mL_factor 179 = some (.invokestatic 90, 3, 116, 4) := by decide +kernel
theorem rL_factor_182 : am_rw mL_factor 182 = some (.ifCond .eq 22, 3, 204, 0) := by decide +kernel
theorem rL_factor_185 : am_rw mL_factor 185 = some (.aload_n 0, 1, 0, 0) := by decide +kernel
theorem rL_factor_186 : am_rw mL_factor 186 = some (.aload_n 1, 1, 0, 0) := by decide +kernel
theorem rL_factor_187 : am_rw mL_factor 187 = some (.bipush 48, 2, 48, 0) := by decide +kernel
theorem rL_factor_189 : am_rw mL_factor 189 = some (.iload 7, 2, 0, 0) := by decide +kernel
theorem rL_factor_191 : am_rw mL_factor 191 = some (.iadd, 1, 0, 0) := by decide +kernel
theorem rL_factor_192 : am_rw mL_factor 192 = some (.iload 6, 2, 0, 0) := by decide +kernel
theorem rL_factor_194 : am_rw mL_factor 194 = some (.invokestatic 90, 3, 116, 4) := by decide +kernel
theorem rL_factor_197 : am_rw mL_factor 197 = some (.ifCond .eq 7, 3, 204, 0) := by decide +kernel
theorem rL_factor_200 : am_rw mL_factor 200 = some (.iconst 1, 1, 1, 0) := by decide +kernel
theorem rL_factor_201 : am_rw mL_factor 201 = some (.goto 4, 3, 205, 0) := by decide +kernel
theorem rL_factor_204 : am_rw mL_factor 204 = some (.iconst 0, 1, 0, 0) := by decide +kernel
theorem rL_factor_205 : am_rw mL_factor 205 = some (.ireturn, 1, 0, 0) := by decide +kernel
theorem rL_factor_206 : am_rw mL_factor 206 = some (.aload_n 0, 1, 0, 0) := by decide +kernel
theorem rL_factor_207 : am_rw mL_factor 207 = some (.aload_n 1, 1, 0, 0) := by decide +kernel
theorem rL_factor_208 : am_rw mL_factor 208 = some (.bipush 48, 2, 48, 0) := by decide +kernel
theorem rL_factor_210 : am_rw mL_factor 210 = some (.iload 5, 2, 0, 0) := by decide +kernel
theorem rL_factor_212 : am_rw mL_factor 212 = some (.bipush 10, 2, 10, 0) := by decide +kernel
theorem rL_factor_214 : am_rw mL_factor 214 = some (.irem, 1, 0, 0) := by decide +kernel
theorem rL_factor_215 : am_rw mL_factor 215 = some (.iadd, 1, 0, 0) := by decide +kernel
theorem rL_factor_216 : am_rw mL_factor 216 = some (.iload 6, 2, 0, 0) := by decide +kernel
theorem rL_factor_218 : am_rw mL_factor 218 = some (.invokestatic 90, 3, 116, 4) := by decide +kernel
theorem rL_factor_221 : am_rw mL_factor 221 = some (.ifCond .eq 58, 3, 279, 0) := by decide +kernel
theorem rL_factor_224 : am_rw mL_factor 224 = some (.aload_n 0, 1, 0, 0) := by decide +kernel
theorem rL_factor_225 : am_rw mL_factor 225 = some (.aload_n 1, 1, 0, 0) := by decide +kernel
theorem rL_factor_226 : am_rw mL_factor 226 = some (.bipush 46, 2, 46, 0) := by decide +kernel
theorem rL_factor_228 : am_rw mL_factor 228 = some (.iconst 0, 1, 0, 0) := by decide +kernel
theorem rL_factor_229 : am_rw mL_factor 229 = some (.invokestatic 90, 3, 116, 4) := by decide +kernel
theorem rL_factor_232 : am_rw mL_factor 232 = some (.ifCond .eq 47, 3, 279, 0) := by decide +kernel
theorem rL_factor_235 : am_rw mL_factor 235 = some (.aload_n 0, 1, 0, 0) := by decide +kernel
theorem rL_factor_236 : am_rw mL_factor 236 = some (.aload_n 1, 1, 0, 0) := by decide +kernel
theorem rL_factor_237 : am_rw mL_factor 237 = some (.bipush 48, 2, 48, 0) := by decide +kernel
theorem rL_factor_239 : am_rw mL_factor 239 = some (.iload 5, 2, 0, 0) := by decide +kernel
theorem rL_factor_241 : am_rw mL_factor 241 = some (.bipush 10, 2, 10, 0) := by decide +kernel
theorem rL_factor_243 : am_rw mL_factor 243 = some (.idiv, 1, 0, 0) := by decide +kernel
theorem rL_factor_244 : am_rw mL_factor 244 = some (.bipush 10, 2, 10, 0) := by decide +kernel
theorem rL_factor_246 : am_rw mL_factor 246 = some (.irem, 1, 0, 0) := by decide +kernel
theorem rL_factor_247 : am_rw mL_factor 247 = some (.iadd, 1, 0, 0) := by decide +kernel
theorem rL_factor_248 : am_rw mL_factor 248 = some (.iload 6, 2, 0, 0) := by decide +kernel
theorem rL_factor_250 : am_rw mL_factor 250 = some (.invokestatic 90, 3, 116, 4) := by decide +kernel
theorem rL_factor_253 : am_rw mL_factor 253 = some (.ifCond .eq 26, 3, 279, 0) := by decide +kernel
theorem rL_factor_256 : am_rw mL_factor 256 = some (.iload 5, 2, 0, 0) := by decide +kernel
theorem rL_factor_258 : am_rw mL_factor 258 = some (.iconst 2, 1, 2, 0) := by decide +kernel
theorem rL_factor_259 : am_rw mL_factor 259 = some (.irem, 1, 0, 0) := by decide +kernel
theorem rL_factor_260 : am_rw mL_factor 260 = some (.ifCond .eq 15, 3, 275, 0) := by decide +kernel
theorem rL_factor_263 : am_rw mL_factor 263 = some (.aload_n 0, 1, 0, 0) := by decide +kernel
theorem rL_factor_264 : am_rw mL_factor 264 = some (.aload_n 1, 1, 0, 0) := by decide +kernel
theorem rL_factor_265 : am_rw mL_factor 265 = some (.bipush 53, 2, 53, 0) := by decide +kernel
theorem rL_factor_267 : am_rw mL_factor 267 = some (.iload 6, 2, 0, 0) := by decide +kernel
theorem rL_factor_269 : am_rw mL_factor 269 = some (.invokestatic 90, 3, 116, 4) := by decide +kernel
theorem rL_factor_272 : am_rw mL_factor 272 = some (.ifCond .eq 7, 3, 279, 0) := by decide +kernel
theorem rL_factor_275 : am_rw mL_factor 275 = some (.iconst 1, 1, 1, 0) := by decide +kernel
theorem rL_factor_276 : am_rw mL_factor 276 = some (.goto 4, 3, 280, 0) := by decide +kernel
theorem rL_factor_279 : am_rw mL_factor 279 = some (.iconst 0, 1, 0, 0) := by decide +kernel
theorem rL_factor_280 : am_rw mL_factor 280 = some (.ireturn, 1, 0, 0) := by decide +kernel
theorem rL_publishes_0 : am_rw mL_publishes 0 = some (.aload_n 0, 1, 0, 0) := by decide +kernel
theorem rL_publishes_1 : am_rw mL_publishes 1 = some (.iload_n 3, 1, 0, 0) := by decide +kernel
theorem rL_publishes_2 : am_rw mL_publishes 2 = some (.invokevirtual 104, 3, 63, 2) := by decide +kernel
theorem rL_publishes_5 : am_rw mL_publishes 5 = some (.istore 4, 2, 0, 0) := by decide +kernel
theorem rL_publishes_7 : am_rw mL_publishes 7 = some (.iconst (-1), 1, 1, 1) := by decide +kernel
theorem rL_publishes_8 : am_rw mL_publishes 8 = some (.istore 5, 2, 0, 0) := by decide +kernel
theorem rL_publishes_10 : am_rw mL_publishes 10 = some (.iload 4, 2, 0, 0) := by decide +kernel
theorem rL_publishes_12 : am_rw mL_publishes 12 = some (.aload_n 1, 1, 0, 0) := by decide +kernel
theorem rL_publishes_13 : am_rw mL_publishes 13 = some (.iconst 3, 1, 3, 0) := by decide +kernel
theorem rL_publishes_14 : am_rw mL_publishes 14 = some (.iaload, 1, 0, 0) := by decide +kernel
theorem rL_publishes_15 : am_rw mL_publishes 15 = some (.if_icmp .ne 7, 3, 22, 0) := by decide +kernel
theorem rL_publishes_18 : am_rw mL_publishes 18 = some (.iconst 1, 1, 1, 0) := by decide +kernel
theorem rL_publishes_19 : am_rw mL_publishes 19 = some (.goto 4, 3, 23, 0) := by decide +kernel
theorem rL_publishes_22 : am_rw mL_publishes 22 = some (.iconst 0, 1, 0, 0) := by decide +kernel
theorem rL_publishes_23 : am_rw mL_publishes 23 = some (.istore 6, 2, 0, 0) := by decide +kernel
theorem rL_publishes_25 : am_rw mL_publishes 25 = some (.iconst 0, 1, 0, 0) := by decide +kernel
theorem rL_publishes_26 : am_rw mL_publishes 26 = some (.istore 7, 2, 0, 0) := by decide +kernel
theorem rL_publishes_28 : am_rw mL_publishes 28 = some (.iload 7, 2, 0, 0) := by decide +kernel
theorem rL_publishes_30 : am_rw mL_publishes 30 = some (.bipush 6, 2, 6, 0) := by decide +kernel
theorem rL_publishes_32 : am_rw mL_publishes 32 = some (.if_icmp .ge 113, 3, 145, 0) := by decide +kernel
theorem rL_publishes_35 : am_rw mL_publishes 35 = some (.aload_n 0, 1, 0, 0) := by decide +kernel
theorem rL_publishes_36 : am_rw mL_publishes 36 = some (.iload 7, 2, 0, 0) := by decide +kernel
theorem rL_publishes_38 : am_rw mL_publishes 38 = some (.invokevirtual 20, 3, 65, 2) := by decide +kernel
theorem rL_publishes_41 : am_rw mL_publishes 41 = some (.istore 8, 2, 0, 0) := by decide +kernel
theorem rL_publishes_43 : am_rw mL_publishes 43 = some (.iload 8, 2, 0, 0) := by decide +kernel
theorem rL_publishes_45 : am_rw mL_publishes 45 = some (.iload 5, 2, 0, 0) := by decide +kernel
theorem rL_publishes_47 : am_rw mL_publishes 47 = some (.if_icmp .le 8, 3, 55, 0) := by decide +kernel
theorem rL_publishes_50 : am_rw mL_publishes 50 = some (.iload 8, 2, 0, 0) := by decide +kernel
theorem rL_publishes_52 : am_rw mL_publishes 52 = some (.goto 5, 3, 57, 0) := by decide +kernel
theorem rL_publishes_55 : am_rw mL_publishes 55 = some (.iload 5, 2, 0, 0) := by decide +kernel
theorem rL_publishes_57 : am_rw mL_publishes 57 = some (.istore 5, 2, 0, 0) := by decide +kernel
theorem rL_publishes_59 : am_rw mL_publishes 59 = some (.iload 8, 2, 0, 0) := by decide +kernel
theorem rL_publishes_61 : am_rw mL_publishes 61 = some (.iconst (-1), 1, 1, 1) := by decide +kernel
theorem rL_publishes_62 : am_rw mL_publishes 62 = some (.if_icmp .eq 9, 3, 71, 0) := by decide +kernel
theorem rL_publishes_65 : am_rw mL_publishes 65 = some (.aload_n 2, 1, 0, 0) := by decide +kernel
theorem rL_publishes_66 : am_rw mL_publishes 66 = some (.iload 8, 2, 0, 0) := by decide +kernel
theorem rL_publishes_68 : am_rw mL_publishes 68 = some (.iload 7, 2, 0, 0) := by decide +kernel
theorem rL_publishes_70 : am_rw mL_publishes 70 = some (.iastore, 1, 0, 0) := by decide +kernel
theorem rL_publishes_71 : am_rw mL_publishes 71 = some (.iconst 0, 1, 0, 0) := by decide +kernel
theorem rL_publishes_72 : am_rw mL_publishes 72 = some (.istore 9, 2, 0, 0) := by decide +kernel
theorem rL_publishes_74 : am_rw mL_publishes 74 = some (.iload 9, 2, 0, 0) := by decide +kernel
theorem rL_publishes_76 : am_rw mL_publishes 76 = some (.bipush 6, 2, 6, 0) := by decide +kernel
theorem rL_publishes_78 : am_rw mL_publishes 78 = some (.if_icmp .ge 61, 3, 139, 0) := by decide +kernel
theorem rL_publishes_81 : am_rw mL_publishes 81 = some (.iload 8, 2, 0, 0) := by decide +kernel
theorem rL_publishes_83 : am_rw mL_publishes 83 = some (.iconst (-1), 1, 1, 1) := by decide +kernel
theorem rL_publishes_84 : am_rw mL_publishes 84 = some (.if_icmp .eq 55, 3, 139, 0) := by decide +kernel
theorem rL_publishes_87 : am_rw mL_publishes 87 = some (.aload_n 0, 1, 0, 0) := by decide +kernel
theorem rL_publishes_88 : am_rw mL_publishes 88 = some (.iload 8, 2, 0, 0) := by decide +kernel
theorem rL_publishes_90 : am_rw mL_publishes 90 = some (.iload 9, 2, 0, 0) := by decide +kernel
theorem rL_publishes_92 : am_rw mL_publishes 92 = some (.invokevirtual 107, 3, 66, 3) := by decide +kernel
theorem rL_publishes_95 : am_rw mL_publishes 95 = some (.istore 10, 2, 0, 0) := by decide +kernel
theorem rL_publishes_97 : am_rw mL_publishes 97 = some (.iload 6, 2, 0, 0) := by decide +kernel
theorem rL_publishes_99 : am_rw mL_publishes 99 = some (.ifCond .eq 31, 3, 130, 0) := by decide +kernel
theorem rL_publishes_102 : am_rw mL_publishes 102 = some (.iload 10, 2, 0, 0) := by decide +kernel
theorem rL_publishes_104 : am_rw mL_publishes 104 = some (.iconst (-1), 1, 1, 1) := by decide +kernel
theorem rL_publishes_105 : am_rw mL_publishes 105 = some (.if_icmp .eq 21, 3, 126, 0) := by decide +kernel
theorem rL_publishes_108 : am_rw mL_publishes 108 = some (.iload 10, 2, 0, 0) := by decide +kernel
theorem rL_publishes_110 : am_rw mL_publishes 110 = some (.aload_n 0, 1, 0, 0) := by decide +kernel
theorem rL_publishes_111 : am_rw mL_publishes 111 = some (.iload 9, 2, 0, 0) := by decide +kernel
theorem rL_publishes_113 : am_rw mL_publishes 113 = some (.invokevirtual 20, 3, 65, 2) := by decide +kernel
theorem rL_publishes_116 : am_rw mL_publishes 116 = some (.if_icmp .ne 14, 3, 130, 0) := by decide +kernel
theorem rL_publishes_119 : am_rw mL_publishes 119 = some (.iload 10, 2, 0, 0) := by decide +kernel
theorem rL_publishes_121 : am_rw mL_publishes 121 = some (.iload 8, 2, 0, 0) := by decide +kernel
theorem rL_publishes_123 : am_rw mL_publishes 123 = some (.if_icmp .ge 7, 3, 130, 0) := by decide +kernel
theorem rL_publishes_126 : am_rw mL_publishes 126 = some (.iconst 1, 1, 1, 0) := by decide +kernel
theorem rL_publishes_127 : am_rw mL_publishes 127 = some (.goto 4, 3, 131, 0) := by decide +kernel
theorem rL_publishes_130 : am_rw mL_publishes 130 = some (.iconst 0, 1, 0, 0) := by decide +kernel
theorem rL_publishes_131 : am_rw mL_publishes 131 = some (.istore 6, 2, 0, 0) := by decide +kernel
theorem rL_publishes_133 : am_rw mL_publishes 133 = some (.iinc 9 1, 3, 0, 0) := by decide +kernel
theorem rL_publishes_136 : am_rw mL_publishes 136 = some (.goto (-62), 3, 74, 0) := by decide +kernel
theorem rL_publishes_139 : am_rw mL_publishes 139 = some (.iinc 7 1, 3, 0, 0) := by decide +kernel
theorem rL_publishes_142 : am_rw mL_publishes 142 = some (.goto (-114), 3, 28, 0) := by decide +kernel
theorem rL_publishes_145 : am_rw mL_publishes 145 = some (.aload_n 1, 1, 0, 0) := by decide +kernel
theorem rL_publishes_146 : am_rw mL_publishes 146 = some (.iconst 3, 1, 3, 0) := by decide +kernel
theorem rL_publishes_147 : am_rw mL_publishes 147 = some (.iload 5, 2, 0, 0) := by decide +kernel
theorem rL_publishes_149 : am_rw mL_publishes 149 = some (.iconst 1, 1, 1, 0) := by decide +kernel
theorem rL_publishes_150 : am_rw mL_publishes 150 = some (.iadd, 1, 0, 0) := by decide +kernel
theorem rL_publishes_151 : am_rw mL_publishes 151 = some (.iastore, 1, 0, 0) := by decide +kernel
theorem rL_publishes_152 : am_rw mL_publishes 152 = some (.iload 6, 2, 0, 0) := by decide +kernel
theorem rL_publishes_154 : am_rw mL_publishes 154 = some (.ifCond .eq 34, 3, 188, 0) := by decide +kernel
theorem rL_publishes_157 : am_rw mL_publishes 157 = some (.aload_n 0, 1, 0, 0) := by decide +kernel
theorem rL_publishes_158 : am_rw mL_publishes 158 = some (.iload_n 3, 1, 0, 0) := by decide +kernel
theorem rL_publishes_159 : am_rw mL_publishes 159 = some (.invokevirtual 20, 3, 65, 2) := by decide +kernel
theorem rL_publishes_162 : am_rw mL_publishes 162 = some (.iload 4, 2, 0, 0) := by decide +kernel
theorem rL_publishes_164 : am_rw mL_publishes 164 = some (.if_icmp .ne 24, 3, 188, 0) := by decide +kernel
theorem rL_publishes_167 : am_rw mL_publishes 167 = some (.iload 5, 2, 0, 0) := by decide +kernel
theorem rL_publishes_169 : am_rw mL_publishes 169 = some (.iload 4, 2, 0, 0) := by decide +kernel
theorem rL_publishes_171 : am_rw mL_publishes 171 = some (.if_icmp .lt 17, 3, 188, 0) := by decide +kernel
theorem rL_publishes_174 : am_rw mL_publishes 174 = some (.iload 5, 2, 0, 0) := by decide +kernel
theorem rL_publishes_176 : am_rw mL_publishes 176 = some (.iload 4, 2, 0, 0) := by decide +kernel
theorem rL_publishes_178 : am_rw mL_publishes 178 = some (.bipush 6, 2, 6, 0) := by decide +kernel
theorem rL_publishes_180 : am_rw mL_publishes 180 = some (.iadd, 1, 0, 0) := by decide +kernel
theorem rL_publishes_181 : am_rw mL_publishes 181 = some (.if_icmp .ge 7, 3, 188, 0) := by decide +kernel
theorem rL_publishes_184 : am_rw mL_publishes 184 = some (.iconst 1, 1, 1, 0) := by decide +kernel
theorem rL_publishes_185 : am_rw mL_publishes 185 = some (.goto 4, 3, 189, 0) := by decide +kernel
theorem rL_publishes_188 : am_rw mL_publishes 188 = some (.iconst 0, 1, 0, 0) := by decide +kernel
theorem rL_publishes_189 : am_rw mL_publishes 189 = some (.ireturn, 1, 0, 0) := by decide +kernel
theorem rL_letters_0 : am_rw mL_letters 0 = some (.iconst 1, 1, 1, 0) := by decide +kernel
theorem rL_letters_1 : am_rw mL_letters 1 = some (.istore_n 3, 1, 0, 0) := by decide +kernel
theorem rL_letters_2 : am_rw mL_letters 2 = some (.iload_n 1, 1, 0, 0) := by decide +kernel
theorem rL_letters_3 : am_rw mL_letters 3 = some (.ldc 84, 2, 0, 60000) := by decide +kernel
theorem rL_letters_5 : am_rw mL_letters 5 = some (.irem, 1, 0, 0) := by decide +kernel
theorem rL_letters_6 : am_rw mL_letters 6 = some (.istore 4, 2, 0, 0) := by decide +kernel
theorem rL_letters_8 : am_rw mL_letters 8 = some (.aload_n 0, 1, 0, 0) := by decide +kernel
theorem rL_letters_9 : am_rw mL_letters 9 = some (.invokevirtual 85, 3, 61, 1) := by decide +kernel
theorem rL_letters_12 : am_rw mL_letters 12 = some (.ifCond .lt 7, 3, 19, 0) := by decide +kernel
theorem rL_letters_15 : am_rw mL_letters 15 = some (.iconst 0, 1, 0, 0) := by decide +kernel
theorem rL_letters_16 : am_rw mL_letters 16 = some (.goto 5, 3, 21, 0) := by decide +kernel
theorem rL_letters_19 : am_rw mL_letters 19 = some (.bipush 99, 2, 99, 0) := by decide +kernel
theorem rL_letters_21 : am_rw mL_letters 21 = some (.istore 5, 2, 0, 0) := by decide +kernel
theorem rL_letters_23 : am_rw mL_letters 23 = some (.iconst 0, 1, 0, 0) := by decide +kernel
theorem rL_letters_24 : am_rw mL_letters 24 = some (.istore 6, 2, 0, 0) := by decide +kernel
theorem rL_letters_26 : am_rw mL_letters 26 = some (.iload 6, 2, 0, 0) := by decide +kernel
theorem rL_letters_28 : am_rw mL_letters 28 = some (.iconst 1, 1, 1, 0) := by decide +kernel
theorem rL_letters_29 : am_rw mL_letters 29 = some (.iload_n 2, 1, 0, 0) := by decide +kernel
theorem rL_letters_30 : am_rw mL_letters 30 = some (.bipush 12, 2, 12, 0) := by decide +kernel
theorem rL_letters_32 : am_rw mL_letters 32 = some (.irem, 1, 0, 0) := by decide +kernel
theorem rL_letters_33 : am_rw mL_letters 33 = some (.iadd, 1, 0, 0) := by decide +kernel
theorem rL_letters_34 : am_rw mL_letters 34 = some (.if_icmp .ge 222, 3, 256, 0) := by decide +kernel
theorem rL_letters_37 : am_rw mL_letters 37 = some (.iload_n 3, 1, 0, 0) := by decide +kernel
theorem rL_letters_38 : am_rw mL_letters 38 = some (.ifCond .eq 218, 3, 256, 0) := by decide +kernel
theorem rL_letters_41 : am_rw mL_letters 41 = some (.iload 4, 2, 0, 0) := by decide +kernel
theorem rL_letters_43 : am_rw mL_letters 43 = some (.bipush 37, 2, 37, 0) := by decide +kernel
theorem rL_letters_45 : am_rw mL_letters 45 = some (.imul, 1, 0, 0) := by decide +kernel
theorem rL_letters_46 : am_rw mL_letters 46 = some (.iconst 5, 1, 5, 0) := by decide +kernel
theorem rL_letters_47 : am_rw mL_letters 47 = some (.iadd, 1, 0, 0) := by decide +kernel
theorem rL_letters_48 : am_rw mL_letters 48 = some (.ldc 89, 2, 0, 60013) := by decide +kernel
theorem rL_letters_50 : am_rw mL_letters 50 = some (.irem, 1, 0, 0) := by decide +kernel
theorem rL_letters_51 : am_rw mL_letters 51 = some (.istore 4, 2, 0, 0) := by decide +kernel
theorem rL_letters_53 : am_rw mL_letters 53 = some (.iload 4, 2, 0, 0) := by decide +kernel
theorem rL_letters_55 : am_rw mL_letters 55 = some (.iconst 3, 1, 3, 0) := by decide +kernel
theorem rL_letters_56 : am_rw mL_letters 56 = some (.idiv, 1, 0, 0) := by decide +kernel
theorem rL_letters_57 : am_rw mL_letters 57 = some (.bipush 24, 2, 24, 0) := by decide +kernel
theorem rL_letters_59 : am_rw mL_letters 59 = some (.irem, 1, 0, 0) := by decide +kernel
theorem rL_letters_60 : am_rw mL_letters 60 = some (.istore 7, 2, 0, 0) := by decide +kernel
theorem rL_letters_62 : am_rw mL_letters 62 = some (.iload 7, 2, 0, 0) := by decide +kernel
theorem rL_letters_64 : am_rw mL_letters 64 = some (.bipush 8, 2, 8, 0) := by decide +kernel
theorem rL_letters_66 : am_rw mL_letters 66 = some (.if_icmp .ge 13, 3, 79, 0) := by decide +kernel
theorem rL_letters_69 : am_rw mL_letters 69 = some (.bipush 103, 2, 103, 0) := by decide +kernel
theorem rL_letters_71 : am_rw mL_letters 71 = some (.iload 7, 2, 0, 0) := by decide +kernel
theorem rL_letters_73 : am_rw mL_letters 73 = some (.iconst 2, 1, 2, 0) := by decide +kernel
theorem rL_letters_74 : am_rw mL_letters 74 = some (.imul, 1, 0, 0) := by decide +kernel
theorem rL_letters_75 : am_rw mL_letters 75 = some (.iadd, 1, 0, 0) := by decide +kernel
theorem rL_letters_76 : am_rw mL_letters 76 = some (.goto 107, 3, 183, 0) := by decide +kernel
theorem rL_letters_79 : am_rw mL_letters 79 = some (.iload 7, 2, 0, 0) := by decide +kernel
theorem rL_letters_81 : am_rw mL_letters 81 = some (.bipush 12, 2, 12, 0) := by decide +kernel
theorem rL_letters_83 : am_rw mL_letters 83 = some (.if_icmp .ge 14, 3, 97, 0) := by decide +kernel
theorem rL_letters_86 : am_rw mL_letters 86 = some (.bipush 48, 2, 48, 0) := by decide +kernel
theorem rL_letters_88 : am_rw mL_letters 88 = some (.iload 7, 2, 0, 0) := by decide +kernel
theorem rL_letters_90 : am_rw mL_letters 90 = some (.iadd, 1, 0, 0) := by decide +kernel
theorem rL_letters_91 : am_rw mL_letters 91 = some (.bipush 8, 2, 8, 0) := by decide +kernel
theorem rL_letters_93 : am_rw mL_letters 93 = some (.isub, 1, 0, 0) := by decide +kernel
theorem rL_letters_94 : am_rw mL_letters 94 = some (.goto 89, 3, 183, 0) := by decide +kernel
theorem rL_letters_97 : am_rw mL_letters 97 = some (.iload 7, 2, 0, 0) := by decide +kernel
theorem rL_letters_99 : am_rw mL_letters 99 = some (.bipush 15, 2, 15, 0) := by decide +kernel
theorem rL_letters_101 : am_rw mL_letters 101 = some (.if_icmp .ge 8, 3, 109, 0) := by decide +kernel
theorem rL_letters_104 : am_rw mL_letters 104 = some (.bipush 40, 2, 40, 0) := by decide +kernel
theorem rL_letters_106 : am_rw mL_letters 106 = some (.goto 77, 3, 183, 0) := by decide +kernel
theorem rL_letters_109 : am_rw mL_letters 109 = some (.iload 7, 2, 0, 0) := by decide +kernel
theorem rL_letters_111 : am_rw mL_letters 111 = some (.bipush 18, 2, 18, 0) := by decide +kernel
theorem rL_letters_113 : am_rw mL_letters 113 = some (.if_icmp .ge 8, 3, 121, 0) := by decide +kernel
theorem rL_letters_116 : am_rw mL_letters 116 = some (.bipush 41, 2, 41, 0) := by decide +kernel
theorem rL_letters_118 : am_rw mL_letters 118 = some (.goto 65, 3, 183, 0) := by decide +kernel
theorem rL_letters_121 : am_rw mL_letters 121 = some (.iload 7, 2, 0, 0) := by decide +kernel
theorem rL_letters_123 : am_rw mL_letters 123 = some (.bipush 18, 2, 18, 0) := by decide +kernel
theorem rL_letters_125 : am_rw mL_letters 125 = some (.if_icmp .ne 8, 3, 133, 0) := by decide +kernel
theorem rL_letters_128 : am_rw mL_letters 128 = some (.bipush 44, 2, 44, 0) := by decide +kernel
theorem rL_letters_130 : am_rw mL_letters 130 = some (.goto 53, 3, 183, 0) := by decide +kernel
theorem rL_letters_133 : am_rw mL_letters 133 = some (.iload 7, 2, 0, 0) := by decide +kernel
theorem rL_letters_135 : am_rw mL_letters 135 = some (.bipush 19, 2, 19, 0) := by decide +kernel
theorem rL_letters_137 : am_rw mL_letters 137 = some (.if_icmp .ne 8, 3, 145, 0) := by decide +kernel
theorem rL_letters_140 : am_rw mL_letters 140 = some (.bipush 46, 2, 46, 0) := by decide +kernel
theorem rL_letters_142 : am_rw mL_letters 142 = some (.goto 41, 3, 183, 0) := by decide +kernel
theorem rL_letters_145 : am_rw mL_letters 145 = some (.iload 7, 2, 0, 0) := by decide +kernel
theorem rL_letters_147 : am_rw mL_letters 147 = some (.bipush 20, 2, 20, 0) := by decide +kernel
theorem rL_letters_149 : am_rw mL_letters 149 = some (.if_icmp .ne 8, 3, 157, 0) := by decide +kernel
theorem rL_letters_152 : am_rw mL_letters 152 = some (.bipush 43, 2, 43, 0) := by decide +kernel
theorem rL_letters_154 : am_rw mL_letters 154 = some (.goto 29, 3, 183, 0) := by decide +kernel
theorem rL_letters_157 : am_rw mL_letters 157 = some (.iload 7, 2, 0, 0) := by decide +kernel
theorem rL_letters_159 : am_rw mL_letters 159 = some (.bipush 21, 2, 21, 0) := by decide +kernel
theorem rL_letters_161 : am_rw mL_letters 161 = some (.if_icmp .ne 8, 3, 169, 0) := by decide +kernel
theorem rL_letters_164 : am_rw mL_letters 164 = some (.bipush 42, 2, 42, 0) := by decide +kernel
theorem rL_letters_166 : am_rw mL_letters 166 = some (.goto 17, 3, 183, 0) := by decide +kernel
theorem rL_letters_169 : am_rw mL_letters 169 = some (.iload 7, 2, 0, 0) := by decide +kernel
theorem rL_letters_171 : am_rw mL_letters 171 = some (.bipush 22, 2, 22, 0) := by decide +kernel
theorem rL_letters_173 : am_rw mL_letters 173 = some (.if_icmp .ne 8, 3, 181, 0) := by decide +kernel
theorem rL_letters_176 : am_rw mL_letters 176 = some (.bipush 47, 2, 47, 0) := by decide +kernel
theorem rL_letters_178 : am_rw mL_letters 178 = some (.goto 5, 3, 183, 0) := by decide +kernel
theorem rL_letters_181 : am_rw mL_letters 181 = some (.bipush 45, 2, 45, 0) := by decide +kernel
theorem rL_letters_183 : am_rw mL_letters 183 = some (.istore 8, 2, 0, 0) := by decide +kernel
theorem rL_letters_185 : am_rw mL_letters 185 = some (.aload_n 0, 1, 0, 0) := by decide +kernel
theorem rL_letters_186 : am_rw mL_letters 186 = some (.iconst 0, 1, 0, 0) := by decide +kernel
theorem rL_letters_187 : am_rw mL_letters 187 = some (.invokevirtual 80, 3, 62, 2) := by decide +kernel
theorem rL_letters_190 : am_rw mL_letters 190 = some (.istore 9, 2, 0, 0) := by decide +kernel
theorem rL_letters_192 : am_rw mL_letters 192 = some (.aload_n 0, 1, 0, 0) := by decide +kernel
theorem rL_letters_193 : am_rw mL_letters 193 = some (.iconst 1, 1, 1, 0) := by decide +kernel
theorem rL_letters_194 : am_rw mL_letters 194 = some (.invokevirtual 80, 3, 62, 2) := by decide +kernel
theorem rL_letters_197 : am_rw mL_letters 197 = some (.istore 10, 2, 0, 0) := by decide +kernel
theorem rL_letters_199 : am_rw mL_letters 199 = some (.iinc 5 1, 3, 0, 0) := by decide +kernel
theorem rL_letters_202 : am_rw mL_letters 202 = some (.aload_n 0, 1, 0, 0) := by decide +kernel
theorem rL_letters_203 : am_rw mL_letters 203 = some (.iload 8, 2, 0, 0) := by decide +kernel
theorem rL_letters_205 : am_rw mL_letters 205 = some (.i2c, 1, 0, 0) := by decide +kernel
theorem rL_letters_206 : am_rw mL_letters 206 = some (.invokevirtual 76, 3, 60, 2) := by decide +kernel
theorem rL_letters_209 : am_rw mL_letters 209 = some (.iload 5, 2, 0, 0) := by decide +kernel
theorem rL_letters_211 : am_rw mL_letters 211 = some (.if_icmp .ne 37, 3, 248, 0) := by decide +kernel
theorem rL_letters_214 : am_rw mL_letters 214 = some (.iload 9, 2, 0, 0) := by decide +kernel
theorem rL_letters_216 : am_rw mL_letters 216 = some (.aload_n 0, 1, 0, 0) := by decide +kernel
theorem rL_letters_217 : am_rw mL_letters 217 = some (.iconst 0, 1, 0, 0) := by decide +kernel
theorem rL_letters_218 : am_rw mL_letters 218 = some (.invokevirtual 80, 3, 62, 2) := by decide +kernel
theorem rL_letters_221 : am_rw mL_letters 221 = some (.iload 5, 2, 0, 0) := by decide +kernel
theorem rL_letters_223 : am_rw mL_letters 223 = some (.invokestatic 111, 3, 121, 3) := by decide +kernel
theorem rL_letters_226 : am_rw mL_letters 226 = some (.ifCond .eq 22, 3, 248, 0) := by decide +kernel
theorem rL_letters_229 : am_rw mL_letters 229 = some (.iload 10, 2, 0, 0) := by decide +kernel
theorem rL_letters_231 : am_rw mL_letters 231 = some (.aload_n 0, 1, 0, 0) := by decide +kernel
theorem rL_letters_232 : am_rw mL_letters 232 = some (.iconst 1, 1, 1, 0) := by decide +kernel
theorem rL_letters_233 : am_rw mL_letters 233 = some (.invokevirtual 80, 3, 62, 2) := by decide +kernel
theorem rL_letters_236 : am_rw mL_letters 236 = some (.iload 5, 2, 0, 0) := by decide +kernel
theorem rL_letters_238 : am_rw mL_letters 238 = some (.invokestatic 111, 3, 121, 3) := by decide +kernel
theorem rL_letters_241 : am_rw mL_letters 241 = some (.ifCond .eq 7, 3, 248, 0) := by decide +kernel
theorem rL_letters_244 : am_rw mL_letters 244 = some (.iconst 1, 1, 1, 0) := by decide +kernel
theorem rL_letters_245 : am_rw mL_letters 245 = some (.goto 4, 3, 249, 0) := by decide +kernel
theorem rL_letters_248 : am_rw mL_letters 248 = some (.iconst 0, 1, 0, 0) := by decide +kernel
theorem rL_letters_249 : am_rw mL_letters 249 = some (.istore_n 3, 1, 0, 0) := by decide +kernel
theorem rL_letters_250 : am_rw mL_letters 250 = some (.iinc 6 1, 3, 0, 0) := by decide +kernel
theorem rL_letters_253 : am_rw mL_letters 253 = some (.goto (-227), 3, 26, 0) := by decide +kernel
theorem rL_letters_256 : am_rw mL_letters 256 = some (.iload_n 3, 1, 0, 0) := by decide +kernel
theorem rL_letters_257 : am_rw mL_letters 257 = some (.ireturn, 1, 0, 0) := by decide +kernel
theorem rL_follows_0 : am_rw mL_follows 0 = some (.iload_n 0, 1, 0, 0) := by decide +kernel
theorem rL_follows_1 : am_rw mL_follows 1 = some (.ifCond .lt 23, 3, 24, 0) := by decide +kernel
theorem rL_follows_4 : am_rw mL_follows 4 = some (.iload_n 0, 1, 0, 0) := by decide +kernel
theorem rL_follows_5 : am_rw mL_follows 5 = some (.iload_n 2, 1, 0, 0) := by decide +kernel
theorem rL_follows_6 : am_rw mL_follows 6 = some (.iconst 1, 1, 1, 0) := by decide +kernel
theorem rL_follows_7 : am_rw mL_follows 7 = some (.isub, 1, 0, 0) := by decide +kernel
theorem rL_follows_8 : am_rw mL_follows 8 = some (.if_icmp .ge 16, 3, 24, 0) := by decide +kernel
theorem rL_follows_11 : am_rw mL_follows 11 = some (.iload_n 1, 1, 0, 0) := by decide +kernel
theorem rL_follows_12 : am_rw mL_follows 12 = some (.iload_n 0, 1, 0, 0) := by decide +kernel
theorem rL_follows_13 : am_rw mL_follows 13 = some (.if_icmp .ne 7, 3, 20, 0) := by decide +kernel
theorem rL_follows_16 : am_rw mL_follows 16 = some (.iconst 1, 1, 1, 0) := by decide +kernel
theorem rL_follows_17 : am_rw mL_follows 17 = some (.goto 29, 3, 46, 0) := by decide +kernel
theorem rL_follows_20 : am_rw mL_follows 20 = some (.iconst 0, 1, 0, 0) := by decide +kernel
theorem rL_follows_21 : am_rw mL_follows 21 = some (.goto 25, 3, 46, 0) := by decide +kernel
theorem rL_follows_24 : am_rw mL_follows 24 = some (.iload_n 1, 1, 0, 0) := by decide +kernel
theorem rL_follows_25 : am_rw mL_follows 25 = some (.iconst (-1), 1, 1, 1) := by decide +kernel
theorem rL_follows_26 : am_rw mL_follows 26 = some (.if_icmp .eq 15, 3, 41, 0) := by decide +kernel
theorem rL_follows_29 : am_rw mL_follows 29 = some (.iload_n 1, 1, 0, 0) := by decide +kernel
theorem rL_follows_30 : am_rw mL_follows 30 = some (.iload_n 2, 1, 0, 0) := by decide +kernel
theorem rL_follows_31 : am_rw mL_follows 31 = some (.if_icmp .eq 10, 3, 41, 0) := by decide +kernel
theorem rL_follows_34 : am_rw mL_follows 34 = some (.iload_n 1, 1, 0, 0) := by decide +kernel
theorem rL_follows_35 : am_rw mL_follows 35 = some (.iload_n 2, 1, 0, 0) := by decide +kernel
theorem rL_follows_36 : am_rw mL_follows 36 = some (.iconst 1, 1, 1, 0) := by decide +kernel
theorem rL_follows_37 : am_rw mL_follows 37 = some (.isub, 1, 0, 0) := by decide +kernel
theorem rL_follows_38 : am_rw mL_follows 38 = some (.if_icmp .ne 7, 3, 45, 0) := by decide +kernel
theorem rL_follows_41 : am_rw mL_follows 41 = some (.iconst 1, 1, 1, 0) := by decide +kernel
theorem rL_follows_42 : am_rw mL_follows 42 = some (.goto 4, 3, 46, 0) := by decide +kernel
theorem rL_follows_45 : am_rw mL_follows 45 = some (.iconst 0, 1, 0, 0) := by decide +kernel
theorem rL_follows_46 : am_rw mL_follows 46 = some (.ireturn, 1, 0, 0) := by decide +kernel
theorem rL_ofRetire_0 : am_rw mL_ofRetire 0 = some (.aload_n 0, 1, 0, 0) := by decide +kernel
theorem rL_ofRetire_1 : am_rw mL_ofRetire 1 = some (.iload_n 1, 1, 0, 0) := by decide +kernel
theorem rL_ofRetire_2 : am_rw mL_ofRetire 2 = some (.invokevirtual 115, 3, 64, 2) := by decide +kernel
theorem rL_ofRetire_5 : am_rw mL_ofRetire 5 = some (.ireturn, 1, 0, 0) := by decide +kernel
theorem rL_ofRetire_7 : am_rw mL_ofRetire 7 = some (.bipush (-2), 2, 2, 1) := by decide +kernel
theorem rL_ofRetire_9 : am_rw mL_ofRetire 9 = some (.ireturn, 1, 0, 0) := by decide +kernel
theorem rL_isNamed_0 : am_rw mL_isNamed 0 = some (.iconst 0, 1, 0, 0) := by decide +kernel
theorem rL_isNamed_1 : am_rw mL_isNamed 1 = some (.istore_n 2, 1, 0, 0) := by decide +kernel
theorem rL_isNamed_2 : am_rw mL_isNamed 2 = some (.iconst 0, 1, 0, 0) := by decide +kernel
theorem rL_isNamed_3 : am_rw mL_isNamed 3 = some (.istore_n 3, 1, 0, 0) := by decide +kernel
theorem rL_isNamed_4 : am_rw mL_isNamed 4 = some (.iload_n 3, 1, 0, 0) := by decide +kernel
theorem rL_isNamed_5 : am_rw mL_isNamed 5 = some (.bipush 6, 2, 6, 0) := by decide +kernel
theorem rL_isNamed_7 : am_rw mL_isNamed 7 = some (.if_icmp .ge 42, 3, 49, 0) := by decide +kernel
theorem rL_isNamed_10 : am_rw mL_isNamed 10 = some (.iload_n 2, 1, 0, 0) := by decide +kernel
theorem rL_isNamed_11 : am_rw mL_isNamed 11 = some (.ifCond .ne 26, 3, 37, 0) := by decide +kernel
theorem rL_isNamed_14 : am_rw mL_isNamed 14 = some (.aload_n 0, 1, 0, 0) := by decide +kernel
theorem rL_isNamed_15 : am_rw mL_isNamed 15 = some (.iload_n 3, 1, 0, 0) := by decide +kernel
theorem rL_isNamed_16 : am_rw mL_isNamed 16 = some (.invokevirtual 20, 3, 65, 2) := by decide +kernel
theorem rL_isNamed_19 : am_rw mL_isNamed 19 = some (.iconst (-1), 1, 1, 1) := by decide +kernel
theorem rL_isNamed_20 : am_rw mL_isNamed 20 = some (.if_icmp .eq 21, 3, 41, 0) := by decide +kernel
theorem rL_isNamed_23 : am_rw mL_isNamed 23 = some (.aload_n 0, 1, 0, 0) := by decide +kernel
theorem rL_isNamed_24 : am_rw mL_isNamed 24 = some (.aload_n 0, 1, 0, 0) := by decide +kernel
theorem rL_isNamed_25 : am_rw mL_isNamed 25 = some (.iload_n 3, 1, 0, 0) := by decide +kernel
theorem rL_isNamed_26 : am_rw mL_isNamed 26 = some (.invokevirtual 20, 3, 65, 2) := by decide +kernel
theorem rL_isNamed_29 : am_rw mL_isNamed 29 = some (.iload_n 1, 1, 0, 0) := by decide +kernel
theorem rL_isNamed_30 : am_rw mL_isNamed 30 = some (.invokevirtual 107, 3, 66, 3) := by decide +kernel
theorem rL_isNamed_33 : am_rw mL_isNamed 33 = some (.iconst (-1), 1, 1, 1) := by decide +kernel
theorem rL_isNamed_34 : am_rw mL_isNamed 34 = some (.if_icmp .eq 7, 3, 41, 0) := by decide +kernel
theorem rL_isNamed_37 : am_rw mL_isNamed 37 = some (.iconst 1, 1, 1, 0) := by decide +kernel
theorem rL_isNamed_38 : am_rw mL_isNamed 38 = some (.goto 4, 3, 42, 0) := by decide +kernel
theorem rL_isNamed_41 : am_rw mL_isNamed 41 = some (.iconst 0, 1, 0, 0) := by decide +kernel
theorem rL_isNamed_42 : am_rw mL_isNamed 42 = some (.istore_n 2, 1, 0, 0) := by decide +kernel
theorem rL_isNamed_43 : am_rw mL_isNamed 43 = some (.iinc 3 1, 3, 0, 0) := by decide +kernel
theorem rL_isNamed_46 : am_rw mL_isNamed 46 = some (.goto (-42), 3, 4, 0) := by decide +kernel
theorem rL_isNamed_49 : am_rw mL_isNamed 49 = some (.iload_n 2, 1, 0, 0) := by decide +kernel
theorem rL_isNamed_50 : am_rw mL_isNamed 50 = some (.ireturn, 1, 0, 0) := by decide +kernel
theorem rL_rules_0 : am_rw mL_rules 0 = some (.aload_n 0, 1, 0, 0) := by decide +kernel
theorem rL_rules_1 : am_rw mL_rules 1 = some (.invokevirtual 85, 3, 61, 1) := by decide +kernel
theorem rL_rules_4 : am_rw mL_rules 4 = some (.ifCond .lt 7, 3, 11, 0) := by decide +kernel
theorem rL_rules_7 : am_rw mL_rules 7 = some (.iconst 1, 1, 1, 0) := by decide +kernel
theorem rL_rules_8 : am_rw mL_rules 8 = some (.goto 4, 3, 12, 0) := by decide +kernel
theorem rL_rules_11 : am_rw mL_rules 11 = some (.iconst 0, 1, 0, 0) := by decide +kernel
theorem rL_rules_12 : am_rw mL_rules 12 = some (.istore 4, 2, 0, 0) := by decide +kernel
theorem rL_rules_14 : am_rw mL_rules 14 = some (.iload_n 2, 1, 0, 0) := by decide +kernel
theorem rL_rules_15 : am_rw mL_rules 15 = some (.iconst 4, 1, 4, 0) := by decide +kernel
theorem rL_rules_16 : am_rw mL_rules 16 = some (.irem, 1, 0, 0) := by decide +kernel
theorem rL_rules_17 : am_rw mL_rules 17 = some (.ifCond .ne 8, 3, 25, 0) := by decide +kernel
theorem rL_rules_20 : am_rw mL_rules 20 = some (.bipush 108, 2, 108, 0) := by decide +kernel
theorem rL_rules_22 : am_rw mL_rules 22 = some (.goto 29, 3, 51, 0) := by decide +kernel
theorem rL_rules_25 : am_rw mL_rules 25 = some (.iload_n 2, 1, 0, 0) := by decide +kernel
theorem rL_rules_26 : am_rw mL_rules 26 = some (.iconst 4, 1, 4, 0) := by decide +kernel
theorem rL_rules_27 : am_rw mL_rules 27 = some (.irem, 1, 0, 0) := by decide +kernel
theorem rL_rules_28 : am_rw mL_rules 28 = some (.iconst 1, 1, 1, 0) := by decide +kernel
theorem rL_rules_29 : am_rw mL_rules 29 = some (.if_icmp .ne 8, 3, 37, 0) := by decide +kernel
theorem rL_rules_32 : am_rw mL_rules 32 = some (.bipush 102, 2, 102, 0) := by decide +kernel
theorem rL_rules_34 : am_rw mL_rules 34 = some (.goto 17, 3, 51, 0) := by decide +kernel
theorem rL_rules_37 : am_rw mL_rules 37 = some (.iload_n 2, 1, 0, 0) := by decide +kernel
theorem rL_rules_38 : am_rw mL_rules 38 = some (.iconst 4, 1, 4, 0) := by decide +kernel
theorem rL_rules_39 : am_rw mL_rules 39 = some (.irem, 1, 0, 0) := by decide +kernel
theorem rL_rules_40 : am_rw mL_rules 40 = some (.iconst 2, 1, 2, 0) := by decide +kernel
theorem rL_rules_41 : am_rw mL_rules 41 = some (.if_icmp .ne 8, 3, 49, 0) := by decide +kernel
theorem rL_rules_44 : am_rw mL_rules 44 = some (.bipush 114, 2, 114, 0) := by decide +kernel
theorem rL_rules_46 : am_rw mL_rules 46 = some (.goto 5, 3, 51, 0) := by decide +kernel
theorem rL_rules_49 : am_rw mL_rules 49 = some (.bipush 104, 2, 104, 0) := by decide +kernel
theorem rL_rules_51 : am_rw mL_rules 51 = some (.istore 5, 2, 0, 0) := by decide +kernel
theorem rL_rules_53 : am_rw mL_rules 53 = some (.iload_n 3, 1, 0, 0) := by decide +kernel
theorem rL_rules_54 : am_rw mL_rules 54 = some (.iconst 4, 1, 4, 0) := by decide +kernel
theorem rL_rules_55 : am_rw mL_rules 55 = some (.irem, 1, 0, 0) := by decide +kernel
theorem rL_rules_56 : am_rw mL_rules 56 = some (.ifCond .ne 8, 3, 64, 0) := by decide +kernel
theorem rL_rules_59 : am_rw mL_rules 59 = some (.bipush 43, 2, 43, 0) := by decide +kernel
theorem rL_rules_61 : am_rw mL_rules 61 = some (.goto 29, 3, 90, 0) := by decide +kernel
theorem rL_rules_64 : am_rw mL_rules 64 = some (.iload_n 3, 1, 0, 0) := by decide +kernel
theorem rL_rules_65 : am_rw mL_rules 65 = some (.iconst 4, 1, 4, 0) := by decide +kernel
theorem rL_rules_66 : am_rw mL_rules 66 = some (.irem, 1, 0, 0) := by decide +kernel
theorem rL_rules_67 : am_rw mL_rules 67 = some (.iconst 1, 1, 1, 0) := by decide +kernel
theorem rL_rules_68 : am_rw mL_rules 68 = some (.if_icmp .ne 8, 3, 76, 0) := by decide +kernel
theorem rL_rules_71 : am_rw mL_rules 71 = some (.bipush 45, 2, 45, 0) := by decide +kernel
theorem rL_rules_73 : am_rw mL_rules 73 = some (.goto 17, 3, 90, 0) := by decide +kernel
theorem rL_rules_76 : am_rw mL_rules 76 = some (.iload_n 3, 1, 0, 0) := by decide +kernel
theorem rL_rules_77 : am_rw mL_rules 77 = some (.iconst 4, 1, 4, 0) := by decide +kernel
theorem rL_rules_78 : am_rw mL_rules 78 = some (.irem, 1, 0, 0) := by decide +kernel
theorem rL_rules_79 : am_rw mL_rules 79 = some (.iconst 2, 1, 2, 0) := by decide +kernel
theorem rL_rules_80 : am_rw mL_rules 80 = some (.if_icmp .ne 8, 3, 88, 0) := by decide +kernel
theorem rL_rules_83 : am_rw mL_rules 83 = some (.bipush 42, 2, 42, 0) := by decide +kernel
theorem rL_rules_85 : am_rw mL_rules 85 = some (.goto 5, 3, 90, 0) := by decide +kernel
theorem rL_rules_88 : am_rw mL_rules 88 = some (.bipush 47, 2, 47, 0) := by decide +kernel
theorem rL_rules_90 : am_rw mL_rules 90 = some (.istore 6, 2, 0, 0) := by decide +kernel
theorem rL_rules_92 : am_rw mL_rules 92 = some (.iload 4, 2, 0, 0) := by decide +kernel
theorem rL_rules_94 : am_rw mL_rules 94 = some (.ifCond .eq 76, 3, 170, 0) := by decide +kernel
theorem rL_rules_97 : am_rw mL_rules 97 = some (.aload_n 0, 1, 0, 0) := by decide +kernel
theorem rL_rules_98 : am_rw mL_rules 98 = some (.iload 5, 2, 0, 0) := by decide +kernel
theorem rL_rules_100 : am_rw mL_rules 100 = some (.i2c, 1, 0, 0) := by decide +kernel
theorem rL_rules_101 : am_rw mL_rules 101 = some (.invokevirtual 76, 3, 60, 2) := by decide +kernel
theorem rL_rules_104 : am_rw mL_rules 104 = some (.iconst 1, 1, 1, 0) := by decide +kernel
theorem rL_rules_105 : am_rw mL_rules 105 = some (.if_icmp .ne 65, 3, 170, 0) := by decide +kernel
theorem rL_rules_108 : am_rw mL_rules 108 = some (.aload_n 0, 1, 0, 0) := by decide +kernel
theorem rL_rules_109 : am_rw mL_rules 109 = some (.iload 6, 2, 0, 0) := by decide +kernel
theorem rL_rules_111 : am_rw mL_rules 111 = some (.i2c, 1, 0, 0) := by decide +kernel
theorem rL_rules_112 : am_rw mL_rules 112 = some (.invokevirtual 76, 3, 60, 2) := by decide +kernel
theorem rL_rules_115 : am_rw mL_rules 115 = some (.iconst 2, 1, 2, 0) := by decide +kernel
theorem rL_rules_116 : am_rw mL_rules 116 = some (.if_icmp .ne 54, 3, 170, 0) := by decide +kernel
theorem rL_rules_119 : am_rw mL_rules 119 = some (.aload_n 0, 1, 0, 0) := by decide +kernel
theorem rL_rules_120 : am_rw mL_rules 120 = some (.bipush 48, 2, 48, 0) := by decide +kernel
theorem rL_rules_122 : am_rw mL_rules 122 = some (.iload_n 2, 1, 0, 0) := by decide +kernel
theorem rL_rules_123 : am_rw mL_rules 123 = some (.iconst 4, 1, 4, 0) := by decide +kernel
theorem rL_rules_124 : am_rw mL_rules 124 = some (.idiv, 1, 0, 0) := by decide +kernel
theorem rL_rules_125 : am_rw mL_rules 125 = some (.bipush 10, 2, 10, 0) := by decide +kernel
theorem rL_rules_127 : am_rw mL_rules 127 = some (.irem, 1, 0, 0) := by decide +kernel
theorem rL_rules_128 : am_rw mL_rules 128 = some (.iadd, 1, 0, 0) := by decide +kernel
theorem rL_rules_129 : am_rw mL_rules 129 = some (.i2c, 1, 0, 0) := by decide +kernel
theorem rL_rules_130 : am_rw mL_rules 130 = some (.invokevirtual 76, 3, 60, 2) := by decide +kernel
theorem rL_rules_133 : am_rw mL_rules 133 = some (.iconst 3, 1, 3, 0) := by decide +kernel
theorem rL_rules_134 : am_rw mL_rules 134 = some (.if_icmp .ne 36, 3, 170, 0) := by decide +kernel
theorem rL_rules_137 : am_rw mL_rules 137 = some (.aload_n 0, 1, 0, 0) := by decide +kernel
theorem rL_rules_138 : am_rw mL_rules 138 = some (.iconst 1, 1, 1, 0) := by decide +kernel
theorem rL_rules_139 : am_rw mL_rules 139 = some (.invokevirtual 80, 3, 62, 2) := by decide +kernel
theorem rL_rules_142 : am_rw mL_rules 142 = some (.iconst (-1), 1, 1, 1) := by decide +kernel
theorem rL_rules_143 : am_rw mL_rules 143 = some (.if_icmp .ne 27, 3, 170, 0) := by decide +kernel
theorem rL_rules_146 : am_rw mL_rules 146 = some (.aload_n 0, 1, 0, 0) := by decide +kernel
theorem rL_rules_147 : am_rw mL_rules 147 = some (.iconst 0, 1, 0, 0) := by decide +kernel
theorem rL_rules_148 : am_rw mL_rules 148 = some (.invokevirtual 80, 3, 62, 2) := by decide +kernel
theorem rL_rules_151 : am_rw mL_rules 151 = some (.iload_n 2, 1, 0, 0) := by decide +kernel
theorem rL_rules_152 : am_rw mL_rules 152 = some (.iconst 4, 1, 4, 0) := by decide +kernel
theorem rL_rules_153 : am_rw mL_rules 153 = some (.irem, 1, 0, 0) := by decide +kernel
theorem rL_rules_154 : am_rw mL_rules 154 = some (.iconst 3, 1, 3, 0) := by decide +kernel
theorem rL_rules_155 : am_rw mL_rules 155 = some (.if_icmp .ne 7, 3, 162, 0) := by decide +kernel
theorem rL_rules_158 : am_rw mL_rules 158 = some (.iconst (-1), 1, 1, 1) := by decide +kernel
theorem rL_rules_159 : am_rw mL_rules 159 = some (.goto 4, 3, 163, 0) := by decide +kernel
theorem rL_rules_162 : am_rw mL_rules 162 = some (.iconst 0, 1, 0, 0) := by decide +kernel
theorem rL_rules_163 : am_rw mL_rules 163 = some (.if_icmp .ne 7, 3, 170, 0) := by decide +kernel
theorem rL_rules_166 : am_rw mL_rules 166 = some (.iconst 1, 1, 1, 0) := by decide +kernel
theorem rL_rules_167 : am_rw mL_rules 167 = some (.goto 4, 3, 171, 0) := by decide +kernel
theorem rL_rules_170 : am_rw mL_rules 170 = some (.iconst 0, 1, 0, 0) := by decide +kernel
theorem rL_rules_171 : am_rw mL_rules 171 = some (.istore 4, 2, 0, 0) := by decide +kernel
theorem rL_rules_173 : am_rw mL_rules 173 = some (.aload_n 0, 1, 0, 0) := by decide +kernel
theorem rL_rules_174 : am_rw mL_rules 174 = some (.iload_n 1, 1, 0, 0) := by decide +kernel
theorem rL_rules_175 : am_rw mL_rules 175 = some (.invokevirtual 120, 3, 76, 2) := by decide +kernel
theorem rL_rules_178 : am_rw mL_rules 178 = some (.iload 4, 2, 0, 0) := by decide +kernel
theorem rL_rules_180 : am_rw mL_rules 180 = some (.ireturn, 1, 0, 0) := by decide +kernel
theorem rL_runs_0 : am_rw mL_runs 0 = some (.aload_n 1, 1, 0, 0) := by decide +kernel
theorem rL_runs_1 : am_rw mL_runs 1 = some (.iconst 1, 1, 1, 0) := by decide +kernel
theorem rL_runs_2 : am_rw mL_runs 2 = some (.iaload, 1, 0, 0) := by decide +kernel
theorem rL_runs_3 : am_rw mL_runs 3 = some (.istore 5, 2, 0, 0) := by decide +kernel
theorem rL_runs_5 : am_rw mL_runs 5 = some (.aload_n 1, 1, 0, 0) := by decide +kernel
theorem rL_runs_6 : am_rw mL_runs 6 = some (.iconst 1, 1, 1, 0) := by decide +kernel
theorem rL_runs_7 : am_rw mL_runs 7 = some (.dup2, 1, 0, 0) := by decide +kernel
theorem rL_runs_8 : am_rw mL_runs 8 = some (.iaload, 1, 0, 0) := by decide +kernel
theorem rL_runs_9 : am_rw mL_runs 9 = some (.iconst 1, 1, 1, 0) := by decide +kernel
theorem rL_runs_10 : am_rw mL_runs 10 = some (.iadd, 1, 0, 0) := by decide +kernel
theorem rL_runs_11 : am_rw mL_runs 11 = some (.iastore, 1, 0, 0) := by decide +kernel
theorem rL_runs_12 : am_rw mL_runs 12 = some (.aload_n 2, 1, 0, 0) := by decide +kernel
theorem rL_runs_13 : am_rw mL_runs 13 = some (.iload 5, 2, 0, 0) := by decide +kernel
theorem rL_runs_15 : am_rw mL_runs 15 = some (.aload_n 0, 1, 0, 0) := by decide +kernel
theorem rL_runs_16 : am_rw mL_runs 16 = some (.iload_n 3, 1, 0, 0) := by decide +kernel
theorem rL_runs_17 : am_rw mL_runs 17 = some (.invokevirtual 20, 3, 65, 2) := by decide +kernel
theorem rL_runs_20 : am_rw mL_runs 20 = some (.iastore, 1, 0, 0) := by decide +kernel
theorem rL_runs_21 : am_rw mL_runs 21 = some (.aload_n 2, 1, 0, 0) := by decide +kernel
theorem rL_runs_22 : am_rw mL_runs 22 = some (.bipush 12, 2, 12, 0) := by decide +kernel
theorem rL_runs_24 : am_rw mL_runs 24 = some (.iload 5, 2, 0, 0) := by decide +kernel
theorem rL_runs_26 : am_rw mL_runs 26 = some (.iadd, 1, 0, 0) := by decide +kernel
theorem rL_runs_27 : am_rw mL_runs 27 = some (.aload_n 1, 1, 0, 0) := by decide +kernel
theorem rL_runs_28 : am_rw mL_runs 28 = some (.iconst 0, 1, 0, 0) := by decide +kernel
theorem rL_runs_29 : am_rw mL_runs 29 = some (.iaload, 1, 0, 0) := by decide +kernel
theorem rL_runs_30 : am_rw mL_runs 30 = some (.iastore, 1, 0, 0) := by decide +kernel
theorem rL_runs_31 : am_rw mL_runs 31 = some (.aload_n 2, 1, 0, 0) := by decide +kernel
theorem rL_runs_32 : am_rw mL_runs 32 = some (.bipush 24, 2, 24, 0) := by decide +kernel
theorem rL_runs_34 : am_rw mL_runs 34 = some (.iload 5, 2, 0, 0) := by decide +kernel
theorem rL_runs_36 : am_rw mL_runs 36 = some (.iadd, 1, 0, 0) := by decide +kernel
theorem rL_runs_37 : am_rw mL_runs 37 = some (.aload_n 1, 1, 0, 0) := by decide +kernel
theorem rL_runs_38 : am_rw mL_runs 38 = some (.iconst 0, 1, 0, 0) := by decide +kernel
theorem rL_runs_39 : am_rw mL_runs 39 = some (.iaload, 1, 0, 0) := by decide +kernel
theorem rL_runs_40 : am_rw mL_runs 40 = some (.iload 4, 2, 0, 0) := by decide +kernel
theorem rL_runs_42 : am_rw mL_runs 42 = some (.iadd, 1, 0, 0) := by decide +kernel
theorem rL_runs_43 : am_rw mL_runs 43 = some (.iastore, 1, 0, 0) := by decide +kernel
theorem rL_runs_44 : am_rw mL_runs 44 = some (.aload_n 0, 1, 0, 0) := by decide +kernel
theorem rL_runs_45 : am_rw mL_runs 45 = some (.iload_n 3, 1, 0, 0) := by decide +kernel
theorem rL_runs_46 : am_rw mL_runs 46 = some (.iload 4, 2, 0, 0) := by decide +kernel
theorem rL_runs_48 : am_rw mL_runs 48 = some (.invokevirtual 124, 3, 70, 3) := by decide +kernel
theorem rL_runs_51 : am_rw mL_runs 51 = some (.iload 5, 2, 0, 0) := by decide +kernel
theorem rL_runs_53 : am_rw mL_runs 53 = some (.if_icmp .ne 31, 3, 84, 0) := by decide +kernel
theorem rL_runs_56 : am_rw mL_runs 56 = some (.aload_n 0, 1, 0, 0) := by decide +kernel
theorem rL_runs_57 : am_rw mL_runs 57 = some (.iload 5, 2, 0, 0) := by decide +kernel
theorem rL_runs_59 : am_rw mL_runs 59 = some (.invokevirtual 127, 3, 71, 2) := by decide +kernel
theorem rL_runs_62 : am_rw mL_runs 62 = some (.ifCond .ne 22, 3, 84, 0) := by decide +kernel
theorem rL_runs_65 : am_rw mL_runs 65 = some (.aload_n 0, 1, 0, 0) := by decide +kernel
theorem rL_runs_66 : am_rw mL_runs 66 = some (.iload 5, 2, 0, 0) := by decide +kernel
theorem rL_runs_68 : am_rw mL_runs 68 = some (.invokevirtual 130, 3, 72, 2) := by decide +kernel
theorem rL_runs_71 : am_rw mL_runs 71 = some (.aload_n 0, 1, 0, 0) := by decide +kernel
theorem rL_runs_72 : am_rw mL_runs 72 = some (.iload 5, 2, 0, 0) := by decide +kernel
theorem rL_runs_74 : am_rw mL_runs 74 = some (.invokevirtual 133, 3, 74, 2) := by decide +kernel
theorem rL_runs_77 : am_rw mL_runs 77 = some (.if_icmp .ne 7, 3, 84, 0) := by decide +kernel
theorem rL_runs_80 : am_rw mL_runs 80 = some (.iconst 1, 1, 1, 0) := by decide +kernel
theorem rL_runs_81 : am_rw mL_runs 81 = some (.goto 4, 3, 85, 0) := by decide +kernel
theorem rL_runs_84 : am_rw mL_runs 84 = some (.iconst 0, 1, 0, 0) := by decide +kernel
theorem rL_runs_85 : am_rw mL_runs 85 = some (.istore 6, 2, 0, 0) := by decide +kernel
theorem rL_runs_87 : am_rw mL_runs 87 = some (.aload_n 2, 1, 0, 0) := by decide +kernel
theorem rL_runs_88 : am_rw mL_runs 88 = some (.bipush 36, 2, 36, 0) := by decide +kernel
theorem rL_runs_90 : am_rw mL_runs 90 = some (.iload 5, 2, 0, 0) := by decide +kernel
theorem rL_runs_92 : am_rw mL_runs 92 = some (.iadd, 1, 0, 0) := by decide +kernel
theorem rL_runs_93 : am_rw mL_runs 93 = some (.aload_n 0, 1, 0, 0) := by decide +kernel
theorem rL_runs_94 : am_rw mL_runs 94 = some (.iload 5, 2, 0, 0) := by decide +kernel
theorem rL_runs_96 : am_rw mL_runs 96 = some (.invokevirtual 130, 3, 72, 2) := by decide +kernel
theorem rL_runs_99 : am_rw mL_runs 99 = some (.iastore, 1, 0, 0) := by decide +kernel
theorem rL_runs_100 : am_rw mL_runs 100 = some (.iload 6, 2, 0, 0) := by decide +kernel
theorem rL_runs_102 : am_rw mL_runs 102 = some (.ifCond .eq 67, 3, 169, 0) := by decide +kernel
theorem rL_runs_105 : am_rw mL_runs 105 = some (.aload_n 0, 1, 0, 0) := by decide +kernel
theorem rL_runs_106 : am_rw mL_runs 106 = some (.aload_n 2, 1, 0, 0) := by decide +kernel
theorem rL_runs_107 : am_rw mL_runs 107 = some (.iload 5, 2, 0, 0) := by decide +kernel
theorem rL_runs_109 : am_rw mL_runs 109 = some (.invokestatic 136, 3, 126, 3) := by decide +kernel
theorem rL_runs_112 : am_rw mL_runs 112 = some (.ifCond .eq 57, 3, 169, 0) := by decide +kernel
theorem rL_runs_115 : am_rw mL_runs 115 = some (.aload_n 0, 1, 0, 0) := by decide +kernel
theorem rL_runs_116 : am_rw mL_runs 116 = some (.iload 5, 2, 0, 0) := by decide +kernel
theorem rL_runs_118 : am_rw mL_runs 118 = some (.invokevirtual 140, 3, 73, 2) := by decide +kernel
theorem rL_runs_121 : am_rw mL_runs 121 = some (.aload_n 1, 1, 0, 0) := by decide +kernel
theorem rL_runs_122 : am_rw mL_runs 122 = some (.iconst 0, 1, 0, 0) := by decide +kernel
theorem rL_runs_123 : am_rw mL_runs 123 = some (.iaload, 1, 0, 0) := by decide +kernel
theorem rL_runs_124 : am_rw mL_runs 124 = some (.if_icmp .lt 45, 3, 169, 0) := by decide +kernel
theorem rL_runs_127 : am_rw mL_runs 127 = some (.aload_n 0, 1, 0, 0) := by decide +kernel
theorem rL_runs_128 : am_rw mL_runs 128 = some (.iload 5, 2, 0, 0) := by decide +kernel
theorem rL_runs_130 : am_rw mL_runs 130 = some (.invokevirtual 140, 3, 73, 2) := by decide +kernel
theorem rL_runs_133 : am_rw mL_runs 133 = some (.aload_n 1, 1, 0, 0) := by decide +kernel
theorem rL_runs_134 : am_rw mL_runs 134 = some (.iconst 0, 1, 0, 0) := by decide +kernel
theorem rL_runs_135 : am_rw mL_runs 135 = some (.iaload, 1, 0, 0) := by decide +kernel
theorem rL_runs_136 : am_rw mL_runs 136 = some (.iload 4, 2, 0, 0) := by decide +kernel
theorem rL_runs_138 : am_rw mL_runs 138 = some (.iadd, 1, 0, 0) := by decide +kernel
theorem rL_runs_139 : am_rw mL_runs 139 = some (.if_icmp .gt 30, 3, 169, 0) := by decide +kernel
theorem rL_runs_142 : am_rw mL_runs 142 = some (.aload_n 0, 1, 0, 0) := by decide +kernel
theorem rL_runs_143 : am_rw mL_runs 143 = some (.aload_n 2, 1, 0, 0) := by decide +kernel
theorem rL_runs_144 : am_rw mL_runs 144 = some (.iload 5, 2, 0, 0) := by decide +kernel
theorem rL_runs_146 : am_rw mL_runs 146 = some (.iaload, 1, 0, 0) := by decide +kernel
theorem rL_runs_147 : am_rw mL_runs 147 = some (.aload_n 0, 1, 0, 0) := by decide +kernel
theorem rL_runs_148 : am_rw mL_runs 148 = some (.iload 5, 2, 0, 0) := by decide +kernel
theorem rL_runs_150 : am_rw mL_runs 150 = some (.invokevirtual 140, 3, 73, 2) := by decide +kernel
theorem rL_runs_153 : am_rw mL_runs 153 = some (.invokevirtual 143, 3, 68, 3) := by decide +kernel
theorem rL_runs_156 : am_rw mL_runs 156 = some (.aload_n 0, 1, 0, 0) := by decide +kernel
theorem rL_runs_157 : am_rw mL_runs 157 = some (.iload 5, 2, 0, 0) := by decide +kernel
theorem rL_runs_159 : am_rw mL_runs 159 = some (.invokevirtual 130, 3, 72, 2) := by decide +kernel
theorem rL_runs_162 : am_rw mL_runs 162 = some (.if_icmp .ne 7, 3, 169, 0) := by decide +kernel
theorem rL_runs_165 : am_rw mL_runs 165 = some (.iconst 1, 1, 1, 0) := by decide +kernel
theorem rL_runs_166 : am_rw mL_runs 166 = some (.goto 4, 3, 170, 0) := by decide +kernel
theorem rL_runs_169 : am_rw mL_runs 169 = some (.iconst 0, 1, 0, 0) := by decide +kernel
theorem rL_runs_170 : am_rw mL_runs 170 = some (.ireturn, 1, 0, 0) := by decide +kernel
theorem rL_isPeak_0 : am_rw mL_isPeak 0 = some (.aload_n 0, 1, 0, 0) := by decide +kernel
theorem rL_isPeak_1 : am_rw mL_isPeak 1 = some (.aload_n 1, 1, 0, 0) := by decide +kernel
theorem rL_isPeak_2 : am_rw mL_isPeak 2 = some (.iload_n 2, 1, 0, 0) := by decide +kernel
theorem rL_isPeak_3 : am_rw mL_isPeak 3 = some (.iaload, 1, 0, 0) := by decide +kernel
theorem rL_isPeak_4 : am_rw mL_isPeak 4 = some (.aload_n 1, 1, 0, 0) := by decide +kernel
theorem rL_isPeak_5 : am_rw mL_isPeak 5 = some (.bipush 12, 2, 12, 0) := by decide +kernel
theorem rL_isPeak_7 : am_rw mL_isPeak 7 = some (.iload_n 2, 1, 0, 0) := by decide +kernel
theorem rL_isPeak_8 : am_rw mL_isPeak 8 = some (.iadd, 1, 0, 0) := by decide +kernel
theorem rL_isPeak_9 : am_rw mL_isPeak 9 = some (.iaload, 1, 0, 0) := by decide +kernel
theorem rL_isPeak_10 : am_rw mL_isPeak 10 = some (.invokevirtual 143, 3, 68, 3) := by decide +kernel
theorem rL_isPeak_13 : am_rw mL_isPeak 13 = some (.istore_n 3, 1, 0, 0) := by decide +kernel
theorem rL_isPeak_14 : am_rw mL_isPeak 14 = some (.aload_n 1, 1, 0, 0) := by decide +kernel
theorem rL_isPeak_15 : am_rw mL_isPeak 15 = some (.bipush 12, 2, 12, 0) := by decide +kernel
theorem rL_isPeak_17 : am_rw mL_isPeak 17 = some (.iload_n 2, 1, 0, 0) := by decide +kernel
theorem rL_isPeak_18 : am_rw mL_isPeak 18 = some (.iadd, 1, 0, 0) := by decide +kernel
theorem rL_isPeak_19 : am_rw mL_isPeak 19 = some (.iaload, 1, 0, 0) := by decide +kernel
theorem rL_isPeak_20 : am_rw mL_isPeak 20 = some (.istore 4, 2, 0, 0) := by decide +kernel
theorem rL_isPeak_22 : am_rw mL_isPeak 22 = some (.iload 4, 2, 0, 0) := by decide +kernel
theorem rL_isPeak_24 : am_rw mL_isPeak 24 = some (.aload_n 1, 1, 0, 0) := by decide +kernel
theorem rL_isPeak_25 : am_rw mL_isPeak 25 = some (.bipush 24, 2, 24, 0) := by decide +kernel
theorem rL_isPeak_27 : am_rw mL_isPeak 27 = some (.iload_n 2, 1, 0, 0) := by decide +kernel
theorem rL_isPeak_28 : am_rw mL_isPeak 28 = some (.iadd, 1, 0, 0) := by decide +kernel
theorem rL_isPeak_29 : am_rw mL_isPeak 29 = some (.iaload, 1, 0, 0) := by decide +kernel
theorem rL_isPeak_30 : am_rw mL_isPeak 30 = some (.if_icmp .gt 39, 3, 69, 0) := by decide +kernel
theorem rL_isPeak_33 : am_rw mL_isPeak 33 = some (.aload_n 0, 1, 0, 0) := by decide +kernel
theorem rL_isPeak_34 : am_rw mL_isPeak 34 = some (.aload_n 1, 1, 0, 0) := by decide +kernel
theorem rL_isPeak_35 : am_rw mL_isPeak 35 = some (.iload_n 2, 1, 0, 0) := by decide +kernel
theorem rL_isPeak_36 : am_rw mL_isPeak 36 = some (.iaload, 1, 0, 0) := by decide +kernel
theorem rL_isPeak_37 : am_rw mL_isPeak 37 = some (.iload 4, 2, 0, 0) := by decide +kernel
theorem rL_isPeak_39 : am_rw mL_isPeak 39 = some (.invokevirtual 143, 3, 68, 3) := by decide +kernel
theorem rL_isPeak_42 : am_rw mL_isPeak 42 = some (.istore 5, 2, 0, 0) := by decide +kernel
theorem rL_isPeak_44 : am_rw mL_isPeak 44 = some (.iload 5, 2, 0, 0) := by decide +kernel
theorem rL_isPeak_46 : am_rw mL_isPeak 46 = some (.invokestatic 146, 3, 113, 1) := by decide +kernel
theorem rL_isPeak_49 : am_rw mL_isPeak 49 = some (.iload_n 3, 1, 0, 0) := by decide +kernel
theorem rL_isPeak_50 : am_rw mL_isPeak 50 = some (.invokestatic 146, 3, 113, 1) := by decide +kernel
theorem rL_isPeak_53 : am_rw mL_isPeak 53 = some (.if_icmp .le 8, 3, 61, 0) := by decide +kernel
theorem rL_isPeak_56 : am_rw mL_isPeak 56 = some (.iload 5, 2, 0, 0) := by decide +kernel
theorem rL_isPeak_58 : am_rw mL_isPeak 58 = some (.goto 4, 3, 62, 0) := by decide +kernel
theorem rL_isPeak_61 : am_rw mL_isPeak 61 = some (.iload_n 3, 1, 0, 0) := by decide +kernel
theorem rL_isPeak_62 : am_rw mL_isPeak 62 = some (.istore_n 3, 1, 0, 0) := by decide +kernel
theorem rL_isPeak_63 : am_rw mL_isPeak 63 = some (.iinc 4 1, 3, 0, 0) := by decide +kernel
theorem rL_isPeak_66 : am_rw mL_isPeak 66 = some (.goto (-44), 3, 22, 0) := by decide +kernel
theorem rL_isPeak_69 : am_rw mL_isPeak 69 = some (.aload_n 0, 1, 0, 0) := by decide +kernel
theorem rL_isPeak_70 : am_rw mL_isPeak 70 = some (.iload_n 2, 1, 0, 0) := by decide +kernel
theorem rL_isPeak_71 : am_rw mL_isPeak 71 = some (.invokevirtual 133, 3, 74, 2) := by decide +kernel
theorem rL_isPeak_74 : am_rw mL_isPeak 74 = some (.iload_n 3, 1, 0, 0) := by decide +kernel
theorem rL_isPeak_75 : am_rw mL_isPeak 75 = some (.if_icmp .ne 7, 3, 82, 0) := by decide +kernel
theorem rL_isPeak_78 : am_rw mL_isPeak 78 = some (.iconst 1, 1, 1, 0) := by decide +kernel
theorem rL_isPeak_79 : am_rw mL_isPeak 79 = some (.goto 4, 3, 83, 0) := by decide +kernel
theorem rL_isPeak_82 : am_rw mL_isPeak 82 = some (.iconst 0, 1, 0, 0) := by decide +kernel
theorem rL_isPeak_83 : am_rw mL_isPeak 83 = some (.ireturn, 1, 0, 0) := by decide +kernel
theorem rL_goes_0 : am_rw mL_goes 0 = some (.aload_n 0, 1, 0, 0) := by decide +kernel
theorem rL_goes_1 : am_rw mL_goes 1 = some (.iload 5, 2, 0, 0) := by decide +kernel
theorem rL_goes_3 : am_rw mL_goes 3 = some (.invokevirtual 127, 3, 71, 2) := by decide +kernel
theorem rL_goes_6 : am_rw mL_goes 6 = some (.ifCond .ne 27, 3, 33, 0) := by decide +kernel
theorem rL_goes_9 : am_rw mL_goes 9 = some (.aload_n 2, 1, 0, 0) := by decide +kernel
theorem rL_goes_10 : am_rw mL_goes 10 = some (.aload_n 3, 1, 0, 0) := by decide +kernel
theorem rL_goes_11 : am_rw mL_goes 11 = some (.iload 5, 2, 0, 0) := by decide +kernel
theorem rL_goes_13 : am_rw mL_goes 13 = some (.iaload, 1, 0, 0) := by decide +kernel
theorem rL_goes_14 : am_rw mL_goes 14 = some (.iaload, 1, 0, 0) := by decide +kernel
theorem rL_goes_15 : am_rw mL_goes 15 = some (.aload_n 1, 1, 0, 0) := by decide +kernel
theorem rL_goes_16 : am_rw mL_goes 16 = some (.iconst 4, 1, 4, 0) := by decide +kernel
theorem rL_goes_17 : am_rw mL_goes 17 = some (.bipush 6, 2, 6, 0) := by decide +kernel
theorem rL_goes_19 : am_rw mL_goes 19 = some (.iload 4, 2, 0, 0) := by decide +kernel
theorem rL_goes_21 : am_rw mL_goes 21 = some (.imul, 1, 0, 0) := by decide +kernel
theorem rL_goes_22 : am_rw mL_goes 22 = some (.iadd, 1, 0, 0) := by decide +kernel
theorem rL_goes_23 : am_rw mL_goes 23 = some (.iconst 1, 1, 1, 0) := by decide +kernel
theorem rL_goes_24 : am_rw mL_goes 24 = some (.iadd, 1, 0, 0) := by decide +kernel
theorem rL_goes_25 : am_rw mL_goes 25 = some (.iaload, 1, 0, 0) := by decide +kernel
theorem rL_goes_26 : am_rw mL_goes 26 = some (.if_icmp .ne 7, 3, 33, 0) := by decide +kernel
theorem rL_goes_29 : am_rw mL_goes 29 = some (.iconst 1, 1, 1, 0) := by decide +kernel
theorem rL_goes_30 : am_rw mL_goes 30 = some (.goto 4, 3, 34, 0) := by decide +kernel
theorem rL_goes_33 : am_rw mL_goes 33 = some (.iconst 0, 1, 0, 0) := by decide +kernel
theorem rL_goes_34 : am_rw mL_goes 34 = some (.istore 6, 2, 0, 0) := by decide +kernel
theorem rL_goes_36 : am_rw mL_goes 36 = some (.aload_n 0, 1, 0, 0) := by decide +kernel
theorem rL_goes_37 : am_rw mL_goes 37 = some (.iload 4, 2, 0, 0) := by decide +kernel
theorem rL_goes_39 : am_rw mL_goes 39 = some (.iload 5, 2, 0, 0) := by decide +kernel
theorem rL_goes_41 : am_rw mL_goes 41 = some (.invokestatic 149, 3, 128, 3) := by decide +kernel
theorem rL_goes_44 : am_rw mL_goes 44 = some (.iload 6, 2, 0, 0) := by decide +kernel
theorem rL_goes_46 : am_rw mL_goes 46 = some (.ifCond .eq 7, 3, 53, 0) := by decide +kernel
theorem rL_goes_49 : am_rw mL_goes 49 = some (.iconst 0, 1, 0, 0) := by decide +kernel
theorem rL_goes_50 : am_rw mL_goes 50 = some (.goto 4, 3, 54, 0) := by decide +kernel
theorem rL_goes_53 : am_rw mL_goes 53 = some (.iconst 2, 1, 2, 0) := by decide +kernel
theorem rL_goes_54 : am_rw mL_goes 54 = some (.if_icmp .ne 7, 3, 61, 0) := by decide +kernel
theorem rL_goes_57 : am_rw mL_goes 57 = some (.iconst 1, 1, 1, 0) := by decide +kernel
theorem rL_goes_58 : am_rw mL_goes 58 = some (.goto 4, 3, 62, 0) := by decide +kernel
theorem rL_goes_61 : am_rw mL_goes 61 = some (.iconst 0, 1, 0, 0) := by decide +kernel
theorem rL_goes_62 : am_rw mL_goes 62 = some (.ireturn, 1, 0, 0) := by decide +kernel
theorem rL_ofGo_0 : am_rw mL_ofGo 0 = some (.aload_n 0, 1, 0, 0) := by decide +kernel
theorem rL_ofGo_1 : am_rw mL_ofGo 1 = some (.iload_n 1, 1, 0, 0) := by decide +kernel
theorem rL_ofGo_2 : am_rw mL_ofGo 2 = some (.iload_n 2, 1, 0, 0) := by decide +kernel
theorem rL_ofGo_3 : am_rw mL_ofGo 3 = some (.invokevirtual 153, 3, 77, 3) := by decide +kernel
theorem rL_ofGo_6 : am_rw mL_ofGo 6 = some (.goto 6, 3, 12, 0) := by decide +kernel
theorem rL_ofGo_10 : am_rw mL_ofGo 10 = some (.iconst 2, 1, 2, 0) := by decide +kernel
theorem rL_ofGo_11 : am_rw mL_ofGo 11 = some (.ireturn, 1, 0, 0) := by decide +kernel
theorem rL_ofGo_12 : am_rw mL_ofGo 12 = some (.iconst 0, 1, 0, 0) := by decide +kernel
theorem rL_ofGo_13 : am_rw mL_ofGo 13 = some (.ireturn, 1, 0, 0) := by decide +kernel
theorem rL_ofSound_0 : am_rw mL_ofSound 0 = some (.aload_n 0, 1, 0, 0) := by decide +kernel
theorem rL_ofSound_1 : am_rw mL_ofSound 1 = some (.iload_n 1, 1, 0, 0) := by decide +kernel
theorem rL_ofSound_2 : am_rw mL_ofSound 2 = some (.iload_n 2, 1, 0, 0) := by decide +kernel
theorem rL_ofSound_3 : am_rw mL_ofSound 3 = some (.invokevirtual 157, 3, 81, 3) := by decide +kernel
theorem rL_ofSound_6 : am_rw mL_ofSound 6 = some (.ireturn, 1, 0, 0) := by decide +kernel
theorem rL_ofSound_8 : am_rw mL_ofSound 8 = some (.bipush (-2), 2, 2, 1) := by decide +kernel
theorem rL_ofSound_10 : am_rw mL_ofSound 10 = some (.ireturn, 1, 0, 0) := by decide +kernel
theorem rL_sounds_0 : am_rw mL_sounds 0 = some (.iconst 4, 1, 4, 0) := by decide +kernel
theorem rL_sounds_1 : am_rw mL_sounds 1 = some (.bipush 6, 2, 6, 0) := by decide +kernel
theorem rL_sounds_3 : am_rw mL_sounds 3 = some (.iload 5, 2, 0, 0) := by decide +kernel
theorem rL_sounds_5 : am_rw mL_sounds 5 = some (.imul, 1, 0, 0) := by decide +kernel
theorem rL_sounds_6 : am_rw mL_sounds 6 = some (.iadd, 1, 0, 0) := by decide +kernel
theorem rL_sounds_7 : am_rw mL_sounds 7 = some (.istore 7, 2, 0, 0) := by decide +kernel
theorem rL_sounds_9 : am_rw mL_sounds 9 = some (.iconst 0, 1, 0, 0) := by decide +kernel
theorem rL_sounds_10 : am_rw mL_sounds 10 = some (.istore 8, 2, 0, 0) := by decide +kernel
theorem rL_sounds_12 : am_rw mL_sounds 12 = some (.iconst 0, 1, 0, 0) := by decide +kernel
theorem rL_sounds_13 : am_rw mL_sounds 13 = some (.istore 9, 2, 0, 0) := by decide +kernel
theorem rL_sounds_15 : am_rw mL_sounds 15 = some (.iload 9, 2, 0, 0) := by decide +kernel
theorem rL_sounds_17 : am_rw mL_sounds 17 = some (.aload_n 1, 1, 0, 0) := by decide +kernel
theorem rL_sounds_18 : am_rw mL_sounds 18 = some (.iconst 2, 1, 2, 0) := by decide +kernel
theorem rL_sounds_19 : am_rw mL_sounds 19 = some (.iaload, 1, 0, 0) := by decide +kernel
theorem rL_sounds_20 : am_rw mL_sounds 20 = some (.if_icmp .ge 42, 3, 62, 0) := by decide +kernel
theorem rL_sounds_23 : am_rw mL_sounds 23 = some (.iload 8, 2, 0, 0) := by decide +kernel
theorem rL_sounds_25 : am_rw mL_sounds 25 = some (.ifCond .ne 24, 3, 49, 0) := by decide +kernel
theorem rL_sounds_28 : am_rw mL_sounds 28 = some (.aload 4, 2, 0, 0) := by decide +kernel
theorem rL_sounds_30 : am_rw mL_sounds 30 = some (.iload 9, 2, 0, 0) := by decide +kernel
theorem rL_sounds_32 : am_rw mL_sounds 32 = some (.iaload, 1, 0, 0) := by decide +kernel
theorem rL_sounds_33 : am_rw mL_sounds 33 = some (.iload 5, 2, 0, 0) := by decide +kernel
theorem rL_sounds_35 : am_rw mL_sounds 35 = some (.if_icmp .ne 18, 3, 53, 0) := by decide +kernel
theorem rL_sounds_38 : am_rw mL_sounds 38 = some (.aload 4, 2, 0, 0) := by decide +kernel
theorem rL_sounds_40 : am_rw mL_sounds 40 = some (.bipush 12, 2, 12, 0) := by decide +kernel
theorem rL_sounds_42 : am_rw mL_sounds 42 = some (.iload 9, 2, 0, 0) := by decide +kernel
theorem rL_sounds_44 : am_rw mL_sounds 44 = some (.iadd, 1, 0, 0) := by decide +kernel
theorem rL_sounds_45 : am_rw mL_sounds 45 = some (.iaload, 1, 0, 0) := by decide +kernel
theorem rL_sounds_46 : am_rw mL_sounds 46 = some (.ifCond .ne 7, 3, 53, 0) := by decide +kernel
theorem rL_sounds_49 : am_rw mL_sounds 49 = some (.iconst 1, 1, 1, 0) := by decide +kernel
theorem rL_sounds_50 : am_rw mL_sounds 50 = some (.goto 4, 3, 54, 0) := by decide +kernel
theorem rL_sounds_53 : am_rw mL_sounds 53 = some (.iconst 0, 1, 0, 0) := by decide +kernel
theorem rL_sounds_54 : am_rw mL_sounds 54 = some (.istore 8, 2, 0, 0) := by decide +kernel
theorem rL_sounds_56 : am_rw mL_sounds 56 = some (.iinc 9 1, 3, 0, 0) := by decide +kernel
theorem rL_sounds_59 : am_rw mL_sounds 59 = some (.goto (-44), 3, 15, 0) := by decide +kernel
theorem rL_sounds_62 : am_rw mL_sounds 62 = some (.aload_n 1, 1, 0, 0) := by decide +kernel
theorem rL_sounds_63 : am_rw mL_sounds 63 = some (.iload 7, 2, 0, 0) := by decide +kernel
theorem rL_sounds_65 : am_rw mL_sounds 65 = some (.iconst 3, 1, 3, 0) := by decide +kernel
theorem rL_sounds_66 : am_rw mL_sounds 66 = some (.iadd, 1, 0, 0) := by decide +kernel
theorem rL_sounds_67 : am_rw mL_sounds 67 = some (.iaload, 1, 0, 0) := by decide +kernel
theorem rL_sounds_68 : am_rw mL_sounds 68 = some (.iconst 1, 1, 1, 0) := by decide +kernel
theorem rL_sounds_69 : am_rw mL_sounds 69 = some (.if_icmp .ne 58, 3, 127, 0) := by decide +kernel
theorem rL_sounds_72 : am_rw mL_sounds 72 = some (.iload 8, 2, 0, 0) := by decide +kernel
theorem rL_sounds_74 : am_rw mL_sounds 74 = some (.ifCond .ne 53, 3, 127, 0) := by decide +kernel
theorem rL_sounds_77 : am_rw mL_sounds 77 = some (.aload_n 0, 1, 0, 0) := by decide +kernel
theorem rL_sounds_78 : am_rw mL_sounds 78 = some (.iload 6, 2, 0, 0) := by decide +kernel
theorem rL_sounds_80 : am_rw mL_sounds 80 = some (.invokevirtual 127, 3, 71, 2) := by decide +kernel
theorem rL_sounds_83 : am_rw mL_sounds 83 = some (.ifCond .ne 44, 3, 127, 0) := by decide +kernel
theorem rL_sounds_86 : am_rw mL_sounds 86 = some (.aload_n 2, 1, 0, 0) := by decide +kernel
theorem rL_sounds_87 : am_rw mL_sounds 87 = some (.aload_n 3, 1, 0, 0) := by decide +kernel
theorem rL_sounds_88 : am_rw mL_sounds 88 = some (.iload 6, 2, 0, 0) := by decide +kernel
theorem rL_sounds_90 : am_rw mL_sounds 90 = some (.iaload, 1, 0, 0) := by decide +kernel
theorem rL_sounds_91 : am_rw mL_sounds 91 = some (.iaload, 1, 0, 0) := by decide +kernel
theorem rL_sounds_92 : am_rw mL_sounds 92 = some (.aload_n 1, 1, 0, 0) := by decide +kernel
theorem rL_sounds_93 : am_rw mL_sounds 93 = some (.iload 7, 2, 0, 0) := by decide +kernel
theorem rL_sounds_95 : am_rw mL_sounds 95 = some (.iconst 1, 1, 1, 0) := by decide +kernel
theorem rL_sounds_96 : am_rw mL_sounds 96 = some (.iadd, 1, 0, 0) := by decide +kernel
theorem rL_sounds_97 : am_rw mL_sounds 97 = some (.iaload, 1, 0, 0) := by decide +kernel
theorem rL_sounds_98 : am_rw mL_sounds 98 = some (.if_icmp .ne 29, 3, 127, 0) := by decide +kernel
theorem rL_sounds_101 : am_rw mL_sounds 101 = some (.aload_n 3, 1, 0, 0) := by decide +kernel
theorem rL_sounds_102 : am_rw mL_sounds 102 = some (.bipush 36, 2, 36, 0) := by decide +kernel
theorem rL_sounds_104 : am_rw mL_sounds 104 = some (.iload 6, 2, 0, 0) := by decide +kernel
theorem rL_sounds_106 : am_rw mL_sounds 106 = some (.iadd, 1, 0, 0) := by decide +kernel
theorem rL_sounds_107 : am_rw mL_sounds 107 = some (.iaload, 1, 0, 0) := by decide +kernel
theorem rL_sounds_108 : am_rw mL_sounds 108 = some (.invokestatic 146, 3, 113, 1) := by decide +kernel
theorem rL_sounds_111 : am_rw mL_sounds 111 = some (.aload_n 1, 1, 0, 0) := by decide +kernel
theorem rL_sounds_112 : am_rw mL_sounds 112 = some (.iload 7, 2, 0, 0) := by decide +kernel
theorem rL_sounds_114 : am_rw mL_sounds 114 = some (.iconst 5, 1, 5, 0) := by decide +kernel
theorem rL_sounds_115 : am_rw mL_sounds 115 = some (.iadd, 1, 0, 0) := by decide +kernel
theorem rL_sounds_116 : am_rw mL_sounds 116 = some (.iaload, 1, 0, 0) := by decide +kernel
theorem rL_sounds_117 : am_rw mL_sounds 117 = some (.invokestatic 160, 3, 114, 1) := by decide +kernel
theorem rL_sounds_120 : am_rw mL_sounds 120 = some (.if_icmp .lt 7, 3, 127, 0) := by decide +kernel
theorem rL_sounds_123 : am_rw mL_sounds 123 = some (.iconst 1, 1, 1, 0) := by decide +kernel
theorem rL_sounds_124 : am_rw mL_sounds 124 = some (.goto 4, 3, 128, 0) := by decide +kernel
theorem rL_sounds_127 : am_rw mL_sounds 127 = some (.iconst 0, 1, 0, 0) := by decide +kernel
theorem rL_sounds_128 : am_rw mL_sounds 128 = some (.istore 9, 2, 0, 0) := by decide +kernel
theorem rL_sounds_130 : am_rw mL_sounds 130 = some (.aload_n 0, 1, 0, 0) := by decide +kernel
theorem rL_sounds_131 : am_rw mL_sounds 131 = some (.iload 5, 2, 0, 0) := by decide +kernel
theorem rL_sounds_133 : am_rw mL_sounds 133 = some (.iload 6, 2, 0, 0) := by decide +kernel
theorem rL_sounds_135 : am_rw mL_sounds 135 = some (.invokestatic 163, 3, 129, 3) := by decide +kernel
theorem rL_sounds_138 : am_rw mL_sounds 138 = some (.istore 10, 2, 0, 0) := by decide +kernel
theorem rL_sounds_140 : am_rw mL_sounds 140 = some (.iload 10, 2, 0, 0) := by decide +kernel
theorem rL_sounds_142 : am_rw mL_sounds 142 = some (.iload 9, 2, 0, 0) := by decide +kernel
theorem rL_sounds_144 : am_rw mL_sounds 144 = some (.ifCond .eq 9, 3, 153, 0) := by decide +kernel
theorem rL_sounds_147 : am_rw mL_sounds 147 = some (.aload_n 1, 1, 0, 0) := by decide +kernel
theorem rL_sounds_148 : am_rw mL_sounds 148 = some (.iconst 2, 1, 2, 0) := by decide +kernel
theorem rL_sounds_149 : am_rw mL_sounds 149 = some (.iaload, 1, 0, 0) := by decide +kernel
theorem rL_sounds_150 : am_rw mL_sounds 150 = some (.goto 5, 3, 155, 0) := by decide +kernel
theorem rL_sounds_153 : am_rw mL_sounds 153 = some (.bipush (-2), 2, 2, 1) := by decide +kernel
theorem rL_sounds_155 : am_rw mL_sounds 155 = some (.if_icmp .eq 5, 3, 160, 0) := by decide +kernel
theorem rL_sounds_158 : am_rw mL_sounds 158 = some (.iconst 0, 1, 0, 0) := by decide +kernel
theorem rL_sounds_159 : am_rw mL_sounds 159 = some (.ireturn, 1, 0, 0) := by decide +kernel
theorem rL_sounds_160 : am_rw mL_sounds 160 = some (.iload 9, 2, 0, 0) := by decide +kernel
theorem rL_sounds_162 : am_rw mL_sounds 162 = some (.ifCond .eq 40, 3, 202, 0) := by decide +kernel
theorem rL_sounds_165 : am_rw mL_sounds 165 = some (.aload 4, 2, 0, 0) := by decide +kernel
theorem rL_sounds_167 : am_rw mL_sounds 167 = some (.iload 10, 2, 0, 0) := by decide +kernel
theorem rL_sounds_169 : am_rw mL_sounds 169 = some (.iload 5, 2, 0, 0) := by decide +kernel
theorem rL_sounds_171 : am_rw mL_sounds 171 = some (.iastore, 1, 0, 0) := by decide +kernel
theorem rL_sounds_172 : am_rw mL_sounds 172 = some (.aload 4, 2, 0, 0) := by decide +kernel
theorem rL_sounds_174 : am_rw mL_sounds 174 = some (.bipush 12, 2, 12, 0) := by decide +kernel
theorem rL_sounds_176 : am_rw mL_sounds 176 = some (.iload 10, 2, 0, 0) := by decide +kernel
theorem rL_sounds_178 : am_rw mL_sounds 178 = some (.iadd, 1, 0, 0) := by decide +kernel
theorem rL_sounds_179 : am_rw mL_sounds 179 = some (.iconst 0, 1, 0, 0) := by decide +kernel
theorem rL_sounds_180 : am_rw mL_sounds 180 = some (.iastore, 1, 0, 0) := by decide +kernel
theorem rL_sounds_181 : am_rw mL_sounds 181 = some (.aload 4, 2, 0, 0) := by decide +kernel
theorem rL_sounds_183 : am_rw mL_sounds 183 = some (.bipush 24, 2, 24, 0) := by decide +kernel
theorem rL_sounds_185 : am_rw mL_sounds 185 = some (.iload 10, 2, 0, 0) := by decide +kernel
theorem rL_sounds_187 : am_rw mL_sounds 187 = some (.iadd, 1, 0, 0) := by decide +kernel
theorem rL_sounds_188 : am_rw mL_sounds 188 = some (.aload_n 0, 1, 0, 0) := by decide +kernel
theorem rL_sounds_189 : am_rw mL_sounds 189 = some (.iload 10, 2, 0, 0) := by decide +kernel
theorem rL_sounds_191 : am_rw mL_sounds 191 = some (.invokevirtual 166, 3, 83, 2) := by decide +kernel
theorem rL_sounds_194 : am_rw mL_sounds 194 = some (.iastore, 1, 0, 0) := by decide +kernel
theorem rL_sounds_195 : am_rw mL_sounds 195 = some (.aload_n 1, 1, 0, 0) := by decide +kernel
theorem rL_sounds_196 : am_rw mL_sounds 196 = some (.iconst 2, 1, 2, 0) := by decide +kernel
theorem rL_sounds_197 : am_rw mL_sounds 197 = some (.dup2, 1, 0, 0) := by decide +kernel
theorem rL_sounds_198 : am_rw mL_sounds 198 = some (.iaload, 1, 0, 0) := by decide +kernel
theorem rL_sounds_199 : am_rw mL_sounds 199 = some (.iconst 1, 1, 1, 0) := by decide +kernel
theorem rL_sounds_200 : am_rw mL_sounds 200 = some (.iadd, 1, 0, 0) := by decide +kernel
theorem rL_sounds_201 : am_rw mL_sounds 201 = some (.iastore, 1, 0, 0) := by decide +kernel
theorem rL_sounds_202 : am_rw mL_sounds 202 = some (.iload 9, 2, 0, 0) := by decide +kernel
theorem rL_sounds_204 : am_rw mL_sounds 204 = some (.ifCond .eq 40, 3, 244, 0) := by decide +kernel
theorem rL_sounds_207 : am_rw mL_sounds 207 = some (.aload_n 0, 1, 0, 0) := by decide +kernel
theorem rL_sounds_208 : am_rw mL_sounds 208 = some (.iload 10, 2, 0, 0) := by decide +kernel
theorem rL_sounds_210 : am_rw mL_sounds 210 = some (.invokevirtual 169, 3, 82, 2) := by decide +kernel
theorem rL_sounds_213 : am_rw mL_sounds 213 = some (.ifCond .ne 35, 3, 248, 0) := by decide +kernel
theorem rL_sounds_216 : am_rw mL_sounds 216 = some (.aload 4, 2, 0, 0) := by decide +kernel
theorem rL_sounds_218 : am_rw mL_sounds 218 = some (.bipush 24, 2, 24, 0) := by decide +kernel
theorem rL_sounds_220 : am_rw mL_sounds 220 = some (.iload 10, 2, 0, 0) := by decide +kernel
theorem rL_sounds_222 : am_rw mL_sounds 222 = some (.iadd, 1, 0, 0) := by decide +kernel
theorem rL_sounds_223 : am_rw mL_sounds 223 = some (.iaload, 1, 0, 0) := by decide +kernel
theorem rL_sounds_224 : am_rw mL_sounds 224 = some (.ifCond .lt 24, 3, 248, 0) := by decide +kernel
theorem rL_sounds_227 : am_rw mL_sounds 227 = some (.aload 4, 2, 0, 0) := by decide +kernel
theorem rL_sounds_229 : am_rw mL_sounds 229 = some (.bipush 24, 2, 24, 0) := by decide +kernel
theorem rL_sounds_231 : am_rw mL_sounds 231 = some (.iload 10, 2, 0, 0) := by decide +kernel
theorem rL_sounds_233 : am_rw mL_sounds 233 = some (.iadd, 1, 0, 0) := by decide +kernel
theorem rL_sounds_234 : am_rw mL_sounds 234 = some (.iaload, 1, 0, 0) := by decide +kernel
theorem rL_sounds_235 : am_rw mL_sounds 235 = some (.aload_n 1, 1, 0, 0) := by decide +kernel
theorem rL_sounds_236 : am_rw mL_sounds 236 = some (.iload 7, 2, 0, 0) := by decide +kernel
theorem rL_sounds_238 : am_rw mL_sounds 238 = some (.iconst 4, 1, 4, 0) := by decide +kernel
theorem rL_sounds_239 : am_rw mL_sounds 239 = some (.iadd, 1, 0, 0) := by decide +kernel
theorem rL_sounds_240 : am_rw mL_sounds 240 = some (.iaload, 1, 0, 0) := by decide +kernel
theorem rL_sounds_241 : am_rw mL_sounds 241 = some (.if_icmp .gt 7, 3, 248, 0) := by decide +kernel
theorem rL_sounds_244 : am_rw mL_sounds 244 = some (.iconst 1, 1, 1, 0) := by decide +kernel
theorem rL_sounds_245 : am_rw mL_sounds 245 = some (.goto 4, 3, 249, 0) := by decide +kernel
theorem rL_sounds_248 : am_rw mL_sounds 248 = some (.iconst 0, 1, 0, 0) := by decide +kernel
theorem rL_sounds_249 : am_rw mL_sounds 249 = some (.ireturn, 1, 0, 0) := by decide +kernel
theorem rL_passes_0 : am_rw mL_passes 0 = some (.aload_n 1, 1, 0, 0) := by decide +kernel
theorem rL_passes_1 : am_rw mL_passes 1 = some (.iconst 0, 1, 0, 0) := by decide +kernel
theorem rL_passes_2 : am_rw mL_passes 2 = some (.dup2, 1, 0, 0) := by decide +kernel
theorem rL_passes_3 : am_rw mL_passes 3 = some (.iaload, 1, 0, 0) := by decide +kernel
theorem rL_passes_4 : am_rw mL_passes 4 = some (.iload_n 3, 1, 0, 0) := by decide +kernel
theorem rL_passes_5 : am_rw mL_passes 5 = some (.iadd, 1, 0, 0) := by decide +kernel
theorem rL_passes_6 : am_rw mL_passes 6 = some (.iastore, 1, 0, 0) := by decide +kernel
theorem rL_passes_7 : am_rw mL_passes 7 = some (.aload_n 0, 1, 0, 0) := by decide +kernel
theorem rL_passes_8 : am_rw mL_passes 8 = some (.iload_n 3, 1, 0, 0) := by decide +kernel
theorem rL_passes_9 : am_rw mL_passes 9 = some (.invokevirtual 172, 3, 87, 2) := by decide +kernel
theorem rL_passes_12 : am_rw mL_passes 12 = some (.aload_n 1, 1, 0, 0) := by decide +kernel
theorem rL_passes_13 : am_rw mL_passes 13 = some (.iconst 0, 1, 0, 0) := by decide +kernel
theorem rL_passes_14 : am_rw mL_passes 14 = some (.iaload, 1, 0, 0) := by decide +kernel
theorem rL_passes_15 : am_rw mL_passes 15 = some (.if_icmp .ne 7, 3, 22, 0) := by decide +kernel
theorem rL_passes_18 : am_rw mL_passes 18 = some (.iconst 1, 1, 1, 0) := by decide +kernel
theorem rL_passes_19 : am_rw mL_passes 19 = some (.goto 4, 3, 23, 0) := by decide +kernel
theorem rL_passes_22 : am_rw mL_passes 22 = some (.iconst 0, 1, 0, 0) := by decide +kernel
theorem rL_passes_23 : am_rw mL_passes 23 = some (.istore 4, 2, 0, 0) := by decide +kernel
theorem rL_passes_25 : am_rw mL_passes 25 = some (.iconst 0, 1, 0, 0) := by decide +kernel
theorem rL_passes_26 : am_rw mL_passes 26 = some (.istore 5, 2, 0, 0) := by decide +kernel
theorem rL_passes_28 : am_rw mL_passes 28 = some (.iload 5, 2, 0, 0) := by decide +kernel
theorem rL_passes_30 : am_rw mL_passes 30 = some (.aload_n 1, 1, 0, 0) := by decide +kernel
theorem rL_passes_31 : am_rw mL_passes 31 = some (.iconst 2, 1, 2, 0) := by decide +kernel
theorem rL_passes_32 : am_rw mL_passes 32 = some (.iaload, 1, 0, 0) := by decide +kernel
theorem rL_passes_33 : am_rw mL_passes 33 = some (.if_icmp .ge 90, 3, 123, 0) := by decide +kernel
theorem rL_passes_36 : am_rw mL_passes 36 = some (.iload 4, 2, 0, 0) := by decide +kernel
theorem rL_passes_38 : am_rw mL_passes 38 = some (.ifCond .eq 85, 3, 123, 0) := by decide +kernel
theorem rL_passes_41 : am_rw mL_passes 41 = some (.aload_n 0, 1, 0, 0) := by decide +kernel
theorem rL_passes_42 : am_rw mL_passes 42 = some (.iload 5, 2, 0, 0) := by decide +kernel
theorem rL_passes_44 : am_rw mL_passes 44 = some (.invokevirtual 169, 3, 82, 2) := by decide +kernel
theorem rL_passes_47 : am_rw mL_passes 47 = some (.istore 6, 2, 0, 0) := by decide +kernel
theorem rL_passes_49 : am_rw mL_passes 49 = some (.aload_n 2, 1, 0, 0) := by decide +kernel
theorem rL_passes_50 : am_rw mL_passes 50 = some (.bipush 12, 2, 12, 0) := by decide +kernel
theorem rL_passes_52 : am_rw mL_passes 52 = some (.iload 5, 2, 0, 0) := by decide +kernel
theorem rL_passes_54 : am_rw mL_passes 54 = some (.iadd, 1, 0, 0) := by decide +kernel
theorem rL_passes_55 : am_rw mL_passes 55 = some (.iaload, 1, 0, 0) := by decide +kernel
theorem rL_passes_56 : am_rw mL_passes 56 = some (.ifCond .ne 17, 3, 73, 0) := by decide +kernel
theorem rL_passes_59 : am_rw mL_passes 59 = some (.iload 6, 2, 0, 0) := by decide +kernel
theorem rL_passes_61 : am_rw mL_passes 61 = some (.ifCond .lt 44, 3, 105, 0) := by decide +kernel
theorem rL_passes_64 : am_rw mL_passes 64 = some (.iload 6, 2, 0, 0) := by decide +kernel
theorem rL_passes_66 : am_rw mL_passes 66 = some (.iconst 4, 1, 4, 0) := by decide +kernel
theorem rL_passes_67 : am_rw mL_passes 67 = some (.if_icmp .ge 38, 3, 105, 0) := by decide +kernel
theorem rL_passes_70 : am_rw mL_passes 70 = some (.goto 15, 3, 85, 0) := by decide +kernel
theorem rL_passes_73 : am_rw mL_passes 73 = some (.iload 6, 2, 0, 0) := by decide +kernel
theorem rL_passes_75 : am_rw mL_passes 75 = some (.aload_n 2, 1, 0, 0) := by decide +kernel
theorem rL_passes_76 : am_rw mL_passes 76 = some (.bipush 12, 2, 12, 0) := by decide +kernel
theorem rL_passes_78 : am_rw mL_passes 78 = some (.iload 5, 2, 0, 0) := by decide +kernel
theorem rL_passes_80 : am_rw mL_passes 80 = some (.iadd, 1, 0, 0) := by decide +kernel
theorem rL_passes_81 : am_rw mL_passes 81 = some (.iaload, 1, 0, 0) := by decide +kernel
theorem rL_passes_82 : am_rw mL_passes 82 = some (.if_icmp .ne 23, 3, 105, 0) := by decide +kernel
theorem rL_passes_85 : am_rw mL_passes 85 = some (.aload_n 0, 1, 0, 0) := by decide +kernel
theorem rL_passes_86 : am_rw mL_passes 86 = some (.iload 5, 2, 0, 0) := by decide +kernel
theorem rL_passes_88 : am_rw mL_passes 88 = some (.invokevirtual 166, 3, 83, 2) := by decide +kernel
theorem rL_passes_91 : am_rw mL_passes 91 = some (.aload_n 2, 1, 0, 0) := by decide +kernel
theorem rL_passes_92 : am_rw mL_passes 92 = some (.bipush 24, 2, 24, 0) := by decide +kernel
theorem rL_passes_94 : am_rw mL_passes 94 = some (.iload 5, 2, 0, 0) := by decide +kernel
theorem rL_passes_96 : am_rw mL_passes 96 = some (.iadd, 1, 0, 0) := by decide +kernel
theorem rL_passes_97 : am_rw mL_passes 97 = some (.iaload, 1, 0, 0) := by decide +kernel
theorem rL_passes_98 : am_rw mL_passes 98 = some (.if_icmp .ne 7, 3, 105, 0) := by decide +kernel
theorem rL_passes_101 : am_rw mL_passes 101 = some (.iconst 1, 1, 1, 0) := by decide +kernel
theorem rL_passes_102 : am_rw mL_passes 102 = some (.goto 4, 3, 106, 0) := by decide +kernel
theorem rL_passes_105 : am_rw mL_passes 105 = some (.iconst 0, 1, 0, 0) := by decide +kernel
theorem rL_passes_106 : am_rw mL_passes 106 = some (.istore 4, 2, 0, 0) := by decide +kernel
theorem rL_passes_108 : am_rw mL_passes 108 = some (.aload_n 2, 1, 0, 0) := by decide +kernel
theorem rL_passes_109 : am_rw mL_passes 109 = some (.bipush 12, 2, 12, 0) := by decide +kernel
theorem rL_passes_111 : am_rw mL_passes 111 = some (.iload 5, 2, 0, 0) := by decide +kernel
theorem rL_passes_113 : am_rw mL_passes 113 = some (.iadd, 1, 0, 0) := by decide +kernel
theorem rL_passes_114 : am_rw mL_passes 114 = some (.iload 6, 2, 0, 0) := by decide +kernel
theorem rL_passes_116 : am_rw mL_passes 116 = some (.iastore, 1, 0, 0) := by decide +kernel
theorem rL_passes_117 : am_rw mL_passes 117 = some (.iinc 5 1, 3, 0, 0) := by decide +kernel
theorem rL_passes_120 : am_rw mL_passes 120 = some (.goto (-92), 3, 28, 0) := by decide +kernel
theorem rL_passes_123 : am_rw mL_passes 123 = some (.iload 4, 2, 0, 0) := by decide +kernel
theorem rL_passes_125 : am_rw mL_passes 125 = some (.ireturn, 1, 0, 0) := by decide +kernel
theorem rL_isAll_0 : am_rw mL_isAll 0 = some (.iconst 1, 1, 1, 0) := by decide +kernel
theorem rL_isAll_1 : am_rw mL_isAll 1 = some (.istore 5, 2, 0, 0) := by decide +kernel
theorem rL_isAll_3 : am_rw mL_isAll 3 = some (.aload_n 1, 1, 0, 0) := by decide +kernel
theorem rL_isAll_4 : am_rw mL_isAll 4 = some (.iconst 3, 1, 3, 0) := by decide +kernel
theorem rL_isAll_5 : am_rw mL_isAll 5 = some (.iaload, 1, 0, 0) := by decide +kernel
theorem rL_isAll_6 : am_rw mL_isAll 6 = some (.ifCond .le 70, 3, 76, 0) := by decide +kernel
theorem rL_isAll_9 : am_rw mL_isAll 9 = some (.aload_n 0, 1, 0, 0) := by decide +kernel
theorem rL_isAll_10 : am_rw mL_isAll 10 = some (.iload 4, 2, 0, 0) := by decide +kernel
theorem rL_isAll_12 : am_rw mL_isAll 12 = some (.aload_n 1, 1, 0, 0) := by decide +kernel
theorem rL_isAll_13 : am_rw mL_isAll 13 = some (.iconst 3, 1, 3, 0) := by decide +kernel
theorem rL_isAll_14 : am_rw mL_isAll 14 = some (.iaload, 1, 0, 0) := by decide +kernel
theorem rL_isAll_15 : am_rw mL_isAll 15 = some (.irem, 1, 0, 0) := by decide +kernel
theorem rL_isAll_16 : am_rw mL_isAll 16 = some (.iload 4, 2, 0, 0) := by decide +kernel
theorem rL_isAll_18 : am_rw mL_isAll 18 = some (.bipush 60, 2, 60, 0) := by decide +kernel
theorem rL_isAll_20 : am_rw mL_isAll 20 = some (.idiv, 1, 0, 0) := by decide +kernel
theorem rL_isAll_21 : am_rw mL_isAll 21 = some (.bipush 80, 2, 80, 0) := by decide +kernel
theorem rL_isAll_23 : am_rw mL_isAll 23 = some (.irem, 1, 0, 0) := by decide +kernel
theorem rL_isAll_24 : am_rw mL_isAll 24 = some (.invokevirtual 143, 3, 68, 3) := by decide +kernel
theorem rL_isAll_27 : am_rw mL_isAll 27 = some (.istore 6, 2, 0, 0) := by decide +kernel
theorem rL_isAll_29 : am_rw mL_isAll 29 = some (.aload_n 0, 1, 0, 0) := by decide +kernel
theorem rL_isAll_30 : am_rw mL_isAll 30 = some (.iload 4, 2, 0, 0) := by decide +kernel
theorem rL_isAll_32 : am_rw mL_isAll 32 = some (.aload_n 1, 1, 0, 0) := by decide +kernel
theorem rL_isAll_33 : am_rw mL_isAll 33 = some (.iconst 3, 1, 3, 0) := by decide +kernel
theorem rL_isAll_34 : am_rw mL_isAll 34 = some (.iaload, 1, 0, 0) := by decide +kernel
theorem rL_isAll_35 : am_rw mL_isAll 35 = some (.irem, 1, 0, 0) := by decide +kernel
theorem rL_isAll_36 : am_rw mL_isAll 36 = some (.iload 4, 2, 0, 0) := by decide +kernel
theorem rL_isAll_38 : am_rw mL_isAll 38 = some (.bipush 60, 2, 60, 0) := by decide +kernel
theorem rL_isAll_40 : am_rw mL_isAll 40 = some (.idiv, 1, 0, 0) := by decide +kernel
theorem rL_isAll_41 : am_rw mL_isAll 41 = some (.bipush 80, 2, 80, 0) := by decide +kernel
theorem rL_isAll_43 : am_rw mL_isAll 43 = some (.irem, 1, 0, 0) := by decide +kernel
theorem rL_isAll_44 : am_rw mL_isAll 44 = some (.invokevirtual 175, 3, 69, 3) := by decide +kernel
theorem rL_isAll_47 : am_rw mL_isAll 47 = some (.iload 6, 2, 0, 0) := by decide +kernel
theorem rL_isAll_49 : am_rw mL_isAll 49 = some (.if_icmp .ne 24, 3, 73, 0) := by decide +kernel
theorem rL_isAll_52 : am_rw mL_isAll 52 = some (.iload 6, 2, 0, 0) := by decide +kernel
theorem rL_isAll_54 : am_rw mL_isAll 54 = some (.ldc 7, 2, 0, 2147483647) := by decide +kernel
theorem rL_isAll_56 : am_rw mL_isAll 56 = some (.iand, 1, 0, 0) := by decide +kernel
theorem rL_isAll_57 : am_rw mL_isAll 57 = some (.ldc 178, 2, 0, 1315859240) := by decide +kernel
theorem rL_isAll_59 : am_rw mL_isAll 59 = some (.if_icmp .gt 14, 3, 73, 0) := by decide +kernel
theorem rL_isAll_62 : am_rw mL_isAll 62 = some (.iload 6, 2, 0, 0) := by decide +kernel
theorem rL_isAll_64 : am_rw mL_isAll 64 = some (.ldc 179, 2, 0, 2147483648) := by decide +kernel
theorem rL_isAll_66 : am_rw mL_isAll 66 = some (.if_icmp .eq 7, 3, 73, 0) := by decide +kernel
theorem rL_isAll_69 : am_rw mL_isAll 69 = some (.iconst 1, 1, 1, 0) := by decide +kernel
theorem rL_isAll_70 : am_rw mL_isAll 70 = some (.goto 4, 3, 74, 0) := by decide +kernel
theorem rL_isAll_73 : am_rw mL_isAll 73 = some (.iconst 0, 1, 0, 0) := by decide +kernel
theorem rL_isAll_74 : am_rw mL_isAll 74 = some (.istore 5, 2, 0, 0) := by decide +kernel
theorem rL_isAll_76 : am_rw mL_isAll 76 = some (.iconst 0, 1, 0, 0) := by decide +kernel
theorem rL_isAll_77 : am_rw mL_isAll 77 = some (.istore 6, 2, 0, 0) := by decide +kernel
theorem rL_isAll_79 : am_rw mL_isAll 79 = some (.iload 6, 2, 0, 0) := by decide +kernel
theorem rL_isAll_81 : am_rw mL_isAll 81 = some (.aload_n 1, 1, 0, 0) := by decide +kernel
theorem rL_isAll_82 : am_rw mL_isAll 82 = some (.iconst 1, 1, 1, 0) := by decide +kernel
theorem rL_isAll_83 : am_rw mL_isAll 83 = some (.iaload, 1, 0, 0) := by decide +kernel
theorem rL_isAll_84 : am_rw mL_isAll 84 = some (.if_icmp .ge 109, 3, 193, 0) := by decide +kernel
theorem rL_isAll_87 : am_rw mL_isAll 87 = some (.iload 5, 2, 0, 0) := by decide +kernel
theorem rL_isAll_89 : am_rw mL_isAll 89 = some (.ifCond .eq 104, 3, 193, 0) := by decide +kernel
theorem rL_isAll_92 : am_rw mL_isAll 92 = some (.aload_n 0, 1, 0, 0) := by decide +kernel
theorem rL_isAll_93 : am_rw mL_isAll 93 = some (.iload 6, 2, 0, 0) := by decide +kernel
theorem rL_isAll_95 : am_rw mL_isAll 95 = some (.invokevirtual 127, 3, 71, 2) := by decide +kernel
theorem rL_isAll_98 : am_rw mL_isAll 98 = some (.istore 7, 2, 0, 0) := by decide +kernel
theorem rL_isAll_100 : am_rw mL_isAll 100 = some (.iload 7, 2, 0, 0) := by decide +kernel
theorem rL_isAll_102 : am_rw mL_isAll 102 = some (.iconst 1, 1, 1, 0) := by decide +kernel
theorem rL_isAll_103 : am_rw mL_isAll 103 = some (.if_icmp .ne 7, 3, 110, 0) := by decide +kernel
theorem rL_isAll_106 : am_rw mL_isAll 106 = some (.iconst 1, 1, 1, 0) := by decide +kernel
theorem rL_isAll_107 : am_rw mL_isAll 107 = some (.goto 4, 3, 111, 0) := by decide +kernel
theorem rL_isAll_110 : am_rw mL_isAll 110 = some (.iconst 0, 1, 0, 0) := by decide +kernel
theorem rL_isAll_111 : am_rw mL_isAll 111 = some (.aload_n 0, 1, 0, 0) := by decide +kernel
theorem rL_isAll_112 : am_rw mL_isAll 112 = some (.aload_n 2, 1, 0, 0) := by decide +kernel
theorem rL_isAll_113 : am_rw mL_isAll 113 = some (.aload_n 3, 1, 0, 0) := by decide +kernel
theorem rL_isAll_114 : am_rw mL_isAll 114 = some (.iload 6, 2, 0, 0) := by decide +kernel
theorem rL_isAll_116 : am_rw mL_isAll 116 = some (.iaload, 1, 0, 0) := by decide +kernel
theorem rL_isAll_117 : am_rw mL_isAll 117 = some (.iaload, 1, 0, 0) := by decide +kernel
theorem rL_isAll_118 : am_rw mL_isAll 118 = some (.invokevirtual 20, 3, 65, 2) := by decide +kernel
theorem rL_isAll_121 : am_rw mL_isAll 121 = some (.aload_n 3, 1, 0, 0) := by decide +kernel
theorem rL_isAll_122 : am_rw mL_isAll 122 = some (.iload 6, 2, 0, 0) := by decide +kernel
theorem rL_isAll_124 : am_rw mL_isAll 124 = some (.iaload, 1, 0, 0) := by decide +kernel
theorem rL_isAll_125 : am_rw mL_isAll 125 = some (.if_icmp .eq 7, 3, 132, 0) := by decide +kernel
theorem rL_isAll_128 : am_rw mL_isAll 128 = some (.iconst 1, 1, 1, 0) := by decide +kernel
theorem rL_isAll_129 : am_rw mL_isAll 129 = some (.goto 4, 3, 133, 0) := by decide +kernel
theorem rL_isAll_132 : am_rw mL_isAll 132 = some (.iconst 0, 1, 0, 0) := by decide +kernel
theorem rL_isAll_133 : am_rw mL_isAll 133 = some (.if_icmp .ne 51, 3, 184, 0) := by decide +kernel
theorem rL_isAll_136 : am_rw mL_isAll 136 = some (.aload_n 0, 1, 0, 0) := by decide +kernel
theorem rL_isAll_137 : am_rw mL_isAll 137 = some (.iload 6, 2, 0, 0) := by decide +kernel
theorem rL_isAll_139 : am_rw mL_isAll 139 = some (.invokevirtual 130, 3, 72, 2) := by decide +kernel
theorem rL_isAll_142 : am_rw mL_isAll 142 = some (.aload_n 3, 1, 0, 0) := by decide +kernel
theorem rL_isAll_143 : am_rw mL_isAll 143 = some (.bipush 36, 2, 36, 0) := by decide +kernel
theorem rL_isAll_145 : am_rw mL_isAll 145 = some (.iload 6, 2, 0, 0) := by decide +kernel
theorem rL_isAll_147 : am_rw mL_isAll 147 = some (.iadd, 1, 0, 0) := by decide +kernel
theorem rL_isAll_148 : am_rw mL_isAll 148 = some (.iaload, 1, 0, 0) := by decide +kernel
theorem rL_isAll_149 : am_rw mL_isAll 149 = some (.if_icmp .ne 35, 3, 184, 0) := by decide +kernel
theorem rL_isAll_152 : am_rw mL_isAll 152 = some (.iload 7, 2, 0, 0) := by decide +kernel
theorem rL_isAll_154 : am_rw mL_isAll 154 = some (.iconst 2, 1, 2, 0) := by decide +kernel
theorem rL_isAll_155 : am_rw mL_isAll 155 = some (.if_icmp .eq 25, 3, 180, 0) := by decide +kernel
theorem rL_isAll_158 : am_rw mL_isAll 158 = some (.aload_n 0, 1, 0, 0) := by decide +kernel
theorem rL_isAll_159 : am_rw mL_isAll 159 = some (.iload 6, 2, 0, 0) := by decide +kernel
theorem rL_isAll_161 : am_rw mL_isAll 161 = some (.invokevirtual 133, 3, 74, 2) := by decide +kernel
theorem rL_isAll_164 : am_rw mL_isAll 164 = some (.aload_n 3, 1, 0, 0) := by decide +kernel
theorem rL_isAll_165 : am_rw mL_isAll 165 = some (.bipush 36, 2, 36, 0) := by decide +kernel
theorem rL_isAll_167 : am_rw mL_isAll 167 = some (.iload 6, 2, 0, 0) := by decide +kernel
theorem rL_isAll_169 : am_rw mL_isAll 169 = some (.iadd, 1, 0, 0) := by decide +kernel
theorem rL_isAll_170 : am_rw mL_isAll 170 = some (.iaload, 1, 0, 0) := by decide +kernel
theorem rL_isAll_171 : am_rw mL_isAll 171 = some (.if_icmp .eq 9, 3, 180, 0) := by decide +kernel
theorem rL_isAll_174 : am_rw mL_isAll 174 = some (.iload 7, 2, 0, 0) := by decide +kernel
theorem rL_isAll_176 : am_rw mL_isAll 176 = some (.iconst 1, 1, 1, 0) := by decide +kernel
theorem rL_isAll_177 : am_rw mL_isAll 177 = some (.if_icmp .ne 7, 3, 184, 0) := by decide +kernel
theorem rL_isAll_180 : am_rw mL_isAll 180 = some (.iconst 1, 1, 1, 0) := by decide +kernel
theorem rL_isAll_181 : am_rw mL_isAll 181 = some (.goto 4, 3, 185, 0) := by decide +kernel
theorem rL_isAll_184 : am_rw mL_isAll 184 = some (.iconst 0, 1, 0, 0) := by decide +kernel
theorem rL_isAll_185 : am_rw mL_isAll 185 = some (.istore 5, 2, 0, 0) := by decide +kernel
theorem rL_isAll_187 : am_rw mL_isAll 187 = some (.iinc 6 1, 3, 0, 0) := by decide +kernel
theorem rL_isAll_190 : am_rw mL_isAll 190 = some (.goto (-111), 3, 79, 0) := by decide +kernel
theorem rL_isAll_193 : am_rw mL_isAll 193 = some (.iconst 0, 1, 0, 0) := by decide +kernel
theorem rL_isAll_194 : am_rw mL_isAll 194 = some (.istore 6, 2, 0, 0) := by decide +kernel
theorem rL_isAll_196 : am_rw mL_isAll 196 = some (.iconst 0, 1, 0, 0) := by decide +kernel
theorem rL_isAll_197 : am_rw mL_isAll 197 = some (.istore 7, 2, 0, 0) := by decide +kernel
theorem rL_isAll_199 : am_rw mL_isAll 199 = some (.iload 7, 2, 0, 0) := by decide +kernel
theorem rL_isAll_201 : am_rw mL_isAll 201 = some (.iconst 3, 1, 3, 0) := by decide +kernel
theorem rL_isAll_202 : am_rw mL_isAll 202 = some (.if_icmp .ge 204, 3, 406, 0) := by decide +kernel
theorem rL_isAll_205 : am_rw mL_isAll 205 = some (.iload 5, 2, 0, 0) := by decide +kernel
theorem rL_isAll_207 : am_rw mL_isAll 207 = some (.ifCond .eq 199, 3, 406, 0) := by decide +kernel
theorem rL_isAll_210 : am_rw mL_isAll 210 = some (.iconst 4, 1, 4, 0) := by decide +kernel
theorem rL_isAll_211 : am_rw mL_isAll 211 = some (.bipush 6, 2, 6, 0) := by decide +kernel
theorem rL_isAll_213 : am_rw mL_isAll 213 = some (.iload 7, 2, 0, 0) := by decide +kernel
theorem rL_isAll_215 : am_rw mL_isAll 215 = some (.imul, 1, 0, 0) := by decide +kernel
theorem rL_isAll_216 : am_rw mL_isAll 216 = some (.iadd, 1, 0, 0) := by decide +kernel
theorem rL_isAll_217 : am_rw mL_isAll 217 = some (.istore 8, 2, 0, 0) := by decide +kernel
theorem rL_isAll_219 : am_rw mL_isAll 219 = some (.aload_n 0, 1, 0, 0) := by decide +kernel
theorem rL_isAll_220 : am_rw mL_isAll 220 = some (.iload 7, 2, 0, 0) := by decide +kernel
theorem rL_isAll_222 : am_rw mL_isAll 222 = some (.invokevirtual 38, 3, 78, 2) := by decide +kernel
theorem rL_isAll_225 : am_rw mL_isAll 225 = some (.istore 9, 2, 0, 0) := by decide +kernel
theorem rL_isAll_227 : am_rw mL_isAll 227 = some (.aload_n 0, 1, 0, 0) := by decide +kernel
theorem rL_isAll_228 : am_rw mL_isAll 228 = some (.iload 7, 2, 0, 0) := by decide +kernel
theorem rL_isAll_230 : am_rw mL_isAll 230 = some (.invokevirtual 45, 3, 84, 2) := by decide +kernel
theorem rL_isAll_233 : am_rw mL_isAll 233 = some (.istore 10, 2, 0, 0) := by decide +kernel
theorem rL_isAll_235 : am_rw mL_isAll 235 = some (.iload 9, 2, 0, 0) := by decide +kernel
theorem rL_isAll_237 : am_rw mL_isAll 237 = some (.ifCond .lt 62, 3, 299, 0) := by decide +kernel
theorem rL_isAll_240 : am_rw mL_isAll 240 = some (.aload_n 1, 1, 0, 0) := by decide +kernel
theorem rL_isAll_241 : am_rw mL_isAll 241 = some (.iload 8, 2, 0, 0) := by decide +kernel
theorem rL_isAll_243 : am_rw mL_isAll 243 = some (.iaload, 1, 0, 0) := by decide +kernel
theorem rL_isAll_244 : am_rw mL_isAll 244 = some (.iconst 1, 1, 1, 0) := by decide +kernel
theorem rL_isAll_245 : am_rw mL_isAll 245 = some (.if_icmp .eq 8, 3, 253, 0) := by decide +kernel
theorem rL_isAll_248 : am_rw mL_isAll 248 = some (.iload 9, 2, 0, 0) := by decide +kernel
theorem rL_isAll_250 : am_rw mL_isAll 250 = some (.ifCond .ne 49, 3, 299, 0) := by decide +kernel
theorem rL_isAll_253 : am_rw mL_isAll 253 = some (.iload 10, 2, 0, 0) := by decide +kernel
theorem rL_isAll_255 : am_rw mL_isAll 255 = some (.ifCond .le 44, 3, 299, 0) := by decide +kernel
theorem rL_isAll_258 : am_rw mL_isAll 258 = some (.iload 10, 2, 0, 0) := by decide +kernel
theorem rL_isAll_260 : am_rw mL_isAll 260 = some (.ldc 48, 2, 0, 1065353216) := by decide +kernel
theorem rL_isAll_262 : am_rw mL_isAll 262 = some (.if_icmp .gt 37, 3, 299, 0) := by decide +kernel
theorem rL_isAll_265 : am_rw mL_isAll 265 = some (.aload_n 0, 1, 0, 0) := by decide +kernel
theorem rL_isAll_266 : am_rw mL_isAll 266 = some (.iload 7, 2, 0, 0) := by decide +kernel
theorem rL_isAll_268 : am_rw mL_isAll 268 = some (.invokevirtual 53, 3, 85, 2) := by decide +kernel
theorem rL_isAll_271 : am_rw mL_isAll 271 = some (.ifCond .lt 28, 3, 299, 0) := by decide +kernel
theorem rL_isAll_274 : am_rw mL_isAll 274 = some (.aload_n 1, 1, 0, 0) := by decide +kernel
theorem rL_isAll_275 : am_rw mL_isAll 275 = some (.iconst 0, 1, 0, 0) := by decide +kernel
theorem rL_isAll_276 : am_rw mL_isAll 276 = some (.iaload, 1, 0, 0) := by decide +kernel
theorem rL_isAll_277 : am_rw mL_isAll 277 = some (.ifCond .eq 18, 3, 295, 0) := by decide +kernel
theorem rL_isAll_280 : am_rw mL_isAll 280 = some (.aload_n 0, 1, 0, 0) := by decide +kernel
theorem rL_isAll_281 : am_rw mL_isAll 281 = some (.iload 7, 2, 0, 0) := by decide +kernel
theorem rL_isAll_283 : am_rw mL_isAll 283 = some (.iload 4, 2, 0, 0) := by decide +kernel
theorem rL_isAll_285 : am_rw mL_isAll 285 = some (.aload_n 1, 1, 0, 0) := by decide +kernel
theorem rL_isAll_286 : am_rw mL_isAll 286 = some (.iconst 0, 1, 0, 0) := by decide +kernel
theorem rL_isAll_287 : am_rw mL_isAll 287 = some (.iaload, 1, 0, 0) := by decide +kernel
theorem rL_isAll_288 : am_rw mL_isAll 288 = some (.irem, 1, 0, 0) := by decide +kernel
theorem rL_isAll_289 : am_rw mL_isAll 289 = some (.invokevirtual 180, 3, 79, 3) := by decide +kernel
theorem rL_isAll_292 : am_rw mL_isAll 292 = some (.ifCond .lt 7, 3, 299, 0) := by decide +kernel
theorem rL_isAll_295 : am_rw mL_isAll 295 = some (.iconst 1, 1, 1, 0) := by decide +kernel
theorem rL_isAll_296 : am_rw mL_isAll 296 = some (.goto 4, 3, 300, 0) := by decide +kernel
theorem rL_isAll_299 : am_rw mL_isAll 299 = some (.iconst 0, 1, 0, 0) := by decide +kernel
theorem rL_isAll_300 : am_rw mL_isAll 300 = some (.istore 5, 2, 0, 0) := by decide +kernel
theorem rL_isAll_302 : am_rw mL_isAll 302 = some (.aload_n 1, 1, 0, 0) := by decide +kernel
theorem rL_isAll_303 : am_rw mL_isAll 303 = some (.iload 8, 2, 0, 0) := by decide +kernel
theorem rL_isAll_305 : am_rw mL_isAll 305 = some (.iconst 3, 1, 3, 0) := by decide +kernel
theorem rL_isAll_306 : am_rw mL_isAll 306 = some (.iadd, 1, 0, 0) := by decide +kernel
theorem rL_isAll_307 : am_rw mL_isAll 307 = some (.iaload, 1, 0, 0) := by decide +kernel
theorem rL_isAll_308 : am_rw mL_isAll 308 = some (.iconst 1, 1, 1, 0) := by decide +kernel
theorem rL_isAll_309 : am_rw mL_isAll 309 = some (.if_icmp .ne 16, 3, 325, 0) := by decide +kernel
theorem rL_isAll_312 : am_rw mL_isAll 312 = some (.aload_n 0, 1, 0, 0) := by decide +kernel
theorem rL_isAll_313 : am_rw mL_isAll 313 = some (.aload_n 1, 1, 0, 0) := by decide +kernel
theorem rL_isAll_314 : am_rw mL_isAll 314 = some (.iload 8, 2, 0, 0) := by decide +kernel
theorem rL_isAll_316 : am_rw mL_isAll 316 = some (.iconst 1, 1, 1, 0) := by decide +kernel
theorem rL_isAll_317 : am_rw mL_isAll 317 = some (.iadd, 1, 0, 0) := by decide +kernel
theorem rL_isAll_318 : am_rw mL_isAll 318 = some (.iaload, 1, 0, 0) := by decide +kernel
theorem rL_isAll_319 : am_rw mL_isAll 319 = some (.invokevirtual 20, 3, 65, 2) := by decide +kernel
theorem rL_isAll_322 : am_rw mL_isAll 322 = some (.goto 4, 3, 326, 0) := by decide +kernel
theorem rL_isAll_325 : am_rw mL_isAll 325 = some (.iconst (-1), 1, 1, 1) := by decide +kernel
theorem rL_isAll_326 : am_rw mL_isAll 326 = some (.istore 11, 2, 0, 0) := by decide +kernel
theorem rL_isAll_328 : am_rw mL_isAll 328 = some (.aload_n 1, 1, 0, 0) := by decide +kernel
theorem rL_isAll_329 : am_rw mL_isAll 329 = some (.iconst 0, 1, 0, 0) := by decide +kernel
theorem rL_isAll_330 : am_rw mL_isAll 330 = some (.iaload, 1, 0, 0) := by decide +kernel
theorem rL_isAll_331 : am_rw mL_isAll 331 = some (.istore 12, 2, 0, 0) := by decide +kernel
theorem rL_isAll_333 : am_rw mL_isAll 333 = some (.iload 11, 2, 0, 0) := by decide +kernel
theorem rL_isAll_335 : am_rw mL_isAll 335 = some (.iconst (-1), 1, 1, 1) := by decide +kernel
theorem rL_isAll_336 : am_rw mL_isAll 336 = some (.if_icmp .eq 64, 3, 400, 0) := by decide +kernel
theorem rL_isAll_339 : am_rw mL_isAll 339 = some (.iload 12, 2, 0, 0) := by decide +kernel
theorem rL_isAll_341 : am_rw mL_isAll 341 = some (.sipush 200, 3, 200, 0) := by decide +kernel
theorem rL_isAll_344 : am_rw mL_isAll 344 = some (.if_icmp .gt 56, 3, 400, 0) := by decide +kernel
theorem rL_isAll_347 : am_rw mL_isAll 347 = some (.iload 12, 2, 0, 0) := by decide +kernel
theorem rL_isAll_349 : am_rw mL_isAll 349 = some (.aload_n 1, 1, 0, 0) := by decide +kernel
theorem rL_isAll_350 : am_rw mL_isAll 350 = some (.iconst 0, 1, 0, 0) := by decide +kernel
theorem rL_isAll_351 : am_rw mL_isAll 351 = some (.iaload, 1, 0, 0) := by decide +kernel
theorem rL_isAll_352 : am_rw mL_isAll 352 = some (.bipush 24, 2, 24, 0) := by decide +kernel
theorem rL_isAll_354 : am_rw mL_isAll 354 = some (.iadd, 1, 0, 0) := by decide +kernel
theorem rL_isAll_355 : am_rw mL_isAll 355 = some (.if_icmp .gt 45, 3, 400, 0) := by decide +kernel
theorem rL_isAll_358 : am_rw mL_isAll 358 = some (.iload 6, 2, 0, 0) := by decide +kernel
theorem rL_isAll_360 : am_rw mL_isAll 360 = some (.aload_n 0, 1, 0, 0) := by decide +kernel
theorem rL_isAll_361 : am_rw mL_isAll 361 = some (.iload 11, 2, 0, 0) := by decide +kernel
theorem rL_isAll_363 : am_rw mL_isAll 363 = some (.iload 12, 2, 0, 0) := by decide +kernel
theorem rL_isAll_365 : am_rw mL_isAll 365 = some (.invokevirtual 143, 3, 68, 3) := by decide +kernel
theorem rL_isAll_368 : am_rw mL_isAll 368 = some (.invokestatic 146, 3, 113, 1) := by decide +kernel
theorem rL_isAll_371 : am_rw mL_isAll 371 = some (.aload_n 1, 1, 0, 0) := by decide +kernel
theorem rL_isAll_372 : am_rw mL_isAll 372 = some (.iload 8, 2, 0, 0) := by decide +kernel
theorem rL_isAll_374 : am_rw mL_isAll 374 = some (.iconst 5, 1, 5, 0) := by decide +kernel
theorem rL_isAll_375 : am_rw mL_isAll 375 = some (.iadd, 1, 0, 0) := by decide +kernel
theorem rL_isAll_376 : am_rw mL_isAll 376 = some (.iaload, 1, 0, 0) := by decide +kernel
theorem rL_isAll_377 : am_rw mL_isAll 377 = some (.invokestatic 160, 3, 114, 1) := by decide +kernel
theorem rL_isAll_380 : am_rw mL_isAll 380 = some (.if_icmp .lt 10, 3, 390, 0) := by decide +kernel
theorem rL_isAll_383 : am_rw mL_isAll 383 = some (.iconst 1, 1, 1, 0) := by decide +kernel
theorem rL_isAll_384 : am_rw mL_isAll 384 = some (.iload 7, 2, 0, 0) := by decide +kernel
theorem rL_isAll_386 : am_rw mL_isAll 386 = some (.ishl, 1, 0, 0) := by decide +kernel
theorem rL_isAll_387 : am_rw mL_isAll 387 = some (.goto 4, 3, 391, 0) := by decide +kernel
theorem rL_isAll_390 : am_rw mL_isAll 390 = some (.iconst 0, 1, 0, 0) := by decide +kernel
theorem rL_isAll_391 : am_rw mL_isAll 391 = some (.ior, 1, 0, 0) := by decide +kernel
theorem rL_isAll_392 : am_rw mL_isAll 392 = some (.istore 6, 2, 0, 0) := by decide +kernel
theorem rL_isAll_394 : am_rw mL_isAll 394 = some (.iinc 12 1, 3, 0, 0) := by decide +kernel
theorem rL_isAll_397 : am_rw mL_isAll 397 = some (.goto (-64), 3, 333, 0) := by decide +kernel
theorem rL_isAll_400 : am_rw mL_isAll 400 = some (.iinc 7 1, 3, 0, 0) := by decide +kernel
theorem rL_isAll_403 : am_rw mL_isAll 403 = some (.goto (-204), 3, 199, 0) := by decide +kernel
theorem rL_isAll_406 : am_rw mL_isAll 406 = some (.iload 5, 2, 0, 0) := by decide +kernel
theorem rL_isAll_408 : am_rw mL_isAll 408 = some (.ifCond .eq 16, 3, 424, 0) := by decide +kernel
theorem rL_isAll_411 : am_rw mL_isAll 411 = some (.aload_n 0, 1, 0, 0) := by decide +kernel
theorem rL_isAll_412 : am_rw mL_isAll 412 = some (.invokevirtual 183, 3, 86, 1) := by decide +kernel
theorem rL_isAll_415 : am_rw mL_isAll 415 = some (.iload 6, 2, 0, 0) := by decide +kernel
theorem rL_isAll_417 : am_rw mL_isAll 417 = some (.if_icmp .ne 7, 3, 424, 0) := by decide +kernel
theorem rL_isAll_420 : am_rw mL_isAll 420 = some (.iconst 1, 1, 1, 0) := by decide +kernel
theorem rL_isAll_421 : am_rw mL_isAll 421 = some (.goto 4, 3, 425, 0) := by decide +kernel
theorem rL_isAll_424 : am_rw mL_isAll 424 = some (.iconst 0, 1, 0, 0) := by decide +kernel
theorem rL_isAll_425 : am_rw mL_isAll 425 = some (.ireturn, 1, 0, 0) := by decide +kernel
theorem rL_law_0 : am_rw mL_law 0 = some (.new 21, 3, 9, 0) := by decide +kernel
theorem rL_law_3 : am_rw mL_law 3 = some (.dup, 1, 0, 0) := by decide +kernel
theorem rL_law_4 : am_rw mL_law 4 = some (.invokespecial 186, 3, 59, 1) := by decide +kernel
theorem rL_law_7 : am_rw mL_law 7 = some (.astore_n 1, 1, 0, 0) := by decide +kernel
theorem rL_law_8 : am_rw mL_law 8 = some (.bipush 22, 2, 22, 0) := by decide +kernel
theorem rL_law_10 : am_rw mL_law 10 = some (.newarray .int, 2, 20, 0) := by decide +kernel
theorem rL_law_12 : am_rw mL_law 12 = some (.astore_n 2, 1, 0, 0) := by decide +kernel
theorem rL_law_13 : am_rw mL_law 13 = some (.bipush 64, 2, 64, 0) := by decide +kernel
theorem rL_law_15 : am_rw mL_law 15 = some (.newarray .int, 2, 20, 0) := by decide +kernel
theorem rL_law_17 : am_rw mL_law 17 = some (.astore_n 3, 1, 0, 0) := by decide +kernel
theorem rL_law_18 : am_rw mL_law 18 = some (.bipush 48, 2, 48, 0) := by decide +kernel
theorem rL_law_20 : am_rw mL_law 20 = some (.newarray .int, 2, 20, 0) := by decide +kernel
theorem rL_law_22 : am_rw mL_law 22 = some (.astore 4, 2, 0, 0) := by decide +kernel
theorem rL_law_24 : am_rw mL_law 24 = some (.bipush 36, 2, 36, 0) := by decide +kernel
theorem rL_law_26 : am_rw mL_law 26 = some (.newarray .int, 2, 20, 0) := by decide +kernel
theorem rL_law_28 : am_rw mL_law 28 = some (.astore 5, 2, 0, 0) := by decide +kernel
theorem rL_law_30 : am_rw mL_law 30 = some (.aload_n 1, 1, 0, 0) := by decide +kernel
theorem rL_law_31 : am_rw mL_law 31 = some (.iconst 0, 1, 0, 0) := by decide +kernel
theorem rL_law_32 : am_rw mL_law 32 = some (.invokevirtual 80, 3, 62, 2) := by decide +kernel
theorem rL_law_35 : am_rw mL_law 35 = some (.ifCond .ne 40, 3, 75, 0) := by decide +kernel
theorem rL_law_38 : am_rw mL_law 38 = some (.aload_n 1, 1, 0, 0) := by decide +kernel
theorem rL_law_39 : am_rw mL_law 39 = some (.invokevirtual 85, 3, 61, 1) := by decide +kernel
theorem rL_law_42 : am_rw mL_law 42 = some (.ifCond .ne 33, 3, 75, 0) := by decide +kernel
theorem rL_law_45 : am_rw mL_law 45 = some (.aload_n 1, 1, 0, 0) := by decide +kernel
theorem rL_law_46 : am_rw mL_law 46 = some (.iconst 5, 1, 5, 0) := by decide +kernel
theorem rL_law_47 : am_rw mL_law 47 = some (.invokevirtual 20, 3, 65, 2) := by decide +kernel
theorem rL_law_50 : am_rw mL_law 50 = some (.iconst (-1), 1, 1, 1) := by decide +kernel
theorem rL_law_51 : am_rw mL_law 51 = some (.if_icmp .ne 24, 3, 75, 0) := by decide +kernel
theorem rL_law_54 : am_rw mL_law 54 = some (.aload_n 1, 1, 0, 0) := by decide +kernel
theorem rL_law_55 : am_rw mL_law 55 = some (.invokevirtual 183, 3, 86, 1) := by decide +kernel
theorem rL_law_58 : am_rw mL_law 58 = some (.ifCond .ne 17, 3, 75, 0) := by decide +kernel
theorem rL_law_61 : am_rw mL_law 61 = some (.aload_n 1, 1, 0, 0) := by decide +kernel
theorem rL_law_62 : am_rw mL_law 62 = some (.iconst 2, 1, 2, 0) := by decide +kernel
theorem rL_law_63 : am_rw mL_law 63 = some (.invokevirtual 45, 3, 84, 2) := by decide +kernel
theorem rL_law_66 : am_rw mL_law 66 = some (.ldc 48, 2, 0, 1065353216) := by decide +kernel
theorem rL_law_68 : am_rw mL_law 68 = some (.if_icmp .ne 7, 3, 75, 0) := by decide +kernel
theorem rL_law_71 : am_rw mL_law 71 = some (.iconst 1, 1, 1, 0) := by decide +kernel
theorem rL_law_72 : am_rw mL_law 72 = some (.goto 4, 3, 76, 0) := by decide +kernel
theorem rL_law_75 : am_rw mL_law 75 = some (.iconst 0, 1, 0, 0) := by decide +kernel
theorem rL_law_76 : am_rw mL_law 76 = some (.istore 6, 2, 0, 0) := by decide +kernel
theorem rL_law_78 : am_rw mL_law 78 = some (.aload_n 0, 1, 0, 0) := by decide +kernel
theorem rL_law_79 : am_rw mL_law 79 = some (.arraylength, 1, 1, 0) := by decide +kernel
theorem rL_law_80 : am_rw mL_law 80 = some (.iconst 3, 1, 3, 0) := by decide +kernel
theorem rL_law_81 : am_rw mL_law 81 = some (.idiv, 1, 0, 0) := by decide +kernel
theorem rL_law_82 : am_rw mL_law 82 = some (.bipush 90, 2, 90, 0) := by decide +kernel
theorem rL_law_84 : am_rw mL_law 84 = some (.if_icmp .le 8, 3, 92, 0) := by decide +kernel
theorem rL_law_87 : am_rw mL_law 87 = some (.bipush 90, 2, 90, 0) := by decide +kernel
theorem rL_law_89 : am_rw mL_law 89 = some (.goto 7, 3, 96, 0) := by decide +kernel
theorem rL_law_92 : am_rw mL_law 92 = some (.aload_n 0, 1, 0, 0) := by decide +kernel
theorem rL_law_93 : am_rw mL_law 93 = some (.arraylength, 1, 1, 0) := by decide +kernel
theorem rL_law_94 : am_rw mL_law 94 = some (.iconst 3, 1, 3, 0) := by decide +kernel
theorem rL_law_95 : am_rw mL_law 95 = some (.idiv, 1, 0, 0) := by decide +kernel
theorem rL_law_96 : am_rw mL_law 96 = some (.istore 7, 2, 0, 0) := by decide +kernel
theorem rL_law_98 : am_rw mL_law 98 = some (.iconst 0, 1, 0, 0) := by decide +kernel
theorem rL_law_99 : am_rw mL_law 99 = some (.istore 8, 2, 0, 0) := by decide +kernel
theorem rL_law_101 : am_rw mL_law 101 = some (.iload 8, 2, 0, 0) := by decide +kernel
theorem rL_law_103 : am_rw mL_law 103 = some (.iload 7, 2, 0, 0) := by decide +kernel
theorem rL_law_105 : am_rw mL_law 105 = some (.if_icmp .ge 88, 3, 193, 0) := by decide +kernel
theorem rL_law_108 : am_rw mL_law 108 = some (.iload 6, 2, 0, 0) := by decide +kernel
theorem rL_law_110 : am_rw mL_law 110 = some (.ifCond .eq 83, 3, 193, 0) := by decide +kernel
theorem rL_law_113 : am_rw mL_law 113 = some (.aload_n 0, 1, 0, 0) := by decide +kernel
theorem rL_law_114 : am_rw mL_law 114 = some (.iconst 3, 1, 3, 0) := by decide +kernel
theorem rL_law_115 : am_rw mL_law 115 = some (.iload 8, 2, 0, 0) := by decide +kernel
theorem rL_law_117 : am_rw mL_law 117 = some (.imul, 1, 0, 0) := by decide +kernel
theorem rL_law_118 : am_rw mL_law 118 = some (.iconst 1, 1, 1, 0) := by decide +kernel
theorem rL_law_119 : am_rw mL_law 119 = some (.iadd, 1, 0, 0) := by decide +kernel
theorem rL_law_120 : am_rw mL_law 120 = some (.invokestatic 187, 3, 111, 2) := by decide +kernel
theorem rL_law_123 : am_rw mL_law 123 = some (.istore 9, 2, 0, 0) := by decide +kernel
theorem rL_law_125 : am_rw mL_law 125 = some (.aload_n 1, 1, 0, 0) := by decide +kernel
theorem rL_law_126 : am_rw mL_law 126 = some (.aload_n 2, 1, 0, 0) := by decide +kernel
theorem rL_law_127 : am_rw mL_law 127 = some (.aload_n 3, 1, 0, 0) := by decide +kernel
theorem rL_law_128 : am_rw mL_law 128 = some (.aload 4, 2, 0, 0) := by decide +kernel
theorem rL_law_130 : am_rw mL_law 130 = some (.aload 5, 2, 0, 0) := by decide +kernel
theorem rL_law_132 : am_rw mL_law 132 = some (.aload_n 0, 1, 0, 0) := by decide +kernel
theorem rL_law_133 : am_rw mL_law 133 = some (.iconst 3, 1, 3, 0) := by decide +kernel
theorem rL_law_134 : am_rw mL_law 134 = some (.iload 8, 2, 0, 0) := by decide +kernel
theorem rL_law_136 : am_rw mL_law 136 = some (.imul, 1, 0, 0) := by decide +kernel
theorem rL_law_137 : am_rw mL_law 137 = some (.invokestatic 187, 3, 111, 2) := by decide +kernel
theorem rL_law_140 : am_rw mL_law 140 = some (.iload 9, 2, 0, 0) := by decide +kernel
theorem rL_law_142 : am_rw mL_law 142 = some (.aload_n 0, 1, 0, 0) := by decide +kernel
theorem rL_law_143 : am_rw mL_law 143 = some (.iconst 3, 1, 3, 0) := by decide +kernel
theorem rL_law_144 : am_rw mL_law 144 = some (.iload 8, 2, 0, 0) := by decide +kernel
theorem rL_law_146 : am_rw mL_law 146 = some (.imul, 1, 0, 0) := by decide +kernel
theorem rL_law_147 : am_rw mL_law 147 = some (.iconst 2, 1, 2, 0) := by decide +kernel
theorem rL_law_148 : am_rw mL_law 148 = some (.iadd, 1, 0, 0) := by decide +kernel
theorem rL_law_149 : am_rw mL_law 149 = some (.invokestatic 187, 3, 111, 2) := by decide +kernel
theorem rL_law_152 : am_rw mL_law 152 = some (.invokestatic 191, 3, 112, 8) := by decide +kernel
theorem rL_law_155 : am_rw mL_law 155 = some (.ifCond .eq 29, 3, 184, 0) := by decide +kernel
theorem rL_law_158 : am_rw mL_law 158 = some (.iload 8, 2, 0, 0) := by decide +kernel
theorem rL_law_160 : am_rw mL_law 160 = some (.iconst 5, 1, 5, 0) := by decide +kernel
theorem rL_law_161 : am_rw mL_law 161 = some (.irem, 1, 0, 0) := by decide +kernel
theorem rL_law_162 : am_rw mL_law 162 = some (.ifCond .gt 18, 3, 180, 0) := by decide +kernel
theorem rL_law_165 : am_rw mL_law 165 = some (.aload_n 1, 1, 0, 0) := by decide +kernel
theorem rL_law_166 : am_rw mL_law 166 = some (.aload_n 2, 1, 0, 0) := by decide +kernel
theorem rL_law_167 : am_rw mL_law 167 = some (.aload_n 3, 1, 0, 0) := by decide +kernel
theorem rL_law_168 : am_rw mL_law 168 = some (.aload 4, 2, 0, 0) := by decide +kernel
theorem rL_law_170 : am_rw mL_law 170 = some (.iload 9, 2, 0, 0) := by decide +kernel
theorem rL_law_172 : am_rw mL_law 172 = some (.iconst 3, 1, 3, 0) := by decide +kernel
theorem rL_law_173 : am_rw mL_law 173 = some (.idiv, 1, 0, 0) := by decide +kernel
theorem rL_law_174 : am_rw mL_law 174 = some (.invokestatic 195, 3, 132, 5) := by decide +kernel
theorem rL_law_177 : am_rw mL_law 177 = some (.ifCond .eq 7, 3, 184, 0) := by decide +kernel
theorem rL_law_180 : am_rw mL_law 180 = some (.iconst 1, 1, 1, 0) := by decide +kernel
theorem rL_law_181 : am_rw mL_law 181 = some (.goto 4, 3, 185, 0) := by decide +kernel
theorem rL_law_184 : am_rw mL_law 184 = some (.iconst 0, 1, 0, 0) := by decide +kernel
theorem rL_law_185 : am_rw mL_law 185 = some (.istore 6, 2, 0, 0) := by decide +kernel
theorem rL_law_187 : am_rw mL_law 187 = some (.iinc 8 1, 3, 0, 0) := by decide +kernel
theorem rL_law_190 : am_rw mL_law 190 = some (.goto (-89), 3, 101, 0) := by decide +kernel
theorem rL_law_193 : am_rw mL_law 193 = some (.iload 6, 2, 0, 0) := by decide +kernel
theorem rL_law_195 : am_rw mL_law 195 = some (.ifCond .eq 20, 3, 215, 0) := by decide +kernel
theorem rL_law_198 : am_rw mL_law 198 = some (.aload_n 1, 1, 0, 0) := by decide +kernel
theorem rL_law_199 : am_rw mL_law 199 = some (.aload_n 2, 1, 0, 0) := by decide +kernel
theorem rL_law_200 : am_rw mL_law 200 = some (.aload_n 3, 1, 0, 0) := by decide +kernel
theorem rL_law_201 : am_rw mL_law 201 = some (.aload 4, 2, 0, 0) := by decide +kernel
theorem rL_law_203 : am_rw mL_law 203 = some (.bipush 7, 2, 7, 0) := by decide +kernel
theorem rL_law_205 : am_rw mL_law 205 = some (.invokestatic 195, 3, 132, 5) := by decide +kernel
theorem rL_law_208 : am_rw mL_law 208 = some (.ifCond .eq 7, 3, 215, 0) := by decide +kernel
theorem rL_law_211 : am_rw mL_law 211 = some (.iconst 1, 1, 1, 0) := by decide +kernel
theorem rL_law_212 : am_rw mL_law 212 = some (.goto 4, 3, 216, 0) := by decide +kernel
theorem rL_law_215 : am_rw mL_law 215 = some (.iconst 0, 1, 0, 0) := by decide +kernel
theorem rL_law_216 : am_rw mL_law 216 = some (.ireturn, 1, 0, 0) := by decide +kernel
