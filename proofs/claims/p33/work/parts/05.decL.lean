theorem dL_cell_0 : decode cL_cell 0 = .ok (.aload_n 0, 1) := by decide +kernel
theorem dL_cell_1 : decode cL_cell 1 = .ok (.arraylength, 1) := by decide +kernel
theorem dL_cell_2 : decode cL_cell 2 = .ok (.ifCond .ne 7, 3) := by decide +kernel
theorem dL_cell_5 : decode cL_cell 5 = .ok (.iconst 0, 1) := by decide +kernel
theorem dL_cell_6 : decode cL_cell 6 = .ok (.goto 17, 3) := by decide +kernel
theorem dL_cell_9 : decode cL_cell 9 = .ok (.aload_n 0, 1) := by decide +kernel
theorem dL_cell_10 : decode cL_cell 10 = .ok (.iload_n 1, 1) := by decide +kernel
theorem dL_cell_11 : decode cL_cell 11 = .ok (.aload_n 0, 1) := by decide +kernel
theorem dL_cell_12 : decode cL_cell 12 = .ok (.arraylength, 1) := by decide +kernel
theorem dL_cell_13 : decode cL_cell 13 = .ok (.irem, 1) := by decide +kernel
theorem dL_cell_14 : decode cL_cell 14 = .ok (.iaload, 1) := by decide +kernel
theorem dL_cell_15 : decode cL_cell 15 = .ok (.ldc 7, 2) := by decide +kernel
theorem dL_cell_17 : decode cL_cell 17 = .ok (.iload_n 1, 1) := by decide +kernel
theorem dL_cell_18 : decode cL_cell 18 = .ok (.aload_n 0, 1) := by decide +kernel
theorem dL_cell_19 : decode cL_cell 19 = .ok (.arraylength, 1) := by decide +kernel
theorem dL_cell_20 : decode cL_cell 20 = .ok (.idiv, 1) := by decide +kernel
theorem dL_cell_21 : decode cL_cell 21 = .ok (.imul, 1) := by decide +kernel
theorem dL_cell_22 : decode cL_cell 22 = .ok (.ixor, 1) := by decide +kernel
theorem dL_cell_23 : decode cL_cell 23 = .ok (.ireturn, 1) := by decide +kernel
theorem dL_pick_0 : decode cL_pick 0 = .ok (.aload_n 0, 1) := by decide +kernel
theorem dL_pick_1 : decode cL_pick 1 = .ok (.iload_n 1, 1) := by decide +kernel
theorem dL_pick_2 : decode cL_pick 2 = .ok (.invokestatic 8, 3) := by decide +kernel
theorem dL_pick_5 : decode cL_pick 5 = .ok (.ldc 14, 2) := by decide +kernel
theorem dL_pick_7 : decode cL_pick 7 = .ok (.iand, 1) := by decide +kernel
theorem dL_pick_8 : decode cL_pick 8 = .ok (.iload_n 2, 1) := by decide +kernel
theorem dL_pick_9 : decode cL_pick 9 = .ok (.irem, 1) := by decide +kernel
theorem dL_pick_10 : decode cL_pick 10 = .ok (.ireturn, 1) := by decide +kernel
theorem dL_begins_0 : decode cL_begins 0 = .ok (.iconst 1, 1) := by decide +kernel
theorem dL_begins_1 : decode cL_begins 1 = .ok (.aload_n 1, 1) := by decide +kernel
theorem dL_begins_2 : decode cL_begins 2 = .ok (.iconst 0, 1) := by decide +kernel
theorem dL_begins_3 : decode cL_begins 3 = .ok (.iconst 3, 1) := by decide +kernel
theorem dL_begins_4 : decode cL_begins 4 = .ok (.invokestatic 15, 3) := by decide +kernel
theorem dL_begins_7 : decode cL_begins 7 = .ok (.iadd, 1) := by decide +kernel
theorem dL_begins_8 : decode cL_begins 8 = .ok (.istore_n 2, 1) := by decide +kernel
theorem dL_begins_9 : decode cL_begins 9 = .ok (.new 19, 3) := by decide +kernel
theorem dL_begins_12 : decode cL_begins 12 = .ok (.dup, 1) := by decide +kernel
theorem dL_begins_13 : decode cL_begins 13 = .ok (.invokespecial 21, 3) := by decide +kernel
theorem dL_begins_16 : decode cL_begins 16 = .ok (.astore_n 3, 1) := by decide +kernel
theorem dL_begins_17 : decode cL_begins 17 = .ok (.iconst 0, 1) := by decide +kernel
theorem dL_begins_18 : decode cL_begins 18 = .ok (.istore 4, 2) := by decide +kernel
theorem dL_begins_20 : decode cL_begins 20 = .ok (.iload 4, 2) := by decide +kernel
theorem dL_begins_22 : decode cL_begins 22 = .ok (.iload_n 2, 1) := by decide +kernel
theorem dL_begins_23 : decode cL_begins 23 = .ok (.if_icmp .ge 164, 3) := by decide +kernel
theorem dL_begins_26 : decode cL_begins 26 = .ok (.iconst 3, 1) := by decide +kernel
theorem dL_begins_27 : decode cL_begins 27 = .ok (.aload_n 1, 1) := by decide +kernel
theorem dL_begins_28 : decode cL_begins 28 = .ok (.iconst 1, 1) := by decide +kernel
theorem dL_begins_29 : decode cL_begins 29 = .ok (.iload 4, 2) := by decide +kernel
theorem dL_begins_31 : decode cL_begins 31 = .ok (.iadd, 1) := by decide +kernel
theorem dL_begins_32 : decode cL_begins 32 = .ok (.bipush 7, 2) := by decide +kernel
theorem dL_begins_34 : decode cL_begins 34 = .ok (.invokestatic 15, 3) := by decide +kernel
theorem dL_begins_37 : decode cL_begins 37 = .ok (.iadd, 1) := by decide +kernel
theorem dL_begins_38 : decode cL_begins 38 = .ok (.istore 5, 2) := by decide +kernel
theorem dL_begins_40 : decode cL_begins 40 = .ok (.iconst 1, 1) := by decide +kernel
theorem dL_begins_41 : decode cL_begins 41 = .ok (.aload_n 1, 1) := by decide +kernel
theorem dL_begins_42 : decode cL_begins 42 = .ok (.iconst 5, 1) := by decide +kernel
theorem dL_begins_43 : decode cL_begins 43 = .ok (.iload 4, 2) := by decide +kernel
theorem dL_begins_45 : decode cL_begins 45 = .ok (.iadd, 1) := by decide +kernel
theorem dL_begins_46 : decode cL_begins 46 = .ok (.iload 5, 2) := by decide +kernel
theorem dL_begins_48 : decode cL_begins 48 = .ok (.invokestatic 15, 3) := by decide +kernel
theorem dL_begins_51 : decode cL_begins 51 = .ok (.iadd, 1) := by decide +kernel
theorem dL_begins_52 : decode cL_begins 52 = .ok (.istore 6, 2) := by decide +kernel
theorem dL_begins_54 : decode cL_begins 54 = .ok (.aload_n 3, 1) := by decide +kernel
theorem dL_begins_55 : decode cL_begins 55 = .ok (.ldc 22, 2) := by decide +kernel
theorem dL_begins_57 : decode cL_begins 57 = .ok (.invokevirtual 24, 3) := by decide +kernel
theorem dL_begins_60 : decode cL_begins 60 = .ok (.iload 5, 2) := by decide +kernel
theorem dL_begins_62 : decode cL_begins 62 = .ok (.invokevirtual 28, 3) := by decide +kernel
theorem dL_begins_65 : decode cL_begins 65 = .ok (.pop, 1) := by decide +kernel
theorem dL_begins_66 : decode cL_begins 66 = .ok (.iconst 0, 1) := by decide +kernel
theorem dL_begins_67 : decode cL_begins 67 = .ok (.istore 7, 2) := by decide +kernel
theorem dL_begins_69 : decode cL_begins 69 = .ok (.iload 7, 2) := by decide +kernel
theorem dL_begins_71 : decode cL_begins 71 = .ok (.aload_n 1, 1) := by decide +kernel
theorem dL_begins_72 : decode cL_begins 72 = .ok (.bipush 10, 2) := by decide +kernel
theorem dL_begins_74 : decode cL_begins 74 = .ok (.iload 4, 2) := by decide +kernel
theorem dL_begins_76 : decode cL_begins 76 = .ok (.iadd, 1) := by decide +kernel
theorem dL_begins_77 : decode cL_begins 77 = .ok (.iconst 3, 1) := by decide +kernel
theorem dL_begins_78 : decode cL_begins 78 = .ok (.invokestatic 15, 3) := by decide +kernel
theorem dL_begins_81 : decode cL_begins 81 = .ok (.if_icmp .gt 31, 3) := by decide +kernel
theorem dL_begins_84 : decode cL_begins 84 = .ok (.aload_n 3, 1) := by decide +kernel
theorem dL_begins_85 : decode cL_begins 85 = .ok (.ldc 31, 2) := by decide +kernel
theorem dL_begins_87 : decode cL_begins 87 = .ok (.invokevirtual 24, 3) := by decide +kernel
theorem dL_begins_90 : decode cL_begins 90 = .ok (.iload 6, 2) := by decide +kernel
theorem dL_begins_92 : decode cL_begins 92 = .ok (.iload 7, 2) := by decide +kernel
theorem dL_begins_94 : decode cL_begins 94 = .ok (.iadd, 1) := by decide +kernel
theorem dL_begins_95 : decode cL_begins 95 = .ok (.iconst 1, 1) := by decide +kernel
theorem dL_begins_96 : decode cL_begins 96 = .ok (.isub, 1) := by decide +kernel
theorem dL_begins_97 : decode cL_begins 97 = .ok (.iload 5, 2) := by decide +kernel
theorem dL_begins_99 : decode cL_begins 99 = .ok (.irem, 1) := by decide +kernel
theorem dL_begins_100 : decode cL_begins 100 = .ok (.iconst 1, 1) := by decide +kernel
theorem dL_begins_101 : decode cL_begins 101 = .ok (.iadd, 1) := by decide +kernel
theorem dL_begins_102 : decode cL_begins 102 = .ok (.invokevirtual 28, 3) := by decide +kernel
theorem dL_begins_105 : decode cL_begins 105 = .ok (.pop, 1) := by decide +kernel
theorem dL_begins_106 : decode cL_begins 106 = .ok (.iinc 7 1, 3) := by decide +kernel
theorem dL_begins_109 : decode cL_begins 109 = .ok (.goto (-40), 3) := by decide +kernel
theorem dL_begins_112 : decode cL_begins 112 = .ok (.iconst 1, 1) := by decide +kernel
theorem dL_begins_113 : decode cL_begins 113 = .ok (.aload_n 1, 1) := by decide +kernel
theorem dL_begins_114 : decode cL_begins 114 = .ok (.bipush 15, 2) := by decide +kernel
theorem dL_begins_116 : decode cL_begins 116 = .ok (.iload 4, 2) := by decide +kernel
theorem dL_begins_118 : decode cL_begins 118 = .ok (.iadd, 1) := by decide +kernel
theorem dL_begins_119 : decode cL_begins 119 = .ok (.iconst 3, 1) := by decide +kernel
theorem dL_begins_120 : decode cL_begins 120 = .ok (.invokestatic 15, 3) := by decide +kernel
theorem dL_begins_123 : decode cL_begins 123 = .ok (.iadd, 1) := by decide +kernel
theorem dL_begins_124 : decode cL_begins 124 = .ok (.istore 7, 2) := by decide +kernel
theorem dL_begins_126 : decode cL_begins 126 = .ok (.aload_n 1, 1) := by decide +kernel
theorem dL_begins_127 : decode cL_begins 127 = .ok (.bipush 20, 2) := by decide +kernel
theorem dL_begins_129 : decode cL_begins 129 = .ok (.iload 4, 2) := by decide +kernel
theorem dL_begins_131 : decode cL_begins 131 = .ok (.iadd, 1) := by decide +kernel
theorem dL_begins_132 : decode cL_begins 132 = .ok (.iconst 2, 1) := by decide +kernel
theorem dL_begins_133 : decode cL_begins 133 = .ok (.invokestatic 15, 3) := by decide +kernel
theorem dL_begins_136 : decode cL_begins 136 = .ok (.ifCond .ne 38, 3) := by decide +kernel
theorem dL_begins_139 : decode cL_begins 139 = .ok (.aload_n 3, 1) := by decide +kernel
theorem dL_begins_140 : decode cL_begins 140 = .ok (.ldc 33, 2) := by decide +kernel
theorem dL_begins_142 : decode cL_begins 142 = .ok (.invokevirtual 24, 3) := by decide +kernel
theorem dL_begins_145 : decode cL_begins 145 = .ok (.iload 7, 2) := by decide +kernel
theorem dL_begins_147 : decode cL_begins 147 = .ok (.invokevirtual 28, 3) := by decide +kernel
theorem dL_begins_150 : decode cL_begins 150 = .ok (.ldc 31, 2) := by decide +kernel
theorem dL_begins_152 : decode cL_begins 152 = .ok (.invokevirtual 24, 3) := by decide +kernel
theorem dL_begins_155 : decode cL_begins 155 = .ok (.iload 7, 2) := by decide +kernel
theorem dL_begins_157 : decode cL_begins 157 = .ok (.iconst 1, 1) := by decide +kernel
theorem dL_begins_158 : decode cL_begins 158 = .ok (.iadd, 1) := by decide +kernel
theorem dL_begins_159 : decode cL_begins 159 = .ok (.aload_n 1, 1) := by decide +kernel
theorem dL_begins_160 : decode cL_begins 160 = .ok (.bipush 25, 2) := by decide +kernel
theorem dL_begins_162 : decode cL_begins 162 = .ok (.iload 4, 2) := by decide +kernel
theorem dL_begins_164 : decode cL_begins 164 = .ok (.iadd, 1) := by decide +kernel
theorem dL_begins_165 : decode cL_begins 165 = .ok (.iconst 2, 1) := by decide +kernel
theorem dL_begins_166 : decode cL_begins 166 = .ok (.invokestatic 15, 3) := by decide +kernel
theorem dL_begins_169 : decode cL_begins 169 = .ok (.iadd, 1) := by decide +kernel
theorem dL_begins_170 : decode cL_begins 170 = .ok (.invokevirtual 28, 3) := by decide +kernel
theorem dL_begins_173 : decode cL_begins 173 = .ok (.pop, 1) := by decide +kernel
theorem dL_begins_174 : decode cL_begins 174 = .ok (.aload_n 3, 1) := by decide +kernel
theorem dL_begins_175 : decode cL_begins 175 = .ok (.ldc 35, 2) := by decide +kernel
theorem dL_begins_177 : decode cL_begins 177 = .ok (.invokevirtual 24, 3) := by decide +kernel
theorem dL_begins_180 : decode cL_begins 180 = .ok (.pop, 1) := by decide +kernel
theorem dL_begins_181 : decode cL_begins 181 = .ok (.iinc 4 1, 3) := by decide +kernel
theorem dL_begins_184 : decode cL_begins 184 = .ok (.goto (-164), 3) := by decide +kernel
theorem dL_begins_187 : decode cL_begins 187 = .ok (.iconst 0, 1) := by decide +kernel
theorem dL_begins_188 : decode cL_begins 188 = .ok (.istore 4, 2) := by decide +kernel
theorem dL_begins_190 : decode cL_begins 190 = .ok (.iload 4, 2) := by decide +kernel
theorem dL_begins_192 : decode cL_begins 192 = .ok (.aload_n 1, 1) := by decide +kernel
theorem dL_begins_193 : decode cL_begins 193 = .ok (.bipush 30, 2) := by decide +kernel
theorem dL_begins_195 : decode cL_begins 195 = .ok (.iconst 3, 1) := by decide +kernel
theorem dL_begins_196 : decode cL_begins 196 = .ok (.invokestatic 15, 3) := by decide +kernel
theorem dL_begins_199 : decode cL_begins 199 = .ok (.if_icmp .ge 36, 3) := by decide +kernel
theorem dL_begins_202 : decode cL_begins 202 = .ok (.aload_n 3, 1) := by decide +kernel
theorem dL_begins_203 : decode cL_begins 203 = .ok (.ldc 37, 2) := by decide +kernel
theorem dL_begins_205 : decode cL_begins 205 = .ok (.invokevirtual 24, 3) := by decide +kernel
theorem dL_begins_208 : decode cL_begins 208 = .ok (.iconst 1, 1) := by decide +kernel
theorem dL_begins_209 : decode cL_begins 209 = .ok (.iload 4, 2) := by decide +kernel
theorem dL_begins_211 : decode cL_begins 211 = .ok (.iadd, 1) := by decide +kernel
theorem dL_begins_212 : decode cL_begins 212 = .ok (.aload_n 1, 1) := by decide +kernel
theorem dL_begins_213 : decode cL_begins 213 = .ok (.bipush 31, 2) := by decide +kernel
theorem dL_begins_215 : decode cL_begins 215 = .ok (.iconst 2, 1) := by decide +kernel
theorem dL_begins_216 : decode cL_begins 216 = .ok (.invokestatic 15, 3) := by decide +kernel
theorem dL_begins_219 : decode cL_begins 219 = .ok (.iadd, 1) := by decide +kernel
theorem dL_begins_220 : decode cL_begins 220 = .ok (.invokevirtual 28, 3) := by decide +kernel
theorem dL_begins_223 : decode cL_begins 223 = .ok (.ldc 35, 2) := by decide +kernel
theorem dL_begins_225 : decode cL_begins 225 = .ok (.invokevirtual 24, 3) := by decide +kernel
theorem dL_begins_228 : decode cL_begins 228 = .ok (.pop, 1) := by decide +kernel
theorem dL_begins_229 : decode cL_begins 229 = .ok (.iinc 4 1, 3) := by decide +kernel
theorem dL_begins_232 : decode cL_begins 232 = .ok (.goto (-42), 3) := by decide +kernel
theorem dL_begins_235 : decode cL_begins 235 = .ok (.aload_n 3, 1) := by decide +kernel
theorem dL_begins_236 : decode cL_begins 236 = .ok (.ldc 39, 2) := by decide +kernel
theorem dL_begins_238 : decode cL_begins 238 = .ok (.invokevirtual 24, 3) := by decide +kernel
theorem dL_begins_241 : decode cL_begins 241 = .ok (.aload_n 1, 1) := by decide +kernel
theorem dL_begins_242 : decode cL_begins 242 = .ok (.bipush 33, 2) := by decide +kernel
theorem dL_begins_244 : decode cL_begins 244 = .ok (.iconst 4, 1) := by decide +kernel
theorem dL_begins_245 : decode cL_begins 245 = .ok (.invokestatic 15, 3) := by decide +kernel
theorem dL_begins_248 : decode cL_begins 248 = .ok (.invokevirtual 28, 3) := by decide +kernel
theorem dL_begins_251 : decode cL_begins 251 = .ok (.ldc 31, 2) := by decide +kernel
theorem dL_begins_253 : decode cL_begins 253 = .ok (.invokevirtual 24, 3) := by decide +kernel
theorem dL_begins_256 : decode cL_begins 256 = .ok (.aload_n 1, 1) := by decide +kernel
theorem dL_begins_257 : decode cL_begins 257 = .ok (.bipush 34, 2) := by decide +kernel
theorem dL_begins_259 : decode cL_begins 259 = .ok (.iconst 4, 1) := by decide +kernel
theorem dL_begins_260 : decode cL_begins 260 = .ok (.invokestatic 15, 3) := by decide +kernel
theorem dL_begins_263 : decode cL_begins 263 = .ok (.invokevirtual 28, 3) := by decide +kernel
theorem dL_begins_266 : decode cL_begins 266 = .ok (.ldc 31, 2) := by decide +kernel
theorem dL_begins_268 : decode cL_begins 268 = .ok (.invokevirtual 24, 3) := by decide +kernel
theorem dL_begins_271 : decode cL_begins 271 = .ok (.aload_n 1, 1) := by decide +kernel
theorem dL_begins_272 : decode cL_begins 272 = .ok (.bipush 35, 2) := by decide +kernel
theorem dL_begins_274 : decode cL_begins 274 = .ok (.iconst 4, 1) := by decide +kernel
theorem dL_begins_275 : decode cL_begins 275 = .ok (.invokestatic 15, 3) := by decide +kernel
theorem dL_begins_278 : decode cL_begins 278 = .ok (.invokevirtual 28, 3) := by decide +kernel
theorem dL_begins_281 : decode cL_begins 281 = .ok (.ldc 41, 2) := by decide +kernel
theorem dL_begins_283 : decode cL_begins 283 = .ok (.invokevirtual 24, 3) := by decide +kernel
theorem dL_begins_286 : decode cL_begins 286 = .ok (.aload_n 1, 1) := by decide +kernel
theorem dL_begins_287 : decode cL_begins 287 = .ok (.bipush 36, 2) := by decide +kernel
theorem dL_begins_289 : decode cL_begins 289 = .ok (.iconst 2, 1) := by decide +kernel
theorem dL_begins_290 : decode cL_begins 290 = .ok (.invokestatic 15, 3) := by decide +kernel
theorem dL_begins_293 : decode cL_begins 293 = .ok (.invokevirtual 28, 3) := by decide +kernel
theorem dL_begins_296 : decode cL_begins 296 = .ok (.ldc 35, 2) := by decide +kernel
theorem dL_begins_298 : decode cL_begins 298 = .ok (.invokevirtual 24, 3) := by decide +kernel
theorem dL_begins_301 : decode cL_begins 301 = .ok (.pop, 1) := by decide +kernel
theorem dL_begins_302 : decode cL_begins 302 = .ok (.aload_n 3, 1) := by decide +kernel
theorem dL_begins_303 : decode cL_begins 303 = .ok (.invokevirtual 43, 3) := by decide +kernel
theorem dL_begins_306 : decode cL_begins 306 = .ok (.istore 4, 2) := by decide +kernel
theorem dL_begins_308 : decode cL_begins 308 = .ok (.iconst 0, 1) := by decide +kernel
theorem dL_begins_309 : decode cL_begins 309 = .ok (.istore 5, 2) := by decide +kernel
theorem dL_begins_311 : decode cL_begins 311 = .ok (.iload 5, 2) := by decide +kernel
theorem dL_begins_313 : decode cL_begins 313 = .ok (.iload 4, 2) := by decide +kernel
theorem dL_begins_315 : decode cL_begins 315 = .ok (.if_icmp .ge 97, 3) := by decide +kernel
theorem dL_begins_318 : decode cL_begins 318 = .ok (.iconst 5, 1) := by decide +kernel
theorem dL_begins_319 : decode cL_begins 319 = .ok (.newarray .int, 2) := by decide +kernel
theorem dL_begins_321 : decode cL_begins 321 = .ok (.astore 6, 2) := by decide +kernel
theorem dL_begins_323 : decode cL_begins 323 = .ok (.iconst 0, 1) := by decide +kernel
theorem dL_begins_324 : decode cL_begins 324 = .ok (.istore 7, 2) := by decide +kernel
theorem dL_begins_326 : decode cL_begins 326 = .ok (.iload 7, 2) := by decide +kernel
theorem dL_begins_328 : decode cL_begins 328 = .ok (.bipush 20, 2) := by decide +kernel
theorem dL_begins_330 : decode cL_begins 330 = .ok (.if_icmp .ge 51, 3) := by decide +kernel
theorem dL_begins_333 : decode cL_begins 333 = .ok (.aload 6, 2) := by decide +kernel
theorem dL_begins_335 : decode cL_begins 335 = .ok (.iload 7, 2) := by decide +kernel
theorem dL_begins_337 : decode cL_begins 337 = .ok (.iconst 4, 1) := by decide +kernel
theorem dL_begins_338 : decode cL_begins 338 = .ok (.idiv, 1) := by decide +kernel
theorem dL_begins_339 : decode cL_begins 339 = .ok (.aload 6, 2) := by decide +kernel
theorem dL_begins_341 : decode cL_begins 341 = .ok (.iload 7, 2) := by decide +kernel
theorem dL_begins_343 : decode cL_begins 343 = .ok (.iconst 4, 1) := by decide +kernel
theorem dL_begins_344 : decode cL_begins 344 = .ok (.idiv, 1) := by decide +kernel
theorem dL_begins_345 : decode cL_begins 345 = .ok (.iaload, 1) := by decide +kernel
theorem dL_begins_346 : decode cL_begins 346 = .ok (.bipush 8, 2) := by decide +kernel
theorem dL_begins_348 : decode cL_begins 348 = .ok (.ishl, 1) := by decide +kernel
theorem dL_begins_349 : decode cL_begins 349 = .ok (.iload 5, 2) := by decide +kernel
theorem dL_begins_351 : decode cL_begins 351 = .ok (.iload 7, 2) := by decide +kernel
theorem dL_begins_353 : decode cL_begins 353 = .ok (.iadd, 1) := by decide +kernel
theorem dL_begins_354 : decode cL_begins 354 = .ok (.iload 4, 2) := by decide +kernel
theorem dL_begins_356 : decode cL_begins 356 = .ok (.if_icmp .ge 15, 3) := by decide +kernel
theorem dL_begins_359 : decode cL_begins 359 = .ok (.aload_n 3, 1) := by decide +kernel
theorem dL_begins_360 : decode cL_begins 360 = .ok (.iload 5, 2) := by decide +kernel
theorem dL_begins_362 : decode cL_begins 362 = .ok (.iload 7, 2) := by decide +kernel
theorem dL_begins_364 : decode cL_begins 364 = .ok (.iadd, 1) := by decide +kernel
theorem dL_begins_365 : decode cL_begins 365 = .ok (.invokevirtual 47, 3) := by decide +kernel
theorem dL_begins_368 : decode cL_begins 368 = .ok (.goto 5, 3) := by decide +kernel
theorem dL_begins_371 : decode cL_begins 371 = .ok (.bipush 32, 2) := by decide +kernel
theorem dL_begins_373 : decode cL_begins 373 = .ok (.ior, 1) := by decide +kernel
theorem dL_begins_374 : decode cL_begins 374 = .ok (.iastore, 1) := by decide +kernel
theorem dL_begins_375 : decode cL_begins 375 = .ok (.iinc 7 1, 3) := by decide +kernel
theorem dL_begins_378 : decode cL_begins 378 = .ok (.goto (-52), 3) := by decide +kernel
theorem dL_begins_381 : decode cL_begins 381 = .ok (.aload_n 0, 1) := by decide +kernel
theorem dL_begins_382 : decode cL_begins 382 = .ok (.aload 6, 2) := by decide +kernel
theorem dL_begins_384 : decode cL_begins 384 = .ok (.iconst 0, 1) := by decide +kernel
theorem dL_begins_385 : decode cL_begins 385 = .ok (.iaload, 1) := by decide +kernel
theorem dL_begins_386 : decode cL_begins 386 = .ok (.aload 6, 2) := by decide +kernel
theorem dL_begins_388 : decode cL_begins 388 = .ok (.iconst 1, 1) := by decide +kernel
theorem dL_begins_389 : decode cL_begins 389 = .ok (.iaload, 1) := by decide +kernel
theorem dL_begins_390 : decode cL_begins 390 = .ok (.aload 6, 2) := by decide +kernel
theorem dL_begins_392 : decode cL_begins 392 = .ok (.iconst 2, 1) := by decide +kernel
theorem dL_begins_393 : decode cL_begins 393 = .ok (.iaload, 1) := by decide +kernel
theorem dL_begins_394 : decode cL_begins 394 = .ok (.aload 6, 2) := by decide +kernel
theorem dL_begins_396 : decode cL_begins 396 = .ok (.iconst 3, 1) := by decide +kernel
theorem dL_begins_397 : decode cL_begins 397 = .ok (.iaload, 1) := by decide +kernel
theorem dL_begins_398 : decode cL_begins 398 = .ok (.aload 6, 2) := by decide +kernel
theorem dL_begins_400 : decode cL_begins 400 = .ok (.iconst 4, 1) := by decide +kernel
theorem dL_begins_401 : decode cL_begins 401 = .ok (.iaload, 1) := by decide +kernel
theorem dL_begins_402 : decode cL_begins 402 = .ok (.invokevirtual 51, 3) := by decide +kernel
theorem dL_begins_405 : decode cL_begins 405 = .ok (.pop, 1) := by decide +kernel
theorem dL_begins_406 : decode cL_begins 406 = .ok (.iinc 5 20, 3) := by decide +kernel
theorem dL_begins_409 : decode cL_begins 409 = .ok (.goto (-98), 3) := by decide +kernel
theorem dL_begins_412 : decode cL_begins 412 = .ok (.aload_n 0, 1) := by decide +kernel
theorem dL_begins_413 : decode cL_begins 413 = .ok (.iload 4, 2) := by decide +kernel
theorem dL_begins_415 : decode cL_begins 415 = .ok (.invokevirtual 56, 3) := by decide +kernel
theorem dL_begins_418 : decode cL_begins 418 = .ok (.iload_n 2, 1) := by decide +kernel
theorem dL_begins_419 : decode cL_begins 419 = .ok (.if_icmp .ne 7, 3) := by decide +kernel
theorem dL_begins_422 : decode cL_begins 422 = .ok (.iconst 1, 1) := by decide +kernel
theorem dL_begins_423 : decode cL_begins 423 = .ok (.goto 4, 3) := by decide +kernel
theorem dL_begins_426 : decode cL_begins 426 = .ok (.iconst 0, 1) := by decide +kernel
theorem dL_begins_427 : decode cL_begins 427 = .ok (.ireturn, 1) := by decide +kernel
theorem dL_law_0 : decode cL_law 0 = .ok (.new 52, 3) := by decide +kernel
theorem dL_law_3 : decode cL_law 3 = .ok (.dup, 1) := by decide +kernel
theorem dL_law_4 : decode cL_law 4 = .ok (.invokespecial 60, 3) := by decide +kernel
theorem dL_law_7 : decode cL_law 7 = .ok (.astore_n 1, 1) := by decide +kernel
theorem dL_law_8 : decode cL_law 8 = .ok (.aload_n 1, 1) := by decide +kernel
theorem dL_law_9 : decode cL_law 9 = .ok (.iconst 3, 1) := by decide +kernel
theorem dL_law_10 : decode cL_law 10 = .ok (.invokevirtual 61, 3) := by decide +kernel
theorem dL_law_13 : decode cL_law 13 = .ok (.iconst 1, 1) := by decide +kernel
theorem dL_law_14 : decode cL_law 14 = .ok (.if_icmp .ne 26, 3) := by decide +kernel
theorem dL_law_17 : decode cL_law 17 = .ok (.aload_n 1, 1) := by decide +kernel
theorem dL_law_18 : decode cL_law 18 = .ok (.invokevirtual 64, 3) := by decide +kernel
theorem dL_law_21 : decode cL_law 21 = .ok (.ifCond .ne 19, 3) := by decide +kernel
theorem dL_law_24 : decode cL_law 24 = .ok (.aload_n 1, 1) := by decide +kernel
theorem dL_law_25 : decode cL_law 25 = .ok (.invokevirtual 67, 3) := by decide +kernel
theorem dL_law_28 : decode cL_law 28 = .ok (.iconst (-1), 1) := by decide +kernel
theorem dL_law_29 : decode cL_law 29 = .ok (.if_icmp .ne 11, 3) := by decide +kernel
theorem dL_law_32 : decode cL_law 32 = .ok (.aload_n 1, 1) := by decide +kernel
theorem dL_law_33 : decode cL_law 33 = .ok (.aload_n 0, 1) := by decide +kernel
theorem dL_law_34 : decode cL_law 34 = .ok (.invokestatic 70, 3) := by decide +kernel
theorem dL_law_37 : decode cL_law 37 = .ok (.ifCond .ne 5, 3) := by decide +kernel
theorem dL_law_40 : decode cL_law 40 = .ok (.iconst 0, 1) := by decide +kernel
theorem dL_law_41 : decode cL_law 41 = .ok (.ireturn, 1) := by decide +kernel
theorem dL_law_42 : decode cL_law 42 = .ok (.aload_n 1, 1) := by decide +kernel
theorem dL_law_43 : decode cL_law 43 = .ok (.iconst 1, 1) := by decide +kernel
theorem dL_law_44 : decode cL_law 44 = .ok (.invokevirtual 61, 3) := by decide +kernel
theorem dL_law_47 : decode cL_law 47 = .ok (.istore_n 2, 1) := by decide +kernel
theorem dL_law_48 : decode cL_law 48 = .ok (.iconst 0, 1) := by decide +kernel
theorem dL_law_49 : decode cL_law 49 = .ok (.istore_n 3, 1) := by decide +kernel
theorem dL_law_50 : decode cL_law 50 = .ok (.iconst 0, 1) := by decide +kernel
theorem dL_law_51 : decode cL_law 51 = .ok (.istore 4, 2) := by decide +kernel
theorem dL_law_53 : decode cL_law 53 = .ok (.iload 4, 2) := by decide +kernel
theorem dL_law_55 : decode cL_law 55 = .ok (.aload_n 1, 1) := by decide +kernel
theorem dL_law_56 : decode cL_law 56 = .ok (.iconst 0, 1) := by decide +kernel
theorem dL_law_57 : decode cL_law 57 = .ok (.invokevirtual 61, 3) := by decide +kernel
theorem dL_law_60 : decode cL_law 60 = .ok (.if_icmp .ge 19, 3) := by decide +kernel
theorem dL_law_63 : decode cL_law 63 = .ok (.iload_n 3, 1) := by decide +kernel
theorem dL_law_64 : decode cL_law 64 = .ok (.aload_n 1, 1) := by decide +kernel
theorem dL_law_65 : decode cL_law 65 = .ok (.iload 4, 2) := by decide +kernel
theorem dL_law_67 : decode cL_law 67 = .ok (.iconst 3, 1) := by decide +kernel
theorem dL_law_68 : decode cL_law 68 = .ok (.invokevirtual 74, 3) := by decide +kernel
theorem dL_law_71 : decode cL_law 71 = .ok (.ixor, 1) := by decide +kernel
theorem dL_law_72 : decode cL_law 72 = .ok (.istore_n 3, 1) := by decide +kernel
theorem dL_law_73 : decode cL_law 73 = .ok (.iinc 4 1, 3) := by decide +kernel
theorem dL_law_76 : decode cL_law 76 = .ok (.goto (-23), 3) := by decide +kernel
theorem dL_law_79 : decode cL_law 79 = .ok (.iload_n 3, 1) := by decide +kernel
theorem dL_law_80 : decode cL_law 80 = .ok (.aload_n 1, 1) := by decide +kernel
theorem dL_law_81 : decode cL_law 81 = .ok (.invokevirtual 64, 3) := by decide +kernel
theorem dL_law_84 : decode cL_law 84 = .ok (.if_icmp .ne 17, 3) := by decide +kernel
theorem dL_law_87 : decode cL_law 87 = .ok (.aload_n 1, 1) := by decide +kernel
theorem dL_law_88 : decode cL_law 88 = .ok (.invokevirtual 78, 3) := by decide +kernel
theorem dL_law_91 : decode cL_law 91 = .ok (.ifCond .eq 10, 3) := by decide +kernel
theorem dL_law_94 : decode cL_law 94 = .ok (.aload_n 1, 1) := by decide +kernel
theorem dL_law_95 : decode cL_law 95 = .ok (.invokestatic 82, 3) := by decide +kernel
theorem dL_law_98 : decode cL_law 98 = .ok (.ifCond .ne 5, 3) := by decide +kernel
theorem dL_law_101 : decode cL_law 101 = .ok (.iconst 0, 1) := by decide +kernel
theorem dL_law_102 : decode cL_law 102 = .ok (.ireturn, 1) := by decide +kernel
theorem dL_law_103 : decode cL_law 103 = .ok (.iload_n 3, 1) := by decide +kernel
theorem dL_law_104 : decode cL_law 104 = .ok (.ifCond .eq 7, 3) := by decide +kernel
theorem dL_law_107 : decode cL_law 107 = .ok (.iconst 1, 1) := by decide +kernel
theorem dL_law_108 : decode cL_law 108 = .ok (.goto 4, 3) := by decide +kernel
theorem dL_law_111 : decode cL_law 111 = .ok (.iconst 0, 1) := by decide +kernel
theorem dL_law_112 : decode cL_law 112 = .ok (.istore 4, 2) := by decide +kernel
theorem dL_law_114 : decode cL_law 114 = .ok (.iconst 0, 1) := by decide +kernel
theorem dL_law_115 : decode cL_law 115 = .ok (.istore 5, 2) := by decide +kernel
theorem dL_law_117 : decode cL_law 117 = .ok (.iload 5, 2) := by decide +kernel
theorem dL_law_119 : decode cL_law 119 = .ok (.bipush 90, 2) := by decide +kernel
theorem dL_law_121 : decode cL_law 121 = .ok (.if_icmp .ge 96, 3) := by decide +kernel
theorem dL_law_124 : decode cL_law 124 = .ok (.aload_n 1, 1) := by decide +kernel
theorem dL_law_125 : decode cL_law 125 = .ok (.iconst 3, 1) := by decide +kernel
theorem dL_law_126 : decode cL_law 126 = .ok (.invokevirtual 61, 3) := by decide +kernel
theorem dL_law_129 : decode cL_law 129 = .ok (.ifCond .ne 88, 3) := by decide +kernel
theorem dL_law_132 : decode cL_law 132 = .ok (.aload_n 1, 1) := by decide +kernel
theorem dL_law_133 : decode cL_law 133 = .ok (.invokevirtual 64, 3) := by decide +kernel
theorem dL_law_136 : decode cL_law 136 = .ok (.ifCond .eq 7, 3) := by decide +kernel
theorem dL_law_139 : decode cL_law 139 = .ok (.iconst 1, 1) := by decide +kernel
theorem dL_law_140 : decode cL_law 140 = .ok (.goto 4, 3) := by decide +kernel
theorem dL_law_143 : decode cL_law 143 = .ok (.iconst 0, 1) := by decide +kernel
theorem dL_law_144 : decode cL_law 144 = .ok (.istore 6, 2) := by decide +kernel
theorem dL_law_146 : decode cL_law 146 = .ok (.aload_n 1, 1) := by decide +kernel
theorem dL_law_147 : decode cL_law 147 = .ok (.invokevirtual 86, 3) := by decide +kernel
theorem dL_law_150 : decode cL_law 150 = .ok (.iconst (-1), 1) := by decide +kernel
theorem dL_law_151 : decode cL_law 151 = .ok (.if_icmp .ne 7, 3) := by decide +kernel
theorem dL_law_154 : decode cL_law 154 = .ok (.iconst 1, 1) := by decide +kernel
theorem dL_law_155 : decode cL_law 155 = .ok (.goto 4, 3) := by decide +kernel
theorem dL_law_158 : decode cL_law 158 = .ok (.iconst 0, 1) := by decide +kernel
theorem dL_law_159 : decode cL_law 159 = .ok (.iload 6, 2) := by decide +kernel
theorem dL_law_161 : decode cL_law 161 = .ok (.if_icmp .eq 48, 3) := by decide +kernel
theorem dL_law_164 : decode cL_law 164 = .ok (.iload 6, 2) := by decide +kernel
theorem dL_law_166 : decode cL_law 166 = .ok (.iload 4, 2) := by decide +kernel
theorem dL_law_168 : decode cL_law 168 = .ok (.aload_n 1, 1) := by decide +kernel
theorem dL_law_169 : decode cL_law 169 = .ok (.iconst 1, 1) := by decide +kernel
theorem dL_law_170 : decode cL_law 170 = .ok (.invokevirtual 61, 3) := by decide +kernel
theorem dL_law_173 : decode cL_law 173 = .ok (.iload_n 2, 1) := by decide +kernel
theorem dL_law_174 : decode cL_law 174 = .ok (.if_icmp .ne 7, 3) := by decide +kernel
theorem dL_law_177 : decode cL_law 177 = .ok (.iconst 1, 1) := by decide +kernel
theorem dL_law_178 : decode cL_law 178 = .ok (.goto 4, 3) := by decide +kernel
theorem dL_law_181 : decode cL_law 181 = .ok (.iconst 0, 1) := by decide +kernel
theorem dL_law_182 : decode cL_law 182 = .ok (.if_icmp .ne 7, 3) := by decide +kernel
theorem dL_law_185 : decode cL_law 185 = .ok (.iconst 1, 1) := by decide +kernel
theorem dL_law_186 : decode cL_law 186 = .ok (.goto 4, 3) := by decide +kernel
theorem dL_law_189 : decode cL_law 189 = .ok (.iconst 0, 1) := by decide +kernel
theorem dL_law_190 : decode cL_law 190 = .ok (.if_icmp .ne 19, 3) := by decide +kernel
theorem dL_law_193 : decode cL_law 193 = .ok (.aload_n 1, 1) := by decide +kernel
theorem dL_law_194 : decode cL_law 194 = .ok (.iconst 1, 1) := by decide +kernel
theorem dL_law_195 : decode cL_law 195 = .ok (.invokevirtual 89, 3) := by decide +kernel
theorem dL_law_198 : decode cL_law 198 = .ok (.iconst 1, 1) := by decide +kernel
theorem dL_law_199 : decode cL_law 199 = .ok (.if_icmp .ne 10, 3) := by decide +kernel
theorem dL_law_202 : decode cL_law 202 = .ok (.aload_n 1, 1) := by decide +kernel
theorem dL_law_203 : decode cL_law 203 = .ok (.invokevirtual 78, 3) := by decide +kernel
theorem dL_law_206 : decode cL_law 206 = .ok (.ifCond .ne 5, 3) := by decide +kernel
theorem dL_law_209 : decode cL_law 209 = .ok (.iconst 0, 1) := by decide +kernel
theorem dL_law_210 : decode cL_law 210 = .ok (.ireturn, 1) := by decide +kernel
theorem dL_law_211 : decode cL_law 211 = .ok (.iinc 5 1, 3) := by decide +kernel
theorem dL_law_214 : decode cL_law 214 = .ok (.goto (-97), 3) := by decide +kernel
theorem dL_law_217 : decode cL_law 217 = .ok (.aload_n 1, 1) := by decide +kernel
theorem dL_law_218 : decode cL_law 218 = .ok (.iconst 3, 1) := by decide +kernel
theorem dL_law_219 : decode cL_law 219 = .ok (.invokevirtual 61, 3) := by decide +kernel
theorem dL_law_222 : decode cL_law 222 = .ok (.iconst 1, 1) := by decide +kernel
theorem dL_law_223 : decode cL_law 223 = .ok (.if_icmp .ne 56, 3) := by decide +kernel
theorem dL_law_226 : decode cL_law 226 = .ok (.aload_n 1, 1) := by decide +kernel
theorem dL_law_227 : decode cL_law 227 = .ok (.invokevirtual 64, 3) := by decide +kernel
theorem dL_law_230 : decode cL_law 230 = .ok (.ifCond .ne 49, 3) := by decide +kernel
theorem dL_law_233 : decode cL_law 233 = .ok (.aload_n 1, 1) := by decide +kernel
theorem dL_law_234 : decode cL_law 234 = .ok (.iconst 4, 1) := by decide +kernel
theorem dL_law_235 : decode cL_law 235 = .ok (.invokevirtual 61, 3) := by decide +kernel
theorem dL_law_238 : decode cL_law 238 = .ok (.iload 4, 2) := by decide +kernel
theorem dL_law_240 : decode cL_law 240 = .ok (.ifCond .eq 7, 3) := by decide +kernel
theorem dL_law_243 : decode cL_law 243 = .ok (.iload_n 2, 1) := by decide +kernel
theorem dL_law_244 : decode cL_law 244 = .ok (.goto 6, 3) := by decide +kernel
theorem dL_law_247 : decode cL_law 247 = .ok (.iconst 1, 1) := by decide +kernel
theorem dL_law_248 : decode cL_law 248 = .ok (.iload_n 2, 1) := by decide +kernel
theorem dL_law_249 : decode cL_law 249 = .ok (.isub, 1) := by decide +kernel
theorem dL_law_250 : decode cL_law 250 = .ok (.if_icmp .ne 29, 3) := by decide +kernel
theorem dL_law_253 : decode cL_law 253 = .ok (.aload_n 1, 1) := by decide +kernel
theorem dL_law_254 : decode cL_law 254 = .ok (.invokevirtual 92, 3) := by decide +kernel
theorem dL_law_257 : decode cL_law 257 = .ok (.ifCond .ne 22, 3) := by decide +kernel
theorem dL_law_260 : decode cL_law 260 = .ok (.aload_n 1, 1) := by decide +kernel
theorem dL_law_261 : decode cL_law 261 = .ok (.iconst 1, 1) := by decide +kernel
theorem dL_law_262 : decode cL_law 262 = .ok (.invokevirtual 89, 3) := by decide +kernel
theorem dL_law_265 : decode cL_law 265 = .ok (.ifCond .ne 14, 3) := by decide +kernel
theorem dL_law_268 : decode cL_law 268 = .ok (.aload_n 1, 1) := by decide +kernel
theorem dL_law_269 : decode cL_law 269 = .ok (.invokestatic 95, 3) := by decide +kernel
theorem dL_law_272 : decode cL_law 272 = .ok (.ifCond .eq 7, 3) := by decide +kernel
theorem dL_law_275 : decode cL_law 275 = .ok (.iconst 1, 1) := by decide +kernel
theorem dL_law_276 : decode cL_law 276 = .ok (.goto 4, 3) := by decide +kernel
theorem dL_law_279 : decode cL_law 279 = .ok (.iconst 0, 1) := by decide +kernel
theorem dL_law_280 : decode cL_law 280 = .ok (.ireturn, 1) := by decide +kernel
theorem dL_isCounted_0 : decode cL_isCounted 0 = .ok (.iconst 0, 1) := by decide +kernel
theorem dL_isCounted_1 : decode cL_isCounted 1 = .ok (.istore_n 1, 1) := by decide +kernel
theorem dL_isCounted_2 : decode cL_isCounted 2 = .ok (.iconst 0, 1) := by decide +kernel
theorem dL_isCounted_3 : decode cL_isCounted 3 = .ok (.istore_n 2, 1) := by decide +kernel
theorem dL_isCounted_4 : decode cL_isCounted 4 = .ok (.iload_n 2, 1) := by decide +kernel
theorem dL_isCounted_5 : decode cL_isCounted 5 = .ok (.aload_n 0, 1) := by decide +kernel
theorem dL_isCounted_6 : decode cL_isCounted 6 = .ok (.iconst 0, 1) := by decide +kernel
theorem dL_isCounted_7 : decode cL_isCounted 7 = .ok (.invokevirtual 61, 3) := by decide +kernel
theorem dL_isCounted_10 : decode cL_isCounted 10 = .ok (.if_icmp .ge 128, 3) := by decide +kernel
theorem dL_isCounted_13 : decode cL_isCounted 13 = .ok (.aload_n 0, 1) := by decide +kernel
theorem dL_isCounted_14 : decode cL_isCounted 14 = .ok (.iload_n 2, 1) := by decide +kernel
theorem dL_isCounted_15 : decode cL_isCounted 15 = .ok (.iconst 1, 1) := by decide +kernel
theorem dL_isCounted_16 : decode cL_isCounted 16 = .ok (.invokevirtual 74, 3) := by decide +kernel
theorem dL_isCounted_19 : decode cL_isCounted 19 = .ok (.aload_n 0, 1) := by decide +kernel
theorem dL_isCounted_20 : decode cL_isCounted 20 = .ok (.iload_n 2, 1) := by decide +kernel
theorem dL_isCounted_21 : decode cL_isCounted 21 = .ok (.iconst 0, 1) := by decide +kernel
theorem dL_isCounted_22 : decode cL_isCounted 22 = .ok (.invokevirtual 98, 3) := by decide +kernel
theorem dL_isCounted_25 : decode cL_isCounted 25 = .ok (.invokestatic 101, 3) := by decide +kernel
theorem dL_isCounted_28 : decode cL_isCounted 28 = .ok (.aload_n 0, 1) := by decide +kernel
theorem dL_isCounted_29 : decode cL_isCounted 29 = .ok (.iload_n 2, 1) := by decide +kernel
theorem dL_isCounted_30 : decode cL_isCounted 30 = .ok (.iconst 2, 1) := by decide +kernel
theorem dL_isCounted_31 : decode cL_isCounted 31 = .ok (.invokevirtual 74, 3) := by decide +kernel
theorem dL_isCounted_34 : decode cL_isCounted 34 = .ok (.iadd, 1) := by decide +kernel
theorem dL_isCounted_35 : decode cL_isCounted 35 = .ok (.if_icmp .ne 55, 3) := by decide +kernel
theorem dL_isCounted_38 : decode cL_isCounted 38 = .ok (.aload_n 0, 1) := by decide +kernel
theorem dL_isCounted_39 : decode cL_isCounted 39 = .ok (.iload_n 2, 1) := by decide +kernel
theorem dL_isCounted_40 : decode cL_isCounted 40 = .ok (.invokevirtual 106, 3) := by decide +kernel
theorem dL_isCounted_43 : decode cL_isCounted 43 = .ok (.ifCond .le 7, 3) := by decide +kernel
theorem dL_isCounted_46 : decode cL_isCounted 46 = .ok (.iconst 1, 1) := by decide +kernel
theorem dL_isCounted_47 : decode cL_isCounted 47 = .ok (.goto 4, 3) := by decide +kernel
theorem dL_isCounted_50 : decode cL_isCounted 50 = .ok (.iconst 0, 1) := by decide +kernel
theorem dL_isCounted_51 : decode cL_isCounted 51 = .ok (.aload_n 0, 1) := by decide +kernel
theorem dL_isCounted_52 : decode cL_isCounted 52 = .ok (.iload_n 2, 1) := by decide +kernel
theorem dL_isCounted_53 : decode cL_isCounted 53 = .ok (.invokevirtual 109, 3) := by decide +kernel
theorem dL_isCounted_56 : decode cL_isCounted 56 = .ok (.ifCond .le 7, 3) := by decide +kernel
theorem dL_isCounted_59 : decode cL_isCounted 59 = .ok (.iconst 1, 1) := by decide +kernel
theorem dL_isCounted_60 : decode cL_isCounted 60 = .ok (.goto 4, 3) := by decide +kernel
theorem dL_isCounted_63 : decode cL_isCounted 63 = .ok (.iconst 0, 1) := by decide +kernel
theorem dL_isCounted_64 : decode cL_isCounted 64 = .ok (.if_icmp .ne 26, 3) := by decide +kernel
theorem dL_isCounted_67 : decode cL_isCounted 67 = .ok (.aload_n 0, 1) := by decide +kernel
theorem dL_isCounted_68 : decode cL_isCounted 68 = .ok (.iload_n 2, 1) := by decide +kernel
theorem dL_isCounted_69 : decode cL_isCounted 69 = .ok (.invokevirtual 112, 3) := by decide +kernel
theorem dL_isCounted_72 : decode cL_isCounted 72 = .ok (.iconst 1, 1) := by decide +kernel
theorem dL_isCounted_73 : decode cL_isCounted 73 = .ok (.aload_n 0, 1) := by decide +kernel
theorem dL_isCounted_74 : decode cL_isCounted 74 = .ok (.iload_n 2, 1) := by decide +kernel
theorem dL_isCounted_75 : decode cL_isCounted 75 = .ok (.invokevirtual 109, 3) := by decide +kernel
theorem dL_isCounted_78 : decode cL_isCounted 78 = .ok (.ifCond .le 7, 3) := by decide +kernel
theorem dL_isCounted_81 : decode cL_isCounted 81 = .ok (.iconst 1, 1) := by decide +kernel
theorem dL_isCounted_82 : decode cL_isCounted 82 = .ok (.goto 4, 3) := by decide +kernel
theorem dL_isCounted_85 : decode cL_isCounted 85 = .ok (.iconst 0, 1) := by decide +kernel
theorem dL_isCounted_86 : decode cL_isCounted 86 = .ok (.iadd, 1) := by decide +kernel
theorem dL_isCounted_87 : decode cL_isCounted 87 = .ok (.if_icmp .ge 5, 3) := by decide +kernel
theorem dL_isCounted_90 : decode cL_isCounted 90 = .ok (.iconst 0, 1) := by decide +kernel
theorem dL_isCounted_91 : decode cL_isCounted 91 = .ok (.ireturn, 1) := by decide +kernel
theorem dL_isCounted_92 : decode cL_isCounted 92 = .ok (.aload_n 0, 1) := by decide +kernel
theorem dL_isCounted_93 : decode cL_isCounted 93 = .ok (.iload_n 2, 1) := by decide +kernel
theorem dL_isCounted_94 : decode cL_isCounted 94 = .ok (.aload_n 0, 1) := by decide +kernel
theorem dL_isCounted_95 : decode cL_isCounted 95 = .ok (.iload_n 2, 1) := by decide +kernel
theorem dL_isCounted_96 : decode cL_isCounted 96 = .ok (.iconst 0, 1) := by decide +kernel
theorem dL_isCounted_97 : decode cL_isCounted 97 = .ok (.invokevirtual 98, 3) := by decide +kernel
theorem dL_isCounted_100 : decode cL_isCounted 100 = .ok (.invokevirtual 115, 3) := by decide +kernel
theorem dL_isCounted_103 : decode cL_isCounted 103 = .ok (.aload_n 0, 1) := by decide +kernel
theorem dL_isCounted_104 : decode cL_isCounted 104 = .ok (.iload_n 2, 1) := by decide +kernel
theorem dL_isCounted_105 : decode cL_isCounted 105 = .ok (.iconst 3, 1) := by decide +kernel
theorem dL_isCounted_106 : decode cL_isCounted 106 = .ok (.invokevirtual 74, 3) := by decide +kernel
theorem dL_isCounted_109 : decode cL_isCounted 109 = .ok (.if_icmp .ne 13, 3) := by decide +kernel
theorem dL_isCounted_112 : decode cL_isCounted 112 = .ok (.aload_n 0, 1) := by decide +kernel
theorem dL_isCounted_113 : decode cL_isCounted 113 = .ok (.iload_n 2, 1) := by decide +kernel
theorem dL_isCounted_114 : decode cL_isCounted 114 = .ok (.invokevirtual 118, 3) := by decide +kernel
theorem dL_isCounted_117 : decode cL_isCounted 117 = .ok (.dconst 0, 1) := by decide +kernel
theorem dL_isCounted_118 : decode cL_isCounted 118 = .ok (.dcmp .g, 1) := by decide +kernel
theorem dL_isCounted_119 : decode cL_isCounted 119 = .ok (.ifCond .ge 5, 3) := by decide +kernel
theorem dL_isCounted_122 : decode cL_isCounted 122 = .ok (.iconst 0, 1) := by decide +kernel
theorem dL_isCounted_123 : decode cL_isCounted 123 = .ok (.ireturn, 1) := by decide +kernel
theorem dL_isCounted_124 : decode cL_isCounted 124 = .ok (.iload_n 1, 1) := by decide +kernel
theorem dL_isCounted_125 : decode cL_isCounted 125 = .ok (.aload_n 0, 1) := by decide +kernel
theorem dL_isCounted_126 : decode cL_isCounted 126 = .ok (.iload_n 2, 1) := by decide +kernel
theorem dL_isCounted_127 : decode cL_isCounted 127 = .ok (.invokevirtual 109, 3) := by decide +kernel
theorem dL_isCounted_130 : decode cL_isCounted 130 = .ok (.iadd, 1) := by decide +kernel
theorem dL_isCounted_131 : decode cL_isCounted 131 = .ok (.istore_n 1, 1) := by decide +kernel
theorem dL_isCounted_132 : decode cL_isCounted 132 = .ok (.iinc 2 1, 3) := by decide +kernel
theorem dL_isCounted_135 : decode cL_isCounted 135 = .ok (.goto (-131), 3) := by decide +kernel
theorem dL_isCounted_138 : decode cL_isCounted 138 = .ok (.iload_n 1, 1) := by decide +kernel
theorem dL_isCounted_139 : decode cL_isCounted 139 = .ok (.aload_n 0, 1) := by decide +kernel
theorem dL_isCounted_140 : decode cL_isCounted 140 = .ok (.invokevirtual 92, 3) := by decide +kernel
theorem dL_isCounted_143 : decode cL_isCounted 143 = .ok (.if_icmp .ne 7, 3) := by decide +kernel
theorem dL_isCounted_146 : decode cL_isCounted 146 = .ok (.iconst 1, 1) := by decide +kernel
theorem dL_isCounted_147 : decode cL_isCounted 147 = .ok (.goto 4, 3) := by decide +kernel
theorem dL_isCounted_150 : decode cL_isCounted 150 = .ok (.iconst 0, 1) := by decide +kernel
theorem dL_isCounted_151 : decode cL_isCounted 151 = .ok (.ireturn, 1) := by decide +kernel
theorem dL_refuses_0 : decode cL_refuses 0 = .ok (.aload_n 0, 1) := by decide +kernel
theorem dL_refuses_1 : decode cL_refuses 1 = .ok (.invokevirtual 122, 3) := by decide +kernel
theorem dL_refuses_4 : decode cL_refuses 4 = .ok (.pop, 1) := by decide +kernel
theorem dL_refuses_5 : decode cL_refuses 5 = .ok (.iconst 0, 1) := by decide +kernel
theorem dL_refuses_6 : decode cL_refuses 6 = .ok (.ireturn, 1) := by decide +kernel
theorem dL_refuses_7 : decode cL_refuses 7 = .ok (.astore_n 1, 1) := by decide +kernel
theorem dL_refuses_8 : decode cL_refuses 8 = .ok (.iconst 1, 1) := by decide +kernel
theorem dL_refuses_9 : decode cL_refuses 9 = .ok (.ireturn, 1) := by decide +kernel
