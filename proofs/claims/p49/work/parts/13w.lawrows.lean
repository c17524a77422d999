theorem dL_law_0 : decode cL_law 0 = .ok (.new 14, 3) := by decide +kernel
theorem dL_law_3 : decode cL_law 3 = .ok (.dup, 1) := by decide +kernel
theorem dL_law_4 : decode cL_law 4 = .ok (.invokespecial 141, 3) := by decide +kernel
theorem dL_law_7 : decode cL_law 7 = .ok (.astore_n 1, 1) := by decide +kernel
theorem dL_law_8 : decode cL_law 8 = .ok (.aload_n 1, 1) := by decide +kernel
theorem dL_law_9 : decode cL_law 9 = .ok (.aload_n 0, 1) := by decide +kernel
theorem dL_law_10 : decode cL_law 10 = .ok (.invokestatic 142, 3) := by decide +kernel
theorem dL_law_13 : decode cL_law 13 = .ok (.iconst 0, 1) := by decide +kernel
theorem dL_law_14 : decode cL_law 14 = .ok (.istore_n 2, 1) := by decide +kernel
theorem dL_law_15 : decode cL_law 15 = .ok (.iload_n 2, 1) := by decide +kernel
theorem dL_law_16 : decode cL_law 16 = .ok (.iconst 3, 1) := by decide +kernel
theorem dL_law_17 : decode cL_law 17 = .ok (.if_icmp .ge 1907, 3) := by decide +kernel
theorem dL_law_20 : decode cL_law 20 = .ok (.aload_n 1, 1) := by decide +kernel
theorem dL_law_21 : decode cL_law 21 = .ok (.invokestatic 146, 3) := by decide +kernel
theorem dL_law_24 : decode cL_law 24 = .ok (.astore_n 3, 1) := by decide +kernel
theorem dL_law_25 : decode cL_law 25 = .ok (.aload_n 3, 1) := by decide +kernel
theorem dL_law_26 : decode cL_law 26 = .ok (.arraylength, 1) := by decide +kernel
theorem dL_law_27 : decode cL_law 27 = .ok (.istore 4, 2) := by decide +kernel
theorem dL_law_29 : decode cL_law 29 = .ok (.iconst 1, 1) := by decide +kernel
theorem dL_law_30 : decode cL_law 30 = .ok (.iload 4, 2) := by decide +kernel
theorem dL_law_32 : decode cL_law 32 = .ok (.ishl, 1) := by decide +kernel
theorem dL_law_33 : decode cL_law 33 = .ok (.iconst 1, 1) := by decide +kernel
theorem dL_law_34 : decode cL_law 34 = .ok (.isub, 1) := by decide +kernel
theorem dL_law_35 : decode cL_law 35 = .ok (.istore 5, 2) := by decide +kernel
theorem dL_law_37 : decode cL_law 37 = .ok (.iconst 0, 1) := by decide +kernel
theorem dL_law_38 : decode cL_law 38 = .ok (.istore 6, 2) := by decide +kernel
theorem dL_law_40 : decode cL_law 40 = .ok (.iconst 0, 1) := by decide +kernel
theorem dL_law_41 : decode cL_law 41 = .ok (.istore 7, 2) := by decide +kernel
theorem dL_law_43 : decode cL_law 43 = .ok (.iconst 0, 1) := by decide +kernel
theorem dL_law_44 : decode cL_law 44 = .ok (.istore 8, 2) := by decide +kernel
theorem dL_law_46 : decode cL_law 46 = .ok (.iconst 0, 1) := by decide +kernel
theorem dL_law_47 : decode cL_law 47 = .ok (.istore 9, 2) := by decide +kernel
theorem dL_law_49 : decode cL_law 49 = .ok (.iconst 0, 1) := by decide +kernel
theorem dL_law_50 : decode cL_law 50 = .ok (.istore 10, 2) := by decide +kernel
theorem dL_law_52 : decode cL_law 52 = .ok (.sipush (-30000), 3) := by decide +kernel
theorem dL_law_55 : decode cL_law 55 = .ok (.istore 11, 2) := by decide +kernel
theorem dL_law_57 : decode cL_law 57 = .ok (.iconst 0, 1) := by decide +kernel
theorem dL_law_58 : decode cL_law 58 = .ok (.istore 12, 2) := by decide +kernel
theorem dL_law_60 : decode cL_law 60 = .ok (.iconst 0, 1) := by decide +kernel
theorem dL_law_61 : decode cL_law 61 = .ok (.istore 13, 2) := by decide +kernel
theorem dL_law_63 : decode cL_law 63 = .ok (.iload 13, 2) := by decide +kernel
theorem dL_law_65 : decode cL_law 65 = .ok (.iload 4, 2) := by decide +kernel
theorem dL_law_67 : decode cL_law 67 = .ok (.if_icmp .ge 24, 3) := by decide +kernel
theorem dL_law_70 : decode cL_law 70 = .ok (.iload 6, 2) := by decide +kernel
theorem dL_law_72 : decode cL_law 72 = .ok (.aload_n 1, 1) := by decide +kernel
theorem dL_law_73 : decode cL_law 73 = .ok (.iload 13, 2) := by decide +kernel
theorem dL_law_75 : decode cL_law 75 = .ok (.iconst 0, 1) := by decide +kernel
theorem dL_law_76 : decode cL_law 76 = .ok (.invokevirtual 150, 3) := by decide +kernel
theorem dL_law_79 : decode cL_law 79 = .ok (.iload 13, 2) := by decide +kernel
theorem dL_law_81 : decode cL_law 81 = .ok (.ishl, 1) := by decide +kernel
theorem dL_law_82 : decode cL_law 82 = .ok (.ior, 1) := by decide +kernel
theorem dL_law_83 : decode cL_law 83 = .ok (.istore 6, 2) := by decide +kernel
theorem dL_law_85 : decode cL_law 85 = .ok (.iinc 13 1, 3) := by decide +kernel
theorem dL_law_88 : decode cL_law 88 = .ok (.goto (-25), 3) := by decide +kernel
theorem dL_law_91 : decode cL_law 91 = .ok (.aload_n 3, 1) := by decide +kernel
theorem dL_law_92 : decode cL_law 92 = .ok (.iload 6, 2) := by decide +kernel
theorem dL_law_94 : decode cL_law 94 = .ok (.invokestatic 122, 3) := by decide +kernel
theorem dL_law_97 : decode cL_law 97 = .ok (.istore 13, 2) := by decide +kernel
theorem dL_law_99 : decode cL_law 99 = .ok (.iload 4, 2) := by decide +kernel
theorem dL_law_101 : decode cL_law 101 = .ok (.iconst 1, 1) := by decide +kernel
theorem dL_law_102 : decode cL_law 102 = .ok (.if_icmp .le 12, 3) := by decide +kernel
theorem dL_law_105 : decode cL_law 105 = .ok (.aload_n 3, 1) := by decide +kernel
theorem dL_law_106 : decode cL_law 106 = .ok (.iconst (-1), 1) := by decide +kernel
theorem dL_law_107 : decode cL_law 107 = .ok (.iconst (-1), 1) := by decide +kernel
theorem dL_law_108 : decode cL_law 108 = .ok (.invokestatic 153, 3) := by decide +kernel
theorem dL_law_111 : decode cL_law 111 = .ok (.goto 6, 3) := by decide +kernel
theorem dL_law_114 : decode cL_law 114 = .ok (.sipush (-30000), 3) := by decide +kernel
theorem dL_law_117 : decode cL_law 117 = .ok (.istore 14, 2) := by decide +kernel
theorem dL_law_119 : decode cL_law 119 = .ok (.iconst 0, 1) := by decide +kernel
theorem dL_law_120 : decode cL_law 120 = .ok (.istore 15, 2) := by decide +kernel
theorem dL_law_122 : decode cL_law 122 = .ok (.sipush (-30000), 3) := by decide +kernel
theorem dL_law_125 : decode cL_law 125 = .ok (.istore 16, 2) := by decide +kernel
theorem dL_law_127 : decode cL_law 127 = .ok (.ldc 155, 2) := by decide +kernel
theorem dL_law_129 : decode cL_law 129 = .ok (.astore 17, 2) := by decide +kernel
theorem dL_law_131 : decode cL_law 131 = .ok (.ldc 155, 2) := by decide +kernel
theorem dL_law_133 : decode cL_law 133 = .ok (.astore 18, 2) := by decide +kernel
theorem dL_law_135 : decode cL_law 135 = .ok (.iconst 0, 1) := by decide +kernel
theorem dL_law_136 : decode cL_law 136 = .ok (.istore 19, 2) := by decide +kernel
theorem dL_law_138 : decode cL_law 138 = .ok (.iload 19, 2) := by decide +kernel
theorem dL_law_140 : decode cL_law 140 = .ok (.iload 4, 2) := by decide +kernel
theorem dL_law_142 : decode cL_law 142 = .ok (.if_icmp .ge 635, 3) := by decide +kernel
theorem dL_law_145 : decode cL_law 145 = .ok (.iconst 0, 1) := by decide +kernel
theorem dL_law_146 : decode cL_law 146 = .ok (.istore 20, 2) := by decide +kernel
theorem dL_law_148 : decode cL_law 148 = .ok (.iconst (-1), 1) := by decide +kernel
theorem dL_law_149 : decode cL_law 149 = .ok (.istore 21, 2) := by decide +kernel
theorem dL_law_151 : decode cL_law 151 = .ok (.iconst 1, 1) := by decide +kernel
theorem dL_law_152 : decode cL_law 152 = .ok (.iload 19, 2) := by decide +kernel
theorem dL_law_154 : decode cL_law 154 = .ok (.ishl, 1) := by decide +kernel
theorem dL_law_155 : decode cL_law 155 = .ok (.istore 22, 2) := by decide +kernel
theorem dL_law_157 : decode cL_law 157 = .ok (.iconst 0, 1) := by decide +kernel
theorem dL_law_158 : decode cL_law 158 = .ok (.istore 23, 2) := by decide +kernel
theorem dL_law_160 : decode cL_law 160 = .ok (.iload 23, 2) := by decide +kernel
theorem dL_law_162 : decode cL_law 162 = .ok (.iload 4, 2) := by decide +kernel
theorem dL_law_164 : decode cL_law 164 = .ok (.if_icmp .ge 275, 3) := by decide +kernel
theorem dL_law_167 : decode cL_law 167 = .ok (.aload_n 3, 1) := by decide +kernel
theorem dL_law_168 : decode cL_law 168 = .ok (.iload 19, 2) := by decide +kernel
theorem dL_law_170 : decode cL_law 170 = .ok (.aaload, 1) := by decide +kernel
theorem dL_law_171 : decode cL_law 171 = .ok (.iload 23, 2) := by decide +kernel
theorem dL_law_173 : decode cL_law 173 = .ok (.iaload, 1) := by decide +kernel
theorem dL_law_174 : decode cL_law 174 = .ok (.aload_n 3, 1) := by decide +kernel
theorem dL_law_175 : decode cL_law 175 = .ok (.iload 23, 2) := by decide +kernel
theorem dL_law_177 : decode cL_law 177 = .ok (.aaload, 1) := by decide +kernel
theorem dL_law_178 : decode cL_law 178 = .ok (.iload 19, 2) := by decide +kernel
theorem dL_law_180 : decode cL_law 180 = .ok (.iaload, 1) := by decide +kernel
theorem dL_law_181 : decode cL_law 181 = .ok (.if_icmp .ne 20, 3) := by decide +kernel
theorem dL_law_184 : decode cL_law 184 = .ok (.iload 19, 2) := by decide +kernel
theorem dL_law_186 : decode cL_law 186 = .ok (.iload 23, 2) := by decide +kernel
theorem dL_law_188 : decode cL_law 188 = .ok (.if_icmp .ne 15, 3) := by decide +kernel
theorem dL_law_191 : decode cL_law 191 = .ok (.aload_n 3, 1) := by decide +kernel
theorem dL_law_192 : decode cL_law 192 = .ok (.iload 19, 2) := by decide +kernel
theorem dL_law_194 : decode cL_law 194 = .ok (.aaload, 1) := by decide +kernel
theorem dL_law_195 : decode cL_law 195 = .ok (.iload 23, 2) := by decide +kernel
theorem dL_law_197 : decode cL_law 197 = .ok (.iaload, 1) := by decide +kernel
theorem dL_law_198 : decode cL_law 198 = .ok (.ifCond .eq 5, 3) := by decide +kernel
theorem dL_law_201 : decode cL_law 201 = .ok (.iconst 0, 1) := by decide +kernel
theorem dL_law_202 : decode cL_law 202 = .ok (.ireturn, 1) := by decide +kernel
theorem dL_law_203 : decode cL_law 203 = .ok (.iload 20, 2) := by decide +kernel
theorem dL_law_205 : decode cL_law 205 = .ok (.aload_n 3, 1) := by decide +kernel
theorem dL_law_206 : decode cL_law 206 = .ok (.iload 19, 2) := by decide +kernel
theorem dL_law_208 : decode cL_law 208 = .ok (.aaload, 1) := by decide +kernel
theorem dL_law_209 : decode cL_law 209 = .ok (.iload 23, 2) := by decide +kernel
theorem dL_law_211 : decode cL_law 211 = .ok (.iaload, 1) := by decide +kernel
theorem dL_law_212 : decode cL_law 212 = .ok (.ifCond .le 7, 3) := by decide +kernel
theorem dL_law_215 : decode cL_law 215 = .ok (.iconst 1, 1) := by decide +kernel
theorem dL_law_216 : decode cL_law 216 = .ok (.goto 4, 3) := by decide +kernel
theorem dL_law_219 : decode cL_law 219 = .ok (.iconst 0, 1) := by decide +kernel
theorem dL_law_220 : decode cL_law 220 = .ok (.iadd, 1) := by decide +kernel
theorem dL_law_221 : decode cL_law 221 = .ok (.istore 20, 2) := by decide +kernel
theorem dL_law_223 : decode cL_law 223 = .ok (.aload_n 3, 1) := by decide +kernel
theorem dL_law_224 : decode cL_law 224 = .ok (.iload 19, 2) := by decide +kernel
theorem dL_law_226 : decode cL_law 226 = .ok (.aaload, 1) := by decide +kernel
theorem dL_law_227 : decode cL_law 227 = .ok (.iload 23, 2) := by decide +kernel
theorem dL_law_229 : decode cL_law 229 = .ok (.iaload, 1) := by decide +kernel
theorem dL_law_230 : decode cL_law 230 = .ok (.iload 21, 2) := by decide +kernel
theorem dL_law_232 : decode cL_law 232 = .ok (.ifCond .ge 7, 3) := by decide +kernel
theorem dL_law_235 : decode cL_law 235 = .ok (.iconst 0, 1) := by decide +kernel
theorem dL_law_236 : decode cL_law 236 = .ok (.goto 10, 3) := by decide +kernel
theorem dL_law_239 : decode cL_law 239 = .ok (.aload_n 3, 1) := by decide +kernel
theorem dL_law_240 : decode cL_law 240 = .ok (.iload 19, 2) := by decide +kernel
theorem dL_law_242 : decode cL_law 242 = .ok (.aaload, 1) := by decide +kernel
theorem dL_law_243 : decode cL_law 243 = .ok (.iload 21, 2) := by decide +kernel
theorem dL_law_245 : decode cL_law 245 = .ok (.iaload, 1) := by decide +kernel
theorem dL_law_246 : decode cL_law 246 = .ok (.if_icmp .le 7, 3) := by decide +kernel
theorem dL_law_249 : decode cL_law 249 = .ok (.iload 23, 2) := by decide +kernel
theorem dL_law_251 : decode cL_law 251 = .ok (.istore 21, 2) := by decide +kernel
theorem dL_law_253 : decode cL_law 253 = .ok (.iload 23, 2) := by decide +kernel
theorem dL_law_255 : decode cL_law 255 = .ok (.iload 19, 2) := by decide +kernel
theorem dL_law_257 : decode cL_law 257 = .ok (.if_icmp .le 176, 3) := by decide +kernel
theorem dL_law_260 : decode cL_law 260 = .ok (.aload_n 3, 1) := by decide +kernel
theorem dL_law_261 : decode cL_law 261 = .ok (.iload 19, 2) := by decide +kernel
theorem dL_law_263 : decode cL_law 263 = .ok (.aaload, 1) := by decide +kernel
theorem dL_law_264 : decode cL_law 264 = .ok (.iload 23, 2) := by decide +kernel
theorem dL_law_266 : decode cL_law 266 = .ok (.iaload, 1) := by decide +kernel
theorem dL_law_267 : decode cL_law 267 = .ok (.ifCond .ne 6, 3) := by decide +kernel
theorem dL_law_270 : decode cL_law 270 = .ok (.goto 163, 3) := by decide +kernel
theorem dL_law_273 : decode cL_law 273 = .ok (.aload_n 1, 1) := by decide +kernel
theorem dL_law_274 : decode cL_law 274 = .ok (.iload 7, 2) := by decide +kernel
theorem dL_law_276 : decode cL_law 276 = .ok (.iinc 7 1, 3) := by decide +kernel
theorem dL_law_279 : decode cL_law 279 = .ok (.invokestatic 157, 3) := by decide +kernel
theorem dL_law_282 : decode cL_law 282 = .ok (.bipush 10, 2) := by decide +kernel
theorem dL_law_284 : decode cL_law 284 = .ok (.iload 19, 2) := by decide +kernel
theorem dL_law_286 : decode cL_law 286 = .ok (.imul, 1) := by decide +kernel
theorem dL_law_287 : decode cL_law 287 = .ok (.iload 23, 2) := by decide +kernel
theorem dL_law_289 : decode cL_law 289 = .ok (.iadd, 1) := by decide +kernel
theorem dL_law_290 : decode cL_law 290 = .ok (.if_icmp .eq 5, 3) := by decide +kernel
theorem dL_law_293 : decode cL_law 293 = .ok (.iconst 0, 1) := by decide +kernel
theorem dL_law_294 : decode cL_law 294 = .ok (.ireturn, 1) := by decide +kernel
theorem dL_law_295 : decode cL_law 295 = .ok (.iload 8, 2) := by decide +kernel
theorem dL_law_297 : decode cL_law 297 = .ok (.aload_n 3, 1) := by decide +kernel
theorem dL_law_298 : decode cL_law 298 = .ok (.iload 19, 2) := by decide +kernel
theorem dL_law_300 : decode cL_law 300 = .ok (.aaload, 1) := by decide +kernel
theorem dL_law_301 : decode cL_law 301 = .ok (.iload 23, 2) := by decide +kernel
theorem dL_law_303 : decode cL_law 303 = .ok (.iaload, 1) := by decide +kernel
theorem dL_law_304 : decode cL_law 304 = .ok (.iadd, 1) := by decide +kernel
theorem dL_law_305 : decode cL_law 305 = .ok (.istore 8, 2) := by decide +kernel
theorem dL_law_307 : decode cL_law 307 = .ok (.iload 9, 2) := by decide +kernel
theorem dL_law_309 : decode cL_law 309 = .ok (.iload 6, 2) := by decide +kernel
theorem dL_law_311 : decode cL_law 311 = .ok (.iload 19, 2) := by decide +kernel
theorem dL_law_313 : decode cL_law 313 = .ok (.ishr, 1) := by decide +kernel
theorem dL_law_314 : decode cL_law 314 = .ok (.iconst 1, 1) := by decide +kernel
theorem dL_law_315 : decode cL_law 315 = .ok (.iand, 1) := by decide +kernel
theorem dL_law_316 : decode cL_law 316 = .ok (.iload 6, 2) := by decide +kernel
theorem dL_law_318 : decode cL_law 318 = .ok (.iload 23, 2) := by decide +kernel
theorem dL_law_320 : decode cL_law 320 = .ok (.ishr, 1) := by decide +kernel
theorem dL_law_321 : decode cL_law 321 = .ok (.iconst 1, 1) := by decide +kernel
theorem dL_law_322 : decode cL_law 322 = .ok (.iand, 1) := by decide +kernel
theorem dL_law_323 : decode cL_law 323 = .ok (.if_icmp .eq 7, 3) := by decide +kernel
theorem dL_law_326 : decode cL_law 326 = .ok (.iconst 1, 1) := by decide +kernel
theorem dL_law_327 : decode cL_law 327 = .ok (.goto 4, 3) := by decide +kernel
theorem dL_law_330 : decode cL_law 330 = .ok (.iconst 0, 1) := by decide +kernel
theorem dL_law_331 : decode cL_law 331 = .ok (.iadd, 1) := by decide +kernel
theorem dL_law_332 : decode cL_law 332 = .ok (.istore 9, 2) := by decide +kernel
theorem dL_law_334 : decode cL_law 334 = .ok (.new 159, 3) := by decide +kernel
theorem dL_law_337 : decode cL_law 337 = .ok (.dup, 1) := by decide +kernel
theorem dL_law_338 : decode cL_law 338 = .ok (.invokespecial 161, 3) := by decide +kernel
theorem dL_law_341 : decode cL_law 341 = .ok (.aload 17, 2) := by decide +kernel
theorem dL_law_343 : decode cL_law 343 = .ok (.invokevirtual 162, 3) := by decide +kernel
theorem dL_law_346 : decode cL_law 346 = .ok (.iload 7, 2) := by decide +kernel
theorem dL_law_348 : decode cL_law 348 = .ok (.iconst 1, 1) := by decide +kernel
theorem dL_law_349 : decode cL_law 349 = .ok (.if_icmp .le 8, 3) := by decide +kernel
theorem dL_law_352 : decode cL_law 352 = .ok (.ldc 166, 2) := by decide +kernel
theorem dL_law_354 : decode cL_law 354 = .ok (.goto 5, 3) := by decide +kernel
theorem dL_law_357 : decode cL_law 357 = .ok (.ldc 155, 2) := by decide +kernel
theorem dL_law_359 : decode cL_law 359 = .ok (.invokevirtual 162, 3) := by decide +kernel
theorem dL_law_362 : decode cL_law 362 = .ok (.iload 19, 2) := by decide +kernel
theorem dL_law_364 : decode cL_law 364 = .ok (.invokevirtual 168, 3) := by decide +kernel
theorem dL_law_367 : decode cL_law 367 = .ok (.iload 23, 2) := by decide +kernel
theorem dL_law_369 : decode cL_law 369 = .ok (.invokevirtual 168, 3) := by decide +kernel
theorem dL_law_372 : decode cL_law 372 = .ok (.ldc 171, 2) := by decide +kernel
theorem dL_law_374 : decode cL_law 374 = .ok (.invokevirtual 162, 3) := by decide +kernel
theorem dL_law_377 : decode cL_law 377 = .ok (.aload_n 3, 1) := by decide +kernel
theorem dL_law_378 : decode cL_law 378 = .ok (.iload 19, 2) := by decide +kernel
theorem dL_law_380 : decode cL_law 380 = .ok (.aaload, 1) := by decide +kernel
theorem dL_law_381 : decode cL_law 381 = .ok (.iload 23, 2) := by decide +kernel
theorem dL_law_383 : decode cL_law 383 = .ok (.iaload, 1) := by decide +kernel
theorem dL_law_384 : decode cL_law 384 = .ok (.invokevirtual 168, 3) := by decide +kernel
theorem dL_law_387 : decode cL_law 387 = .ok (.invokevirtual 173, 3) := by decide +kernel
theorem dL_law_390 : decode cL_law 390 = .ok (.astore 17, 2) := by decide +kernel
theorem dL_law_392 : decode cL_law 392 = .ok (.iload 11, 2) := by decide +kernel
theorem dL_law_394 : decode cL_law 394 = .ok (.sipush (-30000), 3) := by decide +kernel
theorem dL_law_397 : decode cL_law 397 = .ok (.if_icmp .eq 26, 3) := by decide +kernel
theorem dL_law_400 : decode cL_law 400 = .ok (.aload_n 3, 1) := by decide +kernel
theorem dL_law_401 : decode cL_law 401 = .ok (.iload 19, 2) := by decide +kernel
theorem dL_law_403 : decode cL_law 403 = .ok (.aaload, 1) := by decide +kernel
theorem dL_law_404 : decode cL_law 404 = .ok (.iload 23, 2) := by decide +kernel
theorem dL_law_406 : decode cL_law 406 = .ok (.iaload, 1) := by decide +kernel
theorem dL_law_407 : decode cL_law 407 = .ok (.aload_n 3, 1) := by decide +kernel
theorem dL_law_408 : decode cL_law 408 = .ok (.iload 11, 2) := by decide +kernel
theorem dL_law_410 : decode cL_law 410 = .ok (.bipush 10, 2) := by decide +kernel
theorem dL_law_412 : decode cL_law 412 = .ok (.idiv, 1) := by decide +kernel
theorem dL_law_413 : decode cL_law 413 = .ok (.aaload, 1) := by decide +kernel
theorem dL_law_414 : decode cL_law 414 = .ok (.iload 11, 2) := by decide +kernel
theorem dL_law_416 : decode cL_law 416 = .ok (.bipush 10, 2) := by decide +kernel
theorem dL_law_418 : decode cL_law 418 = .ok (.irem, 1) := by decide +kernel
theorem dL_law_419 : decode cL_law 419 = .ok (.iaload, 1) := by decide +kernel
theorem dL_law_420 : decode cL_law 420 = .ok (.if_icmp .le 13, 3) := by decide +kernel
theorem dL_law_423 : decode cL_law 423 = .ok (.bipush 10, 2) := by decide +kernel
theorem dL_law_425 : decode cL_law 425 = .ok (.iload 19, 2) := by decide +kernel
theorem dL_law_427 : decode cL_law 427 = .ok (.imul, 1) := by decide +kernel
theorem dL_law_428 : decode cL_law 428 = .ok (.iload 23, 2) := by decide +kernel
theorem dL_law_430 : decode cL_law 430 = .ok (.iadd, 1) := by decide +kernel
theorem dL_law_431 : decode cL_law 431 = .ok (.istore 11, 2) := by decide +kernel
theorem dL_law_433 : decode cL_law 433 = .ok (.iinc 23 1, 3) := by decide +kernel
theorem dL_law_436 : decode cL_law 436 = .ok (.goto (-276), 3) := by decide +kernel
theorem dL_law_439 : decode cL_law 439 = .ok (.iconst 0, 1) := by decide +kernel
theorem dL_law_440 : decode cL_law 440 = .ok (.istore 23, 2) := by decide +kernel
theorem dL_law_442 : decode cL_law 442 = .ok (.iload 23, 2) := by decide +kernel
theorem dL_law_444 : decode cL_law 444 = .ok (.iload 4, 2) := by decide +kernel
theorem dL_law_446 : decode cL_law 446 = .ok (.if_icmp .ge 47, 3) := by decide +kernel
theorem dL_law_449 : decode cL_law 449 = .ok (.iconst 0, 1) := by decide +kernel
theorem dL_law_450 : decode cL_law 450 = .ok (.istore 24, 2) := by decide +kernel
theorem dL_law_452 : decode cL_law 452 = .ok (.iload 24, 2) := by decide +kernel
theorem dL_law_454 : decode cL_law 454 = .ok (.iload 4, 2) := by decide +kernel
theorem dL_law_456 : decode cL_law 456 = .ok (.if_icmp .ge 31, 3) := by decide +kernel
theorem dL_law_459 : decode cL_law 459 = .ok (.aload_n 3, 1) := by decide +kernel
theorem dL_law_460 : decode cL_law 460 = .ok (.iconst 1, 1) := by decide +kernel
theorem dL_law_461 : decode cL_law 461 = .ok (.iload 24, 2) := by decide +kernel
theorem dL_law_463 : decode cL_law 463 = .ok (.ishl, 1) := by decide +kernel
theorem dL_law_464 : decode cL_law 464 = .ok (.iload 22, 2) := by decide +kernel
theorem dL_law_466 : decode cL_law 466 = .ok (.invokestatic 117, 3) := by decide +kernel
theorem dL_law_469 : decode cL_law 469 = .ok (.ifCond .le 12, 3) := by decide +kernel
theorem dL_law_472 : decode cL_law 472 = .ok (.iload 22, 2) := by decide +kernel
theorem dL_law_474 : decode cL_law 474 = .ok (.iconst 1, 1) := by decide +kernel
theorem dL_law_475 : decode cL_law 475 = .ok (.iload 24, 2) := by decide +kernel
theorem dL_law_477 : decode cL_law 477 = .ok (.ishl, 1) := by decide +kernel
theorem dL_law_478 : decode cL_law 478 = .ok (.ior, 1) := by decide +kernel
theorem dL_law_479 : decode cL_law 479 = .ok (.istore 22, 2) := by decide +kernel
theorem dL_law_481 : decode cL_law 481 = .ok (.iinc 24 1, 3) := by decide +kernel
theorem dL_law_484 : decode cL_law 484 = .ok (.goto (-32), 3) := by decide +kernel
theorem dL_law_487 : decode cL_law 487 = .ok (.iinc 23 1, 3) := by decide +kernel
theorem dL_law_490 : decode cL_law 490 = .ok (.goto (-48), 3) := by decide +kernel
theorem dL_law_493 : decode cL_law 493 = .ok (.iload 10, 2) := by decide +kernel
theorem dL_law_495 : decode cL_law 495 = .ok (.iload 20, 2) := by decide +kernel
theorem dL_law_497 : decode cL_law 497 = .ok (.ifCond .ne 7, 3) := by decide +kernel
theorem dL_law_500 : decode cL_law 500 = .ok (.iconst 1, 1) := by decide +kernel
theorem dL_law_501 : decode cL_law 501 = .ok (.goto 4, 3) := by decide +kernel
theorem dL_law_504 : decode cL_law 504 = .ok (.iconst 0, 1) := by decide +kernel
theorem dL_law_505 : decode cL_law 505 = .ok (.iadd, 1) := by decide +kernel
theorem dL_law_506 : decode cL_law 506 = .ok (.istore 10, 2) := by decide +kernel
theorem dL_law_508 : decode cL_law 508 = .ok (.iload 12, 2) := by decide +kernel
theorem dL_law_510 : decode cL_law 510 = .ok (.iload 22, 2) := by decide +kernel
theorem dL_law_512 : decode cL_law 512 = .ok (.iload 22, 2) := by decide +kernel
theorem dL_law_514 : decode cL_law 514 = .ok (.ineg, 1) := by decide +kernel
theorem dL_law_515 : decode cL_law 515 = .ok (.iand, 1) := by decide +kernel
theorem dL_law_516 : decode cL_law 516 = .ok (.iconst 1, 1) := by decide +kernel
theorem dL_law_517 : decode cL_law 517 = .ok (.iload 19, 2) := by decide +kernel
theorem dL_law_519 : decode cL_law 519 = .ok (.ishl, 1) := by decide +kernel
theorem dL_law_520 : decode cL_law 520 = .ok (.if_icmp .ne 7, 3) := by decide +kernel
theorem dL_law_523 : decode cL_law 523 = .ok (.iconst 1, 1) := by decide +kernel
theorem dL_law_524 : decode cL_law 524 = .ok (.goto 4, 3) := by decide +kernel
theorem dL_law_527 : decode cL_law 527 = .ok (.iconst 0, 1) := by decide +kernel
theorem dL_law_528 : decode cL_law 528 = .ok (.iadd, 1) := by decide +kernel
theorem dL_law_529 : decode cL_law 529 = .ok (.istore 12, 2) := by decide +kernel
theorem dL_law_531 : decode cL_law 531 = .ok (.iload 6, 2) := by decide +kernel
theorem dL_law_533 : decode cL_law 533 = .ok (.iload 19, 2) := by decide +kernel
theorem dL_law_535 : decode cL_law 535 = .ok (.ishr, 1) := by decide +kernel
theorem dL_law_536 : decode cL_law 536 = .ok (.iconst 1, 1) := by decide +kernel
theorem dL_law_537 : decode cL_law 537 = .ok (.iand, 1) := by decide +kernel
theorem dL_law_538 : decode cL_law 538 = .ok (.iconst 1, 1) := by decide +kernel
theorem dL_law_539 : decode cL_law 539 = .ok (.if_icmp .ne 8, 3) := by decide +kernel
theorem dL_law_542 : decode cL_law 542 = .ok (.iload 6, 2) := by decide +kernel
theorem dL_law_544 : decode cL_law 544 = .ok (.goto 10, 3) := by decide +kernel
theorem dL_law_547 : decode cL_law 547 = .ok (.iload 5, 2) := by decide +kernel
theorem dL_law_549 : decode cL_law 549 = .ok (.iload 6, 2) := by decide +kernel
theorem dL_law_551 : decode cL_law 551 = .ok (.iconst (-1), 1) := by decide +kernel
theorem dL_law_552 : decode cL_law 552 = .ok (.ixor, 1) := by decide +kernel
theorem dL_law_553 : decode cL_law 553 = .ok (.iand, 1) := by decide +kernel
theorem dL_law_554 : decode cL_law 554 = .ok (.istore 23, 2) := by decide +kernel
theorem dL_law_556 : decode cL_law 556 = .ok (.aload_n 3, 1) := by decide +kernel
theorem dL_law_557 : decode cL_law 557 = .ok (.iload 6, 2) := by decide +kernel
theorem dL_law_559 : decode cL_law 559 = .ok (.iconst 1, 1) := by decide +kernel
theorem dL_law_560 : decode cL_law 560 = .ok (.iload 19, 2) := by decide +kernel
theorem dL_law_562 : decode cL_law 562 = .ok (.ishl, 1) := by decide +kernel
theorem dL_law_563 : decode cL_law 563 = .ok (.ixor, 1) := by decide +kernel
theorem dL_law_564 : decode cL_law 564 = .ok (.invokestatic 122, 3) := by decide +kernel
theorem dL_law_567 : decode cL_law 567 = .ok (.istore 24, 2) := by decide +kernel
theorem dL_law_569 : decode cL_law 569 = .ok (.aload_n 1, 1) := by decide +kernel
theorem dL_law_570 : decode cL_law 570 = .ok (.iload 19, 2) := by decide +kernel
theorem dL_law_572 : decode cL_law 572 = .ok (.iconst 1, 1) := by decide +kernel
theorem dL_law_573 : decode cL_law 573 = .ok (.invokevirtual 150, 3) := by decide +kernel
theorem dL_law_576 : decode cL_law 576 = .ok (.iload 20, 2) := by decide +kernel
theorem dL_law_578 : decode cL_law 578 = .ok (.if_icmp .ne 102, 3) := by decide +kernel
theorem dL_law_581 : decode cL_law 581 = .ok (.aload_n 1, 1) := by decide +kernel
theorem dL_law_582 : decode cL_law 582 = .ok (.iload 19, 2) := by decide +kernel
theorem dL_law_584 : decode cL_law 584 = .ok (.iconst 2, 1) := by decide +kernel
theorem dL_law_585 : decode cL_law 585 = .ok (.invokevirtual 150, 3) := by decide +kernel
theorem dL_law_588 : decode cL_law 588 = .ok (.aload_n 3, 1) := by decide +kernel
theorem dL_law_589 : decode cL_law 589 = .ok (.iconst 1, 1) := by decide +kernel
theorem dL_law_590 : decode cL_law 590 = .ok (.iload 19, 2) := by decide +kernel
theorem dL_law_592 : decode cL_law 592 = .ok (.ishl, 1) := by decide +kernel
theorem dL_law_593 : decode cL_law 593 = .ok (.iload 5, 2) := by decide +kernel
theorem dL_law_595 : decode cL_law 595 = .ok (.invokestatic 117, 3) := by decide +kernel
theorem dL_law_598 : decode cL_law 598 = .ok (.if_icmp .ne 82, 3) := by decide +kernel
theorem dL_law_601 : decode cL_law 601 = .ok (.aload_n 1, 1) := by decide +kernel
theorem dL_law_602 : decode cL_law 602 = .ok (.iload 19, 2) := by decide +kernel
theorem dL_law_604 : decode cL_law 604 = .ok (.iconst 3, 1) := by decide +kernel
theorem dL_law_605 : decode cL_law 605 = .ok (.invokevirtual 150, 3) := by decide +kernel
theorem dL_law_608 : decode cL_law 608 = .ok (.aload_n 3, 1) := by decide +kernel
theorem dL_law_609 : decode cL_law 609 = .ok (.iconst 1, 1) := by decide +kernel
theorem dL_law_610 : decode cL_law 610 = .ok (.iload 19, 2) := by decide +kernel
theorem dL_law_612 : decode cL_law 612 = .ok (.ishl, 1) := by decide +kernel
theorem dL_law_613 : decode cL_law 613 = .ok (.iload 23, 2) := by decide +kernel
theorem dL_law_615 : decode cL_law 615 = .ok (.invokestatic 117, 3) := by decide +kernel
theorem dL_law_618 : decode cL_law 618 = .ok (.if_icmp .ne 62, 3) := by decide +kernel
theorem dL_law_621 : decode cL_law 621 = .ok (.aload_n 1, 1) := by decide +kernel
theorem dL_law_622 : decode cL_law 622 = .ok (.iload 19, 2) := by decide +kernel
theorem dL_law_624 : decode cL_law 624 = .ok (.iconst 4, 1) := by decide +kernel
theorem dL_law_625 : decode cL_law 625 = .ok (.invokevirtual 150, 3) := by decide +kernel
theorem dL_law_628 : decode cL_law 628 = .ok (.aload_n 3, 1) := by decide +kernel
theorem dL_law_629 : decode cL_law 629 = .ok (.iconst 1, 1) := by decide +kernel
theorem dL_law_630 : decode cL_law 630 = .ok (.iload 19, 2) := by decide +kernel
theorem dL_law_632 : decode cL_law 632 = .ok (.ishl, 1) := by decide +kernel
theorem dL_law_633 : decode cL_law 633 = .ok (.iload 5, 2) := by decide +kernel
theorem dL_law_635 : decode cL_law 635 = .ok (.iload 23, 2) := by decide +kernel
theorem dL_law_637 : decode cL_law 637 = .ok (.iconst (-1), 1) := by decide +kernel
theorem dL_law_638 : decode cL_law 638 = .ok (.ixor, 1) := by decide +kernel
theorem dL_law_639 : decode cL_law 639 = .ok (.iand, 1) := by decide +kernel
theorem dL_law_640 : decode cL_law 640 = .ok (.invokestatic 117, 3) := by decide +kernel
theorem dL_law_643 : decode cL_law 643 = .ok (.if_icmp .ne 37, 3) := by decide +kernel
theorem dL_law_646 : decode cL_law 646 = .ok (.aload_n 1, 1) := by decide +kernel
theorem dL_law_647 : decode cL_law 647 = .ok (.iload 19, 2) := by decide +kernel
theorem dL_law_649 : decode cL_law 649 = .ok (.iconst 5, 1) := by decide +kernel
theorem dL_law_650 : decode cL_law 650 = .ok (.invokevirtual 150, 3) := by decide +kernel
theorem dL_law_653 : decode cL_law 653 = .ok (.iload 21, 2) := by decide +kernel
theorem dL_law_655 : decode cL_law 655 = .ok (.if_icmp .ne 25, 3) := by decide +kernel
theorem dL_law_658 : decode cL_law 658 = .ok (.aload_n 1, 1) := by decide +kernel
theorem dL_law_659 : decode cL_law 659 = .ok (.iload 19, 2) := by decide +kernel
theorem dL_law_661 : decode cL_law 661 = .ok (.invokevirtual 177, 3) := by decide +kernel
theorem dL_law_664 : decode cL_law 664 = .ok (.iload 22, 2) := by decide +kernel
theorem dL_law_666 : decode cL_law 666 = .ok (.if_icmp .ne 14, 3) := by decide +kernel
theorem dL_law_669 : decode cL_law 669 = .ok (.aload_n 1, 1) := by decide +kernel
theorem dL_law_670 : decode cL_law 670 = .ok (.iload 19, 2) := by decide +kernel
theorem dL_law_672 : decode cL_law 672 = .ok (.invokevirtual 180, 3) := by decide +kernel
theorem dL_law_675 : decode cL_law 675 = .ok (.iload 24, 2) := by decide +kernel
theorem dL_law_677 : decode cL_law 677 = .ok (.if_icmp .eq 5, 3) := by decide +kernel
theorem dL_law_680 : decode cL_law 680 = .ok (.iconst 0, 1) := by decide +kernel
theorem dL_law_681 : decode cL_law 681 = .ok (.ireturn, 1) := by decide +kernel
theorem dL_law_682 : decode cL_law 682 = .ok (.iload 16, 2) := by decide +kernel
theorem dL_law_684 : decode cL_law 684 = .ok (.sipush (-30000), 3) := by decide +kernel
theorem dL_law_687 : decode cL_law 687 = .ok (.if_icmp .eq 19, 3) := by decide +kernel
theorem dL_law_690 : decode cL_law 690 = .ok (.iload 24, 2) := by decide +kernel
theorem dL_law_692 : decode cL_law 692 = .ok (.aload_n 3, 1) := by decide +kernel
theorem dL_law_693 : decode cL_law 693 = .ok (.iload 6, 2) := by decide +kernel
theorem dL_law_695 : decode cL_law 695 = .ok (.iconst 1, 1) := by decide +kernel
theorem dL_law_696 : decode cL_law 696 = .ok (.iload 16, 2) := by decide +kernel
theorem dL_law_698 : decode cL_law 698 = .ok (.ishl, 1) := by decide +kernel
theorem dL_law_699 : decode cL_law 699 = .ok (.ixor, 1) := by decide +kernel
theorem dL_law_700 : decode cL_law 700 = .ok (.invokestatic 122, 3) := by decide +kernel
theorem dL_law_703 : decode cL_law 703 = .ok (.if_icmp .ge 7, 3) := by decide +kernel
theorem dL_law_706 : decode cL_law 706 = .ok (.iload 19, 2) := by decide +kernel
theorem dL_law_708 : decode cL_law 708 = .ok (.istore 16, 2) := by decide +kernel
theorem dL_law_710 : decode cL_law 710 = .ok (.iconst 0, 1) := by decide +kernel
theorem dL_law_711 : decode cL_law 711 = .ok (.istore 25, 2) := by decide +kernel
theorem dL_law_713 : decode cL_law 713 = .ok (.iload 25, 2) := by decide +kernel
theorem dL_law_715 : decode cL_law 715 = .ok (.iload 19, 2) := by decide +kernel
theorem dL_law_717 : decode cL_law 717 = .ok (.if_icmp .ge 54, 3) := by decide +kernel
theorem dL_law_720 : decode cL_law 720 = .ok (.aload_n 3, 1) := by decide +kernel
theorem dL_law_721 : decode cL_law 721 = .ok (.iload 19, 2) := by decide +kernel
theorem dL_law_723 : decode cL_law 723 = .ok (.iload 25, 2) := by decide +kernel
theorem dL_law_725 : decode cL_law 725 = .ok (.invokestatic 153, 3) := by decide +kernel
theorem dL_law_728 : decode cL_law 728 = .ok (.istore 26, 2) := by decide +kernel
theorem dL_law_730 : decode cL_law 730 = .ok (.aload_n 1, 1) := by decide +kernel
theorem dL_law_731 : decode cL_law 731 = .ok (.iload 19, 2) := by decide +kernel
theorem dL_law_733 : decode cL_law 733 = .ok (.iload 25, 2) := by decide +kernel
theorem dL_law_735 : decode cL_law 735 = .ok (.invokevirtual 183, 3) := by decide +kernel
theorem dL_law_738 : decode cL_law 738 = .ok (.iload 26, 2) := by decide +kernel
theorem dL_law_740 : decode cL_law 740 = .ok (.if_icmp .ne 23, 3) := by decide +kernel
theorem dL_law_743 : decode cL_law 743 = .ok (.aload_n 1, 1) := by decide +kernel
theorem dL_law_744 : decode cL_law 744 = .ok (.iload 25, 2) := by decide +kernel
theorem dL_law_746 : decode cL_law 746 = .ok (.iload 19, 2) := by decide +kernel
theorem dL_law_748 : decode cL_law 748 = .ok (.invokevirtual 186, 3) := by decide +kernel
theorem dL_law_751 : decode cL_law 751 = .ok (.iload 26, 2) := by decide +kernel
theorem dL_law_753 : decode cL_law 753 = .ok (.if_icmp .ne 10, 3) := by decide +kernel
theorem dL_law_756 : decode cL_law 756 = .ok (.iload 26, 2) := by decide +kernel
theorem dL_law_758 : decode cL_law 758 = .ok (.iload 14, 2) := by decide +kernel
theorem dL_law_760 : decode cL_law 760 = .ok (.if_icmp .ge 5, 3) := by decide +kernel
theorem dL_law_763 : decode cL_law 763 = .ok (.iconst 0, 1) := by decide +kernel
theorem dL_law_764 : decode cL_law 764 = .ok (.ireturn, 1) := by decide +kernel
theorem dL_law_765 : decode cL_law 765 = .ok (.iinc 25 1, 3) := by decide +kernel
theorem dL_law_768 : decode cL_law 768 = .ok (.goto (-55), 3) := by decide +kernel
theorem dL_law_771 : decode cL_law 771 = .ok (.iinc 19 1, 3) := by decide +kernel
theorem dL_law_774 : decode cL_law 774 = .ok (.goto (-636), 3) := by decide +kernel
theorem dL_law_777 : decode cL_law 777 = .ok (.iconst 0, 1) := by decide +kernel
theorem dL_law_778 : decode cL_law 778 = .ok (.istore 19, 2) := by decide +kernel
theorem dL_law_780 : decode cL_law 780 = .ok (.iload 19, 2) := by decide +kernel
theorem dL_law_782 : decode cL_law 782 = .ok (.iconst 2, 1) := by decide +kernel
theorem dL_law_783 : decode cL_law 783 = .ok (.if_icmp .ge 114, 3) := by decide +kernel
theorem dL_law_786 : decode cL_law 786 = .ok (.iconst 0, 1) := by decide +kernel
theorem dL_law_787 : decode cL_law 787 = .ok (.istore 20, 2) := by decide +kernel
theorem dL_law_789 : decode cL_law 789 = .ok (.iload 20, 2) := by decide +kernel
theorem dL_law_791 : decode cL_law 791 = .ok (.iload 4, 2) := by decide +kernel
theorem dL_law_793 : decode cL_law 793 = .ok (.if_icmp .ge 66, 3) := by decide +kernel
theorem dL_law_796 : decode cL_law 796 = .ok (.new 159, 3) := by decide +kernel
theorem dL_law_799 : decode cL_law 799 = .ok (.dup, 1) := by decide +kernel
theorem dL_law_800 : decode cL_law 800 = .ok (.invokespecial 161, 3) := by decide +kernel
theorem dL_law_803 : decode cL_law 803 = .ok (.aload 18, 2) := by decide +kernel
theorem dL_law_805 : decode cL_law 805 = .ok (.invokevirtual 162, 3) := by decide +kernel
theorem dL_law_808 : decode cL_law 808 = .ok (.iload 6, 2) := by decide +kernel
theorem dL_law_810 : decode cL_law 810 = .ok (.iload 20, 2) := by decide +kernel
theorem dL_law_812 : decode cL_law 812 = .ok (.ishr, 1) := by decide +kernel
theorem dL_law_813 : decode cL_law 813 = .ok (.iconst 1, 1) := by decide +kernel
theorem dL_law_814 : decode cL_law 814 = .ok (.iand, 1) := by decide +kernel
theorem dL_law_815 : decode cL_law 815 = .ok (.iload 19, 2) := by decide +kernel
theorem dL_law_817 : decode cL_law 817 = .ok (.if_icmp .ne 26, 3) := by decide +kernel
theorem dL_law_820 : decode cL_law 820 = .ok (.new 159, 3) := by decide +kernel
theorem dL_law_823 : decode cL_law 823 = .ok (.dup, 1) := by decide +kernel
theorem dL_law_824 : decode cL_law 824 = .ok (.invokespecial 161, 3) := by decide +kernel
theorem dL_law_827 : decode cL_law 827 = .ok (.ldc 155, 2) := by decide +kernel
theorem dL_law_829 : decode cL_law 829 = .ok (.invokevirtual 162, 3) := by decide +kernel
theorem dL_law_832 : decode cL_law 832 = .ok (.iload 20, 2) := by decide +kernel
theorem dL_law_834 : decode cL_law 834 = .ok (.invokevirtual 168, 3) := by decide +kernel
theorem dL_law_837 : decode cL_law 837 = .ok (.invokevirtual 173, 3) := by decide +kernel
theorem dL_law_840 : decode cL_law 840 = .ok (.goto 5, 3) := by decide +kernel
theorem dL_law_843 : decode cL_law 843 = .ok (.ldc 155, 2) := by decide +kernel
theorem dL_law_845 : decode cL_law 845 = .ok (.invokevirtual 162, 3) := by decide +kernel
theorem dL_law_848 : decode cL_law 848 = .ok (.invokevirtual 173, 3) := by decide +kernel
theorem dL_law_851 : decode cL_law 851 = .ok (.astore 18, 2) := by decide +kernel
theorem dL_law_853 : decode cL_law 853 = .ok (.iinc 20 1, 3) := by decide +kernel
theorem dL_law_856 : decode cL_law 856 = .ok (.goto (-67), 3) := by decide +kernel
theorem dL_law_859 : decode cL_law 859 = .ok (.new 159, 3) := by decide +kernel
theorem dL_law_862 : decode cL_law 862 = .ok (.dup, 1) := by decide +kernel
theorem dL_law_863 : decode cL_law 863 = .ok (.invokespecial 161, 3) := by decide +kernel
theorem dL_law_866 : decode cL_law 866 = .ok (.aload 18, 2) := by decide +kernel
theorem dL_law_868 : decode cL_law 868 = .ok (.invokevirtual 162, 3) := by decide +kernel
theorem dL_law_871 : decode cL_law 871 = .ok (.iload 19, 2) := by decide +kernel
theorem dL_law_873 : decode cL_law 873 = .ok (.ifCond .ne 8, 3) := by decide +kernel
theorem dL_law_876 : decode cL_law 876 = .ok (.ldc 189, 2) := by decide +kernel
theorem dL_law_878 : decode cL_law 878 = .ok (.goto 5, 3) := by decide +kernel
theorem dL_law_881 : decode cL_law 881 = .ok (.ldc 155, 2) := by decide +kernel
theorem dL_law_883 : decode cL_law 883 = .ok (.invokevirtual 162, 3) := by decide +kernel
theorem dL_law_886 : decode cL_law 886 = .ok (.invokevirtual 173, 3) := by decide +kernel
theorem dL_law_889 : decode cL_law 889 = .ok (.astore 18, 2) := by decide +kernel
theorem dL_law_891 : decode cL_law 891 = .ok (.iinc 19 1, 3) := by decide +kernel
theorem dL_law_894 : decode cL_law 894 = .ok (.goto (-114), 3) := by decide +kernel
theorem dL_law_897 : decode cL_law 897 = .ok (.iconst 2, 1) := by decide +kernel
theorem dL_law_898 : decode cL_law 898 = .ok (.istore 19, 2) := by decide +kernel
theorem dL_law_900 : decode cL_law 900 = .ok (.iload 19, 2) := by decide +kernel
theorem dL_law_902 : decode cL_law 902 = .ok (.iload 5, 2) := by decide +kernel
theorem dL_law_904 : decode cL_law 904 = .ok (.if_icmp .gt 30, 3) := by decide +kernel
theorem dL_law_907 : decode cL_law 907 = .ok (.iload 15, 2) := by decide +kernel
theorem dL_law_909 : decode cL_law 909 = .ok (.aload_n 3, 1) := by decide +kernel
theorem dL_law_910 : decode cL_law 910 = .ok (.iload 19, 2) := by decide +kernel
theorem dL_law_912 : decode cL_law 912 = .ok (.invokestatic 122, 3) := by decide +kernel
theorem dL_law_915 : decode cL_law 915 = .ok (.iload 14, 2) := by decide +kernel
theorem dL_law_917 : decode cL_law 917 = .ok (.if_icmp .ne 7, 3) := by decide +kernel
theorem dL_law_920 : decode cL_law 920 = .ok (.iconst 1, 1) := by decide +kernel
theorem dL_law_921 : decode cL_law 921 = .ok (.goto 4, 3) := by decide +kernel
theorem dL_law_924 : decode cL_law 924 = .ok (.iconst 0, 1) := by decide +kernel
theorem dL_law_925 : decode cL_law 925 = .ok (.iadd, 1) := by decide +kernel
theorem dL_law_926 : decode cL_law 926 = .ok (.istore 15, 2) := by decide +kernel
theorem dL_law_928 : decode cL_law 928 = .ok (.iinc 19 2, 3) := by decide +kernel
theorem dL_law_931 : decode cL_law 931 = .ok (.goto (-31), 3) := by decide +kernel
theorem dL_law_934 : decode cL_law 934 = .ok (.aload_n 1, 1) := by decide +kernel
theorem dL_law_935 : decode cL_law 935 = .ok (.aload_n 1, 1) := by decide +kernel
theorem dL_law_936 : decode cL_law 936 = .ok (.invokevirtual 191, 3) := by decide +kernel
theorem dL_law_939 : decode cL_law 939 = .ok (.aload 17, 2) := by decide +kernel
theorem dL_law_941 : decode cL_law 941 = .ok (.invokestatic 194, 3) := by decide +kernel
theorem dL_law_944 : decode cL_law 944 = .ok (.ifCond .eq 240, 3) := by decide +kernel
theorem dL_law_947 : decode cL_law 947 = .ok (.aload_n 1, 1) := by decide +kernel
theorem dL_law_948 : decode cL_law 948 = .ok (.aload_n 1, 1) := by decide +kernel
theorem dL_law_949 : decode cL_law 949 = .ok (.invokevirtual 198, 3) := by decide +kernel
theorem dL_law_952 : decode cL_law 952 = .ok (.aload 18, 2) := by decide +kernel
theorem dL_law_954 : decode cL_law 954 = .ok (.invokestatic 194, 3) := by decide +kernel
theorem dL_law_957 : decode cL_law 957 = .ok (.ifCond .eq 227, 3) := by decide +kernel
theorem dL_law_960 : decode cL_law 960 = .ok (.aload_n 1, 1) := by decide +kernel
theorem dL_law_961 : decode cL_law 961 = .ok (.iload 7, 2) := by decide +kernel
theorem dL_law_963 : decode cL_law 963 = .ok (.invokestatic 157, 3) := by decide +kernel
theorem dL_law_966 : decode cL_law 966 = .ok (.sipush (-30000), 3) := by decide +kernel
theorem dL_law_969 : decode cL_law 969 = .ok (.if_icmp .ne 215, 3) := by decide +kernel
theorem dL_law_972 : decode cL_law 972 = .ok (.aload_n 1, 1) := by decide +kernel
theorem dL_law_973 : decode cL_law 973 = .ok (.invokestatic 201, 3) := by decide +kernel
theorem dL_law_976 : decode cL_law 976 = .ok (.iload 11, 2) := by decide +kernel
theorem dL_law_978 : decode cL_law 978 = .ok (.if_icmp .ne 206, 3) := by decide +kernel
theorem dL_law_981 : decode cL_law 981 = .ok (.aload_n 1, 1) := by decide +kernel
theorem dL_law_982 : decode cL_law 982 = .ok (.invokevirtual 203, 3) := by decide +kernel
theorem dL_law_985 : decode cL_law 985 = .ok (.iload 13, 2) := by decide +kernel
theorem dL_law_987 : decode cL_law 987 = .ok (.if_icmp .ne 197, 3) := by decide +kernel
theorem dL_law_990 : decode cL_law 990 = .ok (.aload_n 1, 1) := by decide +kernel
theorem dL_law_991 : decode cL_law 991 = .ok (.invokevirtual 205, 3) := by decide +kernel
theorem dL_law_994 : decode cL_law 994 = .ok (.iload 13, 2) := by decide +kernel
theorem dL_law_996 : decode cL_law 996 = .ok (.if_icmp .ne 188, 3) := by decide +kernel
theorem dL_law_999 : decode cL_law 999 = .ok (.aload_n 1, 1) := by decide +kernel
theorem dL_law_1000 : decode cL_law 1000 = .ok (.invokestatic 208, 3) := by decide +kernel
theorem dL_law_1003 : decode cL_law 1003 = .ok (.iload 14, 2) := by decide +kernel
theorem dL_law_1005 : decode cL_law 1005 = .ok (.if_icmp .ne 179, 3) := by decide +kernel
theorem dL_law_1008 : decode cL_law 1008 = .ok (.aload_n 1, 1) := by decide +kernel
theorem dL_law_1009 : decode cL_law 1009 = .ok (.invokestatic 210, 3) := by decide +kernel
theorem dL_law_1012 : decode cL_law 1012 = .ok (.iload 14, 2) := by decide +kernel
theorem dL_law_1014 : decode cL_law 1014 = .ok (.if_icmp .ne 170, 3) := by decide +kernel
theorem dL_law_1017 : decode cL_law 1017 = .ok (.aload_n 1, 1) := by decide +kernel
theorem dL_law_1018 : decode cL_law 1018 = .ok (.invokestatic 212, 3) := by decide +kernel
theorem dL_law_1021 : decode cL_law 1021 = .ok (.iload 4, 2) := by decide +kernel
theorem dL_law_1023 : decode cL_law 1023 = .ok (.iconst 1, 1) := by decide +kernel
theorem dL_law_1024 : decode cL_law 1024 = .ok (.if_icmp .le 8, 3) := by decide +kernel
theorem dL_law_1027 : decode cL_law 1027 = .ok (.iload 15, 2) := by decide +kernel
theorem dL_law_1029 : decode cL_law 1029 = .ok (.goto 6, 3) := by decide +kernel
theorem dL_law_1032 : decode cL_law 1032 = .ok (.sipush (-30000), 3) := by decide +kernel
theorem dL_law_1035 : decode cL_law 1035 = .ok (.if_icmp .ne 149, 3) := by decide +kernel
theorem dL_law_1038 : decode cL_law 1038 = .ok (.aload_n 1, 1) := by decide +kernel
theorem dL_law_1039 : decode cL_law 1039 = .ok (.invokestatic 214, 3) := by decide +kernel
theorem dL_law_1042 : decode cL_law 1042 = .ok (.iload 16, 2) := by decide +kernel
theorem dL_law_1044 : decode cL_law 1044 = .ok (.if_icmp .ne 140, 3) := by decide +kernel
theorem dL_law_1047 : decode cL_law 1047 = .ok (.aload_n 1, 1) := by decide +kernel
theorem dL_law_1048 : decode cL_law 1048 = .ok (.invokevirtual 216, 3) := by decide +kernel
theorem dL_law_1051 : decode cL_law 1051 = .ok (.iload 12, 2) := by decide +kernel
theorem dL_law_1053 : decode cL_law 1053 = .ok (.if_icmp .ne 131, 3) := by decide +kernel
theorem dL_law_1056 : decode cL_law 1056 = .ok (.aload_n 1, 1) := by decide +kernel
theorem dL_law_1057 : decode cL_law 1057 = .ok (.iconst 1, 1) := by decide +kernel
theorem dL_law_1058 : decode cL_law 1058 = .ok (.invokevirtual 92, 3) := by decide +kernel
theorem dL_law_1061 : decode cL_law 1061 = .ok (.iload 7, 2) := by decide +kernel
theorem dL_law_1063 : decode cL_law 1063 = .ok (.if_icmp .ne 121, 3) := by decide +kernel
theorem dL_law_1066 : decode cL_law 1066 = .ok (.aload_n 1, 1) := by decide +kernel
theorem dL_law_1067 : decode cL_law 1067 = .ok (.iconst 2, 1) := by decide +kernel
theorem dL_law_1068 : decode cL_law 1068 = .ok (.invokevirtual 92, 3) := by decide +kernel
theorem dL_law_1071 : decode cL_law 1071 = .ok (.iload 8, 2) := by decide +kernel
theorem dL_law_1073 : decode cL_law 1073 = .ok (.if_icmp .ne 111, 3) := by decide +kernel
theorem dL_law_1076 : decode cL_law 1076 = .ok (.aload_n 1, 1) := by decide +kernel
theorem dL_law_1077 : decode cL_law 1077 = .ok (.iconst 3, 1) := by decide +kernel
theorem dL_law_1078 : decode cL_law 1078 = .ok (.invokevirtual 92, 3) := by decide +kernel
theorem dL_law_1081 : decode cL_law 1081 = .ok (.iload 6, 2) := by decide +kernel
theorem dL_law_1083 : decode cL_law 1083 = .ok (.invokestatic 219, 3) := by decide +kernel
theorem dL_law_1086 : decode cL_law 1086 = .ok (.if_icmp .ne 98, 3) := by decide +kernel
theorem dL_law_1089 : decode cL_law 1089 = .ok (.aload_n 1, 1) := by decide +kernel
theorem dL_law_1090 : decode cL_law 1090 = .ok (.iconst 4, 1) := by decide +kernel
theorem dL_law_1091 : decode cL_law 1091 = .ok (.invokevirtual 92, 3) := by decide +kernel
theorem dL_law_1094 : decode cL_law 1094 = .ok (.iload 9, 2) := by decide +kernel
theorem dL_law_1096 : decode cL_law 1096 = .ok (.if_icmp .ne 88, 3) := by decide +kernel
theorem dL_law_1099 : decode cL_law 1099 = .ok (.aload_n 1, 1) := by decide +kernel
theorem dL_law_1100 : decode cL_law 1100 = .ok (.iconst 5, 1) := by decide +kernel
theorem dL_law_1101 : decode cL_law 1101 = .ok (.invokevirtual 92, 3) := by decide +kernel
theorem dL_law_1104 : decode cL_law 1104 = .ok (.iload 4, 2) := by decide +kernel
theorem dL_law_1106 : decode cL_law 1106 = .ok (.aload_n 1, 1) := by decide +kernel
theorem dL_law_1107 : decode cL_law 1107 = .ok (.bipush 6, 2) := by decide +kernel
theorem dL_law_1109 : decode cL_law 1109 = .ok (.invokevirtual 92, 3) := by decide +kernel
theorem dL_law_1112 : decode cL_law 1112 = .ok (.iadd, 1) := by decide +kernel
theorem dL_law_1113 : decode cL_law 1113 = .ok (.if_icmp .ne 71, 3) := by decide +kernel
theorem dL_law_1116 : decode cL_law 1116 = .ok (.aload_n 1, 1) := by decide +kernel
theorem dL_law_1117 : decode cL_law 1117 = .ok (.bipush 7, 2) := by decide +kernel
theorem dL_law_1119 : decode cL_law 1119 = .ok (.invokevirtual 92, 3) := by decide +kernel
theorem dL_law_1122 : decode cL_law 1122 = .ok (.aload_n 1, 1) := by decide +kernel
theorem dL_law_1123 : decode cL_law 1123 = .ok (.bipush 6, 2) := by decide +kernel
theorem dL_law_1125 : decode cL_law 1125 = .ok (.invokevirtual 92, 3) := by decide +kernel
theorem dL_law_1128 : decode cL_law 1128 = .ok (.if_icmp .gt 56, 3) := by decide +kernel
theorem dL_law_1131 : decode cL_law 1131 = .ok (.aload_n 1, 1) := by decide +kernel
theorem dL_law_1132 : decode cL_law 1132 = .ok (.bipush 8, 2) := by decide +kernel
theorem dL_law_1134 : decode cL_law 1134 = .ok (.invokevirtual 92, 3) := by decide +kernel
theorem dL_law_1137 : decode cL_law 1137 = .ok (.iload 10, 2) := by decide +kernel
theorem dL_law_1139 : decode cL_law 1139 = .ok (.if_icmp .ne 45, 3) := by decide +kernel
theorem dL_law_1142 : decode cL_law 1142 = .ok (.aload_n 1, 1) := by decide +kernel
theorem dL_law_1143 : decode cL_law 1143 = .ok (.invokevirtual 224, 3) := by decide +kernel
theorem dL_law_1146 : decode cL_law 1146 = .ok (.ifCond .eq 38, 3) := by decide +kernel
theorem dL_law_1149 : decode cL_law 1149 = .ok (.iload 7, 2) := by decide +kernel
theorem dL_law_1151 : decode cL_law 1151 = .ok (.ifCond .le 35, 3) := by decide +kernel
theorem dL_law_1154 : decode cL_law 1154 = .ok (.aload_n 1, 1) := by decide +kernel
theorem dL_law_1155 : decode cL_law 1155 = .ok (.invokevirtual 228, 3) := by decide +kernel
theorem dL_law_1158 : decode cL_law 1158 = .ok (.iload 8, 2) := by decide +kernel
theorem dL_law_1160 : decode cL_law 1160 = .ok (.i2d, 1) := by decide +kernel
theorem dL_law_1161 : decode cL_law 1161 = .ok (.iload 7, 2) := by decide +kernel
theorem dL_law_1163 : decode cL_law 1163 = .ok (.i2d, 1) := by decide +kernel
theorem dL_law_1164 : decode cL_law 1164 = .ok (.ddiv, 1) := by decide +kernel
theorem dL_law_1165 : decode cL_law 1165 = .ok (.dcmp .l, 1) := by decide +kernel
theorem dL_law_1166 : decode cL_law 1166 = .ok (.ifCond .ne 18, 3) := by decide +kernel
theorem dL_law_1169 : decode cL_law 1169 = .ok (.aload_n 1, 1) := by decide +kernel
theorem dL_law_1170 : decode cL_law 1170 = .ok (.invokevirtual 232, 3) := by decide +kernel
theorem dL_law_1173 : decode cL_law 1173 = .ok (.iload 13, 2) := by decide +kernel
theorem dL_law_1175 : decode cL_law 1175 = .ok (.i2f, 1) := by decide +kernel
theorem dL_law_1176 : decode cL_law 1176 = .ok (.iload 8, 2) := by decide +kernel
theorem dL_law_1178 : decode cL_law 1178 = .ok (.i2f, 1) := by decide +kernel
theorem dL_law_1179 : decode cL_law 1179 = .ok (.fdiv, 1) := by decide +kernel
theorem dL_law_1180 : decode cL_law 1180 = .ok (.fcmp .l, 1) := by decide +kernel
theorem dL_law_1181 : decode cL_law 1181 = .ok (.ifCond .eq 5, 3) := by decide +kernel
theorem dL_law_1184 : decode cL_law 1184 = .ok (.iconst 0, 1) := by decide +kernel
theorem dL_law_1185 : decode cL_law 1185 = .ok (.ireturn, 1) := by decide +kernel
theorem dL_law_1186 : decode cL_law 1186 = .ok (.iload 4, 2) := by decide +kernel
theorem dL_law_1188 : decode cL_law 1188 = .ok (.newarray .int, 2) := by decide +kernel
theorem dL_law_1190 : decode cL_law 1190 = .ok (.astore 19, 2) := by decide +kernel
theorem dL_law_1192 : decode cL_law 1192 = .ok (.iconst 0, 1) := by decide +kernel
theorem dL_law_1193 : decode cL_law 1193 = .ok (.istore 20, 2) := by decide +kernel
theorem dL_law_1195 : decode cL_law 1195 = .ok (.iload 20, 2) := by decide +kernel
theorem dL_law_1197 : decode cL_law 1197 = .ok (.iload 4, 2) := by decide +kernel
theorem dL_law_1199 : decode cL_law 1199 = .ok (.if_icmp .ge 18, 3) := by decide +kernel
theorem dL_law_1202 : decode cL_law 1202 = .ok (.aload 19, 2) := by decide +kernel
theorem dL_law_1204 : decode cL_law 1204 = .ok (.iload 20, 2) := by decide +kernel
theorem dL_law_1206 : decode cL_law 1206 = .ok (.iconst 1, 1) := by decide +kernel
theorem dL_law_1207 : decode cL_law 1207 = .ok (.iload 20, 2) := by decide +kernel
theorem dL_law_1209 : decode cL_law 1209 = .ok (.ishl, 1) := by decide +kernel
theorem dL_law_1210 : decode cL_law 1210 = .ok (.iastore, 1) := by decide +kernel
theorem dL_law_1211 : decode cL_law 1211 = .ok (.iinc 20 1, 3) := by decide +kernel
theorem dL_law_1214 : decode cL_law 1214 = .ok (.goto (-19), 3) := by decide +kernel
theorem dL_law_1217 : decode cL_law 1217 = .ok (.sipush (-30000), 3) := by decide +kernel
theorem dL_law_1220 : decode cL_law 1220 = .ok (.istore 20, 2) := by decide +kernel
theorem dL_law_1222 : decode cL_law 1222 = .ok (.aload_n 1, 1) := by decide +kernel
theorem dL_law_1223 : decode cL_law 1223 = .ok (.invokevirtual 236, 3) := by decide +kernel
theorem dL_law_1226 : decode cL_law 1226 = .ok (.iconst 0, 1) := by decide +kernel
theorem dL_law_1227 : decode cL_law 1227 = .ok (.iload 4, 2) := by decide +kernel
theorem dL_law_1229 : decode cL_law 1229 = .ok (.iconst 1, 1) := by decide +kernel
theorem dL_law_1230 : decode cL_law 1230 = .ok (.isub, 1) := by decide +kernel
theorem dL_law_1231 : decode cL_law 1231 = .ok (.invokestatic 95, 3) := by decide +kernel
theorem dL_law_1234 : decode cL_law 1234 = .ok (.if_icmp .eq 5, 3) := by decide +kernel
theorem dL_law_1237 : decode cL_law 1237 = .ok (.iconst 0, 1) := by decide +kernel
theorem dL_law_1238 : decode cL_law 1238 = .ok (.ireturn, 1) := by decide +kernel
theorem dL_law_1239 : decode cL_law 1239 = .ok (.iconst 0, 1) := by decide +kernel
theorem dL_law_1240 : decode cL_law 1240 = .ok (.istore 21, 2) := by decide +kernel
theorem dL_law_1242 : decode cL_law 1242 = .ok (.iload 21, 2) := by decide +kernel
theorem dL_law_1244 : decode cL_law 1244 = .ok (.iload 4, 2) := by decide +kernel
theorem dL_law_1246 : decode cL_law 1246 = .ok (.iconst 1, 1) := by decide +kernel
theorem dL_law_1247 : decode cL_law 1247 = .ok (.isub, 1) := by decide +kernel
theorem dL_law_1248 : decode cL_law 1248 = .ok (.if_icmp .ge 461, 3) := by decide +kernel
theorem dL_law_1251 : decode cL_law 1251 = .ok (.iconst 0, 1) := by decide +kernel
theorem dL_law_1252 : decode cL_law 1252 = .ok (.istore 22, 2) := by decide +kernel
theorem dL_law_1254 : decode cL_law 1254 = .ok (.iconst 0, 1) := by decide +kernel
theorem dL_law_1255 : decode cL_law 1255 = .ok (.istore 23, 2) := by decide +kernel
theorem dL_law_1257 : decode cL_law 1257 = .ok (.iconst 0, 1) := by decide +kernel
theorem dL_law_1258 : decode cL_law 1258 = .ok (.istore 24, 2) := by decide +kernel
theorem dL_law_1260 : decode cL_law 1260 = .ok (.iconst 0, 1) := by decide +kernel
theorem dL_law_1261 : decode cL_law 1261 = .ok (.istore 25, 2) := by decide +kernel
theorem dL_law_1263 : decode cL_law 1263 = .ok (.ldc 155, 2) := by decide +kernel
theorem dL_law_1265 : decode cL_law 1265 = .ok (.astore 26, 2) := by decide +kernel
theorem dL_law_1267 : decode cL_law 1267 = .ok (.iconst 0, 1) := by decide +kernel
theorem dL_law_1268 : decode cL_law 1268 = .ok (.istore 27, 2) := by decide +kernel
theorem dL_law_1270 : decode cL_law 1270 = .ok (.iload 27, 2) := by decide +kernel
theorem dL_law_1272 : decode cL_law 1272 = .ok (.iload 4, 2) := by decide +kernel
theorem dL_law_1274 : decode cL_law 1274 = .ok (.iload 21, 2) := by decide +kernel
theorem dL_law_1276 : decode cL_law 1276 = .ok (.isub, 1) := by decide +kernel
theorem dL_law_1277 : decode cL_law 1277 = .ok (.if_icmp .ge 242, 3) := by decide +kernel
theorem dL_law_1280 : decode cL_law 1280 = .ok (.iconst 0, 1) := by decide +kernel
theorem dL_law_1281 : decode cL_law 1281 = .ok (.istore 28, 2) := by decide +kernel
theorem dL_law_1283 : decode cL_law 1283 = .ok (.iload 4, 2) := by decide +kernel
theorem dL_law_1285 : decode cL_law 1285 = .ok (.iconst 1, 1) := by decide +kernel
theorem dL_law_1286 : decode cL_law 1286 = .ok (.isub, 1) := by decide +kernel
theorem dL_law_1287 : decode cL_law 1287 = .ok (.istore 29, 2) := by decide +kernel
theorem dL_law_1289 : decode cL_law 1289 = .ok (.iload 29, 2) := by decide +kernel
theorem dL_law_1291 : decode cL_law 1291 = .ok (.ifCond .lt 62, 3) := by decide +kernel
theorem dL_law_1294 : decode cL_law 1294 = .ok (.aload 19, 2) := by decide +kernel
theorem dL_law_1296 : decode cL_law 1296 = .ok (.iload 29, 2) := by decide +kernel
theorem dL_law_1298 : decode cL_law 1298 = .ok (.iaload, 1) := by decide +kernel
theorem dL_law_1299 : decode cL_law 1299 = .ok (.ifCond .eq 48, 3) := by decide +kernel
theorem dL_law_1302 : decode cL_law 1302 = .ok (.aload 19, 2) := by decide +kernel
theorem dL_law_1304 : decode cL_law 1304 = .ok (.iload 29, 2) := by decide +kernel
theorem dL_law_1306 : decode cL_law 1306 = .ok (.iaload, 1) := by decide +kernel
theorem dL_law_1307 : decode cL_law 1307 = .ok (.iload 22, 2) := by decide +kernel
theorem dL_law_1309 : decode cL_law 1309 = .ok (.iand, 1) := by decide +kernel
theorem dL_law_1310 : decode cL_law 1310 = .ok (.ifCond .ne 37, 3) := by decide +kernel
theorem dL_law_1313 : decode cL_law 1313 = .ok (.iload 28, 2) := by decide +kernel
theorem dL_law_1315 : decode cL_law 1315 = .ok (.ifCond .eq 25, 3) := by decide +kernel
theorem dL_law_1318 : decode cL_law 1318 = .ok (.aload_n 3, 1) := by decide +kernel
theorem dL_law_1319 : decode cL_law 1319 = .ok (.aload 19, 2) := by decide +kernel
theorem dL_law_1321 : decode cL_law 1321 = .ok (.iload 29, 2) := by decide +kernel
theorem dL_law_1323 : decode cL_law 1323 = .ok (.iaload, 1) := by decide +kernel
theorem dL_law_1324 : decode cL_law 1324 = .ok (.iload 22, 2) := by decide +kernel
theorem dL_law_1326 : decode cL_law 1326 = .ok (.invokestatic 117, 3) := by decide +kernel
theorem dL_law_1329 : decode cL_law 1329 = .ok (.aload_n 3, 1) := by decide +kernel
theorem dL_law_1330 : decode cL_law 1330 = .ok (.iload 28, 2) := by decide +kernel
theorem dL_law_1332 : decode cL_law 1332 = .ok (.iload 22, 2) := by decide +kernel
theorem dL_law_1334 : decode cL_law 1334 = .ok (.invokestatic 117, 3) := by decide +kernel
theorem dL_law_1337 : decode cL_law 1337 = .ok (.if_icmp .lt 10, 3) := by decide +kernel
theorem dL_law_1340 : decode cL_law 1340 = .ok (.aload 19, 2) := by decide +kernel
theorem dL_law_1342 : decode cL_law 1342 = .ok (.iload 29, 2) := by decide +kernel
theorem dL_law_1344 : decode cL_law 1344 = .ok (.iaload, 1) := by decide +kernel
theorem dL_law_1345 : decode cL_law 1345 = .ok (.istore 28, 2) := by decide +kernel
theorem dL_law_1347 : decode cL_law 1347 = .ok (.iinc 29 (-1), 3) := by decide +kernel
theorem dL_law_1350 : decode cL_law 1350 = .ok (.goto (-61), 3) := by decide +kernel
theorem dL_law_1353 : decode cL_law 1353 = .ok (.aload_n 3, 1) := by decide +kernel
theorem dL_law_1354 : decode cL_law 1354 = .ok (.iload 28, 2) := by decide +kernel
theorem dL_law_1356 : decode cL_law 1356 = .ok (.iload 22, 2) := by decide +kernel
theorem dL_law_1358 : decode cL_law 1358 = .ok (.invokestatic 117, 3) := by decide +kernel
theorem dL_law_1361 : decode cL_law 1361 = .ok (.istore 25, 2) := by decide +kernel
theorem dL_law_1363 : decode cL_law 1363 = .ok (.aload_n 1, 1) := by decide +kernel
theorem dL_law_1364 : decode cL_law 1364 = .ok (.iload 21, 2) := by decide +kernel
theorem dL_law_1366 : decode cL_law 1366 = .ok (.iload 27, 2) := by decide +kernel
theorem dL_law_1368 : decode cL_law 1368 = .ok (.invokestatic 239, 3) := by decide +kernel
theorem dL_law_1371 : decode cL_law 1371 = .ok (.iload 28, 2) := by decide +kernel
theorem dL_law_1373 : decode cL_law 1373 = .ok (.invokestatic 241, 3) := by decide +kernel
theorem dL_law_1376 : decode cL_law 1376 = .ok (.if_icmp .ne 16, 3) := by decide +kernel
theorem dL_law_1379 : decode cL_law 1379 = .ok (.aload_n 1, 1) := by decide +kernel
theorem dL_law_1380 : decode cL_law 1380 = .ok (.iload 21, 2) := by decide +kernel
theorem dL_law_1382 : decode cL_law 1382 = .ok (.iload 27, 2) := by decide +kernel
theorem dL_law_1384 : decode cL_law 1384 = .ok (.invokevirtual 244, 3) := by decide +kernel
theorem dL_law_1387 : decode cL_law 1387 = .ok (.iload 25, 2) := by decide +kernel
theorem dL_law_1389 : decode cL_law 1389 = .ok (.if_icmp .eq 5, 3) := by decide +kernel
theorem dL_law_1392 : decode cL_law 1392 = .ok (.iconst 0, 1) := by decide +kernel
theorem dL_law_1393 : decode cL_law 1393 = .ok (.ireturn, 1) := by decide +kernel
theorem dL_law_1394 : decode cL_law 1394 = .ok (.new 159, 3) := by decide +kernel
theorem dL_law_1397 : decode cL_law 1397 = .ok (.dup, 1) := by decide +kernel
theorem dL_law_1398 : decode cL_law 1398 = .ok (.invokespecial 161, 3) := by decide +kernel
theorem dL_law_1401 : decode cL_law 1401 = .ok (.aload 26, 2) := by decide +kernel
theorem dL_law_1403 : decode cL_law 1403 = .ok (.invokevirtual 162, 3) := by decide +kernel
theorem dL_law_1406 : decode cL_law 1406 = .ok (.iload 27, 2) := by decide +kernel
theorem dL_law_1408 : decode cL_law 1408 = .ok (.ifCond .le 8, 3) := by decide +kernel
theorem dL_law_1411 : decode cL_law 1411 = .ok (.ldc 247, 2) := by decide +kernel
theorem dL_law_1413 : decode cL_law 1413 = .ok (.goto 5, 3) := by decide +kernel
theorem dL_law_1416 : decode cL_law 1416 = .ok (.ldc 155, 2) := by decide +kernel
theorem dL_law_1418 : decode cL_law 1418 = .ok (.invokevirtual 162, 3) := by decide +kernel
theorem dL_law_1421 : decode cL_law 1421 = .ok (.invokevirtual 173, 3) := by decide +kernel
theorem dL_law_1424 : decode cL_law 1424 = .ok (.astore 26, 2) := by decide +kernel
theorem dL_law_1426 : decode cL_law 1426 = .ok (.iconst 0, 1) := by decide +kernel
theorem dL_law_1427 : decode cL_law 1427 = .ok (.istore 29, 2) := by decide +kernel
theorem dL_law_1429 : decode cL_law 1429 = .ok (.iload 29, 2) := by decide +kernel
theorem dL_law_1431 : decode cL_law 1431 = .ok (.iload 4, 2) := by decide +kernel
theorem dL_law_1433 : decode cL_law 1433 = .ok (.if_icmp .ge 65, 3) := by decide +kernel
theorem dL_law_1436 : decode cL_law 1436 = .ok (.new 159, 3) := by decide +kernel
theorem dL_law_1439 : decode cL_law 1439 = .ok (.dup, 1) := by decide +kernel
theorem dL_law_1440 : decode cL_law 1440 = .ok (.invokespecial 161, 3) := by decide +kernel
theorem dL_law_1443 : decode cL_law 1443 = .ok (.aload 26, 2) := by decide +kernel
theorem dL_law_1445 : decode cL_law 1445 = .ok (.invokevirtual 162, 3) := by decide +kernel
theorem dL_law_1448 : decode cL_law 1448 = .ok (.iload 28, 2) := by decide +kernel
theorem dL_law_1450 : decode cL_law 1450 = .ok (.iload 29, 2) := by decide +kernel
theorem dL_law_1452 : decode cL_law 1452 = .ok (.ishr, 1) := by decide +kernel
theorem dL_law_1453 : decode cL_law 1453 = .ok (.iconst 1, 1) := by decide +kernel
theorem dL_law_1454 : decode cL_law 1454 = .ok (.iand, 1) := by decide +kernel
theorem dL_law_1455 : decode cL_law 1455 = .ok (.iconst 1, 1) := by decide +kernel
theorem dL_law_1456 : decode cL_law 1456 = .ok (.if_icmp .ne 26, 3) := by decide +kernel
theorem dL_law_1459 : decode cL_law 1459 = .ok (.new 159, 3) := by decide +kernel
theorem dL_law_1462 : decode cL_law 1462 = .ok (.dup, 1) := by decide +kernel
theorem dL_law_1463 : decode cL_law 1463 = .ok (.invokespecial 161, 3) := by decide +kernel
theorem dL_law_1466 : decode cL_law 1466 = .ok (.ldc 155, 2) := by decide +kernel
theorem dL_law_1468 : decode cL_law 1468 = .ok (.invokevirtual 162, 3) := by decide +kernel
theorem dL_law_1471 : decode cL_law 1471 = .ok (.iload 29, 2) := by decide +kernel
theorem dL_law_1473 : decode cL_law 1473 = .ok (.invokevirtual 168, 3) := by decide +kernel
theorem dL_law_1476 : decode cL_law 1476 = .ok (.invokevirtual 173, 3) := by decide +kernel
theorem dL_law_1479 : decode cL_law 1479 = .ok (.goto 5, 3) := by decide +kernel
theorem dL_law_1482 : decode cL_law 1482 = .ok (.ldc 155, 2) := by decide +kernel
theorem dL_law_1484 : decode cL_law 1484 = .ok (.invokevirtual 162, 3) := by decide +kernel
theorem dL_law_1487 : decode cL_law 1487 = .ok (.invokevirtual 173, 3) := by decide +kernel
theorem dL_law_1490 : decode cL_law 1490 = .ok (.astore 26, 2) := by decide +kernel
theorem dL_law_1492 : decode cL_law 1492 = .ok (.iinc 29 1, 3) := by decide +kernel
theorem dL_law_1495 : decode cL_law 1495 = .ok (.goto (-66), 3) := by decide +kernel
theorem dL_law_1498 : decode cL_law 1498 = .ok (.iload 22, 2) := by decide +kernel
theorem dL_law_1500 : decode cL_law 1500 = .ok (.iload 28, 2) := by decide +kernel
theorem dL_law_1502 : decode cL_law 1502 = .ok (.ior, 1) := by decide +kernel
theorem dL_law_1503 : decode cL_law 1503 = .ok (.istore 22, 2) := by decide +kernel
theorem dL_law_1505 : decode cL_law 1505 = .ok (.iload 23, 2) := by decide +kernel
theorem dL_law_1507 : decode cL_law 1507 = .ok (.istore 24, 2) := by decide +kernel
theorem dL_law_1509 : decode cL_law 1509 = .ok (.iload 28, 2) := by decide +kernel
theorem dL_law_1511 : decode cL_law 1511 = .ok (.istore 23, 2) := by decide +kernel
theorem dL_law_1513 : decode cL_law 1513 = .ok (.iinc 27 1, 3) := by decide +kernel
theorem dL_law_1516 : decode cL_law 1516 = .ok (.goto (-246), 3) := by decide +kernel
theorem dL_law_1519 : decode cL_law 1519 = .ok (.aload_n 1, 1) := by decide +kernel
theorem dL_law_1520 : decode cL_law 1520 = .ok (.iload 21, 2) := by decide +kernel
theorem dL_law_1522 : decode cL_law 1522 = .ok (.iconst 0, 1) := by decide +kernel
theorem dL_law_1523 : decode cL_law 1523 = .ok (.invokevirtual 249, 3) := by decide +kernel
theorem dL_law_1526 : decode cL_law 1526 = .ok (.iload 25, 2) := by decide +kernel
theorem dL_law_1528 : decode cL_law 1528 = .ok (.if_icmp .ne 115, 3) := by decide +kernel
theorem dL_law_1531 : decode cL_law 1531 = .ok (.aload_n 1, 1) := by decide +kernel
theorem dL_law_1532 : decode cL_law 1532 = .ok (.iload 21, 2) := by decide +kernel
theorem dL_law_1534 : decode cL_law 1534 = .ok (.iconst 1, 1) := by decide +kernel
theorem dL_law_1535 : decode cL_law 1535 = .ok (.invokevirtual 249, 3) := by decide +kernel
theorem dL_law_1538 : decode cL_law 1538 = .ok (.iload 4, 2) := by decide +kernel
theorem dL_law_1540 : decode cL_law 1540 = .ok (.iload 21, 2) := by decide +kernel
theorem dL_law_1542 : decode cL_law 1542 = .ok (.isub, 1) := by decide +kernel
theorem dL_law_1543 : decode cL_law 1543 = .ok (.if_icmp .ne 100, 3) := by decide +kernel
theorem dL_law_1546 : decode cL_law 1546 = .ok (.aload_n 1, 1) := by decide +kernel
theorem dL_law_1547 : decode cL_law 1547 = .ok (.iload 21, 2) := by decide +kernel
theorem dL_law_1549 : decode cL_law 1549 = .ok (.iconst 2, 1) := by decide +kernel
theorem dL_law_1550 : decode cL_law 1550 = .ok (.invokevirtual 249, 3) := by decide +kernel
theorem dL_law_1553 : decode cL_law 1553 = .ok (.iload 23, 2) := by decide +kernel
theorem dL_law_1555 : decode cL_law 1555 = .ok (.invokestatic 241, 3) := by decide +kernel
theorem dL_law_1558 : decode cL_law 1558 = .ok (.if_icmp .ne 85, 3) := by decide +kernel
theorem dL_law_1561 : decode cL_law 1561 = .ok (.aload_n 1, 1) := by decide +kernel
theorem dL_law_1562 : decode cL_law 1562 = .ok (.iload 21, 2) := by decide +kernel
theorem dL_law_1564 : decode cL_law 1564 = .ok (.iconst 3, 1) := by decide +kernel
theorem dL_law_1565 : decode cL_law 1565 = .ok (.invokevirtual 249, 3) := by decide +kernel
theorem dL_law_1568 : decode cL_law 1568 = .ok (.iload 24, 2) := by decide +kernel
theorem dL_law_1570 : decode cL_law 1570 = .ok (.invokestatic 241, 3) := by decide +kernel
theorem dL_law_1573 : decode cL_law 1573 = .ok (.if_icmp .ne 70, 3) := by decide +kernel
theorem dL_law_1576 : decode cL_law 1576 = .ok (.aload_n 1, 1) := by decide +kernel
theorem dL_law_1577 : decode cL_law 1577 = .ok (.iload 21, 2) := by decide +kernel
theorem dL_law_1579 : decode cL_law 1579 = .ok (.iconst 4, 1) := by decide +kernel
theorem dL_law_1580 : decode cL_law 1580 = .ok (.invokevirtual 249, 3) := by decide +kernel
theorem dL_law_1583 : decode cL_law 1583 = .ok (.iload 23, 2) := by decide +kernel
theorem dL_law_1585 : decode cL_law 1585 = .ok (.if_icmp .ne 58, 3) := by decide +kernel
theorem dL_law_1588 : decode cL_law 1588 = .ok (.aload_n 1, 1) := by decide +kernel
theorem dL_law_1589 : decode cL_law 1589 = .ok (.iload 21, 2) := by decide +kernel
theorem dL_law_1591 : decode cL_law 1591 = .ok (.iload 4, 2) := by decide +kernel
theorem dL_law_1593 : decode cL_law 1593 = .ok (.iload 21, 2) := by decide +kernel
theorem dL_law_1595 : decode cL_law 1595 = .ok (.isub, 1) := by decide +kernel
theorem dL_law_1596 : decode cL_law 1596 = .ok (.invokestatic 239, 3) := by decide +kernel
theorem dL_law_1599 : decode cL_law 1599 = .ok (.sipush (-30000), 3) := by decide +kernel
theorem dL_law_1602 : decode cL_law 1602 = .ok (.if_icmp .ne 41, 3) := by decide +kernel
theorem dL_law_1605 : decode cL_law 1605 = .ok (.aload_n 1, 1) := by decide +kernel
theorem dL_law_1606 : decode cL_law 1606 = .ok (.aload_n 1, 1) := by decide +kernel
theorem dL_law_1607 : decode cL_law 1607 = .ok (.iload 21, 2) := by decide +kernel
theorem dL_law_1609 : decode cL_law 1609 = .ok (.invokevirtual 252, 3) := by decide +kernel
theorem dL_law_1612 : decode cL_law 1612 = .ok (.new 159, 3) := by decide +kernel
theorem dL_law_1615 : decode cL_law 1615 = .ok (.dup, 1) := by decide +kernel
theorem dL_law_1616 : decode cL_law 1616 = .ok (.invokespecial 161, 3) := by decide +kernel
theorem dL_law_1619 : decode cL_law 1619 = .ok (.aload 26, 2) := by decide +kernel
theorem dL_law_1621 : decode cL_law 1621 = .ok (.invokevirtual 162, 3) := by decide +kernel
theorem dL_law_1624 : decode cL_law 1624 = .ok (.ldc 171, 2) := by decide +kernel
theorem dL_law_1626 : decode cL_law 1626 = .ok (.invokevirtual 162, 3) := by decide +kernel
theorem dL_law_1629 : decode cL_law 1629 = .ok (.iload 25, 2) := by decide +kernel
theorem dL_law_1631 : decode cL_law 1631 = .ok (.invokevirtual 168, 3) := by decide +kernel
theorem dL_law_1634 : decode cL_law 1634 = .ok (.invokevirtual 173, 3) := by decide +kernel
theorem dL_law_1637 : decode cL_law 1637 = .ok (.invokestatic 194, 3) := by decide +kernel
theorem dL_law_1640 : decode cL_law 1640 = .ok (.ifCond .ne 5, 3) := by decide +kernel
theorem dL_law_1643 : decode cL_law 1643 = .ok (.iconst 0, 1) := by decide +kernel
theorem dL_law_1644 : decode cL_law 1644 = .ok (.ireturn, 1) := by decide +kernel
theorem dL_law_1645 : decode cL_law 1645 = .ok (.iload 20, 2) := by decide +kernel
theorem dL_law_1647 : decode cL_law 1647 = .ok (.sipush (-30000), 3) := by decide +kernel
theorem dL_law_1650 : decode cL_law 1650 = .ok (.if_icmp .ne 15, 3) := by decide +kernel
theorem dL_law_1653 : decode cL_law 1653 = .ok (.iload 25, 2) := by decide +kernel
theorem dL_law_1655 : decode cL_law 1655 = .ok (.iload 14, 2) := by decide +kernel
theorem dL_law_1657 : decode cL_law 1657 = .ok (.if_icmp .ne 8, 3) := by decide +kernel
theorem dL_law_1660 : decode cL_law 1660 = .ok (.iload 21, 2) := by decide +kernel
theorem dL_law_1662 : decode cL_law 1662 = .ok (.goto 5, 3) := by decide +kernel
theorem dL_law_1665 : decode cL_law 1665 = .ok (.iload 20, 2) := by decide +kernel
theorem dL_law_1667 : decode cL_law 1667 = .ok (.istore 20, 2) := by decide +kernel
theorem dL_law_1669 : decode cL_law 1669 = .ok (.aload 19, 2) := by decide +kernel
theorem dL_law_1671 : decode cL_law 1671 = .ok (.iload 23, 2) := by decide +kernel
theorem dL_law_1673 : decode cL_law 1673 = .ok (.invokestatic 241, 3) := by decide +kernel
theorem dL_law_1676 : decode cL_law 1676 = .ok (.iconst 0, 1) := by decide +kernel
theorem dL_law_1677 : decode cL_law 1677 = .ok (.iastore, 1) := by decide +kernel
theorem dL_law_1678 : decode cL_law 1678 = .ok (.aload 19, 2) := by decide +kernel
theorem dL_law_1680 : decode cL_law 1680 = .ok (.iload 24, 2) := by decide +kernel
theorem dL_law_1682 : decode cL_law 1682 = .ok (.invokestatic 241, 3) := by decide +kernel
theorem dL_law_1685 : decode cL_law 1685 = .ok (.iconst 0, 1) := by decide +kernel
theorem dL_law_1686 : decode cL_law 1686 = .ok (.iastore, 1) := by decide +kernel
theorem dL_law_1687 : decode cL_law 1687 = .ok (.aload 19, 2) := by decide +kernel
theorem dL_law_1689 : decode cL_law 1689 = .ok (.iload 23, 2) := by decide +kernel
theorem dL_law_1691 : decode cL_law 1691 = .ok (.iload 24, 2) := by decide +kernel
theorem dL_law_1693 : decode cL_law 1693 = .ok (.ior, 1) := by decide +kernel
theorem dL_law_1694 : decode cL_law 1694 = .ok (.invokestatic 241, 3) := by decide +kernel
theorem dL_law_1697 : decode cL_law 1697 = .ok (.iload 23, 2) := by decide +kernel
theorem dL_law_1699 : decode cL_law 1699 = .ok (.iload 24, 2) := by decide +kernel
theorem dL_law_1701 : decode cL_law 1701 = .ok (.ior, 1) := by decide +kernel
theorem dL_law_1702 : decode cL_law 1702 = .ok (.iastore, 1) := by decide +kernel
theorem dL_law_1703 : decode cL_law 1703 = .ok (.iinc 21 1, 3) := by decide +kernel
theorem dL_law_1706 : decode cL_law 1706 = .ok (.goto (-464), 3) := by decide +kernel
theorem dL_law_1709 : decode cL_law 1709 = .ok (.aload_n 1, 1) := by decide +kernel
theorem dL_law_1710 : decode cL_law 1710 = .ok (.invokestatic 255, 3) := by decide +kernel
theorem dL_law_1713 : decode cL_law 1713 = .ok (.iload 20, 2) := by decide +kernel
theorem dL_law_1715 : decode cL_law 1715 = .ok (.if_icmp .eq 5, 3) := by decide +kernel
theorem dL_law_1718 : decode cL_law 1718 = .ok (.iconst 0, 1) := by decide +kernel
theorem dL_law_1719 : decode cL_law 1719 = .ok (.ireturn, 1) := by decide +kernel
theorem dL_law_1720 : decode cL_law 1720 = .ok (.iconst 0, 1) := by decide +kernel
theorem dL_law_1721 : decode cL_law 1721 = .ok (.istore 21, 2) := by decide +kernel
theorem dL_law_1723 : decode cL_law 1723 = .ok (.iload 21, 2) := by decide +kernel
theorem dL_law_1725 : decode cL_law 1725 = .ok (.iconst 4, 1) := by decide +kernel
theorem dL_law_1726 : decode cL_law 1726 = .ok (.if_icmp .ge 181, 3) := by decide +kernel
theorem dL_law_1729 : decode cL_law 1729 = .ok (.aload_n 1, 1) := by decide +kernel
theorem dL_law_1730 : decode cL_law 1730 = .ok (.iload 21, 2) := by decide +kernel
theorem dL_law_1732 : decode cL_law 1732 = .ok (.iload 4, 2) := by decide +kernel
theorem dL_law_1734 : decode cL_law 1734 = .ok (.invokestatic 257, 3) := by decide +kernel
theorem dL_law_1737 : decode cL_law 1737 = .ok (.sipush (-30000), 3) := by decide +kernel
theorem dL_law_1740 : decode cL_law 1740 = .ok (.if_icmp .eq 5, 3) := by decide +kernel
theorem dL_law_1743 : decode cL_law 1743 = .ok (.iconst 0, 1) := by decide +kernel
theorem dL_law_1744 : decode cL_law 1744 = .ok (.ireturn, 1) := by decide +kernel
theorem dL_law_1745 : decode cL_law 1745 = .ok (.iconst 1, 1) := by decide +kernel
theorem dL_law_1746 : decode cL_law 1746 = .ok (.istore 22, 2) := by decide +kernel
theorem dL_law_1748 : decode cL_law 1748 = .ok (.iload 22, 2) := by decide +kernel
theorem dL_law_1750 : decode cL_law 1750 = .ok (.iload 4, 2) := by decide +kernel
theorem dL_law_1752 : decode cL_law 1752 = .ok (.if_icmp .ge 149, 3) := by decide +kernel
theorem dL_law_1755 : decode cL_law 1755 = .ok (.aload_n 1, 1) := by decide +kernel
theorem dL_law_1756 : decode cL_law 1756 = .ok (.iload 21, 2) := by decide +kernel
theorem dL_law_1758 : decode cL_law 1758 = .ok (.iload 22, 2) := by decide +kernel
theorem dL_law_1760 : decode cL_law 1760 = .ok (.iconst 1, 1) := by decide +kernel
theorem dL_law_1761 : decode cL_law 1761 = .ok (.isub, 1) := by decide +kernel
theorem dL_law_1762 : decode cL_law 1762 = .ok (.invokevirtual 76, 3) := by decide +kernel
theorem dL_law_1765 : decode cL_law 1765 = .ok (.istore 23, 2) := by decide +kernel
theorem dL_law_1767 : decode cL_law 1767 = .ok (.aload_n 1, 1) := by decide +kernel
theorem dL_law_1768 : decode cL_law 1768 = .ok (.iload 21, 2) := by decide +kernel
theorem dL_law_1770 : decode cL_law 1770 = .ok (.iload 22, 2) := by decide +kernel
theorem dL_law_1772 : decode cL_law 1772 = .ok (.invokevirtual 76, 3) := by decide +kernel
theorem dL_law_1775 : decode cL_law 1775 = .ok (.istore 24, 2) := by decide +kernel
theorem dL_law_1777 : decode cL_law 1777 = .ok (.iload 21, 2) := by decide +kernel
theorem dL_law_1779 : decode cL_law 1779 = .ok (.iconst 3, 1) := by decide +kernel
theorem dL_law_1780 : decode cL_law 1780 = .ok (.if_icmp .ge 59, 3) := by decide +kernel
theorem dL_law_1783 : decode cL_law 1783 = .ok (.aload_n 1, 1) := by decide +kernel
theorem dL_law_1784 : decode cL_law 1784 = .ok (.iload 23, 2) := by decide +kernel
theorem dL_law_1786 : decode cL_law 1786 = .ok (.iload 21, 2) := by decide +kernel
theorem dL_law_1788 : decode cL_law 1788 = .ok (.ifCond .ne 7, 3) := by decide +kernel
theorem dL_law_1791 : decode cL_law 1791 = .ok (.iconst 2, 1) := by decide +kernel
theorem dL_law_1792 : decode cL_law 1792 = .ok (.goto 14, 3) := by decide +kernel
theorem dL_law_1795 : decode cL_law 1795 = .ok (.iload 21, 2) := by decide +kernel
theorem dL_law_1797 : decode cL_law 1797 = .ok (.iconst 1, 1) := by decide +kernel
theorem dL_law_1798 : decode cL_law 1798 = .ok (.if_icmp .ne 7, 3) := by decide +kernel
theorem dL_law_1801 : decode cL_law 1801 = .ok (.iconst 1, 1) := by decide +kernel
theorem dL_law_1802 : decode cL_law 1802 = .ok (.goto 4, 3) := by decide +kernel
theorem dL_law_1805 : decode cL_law 1805 = .ok (.iconst 4, 1) := by decide +kernel
theorem dL_law_1806 : decode cL_law 1806 = .ok (.invokevirtual 150, 3) := by decide +kernel
theorem dL_law_1809 : decode cL_law 1809 = .ok (.aload_n 1, 1) := by decide +kernel
theorem dL_law_1810 : decode cL_law 1810 = .ok (.iload 24, 2) := by decide +kernel
theorem dL_law_1812 : decode cL_law 1812 = .ok (.iload 21, 2) := by decide +kernel
theorem dL_law_1814 : decode cL_law 1814 = .ok (.ifCond .ne 7, 3) := by decide +kernel
theorem dL_law_1817 : decode cL_law 1817 = .ok (.iconst 2, 1) := by decide +kernel
theorem dL_law_1818 : decode cL_law 1818 = .ok (.goto 14, 3) := by decide +kernel
theorem dL_law_1821 : decode cL_law 1821 = .ok (.iload 21, 2) := by decide +kernel
theorem dL_law_1823 : decode cL_law 1823 = .ok (.iconst 1, 1) := by decide +kernel
theorem dL_law_1824 : decode cL_law 1824 = .ok (.if_icmp .ne 7, 3) := by decide +kernel
theorem dL_law_1827 : decode cL_law 1827 = .ok (.iconst 1, 1) := by decide +kernel
theorem dL_law_1828 : decode cL_law 1828 = .ok (.goto 4, 3) := by decide +kernel
theorem dL_law_1831 : decode cL_law 1831 = .ok (.iconst 4, 1) := by decide +kernel
theorem dL_law_1832 : decode cL_law 1832 = .ok (.invokevirtual 150, 3) := by decide +kernel
theorem dL_law_1835 : decode cL_law 1835 = .ok (.isub, 1) := by decide +kernel
theorem dL_law_1836 : decode cL_law 1836 = .ok (.goto 38, 3) := by decide +kernel
theorem dL_law_1839 : decode cL_law 1839 = .ok (.iload 24, 2) := by decide +kernel
theorem dL_law_1841 : decode cL_law 1841 = .ok (.ifCond .ne 8, 3) := by decide +kernel
theorem dL_law_1844 : decode cL_law 1844 = .ok (.ldc 121, 2) := by decide +kernel
theorem dL_law_1846 : decode cL_law 1846 = .ok (.goto 10, 3) := by decide +kernel
theorem dL_law_1849 : decode cL_law 1849 = .ok (.aload_n 1, 1) := by decide +kernel
theorem dL_law_1850 : decode cL_law 1850 = .ok (.iconst 0, 1) := by decide +kernel
theorem dL_law_1851 : decode cL_law 1851 = .ok (.iload 24, 2) := by decide +kernel
theorem dL_law_1853 : decode cL_law 1853 = .ok (.invokevirtual 183, 3) := by decide +kernel
theorem dL_law_1856 : decode cL_law 1856 = .ok (.iload 23, 2) := by decide +kernel
theorem dL_law_1858 : decode cL_law 1858 = .ok (.ifCond .ne 8, 3) := by decide +kernel
theorem dL_law_1861 : decode cL_law 1861 = .ok (.ldc 121, 2) := by decide +kernel
theorem dL_law_1863 : decode cL_law 1863 = .ok (.goto 10, 3) := by decide +kernel
theorem dL_law_1866 : decode cL_law 1866 = .ok (.aload_n 1, 1) := by decide +kernel
theorem dL_law_1867 : decode cL_law 1867 = .ok (.iconst 0, 1) := by decide +kernel
theorem dL_law_1868 : decode cL_law 1868 = .ok (.iload 23, 2) := by decide +kernel
theorem dL_law_1870 : decode cL_law 1870 = .ok (.invokevirtual 183, 3) := by decide +kernel
theorem dL_law_1873 : decode cL_law 1873 = .ok (.isub, 1) := by decide +kernel
theorem dL_law_1874 : decode cL_law 1874 = .ok (.istore 25, 2) := by decide +kernel
theorem dL_law_1876 : decode cL_law 1876 = .ok (.iload 25, 2) := by decide +kernel
theorem dL_law_1878 : decode cL_law 1878 = .ok (.ifCond .lt 15, 3) := by decide +kernel
theorem dL_law_1881 : decode cL_law 1881 = .ok (.iload 25, 2) := by decide +kernel
theorem dL_law_1883 : decode cL_law 1883 = .ok (.ifCond .ne 12, 3) := by decide +kernel
theorem dL_law_1886 : decode cL_law 1886 = .ok (.iload 23, 2) := by decide +kernel
theorem dL_law_1888 : decode cL_law 1888 = .ok (.iload 24, 2) := by decide +kernel
theorem dL_law_1890 : decode cL_law 1890 = .ok (.if_icmp .le 5, 3) := by decide +kernel
theorem dL_law_1893 : decode cL_law 1893 = .ok (.iconst 0, 1) := by decide +kernel
theorem dL_law_1894 : decode cL_law 1894 = .ok (.ireturn, 1) := by decide +kernel
theorem dL_law_1895 : decode cL_law 1895 = .ok (.iinc 22 1, 3) := by decide +kernel
theorem dL_law_1898 : decode cL_law 1898 = .ok (.goto (-150), 3) := by decide +kernel
theorem dL_law_1901 : decode cL_law 1901 = .ok (.iinc 21 1, 3) := by decide +kernel
theorem dL_law_1904 : decode cL_law 1904 = .ok (.goto (-181), 3) := by decide +kernel
theorem dL_law_1907 : decode cL_law 1907 = .ok (.aload_n 1, 1) := by decide +kernel
theorem dL_law_1908 : decode cL_law 1908 = .ok (.aload_n 0, 1) := by decide +kernel
theorem dL_law_1909 : decode cL_law 1909 = .ok (.bipush 60, 2) := by decide +kernel
theorem dL_law_1911 : decode cL_law 1911 = .ok (.iconst 4, 1) := by decide +kernel
theorem dL_law_1912 : decode cL_law 1912 = .ok (.iload_n 2, 1) := by decide +kernel
theorem dL_law_1913 : decode cL_law 1913 = .ok (.imul, 1) := by decide +kernel
theorem dL_law_1914 : decode cL_law 1914 = .ok (.iadd, 1) := by decide +kernel
theorem dL_law_1915 : decode cL_law 1915 = .ok (.invokestatic 88, 3) := by decide +kernel
theorem dL_law_1918 : decode cL_law 1918 = .ok (.iinc 2 1, 3) := by decide +kernel
theorem dL_law_1921 : decode cL_law 1921 = .ok (.goto (-1906), 3) := by decide +kernel
theorem dL_law_1924 : decode cL_law 1924 = .ok (.iconst 1, 1) := by decide +kernel
theorem dL_law_1925 : decode cL_law 1925 = .ok (.ireturn, 1) := by decide +kernel
