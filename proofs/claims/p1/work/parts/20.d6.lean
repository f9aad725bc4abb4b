theorem dL_law_0 : decode cL_law 0 = .ok (.new 8, 3) := by decide +kernel
theorem dL_law_3 : decode cL_law 3 = .ok (.dup, 1) := by decide +kernel
theorem dL_law_4 : decode cL_law 4 = .ok (.invokespecial 60, 3) := by decide +kernel
theorem dL_law_7 : decode cL_law 7 = .ok (.astore_n 1, 1) := by decide +kernel
theorem dL_law_8 : decode cL_law 8 = .ok (.new 61, 3) := by decide +kernel
theorem dL_law_11 : decode cL_law 11 = .ok (.dup, 1) := by decide +kernel
theorem dL_law_12 : decode cL_law 12 = .ok (.invokespecial 63, 3) := by decide +kernel
theorem dL_law_15 : decode cL_law 15 = .ok (.astore_n 2, 1) := by decide +kernel
theorem dL_law_16 : decode cL_law 16 = .ok (.iconst 1, 1) := by decide +kernel
theorem dL_law_17 : decode cL_law 17 = .ok (.newarray .long, 2) := by decide +kernel
theorem dL_law_19 : decode cL_law 19 = .ok (.astore_n 3, 1) := by decide +kernel
theorem dL_law_20 : decode cL_law 20 = .ok (.iconst 0, 1) := by decide +kernel
theorem dL_law_21 : decode cL_law 21 = .ok (.istore 4, 2) := by decide +kernel
theorem dL_law_23 : decode cL_law 23 = .ok (.iload 4, 2) := by decide +kernel
theorem dL_law_25 : decode cL_law 25 = .ok (.aload_n 0, 1) := by decide +kernel
theorem dL_law_26 : decode cL_law 26 = .ok (.arraylength, 1) := by decide +kernel
theorem dL_law_27 : decode cL_law 27 = .ok (.iconst 5, 1) := by decide +kernel
theorem dL_law_28 : decode cL_law 28 = .ok (.isub, 1) := by decide +kernel
theorem dL_law_29 : decode cL_law 29 = .ok (.if_icmp .gt 881, 3) := by decide +kernel
theorem dL_law_32 : decode cL_law 32 = .ok (.aload_n 0, 1) := by decide +kernel
theorem dL_law_33 : decode cL_law 33 = .ok (.iload 4, 2) := by decide +kernel
theorem dL_law_35 : decode cL_law 35 = .ok (.iaload, 1) := by decide +kernel
theorem dL_law_36 : decode cL_law 36 = .ok (.bipush 15, 2) := by decide +kernel
theorem dL_law_38 : decode cL_law 38 = .ok (.iand, 1) := by decide +kernel
theorem dL_law_39 : decode cL_law 39 = .ok (.tableswitch 865 0 12 #[65, 165, 221, 234, 302, 394, 450, 530, 610, 654, 698, 766, 821], 65) := by decide +kernel
theorem dL_law_104 : decode cL_law 104 = .ok (.aload_n 1, 1) := by decide +kernel
theorem dL_law_105 : decode cL_law 105 = .ok (.aload_n 0, 1) := by decide +kernel
theorem dL_law_106 : decode cL_law 106 = .ok (.iload 4, 2) := by decide +kernel
theorem dL_law_108 : decode cL_law 108 = .ok (.iconst 1, 1) := by decide +kernel
theorem dL_law_109 : decode cL_law 109 = .ok (.iadd, 1) := by decide +kernel
theorem dL_law_110 : decode cL_law 110 = .ok (.iaload, 1) := by decide +kernel
theorem dL_law_111 : decode cL_law 111 = .ok (.i2l, 1) := by decide +kernel
theorem dL_law_112 : decode cL_law 112 = .ok (.bipush 32, 2) := by decide +kernel
theorem dL_law_114 : decode cL_law 114 = .ok (.lshl, 1) := by decide +kernel
theorem dL_law_115 : decode cL_law 115 = .ok (.aload_n 0, 1) := by decide +kernel
theorem dL_law_116 : decode cL_law 116 = .ok (.iload 4, 2) := by decide +kernel
theorem dL_law_118 : decode cL_law 118 = .ok (.iconst 2, 1) := by decide +kernel
theorem dL_law_119 : decode cL_law 119 = .ok (.iadd, 1) := by decide +kernel
theorem dL_law_120 : decode cL_law 120 = .ok (.iaload, 1) := by decide +kernel
theorem dL_law_121 : decode cL_law 121 = .ok (.i2l, 1) := by decide +kernel
theorem dL_law_122 : decode cL_law 122 = .ok (.ldc2_w 64, 3) := by decide +kernel
theorem dL_law_125 : decode cL_law 125 = .ok (.land, 1) := by decide +kernel
theorem dL_law_126 : decode cL_law 126 = .ok (.lor, 1) := by decide +kernel
theorem dL_law_127 : decode cL_law 127 = .ok (.aload_n 0, 1) := by decide +kernel
theorem dL_law_128 : decode cL_law 128 = .ok (.iload 4, 2) := by decide +kernel
theorem dL_law_130 : decode cL_law 130 = .ok (.iconst 3, 1) := by decide +kernel
theorem dL_law_131 : decode cL_law 131 = .ok (.iadd, 1) := by decide +kernel
theorem dL_law_132 : decode cL_law 132 = .ok (.iaload, 1) := by decide +kernel
theorem dL_law_133 : decode cL_law 133 = .ok (.aload_n 3, 1) := by decide +kernel
theorem dL_law_134 : decode cL_law 134 = .ok (.invokestatic 66, 3) := by decide +kernel
theorem dL_law_137 : decode cL_law 137 = .ok (.istore 5, 2) := by decide +kernel
theorem dL_law_139 : decode cL_law 139 = .ok (.aload_n 2, 1) := by decide +kernel
theorem dL_law_140 : decode cL_law 140 = .ok (.aload_n 0, 1) := by decide +kernel
theorem dL_law_141 : decode cL_law 141 = .ok (.iload 4, 2) := by decide +kernel
theorem dL_law_143 : decode cL_law 143 = .ok (.iconst 1, 1) := by decide +kernel
theorem dL_law_144 : decode cL_law 144 = .ok (.iadd, 1) := by decide +kernel
theorem dL_law_145 : decode cL_law 145 = .ok (.iaload, 1) := by decide +kernel
theorem dL_law_146 : decode cL_law 146 = .ok (.i2l, 1) := by decide +kernel
theorem dL_law_147 : decode cL_law 147 = .ok (.bipush 32, 2) := by decide +kernel
theorem dL_law_149 : decode cL_law 149 = .ok (.lshl, 1) := by decide +kernel
theorem dL_law_150 : decode cL_law 150 = .ok (.aload_n 0, 1) := by decide +kernel
theorem dL_law_151 : decode cL_law 151 = .ok (.iload 4, 2) := by decide +kernel
theorem dL_law_153 : decode cL_law 153 = .ok (.iconst 2, 1) := by decide +kernel
theorem dL_law_154 : decode cL_law 154 = .ok (.iadd, 1) := by decide +kernel
theorem dL_law_155 : decode cL_law 155 = .ok (.iaload, 1) := by decide +kernel
theorem dL_law_156 : decode cL_law 156 = .ok (.i2l, 1) := by decide +kernel
theorem dL_law_157 : decode cL_law 157 = .ok (.ldc2_w 64, 3) := by decide +kernel
theorem dL_law_160 : decode cL_law 160 = .ok (.land, 1) := by decide +kernel
theorem dL_law_161 : decode cL_law 161 = .ok (.lor, 1) := by decide +kernel
theorem dL_law_162 : decode cL_law 162 = .ok (.aload_n 0, 1) := by decide +kernel
theorem dL_law_163 : decode cL_law 163 = .ok (.iload 4, 2) := by decide +kernel
theorem dL_law_165 : decode cL_law 165 = .ok (.iconst 3, 1) := by decide +kernel
theorem dL_law_166 : decode cL_law 166 = .ok (.iadd, 1) := by decide +kernel
theorem dL_law_167 : decode cL_law 167 = .ok (.iaload, 1) := by decide +kernel
theorem dL_law_168 : decode cL_law 168 = .ok (.invokevirtual 71, 3) := by decide +kernel
theorem dL_law_171 : decode cL_law 171 = .ok (.istore 6, 2) := by decide +kernel
theorem dL_law_173 : decode cL_law 173 = .ok (.aload_n 2, 1) := by decide +kernel
theorem dL_law_174 : decode cL_law 174 = .ok (.invokevirtual 72, 3) := by decide +kernel
theorem dL_law_177 : decode cL_law 177 = .ok (.iload 5, 2) := by decide +kernel
theorem dL_law_179 : decode cL_law 179 = .ok (.if_icmp .eq 5, 3) := by decide +kernel
theorem dL_law_182 : decode cL_law 182 = .ok (.iconst 0, 1) := by decide +kernel
theorem dL_law_183 : decode cL_law 183 = .ok (.ireturn, 1) := by decide +kernel
theorem dL_law_184 : decode cL_law 184 = .ok (.iload 5, 2) := by decide +kernel
theorem dL_law_186 : decode cL_law 186 = .ok (.ifCond .ne 15, 3) := by decide +kernel
theorem dL_law_189 : decode cL_law 189 = .ok (.aload_n 3, 1) := by decide +kernel
theorem dL_law_190 : decode cL_law 190 = .ok (.iconst 0, 1) := by decide +kernel
theorem dL_law_191 : decode cL_law 191 = .ok (.laload, 1) := by decide +kernel
theorem dL_law_192 : decode cL_law 192 = .ok (.iload 6, 2) := by decide +kernel
theorem dL_law_194 : decode cL_law 194 = .ok (.i2l, 1) := by decide +kernel
theorem dL_law_195 : decode cL_law 195 = .ok (.lcmp, 1) := by decide +kernel
theorem dL_law_196 : decode cL_law 196 = .ok (.ifCond .eq 5, 3) := by decide +kernel
theorem dL_law_199 : decode cL_law 199 = .ok (.iconst 0, 1) := by decide +kernel
theorem dL_law_200 : decode cL_law 200 = .ok (.ireturn, 1) := by decide +kernel
theorem dL_law_201 : decode cL_law 201 = .ok (.goto 703, 3) := by decide +kernel
theorem dL_law_204 : decode cL_law 204 = .ok (.aload_n 1, 1) := by decide +kernel
theorem dL_law_205 : decode cL_law 205 = .ok (.aload_n 0, 1) := by decide +kernel
theorem dL_law_206 : decode cL_law 206 = .ok (.iload 4, 2) := by decide +kernel
theorem dL_law_208 : decode cL_law 208 = .ok (.iconst 1, 1) := by decide +kernel
theorem dL_law_209 : decode cL_law 209 = .ok (.iadd, 1) := by decide +kernel
theorem dL_law_210 : decode cL_law 210 = .ok (.iaload, 1) := by decide +kernel
theorem dL_law_211 : decode cL_law 211 = .ok (.aload_n 3, 1) := by decide +kernel
theorem dL_law_212 : decode cL_law 212 = .ok (.invokestatic 75, 3) := by decide +kernel
theorem dL_law_215 : decode cL_law 215 = .ok (.istore 5, 2) := by decide +kernel
theorem dL_law_217 : decode cL_law 217 = .ok (.aload_n 2, 1) := by decide +kernel
theorem dL_law_218 : decode cL_law 218 = .ok (.aload_n 0, 1) := by decide +kernel
theorem dL_law_219 : decode cL_law 219 = .ok (.iload 4, 2) := by decide +kernel
theorem dL_law_221 : decode cL_law 221 = .ok (.iconst 1, 1) := by decide +kernel
theorem dL_law_222 : decode cL_law 222 = .ok (.iadd, 1) := by decide +kernel
theorem dL_law_223 : decode cL_law 223 = .ok (.iaload, 1) := by decide +kernel
theorem dL_law_224 : decode cL_law 224 = .ok (.invokevirtual 78, 3) := by decide +kernel
theorem dL_law_227 : decode cL_law 227 = .ok (.istore 6, 2) := by decide +kernel
theorem dL_law_229 : decode cL_law 229 = .ok (.aload_n 2, 1) := by decide +kernel
theorem dL_law_230 : decode cL_law 230 = .ok (.invokevirtual 72, 3) := by decide +kernel
theorem dL_law_233 : decode cL_law 233 = .ok (.iload 5, 2) := by decide +kernel
theorem dL_law_235 : decode cL_law 235 = .ok (.if_icmp .eq 5, 3) := by decide +kernel
theorem dL_law_238 : decode cL_law 238 = .ok (.iconst 0, 1) := by decide +kernel
theorem dL_law_239 : decode cL_law 239 = .ok (.ireturn, 1) := by decide +kernel
theorem dL_law_240 : decode cL_law 240 = .ok (.iload 5, 2) := by decide +kernel
theorem dL_law_242 : decode cL_law 242 = .ok (.ifCond .ne 15, 3) := by decide +kernel
theorem dL_law_245 : decode cL_law 245 = .ok (.aload_n 3, 1) := by decide +kernel
theorem dL_law_246 : decode cL_law 246 = .ok (.iconst 0, 1) := by decide +kernel
theorem dL_law_247 : decode cL_law 247 = .ok (.laload, 1) := by decide +kernel
theorem dL_law_248 : decode cL_law 248 = .ok (.iload 6, 2) := by decide +kernel
theorem dL_law_250 : decode cL_law 250 = .ok (.i2l, 1) := by decide +kernel
theorem dL_law_251 : decode cL_law 251 = .ok (.lcmp, 1) := by decide +kernel
theorem dL_law_252 : decode cL_law 252 = .ok (.ifCond .eq 5, 3) := by decide +kernel
theorem dL_law_255 : decode cL_law 255 = .ok (.iconst 0, 1) := by decide +kernel
theorem dL_law_256 : decode cL_law 256 = .ok (.ireturn, 1) := by decide +kernel
theorem dL_law_257 : decode cL_law 257 = .ok (.goto 647, 3) := by decide +kernel
theorem dL_law_260 : decode cL_law 260 = .ok (.aload_n 1, 1) := by decide +kernel
theorem dL_law_261 : decode cL_law 261 = .ok (.invokevirtual 79, 3) := by decide +kernel
theorem dL_law_264 : decode cL_law 264 = .ok (.aload_n 2, 1) := by decide +kernel
theorem dL_law_265 : decode cL_law 265 = .ok (.invokevirtual 82, 3) := by decide +kernel
theorem dL_law_268 : decode cL_law 268 = .ok (.if_icmp .eq 636, 3) := by decide +kernel
theorem dL_law_271 : decode cL_law 271 = .ok (.iconst 0, 1) := by decide +kernel
theorem dL_law_272 : decode cL_law 272 = .ok (.ireturn, 1) := by decide +kernel
theorem dL_law_273 : decode cL_law 273 = .ok (.aload_n 1, 1) := by decide +kernel
theorem dL_law_274 : decode cL_law 274 = .ok (.aload_n 0, 1) := by decide +kernel
theorem dL_law_275 : decode cL_law 275 = .ok (.iload 4, 2) := by decide +kernel
theorem dL_law_277 : decode cL_law 277 = .ok (.iconst 1, 1) := by decide +kernel
theorem dL_law_278 : decode cL_law 278 = .ok (.iadd, 1) := by decide +kernel
theorem dL_law_279 : decode cL_law 279 = .ok (.iaload, 1) := by decide +kernel
theorem dL_law_280 : decode cL_law 280 = .ok (.aload_n 0, 1) := by decide +kernel
theorem dL_law_281 : decode cL_law 281 = .ok (.iload 4, 2) := by decide +kernel
theorem dL_law_283 : decode cL_law 283 = .ok (.iconst 2, 1) := by decide +kernel
theorem dL_law_284 : decode cL_law 284 = .ok (.iadd, 1) := by decide +kernel
theorem dL_law_285 : decode cL_law 285 = .ok (.iaload, 1) := by decide +kernel
theorem dL_law_286 : decode cL_law 286 = .ok (.aload_n 3, 1) := by decide +kernel
theorem dL_law_287 : decode cL_law 287 = .ok (.invokestatic 83, 3) := by decide +kernel
theorem dL_law_290 : decode cL_law 290 = .ok (.istore 5, 2) := by decide +kernel
theorem dL_law_292 : decode cL_law 292 = .ok (.aload_n 2, 1) := by decide +kernel
theorem dL_law_293 : decode cL_law 293 = .ok (.aload_n 0, 1) := by decide +kernel
theorem dL_law_294 : decode cL_law 294 = .ok (.iload 4, 2) := by decide +kernel
theorem dL_law_296 : decode cL_law 296 = .ok (.iconst 1, 1) := by decide +kernel
theorem dL_law_297 : decode cL_law 297 = .ok (.iadd, 1) := by decide +kernel
theorem dL_law_298 : decode cL_law 298 = .ok (.iaload, 1) := by decide +kernel
theorem dL_law_299 : decode cL_law 299 = .ok (.aload_n 0, 1) := by decide +kernel
theorem dL_law_300 : decode cL_law 300 = .ok (.iload 4, 2) := by decide +kernel
theorem dL_law_302 : decode cL_law 302 = .ok (.iconst 2, 1) := by decide +kernel
theorem dL_law_303 : decode cL_law 303 = .ok (.iadd, 1) := by decide +kernel
theorem dL_law_304 : decode cL_law 304 = .ok (.iaload, 1) := by decide +kernel
theorem dL_law_305 : decode cL_law 305 = .ok (.invokevirtual 86, 3) := by decide +kernel
theorem dL_law_308 : decode cL_law 308 = .ok (.istore 6, 2) := by decide +kernel
theorem dL_law_310 : decode cL_law 310 = .ok (.aload_n 2, 1) := by decide +kernel
theorem dL_law_311 : decode cL_law 311 = .ok (.invokevirtual 72, 3) := by decide +kernel
theorem dL_law_314 : decode cL_law 314 = .ok (.iload 5, 2) := by decide +kernel
theorem dL_law_316 : decode cL_law 316 = .ok (.if_icmp .eq 5, 3) := by decide +kernel
theorem dL_law_319 : decode cL_law 319 = .ok (.iconst 0, 1) := by decide +kernel
theorem dL_law_320 : decode cL_law 320 = .ok (.ireturn, 1) := by decide +kernel
theorem dL_law_321 : decode cL_law 321 = .ok (.iload 5, 2) := by decide +kernel
theorem dL_law_323 : decode cL_law 323 = .ok (.ifCond .ne 15, 3) := by decide +kernel
theorem dL_law_326 : decode cL_law 326 = .ok (.aload_n 3, 1) := by decide +kernel
theorem dL_law_327 : decode cL_law 327 = .ok (.iconst 0, 1) := by decide +kernel
theorem dL_law_328 : decode cL_law 328 = .ok (.laload, 1) := by decide +kernel
theorem dL_law_329 : decode cL_law 329 = .ok (.iload 6, 2) := by decide +kernel
theorem dL_law_331 : decode cL_law 331 = .ok (.i2l, 1) := by decide +kernel
theorem dL_law_332 : decode cL_law 332 = .ok (.lcmp, 1) := by decide +kernel
theorem dL_law_333 : decode cL_law 333 = .ok (.ifCond .eq 5, 3) := by decide +kernel
theorem dL_law_336 : decode cL_law 336 = .ok (.iconst 0, 1) := by decide +kernel
theorem dL_law_337 : decode cL_law 337 = .ok (.ireturn, 1) := by decide +kernel
theorem dL_law_338 : decode cL_law 338 = .ok (.goto 566, 3) := by decide +kernel
theorem dL_law_341 : decode cL_law 341 = .ok (.aload_n 1, 1) := by decide +kernel
theorem dL_law_342 : decode cL_law 342 = .ok (.aload_n 0, 1) := by decide +kernel
theorem dL_law_343 : decode cL_law 343 = .ok (.iload 4, 2) := by decide +kernel
theorem dL_law_345 : decode cL_law 345 = .ok (.iconst 1, 1) := by decide +kernel
theorem dL_law_346 : decode cL_law 346 = .ok (.iadd, 1) := by decide +kernel
theorem dL_law_347 : decode cL_law 347 = .ok (.iaload, 1) := by decide +kernel
theorem dL_law_348 : decode cL_law 348 = .ok (.aload_n 0, 1) := by decide +kernel
theorem dL_law_349 : decode cL_law 349 = .ok (.iload 4, 2) := by decide +kernel
theorem dL_law_351 : decode cL_law 351 = .ok (.iconst 2, 1) := by decide +kernel
theorem dL_law_352 : decode cL_law 352 = .ok (.iadd, 1) := by decide +kernel
theorem dL_law_353 : decode cL_law 353 = .ok (.iaload, 1) := by decide +kernel
theorem dL_law_354 : decode cL_law 354 = .ok (.aload_n 0, 1) := by decide +kernel
theorem dL_law_355 : decode cL_law 355 = .ok (.iload 4, 2) := by decide +kernel
theorem dL_law_357 : decode cL_law 357 = .ok (.iconst 3, 1) := by decide +kernel
theorem dL_law_358 : decode cL_law 358 = .ok (.iadd, 1) := by decide +kernel
theorem dL_law_359 : decode cL_law 359 = .ok (.iaload, 1) := by decide +kernel
theorem dL_law_360 : decode cL_law 360 = .ok (.aload_n 0, 1) := by decide +kernel
theorem dL_law_361 : decode cL_law 361 = .ok (.iload 4, 2) := by decide +kernel
theorem dL_law_363 : decode cL_law 363 = .ok (.iconst 4, 1) := by decide +kernel
theorem dL_law_364 : decode cL_law 364 = .ok (.iadd, 1) := by decide +kernel
theorem dL_law_365 : decode cL_law 365 = .ok (.iaload, 1) := by decide +kernel
theorem dL_law_366 : decode cL_law 366 = .ok (.aload_n 3, 1) := by decide +kernel
theorem dL_law_367 : decode cL_law 367 = .ok (.invokestatic 87, 3) := by decide +kernel
theorem dL_law_370 : decode cL_law 370 = .ok (.istore 5, 2) := by decide +kernel
theorem dL_law_372 : decode cL_law 372 = .ok (.aload_n 2, 1) := by decide +kernel
theorem dL_law_373 : decode cL_law 373 = .ok (.aload_n 0, 1) := by decide +kernel
theorem dL_law_374 : decode cL_law 374 = .ok (.iload 4, 2) := by decide +kernel
theorem dL_law_376 : decode cL_law 376 = .ok (.iconst 1, 1) := by decide +kernel
theorem dL_law_377 : decode cL_law 377 = .ok (.iadd, 1) := by decide +kernel
theorem dL_law_378 : decode cL_law 378 = .ok (.iaload, 1) := by decide +kernel
theorem dL_law_379 : decode cL_law 379 = .ok (.aload_n 0, 1) := by decide +kernel
theorem dL_law_380 : decode cL_law 380 = .ok (.iload 4, 2) := by decide +kernel
theorem dL_law_382 : decode cL_law 382 = .ok (.iconst 2, 1) := by decide +kernel
theorem dL_law_383 : decode cL_law 383 = .ok (.iadd, 1) := by decide +kernel
theorem dL_law_384 : decode cL_law 384 = .ok (.iaload, 1) := by decide +kernel
theorem dL_law_385 : decode cL_law 385 = .ok (.aload_n 0, 1) := by decide +kernel
theorem dL_law_386 : decode cL_law 386 = .ok (.iload 4, 2) := by decide +kernel
theorem dL_law_388 : decode cL_law 388 = .ok (.iconst 3, 1) := by decide +kernel
theorem dL_law_389 : decode cL_law 389 = .ok (.iadd, 1) := by decide +kernel
theorem dL_law_390 : decode cL_law 390 = .ok (.iaload, 1) := by decide +kernel
theorem dL_law_391 : decode cL_law 391 = .ok (.aload_n 0, 1) := by decide +kernel
theorem dL_law_392 : decode cL_law 392 = .ok (.iload 4, 2) := by decide +kernel
theorem dL_law_394 : decode cL_law 394 = .ok (.iconst 4, 1) := by decide +kernel
theorem dL_law_395 : decode cL_law 395 = .ok (.iadd, 1) := by decide +kernel
theorem dL_law_396 : decode cL_law 396 = .ok (.iaload, 1) := by decide +kernel
theorem dL_law_397 : decode cL_law 397 = .ok (.invokevirtual 90, 3) := by decide +kernel
theorem dL_law_400 : decode cL_law 400 = .ok (.istore 6, 2) := by decide +kernel
theorem dL_law_402 : decode cL_law 402 = .ok (.aload_n 2, 1) := by decide +kernel
theorem dL_law_403 : decode cL_law 403 = .ok (.invokevirtual 72, 3) := by decide +kernel
theorem dL_law_406 : decode cL_law 406 = .ok (.iload 5, 2) := by decide +kernel
theorem dL_law_408 : decode cL_law 408 = .ok (.if_icmp .eq 5, 3) := by decide +kernel
theorem dL_law_411 : decode cL_law 411 = .ok (.iconst 0, 1) := by decide +kernel
theorem dL_law_412 : decode cL_law 412 = .ok (.ireturn, 1) := by decide +kernel
theorem dL_law_413 : decode cL_law 413 = .ok (.iload 5, 2) := by decide +kernel
theorem dL_law_415 : decode cL_law 415 = .ok (.ifCond .ne 15, 3) := by decide +kernel
theorem dL_law_418 : decode cL_law 418 = .ok (.aload_n 3, 1) := by decide +kernel
theorem dL_law_419 : decode cL_law 419 = .ok (.iconst 0, 1) := by decide +kernel
theorem dL_law_420 : decode cL_law 420 = .ok (.laload, 1) := by decide +kernel
theorem dL_law_421 : decode cL_law 421 = .ok (.iload 6, 2) := by decide +kernel
theorem dL_law_423 : decode cL_law 423 = .ok (.i2l, 1) := by decide +kernel
theorem dL_law_424 : decode cL_law 424 = .ok (.lcmp, 1) := by decide +kernel
theorem dL_law_425 : decode cL_law 425 = .ok (.ifCond .eq 5, 3) := by decide +kernel
theorem dL_law_428 : decode cL_law 428 = .ok (.iconst 0, 1) := by decide +kernel
theorem dL_law_429 : decode cL_law 429 = .ok (.ireturn, 1) := by decide +kernel
theorem dL_law_430 : decode cL_law 430 = .ok (.goto 474, 3) := by decide +kernel
theorem dL_law_433 : decode cL_law 433 = .ok (.aload_n 1, 1) := by decide +kernel
theorem dL_law_434 : decode cL_law 434 = .ok (.aload_n 0, 1) := by decide +kernel
theorem dL_law_435 : decode cL_law 435 = .ok (.iload 4, 2) := by decide +kernel
theorem dL_law_437 : decode cL_law 437 = .ok (.iconst 1, 1) := by decide +kernel
theorem dL_law_438 : decode cL_law 438 = .ok (.iadd, 1) := by decide +kernel
theorem dL_law_439 : decode cL_law 439 = .ok (.iaload, 1) := by decide +kernel
theorem dL_law_440 : decode cL_law 440 = .ok (.aload_n 3, 1) := by decide +kernel
theorem dL_law_441 : decode cL_law 441 = .ok (.invokestatic 91, 3) := by decide +kernel
theorem dL_law_444 : decode cL_law 444 = .ok (.istore 5, 2) := by decide +kernel
theorem dL_law_446 : decode cL_law 446 = .ok (.aload_n 2, 1) := by decide +kernel
theorem dL_law_447 : decode cL_law 447 = .ok (.aload_n 0, 1) := by decide +kernel
theorem dL_law_448 : decode cL_law 448 = .ok (.iload 4, 2) := by decide +kernel
theorem dL_law_450 : decode cL_law 450 = .ok (.iconst 1, 1) := by decide +kernel
theorem dL_law_451 : decode cL_law 451 = .ok (.iadd, 1) := by decide +kernel
theorem dL_law_452 : decode cL_law 452 = .ok (.iaload, 1) := by decide +kernel
theorem dL_law_453 : decode cL_law 453 = .ok (.invokevirtual 93, 3) := by decide +kernel
theorem dL_law_456 : decode cL_law 456 = .ok (.istore 6, 2) := by decide +kernel
theorem dL_law_458 : decode cL_law 458 = .ok (.aload_n 2, 1) := by decide +kernel
theorem dL_law_459 : decode cL_law 459 = .ok (.invokevirtual 72, 3) := by decide +kernel
theorem dL_law_462 : decode cL_law 462 = .ok (.iload 5, 2) := by decide +kernel
theorem dL_law_464 : decode cL_law 464 = .ok (.if_icmp .eq 5, 3) := by decide +kernel
theorem dL_law_467 : decode cL_law 467 = .ok (.iconst 0, 1) := by decide +kernel
theorem dL_law_468 : decode cL_law 468 = .ok (.ireturn, 1) := by decide +kernel
theorem dL_law_469 : decode cL_law 469 = .ok (.iload 5, 2) := by decide +kernel
theorem dL_law_471 : decode cL_law 471 = .ok (.ifCond .ne 15, 3) := by decide +kernel
theorem dL_law_474 : decode cL_law 474 = .ok (.aload_n 3, 1) := by decide +kernel
theorem dL_law_475 : decode cL_law 475 = .ok (.iconst 0, 1) := by decide +kernel
theorem dL_law_476 : decode cL_law 476 = .ok (.laload, 1) := by decide +kernel
theorem dL_law_477 : decode cL_law 477 = .ok (.iload 6, 2) := by decide +kernel
theorem dL_law_479 : decode cL_law 479 = .ok (.i2l, 1) := by decide +kernel
theorem dL_law_480 : decode cL_law 480 = .ok (.lcmp, 1) := by decide +kernel
theorem dL_law_481 : decode cL_law 481 = .ok (.ifCond .eq 5, 3) := by decide +kernel
theorem dL_law_484 : decode cL_law 484 = .ok (.iconst 0, 1) := by decide +kernel
theorem dL_law_485 : decode cL_law 485 = .ok (.ireturn, 1) := by decide +kernel
theorem dL_law_486 : decode cL_law 486 = .ok (.goto 418, 3) := by decide +kernel
theorem dL_law_489 : decode cL_law 489 = .ok (.aload_n 1, 1) := by decide +kernel
theorem dL_law_490 : decode cL_law 490 = .ok (.aload_n 0, 1) := by decide +kernel
theorem dL_law_491 : decode cL_law 491 = .ok (.iload 4, 2) := by decide +kernel
theorem dL_law_493 : decode cL_law 493 = .ok (.iconst 1, 1) := by decide +kernel
theorem dL_law_494 : decode cL_law 494 = .ok (.iadd, 1) := by decide +kernel
theorem dL_law_495 : decode cL_law 495 = .ok (.iaload, 1) := by decide +kernel
theorem dL_law_496 : decode cL_law 496 = .ok (.aload_n 0, 1) := by decide +kernel
theorem dL_law_497 : decode cL_law 497 = .ok (.iload 4, 2) := by decide +kernel
theorem dL_law_499 : decode cL_law 499 = .ok (.iconst 2, 1) := by decide +kernel
theorem dL_law_500 : decode cL_law 500 = .ok (.iadd, 1) := by decide +kernel
theorem dL_law_501 : decode cL_law 501 = .ok (.iaload, 1) := by decide +kernel
theorem dL_law_502 : decode cL_law 502 = .ok (.aload_n 0, 1) := by decide +kernel
theorem dL_law_503 : decode cL_law 503 = .ok (.iload 4, 2) := by decide +kernel
theorem dL_law_505 : decode cL_law 505 = .ok (.iconst 3, 1) := by decide +kernel
theorem dL_law_506 : decode cL_law 506 = .ok (.iadd, 1) := by decide +kernel
theorem dL_law_507 : decode cL_law 507 = .ok (.iaload, 1) := by decide +kernel
theorem dL_law_508 : decode cL_law 508 = .ok (.aload_n 3, 1) := by decide +kernel
theorem dL_law_509 : decode cL_law 509 = .ok (.invokestatic 94, 3) := by decide +kernel
theorem dL_law_512 : decode cL_law 512 = .ok (.istore 5, 2) := by decide +kernel
theorem dL_law_514 : decode cL_law 514 = .ok (.aload_n 2, 1) := by decide +kernel
theorem dL_law_515 : decode cL_law 515 = .ok (.aload_n 0, 1) := by decide +kernel
theorem dL_law_516 : decode cL_law 516 = .ok (.iload 4, 2) := by decide +kernel
theorem dL_law_518 : decode cL_law 518 = .ok (.iconst 1, 1) := by decide +kernel
theorem dL_law_519 : decode cL_law 519 = .ok (.iadd, 1) := by decide +kernel
theorem dL_law_520 : decode cL_law 520 = .ok (.iaload, 1) := by decide +kernel
theorem dL_law_521 : decode cL_law 521 = .ok (.aload_n 0, 1) := by decide +kernel
theorem dL_law_522 : decode cL_law 522 = .ok (.iload 4, 2) := by decide +kernel
theorem dL_law_524 : decode cL_law 524 = .ok (.iconst 2, 1) := by decide +kernel
theorem dL_law_525 : decode cL_law 525 = .ok (.iadd, 1) := by decide +kernel
theorem dL_law_526 : decode cL_law 526 = .ok (.iaload, 1) := by decide +kernel
theorem dL_law_527 : decode cL_law 527 = .ok (.aload_n 0, 1) := by decide +kernel
theorem dL_law_528 : decode cL_law 528 = .ok (.iload 4, 2) := by decide +kernel
theorem dL_law_530 : decode cL_law 530 = .ok (.iconst 3, 1) := by decide +kernel
theorem dL_law_531 : decode cL_law 531 = .ok (.iadd, 1) := by decide +kernel
theorem dL_law_532 : decode cL_law 532 = .ok (.iaload, 1) := by decide +kernel
theorem dL_law_533 : decode cL_law 533 = .ok (.invokevirtual 97, 3) := by decide +kernel
theorem dL_law_536 : decode cL_law 536 = .ok (.istore 6, 2) := by decide +kernel
theorem dL_law_538 : decode cL_law 538 = .ok (.aload_n 2, 1) := by decide +kernel
theorem dL_law_539 : decode cL_law 539 = .ok (.invokevirtual 72, 3) := by decide +kernel
theorem dL_law_542 : decode cL_law 542 = .ok (.iload 5, 2) := by decide +kernel
theorem dL_law_544 : decode cL_law 544 = .ok (.if_icmp .eq 5, 3) := by decide +kernel
theorem dL_law_547 : decode cL_law 547 = .ok (.iconst 0, 1) := by decide +kernel
theorem dL_law_548 : decode cL_law 548 = .ok (.ireturn, 1) := by decide +kernel
theorem dL_law_549 : decode cL_law 549 = .ok (.iload 5, 2) := by decide +kernel
theorem dL_law_551 : decode cL_law 551 = .ok (.ifCond .ne 15, 3) := by decide +kernel
theorem dL_law_554 : decode cL_law 554 = .ok (.aload_n 3, 1) := by decide +kernel
theorem dL_law_555 : decode cL_law 555 = .ok (.iconst 0, 1) := by decide +kernel
theorem dL_law_556 : decode cL_law 556 = .ok (.laload, 1) := by decide +kernel
theorem dL_law_557 : decode cL_law 557 = .ok (.iload 6, 2) := by decide +kernel
theorem dL_law_559 : decode cL_law 559 = .ok (.i2l, 1) := by decide +kernel
theorem dL_law_560 : decode cL_law 560 = .ok (.lcmp, 1) := by decide +kernel
theorem dL_law_561 : decode cL_law 561 = .ok (.ifCond .eq 5, 3) := by decide +kernel
theorem dL_law_564 : decode cL_law 564 = .ok (.iconst 0, 1) := by decide +kernel
theorem dL_law_565 : decode cL_law 565 = .ok (.ireturn, 1) := by decide +kernel
theorem dL_law_566 : decode cL_law 566 = .ok (.goto 338, 3) := by decide +kernel
theorem dL_law_569 : decode cL_law 569 = .ok (.aload_n 1, 1) := by decide +kernel
theorem dL_law_570 : decode cL_law 570 = .ok (.aload_n 0, 1) := by decide +kernel
theorem dL_law_571 : decode cL_law 571 = .ok (.iload 4, 2) := by decide +kernel
theorem dL_law_573 : decode cL_law 573 = .ok (.iconst 1, 1) := by decide +kernel
theorem dL_law_574 : decode cL_law 574 = .ok (.iadd, 1) := by decide +kernel
theorem dL_law_575 : decode cL_law 575 = .ok (.iaload, 1) := by decide +kernel
theorem dL_law_576 : decode cL_law 576 = .ok (.aload_n 0, 1) := by decide +kernel
theorem dL_law_577 : decode cL_law 577 = .ok (.iload 4, 2) := by decide +kernel
theorem dL_law_579 : decode cL_law 579 = .ok (.iconst 2, 1) := by decide +kernel
theorem dL_law_580 : decode cL_law 580 = .ok (.iadd, 1) := by decide +kernel
theorem dL_law_581 : decode cL_law 581 = .ok (.iaload, 1) := by decide +kernel
theorem dL_law_582 : decode cL_law 582 = .ok (.aload_n 0, 1) := by decide +kernel
theorem dL_law_583 : decode cL_law 583 = .ok (.iload 4, 2) := by decide +kernel
theorem dL_law_585 : decode cL_law 585 = .ok (.iconst 3, 1) := by decide +kernel
theorem dL_law_586 : decode cL_law 586 = .ok (.iadd, 1) := by decide +kernel
theorem dL_law_587 : decode cL_law 587 = .ok (.iaload, 1) := by decide +kernel
theorem dL_law_588 : decode cL_law 588 = .ok (.aload_n 3, 1) := by decide +kernel
theorem dL_law_589 : decode cL_law 589 = .ok (.invokestatic 98, 3) := by decide +kernel
theorem dL_law_592 : decode cL_law 592 = .ok (.istore 5, 2) := by decide +kernel
theorem dL_law_594 : decode cL_law 594 = .ok (.aload_n 2, 1) := by decide +kernel
theorem dL_law_595 : decode cL_law 595 = .ok (.aload_n 0, 1) := by decide +kernel
theorem dL_law_596 : decode cL_law 596 = .ok (.iload 4, 2) := by decide +kernel
theorem dL_law_598 : decode cL_law 598 = .ok (.iconst 1, 1) := by decide +kernel
theorem dL_law_599 : decode cL_law 599 = .ok (.iadd, 1) := by decide +kernel
theorem dL_law_600 : decode cL_law 600 = .ok (.iaload, 1) := by decide +kernel
theorem dL_law_601 : decode cL_law 601 = .ok (.aload_n 0, 1) := by decide +kernel
theorem dL_law_602 : decode cL_law 602 = .ok (.iload 4, 2) := by decide +kernel
theorem dL_law_604 : decode cL_law 604 = .ok (.iconst 2, 1) := by decide +kernel
theorem dL_law_605 : decode cL_law 605 = .ok (.iadd, 1) := by decide +kernel
theorem dL_law_606 : decode cL_law 606 = .ok (.iaload, 1) := by decide +kernel
theorem dL_law_607 : decode cL_law 607 = .ok (.aload_n 0, 1) := by decide +kernel
theorem dL_law_608 : decode cL_law 608 = .ok (.iload 4, 2) := by decide +kernel
theorem dL_law_610 : decode cL_law 610 = .ok (.iconst 3, 1) := by decide +kernel
theorem dL_law_611 : decode cL_law 611 = .ok (.iadd, 1) := by decide +kernel
theorem dL_law_612 : decode cL_law 612 = .ok (.iaload, 1) := by decide +kernel
theorem dL_law_613 : decode cL_law 613 = .ok (.invokevirtual 100, 3) := by decide +kernel
theorem dL_law_616 : decode cL_law 616 = .ok (.istore 6, 2) := by decide +kernel
theorem dL_law_618 : decode cL_law 618 = .ok (.aload_n 2, 1) := by decide +kernel
theorem dL_law_619 : decode cL_law 619 = .ok (.invokevirtual 72, 3) := by decide +kernel
theorem dL_law_622 : decode cL_law 622 = .ok (.iload 5, 2) := by decide +kernel
theorem dL_law_624 : decode cL_law 624 = .ok (.if_icmp .eq 5, 3) := by decide +kernel
theorem dL_law_627 : decode cL_law 627 = .ok (.iconst 0, 1) := by decide +kernel
theorem dL_law_628 : decode cL_law 628 = .ok (.ireturn, 1) := by decide +kernel
theorem dL_law_629 : decode cL_law 629 = .ok (.iload 5, 2) := by decide +kernel
theorem dL_law_631 : decode cL_law 631 = .ok (.ifCond .ne 15, 3) := by decide +kernel
theorem dL_law_634 : decode cL_law 634 = .ok (.aload_n 3, 1) := by decide +kernel
theorem dL_law_635 : decode cL_law 635 = .ok (.iconst 0, 1) := by decide +kernel
theorem dL_law_636 : decode cL_law 636 = .ok (.laload, 1) := by decide +kernel
theorem dL_law_637 : decode cL_law 637 = .ok (.iload 6, 2) := by decide +kernel
theorem dL_law_639 : decode cL_law 639 = .ok (.i2l, 1) := by decide +kernel
theorem dL_law_640 : decode cL_law 640 = .ok (.lcmp, 1) := by decide +kernel
theorem dL_law_641 : decode cL_law 641 = .ok (.ifCond .eq 5, 3) := by decide +kernel
theorem dL_law_644 : decode cL_law 644 = .ok (.iconst 0, 1) := by decide +kernel
theorem dL_law_645 : decode cL_law 645 = .ok (.ireturn, 1) := by decide +kernel
theorem dL_law_646 : decode cL_law 646 = .ok (.goto 258, 3) := by decide +kernel
theorem dL_law_649 : decode cL_law 649 = .ok (.aload_n 1, 1) := by decide +kernel
theorem dL_law_650 : decode cL_law 650 = .ok (.aload_n 3, 1) := by decide +kernel
theorem dL_law_651 : decode cL_law 651 = .ok (.invokestatic 101, 3) := by decide +kernel
theorem dL_law_654 : decode cL_law 654 = .ok (.istore 5, 2) := by decide +kernel
theorem dL_law_656 : decode cL_law 656 = .ok (.aload_n 2, 1) := by decide +kernel
theorem dL_law_657 : decode cL_law 657 = .ok (.invokevirtual 104, 3) := by decide +kernel
theorem dL_law_660 : decode cL_law 660 = .ok (.istore 6, 2) := by decide +kernel
theorem dL_law_662 : decode cL_law 662 = .ok (.aload_n 2, 1) := by decide +kernel
theorem dL_law_663 : decode cL_law 663 = .ok (.invokevirtual 72, 3) := by decide +kernel
theorem dL_law_666 : decode cL_law 666 = .ok (.iload 5, 2) := by decide +kernel
theorem dL_law_668 : decode cL_law 668 = .ok (.if_icmp .eq 5, 3) := by decide +kernel
theorem dL_law_671 : decode cL_law 671 = .ok (.iconst 0, 1) := by decide +kernel
theorem dL_law_672 : decode cL_law 672 = .ok (.ireturn, 1) := by decide +kernel
theorem dL_law_673 : decode cL_law 673 = .ok (.iload 5, 2) := by decide +kernel
theorem dL_law_675 : decode cL_law 675 = .ok (.ifCond .ne 15, 3) := by decide +kernel
theorem dL_law_678 : decode cL_law 678 = .ok (.aload_n 3, 1) := by decide +kernel
theorem dL_law_679 : decode cL_law 679 = .ok (.iconst 0, 1) := by decide +kernel
theorem dL_law_680 : decode cL_law 680 = .ok (.laload, 1) := by decide +kernel
theorem dL_law_681 : decode cL_law 681 = .ok (.iload 6, 2) := by decide +kernel
theorem dL_law_683 : decode cL_law 683 = .ok (.i2l, 1) := by decide +kernel
theorem dL_law_684 : decode cL_law 684 = .ok (.lcmp, 1) := by decide +kernel
theorem dL_law_685 : decode cL_law 685 = .ok (.ifCond .eq 5, 3) := by decide +kernel
theorem dL_law_688 : decode cL_law 688 = .ok (.iconst 0, 1) := by decide +kernel
theorem dL_law_689 : decode cL_law 689 = .ok (.ireturn, 1) := by decide +kernel
theorem dL_law_690 : decode cL_law 690 = .ok (.goto 214, 3) := by decide +kernel
theorem dL_law_693 : decode cL_law 693 = .ok (.aload_n 1, 1) := by decide +kernel
theorem dL_law_694 : decode cL_law 694 = .ok (.aload_n 3, 1) := by decide +kernel
theorem dL_law_695 : decode cL_law 695 = .ok (.invokestatic 105, 3) := by decide +kernel
theorem dL_law_698 : decode cL_law 698 = .ok (.istore 5, 2) := by decide +kernel
theorem dL_law_700 : decode cL_law 700 = .ok (.aload_n 2, 1) := by decide +kernel
theorem dL_law_701 : decode cL_law 701 = .ok (.invokevirtual 107, 3) := by decide +kernel
theorem dL_law_704 : decode cL_law 704 = .ok (.istore 6, 2) := by decide +kernel
theorem dL_law_706 : decode cL_law 706 = .ok (.aload_n 2, 1) := by decide +kernel
theorem dL_law_707 : decode cL_law 707 = .ok (.invokevirtual 72, 3) := by decide +kernel
theorem dL_law_710 : decode cL_law 710 = .ok (.iload 5, 2) := by decide +kernel
theorem dL_law_712 : decode cL_law 712 = .ok (.if_icmp .eq 5, 3) := by decide +kernel
theorem dL_law_715 : decode cL_law 715 = .ok (.iconst 0, 1) := by decide +kernel
theorem dL_law_716 : decode cL_law 716 = .ok (.ireturn, 1) := by decide +kernel
theorem dL_law_717 : decode cL_law 717 = .ok (.iload 5, 2) := by decide +kernel
theorem dL_law_719 : decode cL_law 719 = .ok (.ifCond .ne 15, 3) := by decide +kernel
theorem dL_law_722 : decode cL_law 722 = .ok (.aload_n 3, 1) := by decide +kernel
theorem dL_law_723 : decode cL_law 723 = .ok (.iconst 0, 1) := by decide +kernel
theorem dL_law_724 : decode cL_law 724 = .ok (.laload, 1) := by decide +kernel
theorem dL_law_725 : decode cL_law 725 = .ok (.iload 6, 2) := by decide +kernel
theorem dL_law_727 : decode cL_law 727 = .ok (.i2l, 1) := by decide +kernel
theorem dL_law_728 : decode cL_law 728 = .ok (.lcmp, 1) := by decide +kernel
theorem dL_law_729 : decode cL_law 729 = .ok (.ifCond .eq 5, 3) := by decide +kernel
theorem dL_law_732 : decode cL_law 732 = .ok (.iconst 0, 1) := by decide +kernel
theorem dL_law_733 : decode cL_law 733 = .ok (.ireturn, 1) := by decide +kernel
theorem dL_law_734 : decode cL_law 734 = .ok (.goto 170, 3) := by decide +kernel
theorem dL_law_737 : decode cL_law 737 = .ok (.aload_n 1, 1) := by decide +kernel
theorem dL_law_738 : decode cL_law 738 = .ok (.aload_n 0, 1) := by decide +kernel
theorem dL_law_739 : decode cL_law 739 = .ok (.iload 4, 2) := by decide +kernel
theorem dL_law_741 : decode cL_law 741 = .ok (.iconst 1, 1) := by decide +kernel
theorem dL_law_742 : decode cL_law 742 = .ok (.iadd, 1) := by decide +kernel
theorem dL_law_743 : decode cL_law 743 = .ok (.iaload, 1) := by decide +kernel
theorem dL_law_744 : decode cL_law 744 = .ok (.aload_n 0, 1) := by decide +kernel
theorem dL_law_745 : decode cL_law 745 = .ok (.iload 4, 2) := by decide +kernel
theorem dL_law_747 : decode cL_law 747 = .ok (.iconst 2, 1) := by decide +kernel
theorem dL_law_748 : decode cL_law 748 = .ok (.iadd, 1) := by decide +kernel
theorem dL_law_749 : decode cL_law 749 = .ok (.iaload, 1) := by decide +kernel
theorem dL_law_750 : decode cL_law 750 = .ok (.aload_n 3, 1) := by decide +kernel
theorem dL_law_751 : decode cL_law 751 = .ok (.invokestatic 108, 3) := by decide +kernel
theorem dL_law_754 : decode cL_law 754 = .ok (.istore 5, 2) := by decide +kernel
theorem dL_law_756 : decode cL_law 756 = .ok (.aload_n 2, 1) := by decide +kernel
theorem dL_law_757 : decode cL_law 757 = .ok (.aload_n 0, 1) := by decide +kernel
theorem dL_law_758 : decode cL_law 758 = .ok (.iload 4, 2) := by decide +kernel
theorem dL_law_760 : decode cL_law 760 = .ok (.iconst 1, 1) := by decide +kernel
theorem dL_law_761 : decode cL_law 761 = .ok (.iadd, 1) := by decide +kernel
theorem dL_law_762 : decode cL_law 762 = .ok (.iaload, 1) := by decide +kernel
theorem dL_law_763 : decode cL_law 763 = .ok (.aload_n 0, 1) := by decide +kernel
theorem dL_law_764 : decode cL_law 764 = .ok (.iload 4, 2) := by decide +kernel
theorem dL_law_766 : decode cL_law 766 = .ok (.iconst 2, 1) := by decide +kernel
theorem dL_law_767 : decode cL_law 767 = .ok (.iadd, 1) := by decide +kernel
theorem dL_law_768 : decode cL_law 768 = .ok (.iaload, 1) := by decide +kernel
theorem dL_law_769 : decode cL_law 769 = .ok (.invokevirtual 110, 3) := by decide +kernel
theorem dL_law_772 : decode cL_law 772 = .ok (.istore 6, 2) := by decide +kernel
theorem dL_law_774 : decode cL_law 774 = .ok (.aload_n 2, 1) := by decide +kernel
theorem dL_law_775 : decode cL_law 775 = .ok (.invokevirtual 72, 3) := by decide +kernel
theorem dL_law_778 : decode cL_law 778 = .ok (.iload 5, 2) := by decide +kernel
theorem dL_law_780 : decode cL_law 780 = .ok (.if_icmp .eq 5, 3) := by decide +kernel
theorem dL_law_783 : decode cL_law 783 = .ok (.iconst 0, 1) := by decide +kernel
theorem dL_law_784 : decode cL_law 784 = .ok (.ireturn, 1) := by decide +kernel
theorem dL_law_785 : decode cL_law 785 = .ok (.iload 5, 2) := by decide +kernel
theorem dL_law_787 : decode cL_law 787 = .ok (.ifCond .ne 15, 3) := by decide +kernel
theorem dL_law_790 : decode cL_law 790 = .ok (.aload_n 3, 1) := by decide +kernel
theorem dL_law_791 : decode cL_law 791 = .ok (.iconst 0, 1) := by decide +kernel
theorem dL_law_792 : decode cL_law 792 = .ok (.laload, 1) := by decide +kernel
theorem dL_law_793 : decode cL_law 793 = .ok (.iload 6, 2) := by decide +kernel
theorem dL_law_795 : decode cL_law 795 = .ok (.i2l, 1) := by decide +kernel
theorem dL_law_796 : decode cL_law 796 = .ok (.lcmp, 1) := by decide +kernel
theorem dL_law_797 : decode cL_law 797 = .ok (.ifCond .eq 5, 3) := by decide +kernel
theorem dL_law_800 : decode cL_law 800 = .ok (.iconst 0, 1) := by decide +kernel
theorem dL_law_801 : decode cL_law 801 = .ok (.ireturn, 1) := by decide +kernel
theorem dL_law_802 : decode cL_law 802 = .ok (.goto 102, 3) := by decide +kernel
theorem dL_law_805 : decode cL_law 805 = .ok (.aload_n 1, 1) := by decide +kernel
theorem dL_law_806 : decode cL_law 806 = .ok (.aload_n 0, 1) := by decide +kernel
theorem dL_law_807 : decode cL_law 807 = .ok (.iload 4, 2) := by decide +kernel
theorem dL_law_809 : decode cL_law 809 = .ok (.iconst 1, 1) := by decide +kernel
theorem dL_law_810 : decode cL_law 810 = .ok (.iadd, 1) := by decide +kernel
theorem dL_law_811 : decode cL_law 811 = .ok (.iaload, 1) := by decide +kernel
theorem dL_law_812 : decode cL_law 812 = .ok (.aload_n 3, 1) := by decide +kernel
theorem dL_law_813 : decode cL_law 813 = .ok (.invokestatic 111, 3) := by decide +kernel
theorem dL_law_816 : decode cL_law 816 = .ok (.istore 5, 2) := by decide +kernel
theorem dL_law_818 : decode cL_law 818 = .ok (.aload_n 2, 1) := by decide +kernel
theorem dL_law_819 : decode cL_law 819 = .ok (.aload_n 0, 1) := by decide +kernel
theorem dL_law_820 : decode cL_law 820 = .ok (.iload 4, 2) := by decide +kernel
theorem dL_law_822 : decode cL_law 822 = .ok (.iconst 1, 1) := by decide +kernel
theorem dL_law_823 : decode cL_law 823 = .ok (.iadd, 1) := by decide +kernel
theorem dL_law_824 : decode cL_law 824 = .ok (.iaload, 1) := by decide +kernel
theorem dL_law_825 : decode cL_law 825 = .ok (.invokevirtual 113, 3) := by decide +kernel
theorem dL_law_828 : decode cL_law 828 = .ok (.lstore 6, 2) := by decide +kernel
theorem dL_law_830 : decode cL_law 830 = .ok (.aload_n 2, 1) := by decide +kernel
theorem dL_law_831 : decode cL_law 831 = .ok (.invokevirtual 72, 3) := by decide +kernel
theorem dL_law_834 : decode cL_law 834 = .ok (.iload 5, 2) := by decide +kernel
theorem dL_law_836 : decode cL_law 836 = .ok (.if_icmp .eq 5, 3) := by decide +kernel
theorem dL_law_839 : decode cL_law 839 = .ok (.iconst 0, 1) := by decide +kernel
theorem dL_law_840 : decode cL_law 840 = .ok (.ireturn, 1) := by decide +kernel
theorem dL_law_841 : decode cL_law 841 = .ok (.iload 5, 2) := by decide +kernel
theorem dL_law_843 : decode cL_law 843 = .ok (.ifCond .ne 14, 3) := by decide +kernel
theorem dL_law_846 : decode cL_law 846 = .ok (.aload_n 3, 1) := by decide +kernel
theorem dL_law_847 : decode cL_law 847 = .ok (.iconst 0, 1) := by decide +kernel
theorem dL_law_848 : decode cL_law 848 = .ok (.laload, 1) := by decide +kernel
theorem dL_law_849 : decode cL_law 849 = .ok (.lload 6, 2) := by decide +kernel
theorem dL_law_851 : decode cL_law 851 = .ok (.lcmp, 1) := by decide +kernel
theorem dL_law_852 : decode cL_law 852 = .ok (.ifCond .eq 5, 3) := by decide +kernel
theorem dL_law_855 : decode cL_law 855 = .ok (.iconst 0, 1) := by decide +kernel
theorem dL_law_856 : decode cL_law 856 = .ok (.ireturn, 1) := by decide +kernel
theorem dL_law_857 : decode cL_law 857 = .ok (.goto 47, 3) := by decide +kernel
theorem dL_law_860 : decode cL_law 860 = .ok (.aload_n 1, 1) := by decide +kernel
theorem dL_law_861 : decode cL_law 861 = .ok (.aload_n 3, 1) := by decide +kernel
theorem dL_law_862 : decode cL_law 862 = .ok (.invokestatic 114, 3) := by decide +kernel
theorem dL_law_865 : decode cL_law 865 = .ok (.istore 5, 2) := by decide +kernel
theorem dL_law_867 : decode cL_law 867 = .ok (.aload_n 2, 1) := by decide +kernel
theorem dL_law_868 : decode cL_law 868 = .ok (.invokevirtual 116, 3) := by decide +kernel
theorem dL_law_871 : decode cL_law 871 = .ok (.istore 6, 2) := by decide +kernel
theorem dL_law_873 : decode cL_law 873 = .ok (.aload_n 2, 1) := by decide +kernel
theorem dL_law_874 : decode cL_law 874 = .ok (.invokevirtual 72, 3) := by decide +kernel
theorem dL_law_877 : decode cL_law 877 = .ok (.iload 5, 2) := by decide +kernel
theorem dL_law_879 : decode cL_law 879 = .ok (.if_icmp .eq 5, 3) := by decide +kernel
theorem dL_law_882 : decode cL_law 882 = .ok (.iconst 0, 1) := by decide +kernel
theorem dL_law_883 : decode cL_law 883 = .ok (.ireturn, 1) := by decide +kernel
theorem dL_law_884 : decode cL_law 884 = .ok (.iload 5, 2) := by decide +kernel
theorem dL_law_886 : decode cL_law 886 = .ok (.ifCond .ne 15, 3) := by decide +kernel
theorem dL_law_889 : decode cL_law 889 = .ok (.aload_n 3, 1) := by decide +kernel
theorem dL_law_890 : decode cL_law 890 = .ok (.iconst 0, 1) := by decide +kernel
theorem dL_law_891 : decode cL_law 891 = .ok (.laload, 1) := by decide +kernel
theorem dL_law_892 : decode cL_law 892 = .ok (.iload 6, 2) := by decide +kernel
theorem dL_law_894 : decode cL_law 894 = .ok (.i2l, 1) := by decide +kernel
theorem dL_law_895 : decode cL_law 895 = .ok (.lcmp, 1) := by decide +kernel
theorem dL_law_896 : decode cL_law 896 = .ok (.ifCond .eq 5, 3) := by decide +kernel
theorem dL_law_899 : decode cL_law 899 = .ok (.iconst 0, 1) := by decide +kernel
theorem dL_law_900 : decode cL_law 900 = .ok (.ireturn, 1) := by decide +kernel
theorem dL_law_901 : decode cL_law 901 = .ok (.goto 3, 3) := by decide +kernel
theorem dL_law_904 : decode cL_law 904 = .ok (.iinc 4 5, 3) := by decide +kernel
theorem dL_law_907 : decode cL_law 907 = .ok (.goto (-884), 3) := by decide +kernel
theorem dL_law_910 : decode cL_law 910 = .ok (.iconst 1, 1) := by decide +kernel
theorem dL_law_911 : decode cL_law 911 = .ok (.ireturn, 1) := by decide +kernel
theorem dX12_place_0 : decode cX12_place 0 = .ok (.aload_n 0, 1) := by decide +kernel
theorem dX12_place_1 : decode cX12_place 1 = .ok (.iconst 0, 1) := by decide +kernel
theorem dX12_place_2 : decode cX12_place 2 = .ok (.putfield 265, 3) := by decide +kernel
theorem dX12_place_5 : decode cX12_place 5 = .ok (.aload_n 0, 1) := by decide +kernel
theorem dX12_place_6 : decode cX12_place 6 = .ok (.getfield 16, 3) := by decide +kernel
theorem dX12_place_9 : decode cX12_place 9 = .ok (.ireturn, 1) := by decide +kernel
theorem dX12_turn_0 : decode cX12_turn 0 = .ok (.aload_n 0, 1) := by decide +kernel
theorem dX12_turn_1 : decode cX12_turn 1 = .ok (.aload_n 0, 1) := by decide +kernel
theorem dX12_turn_2 : decode cX12_turn 2 = .ok (.getfield 271, 3) := by decide +kernel
theorem dX12_turn_5 : decode cX12_turn 5 = .ok (.sipush 700, 3) := by decide +kernel
theorem dX12_turn_8 : decode cX12_turn 8 = .ok (.if_icmp .le 7, 3) := by decide +kernel
theorem dX12_turn_11 : decode cX12_turn 11 = .ok (.iconst 1, 1) := by decide +kernel
theorem dX12_turn_12 : decode cX12_turn 12 = .ok (.goto 4, 3) := by decide +kernel
theorem dX12_turn_15 : decode cX12_turn 15 = .ok (.iconst 0, 1) := by decide +kernel
theorem dX12_turn_16 : decode cX12_turn 16 = .ok (.putfield 265, 3) := by decide +kernel
theorem dX12_turn_19 : decode cX12_turn 19 = .ok (.aload_n 0, 1) := by decide +kernel
theorem dX12_turn_20 : decode cX12_turn 20 = .ok (.getfield 265, 3) := by decide +kernel
theorem dX12_turn_23 : decode cX12_turn 23 = .ok (.ifCond .eq 5, 3) := by decide +kernel
theorem dX12_turn_26 : decode cX12_turn 26 = .ok (.iconst 0, 1) := by decide +kernel
theorem dX12_turn_27 : decode cX12_turn 27 = .ok (.ireturn, 1) := by decide +kernel
theorem dX12_turn_28 : decode cX12_turn 28 = .ok (.iconst 0, 1) := by decide +kernel
theorem dX12_turn_29 : decode cX12_turn 29 = .ok (.istore_n 1, 1) := by decide +kernel
theorem dX12_turn_30 : decode cX12_turn 30 = .ok (.iload_n 1, 1) := by decide +kernel
theorem dX12_turn_31 : decode cX12_turn 31 = .ok (.aload_n 0, 1) := by decide +kernel
theorem dX12_turn_32 : decode cX12_turn 32 = .ok (.getfield 271, 3) := by decide +kernel
theorem dX12_turn_35 : decode cX12_turn 35 = .ok (.if_icmp .ge 21, 3) := by decide +kernel
theorem dX12_turn_38 : decode cX12_turn 38 = .ok (.aload_n 0, 1) := by decide +kernel
theorem dX12_turn_39 : decode cX12_turn 39 = .ok (.getfield 7, 3) := by decide +kernel
theorem dX12_turn_42 : decode cX12_turn 42 = .ok (.iload_n 1, 1) := by decide +kernel
theorem dX12_turn_43 : decode cX12_turn 43 = .ok (.aload_n 0, 1) := by decide +kernel
theorem dX12_turn_44 : decode cX12_turn 44 = .ok (.getfield 13, 3) := by decide +kernel
theorem dX12_turn_47 : decode cX12_turn 47 = .ok (.iload_n 1, 1) := by decide +kernel
theorem dX12_turn_48 : decode cX12_turn 48 = .ok (.iaload, 1) := by decide +kernel
theorem dX12_turn_49 : decode cX12_turn 49 = .ok (.iastore, 1) := by decide +kernel
theorem dX12_turn_50 : decode cX12_turn 50 = .ok (.iinc 1 1, 3) := by decide +kernel
theorem dX12_turn_53 : decode cX12_turn 53 = .ok (.goto (-23), 3) := by decide +kernel
theorem dX12_turn_56 : decode cX12_turn 56 = .ok (.aload_n 0, 1) := by decide +kernel
theorem dX12_turn_57 : decode cX12_turn 57 = .ok (.aload_n 0, 1) := by decide +kernel
theorem dX12_turn_58 : decode cX12_turn 58 = .ok (.getfield 271, 3) := by decide +kernel
theorem dX12_turn_61 : decode cX12_turn 61 = .ok (.putfield 268, 3) := by decide +kernel
theorem dX12_turn_64 : decode cX12_turn 64 = .ok (.aload_n 0, 1) := by decide +kernel
theorem dX12_turn_65 : decode cX12_turn 65 = .ok (.getfield 268, 3) := by decide +kernel
theorem dX12_turn_68 : decode cX12_turn 68 = .ok (.ireturn, 1) := by decide +kernel
theorem dX12_thrown_0 : decode cX12_thrown 0 = .ok (.aload_n 0, 1) := by decide +kernel
theorem dX12_thrown_1 : decode cX12_thrown 1 = .ok (.getfield 265, 3) := by decide +kernel
theorem dX12_thrown_4 : decode cX12_thrown 4 = .ok (.ireturn, 1) := by decide +kernel
theorem dX12_emptyOut_0 : decode cX12_emptyOut 0 = .ok (.aload_n 0, 1) := by decide +kernel
theorem dX12_emptyOut_1 : decode cX12_emptyOut 1 = .ok (.iconst 0, 1) := by decide +kernel
theorem dX12_emptyOut_2 : decode cX12_emptyOut 2 = .ok (.putfield 271, 3) := by decide +kernel
theorem dX12_emptyOut_5 : decode cX12_emptyOut 5 = .ok (.aload_n 0, 1) := by decide +kernel
theorem dX12_emptyOut_6 : decode cX12_emptyOut 6 = .ok (.iconst 0, 1) := by decide +kernel
theorem dX12_emptyOut_7 : decode cX12_emptyOut 7 = .ok (.putfield 697, 3) := by decide +kernel
theorem dX12_emptyOut_10 : decode cX12_emptyOut 10 = .ok (.return_, 1) := by decide +kernel
theorem dX12_encode_0 : decode cX12_encode 0 = .ok (.aload_n 0, 1) := by decide +kernel
theorem dX12_encode_1 : decode cX12_encode 1 = .ok (.invokevirtual 746, 3) := by decide +kernel
theorem dX12_encode_4 : decode cX12_encode 4 = .ok (.aload_n 0, 1) := by decide +kernel
theorem dX12_encode_5 : decode cX12_encode 5 = .ok (.aload_n 0, 1) := by decide +kernel
theorem dX12_encode_6 : decode cX12_encode 6 = .ok (.getfield 551, 3) := by decide +kernel
theorem dX12_encode_9 : decode cX12_encode 9 = .ok (.ifCond .eq 7, 3) := by decide +kernel
theorem dX12_encode_12 : decode cX12_encode 12 = .ok (.iconst 0, 1) := by decide +kernel
theorem dX12_encode_13 : decode cX12_encode 13 = .ok (.goto 4, 3) := by decide +kernel
theorem dX12_encode_16 : decode cX12_encode 16 = .ok (.iconst 1, 1) := by decide +kernel
theorem dX12_encode_17 : decode cX12_encode 17 = .ok (.putfield 265, 3) := by decide +kernel
theorem dX12_encode_20 : decode cX12_encode 20 = .ok (.aload_n 0, 1) := by decide +kernel
theorem dX12_encode_21 : decode cX12_encode 21 = .ok (.getfield 265, 3) := by decide +kernel
theorem dX12_encode_24 : decode cX12_encode 24 = .ok (.ifCond .eq 5, 3) := by decide +kernel
theorem dX12_encode_27 : decode cX12_encode 27 = .ok (.iconst 0, 1) := by decide +kernel
theorem dX12_encode_28 : decode cX12_encode 28 = .ok (.ireturn, 1) := by decide +kernel
theorem dX12_encode_29 : decode cX12_encode 29 = .ok (.aload_n 0, 1) := by decide +kernel
theorem dX12_encode_30 : decode cX12_encode 30 = .ok (.invokevirtual 749, 3) := by decide +kernel
theorem dX12_encode_33 : decode cX12_encode 33 = .ok (.aload_n 0, 1) := by decide +kernel
theorem dX12_encode_34 : decode cX12_encode 34 = .ok (.iconst 0, 1) := by decide +kernel
theorem dX12_encode_35 : decode cX12_encode 35 = .ok (.putfield 650, 3) := by decide +kernel
theorem dX12_encode_38 : decode cX12_encode 38 = .ok (.aload_n 0, 1) := by decide +kernel
theorem dX12_encode_39 : decode cX12_encode 39 = .ok (.iconst 0, 1) := by decide +kernel
theorem dX12_encode_40 : decode cX12_encode 40 = .ok (.invokevirtual 743, 3) := by decide +kernel
theorem dX12_encode_43 : decode cX12_encode 43 = .ok (.aload_n 0, 1) := by decide +kernel
theorem dX12_encode_44 : decode cX12_encode 44 = .ok (.getfield 650, 3) := by decide +kernel
theorem dX12_encode_47 : decode cX12_encode 47 = .ok (.ifCond .le 10, 3) := by decide +kernel
theorem dX12_encode_50 : decode cX12_encode 50 = .ok (.aload_n 0, 1) := by decide +kernel
theorem dX12_encode_51 : decode cX12_encode 51 = .ok (.invokevirtual 752, 3) := by decide +kernel
theorem dX12_encode_54 : decode cX12_encode 54 = .ok (.goto (-11), 3) := by decide +kernel
theorem dX12_encode_57 : decode cX12_encode 57 = .ok (.aload_n 0, 1) := by decide +kernel
theorem dX12_encode_58 : decode cX12_encode 58 = .ok (.getfield 271, 3) := by decide +kernel
theorem dX12_encode_61 : decode cX12_encode 61 = .ok (.ireturn, 1) := by decide +kernel
theorem dX12_print_0 : decode cX12_print 0 = .ok (.aload_n 0, 1) := by decide +kernel
theorem dX12_print_1 : decode cX12_print 1 = .ok (.invokevirtual 746, 3) := by decide +kernel
theorem dX12_print_4 : decode cX12_print 4 = .ok (.aload_n 0, 1) := by decide +kernel
theorem dX12_print_5 : decode cX12_print 5 = .ok (.aload_n 0, 1) := by decide +kernel
theorem dX12_print_6 : decode cX12_print 6 = .ok (.getfield 551, 3) := by decide +kernel
theorem dX12_print_9 : decode cX12_print 9 = .ok (.ifCond .eq 7, 3) := by decide +kernel
theorem dX12_print_12 : decode cX12_print 12 = .ok (.iconst 0, 1) := by decide +kernel
theorem dX12_print_13 : decode cX12_print 13 = .ok (.goto 4, 3) := by decide +kernel
theorem dX12_print_16 : decode cX12_print 16 = .ok (.iconst 1, 1) := by decide +kernel
theorem dX12_print_17 : decode cX12_print 17 = .ok (.putfield 265, 3) := by decide +kernel
theorem dX12_print_20 : decode cX12_print 20 = .ok (.aload_n 0, 1) := by decide +kernel
theorem dX12_print_21 : decode cX12_print 21 = .ok (.getfield 265, 3) := by decide +kernel
theorem dX12_print_24 : decode cX12_print 24 = .ok (.ifCond .eq 5, 3) := by decide +kernel
theorem dX12_print_27 : decode cX12_print 27 = .ok (.iconst 0, 1) := by decide +kernel
theorem dX12_print_28 : decode cX12_print 28 = .ok (.ireturn, 1) := by decide +kernel
theorem dX12_print_29 : decode cX12_print 29 = .ok (.aload_n 0, 1) := by decide +kernel
theorem dX12_print_30 : decode cX12_print 30 = .ok (.iconst 0, 1) := by decide +kernel
theorem dX12_print_31 : decode cX12_print 31 = .ok (.putfield 650, 3) := by decide +kernel
theorem dX12_print_34 : decode cX12_print 34 = .ok (.aload_n 0, 1) := by decide +kernel
theorem dX12_print_35 : decode cX12_print 35 = .ok (.iconst 0, 1) := by decide +kernel
theorem dX12_print_36 : decode cX12_print 36 = .ok (.invokevirtual 743, 3) := by decide +kernel
theorem dX12_print_39 : decode cX12_print 39 = .ok (.aload_n 0, 1) := by decide +kernel
theorem dX12_print_40 : decode cX12_print 40 = .ok (.getfield 650, 3) := by decide +kernel
theorem dX12_print_43 : decode cX12_print 43 = .ok (.ifCond .le 10, 3) := by decide +kernel
theorem dX12_print_46 : decode cX12_print 46 = .ok (.aload_n 0, 1) := by decide +kernel
theorem dX12_print_47 : decode cX12_print 47 = .ok (.invokevirtual 786, 3) := by decide +kernel
theorem dX12_print_50 : decode cX12_print 50 = .ok (.goto (-11), 3) := by decide +kernel
theorem dX12_print_53 : decode cX12_print 53 = .ok (.aload_n 0, 1) := by decide +kernel
theorem dX12_print_54 : decode cX12_print 54 = .ok (.getfield 697, 3) := by decide +kernel
theorem dX12_print_57 : decode cX12_print 57 = .ok (.ifCond .eq 12, 3) := by decide +kernel
theorem dX12_print_60 : decode cX12_print 60 = .ok (.aload_n 0, 1) := by decide +kernel
theorem dX12_print_61 : decode cX12_print 61 = .ok (.invokevirtual 746, 3) := by decide +kernel
theorem dX12_print_64 : decode cX12_print 64 = .ok (.aload_n 0, 1) := by decide +kernel
theorem dX12_print_65 : decode cX12_print 65 = .ok (.iconst 2, 1) := by decide +kernel
theorem dX12_print_66 : decode cX12_print 66 = .ok (.putfield 265, 3) := by decide +kernel
theorem dX12_print_69 : decode cX12_print 69 = .ok (.aload_n 0, 1) := by decide +kernel
theorem dX12_print_70 : decode cX12_print 70 = .ok (.getfield 271, 3) := by decide +kernel
theorem dX12_print_73 : decode cX12_print 73 = .ok (.ireturn, 1) := by decide +kernel
theorem dX12_isSchema_0 : decode cX12_isSchema 0 = .ok (.iload_n 0, 1) := by decide +kernel
theorem dX12_isSchema_1 : decode cX12_isSchema 1 = .ok (.ifCond .eq 8, 3) := by decide +kernel
theorem dX12_isSchema_4 : decode cX12_isSchema 4 = .ok (.iload_n 0, 1) := by decide +kernel
theorem dX12_isSchema_5 : decode cX12_isSchema 5 = .ok (.iconst 1, 1) := by decide +kernel
theorem dX12_isSchema_6 : decode cX12_isSchema 6 = .ok (.if_icmp .ne 7, 3) := by decide +kernel
theorem dX12_isSchema_9 : decode cX12_isSchema 9 = .ok (.iconst 1, 1) := by decide +kernel
theorem dX12_isSchema_10 : decode cX12_isSchema 10 = .ok (.goto 4, 3) := by decide +kernel
theorem dX12_isSchema_13 : decode cX12_isSchema 13 = .ok (.iconst 0, 1) := by decide +kernel
theorem dX12_isSchema_14 : decode cX12_isSchema 14 = .ok (.ireturn, 1) := by decide +kernel
theorem dX12_byteAt_0 : decode cX12_byteAt 0 = .ok (.iload_n 1, 1) := by decide +kernel
theorem dX12_byteAt_1 : decode cX12_byteAt 1 = .ok (.aload_n 0, 1) := by decide +kernel
theorem dX12_byteAt_2 : decode cX12_byteAt 2 = .ok (.getfield 274, 3) := by decide +kernel
theorem dX12_byteAt_5 : decode cX12_byteAt 5 = .ok (.if_icmp .ge 12, 3) := by decide +kernel
theorem dX12_byteAt_8 : decode cX12_byteAt 8 = .ok (.aload_n 0, 1) := by decide +kernel
theorem dX12_byteAt_9 : decode cX12_byteAt 9 = .ok (.getfield 7, 3) := by decide +kernel
theorem dX12_byteAt_12 : decode cX12_byteAt 12 = .ok (.iload_n 1, 1) := by decide +kernel
theorem dX12_byteAt_13 : decode cX12_byteAt 13 = .ok (.iaload, 1) := by decide +kernel
theorem dX12_byteAt_14 : decode cX12_byteAt 14 = .ok (.goto 4, 3) := by decide +kernel
theorem dX12_byteAt_17 : decode cX12_byteAt 17 = .ok (.iconst (-1), 1) := by decide +kernel
theorem dX12_byteAt_18 : decode cX12_byteAt 18 = .ok (.ireturn, 1) := by decide +kernel
theorem dX12_isBlank_0 : decode cX12_isBlank 0 = .ok (.iload_n 0, 1) := by decide +kernel
theorem dX12_isBlank_1 : decode cX12_isBlank 1 = .ok (.bipush 9, 2) := by decide +kernel
theorem dX12_isBlank_3 : decode cX12_isBlank 3 = .ok (.if_icmp .eq 21, 3) := by decide +kernel
theorem dX12_isBlank_6 : decode cX12_isBlank 6 = .ok (.iload_n 0, 1) := by decide +kernel
theorem dX12_isBlank_7 : decode cX12_isBlank 7 = .ok (.bipush 10, 2) := by decide +kernel
theorem dX12_isBlank_9 : decode cX12_isBlank 9 = .ok (.if_icmp .eq 15, 3) := by decide +kernel
theorem dX12_isBlank_12 : decode cX12_isBlank 12 = .ok (.iload_n 0, 1) := by decide +kernel
theorem dX12_isBlank_13 : decode cX12_isBlank 13 = .ok (.bipush 13, 2) := by decide +kernel
theorem dX12_isBlank_15 : decode cX12_isBlank 15 = .ok (.if_icmp .eq 9, 3) := by decide +kernel
theorem dX12_isBlank_18 : decode cX12_isBlank 18 = .ok (.iload_n 0, 1) := by decide +kernel
theorem dX12_isBlank_19 : decode cX12_isBlank 19 = .ok (.bipush 32, 2) := by decide +kernel
theorem dX12_isBlank_21 : decode cX12_isBlank 21 = .ok (.if_icmp .ne 7, 3) := by decide +kernel
theorem dX12_isBlank_24 : decode cX12_isBlank 24 = .ok (.iconst 1, 1) := by decide +kernel
theorem dX12_isBlank_25 : decode cX12_isBlank 25 = .ok (.goto 4, 3) := by decide +kernel
theorem dX12_isBlank_28 : decode cX12_isBlank 28 = .ok (.iconst 0, 1) := by decide +kernel
theorem dX12_isBlank_29 : decode cX12_isBlank 29 = .ok (.ireturn, 1) := by decide +kernel
theorem dX12_behindComment_0 : decode cX12_behindComment 0 = .ok (.aload_n 0, 1) := by decide +kernel
theorem dX12_behindComment_1 : decode cX12_behindComment 1 = .ok (.iload_n 1, 1) := by decide +kernel
theorem dX12_behindComment_2 : decode cX12_behindComment 2 = .ok (.invokevirtual 284, 3) := by decide +kernel
theorem dX12_behindComment_5 : decode cX12_behindComment 5 = .ok (.bipush 47, 2) := by decide +kernel
theorem dX12_behindComment_7 : decode cX12_behindComment 7 = .ok (.if_icmp .eq 5, 3) := by decide +kernel
theorem dX12_behindComment_10 : decode cX12_behindComment 10 = .ok (.iload_n 1, 1) := by decide +kernel
theorem dX12_behindComment_11 : decode cX12_behindComment 11 = .ok (.ireturn, 1) := by decide +kernel
theorem dX12_behindComment_12 : decode cX12_behindComment 12 = .ok (.iload_n 1, 1) := by decide +kernel
theorem dX12_behindComment_13 : decode cX12_behindComment 13 = .ok (.iconst 2, 1) := by decide +kernel
theorem dX12_behindComment_14 : decode cX12_behindComment 14 = .ok (.iadd, 1) := by decide +kernel
theorem dX12_behindComment_15 : decode cX12_behindComment 15 = .ok (.istore_n 2, 1) := by decide +kernel
theorem dX12_behindComment_16 : decode cX12_behindComment 16 = .ok (.aload_n 0, 1) := by decide +kernel
theorem dX12_behindComment_17 : decode cX12_behindComment 17 = .ok (.iload_n 1, 1) := by decide +kernel
theorem dX12_behindComment_18 : decode cX12_behindComment 18 = .ok (.iconst 1, 1) := by decide +kernel
theorem dX12_behindComment_19 : decode cX12_behindComment 19 = .ok (.iadd, 1) := by decide +kernel
theorem dX12_behindComment_20 : decode cX12_behindComment 20 = .ok (.invokevirtual 284, 3) := by decide +kernel
theorem dX12_behindComment_23 : decode cX12_behindComment 23 = .ok (.bipush 47, 2) := by decide +kernel
theorem dX12_behindComment_25 : decode cX12_behindComment 25 = .ok (.if_icmp .ne 29, 3) := by decide +kernel
theorem dX12_behindComment_28 : decode cX12_behindComment 28 = .ok (.iload_n 2, 1) := by decide +kernel
theorem dX12_behindComment_29 : decode cX12_behindComment 29 = .ok (.aload_n 0, 1) := by decide +kernel
theorem dX12_behindComment_30 : decode cX12_behindComment 30 = .ok (.getfield 274, 3) := by decide +kernel
theorem dX12_behindComment_33 : decode cX12_behindComment 33 = .ok (.if_icmp .ge 19, 3) := by decide +kernel
theorem dX12_behindComment_36 : decode cX12_behindComment 36 = .ok (.aload_n 0, 1) := by decide +kernel
theorem dX12_behindComment_37 : decode cX12_behindComment 37 = .ok (.iload_n 2, 1) := by decide +kernel
theorem dX12_behindComment_38 : decode cX12_behindComment 38 = .ok (.invokevirtual 284, 3) := by decide +kernel
theorem dX12_behindComment_41 : decode cX12_behindComment 41 = .ok (.bipush 10, 2) := by decide +kernel
theorem dX12_behindComment_43 : decode cX12_behindComment 43 = .ok (.if_icmp .eq 9, 3) := by decide +kernel
theorem dX12_behindComment_46 : decode cX12_behindComment 46 = .ok (.iinc 2 1, 3) := by decide +kernel
theorem dX12_behindComment_49 : decode cX12_behindComment 49 = .ok (.goto (-21), 3) := by decide +kernel
theorem dX12_behindComment_52 : decode cX12_behindComment 52 = .ok (.iload_n 2, 1) := by decide +kernel
theorem dX12_behindComment_53 : decode cX12_behindComment 53 = .ok (.ireturn, 1) := by decide +kernel
theorem dX12_behindComment_54 : decode cX12_behindComment 54 = .ok (.aload_n 0, 1) := by decide +kernel
theorem dX12_behindComment_55 : decode cX12_behindComment 55 = .ok (.iload_n 1, 1) := by decide +kernel
theorem dX12_behindComment_56 : decode cX12_behindComment 56 = .ok (.iconst 1, 1) := by decide +kernel
theorem dX12_behindComment_57 : decode cX12_behindComment 57 = .ok (.iadd, 1) := by decide +kernel
theorem dX12_behindComment_58 : decode cX12_behindComment 58 = .ok (.invokevirtual 284, 3) := by decide +kernel
theorem dX12_behindComment_61 : decode cX12_behindComment 61 = .ok (.bipush 42, 2) := by decide +kernel
theorem dX12_behindComment_63 : decode cX12_behindComment 63 = .ok (.if_icmp .eq 5, 3) := by decide +kernel
theorem dX12_behindComment_66 : decode cX12_behindComment 66 = .ok (.iload_n 1, 1) := by decide +kernel
theorem dX12_behindComment_67 : decode cX12_behindComment 67 = .ok (.ireturn, 1) := by decide +kernel
theorem dX12_behindComment_68 : decode cX12_behindComment 68 = .ok (.iload_n 2, 1) := by decide +kernel
theorem dX12_behindComment_69 : decode cX12_behindComment 69 = .ok (.iconst 1, 1) := by decide +kernel
theorem dX12_behindComment_70 : decode cX12_behindComment 70 = .ok (.iadd, 1) := by decide +kernel
theorem dX12_behindComment_71 : decode cX12_behindComment 71 = .ok (.aload_n 0, 1) := by decide +kernel
theorem dX12_behindComment_72 : decode cX12_behindComment 72 = .ok (.getfield 274, 3) := by decide +kernel
theorem dX12_behindComment_75 : decode cX12_behindComment 75 = .ok (.if_icmp .ge 31, 3) := by decide +kernel
theorem dX12_behindComment_78 : decode cX12_behindComment 78 = .ok (.aload_n 0, 1) := by decide +kernel
theorem dX12_behindComment_79 : decode cX12_behindComment 79 = .ok (.iload_n 2, 1) := by decide +kernel
theorem dX12_behindComment_80 : decode cX12_behindComment 80 = .ok (.invokevirtual 284, 3) := by decide +kernel
theorem dX12_behindComment_83 : decode cX12_behindComment 83 = .ok (.bipush 42, 2) := by decide +kernel
theorem dX12_behindComment_85 : decode cX12_behindComment 85 = .ok (.if_icmp .ne 15, 3) := by decide +kernel
theorem dX12_behindComment_88 : decode cX12_behindComment 88 = .ok (.aload_n 0, 1) := by decide +kernel
theorem dX12_behindComment_89 : decode cX12_behindComment 89 = .ok (.iload_n 2, 1) := by decide +kernel
theorem dX12_behindComment_90 : decode cX12_behindComment 90 = .ok (.iconst 1, 1) := by decide +kernel
theorem dX12_behindComment_91 : decode cX12_behindComment 91 = .ok (.iadd, 1) := by decide +kernel
theorem dX12_behindComment_92 : decode cX12_behindComment 92 = .ok (.invokevirtual 284, 3) := by decide +kernel
theorem dX12_behindComment_95 : decode cX12_behindComment 95 = .ok (.bipush 47, 2) := by decide +kernel
theorem dX12_behindComment_97 : decode cX12_behindComment 97 = .ok (.if_icmp .eq 9, 3) := by decide +kernel
theorem dX12_behindComment_100 : decode cX12_behindComment 100 = .ok (.iinc 2 1, 3) := by decide +kernel
theorem dX12_behindComment_103 : decode cX12_behindComment 103 = .ok (.goto (-35), 3) := by decide +kernel
theorem dX12_behindComment_106 : decode cX12_behindComment 106 = .ok (.iload_n 2, 1) := by decide +kernel
theorem dX12_behindComment_107 : decode cX12_behindComment 107 = .ok (.iconst 1, 1) := by decide +kernel
theorem dX12_behindComment_108 : decode cX12_behindComment 108 = .ok (.iadd, 1) := by decide +kernel
theorem dX12_behindComment_109 : decode cX12_behindComment 109 = .ok (.aload_n 0, 1) := by decide +kernel
theorem dX12_behindComment_110 : decode cX12_behindComment 110 = .ok (.getfield 274, 3) := by decide +kernel
theorem dX12_behindComment_113 : decode cX12_behindComment 113 = .ok (.if_icmp .lt 8, 3) := by decide +kernel
theorem dX12_behindComment_116 : decode cX12_behindComment 116 = .ok (.aload_n 0, 1) := by decide +kernel
theorem dX12_behindComment_117 : decode cX12_behindComment 117 = .ok (.iconst 1, 1) := by decide +kernel
theorem dX12_behindComment_118 : decode cX12_behindComment 118 = .ok (.putfield 288, 3) := by decide +kernel
theorem dX12_behindComment_121 : decode cX12_behindComment 121 = .ok (.iload_n 2, 1) := by decide +kernel
theorem dX12_behindComment_122 : decode cX12_behindComment 122 = .ok (.iconst 1, 1) := by decide +kernel
theorem dX12_behindComment_123 : decode cX12_behindComment 123 = .ok (.iadd, 1) := by decide +kernel
theorem dX12_behindComment_124 : decode cX12_behindComment 124 = .ok (.aload_n 0, 1) := by decide +kernel
theorem dX12_behindComment_125 : decode cX12_behindComment 125 = .ok (.getfield 274, 3) := by decide +kernel
theorem dX12_behindComment_128 : decode cX12_behindComment 128 = .ok (.if_icmp .ge 9, 3) := by decide +kernel
theorem dX12_behindComment_131 : decode cX12_behindComment 131 = .ok (.iload_n 2, 1) := by decide +kernel
theorem dX12_behindComment_132 : decode cX12_behindComment 132 = .ok (.iconst 2, 1) := by decide +kernel
theorem dX12_behindComment_133 : decode cX12_behindComment 133 = .ok (.iadd, 1) := by decide +kernel
theorem dX12_behindComment_134 : decode cX12_behindComment 134 = .ok (.goto 7, 3) := by decide +kernel
theorem dX12_behindComment_137 : decode cX12_behindComment 137 = .ok (.aload_n 0, 1) := by decide +kernel
theorem dX12_behindComment_138 : decode cX12_behindComment 138 = .ok (.getfield 274, 3) := by decide +kernel
theorem dX12_behindComment_141 : decode cX12_behindComment 141 = .ok (.ireturn, 1) := by decide +kernel
theorem dX12_behindBlanks_0 : decode cX12_behindBlanks 0 = .ok (.iload_n 1, 1) := by decide +kernel
theorem dX12_behindBlanks_1 : decode cX12_behindBlanks 1 = .ok (.istore_n 2, 1) := by decide +kernel
theorem dX12_behindBlanks_2 : decode cX12_behindBlanks 2 = .ok (.iconst 1, 1) := by decide +kernel
theorem dX12_behindBlanks_3 : decode cX12_behindBlanks 3 = .ok (.istore_n 3, 1) := by decide +kernel
theorem dX12_behindBlanks_4 : decode cX12_behindBlanks 4 = .ok (.iload_n 3, 1) := by decide +kernel
theorem dX12_behindBlanks_5 : decode cX12_behindBlanks 5 = .ok (.ifCond .eq 45, 3) := by decide +kernel
theorem dX12_behindBlanks_8 : decode cX12_behindBlanks 8 = .ok (.aload_n 0, 1) := by decide +kernel
theorem dX12_behindBlanks_9 : decode cX12_behindBlanks 9 = .ok (.iload_n 2, 1) := by decide +kernel
theorem dX12_behindBlanks_10 : decode cX12_behindBlanks 10 = .ok (.invokevirtual 284, 3) := by decide +kernel
theorem dX12_behindBlanks_13 : decode cX12_behindBlanks 13 = .ok (.invokestatic 292, 3) := by decide +kernel
theorem dX12_behindBlanks_16 : decode cX12_behindBlanks 16 = .ok (.ifCond .eq 9, 3) := by decide +kernel
theorem dX12_behindBlanks_19 : decode cX12_behindBlanks 19 = .ok (.iload_n 2, 1) := by decide +kernel
theorem dX12_behindBlanks_20 : decode cX12_behindBlanks 20 = .ok (.iconst 1, 1) := by decide +kernel
theorem dX12_behindBlanks_21 : decode cX12_behindBlanks 21 = .ok (.iadd, 1) := by decide +kernel
theorem dX12_behindBlanks_22 : decode cX12_behindBlanks 22 = .ok (.goto 8, 3) := by decide +kernel
theorem dX12_behindBlanks_25 : decode cX12_behindBlanks 25 = .ok (.aload_n 0, 1) := by decide +kernel
theorem dX12_behindBlanks_26 : decode cX12_behindBlanks 26 = .ok (.iload_n 2, 1) := by decide +kernel
theorem dX12_behindBlanks_27 : decode cX12_behindBlanks 27 = .ok (.invokevirtual 295, 3) := by decide +kernel
theorem dX12_behindBlanks_30 : decode cX12_behindBlanks 30 = .ok (.istore 4, 2) := by decide +kernel
theorem dX12_behindBlanks_32 : decode cX12_behindBlanks 32 = .ok (.iload 4, 2) := by decide +kernel
theorem dX12_behindBlanks_34 : decode cX12_behindBlanks 34 = .ok (.iload_n 2, 1) := by decide +kernel
theorem dX12_behindBlanks_35 : decode cX12_behindBlanks 35 = .ok (.if_icmp .le 7, 3) := by decide +kernel
theorem dX12_behindBlanks_38 : decode cX12_behindBlanks 38 = .ok (.iconst 1, 1) := by decide +kernel
theorem dX12_behindBlanks_39 : decode cX12_behindBlanks 39 = .ok (.goto 4, 3) := by decide +kernel
theorem dX12_behindBlanks_42 : decode cX12_behindBlanks 42 = .ok (.iconst 0, 1) := by decide +kernel
theorem dX12_behindBlanks_43 : decode cX12_behindBlanks 43 = .ok (.istore_n 3, 1) := by decide +kernel
theorem dX12_behindBlanks_44 : decode cX12_behindBlanks 44 = .ok (.iload 4, 2) := by decide +kernel
theorem dX12_behindBlanks_46 : decode cX12_behindBlanks 46 = .ok (.istore_n 2, 1) := by decide +kernel
theorem dX12_behindBlanks_47 : decode cX12_behindBlanks 47 = .ok (.goto (-43), 3) := by decide +kernel
theorem dX12_behindBlanks_50 : decode cX12_behindBlanks 50 = .ok (.iload_n 2, 1) := by decide +kernel
theorem dX12_behindBlanks_51 : decode cX12_behindBlanks 51 = .ok (.ireturn, 1) := by decide +kernel
theorem dX12_isLetter_0 : decode cX12_isLetter 0 = .ok (.iload_n 0, 1) := by decide +kernel
theorem dX12_isLetter_1 : decode cX12_isLetter 1 = .ok (.bipush 97, 2) := by decide +kernel
theorem dX12_isLetter_3 : decode cX12_isLetter 3 = .ok (.if_icmp .lt 9, 3) := by decide +kernel
theorem dX12_isLetter_6 : decode cX12_isLetter 6 = .ok (.iload_n 0, 1) := by decide +kernel
theorem dX12_isLetter_7 : decode cX12_isLetter 7 = .ok (.bipush 122, 2) := by decide +kernel
theorem dX12_isLetter_9 : decode cX12_isLetter 9 = .ok (.if_icmp .le 15, 3) := by decide +kernel
theorem dX12_isLetter_12 : decode cX12_isLetter 12 = .ok (.iload_n 0, 1) := by decide +kernel
theorem dX12_isLetter_13 : decode cX12_isLetter 13 = .ok (.bipush 65, 2) := by decide +kernel
theorem dX12_isLetter_15 : decode cX12_isLetter 15 = .ok (.if_icmp .lt 13, 3) := by decide +kernel
theorem dX12_isLetter_18 : decode cX12_isLetter 18 = .ok (.iload_n 0, 1) := by decide +kernel
theorem dX12_isLetter_19 : decode cX12_isLetter 19 = .ok (.bipush 90, 2) := by decide +kernel
theorem dX12_isLetter_21 : decode cX12_isLetter 21 = .ok (.if_icmp .gt 7, 3) := by decide +kernel
theorem dX12_isLetter_24 : decode cX12_isLetter 24 = .ok (.iconst 1, 1) := by decide +kernel
theorem dX12_isLetter_25 : decode cX12_isLetter 25 = .ok (.goto 4, 3) := by decide +kernel
theorem dX12_isLetter_28 : decode cX12_isLetter 28 = .ok (.iconst 0, 1) := by decide +kernel
theorem dX12_isLetter_29 : decode cX12_isLetter 29 = .ok (.ireturn, 1) := by decide +kernel
theorem dX12_isDigit_0 : decode cX12_isDigit 0 = .ok (.iload_n 0, 1) := by decide +kernel
theorem dX12_isDigit_1 : decode cX12_isDigit 1 = .ok (.bipush 48, 2) := by decide +kernel
theorem dX12_isDigit_3 : decode cX12_isDigit 3 = .ok (.if_icmp .lt 13, 3) := by decide +kernel
theorem dX12_isDigit_6 : decode cX12_isDigit 6 = .ok (.iload_n 0, 1) := by decide +kernel
theorem dX12_isDigit_7 : decode cX12_isDigit 7 = .ok (.bipush 57, 2) := by decide +kernel
theorem dX12_isDigit_9 : decode cX12_isDigit 9 = .ok (.if_icmp .gt 7, 3) := by decide +kernel
theorem dX12_isDigit_12 : decode cX12_isDigit 12 = .ok (.iconst 1, 1) := by decide +kernel
theorem dX12_isDigit_13 : decode cX12_isDigit 13 = .ok (.goto 4, 3) := by decide +kernel
theorem dX12_isDigit_16 : decode cX12_isDigit 16 = .ok (.iconst 0, 1) := by decide +kernel
theorem dX12_isDigit_17 : decode cX12_isDigit 17 = .ok (.ireturn, 1) := by decide +kernel
theorem dX12_look_0 : decode cX12_look 0 = .ok (.aload_n 0, 1) := by decide +kernel
theorem dX12_look_1 : decode cX12_look 1 = .ok (.aload_n 0, 1) := by decide +kernel
theorem dX12_look_2 : decode cX12_look 2 = .ok (.iload_n 1, 1) := by decide +kernel
theorem dX12_look_3 : decode cX12_look 3 = .ok (.invokevirtual 319, 3) := by decide +kernel
theorem dX12_look_6 : decode cX12_look 6 = .ok (.putfield 305, 3) := by decide +kernel
theorem dX12_look_9 : decode cX12_look 9 = .ok (.aload_n 0, 1) := by decide +kernel
theorem dX12_look_10 : decode cX12_look 10 = .ok (.aload_n 0, 1) := by decide +kernel
theorem dX12_look_11 : decode cX12_look 11 = .ok (.getfield 305, 3) := by decide +kernel
theorem dX12_look_14 : decode cX12_look 14 = .ok (.invokevirtual 284, 3) := by decide +kernel
theorem dX12_look_17 : decode cX12_look 17 = .ok (.istore_n 2, 1) := by decide +kernel
theorem dX12_look_18 : decode cX12_look 18 = .ok (.aload_n 0, 1) := by decide +kernel
theorem dX12_look_19 : decode cX12_look 19 = .ok (.aload_n 0, 1) := by decide +kernel
theorem dX12_look_20 : decode cX12_look 20 = .ok (.getfield 305, 3) := by decide +kernel
theorem dX12_look_23 : decode cX12_look 23 = .ok (.iconst 1, 1) := by decide +kernel
theorem dX12_look_24 : decode cX12_look 24 = .ok (.iadd, 1) := by decide +kernel
theorem dX12_look_25 : decode cX12_look 25 = .ok (.putfield 316, 3) := by decide +kernel
theorem dX12_look_28 : decode cX12_look 28 = .ok (.aload_n 0, 1) := by decide +kernel
theorem dX12_look_29 : decode cX12_look 29 = .ok (.iload_n 2, 1) := by decide +kernel
theorem dX12_look_30 : decode cX12_look 30 = .ok (.iconst (-1), 1) := by decide +kernel
theorem dX12_look_31 : decode cX12_look 31 = .ok (.if_icmp .eq 7, 3) := by decide +kernel
theorem dX12_look_34 : decode cX12_look 34 = .ok (.iconst 4, 1) := by decide +kernel
theorem dX12_look_35 : decode cX12_look 35 = .ok (.goto 15, 3) := by decide +kernel
theorem dX12_look_38 : decode cX12_look 38 = .ok (.aload_n 0, 1) := by decide +kernel
theorem dX12_look_39 : decode cX12_look 39 = .ok (.getfield 288, 3) := by decide +kernel
theorem dX12_look_42 : decode cX12_look 42 = .ok (.ifCond .eq 7, 3) := by decide +kernel
theorem dX12_look_45 : decode cX12_look 45 = .ok (.iconst 5, 1) := by decide +kernel
theorem dX12_look_46 : decode cX12_look 46 = .ok (.goto 4, 3) := by decide +kernel
theorem dX12_look_49 : decode cX12_look 49 = .ok (.iconst 0, 1) := by decide +kernel
theorem dX12_look_50 : decode cX12_look 50 = .ok (.putfield 298, 3) := by decide +kernel
theorem dX12_look_53 : decode cX12_look 53 = .ok (.iload_n 2, 1) := by decide +kernel
theorem dX12_look_54 : decode cX12_look 54 = .ok (.invokestatic 277, 3) := by decide +kernel
theorem dX12_look_57 : decode cX12_look 57 = .ok (.ifCond .eq 35, 3) := by decide +kernel
theorem dX12_look_60 : decode cX12_look 60 = .ok (.aload_n 0, 1) := by decide +kernel
theorem dX12_look_61 : decode cX12_look 61 = .ok (.iconst 1, 1) := by decide +kernel
theorem dX12_look_62 : decode cX12_look 62 = .ok (.putfield 298, 3) := by decide +kernel
theorem dX12_look_65 : decode cX12_look 65 = .ok (.aload_n 0, 1) := by decide +kernel
theorem dX12_look_66 : decode cX12_look 66 = .ok (.aload_n 0, 1) := by decide +kernel
theorem dX12_look_67 : decode cX12_look 67 = .ok (.getfield 316, 3) := by decide +kernel
theorem dX12_look_70 : decode cX12_look 70 = .ok (.invokevirtual 284, 3) := by decide +kernel
theorem dX12_look_73 : decode cX12_look 73 = .ok (.invokestatic 313, 3) := by decide +kernel
theorem dX12_look_76 : decode cX12_look 76 = .ok (.ifCond .eq 40, 3) := by decide +kernel
theorem dX12_look_79 : decode cX12_look 79 = .ok (.aload_n 0, 1) := by decide +kernel
theorem dX12_look_80 : decode cX12_look 80 = .ok (.dup, 1) := by decide +kernel
theorem dX12_look_81 : decode cX12_look 81 = .ok (.getfield 316, 3) := by decide +kernel
theorem dX12_look_84 : decode cX12_look 84 = .ok (.iconst 1, 1) := by decide +kernel
theorem dX12_look_85 : decode cX12_look 85 = .ok (.iadd, 1) := by decide +kernel
theorem dX12_look_86 : decode cX12_look 86 = .ok (.putfield 316, 3) := by decide +kernel
theorem dX12_look_89 : decode cX12_look 89 = .ok (.goto (-24), 3) := by decide +kernel
theorem dX12_look_92 : decode cX12_look 92 = .ok (.iload_n 2, 1) := by decide +kernel
theorem dX12_look_93 : decode cX12_look 93 = .ok (.invokestatic 281, 3) := by decide +kernel
theorem dX12_look_96 : decode cX12_look 96 = .ok (.ifCond .eq 10, 3) := by decide +kernel
theorem dX12_look_99 : decode cX12_look 99 = .ok (.aload_n 0, 1) := by decide +kernel
theorem dX12_look_100 : decode cX12_look 100 = .ok (.invokevirtual 322, 3) := by decide +kernel
theorem dX12_look_103 : decode cX12_look 103 = .ok (.goto 13, 3) := by decide +kernel
theorem dX12_look_106 : decode cX12_look 106 = .ok (.iload_n 2, 1) := by decide +kernel
theorem dX12_look_107 : decode cX12_look 107 = .ok (.bipush 34, 2) := by decide +kernel
theorem dX12_look_109 : decode cX12_look 109 = .ok (.if_icmp .ne 7, 3) := by decide +kernel
theorem dX12_look_112 : decode cX12_look 112 = .ok (.aload_n 0, 1) := by decide +kernel
theorem dX12_look_113 : decode cX12_look 113 = .ok (.invokevirtual 325, 3) := by decide +kernel
theorem dX12_look_116 : decode cX12_look 116 = .ok (.return_, 1) := by decide +kernel
theorem dX12_isWord_0 : decode cX12_isWord 0 = .ok (.aload_n 0, 1) := by decide +kernel
theorem dX12_isWord_1 : decode cX12_isWord 1 = .ok (.getfield 298, 3) := by decide +kernel
theorem dX12_isWord_4 : decode cX12_isWord 4 = .ok (.iconst 1, 1) := by decide +kernel
theorem dX12_isWord_5 : decode cX12_isWord 5 = .ok (.if_icmp .ne 23, 3) := by decide +kernel
theorem dX12_isWord_8 : decode cX12_isWord 8 = .ok (.aload_n 0, 1) := by decide +kernel
theorem dX12_isWord_9 : decode cX12_isWord 9 = .ok (.aload_n 0, 1) := by decide +kernel
theorem dX12_isWord_10 : decode cX12_isWord 10 = .ok (.getfield 305, 3) := by decide +kernel
theorem dX12_isWord_13 : decode cX12_isWord 13 = .ok (.aload_n 0, 1) := by decide +kernel
theorem dX12_isWord_14 : decode cX12_isWord 14 = .ok (.getfield 316, 3) := by decide +kernel
theorem dX12_isWord_17 : decode cX12_isWord 17 = .ok (.lload_n 1, 1) := by decide +kernel
theorem dX12_isWord_18 : decode cX12_isWord 18 = .ok (.invokevirtual 342, 3) := by decide +kernel
theorem dX12_isWord_21 : decode cX12_isWord 21 = .ok (.ifCond .eq 7, 3) := by decide +kernel
theorem dX12_isWord_24 : decode cX12_isWord 24 = .ok (.iconst 1, 1) := by decide +kernel
theorem dX12_isWord_25 : decode cX12_isWord 25 = .ok (.goto 4, 3) := by decide +kernel
theorem dX12_isWord_28 : decode cX12_isWord 28 = .ok (.iconst 0, 1) := by decide +kernel
theorem dX12_isWord_29 : decode cX12_isWord 29 = .ok (.ireturn, 1) := by decide +kernel
theorem dX12_fail_0 : decode cX12_fail 0 = .ok (.aload_n 0, 1) := by decide +kernel
theorem dX12_fail_1 : decode cX12_fail 1 = .ok (.getfield 328, 3) := by decide +kernel
theorem dX12_fail_4 : decode cX12_fail 4 = .ok (.ifCond .eq 4, 3) := by decide +kernel
theorem dX12_fail_7 : decode cX12_fail 7 = .ok (.return_, 1) := by decide +kernel
theorem dX12_fail_8 : decode cX12_fail 8 = .ok (.aload_n 0, 1) := by decide +kernel
theorem dX12_fail_9 : decode cX12_fail 9 = .ok (.iload_n 1, 1) := by decide +kernel
theorem dX12_fail_10 : decode cX12_fail 10 = .ok (.putfield 328, 3) := by decide +kernel
theorem dX12_fail_13 : decode cX12_fail 13 = .ok (.aload_n 0, 1) := by decide +kernel
theorem dX12_fail_14 : decode cX12_fail 14 = .ok (.iload_n 2, 1) := by decide +kernel
theorem dX12_fail_15 : decode cX12_fail 15 = .ok (.putfield 331, 3) := by decide +kernel
theorem dX12_fail_18 : decode cX12_fail 18 = .ok (.return_, 1) := by decide +kernel
theorem dX12_takeWord_0 : decode cX12_takeWord 0 = .ok (.aload_n 0, 1) := by decide +kernel
theorem dX12_takeWord_1 : decode cX12_takeWord 1 = .ok (.getfield 328, 3) := by decide +kernel
theorem dX12_takeWord_4 : decode cX12_takeWord 4 = .ok (.ifCond .eq 4, 3) := by decide +kernel
theorem dX12_takeWord_7 : decode cX12_takeWord 7 = .ok (.return_, 1) := by decide +kernel
theorem dX12_takeWord_8 : decode cX12_takeWord 8 = .ok (.aload_n 0, 1) := by decide +kernel
theorem dX12_takeWord_9 : decode cX12_takeWord 9 = .ok (.lload_n 1, 1) := by decide +kernel
theorem dX12_takeWord_10 : decode cX12_takeWord 10 = .ok (.invokevirtual 364, 3) := by decide +kernel
theorem dX12_takeWord_13 : decode cX12_takeWord 13 = .ok (.ifCond .eq 10, 3) := by decide +kernel
theorem dX12_takeWord_16 : decode cX12_takeWord 16 = .ok (.aload_n 0, 1) := by decide +kernel
theorem dX12_takeWord_17 : decode cX12_takeWord 17 = .ok (.invokevirtual 357, 3) := by decide +kernel
theorem dX12_takeWord_20 : decode cX12_takeWord 20 = .ok (.goto 12, 3) := by decide +kernel
theorem dX12_takeWord_23 : decode cX12_takeWord 23 = .ok (.aload_n 0, 1) := by decide +kernel
theorem dX12_takeWord_24 : decode cX12_takeWord 24 = .ok (.iconst 1, 1) := by decide +kernel
theorem dX12_takeWord_25 : decode cX12_takeWord 25 = .ok (.aload_n 0, 1) := by decide +kernel
theorem dX12_takeWord_26 : decode cX12_takeWord 26 = .ok (.getfield 305, 3) := by decide +kernel
theorem dX12_takeWord_29 : decode cX12_takeWord 29 = .ok (.invokevirtual 360, 3) := by decide +kernel
theorem dX12_takeWord_32 : decode cX12_takeWord 32 = .ok (.return_, 1) := by decide +kernel
theorem dX12_takeSign_0 : decode cX12_takeSign 0 = .ok (.aload_n 0, 1) := by decide +kernel
theorem dX12_takeSign_1 : decode cX12_takeSign 1 = .ok (.getfield 328, 3) := by decide +kernel
theorem dX12_takeSign_4 : decode cX12_takeSign 4 = .ok (.ifCond .eq 4, 3) := by decide +kernel
theorem dX12_takeSign_7 : decode cX12_takeSign 7 = .ok (.return_, 1) := by decide +kernel
theorem dX12_takeSign_8 : decode cX12_takeSign 8 = .ok (.aload_n 0, 1) := by decide +kernel
theorem dX12_takeSign_9 : decode cX12_takeSign 9 = .ok (.iload_n 1, 1) := by decide +kernel
theorem dX12_takeSign_10 : decode cX12_takeSign 10 = .ok (.invokevirtual 354, 3) := by decide +kernel
theorem dX12_takeSign_13 : decode cX12_takeSign 13 = .ok (.ifCond .eq 10, 3) := by decide +kernel
theorem dX12_takeSign_16 : decode cX12_takeSign 16 = .ok (.aload_n 0, 1) := by decide +kernel
theorem dX12_takeSign_17 : decode cX12_takeSign 17 = .ok (.invokevirtual 357, 3) := by decide +kernel
theorem dX12_takeSign_20 : decode cX12_takeSign 20 = .ok (.goto 12, 3) := by decide +kernel
theorem dX12_takeSign_23 : decode cX12_takeSign 23 = .ok (.aload_n 0, 1) := by decide +kernel
theorem dX12_takeSign_24 : decode cX12_takeSign 24 = .ok (.iconst 1, 1) := by decide +kernel
theorem dX12_takeSign_25 : decode cX12_takeSign 25 = .ok (.aload_n 0, 1) := by decide +kernel
theorem dX12_takeSign_26 : decode cX12_takeSign 26 = .ok (.getfield 305, 3) := by decide +kernel
theorem dX12_takeSign_29 : decode cX12_takeSign 29 = .ok (.invokevirtual 360, 3) := by decide +kernel
theorem dX12_takeSign_32 : decode cX12_takeSign 32 = .ok (.return_, 1) := by decide +kernel
theorem dX12_readSchema_0 : decode cX12_readSchema 0 = .ok (.aload_n 0, 1) := by decide +kernel
theorem dX12_readSchema_1 : decode cX12_readSchema 1 = .ok (.iconst 0, 1) := by decide +kernel
theorem dX12_readSchema_2 : decode cX12_readSchema 2 = .ok (.putfield 328, 3) := by decide +kernel
theorem dX12_readSchema_5 : decode cX12_readSchema 5 = .ok (.aload_n 0, 1) := by decide +kernel
theorem dX12_readSchema_6 : decode cX12_readSchema 6 = .ok (.iconst 0, 1) := by decide +kernel
theorem dX12_readSchema_7 : decode cX12_readSchema 7 = .ok (.putfield 288, 3) := by decide +kernel
theorem dX12_readSchema_10 : decode cX12_readSchema 10 = .ok (.aload_n 0, 1) := by decide +kernel
theorem dX12_readSchema_11 : decode cX12_readSchema 11 = .ok (.iconst 0, 1) := by decide +kernel
theorem dX12_readSchema_12 : decode cX12_readSchema 12 = .ok (.putfield 493, 3) := by decide +kernel
theorem dX12_readSchema_15 : decode cX12_readSchema 15 = .ok (.aload_n 0, 1) := by decide +kernel
theorem dX12_readSchema_16 : decode cX12_readSchema 16 = .ok (.iconst 0, 1) := by decide +kernel
theorem dX12_readSchema_17 : decode cX12_readSchema 17 = .ok (.putfield 487, 3) := by decide +kernel
theorem dX12_readSchema_20 : decode cX12_readSchema 20 = .ok (.aload_n 0, 1) := by decide +kernel
theorem dX12_readSchema_21 : decode cX12_readSchema 21 = .ok (.iconst 0, 1) := by decide +kernel
theorem dX12_readSchema_22 : decode cX12_readSchema 22 = .ok (.putfield 457, 3) := by decide +kernel
theorem dX12_readSchema_25 : decode cX12_readSchema 25 = .ok (.aload_n 0, 1) := by decide +kernel
theorem dX12_readSchema_26 : decode cX12_readSchema 26 = .ok (.iconst 0, 1) := by decide +kernel
theorem dX12_readSchema_27 : decode cX12_readSchema 27 = .ok (.putfield 484, 3) := by decide +kernel
theorem dX12_readSchema_30 : decode cX12_readSchema 30 = .ok (.aload_n 0, 1) := by decide +kernel
theorem dX12_readSchema_31 : decode cX12_readSchema 31 = .ok (.iconst 0, 1) := by decide +kernel
theorem dX12_readSchema_32 : decode cX12_readSchema 32 = .ok (.putfield 475, 3) := by decide +kernel
theorem dX12_readSchema_35 : decode cX12_readSchema 35 = .ok (.aload_n 0, 1) := by decide +kernel
theorem dX12_readSchema_36 : decode cX12_readSchema 36 = .ok (.iconst 0, 1) := by decide +kernel
theorem dX12_readSchema_37 : decode cX12_readSchema 37 = .ok (.putfield 431, 3) := by decide +kernel
theorem dX12_readSchema_40 : decode cX12_readSchema 40 = .ok (.aload_n 0, 1) := by decide +kernel
theorem dX12_readSchema_41 : decode cX12_readSchema 41 = .ok (.iconst 0, 1) := by decide +kernel
theorem dX12_readSchema_42 : decode cX12_readSchema 42 = .ok (.putfield 394, 3) := by decide +kernel
theorem dX12_readSchema_45 : decode cX12_readSchema 45 = .ok (.aload_n 0, 1) := by decide +kernel
theorem dX12_readSchema_46 : decode cX12_readSchema 46 = .ok (.iconst 0, 1) := by decide +kernel
theorem dX12_readSchema_47 : decode cX12_readSchema 47 = .ok (.invokevirtual 350, 3) := by decide +kernel
theorem dX12_readSchema_50 : decode cX12_readSchema 50 = .ok (.aload_n 0, 1) := by decide +kernel
theorem dX12_readSchema_51 : decode cX12_readSchema 51 = .ok (.ldc2_w 507, 3) := by decide +kernel
theorem dX12_readSchema_54 : decode cX12_readSchema 54 = .ok (.invokevirtual 446, 3) := by decide +kernel
theorem dX12_readSchema_57 : decode cX12_readSchema 57 = .ok (.aload_n 0, 1) := by decide +kernel
theorem dX12_readSchema_58 : decode cX12_readSchema 58 = .ok (.bipush 61, 2) := by decide +kernel
theorem dX12_readSchema_60 : decode cX12_readSchema 60 = .ok (.invokevirtual 450, 3) := by decide +kernel
theorem dX12_readSchema_63 : decode cX12_readSchema 63 = .ok (.aload_n 0, 1) := by decide +kernel
theorem dX12_readSchema_64 : decode cX12_readSchema 64 = .ok (.getfield 328, 3) := by decide +kernel
theorem dX12_readSchema_67 : decode cX12_readSchema 67 = .ok (.ifCond .ne 19, 3) := by decide +kernel
theorem dX12_readSchema_70 : decode cX12_readSchema 70 = .ok (.aload_n 0, 1) := by decide +kernel
theorem dX12_readSchema_71 : decode cX12_readSchema 71 = .ok (.invokevirtual 509, 3) := by decide +kernel
theorem dX12_readSchema_74 : decode cX12_readSchema 74 = .ok (.ifCond .ne 12, 3) := by decide +kernel
theorem dX12_readSchema_77 : decode cX12_readSchema 77 = .ok (.aload_n 0, 1) := by decide +kernel
theorem dX12_readSchema_78 : decode cX12_readSchema 78 = .ok (.iconst 1, 1) := by decide +kernel
theorem dX12_readSchema_79 : decode cX12_readSchema 79 = .ok (.aload_n 0, 1) := by decide +kernel
theorem dX12_readSchema_80 : decode cX12_readSchema 80 = .ok (.getfield 305, 3) := by decide +kernel
theorem dX12_readSchema_83 : decode cX12_readSchema 83 = .ok (.invokevirtual 360, 3) := by decide +kernel
theorem dX12_readSchema_86 : decode cX12_readSchema 86 = .ok (.aload_n 0, 1) := by decide +kernel
theorem dX12_readSchema_87 : decode cX12_readSchema 87 = .ok (.getfield 328, 3) := by decide +kernel
theorem dX12_readSchema_90 : decode cX12_readSchema 90 = .ok (.ifCond .ne 7, 3) := by decide +kernel
theorem dX12_readSchema_93 : decode cX12_readSchema 93 = .ok (.aload_n 0, 1) := by decide +kernel
theorem dX12_readSchema_94 : decode cX12_readSchema 94 = .ok (.invokevirtual 357, 3) := by decide +kernel
theorem dX12_readSchema_97 : decode cX12_readSchema 97 = .ok (.aload_n 0, 1) := by decide +kernel
theorem dX12_readSchema_98 : decode cX12_readSchema 98 = .ok (.bipush 59, 2) := by decide +kernel
theorem dX12_readSchema_100 : decode cX12_readSchema 100 = .ok (.invokevirtual 450, 3) := by decide +kernel
theorem dX12_readSchema_103 : decode cX12_readSchema 103 = .ok (.iconst 0, 1) := by decide +kernel
theorem dX12_readSchema_104 : decode cX12_readSchema 104 = .ok (.istore_n 1, 1) := by decide +kernel
theorem dX12_readSchema_105 : decode cX12_readSchema 105 = .ok (.aload_n 0, 1) := by decide +kernel
theorem dX12_readSchema_106 : decode cX12_readSchema 106 = .ok (.getfield 328, 3) := by decide +kernel
theorem dX12_readSchema_109 : decode cX12_readSchema 109 = .ok (.ifCond .ne 95, 3) := by decide +kernel
theorem dX12_readSchema_112 : decode cX12_readSchema 112 = .ok (.iload_n 1, 1) := by decide +kernel
theorem dX12_readSchema_113 : decode cX12_readSchema 113 = .ok (.ifCond .gt 10, 3) := by decide +kernel
theorem dX12_readSchema_116 : decode cX12_readSchema 116 = .ok (.aload_n 0, 1) := by decide +kernel
theorem dX12_readSchema_117 : decode cX12_readSchema 117 = .ok (.getfield 298, 3) := by decide +kernel
theorem dX12_readSchema_120 : decode cX12_readSchema 120 = .ok (.ifCond .eq 84, 3) := by decide +kernel
theorem dX12_readSchema_123 : decode cX12_readSchema 123 = .ok (.iload_n 1, 1) := by decide +kernel
theorem dX12_readSchema_124 : decode cX12_readSchema 124 = .ok (.ifCond .le 12, 3) := by decide +kernel
theorem dX12_readSchema_127 : decode cX12_readSchema 127 = .ok (.aload_n 0, 1) := by decide +kernel
theorem dX12_readSchema_128 : decode cX12_readSchema 128 = .ok (.iload_n 1, 1) := by decide +kernel
theorem dX12_readSchema_129 : decode cX12_readSchema 129 = .ok (.invokevirtual 512, 3) := by decide +kernel
theorem dX12_readSchema_132 : decode cX12_readSchema 132 = .ok (.istore_n 1, 1) := by decide +kernel
theorem dX12_readSchema_133 : decode cX12_readSchema 133 = .ok (.goto (-28), 3) := by decide +kernel
theorem dX12_readSchema_136 : decode cX12_readSchema 136 = .ok (.aload_n 0, 1) := by decide +kernel
theorem dX12_readSchema_137 : decode cX12_readSchema 137 = .ok (.invokevirtual 478, 3) := by decide +kernel
theorem dX12_readSchema_140 : decode cX12_readSchema 140 = .ok (.ifCond .eq 15, 3) := by decide +kernel
theorem dX12_readSchema_143 : decode cX12_readSchema 143 = .ok (.aload_n 0, 1) := by decide +kernel
theorem dX12_readSchema_144 : decode cX12_readSchema 144 = .ok (.iconst 2, 1) := by decide +kernel
theorem dX12_readSchema_145 : decode cX12_readSchema 145 = .ok (.aload_n 0, 1) := by decide +kernel
theorem dX12_readSchema_146 : decode cX12_readSchema 146 = .ok (.getfield 305, 3) := by decide +kernel
theorem dX12_readSchema_149 : decode cX12_readSchema 149 = .ok (.invokevirtual 360, 3) := by decide +kernel
theorem dX12_readSchema_152 : decode cX12_readSchema 152 = .ok (.goto (-47), 3) := by decide +kernel
theorem dX12_readSchema_155 : decode cX12_readSchema 155 = .ok (.aload_n 0, 1) := by decide +kernel
theorem dX12_readSchema_156 : decode cX12_readSchema 156 = .ok (.ldc2_w 423, 3) := by decide +kernel
theorem dX12_readSchema_159 : decode cX12_readSchema 159 = .ok (.invokevirtual 364, 3) := by decide +kernel
theorem dX12_readSchema_162 : decode cX12_readSchema 162 = .ok (.ifCond .eq 12, 3) := by decide +kernel
theorem dX12_readSchema_165 : decode cX12_readSchema 165 = .ok (.aload_n 0, 1) := by decide +kernel
theorem dX12_readSchema_166 : decode cX12_readSchema 166 = .ok (.iconst 0, 1) := by decide +kernel
theorem dX12_readSchema_167 : decode cX12_readSchema 167 = .ok (.invokevirtual 496, 3) := by decide +kernel
theorem dX12_readSchema_170 : decode cX12_readSchema 170 = .ok (.istore_n 1, 1) := by decide +kernel
theorem dX12_readSchema_171 : decode cX12_readSchema 171 = .ok (.goto (-66), 3) := by decide +kernel
theorem dX12_readSchema_174 : decode cX12_readSchema 174 = .ok (.aload_n 0, 1) := by decide +kernel
theorem dX12_readSchema_175 : decode cX12_readSchema 175 = .ok (.ldc2_w 425, 3) := by decide +kernel
theorem dX12_readSchema_178 : decode cX12_readSchema 178 = .ok (.invokevirtual 364, 3) := by decide +kernel
theorem dX12_readSchema_181 : decode cX12_readSchema 181 = .ok (.ifCond .eq 11, 3) := by decide +kernel
theorem dX12_readSchema_184 : decode cX12_readSchema 184 = .ok (.aload_n 0, 1) := by decide +kernel
theorem dX12_readSchema_185 : decode cX12_readSchema 185 = .ok (.iconst (-1), 1) := by decide +kernel
theorem dX12_readSchema_186 : decode cX12_readSchema 186 = .ok (.invokevirtual 499, 3) := by decide +kernel
theorem dX12_readSchema_189 : decode cX12_readSchema 189 = .ok (.goto (-84), 3) := by decide +kernel
theorem dX12_readSchema_192 : decode cX12_readSchema 192 = .ok (.aload_n 0, 1) := by decide +kernel
theorem dX12_readSchema_193 : decode cX12_readSchema 193 = .ok (.iconst 1, 1) := by decide +kernel
theorem dX12_readSchema_194 : decode cX12_readSchema 194 = .ok (.aload_n 0, 1) := by decide +kernel
theorem dX12_readSchema_195 : decode cX12_readSchema 195 = .ok (.getfield 305, 3) := by decide +kernel
theorem dX12_readSchema_198 : decode cX12_readSchema 198 = .ok (.invokevirtual 360, 3) := by decide +kernel
theorem dX12_readSchema_201 : decode cX12_readSchema 201 = .ok (.goto (-96), 3) := by decide +kernel
theorem dX12_readSchema_204 : decode cX12_readSchema 204 = .ok (.return_, 1) := by decide +kernel
theorem dX12_compile_0 : decode cX12_compile 0 = .ok (.aload_n 0, 1) := by decide +kernel
theorem dX12_compile_1 : decode cX12_compile 1 = .ok (.iload_n 1, 1) := by decide +kernel
theorem dX12_compile_2 : decode cX12_compile 2 = .ok (.invokestatic 548, 3) := by decide +kernel
theorem dX12_compile_5 : decode cX12_compile 5 = .ok (.ifCond .eq 7, 3) := by decide +kernel
theorem dX12_compile_8 : decode cX12_compile 8 = .ok (.iconst 0, 1) := by decide +kernel
theorem dX12_compile_9 : decode cX12_compile 9 = .ok (.goto 4, 3) := by decide +kernel
theorem dX12_compile_12 : decode cX12_compile 12 = .ok (.iconst 1, 1) := by decide +kernel
theorem dX12_compile_13 : decode cX12_compile 13 = .ok (.putfield 265, 3) := by decide +kernel
theorem dX12_compile_16 : decode cX12_compile 16 = .ok (.aload_n 0, 1) := by decide +kernel
theorem dX12_compile_17 : decode cX12_compile 17 = .ok (.getfield 265, 3) := by decide +kernel
theorem dX12_compile_20 : decode cX12_compile 20 = .ok (.ifCond .eq 5, 3) := by decide +kernel
theorem dX12_compile_23 : decode cX12_compile 23 = .ok (.iconst 0, 1) := by decide +kernel
theorem dX12_compile_24 : decode cX12_compile 24 = .ok (.ireturn, 1) := by decide +kernel
theorem dX12_compile_25 : decode cX12_compile 25 = .ok (.aload_n 0, 1) := by decide +kernel
theorem dX12_compile_26 : decode cX12_compile 26 = .ok (.aload_n 0, 1) := by decide +kernel
theorem dX12_compile_27 : decode cX12_compile 27 = .ok (.getfield 268, 3) := by decide +kernel
theorem dX12_compile_30 : decode cX12_compile 30 = .ok (.putfield 274, 3) := by decide +kernel
theorem dX12_compile_33 : decode cX12_compile 33 = .ok (.aload_n 0, 1) := by decide +kernel
theorem dX12_compile_34 : decode cX12_compile 34 = .ok (.iconst 0, 1) := by decide +kernel
theorem dX12_compile_35 : decode cX12_compile 35 = .ok (.putfield 268, 3) := by decide +kernel
theorem dX12_compile_38 : decode cX12_compile 38 = .ok (.aload_n 0, 1) := by decide +kernel
theorem dX12_compile_39 : decode cX12_compile 39 = .ok (.iconst 0, 1) := by decide +kernel
theorem dX12_compile_40 : decode cX12_compile 40 = .ok (.putfield 551, 3) := by decide +kernel
theorem dX12_compile_43 : decode cX12_compile 43 = .ok (.aload_n 0, 1) := by decide +kernel
theorem dX12_compile_44 : decode cX12_compile 44 = .ok (.invokevirtual 554, 3) := by decide +kernel
theorem dX12_compile_47 : decode cX12_compile 47 = .ok (.aload_n 0, 1) := by decide +kernel
theorem dX12_compile_48 : decode cX12_compile 48 = .ok (.getfield 328, 3) := by decide +kernel
theorem dX12_compile_51 : decode cX12_compile 51 = .ok (.ifCond .ne 26, 3) := by decide +kernel
theorem dX12_compile_54 : decode cX12_compile 54 = .ok (.aload_n 0, 1) := by decide +kernel
theorem dX12_compile_55 : decode cX12_compile 55 = .ok (.invokevirtual 557, 3) := by decide +kernel
theorem dX12_compile_58 : decode cX12_compile 58 = .ok (.aload_n 0, 1) := by decide +kernel
theorem dX12_compile_59 : decode cX12_compile 59 = .ok (.invokevirtual 560, 3) := by decide +kernel
theorem dX12_compile_62 : decode cX12_compile 62 = .ok (.aload_n 0, 1) := by decide +kernel
theorem dX12_compile_63 : decode cX12_compile 63 = .ok (.invokevirtual 563, 3) := by decide +kernel
theorem dX12_compile_66 : decode cX12_compile 66 = .ok (.aload_n 0, 1) := by decide +kernel
theorem dX12_compile_67 : decode cX12_compile 67 = .ok (.getfield 328, 3) := by decide +kernel
theorem dX12_compile_70 : decode cX12_compile 70 = .ok (.ifCond .ne 7, 3) := by decide +kernel
theorem dX12_compile_73 : decode cX12_compile 73 = .ok (.aload_n 0, 1) := by decide +kernel
theorem dX12_compile_74 : decode cX12_compile 74 = .ok (.invokevirtual 566, 3) := by decide +kernel
theorem dX12_compile_77 : decode cX12_compile 77 = .ok (.aload_n 0, 1) := by decide +kernel
theorem dX12_compile_78 : decode cX12_compile 78 = .ok (.aload_n 0, 1) := by decide +kernel
theorem dX12_compile_79 : decode cX12_compile 79 = .ok (.getfield 328, 3) := by decide +kernel
theorem dX12_compile_82 : decode cX12_compile 82 = .ok (.ifCond .ne 7, 3) := by decide +kernel
theorem dX12_compile_85 : decode cX12_compile 85 = .ok (.iconst (-1), 1) := by decide +kernel
theorem dX12_compile_86 : decode cX12_compile 86 = .ok (.goto 7, 3) := by decide +kernel
theorem dX12_compile_89 : decode cX12_compile 89 = .ok (.aload_n 0, 1) := by decide +kernel
theorem dX12_compile_90 : decode cX12_compile 90 = .ok (.getfield 331, 3) := by decide +kernel
theorem dX12_compile_93 : decode cX12_compile 93 = .ok (.putfield 16, 3) := by decide +kernel
theorem dX12_compile_96 : decode cX12_compile 96 = .ok (.aload_n 0, 1) := by decide +kernel
theorem dX12_compile_97 : decode cX12_compile 97 = .ok (.getfield 328, 3) := by decide +kernel
theorem dX12_compile_100 : decode cX12_compile 100 = .ok (.ifCond .ne 11, 3) := by decide +kernel
theorem dX12_compile_103 : decode cX12_compile 103 = .ok (.aload_n 0, 1) := by decide +kernel
theorem dX12_compile_104 : decode cX12_compile 104 = .ok (.iload_n 1, 1) := by decide +kernel
theorem dX12_compile_105 : decode cX12_compile 105 = .ok (.invokevirtual 569, 3) := by decide +kernel
theorem dX12_compile_108 : decode cX12_compile 108 = .ok (.goto 31, 3) := by decide +kernel
theorem dX12_compile_111 : decode cX12_compile 111 = .ok (.aload_n 0, 1) := by decide +kernel
theorem dX12_compile_112 : decode cX12_compile 112 = .ok (.getfield 20, 3) := by decide +kernel
theorem dX12_compile_115 : decode cX12_compile 115 = .ok (.iload_n 1, 1) := by decide +kernel
theorem dX12_compile_116 : decode cX12_compile 116 = .ok (.iconst 0, 1) := by decide +kernel
theorem dX12_compile_117 : decode cX12_compile 117 = .ok (.iastore, 1) := by decide +kernel
theorem dX12_compile_118 : decode cX12_compile 118 = .ok (.aload_n 0, 1) := by decide +kernel
theorem dX12_compile_119 : decode cX12_compile 119 = .ok (.getfield 23, 3) := by decide +kernel
theorem dX12_compile_122 : decode cX12_compile 122 = .ok (.iload_n 1, 1) := by decide +kernel
theorem dX12_compile_123 : decode cX12_compile 123 = .ok (.iconst 0, 1) := by decide +kernel
theorem dX12_compile_124 : decode cX12_compile 124 = .ok (.iastore, 1) := by decide +kernel
theorem dX12_compile_125 : decode cX12_compile 125 = .ok (.aload_n 0, 1) := by decide +kernel
theorem dX12_compile_126 : decode cX12_compile 126 = .ok (.getfield 26, 3) := by decide +kernel
theorem dX12_compile_129 : decode cX12_compile 129 = .ok (.iload_n 1, 1) := by decide +kernel
theorem dX12_compile_130 : decode cX12_compile 130 = .ok (.iconst 0, 1) := by decide +kernel
theorem dX12_compile_131 : decode cX12_compile 131 = .ok (.iastore, 1) := by decide +kernel
theorem dX12_compile_132 : decode cX12_compile 132 = .ok (.aload_n 0, 1) := by decide +kernel
theorem dX12_compile_133 : decode cX12_compile 133 = .ok (.getfield 29, 3) := by decide +kernel
theorem dX12_compile_136 : decode cX12_compile 136 = .ok (.iload_n 1, 1) := by decide +kernel
theorem dX12_compile_137 : decode cX12_compile 137 = .ok (.iconst 0, 1) := by decide +kernel
theorem dX12_compile_138 : decode cX12_compile 138 = .ok (.iastore, 1) := by decide +kernel
theorem dX12_compile_139 : decode cX12_compile 139 = .ok (.aload_n 0, 1) := by decide +kernel
theorem dX12_compile_140 : decode cX12_compile 140 = .ok (.getfield 328, 3) := by decide +kernel
theorem dX12_compile_143 : decode cX12_compile 143 = .ok (.ireturn, 1) := by decide +kernel
theorem dX12_many_0 : decode cX12_many 0 = .ok (.aload_n 0, 1) := by decide +kernel
theorem dX12_many_1 : decode cX12_many 1 = .ok (.iload_n 1, 1) := by decide +kernel
theorem dX12_many_2 : decode cX12_many 2 = .ok (.invokestatic 548, 3) := by decide +kernel
theorem dX12_many_5 : decode cX12_many 5 = .ok (.ifCond .eq 16, 3) := by decide +kernel
theorem dX12_many_8 : decode cX12_many 8 = .ok (.iload_n 2, 1) := by decide +kernel
theorem dX12_many_9 : decode cX12_many 9 = .ok (.ifCond .lt 12, 3) := by decide +kernel
theorem dX12_many_12 : decode cX12_many 12 = .ok (.iload_n 2, 1) := by decide +kernel
theorem dX12_many_13 : decode cX12_many 13 = .ok (.iconst 2, 1) := by decide +kernel
theorem dX12_many_14 : decode cX12_many 14 = .ok (.if_icmp .gt 7, 3) := by decide +kernel
theorem dX12_many_17 : decode cX12_many 17 = .ok (.iconst 0, 1) := by decide +kernel
theorem dX12_many_18 : decode cX12_many 18 = .ok (.goto 4, 3) := by decide +kernel
theorem dX12_many_21 : decode cX12_many 21 = .ok (.iconst 1, 1) := by decide +kernel
theorem dX12_many_22 : decode cX12_many 22 = .ok (.putfield 265, 3) := by decide +kernel
theorem dX12_many_25 : decode cX12_many 25 = .ok (.aload_n 0, 1) := by decide +kernel
theorem dX12_many_26 : decode cX12_many 26 = .ok (.getfield 265, 3) := by decide +kernel
theorem dX12_many_29 : decode cX12_many 29 = .ok (.ifCond .eq 5, 3) := by decide +kernel
theorem dX12_many_32 : decode cX12_many 32 = .ok (.iconst 0, 1) := by decide +kernel
theorem dX12_many_33 : decode cX12_many 33 = .ok (.ireturn, 1) := by decide +kernel
theorem dX12_many_34 : decode cX12_many 34 = .ok (.iload_n 2, 1) := by decide +kernel
theorem dX12_many_35 : decode cX12_many 35 = .ok (.ifCond .ne 12, 3) := by decide +kernel
theorem dX12_many_38 : decode cX12_many 38 = .ok (.aload_n 0, 1) := by decide +kernel
theorem dX12_many_39 : decode cX12_many 39 = .ok (.getfield 20, 3) := by decide +kernel
theorem dX12_many_42 : decode cX12_many 42 = .ok (.iload_n 1, 1) := by decide +kernel
theorem dX12_many_43 : decode cX12_many 43 = .ok (.iaload, 1) := by decide +kernel
theorem dX12_many_44 : decode cX12_many 44 = .ok (.goto 23, 3) := by decide +kernel
theorem dX12_many_47 : decode cX12_many 47 = .ok (.iload_n 2, 1) := by decide +kernel
theorem dX12_many_48 : decode cX12_many 48 = .ok (.iconst 1, 1) := by decide +kernel
theorem dX12_many_49 : decode cX12_many 49 = .ok (.if_icmp .ne 12, 3) := by decide +kernel
theorem dX12_many_52 : decode cX12_many 52 = .ok (.aload_n 0, 1) := by decide +kernel
theorem dX12_many_53 : decode cX12_many 53 = .ok (.getfield 23, 3) := by decide +kernel
theorem dX12_many_56 : decode cX12_many 56 = .ok (.iload_n 1, 1) := by decide +kernel
theorem dX12_many_57 : decode cX12_many 57 = .ok (.iaload, 1) := by decide +kernel
theorem dX12_many_58 : decode cX12_many 58 = .ok (.goto 9, 3) := by decide +kernel
theorem dX12_many_61 : decode cX12_many 61 = .ok (.aload_n 0, 1) := by decide +kernel
theorem dX12_many_62 : decode cX12_many 62 = .ok (.getfield 26, 3) := by decide +kernel
theorem dX12_many_65 : decode cX12_many 65 = .ok (.iload_n 1, 1) := by decide +kernel
theorem dX12_many_66 : decode cX12_many 66 = .ok (.iaload, 1) := by decide +kernel
theorem dX12_many_67 : decode cX12_many 67 = .ok (.ireturn, 1) := by decide +kernel
theorem dX12_isMessage_0 : decode cX12_isMessage 0 = .ok (.iload_n 1, 1) := by decide +kernel
theorem dX12_isMessage_1 : decode cX12_isMessage 1 = .ok (.invokestatic 548, 3) := by decide +kernel
theorem dX12_isMessage_4 : decode cX12_isMessage 4 = .ok (.ifCond .eq 21, 3) := by decide +kernel
theorem dX12_isMessage_7 : decode cX12_isMessage 7 = .ok (.iload_n 2, 1) := by decide +kernel
theorem dX12_isMessage_8 : decode cX12_isMessage 8 = .ok (.ifCond .lt 17, 3) := by decide +kernel
theorem dX12_isMessage_11 : decode cX12_isMessage 11 = .ok (.iload_n 2, 1) := by decide +kernel
theorem dX12_isMessage_12 : decode cX12_isMessage 12 = .ok (.aload_n 0, 1) := by decide +kernel
theorem dX12_isMessage_13 : decode cX12_isMessage 13 = .ok (.getfield 20, 3) := by decide +kernel
theorem dX12_isMessage_16 : decode cX12_isMessage 16 = .ok (.iload_n 1, 1) := by decide +kernel
theorem dX12_isMessage_17 : decode cX12_isMessage 17 = .ok (.iaload, 1) := by decide +kernel
theorem dX12_isMessage_18 : decode cX12_isMessage 18 = .ok (.if_icmp .ge 7, 3) := by decide +kernel
theorem dX12_isMessage_21 : decode cX12_isMessage 21 = .ok (.iconst 1, 1) := by decide +kernel
theorem dX12_isMessage_22 : decode cX12_isMessage 22 = .ok (.goto 4, 3) := by decide +kernel
theorem dX12_isMessage_25 : decode cX12_isMessage 25 = .ok (.iconst 0, 1) := by decide +kernel
theorem dX12_isMessage_26 : decode cX12_isMessage 26 = .ok (.ireturn, 1) := by decide +kernel
theorem dX12_field_0 : decode cX12_field 0 = .ok (.aload_n 0, 1) := by decide +kernel
theorem dX12_field_1 : decode cX12_field 1 = .ok (.iload_n 1, 1) := by decide +kernel
theorem dX12_field_2 : decode cX12_field 2 = .ok (.iload_n 2, 1) := by decide +kernel
theorem dX12_field_3 : decode cX12_field 3 = .ok (.invokevirtual 572, 3) := by decide +kernel
theorem dX12_field_6 : decode cX12_field 6 = .ok (.ifCond .eq 13, 3) := by decide +kernel
theorem dX12_field_9 : decode cX12_field 9 = .ok (.aload_n 0, 1) := by decide +kernel
theorem dX12_field_10 : decode cX12_field 10 = .ok (.iload_n 1, 1) := by decide +kernel
theorem dX12_field_11 : decode cX12_field 11 = .ok (.iload_n 2, 1) := by decide +kernel
theorem dX12_field_12 : decode cX12_field 12 = .ok (.iload_n 3, 1) := by decide +kernel
theorem dX12_field_13 : decode cX12_field 13 = .ok (.invokevirtual 576, 3) := by decide +kernel
theorem dX12_field_16 : decode cX12_field 16 = .ok (.goto 4, 3) := by decide +kernel
theorem dX12_field_19 : decode cX12_field 19 = .ok (.iconst (-1), 1) := by decide +kernel
theorem dX12_field_20 : decode cX12_field 20 = .ok (.istore 5, 2) := by decide +kernel
theorem dX12_field_22 : decode cX12_field 22 = .ok (.aload_n 0, 1) := by decide +kernel
theorem dX12_field_23 : decode cX12_field 23 = .ok (.iload 5, 2) := by decide +kernel
theorem dX12_field_25 : decode cX12_field 25 = .ok (.iconst (-1), 1) := by decide +kernel
theorem dX12_field_26 : decode cX12_field 26 = .ok (.if_icmp .eq 14, 3) := by decide +kernel
theorem dX12_field_29 : decode cX12_field 29 = .ok (.iload 4, 2) := by decide +kernel
theorem dX12_field_31 : decode cX12_field 31 = .ok (.ifCond .lt 9, 3) := by decide +kernel
theorem dX12_field_34 : decode cX12_field 34 = .ok (.iload 4, 2) := by decide +kernel
theorem dX12_field_36 : decode cX12_field 36 = .ok (.iconst 5, 1) := by decide +kernel
theorem dX12_field_37 : decode cX12_field 37 = .ok (.if_icmp .le 7, 3) := by decide +kernel
theorem dX12_field_40 : decode cX12_field 40 = .ok (.iconst 1, 1) := by decide +kernel
theorem dX12_field_41 : decode cX12_field 41 = .ok (.goto 4, 3) := by decide +kernel
theorem dX12_field_44 : decode cX12_field 44 = .ok (.iconst 0, 1) := by decide +kernel
theorem dX12_field_45 : decode cX12_field 45 = .ok (.putfield 265, 3) := by decide +kernel
theorem dX12_field_48 : decode cX12_field 48 = .ok (.aload_n 0, 1) := by decide +kernel
theorem dX12_field_49 : decode cX12_field 49 = .ok (.getfield 265, 3) := by decide +kernel
theorem dX12_field_52 : decode cX12_field 52 = .ok (.ifCond .eq 5, 3) := by decide +kernel
theorem dX12_field_55 : decode cX12_field 55 = .ok (.iconst 0, 1) := by decide +kernel
theorem dX12_field_56 : decode cX12_field 56 = .ok (.ireturn, 1) := by decide +kernel
theorem dX12_field_57 : decode cX12_field 57 = .ok (.iload 4, 2) := by decide +kernel
theorem dX12_field_59 : decode cX12_field 59 = .ok (.tableswitch 95 0 4 #[33, 41, 49, 57, 87], 33) := by decide +kernel
theorem dX12_field_92 : decode cX12_field 92 = .ok (.aload_n 0, 1) := by decide +kernel
theorem dX12_field_93 : decode cX12_field 93 = .ok (.getfield 59, 3) := by decide +kernel
theorem dX12_field_96 : decode cX12_field 96 = .ok (.iload 5, 2) := by decide +kernel
theorem dX12_field_98 : decode cX12_field 98 = .ok (.iaload, 1) := by decide +kernel
theorem dX12_field_99 : decode cX12_field 99 = .ok (.ireturn, 1) := by decide +kernel
theorem dX12_field_100 : decode cX12_field 100 = .ok (.aload_n 0, 1) := by decide +kernel
theorem dX12_field_101 : decode cX12_field 101 = .ok (.getfield 62, 3) := by decide +kernel
theorem dX12_field_104 : decode cX12_field 104 = .ok (.iload 5, 2) := by decide +kernel
theorem dX12_field_106 : decode cX12_field 106 = .ok (.iaload, 1) := by decide +kernel
theorem dX12_field_107 : decode cX12_field 107 = .ok (.ireturn, 1) := by decide +kernel
theorem dX12_field_108 : decode cX12_field 108 = .ok (.aload_n 0, 1) := by decide +kernel
theorem dX12_field_109 : decode cX12_field 109 = .ok (.getfield 65, 3) := by decide +kernel
theorem dX12_field_112 : decode cX12_field 112 = .ok (.iload 5, 2) := by decide +kernel
theorem dX12_field_114 : decode cX12_field 114 = .ok (.iaload, 1) := by decide +kernel
theorem dX12_field_115 : decode cX12_field 115 = .ok (.ireturn, 1) := by decide +kernel
theorem dX12_field_116 : decode cX12_field 116 = .ok (.aload_n 0, 1) := by decide +kernel
theorem dX12_field_117 : decode cX12_field 117 = .ok (.getfield 72, 3) := by decide +kernel
theorem dX12_field_120 : decode cX12_field 120 = .ok (.iload 5, 2) := by decide +kernel
theorem dX12_field_122 : decode cX12_field 122 = .ok (.baload, 1) := by decide +kernel
theorem dX12_field_123 : decode cX12_field 123 = .ok (.ifCond .eq 7, 3) := by decide +kernel
theorem dX12_field_126 : decode cX12_field 126 = .ok (.iconst 2, 1) := by decide +kernel
theorem dX12_field_127 : decode cX12_field 127 = .ok (.goto 18, 3) := by decide +kernel
theorem dX12_field_130 : decode cX12_field 130 = .ok (.aload_n 0, 1) := by decide +kernel
theorem dX12_field_131 : decode cX12_field 131 = .ok (.getfield 68, 3) := by decide +kernel
theorem dX12_field_134 : decode cX12_field 134 = .ok (.iload 5, 2) := by decide +kernel
theorem dX12_field_136 : decode cX12_field 136 = .ok (.baload, 1) := by decide +kernel
theorem dX12_field_137 : decode cX12_field 137 = .ok (.ifCond .eq 7, 3) := by decide +kernel
theorem dX12_field_140 : decode cX12_field 140 = .ok (.iconst 1, 1) := by decide +kernel
theorem dX12_field_141 : decode cX12_field 141 = .ok (.goto 4, 3) := by decide +kernel
theorem dX12_field_144 : decode cX12_field 144 = .ok (.iconst 0, 1) := by decide +kernel
theorem dX12_field_145 : decode cX12_field 145 = .ok (.ireturn, 1) := by decide +kernel
theorem dX12_field_146 : decode cX12_field 146 = .ok (.aload_n 0, 1) := by decide +kernel
theorem dX12_field_147 : decode cX12_field 147 = .ok (.getfield 75, 3) := by decide +kernel
theorem dX12_field_150 : decode cX12_field 150 = .ok (.iload 5, 2) := by decide +kernel
theorem dX12_field_152 : decode cX12_field 152 = .ok (.iaload, 1) := by decide +kernel
theorem dX12_field_153 : decode cX12_field 153 = .ok (.ireturn, 1) := by decide +kernel
theorem dX12_field_154 : decode cX12_field 154 = .ok (.aload_n 0, 1) := by decide +kernel
theorem dX12_field_155 : decode cX12_field 155 = .ok (.getfield 56, 3) := by decide +kernel
theorem dX12_field_158 : decode cX12_field 158 = .ok (.iload 5, 2) := by decide +kernel
theorem dX12_field_160 : decode cX12_field 160 = .ok (.iaload, 1) := by decide +kernel
theorem dX12_field_161 : decode cX12_field 161 = .ok (.ireturn, 1) := by decide +kernel
theorem dX12_begins_0 : decode cX12_begins 0 = .ok (.aload_n 0, 1) := by decide +kernel
theorem dX12_begins_1 : decode cX12_begins 1 = .ok (.aload_n 0, 1) := by decide +kernel
theorem dX12_begins_2 : decode cX12_begins 2 = .ok (.getfield 268, 3) := by decide +kernel
theorem dX12_begins_5 : decode cX12_begins 5 = .ok (.putfield 274, 3) := by decide +kernel
theorem dX12_begins_8 : decode cX12_begins 8 = .ok (.aload_n 0, 1) := by decide +kernel
theorem dX12_begins_9 : decode cX12_begins 9 = .ok (.iconst 0, 1) := by decide +kernel
theorem dX12_begins_10 : decode cX12_begins 10 = .ok (.putfield 268, 3) := by decide +kernel
theorem dX12_begins_13 : decode cX12_begins 13 = .ok (.aload_n 0, 1) := by decide +kernel
theorem dX12_begins_14 : decode cX12_begins 14 = .ok (.iconst 0, 1) := by decide +kernel
theorem dX12_begins_15 : decode cX12_begins 15 = .ok (.putfield 551, 3) := by decide +kernel
theorem dX12_begins_18 : decode cX12_begins 18 = .ok (.aload_n 0, 1) := by decide +kernel
theorem dX12_begins_19 : decode cX12_begins 19 = .ok (.aload_n 0, 1) := by decide +kernel
theorem dX12_begins_20 : decode cX12_begins 20 = .ok (.iload_n 1, 1) := by decide +kernel
theorem dX12_begins_21 : decode cX12_begins 21 = .ok (.iload_n 2, 1) := by decide +kernel
theorem dX12_begins_22 : decode cX12_begins 22 = .ok (.invokevirtual 572, 3) := by decide +kernel
theorem dX12_begins_25 : decode cX12_begins 25 = .ok (.ifCond .eq 18, 3) := by decide +kernel
theorem dX12_begins_28 : decode cX12_begins 28 = .ok (.iload_n 3, 1) := by decide +kernel
theorem dX12_begins_29 : decode cX12_begins 29 = .ok (.iconst 1, 1) := by decide +kernel
theorem dX12_begins_30 : decode cX12_begins 30 = .ok (.if_icmp .lt 13, 3) := by decide +kernel
theorem dX12_begins_33 : decode cX12_begins 33 = .ok (.iload_n 3, 1) := by decide +kernel
theorem dX12_begins_34 : decode cX12_begins 34 = .ok (.bipush 20, 2) := by decide +kernel
theorem dX12_begins_36 : decode cX12_begins 36 = .ok (.if_icmp .gt 7, 3) := by decide +kernel
theorem dX12_begins_39 : decode cX12_begins 39 = .ok (.iconst 0, 1) := by decide +kernel
theorem dX12_begins_40 : decode cX12_begins 40 = .ok (.goto 4, 3) := by decide +kernel
theorem dX12_begins_43 : decode cX12_begins 43 = .ok (.iconst 1, 1) := by decide +kernel
theorem dX12_begins_44 : decode cX12_begins 44 = .ok (.putfield 265, 3) := by decide +kernel
theorem dX12_begins_47 : decode cX12_begins 47 = .ok (.aload_n 0, 1) := by decide +kernel
theorem dX12_begins_48 : decode cX12_begins 48 = .ok (.getfield 265, 3) := by decide +kernel
theorem dX12_begins_51 : decode cX12_begins 51 = .ok (.ifCond .eq 5, 3) := by decide +kernel
theorem dX12_begins_54 : decode cX12_begins 54 = .ok (.iconst 0, 1) := by decide +kernel
theorem dX12_begins_55 : decode cX12_begins 55 = .ok (.ireturn, 1) := by decide +kernel
theorem dX12_begins_56 : decode cX12_begins 56 = .ok (.aload_n 0, 1) := by decide +kernel
theorem dX12_begins_57 : decode cX12_begins 57 = .ok (.iload_n 1, 1) := by decide +kernel
theorem dX12_begins_58 : decode cX12_begins 58 = .ok (.iload_n 2, 1) := by decide +kernel
theorem dX12_begins_59 : decode cX12_begins 59 = .ok (.iload_n 3, 1) := by decide +kernel
theorem dX12_begins_60 : decode cX12_begins 60 = .ok (.invokevirtual 685, 3) := by decide +kernel
theorem dX12_begins_63 : decode cX12_begins 63 = .ok (.iconst 1, 1) := by decide +kernel
theorem dX12_begins_64 : decode cX12_begins 64 = .ok (.ireturn, 1) := by decide +kernel
theorem dX12_decode_0 : decode cX12_decode 0 = .ok (.aload_n 0, 1) := by decide +kernel
theorem dX12_decode_1 : decode cX12_decode 1 = .ok (.iload_n 1, 1) := by decide +kernel
theorem dX12_decode_2 : decode cX12_decode 2 = .ok (.iload_n 2, 1) := by decide +kernel
theorem dX12_decode_3 : decode cX12_decode 3 = .ok (.iload_n 3, 1) := by decide +kernel
theorem dX12_decode_4 : decode cX12_decode 4 = .ok (.invokevirtual 688, 3) := by decide +kernel
theorem dX12_decode_7 : decode cX12_decode 7 = .ok (.ifCond .ne 5, 3) := by decide +kernel
theorem dX12_decode_10 : decode cX12_decode 10 = .ok (.iconst 0, 1) := by decide +kernel
theorem dX12_decode_11 : decode cX12_decode 11 = .ok (.ireturn, 1) := by decide +kernel
theorem dX12_decode_12 : decode cX12_decode 12 = .ok (.aload_n 0, 1) := by decide +kernel
theorem dX12_decode_13 : decode cX12_decode 13 = .ok (.iconst 0, 1) := by decide +kernel
theorem dX12_decode_14 : decode cX12_decode 14 = .ok (.putfield 636, 3) := by decide +kernel
theorem dX12_decode_17 : decode cX12_decode 17 = .ok (.aload_n 0, 1) := by decide +kernel
theorem dX12_decode_18 : decode cX12_decode 18 = .ok (.getfield 238, 3) := by decide +kernel
theorem dX12_decode_21 : decode cX12_decode 21 = .ok (.iconst 0, 1) := by decide +kernel
theorem dX12_decode_22 : decode cX12_decode 22 = .ok (.iconst 0, 1) := by decide +kernel
theorem dX12_decode_23 : decode cX12_decode 23 = .ok (.iastore, 1) := by decide +kernel
theorem dX12_decode_24 : decode cX12_decode 24 = .ok (.aload_n 0, 1) := by decide +kernel
theorem dX12_decode_25 : decode cX12_decode 25 = .ok (.getfield 241, 3) := by decide +kernel
theorem dX12_decode_28 : decode cX12_decode 28 = .ok (.iconst 0, 1) := by decide +kernel
theorem dX12_decode_29 : decode cX12_decode 29 = .ok (.aload_n 0, 1) := by decide +kernel
theorem dX12_decode_30 : decode cX12_decode 30 = .ok (.getfield 274, 3) := by decide +kernel
theorem dX12_decode_33 : decode cX12_decode 33 = .ok (.iastore, 1) := by decide +kernel
theorem dX12_decode_34 : decode cX12_decode 34 = .ok (.aload_n 0, 1) := by decide +kernel
theorem dX12_decode_35 : decode cX12_decode 35 = .ok (.iconst 1, 1) := by decide +kernel
theorem dX12_decode_36 : decode cX12_decode 36 = .ok (.putfield 650, 3) := by decide +kernel
theorem dX12_decode_39 : decode cX12_decode 39 = .ok (.aload_n 0, 1) := by decide +kernel
theorem dX12_decode_40 : decode cX12_decode 40 = .ok (.getfield 650, 3) := by decide +kernel
theorem dX12_decode_43 : decode cX12_decode 43 = .ok (.ifCond .le 65, 3) := by decide +kernel
theorem dX12_decode_46 : decode cX12_decode 46 = .ok (.aload_n 0, 1) := by decide +kernel
theorem dX12_decode_47 : decode cX12_decode 47 = .ok (.getfield 590, 3) := by decide +kernel
theorem dX12_decode_50 : decode cX12_decode 50 = .ok (.ifCond .ne 58, 3) := by decide +kernel
theorem dX12_decode_53 : decode cX12_decode 53 = .ok (.aload_n 0, 1) := by decide +kernel
theorem dX12_decode_54 : decode cX12_decode 54 = .ok (.getfield 241, 3) := by decide +kernel
theorem dX12_decode_57 : decode cX12_decode 57 = .ok (.aload_n 0, 1) := by decide +kernel
theorem dX12_decode_58 : decode cX12_decode 58 = .ok (.getfield 650, 3) := by decide +kernel
theorem dX12_decode_61 : decode cX12_decode 61 = .ok (.iconst 1, 1) := by decide +kernel
theorem dX12_decode_62 : decode cX12_decode 62 = .ok (.isub, 1) := by decide +kernel
theorem dX12_decode_63 : decode cX12_decode 63 = .ok (.iaload, 1) := by decide +kernel
theorem dX12_decode_64 : decode cX12_decode 64 = .ok (.istore 4, 2) := by decide +kernel
theorem dX12_decode_66 : decode cX12_decode 66 = .ok (.aload_n 0, 1) := by decide +kernel
theorem dX12_decode_67 : decode cX12_decode 67 = .ok (.getfield 636, 3) := by decide +kernel
theorem dX12_decode_70 : decode cX12_decode 70 = .ok (.iload 4, 2) := by decide +kernel
theorem dX12_decode_72 : decode cX12_decode 72 = .ok (.if_icmp .ne 16, 3) := by decide +kernel
theorem dX12_decode_75 : decode cX12_decode 75 = .ok (.aload_n 0, 1) := by decide +kernel
theorem dX12_decode_76 : decode cX12_decode 76 = .ok (.dup, 1) := by decide +kernel
theorem dX12_decode_77 : decode cX12_decode 77 = .ok (.getfield 650, 3) := by decide +kernel
theorem dX12_decode_80 : decode cX12_decode 80 = .ok (.iconst 1, 1) := by decide +kernel
theorem dX12_decode_81 : decode cX12_decode 81 = .ok (.isub, 1) := by decide +kernel
theorem dX12_decode_82 : decode cX12_decode 82 = .ok (.putfield 650, 3) := by decide +kernel
theorem dX12_decode_85 : decode cX12_decode 85 = .ok (.goto 20, 3) := by decide +kernel
theorem dX12_decode_88 : decode cX12_decode 88 = .ok (.aload_n 0, 1) := by decide +kernel
theorem dX12_decode_89 : decode cX12_decode 89 = .ok (.aload_n 0, 1) := by decide +kernel
theorem dX12_decode_90 : decode cX12_decode 90 = .ok (.getfield 238, 3) := by decide +kernel
theorem dX12_decode_93 : decode cX12_decode 93 = .ok (.aload_n 0, 1) := by decide +kernel
theorem dX12_decode_94 : decode cX12_decode 94 = .ok (.getfield 650, 3) := by decide +kernel
theorem dX12_decode_97 : decode cX12_decode 97 = .ok (.iconst 1, 1) := by decide +kernel
theorem dX12_decode_98 : decode cX12_decode 98 = .ok (.isub, 1) := by decide +kernel
theorem dX12_decode_99 : decode cX12_decode 99 = .ok (.iaload, 1) := by decide +kernel
theorem dX12_decode_100 : decode cX12_decode 100 = .ok (.iload 4, 2) := by decide +kernel
theorem dX12_decode_102 : decode cX12_decode 102 = .ok (.invokevirtual 691, 3) := by decide +kernel
theorem dX12_decode_105 : decode cX12_decode 105 = .ok (.goto (-66), 3) := by decide +kernel
theorem dX12_decode_108 : decode cX12_decode 108 = .ok (.aload_n 0, 1) := by decide +kernel
theorem dX12_decode_109 : decode cX12_decode 109 = .ok (.invokevirtual 694, 3) := by decide +kernel
theorem dX12_decode_112 : decode cX12_decode 112 = .ok (.ireturn, 1) := by decide +kernel
theorem dX12_parse_0 : decode cX12_parse 0 = .ok (.aload_n 0, 1) := by decide +kernel
theorem dX12_parse_1 : decode cX12_parse 1 = .ok (.iload_n 1, 1) := by decide +kernel
theorem dX12_parse_2 : decode cX12_parse 2 = .ok (.iload_n 2, 1) := by decide +kernel
theorem dX12_parse_3 : decode cX12_parse 3 = .ok (.iload_n 3, 1) := by decide +kernel
theorem dX12_parse_4 : decode cX12_parse 4 = .ok (.invokevirtual 688, 3) := by decide +kernel
theorem dX12_parse_7 : decode cX12_parse 7 = .ok (.ifCond .ne 5, 3) := by decide +kernel
theorem dX12_parse_10 : decode cX12_parse 10 = .ok (.iconst 0, 1) := by decide +kernel
theorem dX12_parse_11 : decode cX12_parse 11 = .ok (.ireturn, 1) := by decide +kernel
theorem dX12_parse_12 : decode cX12_parse 12 = .ok (.aload_n 0, 1) := by decide +kernel
theorem dX12_parse_13 : decode cX12_parse 13 = .ok (.iconst 0, 1) := by decide +kernel
theorem dX12_parse_14 : decode cX12_parse 14 = .ok (.putfield 636, 3) := by decide +kernel
theorem dX12_parse_17 : decode cX12_parse 17 = .ok (.aload_n 0, 1) := by decide +kernel
theorem dX12_parse_18 : decode cX12_parse 18 = .ok (.getfield 238, 3) := by decide +kernel
theorem dX12_parse_21 : decode cX12_parse 21 = .ok (.iconst 0, 1) := by decide +kernel
theorem dX12_parse_22 : decode cX12_parse 22 = .ok (.iconst 0, 1) := by decide +kernel
theorem dX12_parse_23 : decode cX12_parse 23 = .ok (.iastore, 1) := by decide +kernel
theorem dX12_parse_24 : decode cX12_parse 24 = .ok (.aload_n 0, 1) := by decide +kernel
theorem dX12_parse_25 : decode cX12_parse 25 = .ok (.iconst 1, 1) := by decide +kernel
theorem dX12_parse_26 : decode cX12_parse 26 = .ok (.putfield 650, 3) := by decide +kernel
theorem dX12_parse_29 : decode cX12_parse 29 = .ok (.aload_n 0, 1) := by decide +kernel
theorem dX12_parse_30 : decode cX12_parse 30 = .ok (.getfield 650, 3) := by decide +kernel
theorem dX12_parse_33 : decode cX12_parse 33 = .ok (.ifCond .le 17, 3) := by decide +kernel
theorem dX12_parse_36 : decode cX12_parse 36 = .ok (.aload_n 0, 1) := by decide +kernel
theorem dX12_parse_37 : decode cX12_parse 37 = .ok (.getfield 590, 3) := by decide +kernel
theorem dX12_parse_40 : decode cX12_parse 40 = .ok (.ifCond .ne 10, 3) := by decide +kernel
theorem dX12_parse_43 : decode cX12_parse 43 = .ok (.aload_n 0, 1) := by decide +kernel
theorem dX12_parse_44 : decode cX12_parse 44 = .ok (.invokevirtual 841, 3) := by decide +kernel
theorem dX12_parse_47 : decode cX12_parse 47 = .ok (.goto (-18), 3) := by decide +kernel
theorem dX12_parse_50 : decode cX12_parse 50 = .ok (.aload_n 0, 1) := by decide +kernel
theorem dX12_parse_51 : decode cX12_parse 51 = .ok (.invokevirtual 694, 3) := by decide +kernel
theorem dX12_parse_54 : decode cX12_parse 54 = .ok (.ireturn, 1) := by decide +kernel
theorem dX12_named_0 : decode cX12_named 0 = .ok (.bipush 16, 2) := by decide +kernel
theorem dX12_named_2 : decode cX12_named 2 = .ok (.iload_n 1, 1) := by decide +kernel
theorem dX12_named_3 : decode cX12_named 3 = .ok (.imul, 1) := by decide +kernel
theorem dX12_named_4 : decode cX12_named 4 = .ok (.istore 4, 2) := by decide +kernel
theorem dX12_named_6 : decode cX12_named 6 = .ok (.iload 4, 2) := by decide +kernel
theorem dX12_named_8 : decode cX12_named 8 = .ok (.bipush 16, 2) := by decide +kernel
theorem dX12_named_10 : decode cX12_named 10 = .ok (.iload_n 1, 1) := by decide +kernel
theorem dX12_named_11 : decode cX12_named 11 = .ok (.imul, 1) := by decide +kernel
theorem dX12_named_12 : decode cX12_named 12 = .ok (.aload_n 0, 1) := by decide +kernel
theorem dX12_named_13 : decode cX12_named 13 = .ok (.getfield 20, 3) := by decide +kernel
theorem dX12_named_16 : decode cX12_named 16 = .ok (.iload_n 1, 1) := by decide +kernel
theorem dX12_named_17 : decode cX12_named 17 = .ok (.iaload, 1) := by decide +kernel
theorem dX12_named_18 : decode cX12_named 18 = .ok (.iadd, 1) := by decide +kernel
theorem dX12_named_19 : decode cX12_named 19 = .ok (.if_icmp .ge 50, 3) := by decide +kernel
theorem dX12_named_22 : decode cX12_named 22 = .ok (.aload_n 0, 1) := by decide +kernel
theorem dX12_named_23 : decode cX12_named 23 = .ok (.getfield 32, 3) := by decide +kernel
theorem dX12_named_26 : decode cX12_named 26 = .ok (.iload 4, 2) := by decide +kernel
theorem dX12_named_28 : decode cX12_named 28 = .ok (.iaload, 1) := by decide +kernel
theorem dX12_named_29 : decode cX12_named 29 = .ok (.iload_n 2, 1) := by decide +kernel
theorem dX12_named_30 : decode cX12_named 30 = .ok (.if_icmp .ne 33, 3) := by decide +kernel
theorem dX12_named_33 : decode cX12_named 33 = .ok (.aload_n 0, 1) := by decide +kernel
theorem dX12_named_34 : decode cX12_named 34 = .ok (.iload_n 3, 1) := by decide +kernel
theorem dX12_named_35 : decode cX12_named 35 = .ok (.aload_n 0, 1) := by decide +kernel
theorem dX12_named_36 : decode cX12_named 36 = .ok (.getfield 35, 3) := by decide +kernel
theorem dX12_named_39 : decode cX12_named 39 = .ok (.iload 4, 2) := by decide +kernel
theorem dX12_named_41 : decode cX12_named 41 = .ok (.iaload, 1) := by decide +kernel
theorem dX12_named_42 : decode cX12_named 42 = .ok (.aload_n 0, 1) := by decide +kernel
theorem dX12_named_43 : decode cX12_named 43 = .ok (.getfield 38, 3) := by decide +kernel
theorem dX12_named_46 : decode cX12_named 46 = .ok (.iload 4, 2) := by decide +kernel
theorem dX12_named_48 : decode cX12_named 48 = .ok (.iaload, 1) := by decide +kernel
theorem dX12_named_49 : decode cX12_named 49 = .ok (.invokevirtual 580, 3) := by decide +kernel
theorem dX12_named_52 : decode cX12_named 52 = .ok (.ifCond .eq 11, 3) := by decide +kernel
theorem dX12_named_55 : decode cX12_named 55 = .ok (.iload 4, 2) := by decide +kernel
theorem dX12_named_57 : decode cX12_named 57 = .ok (.bipush 16, 2) := by decide +kernel
theorem dX12_named_59 : decode cX12_named 59 = .ok (.iload_n 1, 1) := by decide +kernel
theorem dX12_named_60 : decode cX12_named 60 = .ok (.imul, 1) := by decide +kernel
theorem dX12_named_61 : decode cX12_named 61 = .ok (.isub, 1) := by decide +kernel
theorem dX12_named_62 : decode cX12_named 62 = .ok (.ireturn, 1) := by decide +kernel
theorem dX12_named_63 : decode cX12_named 63 = .ok (.iinc 4 1, 3) := by decide +kernel
theorem dX12_named_66 : decode cX12_named 66 = .ok (.goto (-60), 3) := by decide +kernel
theorem dX12_named_69 : decode cX12_named 69 = .ok (.bipush 8, 2) := by decide +kernel
theorem dX12_named_71 : decode cX12_named 71 = .ok (.iload_n 1, 1) := by decide +kernel
theorem dX12_named_72 : decode cX12_named 72 = .ok (.imul, 1) := by decide +kernel
theorem dX12_named_73 : decode cX12_named 73 = .ok (.istore 4, 2) := by decide +kernel
theorem dX12_named_75 : decode cX12_named 75 = .ok (.iload 4, 2) := by decide +kernel
theorem dX12_named_77 : decode cX12_named 77 = .ok (.bipush 8, 2) := by decide +kernel
theorem dX12_named_79 : decode cX12_named 79 = .ok (.iload_n 1, 1) := by decide +kernel
theorem dX12_named_80 : decode cX12_named 80 = .ok (.imul, 1) := by decide +kernel
theorem dX12_named_81 : decode cX12_named 81 = .ok (.aload_n 0, 1) := by decide +kernel
theorem dX12_named_82 : decode cX12_named 82 = .ok (.getfield 23, 3) := by decide +kernel
theorem dX12_named_85 : decode cX12_named 85 = .ok (.iload_n 1, 1) := by decide +kernel
theorem dX12_named_86 : decode cX12_named 86 = .ok (.iaload, 1) := by decide +kernel
theorem dX12_named_87 : decode cX12_named 87 = .ok (.iadd, 1) := by decide +kernel
theorem dX12_named_88 : decode cX12_named 88 = .ok (.if_icmp .ge 54, 3) := by decide +kernel
theorem dX12_named_91 : decode cX12_named 91 = .ok (.aload_n 0, 1) := by decide +kernel
theorem dX12_named_92 : decode cX12_named 92 = .ok (.getfield 41, 3) := by decide +kernel
theorem dX12_named_95 : decode cX12_named 95 = .ok (.iload 4, 2) := by decide +kernel
theorem dX12_named_97 : decode cX12_named 97 = .ok (.iaload, 1) := by decide +kernel
theorem dX12_named_98 : decode cX12_named 98 = .ok (.iload_n 2, 1) := by decide +kernel
theorem dX12_named_99 : decode cX12_named 99 = .ok (.if_icmp .ne 37, 3) := by decide +kernel
theorem dX12_named_102 : decode cX12_named 102 = .ok (.aload_n 0, 1) := by decide +kernel
theorem dX12_named_103 : decode cX12_named 103 = .ok (.iload_n 3, 1) := by decide +kernel
theorem dX12_named_104 : decode cX12_named 104 = .ok (.aload_n 0, 1) := by decide +kernel
theorem dX12_named_105 : decode cX12_named 105 = .ok (.getfield 44, 3) := by decide +kernel
theorem dX12_named_108 : decode cX12_named 108 = .ok (.iload 4, 2) := by decide +kernel
theorem dX12_named_110 : decode cX12_named 110 = .ok (.iaload, 1) := by decide +kernel
theorem dX12_named_111 : decode cX12_named 111 = .ok (.aload_n 0, 1) := by decide +kernel
theorem dX12_named_112 : decode cX12_named 112 = .ok (.getfield 47, 3) := by decide +kernel
theorem dX12_named_115 : decode cX12_named 115 = .ok (.iload 4, 2) := by decide +kernel
theorem dX12_named_117 : decode cX12_named 117 = .ok (.iaload, 1) := by decide +kernel
theorem dX12_named_118 : decode cX12_named 118 = .ok (.invokevirtual 580, 3) := by decide +kernel
theorem dX12_named_121 : decode cX12_named 121 = .ok (.ifCond .eq 15, 3) := by decide +kernel
theorem dX12_named_124 : decode cX12_named 124 = .ok (.sipush 1000, 3) := by decide +kernel
theorem dX12_named_127 : decode cX12_named 127 = .ok (.iload 4, 2) := by decide +kernel
theorem dX12_named_129 : decode cX12_named 129 = .ok (.iadd, 1) := by decide +kernel
theorem dX12_named_130 : decode cX12_named 130 = .ok (.bipush 8, 2) := by decide +kernel
theorem dX12_named_132 : decode cX12_named 132 = .ok (.iload_n 1, 1) := by decide +kernel
theorem dX12_named_133 : decode cX12_named 133 = .ok (.imul, 1) := by decide +kernel
theorem dX12_named_134 : decode cX12_named 134 = .ok (.isub, 1) := by decide +kernel
theorem dX12_named_135 : decode cX12_named 135 = .ok (.ireturn, 1) := by decide +kernel
theorem dX12_named_136 : decode cX12_named 136 = .ok (.iinc 4 1, 3) := by decide +kernel
theorem dX12_named_139 : decode cX12_named 139 = .ok (.goto (-64), 3) := by decide +kernel
theorem dX12_named_142 : decode cX12_named 142 = .ok (.iconst (-1), 1) := by decide +kernel
theorem dX12_named_143 : decode cX12_named 143 = .ok (.ireturn, 1) := by decide +kernel
theorem dX12_find_0 : decode cX12_find 0 = .ok (.aload_n 0, 1) := by decide +kernel
theorem dX12_find_1 : decode cX12_find 1 = .ok (.aload_n 0, 1) := by decide +kernel
theorem dX12_find_2 : decode cX12_find 2 = .ok (.getfield 268, 3) := by decide +kernel
theorem dX12_find_5 : decode cX12_find 5 = .ok (.putfield 274, 3) := by decide +kernel
theorem dX12_find_8 : decode cX12_find 8 = .ok (.aload_n 0, 1) := by decide +kernel
theorem dX12_find_9 : decode cX12_find 9 = .ok (.iconst 0, 1) := by decide +kernel
theorem dX12_find_10 : decode cX12_find 10 = .ok (.putfield 268, 3) := by decide +kernel
theorem dX12_find_13 : decode cX12_find 13 = .ok (.aload_n 0, 1) := by decide +kernel
theorem dX12_find_14 : decode cX12_find 14 = .ok (.iload_n 1, 1) := by decide +kernel
theorem dX12_find_15 : decode cX12_find 15 = .ok (.invokestatic 548, 3) := by decide +kernel
theorem dX12_find_18 : decode cX12_find 18 = .ok (.ifCond .eq 7, 3) := by decide +kernel
theorem dX12_find_21 : decode cX12_find 21 = .ok (.iconst 0, 1) := by decide +kernel
theorem dX12_find_22 : decode cX12_find 22 = .ok (.goto 4, 3) := by decide +kernel
theorem dX12_find_25 : decode cX12_find 25 = .ok (.iconst 1, 1) := by decide +kernel
theorem dX12_find_26 : decode cX12_find 26 = .ok (.putfield 265, 3) := by decide +kernel
theorem dX12_find_29 : decode cX12_find 29 = .ok (.aload_n 0, 1) := by decide +kernel
theorem dX12_find_30 : decode cX12_find 30 = .ok (.getfield 265, 3) := by decide +kernel
theorem dX12_find_33 : decode cX12_find 33 = .ok (.ifCond .eq 5, 3) := by decide +kernel
theorem dX12_find_36 : decode cX12_find 36 = .ok (.iconst 0, 1) := by decide +kernel
theorem dX12_find_37 : decode cX12_find 37 = .ok (.ireturn, 1) := by decide +kernel
theorem dX12_find_38 : decode cX12_find 38 = .ok (.iconst (-1), 1) := by decide +kernel
theorem dX12_find_39 : decode cX12_find 39 = .ok (.istore_n 2, 1) := by decide +kernel
theorem dX12_find_40 : decode cX12_find 40 = .ok (.iconst 0, 1) := by decide +kernel
theorem dX12_find_41 : decode cX12_find 41 = .ok (.istore_n 3, 1) := by decide +kernel
theorem dX12_find_42 : decode cX12_find 42 = .ok (.iconst 0, 1) := by decide +kernel
theorem dX12_find_43 : decode cX12_find 43 = .ok (.istore 4, 2) := by decide +kernel
theorem dX12_find_45 : decode cX12_find 45 = .ok (.iload 4, 2) := by decide +kernel
theorem dX12_find_47 : decode cX12_find 47 = .ok (.bipush 16, 2) := by decide +kernel
theorem dX12_find_49 : decode cX12_find 49 = .ok (.if_icmp .gt 123, 3) := by decide +kernel
theorem dX12_find_52 : decode cX12_find 52 = .ok (.aload_n 0, 1) := by decide +kernel
theorem dX12_find_53 : decode cX12_find 53 = .ok (.iload_n 1, 1) := by decide +kernel
theorem dX12_find_54 : decode cX12_find 54 = .ok (.iload_n 2, 1) := by decide +kernel
theorem dX12_find_55 : decode cX12_find 55 = .ok (.iload_n 3, 1) := by decide +kernel
theorem dX12_find_56 : decode cX12_find 56 = .ok (.invokevirtual 584, 3) := by decide +kernel
theorem dX12_find_59 : decode cX12_find 59 = .ok (.istore 5, 2) := by decide +kernel
theorem dX12_find_61 : decode cX12_find 61 = .ok (.iload 5, 2) := by decide +kernel
theorem dX12_find_63 : decode cX12_find 63 = .ok (.iconst (-1), 1) := by decide +kernel
theorem dX12_find_64 : decode cX12_find 64 = .ok (.if_icmp .ne 5, 3) := by decide +kernel
theorem dX12_find_67 : decode cX12_find 67 = .ok (.iconst (-1), 1) := by decide +kernel
theorem dX12_find_68 : decode cX12_find 68 = .ok (.ireturn, 1) := by decide +kernel
theorem dX12_find_69 : decode cX12_find 69 = .ok (.iload_n 3, 1) := by decide +kernel
theorem dX12_find_70 : decode cX12_find 70 = .ok (.iload 5, 2) := by decide +kernel
theorem dX12_find_72 : decode cX12_find 72 = .ok (.sipush 1000, 3) := by decide +kernel
theorem dX12_find_75 : decode cX12_find 75 = .ok (.if_icmp .lt 22, 3) := by decide +kernel
theorem dX12_find_78 : decode cX12_find 78 = .ok (.aload_n 0, 1) := by decide +kernel
theorem dX12_find_79 : decode cX12_find 79 = .ok (.getfield 47, 3) := by decide +kernel
theorem dX12_find_82 : decode cX12_find 82 = .ok (.bipush 8, 2) := by decide +kernel
theorem dX12_find_84 : decode cX12_find 84 = .ok (.iload_n 1, 1) := by decide +kernel
theorem dX12_find_85 : decode cX12_find 85 = .ok (.imul, 1) := by decide +kernel
theorem dX12_find_86 : decode cX12_find 86 = .ok (.iload 5, 2) := by decide +kernel
theorem dX12_find_88 : decode cX12_find 88 = .ok (.iadd, 1) := by decide +kernel
theorem dX12_find_89 : decode cX12_find 89 = .ok (.sipush 1000, 3) := by decide +kernel
theorem dX12_find_92 : decode cX12_find 92 = .ok (.isub, 1) := by decide +kernel
theorem dX12_find_93 : decode cX12_find 93 = .ok (.iaload, 1) := by decide +kernel
theorem dX12_find_94 : decode cX12_find 94 = .ok (.goto 15, 3) := by decide +kernel
theorem dX12_find_97 : decode cX12_find 97 = .ok (.aload_n 0, 1) := by decide +kernel
theorem dX12_find_98 : decode cX12_find 98 = .ok (.getfield 38, 3) := by decide +kernel
theorem dX12_find_101 : decode cX12_find 101 = .ok (.bipush 16, 2) := by decide +kernel
theorem dX12_find_103 : decode cX12_find 103 = .ok (.iload_n 1, 1) := by decide +kernel
theorem dX12_find_104 : decode cX12_find 104 = .ok (.imul, 1) := by decide +kernel
theorem dX12_find_105 : decode cX12_find 105 = .ok (.iload 5, 2) := by decide +kernel
theorem dX12_find_107 : decode cX12_find 107 = .ok (.iadd, 1) := by decide +kernel
theorem dX12_find_108 : decode cX12_find 108 = .ok (.iaload, 1) := by decide +kernel
theorem dX12_find_109 : decode cX12_find 109 = .ok (.iadd, 1) := by decide +kernel
theorem dX12_find_110 : decode cX12_find 110 = .ok (.istore 6, 2) := by decide +kernel
theorem dX12_find_112 : decode cX12_find 112 = .ok (.iload 6, 2) := by decide +kernel
theorem dX12_find_114 : decode cX12_find 114 = .ok (.aload_n 0, 1) := by decide +kernel
theorem dX12_find_115 : decode cX12_find 115 = .ok (.getfield 274, 3) := by decide +kernel
theorem dX12_find_118 : decode cX12_find 118 = .ok (.if_icmp .ne 30, 3) := by decide +kernel
theorem dX12_find_121 : decode cX12_find 121 = .ok (.iload 5, 2) := by decide +kernel
theorem dX12_find_123 : decode cX12_find 123 = .ok (.sipush 1000, 3) := by decide +kernel
theorem dX12_find_126 : decode cX12_find 126 = .ok (.if_icmp .lt 19, 3) := by decide +kernel
theorem dX12_find_129 : decode cX12_find 129 = .ok (.aload_n 0, 1) := by decide +kernel
theorem dX12_find_130 : decode cX12_find 130 = .ok (.getfield 20, 3) := by decide +kernel
theorem dX12_find_133 : decode cX12_find 133 = .ok (.iload_n 1, 1) := by decide +kernel
theorem dX12_find_134 : decode cX12_find 134 = .ok (.iaload, 1) := by decide +kernel
theorem dX12_find_135 : decode cX12_find 135 = .ok (.iload 5, 2) := by decide +kernel
theorem dX12_find_137 : decode cX12_find 137 = .ok (.iadd, 1) := by decide +kernel
theorem dX12_find_138 : decode cX12_find 138 = .ok (.sipush 1000, 3) := by decide +kernel
theorem dX12_find_141 : decode cX12_find 141 = .ok (.isub, 1) := by decide +kernel
theorem dX12_find_142 : decode cX12_find 142 = .ok (.goto 5, 3) := by decide +kernel
theorem dX12_find_145 : decode cX12_find 145 = .ok (.iload 5, 2) := by decide +kernel
theorem dX12_find_147 : decode cX12_find 147 = .ok (.ireturn, 1) := by decide +kernel
theorem dX12_find_148 : decode cX12_find 148 = .ok (.iload 5, 2) := by decide +kernel
theorem dX12_find_150 : decode cX12_find 150 = .ok (.sipush 1000, 3) := by decide +kernel
theorem dX12_find_153 : decode cX12_find 153 = .ok (.if_icmp .lt 5, 3) := by decide +kernel
theorem dX12_find_156 : decode cX12_find 156 = .ok (.iconst (-1), 1) := by decide +kernel
theorem dX12_find_157 : decode cX12_find 157 = .ok (.ireturn, 1) := by decide +kernel
theorem dX12_find_158 : decode cX12_find 158 = .ok (.iload 5, 2) := by decide +kernel
theorem dX12_find_160 : decode cX12_find 160 = .ok (.istore_n 2, 1) := by decide +kernel
theorem dX12_find_161 : decode cX12_find 161 = .ok (.iload 6, 2) := by decide +kernel
theorem dX12_find_163 : decode cX12_find 163 = .ok (.iconst 1, 1) := by decide +kernel
theorem dX12_find_164 : decode cX12_find 164 = .ok (.iadd, 1) := by decide +kernel
theorem dX12_find_165 : decode cX12_find 165 = .ok (.istore_n 3, 1) := by decide +kernel
theorem dX12_find_166 : decode cX12_find 166 = .ok (.iinc 4 1, 3) := by decide +kernel
theorem dX12_find_169 : decode cX12_find 169 = .ok (.goto (-124), 3) := by decide +kernel
theorem dX12_find_172 : decode cX12_find 172 = .ok (.iconst (-1), 1) := by decide +kernel
theorem dX12_find_173 : decode cX12_find 173 = .ok (.ireturn, 1) := by decide +kernel
theorem dX12_check_0 : decode cX12_check 0 = .ok (.aload_n 0, 1) := by decide +kernel
theorem dX12_check_1 : decode cX12_check 1 = .ok (.invokevirtual 746, 3) := by decide +kernel
theorem dX12_check_4 : decode cX12_check 4 = .ok (.aload_n 0, 1) := by decide +kernel
theorem dX12_check_5 : decode cX12_check 5 = .ok (.aload_n 0, 1) := by decide +kernel
theorem dX12_check_6 : decode cX12_check 6 = .ok (.iconst 0, 1) := by decide +kernel
theorem dX12_check_7 : decode cX12_check 7 = .ok (.iload_n 1, 1) := by decide +kernel
theorem dX12_check_8 : decode cX12_check 8 = .ok (.invokevirtual 572, 3) := by decide +kernel
theorem dX12_check_11 : decode cX12_check 11 = .ok (.ifCond .eq 16, 3) := by decide +kernel
theorem dX12_check_14 : decode cX12_check 14 = .ok (.aload_n 0, 1) := by decide +kernel
theorem dX12_check_15 : decode cX12_check 15 = .ok (.iconst 1, 1) := by decide +kernel
theorem dX12_check_16 : decode cX12_check 16 = .ok (.iload_n 2, 1) := by decide +kernel
theorem dX12_check_17 : decode cX12_check 17 = .ok (.invokevirtual 572, 3) := by decide +kernel
theorem dX12_check_20 : decode cX12_check 20 = .ok (.ifCond .eq 7, 3) := by decide +kernel
theorem dX12_check_23 : decode cX12_check 23 = .ok (.iconst 0, 1) := by decide +kernel
theorem dX12_check_24 : decode cX12_check 24 = .ok (.goto 4, 3) := by decide +kernel
theorem dX12_check_27 : decode cX12_check 27 = .ok (.iconst 1, 1) := by decide +kernel
theorem dX12_check_28 : decode cX12_check 28 = .ok (.putfield 265, 3) := by decide +kernel
theorem dX12_check_31 : decode cX12_check 31 = .ok (.aload_n 0, 1) := by decide +kernel
theorem dX12_check_32 : decode cX12_check 32 = .ok (.getfield 265, 3) := by decide +kernel
theorem dX12_check_35 : decode cX12_check 35 = .ok (.ifCond .eq 5, 3) := by decide +kernel
theorem dX12_check_38 : decode cX12_check 38 = .ok (.iconst 0, 1) := by decide +kernel
theorem dX12_check_39 : decode cX12_check 39 = .ok (.ireturn, 1) := by decide +kernel
theorem dX12_check_40 : decode cX12_check 40 = .ok (.iconst 0, 1) := by decide +kernel
theorem dX12_check_41 : decode cX12_check 41 = .ok (.istore_n 3, 1) := by decide +kernel
theorem dX12_check_42 : decode cX12_check 42 = .ok (.iload_n 3, 1) := by decide +kernel
theorem dX12_check_43 : decode cX12_check 43 = .ok (.sipush 256, 3) := by decide +kernel
theorem dX12_check_46 : decode cX12_check 46 = .ok (.if_icmp .ge 16, 3) := by decide +kernel
theorem dX12_check_49 : decode cX12_check 49 = .ok (.aload_n 0, 1) := by decide +kernel
theorem dX12_check_50 : decode cX12_check 50 = .ok (.getfield 253, 3) := by decide +kernel
theorem dX12_check_53 : decode cX12_check 53 = .ok (.iload_n 3, 1) := by decide +kernel
theorem dX12_check_54 : decode cX12_check 54 = .ok (.iconst 0, 1) := by decide +kernel
theorem dX12_check_55 : decode cX12_check 55 = .ok (.bastore, 1) := by decide +kernel
theorem dX12_check_56 : decode cX12_check 56 = .ok (.iinc 3 1, 3) := by decide +kernel
theorem dX12_check_59 : decode cX12_check 59 = .ok (.goto (-17), 3) := by decide +kernel
theorem dX12_check_62 : decode cX12_check 62 = .ok (.aload_n 0, 1) := by decide +kernel
theorem dX12_check_63 : decode cX12_check 63 = .ok (.iconst 0, 1) := by decide +kernel
theorem dX12_check_64 : decode cX12_check 64 = .ok (.putfield 650, 3) := by decide +kernel
theorem dX12_check_67 : decode cX12_check 67 = .ok (.aload_n 0, 1) := by decide +kernel
theorem dX12_check_68 : decode cX12_check 68 = .ok (.iload_n 1, 1) := by decide +kernel
theorem dX12_check_69 : decode cX12_check 69 = .ok (.iload_n 2, 1) := by decide +kernel
theorem dX12_check_70 : decode cX12_check 70 = .ok (.invokevirtual 853, 3) := by decide +kernel
theorem dX12_check_73 : decode cX12_check 73 = .ok (.iconst 0, 1) := by decide +kernel
theorem dX12_check_74 : decode cX12_check 74 = .ok (.istore_n 3, 1) := by decide +kernel
theorem dX12_check_75 : decode cX12_check 75 = .ok (.aload_n 0, 1) := by decide +kernel
theorem dX12_check_76 : decode cX12_check 76 = .ok (.getfield 650, 3) := by decide +kernel
theorem dX12_check_79 : decode cX12_check 79 = .ok (.ifCond .le 15, 3) := by decide +kernel
theorem dX12_check_82 : decode cX12_check 82 = .ok (.iload_n 3, 1) := by decide +kernel
theorem dX12_check_83 : decode cX12_check 83 = .ok (.ifCond .ne 11, 3) := by decide +kernel
theorem dX12_check_86 : decode cX12_check 86 = .ok (.aload_n 0, 1) := by decide +kernel
theorem dX12_check_87 : decode cX12_check 87 = .ok (.invokevirtual 855, 3) := by decide +kernel
theorem dX12_check_90 : decode cX12_check 90 = .ok (.istore_n 3, 1) := by decide +kernel
theorem dX12_check_91 : decode cX12_check 91 = .ok (.goto (-16), 3) := by decide +kernel
theorem dX12_check_94 : decode cX12_check 94 = .ok (.iconst 0, 1) := by decide +kernel
theorem dX12_check_95 : decode cX12_check 95 = .ok (.istore 4, 2) := by decide +kernel
theorem dX12_check_97 : decode cX12_check 97 = .ok (.iload 4, 2) := by decide +kernel
theorem dX12_check_99 : decode cX12_check 99 = .ok (.aload_n 0, 1) := by decide +kernel
theorem dX12_check_100 : decode cX12_check 100 = .ok (.getfield 650, 3) := by decide +kernel
theorem dX12_check_103 : decode cX12_check 103 = .ok (.if_icmp .ge 46, 3) := by decide +kernel
theorem dX12_check_106 : decode cX12_check 106 = .ok (.iload_n 3, 1) := by decide +kernel
theorem dX12_check_107 : decode cX12_check 107 = .ok (.ifCond .eq 42, 3) := by decide +kernel
theorem dX12_check_110 : decode cX12_check 110 = .ok (.aload_n 0, 1) := by decide +kernel
theorem dX12_check_111 : decode cX12_check 111 = .ok (.aload_n 0, 1) := by decide +kernel
theorem dX12_check_112 : decode cX12_check 112 = .ok (.getfield 59, 3) := by decide +kernel
theorem dX12_check_115 : decode cX12_check 115 = .ok (.aload_n 0, 1) := by decide +kernel
theorem dX12_check_116 : decode cX12_check 116 = .ok (.iconst 0, 1) := by decide +kernel
theorem dX12_check_117 : decode cX12_check 117 = .ok (.aload_n 0, 1) := by decide +kernel
theorem dX12_check_118 : decode cX12_check 118 = .ok (.getfield 256, 3) := by decide +kernel
theorem dX12_check_121 : decode cX12_check 121 = .ok (.iload 4, 2) := by decide +kernel
theorem dX12_check_123 : decode cX12_check 123 = .ok (.iaload, 1) := by decide +kernel
theorem dX12_check_124 : decode cX12_check 124 = .ok (.aload_n 0, 1) := by decide +kernel
theorem dX12_check_125 : decode cX12_check 125 = .ok (.getfield 262, 3) := by decide +kernel
theorem dX12_check_128 : decode cX12_check 128 = .ok (.iload 4, 2) := by decide +kernel
theorem dX12_check_130 : decode cX12_check 130 = .ok (.iaload, 1) := by decide +kernel
theorem dX12_check_131 : decode cX12_check 131 = .ok (.iconst 1, 1) := by decide +kernel
theorem dX12_check_132 : decode cX12_check 132 = .ok (.isub, 1) := by decide +kernel
theorem dX12_check_133 : decode cX12_check 133 = .ok (.iconst 2, 1) := by decide +kernel
theorem dX12_check_134 : decode cX12_check 134 = .ok (.idiv, 1) := by decide +kernel
theorem dX12_check_135 : decode cX12_check 135 = .ok (.invokevirtual 576, 3) := by decide +kernel
theorem dX12_check_138 : decode cX12_check 138 = .ok (.iaload, 1) := by decide +kernel
theorem dX12_check_139 : decode cX12_check 139 = .ok (.i2l, 1) := by decide +kernel
theorem dX12_check_140 : decode cX12_check 140 = .ok (.invokevirtual 713, 3) := by decide +kernel
theorem dX12_check_143 : decode cX12_check 143 = .ok (.iinc 4 1, 3) := by decide +kernel
theorem dX12_check_146 : decode cX12_check 146 = .ok (.goto (-49), 3) := by decide +kernel
theorem dX12_check_149 : decode cX12_check 149 = .ok (.iload_n 3, 1) := by decide +kernel
theorem dX12_check_150 : decode cX12_check 150 = .ok (.ireturn, 1) := by decide +kernel
theorem dX12_out_0 : decode cX12_out 0 = .ok (.aload_n 0, 1) := by decide +kernel
theorem dX12_out_1 : decode cX12_out 1 = .ok (.iload_n 1, 1) := by decide +kernel
theorem dX12_out_2 : decode cX12_out 2 = .ok (.ifCond .lt 11, 3) := by decide +kernel
theorem dX12_out_5 : decode cX12_out 5 = .ok (.iload_n 1, 1) := by decide +kernel
theorem dX12_out_6 : decode cX12_out 6 = .ok (.aload_n 0, 1) := by decide +kernel
theorem dX12_out_7 : decode cX12_out 7 = .ok (.getfield 271, 3) := by decide +kernel
theorem dX12_out_10 : decode cX12_out 10 = .ok (.if_icmp .lt 7, 3) := by decide +kernel
theorem dX12_out_13 : decode cX12_out 13 = .ok (.iconst 1, 1) := by decide +kernel
theorem dX12_out_14 : decode cX12_out 14 = .ok (.goto 4, 3) := by decide +kernel
theorem dX12_out_17 : decode cX12_out 17 = .ok (.iconst 0, 1) := by decide +kernel
theorem dX12_out_18 : decode cX12_out 18 = .ok (.putfield 265, 3) := by decide +kernel
theorem dX12_out_21 : decode cX12_out 21 = .ok (.lconst 0, 1) := by decide +kernel
theorem dX12_out_22 : decode cX12_out 22 = .ok (.lstore_n 2, 1) := by decide +kernel
theorem dX12_out_23 : decode cX12_out 23 = .ok (.iconst 0, 1) := by decide +kernel
theorem dX12_out_24 : decode cX12_out 24 = .ok (.istore 4, 2) := by decide +kernel
theorem dX12_out_26 : decode cX12_out 26 = .ok (.iload 4, 2) := by decide +kernel
theorem dX12_out_28 : decode cX12_out 28 = .ok (.bipush 8, 2) := by decide +kernel
theorem dX12_out_30 : decode cX12_out 30 = .ok (.if_icmp .ge 47, 3) := by decide +kernel
theorem dX12_out_33 : decode cX12_out 33 = .ok (.aload_n 0, 1) := by decide +kernel
theorem dX12_out_34 : decode cX12_out 34 = .ok (.getfield 265, 3) := by decide +kernel
theorem dX12_out_37 : decode cX12_out 37 = .ok (.ifCond .ne 40, 3) := by decide +kernel
theorem dX12_out_40 : decode cX12_out 40 = .ok (.lload_n 2, 1) := by decide +kernel
theorem dX12_out_41 : decode cX12_out 41 = .ok (.bipush 8, 2) := by decide +kernel
theorem dX12_out_43 : decode cX12_out 43 = .ok (.lshl, 1) := by decide +kernel
theorem dX12_out_44 : decode cX12_out 44 = .ok (.iload_n 1, 1) := by decide +kernel
theorem dX12_out_45 : decode cX12_out 45 = .ok (.iload 4, 2) := by decide +kernel
theorem dX12_out_47 : decode cX12_out 47 = .ok (.iadd, 1) := by decide +kernel
theorem dX12_out_48 : decode cX12_out 48 = .ok (.aload_n 0, 1) := by decide +kernel
theorem dX12_out_49 : decode cX12_out 49 = .ok (.getfield 271, 3) := by decide +kernel
theorem dX12_out_52 : decode cX12_out 52 = .ok (.if_icmp .ge 15, 3) := by decide +kernel
theorem dX12_out_55 : decode cX12_out 55 = .ok (.aload_n 0, 1) := by decide +kernel
theorem dX12_out_56 : decode cX12_out 56 = .ok (.getfield 13, 3) := by decide +kernel
theorem dX12_out_59 : decode cX12_out 59 = .ok (.iload_n 1, 1) := by decide +kernel
theorem dX12_out_60 : decode cX12_out 60 = .ok (.iload 4, 2) := by decide +kernel
theorem dX12_out_62 : decode cX12_out 62 = .ok (.iadd, 1) := by decide +kernel
theorem dX12_out_63 : decode cX12_out 63 = .ok (.iaload, 1) := by decide +kernel
theorem dX12_out_64 : decode cX12_out 64 = .ok (.goto 4, 3) := by decide +kernel
theorem dX12_out_67 : decode cX12_out 67 = .ok (.iconst 0, 1) := by decide +kernel
theorem dX12_out_68 : decode cX12_out 68 = .ok (.i2l, 1) := by decide +kernel
theorem dX12_out_69 : decode cX12_out 69 = .ok (.lor, 1) := by decide +kernel
theorem dX12_out_70 : decode cX12_out 70 = .ok (.lstore_n 2, 1) := by decide +kernel
theorem dX12_out_71 : decode cX12_out 71 = .ok (.iinc 4 1, 3) := by decide +kernel
theorem dX12_out_74 : decode cX12_out 74 = .ok (.goto (-48), 3) := by decide +kernel
theorem dX12_out_77 : decode cX12_out 77 = .ok (.lload_n 2, 1) := by decide +kernel
theorem dX12_out_78 : decode cX12_out 78 = .ok (.lreturn, 1) := by decide +kernel
theorem dX12_feed_0 : decode cX12_feed 0 = .ok (.aload_n 0, 1) := by decide +kernel
theorem dX12_feed_1 : decode cX12_feed 1 = .ok (.iload_n 3, 1) := by decide +kernel
theorem dX12_feed_2 : decode cX12_feed 2 = .ok (.iconst 1, 1) := by decide +kernel
theorem dX12_feed_3 : decode cX12_feed 3 = .ok (.if_icmp .lt 9, 3) := by decide +kernel
theorem dX12_feed_6 : decode cX12_feed 6 = .ok (.iload_n 3, 1) := by decide +kernel
theorem dX12_feed_7 : decode cX12_feed 7 = .ok (.bipush 8, 2) := by decide +kernel
theorem dX12_feed_9 : decode cX12_feed 9 = .ok (.if_icmp .le 7, 3) := by decide +kernel
theorem dX12_feed_12 : decode cX12_feed 12 = .ok (.iconst 1, 1) := by decide +kernel
theorem dX12_feed_13 : decode cX12_feed 13 = .ok (.goto 20, 3) := by decide +kernel
theorem dX12_feed_16 : decode cX12_feed 16 = .ok (.aload_n 0, 1) := by decide +kernel
theorem dX12_feed_17 : decode cX12_feed 17 = .ok (.getfield 268, 3) := by decide +kernel
theorem dX12_feed_20 : decode cX12_feed 20 = .ok (.iload_n 3, 1) := by decide +kernel
theorem dX12_feed_21 : decode cX12_feed 21 = .ok (.iadd, 1) := by decide +kernel
theorem dX12_feed_22 : decode cX12_feed 22 = .ok (.sipush 700, 3) := by decide +kernel
theorem dX12_feed_25 : decode cX12_feed 25 = .ok (.if_icmp .le 7, 3) := by decide +kernel
theorem dX12_feed_28 : decode cX12_feed 28 = .ok (.iconst 2, 1) := by decide +kernel
theorem dX12_feed_29 : decode cX12_feed 29 = .ok (.goto 4, 3) := by decide +kernel
theorem dX12_feed_32 : decode cX12_feed 32 = .ok (.iconst 0, 1) := by decide +kernel
theorem dX12_feed_33 : decode cX12_feed 33 = .ok (.putfield 265, 3) := by decide +kernel
theorem dX12_feed_36 : decode cX12_feed 36 = .ok (.aload_n 0, 1) := by decide +kernel
theorem dX12_feed_37 : decode cX12_feed 37 = .ok (.getfield 265, 3) := by decide +kernel
theorem dX12_feed_40 : decode cX12_feed 40 = .ok (.ifCond .eq 5, 3) := by decide +kernel
theorem dX12_feed_43 : decode cX12_feed 43 = .ok (.iconst 0, 1) := by decide +kernel
theorem dX12_feed_44 : decode cX12_feed 44 = .ok (.ireturn, 1) := by decide +kernel
theorem dX12_feed_45 : decode cX12_feed 45 = .ok (.iload_n 3, 1) := by decide +kernel
theorem dX12_feed_46 : decode cX12_feed 46 = .ok (.iconst 1, 1) := by decide +kernel
theorem dX12_feed_47 : decode cX12_feed 47 = .ok (.isub, 1) := by decide +kernel
theorem dX12_feed_48 : decode cX12_feed 48 = .ok (.istore 4, 2) := by decide +kernel
theorem dX12_feed_50 : decode cX12_feed 50 = .ok (.iload 4, 2) := by decide +kernel
theorem dX12_feed_52 : decode cX12_feed 52 = .ok (.ifCond .lt 40, 3) := by decide +kernel
theorem dX12_feed_55 : decode cX12_feed 55 = .ok (.aload_n 0, 1) := by decide +kernel
theorem dX12_feed_56 : decode cX12_feed 56 = .ok (.getfield 7, 3) := by decide +kernel
theorem dX12_feed_59 : decode cX12_feed 59 = .ok (.aload_n 0, 1) := by decide +kernel
theorem dX12_feed_60 : decode cX12_feed 60 = .ok (.getfield 268, 3) := by decide +kernel
theorem dX12_feed_63 : decode cX12_feed 63 = .ok (.lload_n 1, 1) := by decide +kernel
theorem dX12_feed_64 : decode cX12_feed 64 = .ok (.bipush 8, 2) := by decide +kernel
theorem dX12_feed_66 : decode cX12_feed 66 = .ok (.iload 4, 2) := by decide +kernel
theorem dX12_feed_68 : decode cX12_feed 68 = .ok (.imul, 1) := by decide +kernel
theorem dX12_feed_69 : decode cX12_feed 69 = .ok (.lushr, 1) := by decide +kernel
theorem dX12_feed_70 : decode cX12_feed 70 = .ok (.l2i, 1) := by decide +kernel
theorem dX12_feed_71 : decode cX12_feed 71 = .ok (.sipush 255, 3) := by decide +kernel
theorem dX12_feed_74 : decode cX12_feed 74 = .ok (.iand, 1) := by decide +kernel
theorem dX12_feed_75 : decode cX12_feed 75 = .ok (.iastore, 1) := by decide +kernel
theorem dX12_feed_76 : decode cX12_feed 76 = .ok (.aload_n 0, 1) := by decide +kernel
theorem dX12_feed_77 : decode cX12_feed 77 = .ok (.dup, 1) := by decide +kernel
theorem dX12_feed_78 : decode cX12_feed 78 = .ok (.getfield 268, 3) := by decide +kernel
theorem dX12_feed_81 : decode cX12_feed 81 = .ok (.iconst 1, 1) := by decide +kernel
theorem dX12_feed_82 : decode cX12_feed 82 = .ok (.iadd, 1) := by decide +kernel
theorem dX12_feed_83 : decode cX12_feed 83 = .ok (.putfield 268, 3) := by decide +kernel
theorem dX12_feed_86 : decode cX12_feed 86 = .ok (.iinc 4 (-1), 3) := by decide +kernel
theorem dX12_feed_89 : decode cX12_feed 89 = .ok (.goto (-39), 3) := by decide +kernel
theorem dX12_feed_92 : decode cX12_feed 92 = .ok (.aload_n 0, 1) := by decide +kernel
theorem dX12_feed_93 : decode cX12_feed 93 = .ok (.getfield 268, 3) := by decide +kernel
theorem dX12_feed_96 : decode cX12_feed 96 = .ok (.ireturn, 1) := by decide +kernel
