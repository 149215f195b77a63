section
def w_La_law : List Cond := .initialized "DirectivePrinterLaw" :: lw_g
theorem d_La_law_0 : decode code 0 = .ok (.new 8, 3) := by decide +kernel
theorem d_La_law_3 : decode code 3 = .ok (.dup, 1) := by decide +kernel
theorem d_La_law_4 : decode code 4 = .ok (.invokespecial 32, 3) := by decide +kernel
theorem d_La_law_7 : decode code 7 = .ok (.astore_n 1, 1) := by decide +kernel
theorem d_La_law_8 : decode code 8 = .ok (.new 33, 3) := by decide +kernel
theorem d_La_law_11 : decode code 11 = .ok (.dup, 1) := by decide +kernel
theorem d_La_law_12 : decode code 12 = .ok (.invokespecial 35, 3) := by decide +kernel
theorem d_La_law_15 : decode code 15 = .ok (.astore_n 2, 1) := by decide +kernel
theorem d_La_law_16 : decode code 16 = .ok (.iconst 1, 1) := by decide +kernel
theorem d_La_law_17 : decode code 17 = .ok (.newarray .long, 2) := by decide +kernel
theorem d_La_law_19 : decode code 19 = .ok (.astore_n 3, 1) := by decide +kernel
theorem d_La_law_20 : decode code 20 = .ok (.iconst 0, 1) := by decide +kernel
theorem d_La_law_21 : decode code 21 = .ok (.istore 4, 2) := by decide +kernel
theorem d_La_law_23 : decode code 23 = .ok (.iload 4, 2) := by decide +kernel
theorem d_La_law_25 : decode code 25 = .ok (.aload_n 0, 1) := by decide +kernel
theorem d_La_law_26 : decode code 26 = .ok (.arraylength, 1) := by decide +kernel
theorem d_La_law_27 : decode code 27 = .ok (.iconst 4, 1) := by decide +kernel
theorem d_La_law_28 : decode code 28 = .ok (.isub, 1) := by decide +kernel
theorem d_La_law_29 : decode code 29 = .ok (.if_icmp .gt 625, 3) := by decide +kernel
theorem d_La_law_32 : decode code 32 = .ok (.aload_n 0, 1) := by decide +kernel
theorem d_La_law_33 : decode code 33 = .ok (.iload 4, 2) := by decide +kernel
theorem d_La_law_35 : decode code 35 = .ok (.iaload, 1) := by decide +kernel
theorem d_La_law_36 : decode code 36 = .ok (.bipush 15, 2) := by decide +kernel
theorem d_La_law_38 : decode code 38 = .ok (.iand, 1) := by decide +kernel
theorem d_La_law_39 : decode code 39 = .ok (.tableswitch 609 0 12 #[65, 165, 178, 191, 204, 245, 301, 401, 445, 545, 558, 583, 596], 65) := by decide +kernel
theorem d_La_law_104 : decode code 104 = .ok (.aload_n 1, 1) := by decide +kernel
theorem d_La_law_105 : decode code 105 = .ok (.aload_n 0, 1) := by decide +kernel
theorem d_La_law_106 : decode code 106 = .ok (.iload 4, 2) := by decide +kernel
theorem d_La_law_108 : decode code 108 = .ok (.iconst 1, 1) := by decide +kernel
theorem d_La_law_109 : decode code 109 = .ok (.iadd, 1) := by decide +kernel
theorem d_La_law_110 : decode code 110 = .ok (.iaload, 1) := by decide +kernel
theorem d_La_law_111 : decode code 111 = .ok (.aload_n 0, 1) := by decide +kernel
theorem d_La_law_112 : decode code 112 = .ok (.iload 4, 2) := by decide +kernel
theorem d_La_law_114 : decode code 114 = .ok (.iconst 2, 1) := by decide +kernel
theorem d_La_law_115 : decode code 115 = .ok (.iadd, 1) := by decide +kernel
theorem d_La_law_116 : decode code 116 = .ok (.iaload, 1) := by decide +kernel
theorem d_La_law_117 : decode code 117 = .ok (.i2l, 1) := by decide +kernel
theorem d_La_law_118 : decode code 118 = .ok (.bipush 32, 2) := by decide +kernel
theorem d_La_law_120 : decode code 120 = .ok (.lshl, 1) := by decide +kernel
theorem d_La_law_121 : decode code 121 = .ok (.aload_n 0, 1) := by decide +kernel
theorem d_La_law_122 : decode code 122 = .ok (.iload 4, 2) := by decide +kernel
theorem d_La_law_124 : decode code 124 = .ok (.iconst 3, 1) := by decide +kernel
theorem d_La_law_125 : decode code 125 = .ok (.iadd, 1) := by decide +kernel
theorem d_La_law_126 : decode code 126 = .ok (.iaload, 1) := by decide +kernel
theorem d_La_law_127 : decode code 127 = .ok (.i2l, 1) := by decide +kernel
theorem d_La_law_128 : decode code 128 = .ok (.ldc2_w 36, 3) := by decide +kernel
theorem d_La_law_131 : decode code 131 = .ok (.land, 1) := by decide +kernel
theorem d_La_law_132 : decode code 132 = .ok (.lor, 1) := by decide +kernel
theorem d_La_law_133 : decode code 133 = .ok (.aload_n 3, 1) := by decide +kernel
theorem d_La_law_134 : decode code 134 = .ok (.invokestatic 38, 3) := by decide +kernel
theorem d_La_law_137 : decode code 137 = .ok (.istore 5, 2) := by decide +kernel
theorem d_La_law_139 : decode code 139 = .ok (.aload_n 2, 1) := by decide +kernel
theorem d_La_law_140 : decode code 140 = .ok (.aload_n 0, 1) := by decide +kernel
theorem d_La_law_141 : decode code 141 = .ok (.iload 4, 2) := by decide +kernel
theorem d_La_law_143 : decode code 143 = .ok (.iconst 1, 1) := by decide +kernel
theorem d_La_law_144 : decode code 144 = .ok (.iadd, 1) := by decide +kernel
theorem d_La_law_145 : decode code 145 = .ok (.iaload, 1) := by decide +kernel
theorem d_La_law_146 : decode code 146 = .ok (.aload_n 0, 1) := by decide +kernel
theorem d_La_law_147 : decode code 147 = .ok (.iload 4, 2) := by decide +kernel
theorem d_La_law_149 : decode code 149 = .ok (.iconst 2, 1) := by decide +kernel
theorem d_La_law_150 : decode code 150 = .ok (.iadd, 1) := by decide +kernel
theorem d_La_law_151 : decode code 151 = .ok (.iaload, 1) := by decide +kernel
theorem d_La_law_152 : decode code 152 = .ok (.i2l, 1) := by decide +kernel
theorem d_La_law_153 : decode code 153 = .ok (.bipush 32, 2) := by decide +kernel
theorem d_La_law_155 : decode code 155 = .ok (.lshl, 1) := by decide +kernel
theorem d_La_law_156 : decode code 156 = .ok (.aload_n 0, 1) := by decide +kernel
theorem d_La_law_157 : decode code 157 = .ok (.iload 4, 2) := by decide +kernel
theorem d_La_law_159 : decode code 159 = .ok (.iconst 3, 1) := by decide +kernel
theorem d_La_law_160 : decode code 160 = .ok (.iadd, 1) := by decide +kernel
theorem d_La_law_161 : decode code 161 = .ok (.iaload, 1) := by decide +kernel
theorem d_La_law_162 : decode code 162 = .ok (.i2l, 1) := by decide +kernel
theorem d_La_law_163 : decode code 163 = .ok (.ldc2_w 36, 3) := by decide +kernel
theorem d_La_law_166 : decode code 166 = .ok (.land, 1) := by decide +kernel
theorem d_La_law_167 : decode code 167 = .ok (.lor, 1) := by decide +kernel
theorem d_La_law_168 : decode code 168 = .ok (.invokevirtual 43, 3) := by decide +kernel
theorem d_La_law_171 : decode code 171 = .ok (.istore 6, 2) := by decide +kernel
theorem d_La_law_173 : decode code 173 = .ok (.aload_n 2, 1) := by decide +kernel
theorem d_La_law_174 : decode code 174 = .ok (.invokevirtual 44, 3) := by decide +kernel
theorem d_La_law_177 : decode code 177 = .ok (.iload 5, 2) := by decide +kernel
theorem d_La_law_179 : decode code 179 = .ok (.if_icmp .eq 5, 3) := by decide +kernel
theorem d_La_law_182 : decode code 182 = .ok (.iconst 0, 1) := by decide +kernel
theorem d_La_law_183 : decode code 183 = .ok (.ireturn, 1) := by decide +kernel
theorem d_La_law_184 : decode code 184 = .ok (.iload 5, 2) := by decide +kernel
theorem d_La_law_186 : decode code 186 = .ok (.ifCond .ne 15, 3) := by decide +kernel
theorem d_La_law_189 : decode code 189 = .ok (.aload_n 3, 1) := by decide +kernel
theorem d_La_law_190 : decode code 190 = .ok (.iconst 0, 1) := by decide +kernel
theorem d_La_law_191 : decode code 191 = .ok (.laload, 1) := by decide +kernel
theorem d_La_law_192 : decode code 192 = .ok (.iload 6, 2) := by decide +kernel
theorem d_La_law_194 : decode code 194 = .ok (.i2l, 1) := by decide +kernel
theorem d_La_law_195 : decode code 195 = .ok (.lcmp, 1) := by decide +kernel
theorem d_La_law_196 : decode code 196 = .ok (.ifCond .eq 5, 3) := by decide +kernel
theorem d_La_law_199 : decode code 199 = .ok (.iconst 0, 1) := by decide +kernel
theorem d_La_law_200 : decode code 200 = .ok (.ireturn, 1) := by decide +kernel
theorem d_La_law_201 : decode code 201 = .ok (.goto 447, 3) := by decide +kernel
theorem d_La_law_204 : decode code 204 = .ok (.aload_n 1, 1) := by decide +kernel
theorem d_La_law_205 : decode code 205 = .ok (.invokevirtual 47, 3) := by decide +kernel
theorem d_La_law_208 : decode code 208 = .ok (.aload_n 2, 1) := by decide +kernel
theorem d_La_law_209 : decode code 209 = .ok (.invokevirtual 50, 3) := by decide +kernel
theorem d_La_law_212 : decode code 212 = .ok (.if_icmp .eq 436, 3) := by decide +kernel
theorem d_La_law_215 : decode code 215 = .ok (.iconst 0, 1) := by decide +kernel
theorem d_La_law_216 : decode code 216 = .ok (.ireturn, 1) := by decide +kernel
theorem d_La_law_217 : decode code 217 = .ok (.aload_n 1, 1) := by decide +kernel
theorem d_La_law_218 : decode code 218 = .ok (.invokevirtual 51, 3) := by decide +kernel
theorem d_La_law_221 : decode code 221 = .ok (.aload_n 2, 1) := by decide +kernel
theorem d_La_law_222 : decode code 222 = .ok (.invokevirtual 54, 3) := by decide +kernel
theorem d_La_law_225 : decode code 225 = .ok (.if_icmp .eq 423, 3) := by decide +kernel
theorem d_La_law_228 : decode code 228 = .ok (.iconst 0, 1) := by decide +kernel
theorem d_La_law_229 : decode code 229 = .ok (.ireturn, 1) := by decide +kernel
theorem d_La_law_230 : decode code 230 = .ok (.aload_n 1, 1) := by decide +kernel
theorem d_La_law_231 : decode code 231 = .ok (.invokevirtual 55, 3) := by decide +kernel
theorem d_La_law_234 : decode code 234 = .ok (.aload_n 2, 1) := by decide +kernel
theorem d_La_law_235 : decode code 235 = .ok (.invokevirtual 58, 3) := by decide +kernel
theorem d_La_law_238 : decode code 238 = .ok (.if_icmp .eq 410, 3) := by decide +kernel
theorem d_La_law_241 : decode code 241 = .ok (.iconst 0, 1) := by decide +kernel
theorem d_La_law_242 : decode code 242 = .ok (.ireturn, 1) := by decide +kernel
theorem d_La_law_243 : decode code 243 = .ok (.aload_n 1, 1) := by decide +kernel
theorem d_La_law_244 : decode code 244 = .ok (.aload_n 0, 1) := by decide +kernel
theorem d_La_law_245 : decode code 245 = .ok (.iload 4, 2) := by decide +kernel
theorem d_La_law_247 : decode code 247 = .ok (.iconst 1, 1) := by decide +kernel
theorem d_La_law_248 : decode code 248 = .ok (.iadd, 1) := by decide +kernel
theorem d_La_law_249 : decode code 249 = .ok (.iaload, 1) := by decide +kernel
theorem d_La_law_250 : decode code 250 = .ok (.ifCond .eq 7, 3) := by decide +kernel
theorem d_La_law_253 : decode code 253 = .ok (.iconst 1, 1) := by decide +kernel
theorem d_La_law_254 : decode code 254 = .ok (.goto 4, 3) := by decide +kernel
theorem d_La_law_257 : decode code 257 = .ok (.iconst 0, 1) := by decide +kernel
theorem d_La_law_258 : decode code 258 = .ok (.invokevirtual 59, 3) := by decide +kernel
theorem d_La_law_261 : decode code 261 = .ok (.aload_n 2, 1) := by decide +kernel
theorem d_La_law_262 : decode code 262 = .ok (.aload_n 0, 1) := by decide +kernel
theorem d_La_law_263 : decode code 263 = .ok (.iload 4, 2) := by decide +kernel
theorem d_La_law_265 : decode code 265 = .ok (.iconst 1, 1) := by decide +kernel
theorem d_La_law_266 : decode code 266 = .ok (.iadd, 1) := by decide +kernel
theorem d_La_law_267 : decode code 267 = .ok (.iaload, 1) := by decide +kernel
theorem d_La_law_268 : decode code 268 = .ok (.ifCond .eq 7, 3) := by decide +kernel
theorem d_La_law_271 : decode code 271 = .ok (.iconst 1, 1) := by decide +kernel
theorem d_La_law_272 : decode code 272 = .ok (.goto 4, 3) := by decide +kernel
theorem d_La_law_275 : decode code 275 = .ok (.iconst 0, 1) := by decide +kernel
theorem d_La_law_276 : decode code 276 = .ok (.invokevirtual 63, 3) := by decide +kernel
theorem d_La_law_279 : decode code 279 = .ok (.if_icmp .eq 369, 3) := by decide +kernel
theorem d_La_law_282 : decode code 282 = .ok (.iconst 0, 1) := by decide +kernel
theorem d_La_law_283 : decode code 283 = .ok (.ireturn, 1) := by decide +kernel
theorem d_La_law_284 : decode code 284 = .ok (.aload_n 1, 1) := by decide +kernel
theorem d_La_law_285 : decode code 285 = .ok (.aload_n 0, 1) := by decide +kernel
theorem d_La_law_286 : decode code 286 = .ok (.iload 4, 2) := by decide +kernel
theorem d_La_law_288 : decode code 288 = .ok (.iconst 1, 1) := by decide +kernel
theorem d_La_law_289 : decode code 289 = .ok (.iadd, 1) := by decide +kernel
theorem d_La_law_290 : decode code 290 = .ok (.iaload, 1) := by decide +kernel
theorem d_La_law_291 : decode code 291 = .ok (.aload_n 3, 1) := by decide +kernel
theorem d_La_law_292 : decode code 292 = .ok (.invokestatic 64, 3) := by decide +kernel
theorem d_La_law_295 : decode code 295 = .ok (.istore 5, 2) := by decide +kernel
theorem d_La_law_297 : decode code 297 = .ok (.aload_n 2, 1) := by decide +kernel
theorem d_La_law_298 : decode code 298 = .ok (.aload_n 0, 1) := by decide +kernel
theorem d_La_law_299 : decode code 299 = .ok (.iload 4, 2) := by decide +kernel
theorem d_La_law_301 : decode code 301 = .ok (.iconst 1, 1) := by decide +kernel
theorem d_La_law_302 : decode code 302 = .ok (.iadd, 1) := by decide +kernel
theorem d_La_law_303 : decode code 303 = .ok (.iaload, 1) := by decide +kernel
theorem d_La_law_304 : decode code 304 = .ok (.invokevirtual 67, 3) := by decide +kernel
theorem d_La_law_307 : decode code 307 = .ok (.istore 6, 2) := by decide +kernel
theorem d_La_law_309 : decode code 309 = .ok (.aload_n 2, 1) := by decide +kernel
theorem d_La_law_310 : decode code 310 = .ok (.invokevirtual 44, 3) := by decide +kernel
theorem d_La_law_313 : decode code 313 = .ok (.iload 5, 2) := by decide +kernel
theorem d_La_law_315 : decode code 315 = .ok (.if_icmp .eq 5, 3) := by decide +kernel
theorem d_La_law_318 : decode code 318 = .ok (.iconst 0, 1) := by decide +kernel
theorem d_La_law_319 : decode code 319 = .ok (.ireturn, 1) := by decide +kernel
theorem d_La_law_320 : decode code 320 = .ok (.iload 5, 2) := by decide +kernel
theorem d_La_law_322 : decode code 322 = .ok (.ifCond .ne 15, 3) := by decide +kernel
theorem d_La_law_325 : decode code 325 = .ok (.aload_n 3, 1) := by decide +kernel
theorem d_La_law_326 : decode code 326 = .ok (.iconst 0, 1) := by decide +kernel
theorem d_La_law_327 : decode code 327 = .ok (.laload, 1) := by decide +kernel
theorem d_La_law_328 : decode code 328 = .ok (.iload 6, 2) := by decide +kernel
theorem d_La_law_330 : decode code 330 = .ok (.i2l, 1) := by decide +kernel
theorem d_La_law_331 : decode code 331 = .ok (.lcmp, 1) := by decide +kernel
theorem d_La_law_332 : decode code 332 = .ok (.ifCond .eq 5, 3) := by decide +kernel
theorem d_La_law_335 : decode code 335 = .ok (.iconst 0, 1) := by decide +kernel
theorem d_La_law_336 : decode code 336 = .ok (.ireturn, 1) := by decide +kernel
theorem d_La_law_337 : decode code 337 = .ok (.goto 311, 3) := by decide +kernel
theorem d_La_law_340 : decode code 340 = .ok (.aload_n 1, 1) := by decide +kernel
theorem d_La_law_341 : decode code 341 = .ok (.aload_n 0, 1) := by decide +kernel
theorem d_La_law_342 : decode code 342 = .ok (.iload 4, 2) := by decide +kernel
theorem d_La_law_344 : decode code 344 = .ok (.iconst 1, 1) := by decide +kernel
theorem d_La_law_345 : decode code 345 = .ok (.iadd, 1) := by decide +kernel
theorem d_La_law_346 : decode code 346 = .ok (.iaload, 1) := by decide +kernel
theorem d_La_law_347 : decode code 347 = .ok (.aload_n 0, 1) := by decide +kernel
theorem d_La_law_348 : decode code 348 = .ok (.iload 4, 2) := by decide +kernel
theorem d_La_law_350 : decode code 350 = .ok (.iconst 2, 1) := by decide +kernel
theorem d_La_law_351 : decode code 351 = .ok (.iadd, 1) := by decide +kernel
theorem d_La_law_352 : decode code 352 = .ok (.iaload, 1) := by decide +kernel
theorem d_La_law_353 : decode code 353 = .ok (.i2l, 1) := by decide +kernel
theorem d_La_law_354 : decode code 354 = .ok (.bipush 32, 2) := by decide +kernel
theorem d_La_law_356 : decode code 356 = .ok (.lshl, 1) := by decide +kernel
theorem d_La_law_357 : decode code 357 = .ok (.aload_n 0, 1) := by decide +kernel
theorem d_La_law_358 : decode code 358 = .ok (.iload 4, 2) := by decide +kernel
theorem d_La_law_360 : decode code 360 = .ok (.iconst 3, 1) := by decide +kernel
theorem d_La_law_361 : decode code 361 = .ok (.iadd, 1) := by decide +kernel
theorem d_La_law_362 : decode code 362 = .ok (.iaload, 1) := by decide +kernel
theorem d_La_law_363 : decode code 363 = .ok (.i2l, 1) := by decide +kernel
theorem d_La_law_364 : decode code 364 = .ok (.ldc2_w 36, 3) := by decide +kernel
theorem d_La_law_367 : decode code 367 = .ok (.land, 1) := by decide +kernel
theorem d_La_law_368 : decode code 368 = .ok (.lor, 1) := by decide +kernel
theorem d_La_law_369 : decode code 369 = .ok (.aload_n 3, 1) := by decide +kernel
theorem d_La_law_370 : decode code 370 = .ok (.invokestatic 68, 3) := by decide +kernel
theorem d_La_law_373 : decode code 373 = .ok (.istore 5, 2) := by decide +kernel
theorem d_La_law_375 : decode code 375 = .ok (.aload_n 2, 1) := by decide +kernel
theorem d_La_law_376 : decode code 376 = .ok (.aload_n 0, 1) := by decide +kernel
theorem d_La_law_377 : decode code 377 = .ok (.iload 4, 2) := by decide +kernel
theorem d_La_law_379 : decode code 379 = .ok (.iconst 1, 1) := by decide +kernel
theorem d_La_law_380 : decode code 380 = .ok (.iadd, 1) := by decide +kernel
theorem d_La_law_381 : decode code 381 = .ok (.iaload, 1) := by decide +kernel
theorem d_La_law_382 : decode code 382 = .ok (.aload_n 0, 1) := by decide +kernel
theorem d_La_law_383 : decode code 383 = .ok (.iload 4, 2) := by decide +kernel
theorem d_La_law_385 : decode code 385 = .ok (.iconst 2, 1) := by decide +kernel
theorem d_La_law_386 : decode code 386 = .ok (.iadd, 1) := by decide +kernel
theorem d_La_law_387 : decode code 387 = .ok (.iaload, 1) := by decide +kernel
theorem d_La_law_388 : decode code 388 = .ok (.i2l, 1) := by decide +kernel
theorem d_La_law_389 : decode code 389 = .ok (.bipush 32, 2) := by decide +kernel
theorem d_La_law_391 : decode code 391 = .ok (.lshl, 1) := by decide +kernel
theorem d_La_law_392 : decode code 392 = .ok (.aload_n 0, 1) := by decide +kernel
theorem d_La_law_393 : decode code 393 = .ok (.iload 4, 2) := by decide +kernel
theorem d_La_law_395 : decode code 395 = .ok (.iconst 3, 1) := by decide +kernel
theorem d_La_law_396 : decode code 396 = .ok (.iadd, 1) := by decide +kernel
theorem d_La_law_397 : decode code 397 = .ok (.iaload, 1) := by decide +kernel
theorem d_La_law_398 : decode code 398 = .ok (.i2l, 1) := by decide +kernel
theorem d_La_law_399 : decode code 399 = .ok (.ldc2_w 36, 3) := by decide +kernel
theorem d_La_law_402 : decode code 402 = .ok (.land, 1) := by decide +kernel
theorem d_La_law_403 : decode code 403 = .ok (.lor, 1) := by decide +kernel
theorem d_La_law_404 : decode code 404 = .ok (.invokevirtual 70, 3) := by decide +kernel
theorem d_La_law_407 : decode code 407 = .ok (.istore 6, 2) := by decide +kernel
theorem d_La_law_409 : decode code 409 = .ok (.aload_n 2, 1) := by decide +kernel
theorem d_La_law_410 : decode code 410 = .ok (.invokevirtual 44, 3) := by decide +kernel
theorem d_La_law_413 : decode code 413 = .ok (.iload 5, 2) := by decide +kernel
theorem d_La_law_415 : decode code 415 = .ok (.if_icmp .eq 5, 3) := by decide +kernel
theorem d_La_law_418 : decode code 418 = .ok (.iconst 0, 1) := by decide +kernel
theorem d_La_law_419 : decode code 419 = .ok (.ireturn, 1) := by decide +kernel
theorem d_La_law_420 : decode code 420 = .ok (.iload 5, 2) := by decide +kernel
theorem d_La_law_422 : decode code 422 = .ok (.ifCond .ne 15, 3) := by decide +kernel
theorem d_La_law_425 : decode code 425 = .ok (.aload_n 3, 1) := by decide +kernel
theorem d_La_law_426 : decode code 426 = .ok (.iconst 0, 1) := by decide +kernel
theorem d_La_law_427 : decode code 427 = .ok (.laload, 1) := by decide +kernel
theorem d_La_law_428 : decode code 428 = .ok (.iload 6, 2) := by decide +kernel
theorem d_La_law_430 : decode code 430 = .ok (.i2l, 1) := by decide +kernel
theorem d_La_law_431 : decode code 431 = .ok (.lcmp, 1) := by decide +kernel
theorem d_La_law_432 : decode code 432 = .ok (.ifCond .eq 5, 3) := by decide +kernel
theorem d_La_law_435 : decode code 435 = .ok (.iconst 0, 1) := by decide +kernel
theorem d_La_law_436 : decode code 436 = .ok (.ireturn, 1) := by decide +kernel
theorem d_La_law_437 : decode code 437 = .ok (.goto 211, 3) := by decide +kernel
theorem d_La_law_440 : decode code 440 = .ok (.aload_n 1, 1) := by decide +kernel
theorem d_La_law_441 : decode code 441 = .ok (.aload_n 3, 1) := by decide +kernel
theorem d_La_law_442 : decode code 442 = .ok (.invokestatic 71, 3) := by decide +kernel
theorem d_La_law_445 : decode code 445 = .ok (.istore 5, 2) := by decide +kernel
theorem d_La_law_447 : decode code 447 = .ok (.aload_n 2, 1) := by decide +kernel
theorem d_La_law_448 : decode code 448 = .ok (.invokevirtual 74, 3) := by decide +kernel
theorem d_La_law_451 : decode code 451 = .ok (.istore 6, 2) := by decide +kernel
theorem d_La_law_453 : decode code 453 = .ok (.aload_n 2, 1) := by decide +kernel
theorem d_La_law_454 : decode code 454 = .ok (.invokevirtual 44, 3) := by decide +kernel
theorem d_La_law_457 : decode code 457 = .ok (.iload 5, 2) := by decide +kernel
theorem d_La_law_459 : decode code 459 = .ok (.if_icmp .eq 5, 3) := by decide +kernel
theorem d_La_law_462 : decode code 462 = .ok (.iconst 0, 1) := by decide +kernel
theorem d_La_law_463 : decode code 463 = .ok (.ireturn, 1) := by decide +kernel
theorem d_La_law_464 : decode code 464 = .ok (.iload 5, 2) := by decide +kernel
theorem d_La_law_466 : decode code 466 = .ok (.ifCond .ne 15, 3) := by decide +kernel
theorem d_La_law_469 : decode code 469 = .ok (.aload_n 3, 1) := by decide +kernel
theorem d_La_law_470 : decode code 470 = .ok (.iconst 0, 1) := by decide +kernel
theorem d_La_law_471 : decode code 471 = .ok (.laload, 1) := by decide +kernel
theorem d_La_law_472 : decode code 472 = .ok (.iload 6, 2) := by decide +kernel
theorem d_La_law_474 : decode code 474 = .ok (.i2l, 1) := by decide +kernel
theorem d_La_law_475 : decode code 475 = .ok (.lcmp, 1) := by decide +kernel
theorem d_La_law_476 : decode code 476 = .ok (.ifCond .eq 5, 3) := by decide +kernel
theorem d_La_law_479 : decode code 479 = .ok (.iconst 0, 1) := by decide +kernel
theorem d_La_law_480 : decode code 480 = .ok (.ireturn, 1) := by decide +kernel
theorem d_La_law_481 : decode code 481 = .ok (.goto 167, 3) := by decide +kernel
theorem d_La_law_484 : decode code 484 = .ok (.aload_n 1, 1) := by decide +kernel
theorem d_La_law_485 : decode code 485 = .ok (.aload_n 0, 1) := by decide +kernel
theorem d_La_law_486 : decode code 486 = .ok (.iload 4, 2) := by decide +kernel
theorem d_La_law_488 : decode code 488 = .ok (.iconst 1, 1) := by decide +kernel
theorem d_La_law_489 : decode code 489 = .ok (.iadd, 1) := by decide +kernel
theorem d_La_law_490 : decode code 490 = .ok (.iaload, 1) := by decide +kernel
theorem d_La_law_491 : decode code 491 = .ok (.i2l, 1) := by decide +kernel
theorem d_La_law_492 : decode code 492 = .ok (.bipush 32, 2) := by decide +kernel
theorem d_La_law_494 : decode code 494 = .ok (.lshl, 1) := by decide +kernel
theorem d_La_law_495 : decode code 495 = .ok (.aload_n 0, 1) := by decide +kernel
theorem d_La_law_496 : decode code 496 = .ok (.iload 4, 2) := by decide +kernel
theorem d_La_law_498 : decode code 498 = .ok (.iconst 2, 1) := by decide +kernel
theorem d_La_law_499 : decode code 499 = .ok (.iadd, 1) := by decide +kernel
theorem d_La_law_500 : decode code 500 = .ok (.iaload, 1) := by decide +kernel
theorem d_La_law_501 : decode code 501 = .ok (.i2l, 1) := by decide +kernel
theorem d_La_law_502 : decode code 502 = .ok (.ldc2_w 36, 3) := by decide +kernel
theorem d_La_law_505 : decode code 505 = .ok (.land, 1) := by decide +kernel
theorem d_La_law_506 : decode code 506 = .ok (.lor, 1) := by decide +kernel
theorem d_La_law_507 : decode code 507 = .ok (.aload_n 0, 1) := by decide +kernel
theorem d_La_law_508 : decode code 508 = .ok (.iload 4, 2) := by decide +kernel
theorem d_La_law_510 : decode code 510 = .ok (.iconst 3, 1) := by decide +kernel
theorem d_La_law_511 : decode code 511 = .ok (.iadd, 1) := by decide +kernel
theorem d_La_law_512 : decode code 512 = .ok (.iaload, 1) := by decide +kernel
theorem d_La_law_513 : decode code 513 = .ok (.aload_n 3, 1) := by decide +kernel
theorem d_La_law_514 : decode code 514 = .ok (.invokestatic 75, 3) := by decide +kernel
theorem d_La_law_517 : decode code 517 = .ok (.istore 5, 2) := by decide +kernel
theorem d_La_law_519 : decode code 519 = .ok (.aload_n 2, 1) := by decide +kernel
theorem d_La_law_520 : decode code 520 = .ok (.aload_n 0, 1) := by decide +kernel
theorem d_La_law_521 : decode code 521 = .ok (.iload 4, 2) := by decide +kernel
theorem d_La_law_523 : decode code 523 = .ok (.iconst 1, 1) := by decide +kernel
theorem d_La_law_524 : decode code 524 = .ok (.iadd, 1) := by decide +kernel
theorem d_La_law_525 : decode code 525 = .ok (.iaload, 1) := by decide +kernel
theorem d_La_law_526 : decode code 526 = .ok (.i2l, 1) := by decide +kernel
theorem d_La_law_527 : decode code 527 = .ok (.bipush 32, 2) := by decide +kernel
theorem d_La_law_529 : decode code 529 = .ok (.lshl, 1) := by decide +kernel
theorem d_La_law_530 : decode code 530 = .ok (.aload_n 0, 1) := by decide +kernel
theorem d_La_law_531 : decode code 531 = .ok (.iload 4, 2) := by decide +kernel
theorem d_La_law_533 : decode code 533 = .ok (.iconst 2, 1) := by decide +kernel
theorem d_La_law_534 : decode code 534 = .ok (.iadd, 1) := by decide +kernel
theorem d_La_law_535 : decode code 535 = .ok (.iaload, 1) := by decide +kernel
theorem d_La_law_536 : decode code 536 = .ok (.i2l, 1) := by decide +kernel
theorem d_La_law_537 : decode code 537 = .ok (.ldc2_w 36, 3) := by decide +kernel
theorem d_La_law_540 : decode code 540 = .ok (.land, 1) := by decide +kernel
theorem d_La_law_541 : decode code 541 = .ok (.lor, 1) := by decide +kernel
theorem d_La_law_542 : decode code 542 = .ok (.aload_n 0, 1) := by decide +kernel
theorem d_La_law_543 : decode code 543 = .ok (.iload 4, 2) := by decide +kernel
theorem d_La_law_545 : decode code 545 = .ok (.iconst 3, 1) := by decide +kernel
theorem d_La_law_546 : decode code 546 = .ok (.iadd, 1) := by decide +kernel
theorem d_La_law_547 : decode code 547 = .ok (.iaload, 1) := by decide +kernel
theorem d_La_law_548 : decode code 548 = .ok (.invokevirtual 78, 3) := by decide +kernel
theorem d_La_law_551 : decode code 551 = .ok (.istore 6, 2) := by decide +kernel
theorem d_La_law_553 : decode code 553 = .ok (.aload_n 2, 1) := by decide +kernel
theorem d_La_law_554 : decode code 554 = .ok (.invokevirtual 44, 3) := by decide +kernel
theorem d_La_law_557 : decode code 557 = .ok (.iload 5, 2) := by decide +kernel
theorem d_La_law_559 : decode code 559 = .ok (.if_icmp .eq 5, 3) := by decide +kernel
theorem d_La_law_562 : decode code 562 = .ok (.iconst 0, 1) := by decide +kernel
theorem d_La_law_563 : decode code 563 = .ok (.ireturn, 1) := by decide +kernel
theorem d_La_law_564 : decode code 564 = .ok (.iload 5, 2) := by decide +kernel
theorem d_La_law_566 : decode code 566 = .ok (.ifCond .ne 15, 3) := by decide +kernel
theorem d_La_law_569 : decode code 569 = .ok (.aload_n 3, 1) := by decide +kernel
theorem d_La_law_570 : decode code 570 = .ok (.iconst 0, 1) := by decide +kernel
theorem d_La_law_571 : decode code 571 = .ok (.laload, 1) := by decide +kernel
theorem d_La_law_572 : decode code 572 = .ok (.iload 6, 2) := by decide +kernel
theorem d_La_law_574 : decode code 574 = .ok (.i2l, 1) := by decide +kernel
theorem d_La_law_575 : decode code 575 = .ok (.lcmp, 1) := by decide +kernel
theorem d_La_law_576 : decode code 576 = .ok (.ifCond .eq 5, 3) := by decide +kernel
theorem d_La_law_579 : decode code 579 = .ok (.iconst 0, 1) := by decide +kernel
theorem d_La_law_580 : decode code 580 = .ok (.ireturn, 1) := by decide +kernel
theorem d_La_law_581 : decode code 581 = .ok (.goto 67, 3) := by decide +kernel
theorem d_La_law_584 : decode code 584 = .ok (.aload_n 1, 1) := by decide +kernel
theorem d_La_law_585 : decode code 585 = .ok (.invokevirtual 79, 3) := by decide +kernel
theorem d_La_law_588 : decode code 588 = .ok (.aload_n 2, 1) := by decide +kernel
theorem d_La_law_589 : decode code 589 = .ok (.invokevirtual 82, 3) := by decide +kernel
theorem d_La_law_592 : decode code 592 = .ok (.if_icmp .eq 56, 3) := by decide +kernel
theorem d_La_law_595 : decode code 595 = .ok (.iconst 0, 1) := by decide +kernel
theorem d_La_law_596 : decode code 596 = .ok (.ireturn, 1) := by decide +kernel
theorem d_La_law_597 : decode code 597 = .ok (.aload_n 1, 1) := by decide +kernel
theorem d_La_law_598 : decode code 598 = .ok (.aload_n 0, 1) := by decide +kernel
theorem d_La_law_599 : decode code 599 = .ok (.iload 4, 2) := by decide +kernel
theorem d_La_law_601 : decode code 601 = .ok (.iconst 1, 1) := by decide +kernel
theorem d_La_law_602 : decode code 602 = .ok (.iadd, 1) := by decide +kernel
theorem d_La_law_603 : decode code 603 = .ok (.iaload, 1) := by decide +kernel
theorem d_La_law_604 : decode code 604 = .ok (.invokevirtual 83, 3) := by decide +kernel
theorem d_La_law_607 : decode code 607 = .ok (.aload_n 2, 1) := by decide +kernel
theorem d_La_law_608 : decode code 608 = .ok (.aload_n 0, 1) := by decide +kernel
theorem d_La_law_609 : decode code 609 = .ok (.iload 4, 2) := by decide +kernel
theorem d_La_law_611 : decode code 611 = .ok (.iconst 1, 1) := by decide +kernel
theorem d_La_law_612 : decode code 612 = .ok (.iadd, 1) := by decide +kernel
theorem d_La_law_613 : decode code 613 = .ok (.iaload, 1) := by decide +kernel
theorem d_La_law_614 : decode code 614 = .ok (.invokevirtual 86, 3) := by decide +kernel
theorem d_La_law_617 : decode code 617 = .ok (.if_icmp .eq 31, 3) := by decide +kernel
theorem d_La_law_620 : decode code 620 = .ok (.iconst 0, 1) := by decide +kernel
theorem d_La_law_621 : decode code 621 = .ok (.ireturn, 1) := by decide +kernel
theorem d_La_law_622 : decode code 622 = .ok (.aload_n 1, 1) := by decide +kernel
theorem d_La_law_623 : decode code 623 = .ok (.invokevirtual 87, 3) := by decide +kernel
theorem d_La_law_626 : decode code 626 = .ok (.aload_n 2, 1) := by decide +kernel
theorem d_La_law_627 : decode code 627 = .ok (.invokevirtual 90, 3) := by decide +kernel
theorem d_La_law_630 : decode code 630 = .ok (.if_icmp .eq 18, 3) := by decide +kernel
theorem d_La_law_633 : decode code 633 = .ok (.iconst 0, 1) := by decide +kernel
theorem d_La_law_634 : decode code 634 = .ok (.ireturn, 1) := by decide +kernel
theorem d_La_law_635 : decode code 635 = .ok (.aload_n 1, 1) := by decide +kernel
theorem d_La_law_636 : decode code 636 = .ok (.invokevirtual 91, 3) := by decide +kernel
theorem d_La_law_639 : decode code 639 = .ok (.aload_n 2, 1) := by decide +kernel
theorem d_La_law_640 : decode code 640 = .ok (.invokevirtual 94, 3) := by decide +kernel
theorem d_La_law_643 : decode code 643 = .ok (.if_icmp .eq 5, 3) := by decide +kernel
theorem d_La_law_646 : decode code 646 = .ok (.iconst 0, 1) := by decide +kernel
theorem d_La_law_647 : decode code 647 = .ok (.ireturn, 1) := by decide +kernel
theorem d_La_law_648 : decode code 648 = .ok (.iinc 4 4, 3) := by decide +kernel
theorem d_La_law_651 : decode code 651 = .ok (.goto (-628), 3) := by decide +kernel
theorem d_La_law_654 : decode code 654 = .ok (.iconst 1, 1) := by decide +kernel
theorem d_La_law_655 : decode code 655 = .ok (.ireturn, 1) := by decide +kernel
set_option maxRecDepth 100000 in
theorem q_1055 : (.constantLong "DirectivePrinterLaw" 36 (4294967295 : Int64) : Cond) ∈ lw_g := List.mem_filter.mpr ⟨List.mem_of_getElem? (i := 1055) (by decide +kernel), by decide +kernel⟩
set_option maxRecDepth 100000 in
theorem q_652 : (.codeWith ⟨"DirectivePrinterLaw", "write", "(LDirectivePrinter;IJ[J)I"⟩ method_3_code 6 (Option.some FieldType.int) [(0, 11, 14, 13)] : Cond) ∈ lw_g := List.mem_filter.mpr ⟨List.mem_of_getElem? (i := 652) (rfl), by decide +kernel⟩
set_option maxRecDepth 100000 in
theorem q_650 : (.methodLink "DirectivePrinterLaw" 38 ⟨"DirectivePrinterLaw", "write", "(LDirectivePrinter;IJ[J)I"⟩ : Cond) ∈ lw_g := List.mem_filter.mpr ⟨List.mem_of_getElem? (i := 650) (by decide +kernel), by decide +kernel⟩
set_option maxRecDepth 100000 in
theorem q_651 : (.static ⟨"DirectivePrinterLaw", "write", "(LDirectivePrinter;IJ[J)I"⟩ : Cond) ∈ lw_g := List.mem_filter.mpr ⟨List.mem_of_getElem? (i := 651) (by decide +kernel), by decide +kernel⟩
set_option maxRecDepth 100000 in
theorem q_53 : (.initialized "DirectivePrinterLaw" : Cond) ∈ lw_g := List.mem_filter.mpr ⟨List.mem_of_getElem? (i := 53) (by decide +kernel), by decide +kernel⟩
set_option maxRecDepth 100000 in
theorem q_883 : (.methodLink "DirectivePrinterLaw" 43 ⟨"DirectivePrinterModel", "write", "(IJ)I"⟩ : Cond) ∈ lw_g := List.mem_filter.mpr ⟨List.mem_of_getElem? (i := 883) (by decide +kernel), by decide +kernel⟩
set_option maxRecDepth 100000 in
theorem q_884 : (.instanceMethod ⟨"DirectivePrinterModel", "write", "(IJ)I"⟩ : Cond) ∈ lw_g := List.mem_filter.mpr ⟨List.mem_of_getElem? (i := 884) (by decide +kernel), by decide +kernel⟩
set_option maxRecDepth 100000 in
theorem q_885 : (.selects "DirectivePrinterModel" ⟨"DirectivePrinterModel", "write", "(IJ)I"⟩ ⟨"DirectivePrinterModel", "write", "(IJ)I"⟩ : Cond) ∈ lw_g := List.mem_filter.mpr ⟨List.mem_of_getElem? (i := 885) (by decide +kernel), by decide +kernel⟩
set_option maxRecDepth 100000 in
theorem q_886 : (.code ⟨"DirectivePrinterModel", "write", "(IJ)I"⟩ prog_9_method_3_code 5 (Option.some FieldType.int) : Cond) ∈ lw_g := List.mem_filter.mpr ⟨List.mem_of_getElem? (i := 886) (rfl), by decide +kernel⟩
set_option maxRecDepth 100000 in
theorem q_879 : (.methodLink "DirectivePrinterLaw" 44 ⟨"DirectivePrinterModel", "thrown", "()I"⟩ : Cond) ∈ lw_g := List.mem_filter.mpr ⟨List.mem_of_getElem? (i := 879) (by decide +kernel), by decide +kernel⟩
set_option maxRecDepth 100000 in
theorem q_880 : (.instanceMethod ⟨"DirectivePrinterModel", "thrown", "()I"⟩ : Cond) ∈ lw_g := List.mem_filter.mpr ⟨List.mem_of_getElem? (i := 880) (by decide +kernel), by decide +kernel⟩
set_option maxRecDepth 100000 in
theorem q_881 : (.selects "DirectivePrinterModel" ⟨"DirectivePrinterModel", "thrown", "()I"⟩ ⟨"DirectivePrinterModel", "thrown", "()I"⟩ : Cond) ∈ lw_g := List.mem_filter.mpr ⟨List.mem_of_getElem? (i := 881) (by decide +kernel), by decide +kernel⟩
set_option maxRecDepth 100000 in
theorem q_882 : (.code ⟨"DirectivePrinterModel", "thrown", "()I"⟩ prog_9_method_2_code 1 (Option.some FieldType.int) : Cond) ∈ lw_g := List.mem_filter.mpr ⟨List.mem_of_getElem? (i := 882) (rfl), by decide +kernel⟩
set_option maxRecDepth 100000 in
theorem q_238 : (.methodLink "DirectivePrinterLaw" 47 ⟨"DirectivePrinter", "wipe", "()I"⟩ : Cond) ∈ lw_g := List.mem_filter.mpr ⟨List.mem_of_getElem? (i := 238) (by decide +kernel), by decide +kernel⟩
set_option maxRecDepth 100000 in
theorem q_239 : (.instanceMethod ⟨"DirectivePrinter", "wipe", "()I"⟩ : Cond) ∈ lw_g := List.mem_filter.mpr ⟨List.mem_of_getElem? (i := 239) (by decide +kernel), by decide +kernel⟩
set_option maxRecDepth 100000 in
theorem q_240 : (.selects "DirectivePrinter" ⟨"DirectivePrinter", "wipe", "()I"⟩ ⟨"DirectivePrinter", "wipe", "()I"⟩ : Cond) ∈ lw_g := List.mem_filter.mpr ⟨List.mem_of_getElem? (i := 240) (by decide +kernel), by decide +kernel⟩
set_option maxRecDepth 100000 in
theorem q_241 : (.code ⟨"DirectivePrinter", "wipe", "()I"⟩ prog_1_method_3_code 2 (Option.some FieldType.int) : Cond) ∈ lw_g := List.mem_filter.mpr ⟨List.mem_of_getElem? (i := 241) (rfl), by decide +kernel⟩
set_option maxRecDepth 100000 in
theorem q_888 : (.methodLink "DirectivePrinterLaw" 50 ⟨"DirectivePrinterModel", "wipe", "()I"⟩ : Cond) ∈ lw_g := List.mem_filter.mpr ⟨List.mem_of_getElem? (i := 888) (by decide +kernel), by decide +kernel⟩
set_option maxRecDepth 100000 in
theorem q_889 : (.instanceMethod ⟨"DirectivePrinterModel", "wipe", "()I"⟩ : Cond) ∈ lw_g := List.mem_filter.mpr ⟨List.mem_of_getElem? (i := 889) (by decide +kernel), by decide +kernel⟩
set_option maxRecDepth 100000 in
theorem q_890 : (.selects "DirectivePrinterModel" ⟨"DirectivePrinterModel", "wipe", "()I"⟩ ⟨"DirectivePrinterModel", "wipe", "()I"⟩ : Cond) ∈ lw_g := List.mem_filter.mpr ⟨List.mem_of_getElem? (i := 890) (by decide +kernel), by decide +kernel⟩
set_option maxRecDepth 100000 in
theorem q_891 : (.code ⟨"DirectivePrinterModel", "wipe", "()I"⟩ prog_9_method_4_code 2 (Option.some FieldType.int) : Cond) ∈ lw_g := List.mem_filter.mpr ⟨List.mem_of_getElem? (i := 891) (rfl), by decide +kernel⟩
set_option maxRecDepth 100000 in
theorem q_250 : (.methodLink "DirectivePrinterLaw" 51 ⟨"DirectivePrinter", "clear", "()I"⟩ : Cond) ∈ lw_g := List.mem_filter.mpr ⟨List.mem_of_getElem? (i := 250) (by decide +kernel), by decide +kernel⟩
set_option maxRecDepth 100000 in
theorem q_251 : (.instanceMethod ⟨"DirectivePrinter", "clear", "()I"⟩ : Cond) ∈ lw_g := List.mem_filter.mpr ⟨List.mem_of_getElem? (i := 251) (by decide +kernel), by decide +kernel⟩
set_option maxRecDepth 100000 in
theorem q_252 : (.selects "DirectivePrinter" ⟨"DirectivePrinter", "clear", "()I"⟩ ⟨"DirectivePrinter", "clear", "()I"⟩ : Cond) ∈ lw_g := List.mem_filter.mpr ⟨List.mem_of_getElem? (i := 252) (by decide +kernel), by decide +kernel⟩
set_option maxRecDepth 100000 in
theorem q_253 : (.code ⟨"DirectivePrinter", "clear", "()I"⟩ prog_1_method_4_code 2 (Option.some FieldType.int) : Cond) ∈ lw_g := List.mem_filter.mpr ⟨List.mem_of_getElem? (i := 253) (rfl), by decide +kernel⟩
set_option maxRecDepth 100000 in
theorem q_892 : (.methodLink "DirectivePrinterLaw" 54 ⟨"DirectivePrinterModel", "clear", "()I"⟩ : Cond) ∈ lw_g := List.mem_filter.mpr ⟨List.mem_of_getElem? (i := 892) (by decide +kernel), by decide +kernel⟩
set_option maxRecDepth 100000 in
theorem q_893 : (.instanceMethod ⟨"DirectivePrinterModel", "clear", "()I"⟩ : Cond) ∈ lw_g := List.mem_filter.mpr ⟨List.mem_of_getElem? (i := 893) (by decide +kernel), by decide +kernel⟩
set_option maxRecDepth 100000 in
theorem q_894 : (.selects "DirectivePrinterModel" ⟨"DirectivePrinterModel", "clear", "()I"⟩ ⟨"DirectivePrinterModel", "clear", "()I"⟩ : Cond) ∈ lw_g := List.mem_filter.mpr ⟨List.mem_of_getElem? (i := 894) (by decide +kernel), by decide +kernel⟩
set_option maxRecDepth 100000 in
theorem q_895 : (.code ⟨"DirectivePrinterModel", "clear", "()I"⟩ prog_9_method_5_code 2 (Option.some FieldType.int) : Cond) ∈ lw_g := List.mem_filter.mpr ⟨List.mem_of_getElem? (i := 895) (rfl), by decide +kernel⟩
set_option maxRecDepth 100000 in
theorem q_254 : (.methodLink "DirectivePrinterLaw" 55 ⟨"DirectivePrinter", "nothing", "()I"⟩ : Cond) ∈ lw_g := List.mem_filter.mpr ⟨List.mem_of_getElem? (i := 254) (by decide +kernel), by decide +kernel⟩
set_option maxRecDepth 100000 in
theorem q_255 : (.instanceMethod ⟨"DirectivePrinter", "nothing", "()I"⟩ : Cond) ∈ lw_g := List.mem_filter.mpr ⟨List.mem_of_getElem? (i := 255) (by decide +kernel), by decide +kernel⟩
set_option maxRecDepth 100000 in
theorem q_256 : (.selects "DirectivePrinter" ⟨"DirectivePrinter", "nothing", "()I"⟩ ⟨"DirectivePrinter", "nothing", "()I"⟩ : Cond) ∈ lw_g := List.mem_filter.mpr ⟨List.mem_of_getElem? (i := 256) (by decide +kernel), by decide +kernel⟩
set_option maxRecDepth 100000 in
theorem q_257 : (.code ⟨"DirectivePrinter", "nothing", "()I"⟩ prog_1_method_5_code 1 (Option.some FieldType.int) : Cond) ∈ lw_g := List.mem_filter.mpr ⟨List.mem_of_getElem? (i := 257) (rfl), by decide +kernel⟩
set_option maxRecDepth 100000 in
theorem q_896 : (.methodLink "DirectivePrinterLaw" 58 ⟨"DirectivePrinterModel", "nothing", "()I"⟩ : Cond) ∈ lw_g := List.mem_filter.mpr ⟨List.mem_of_getElem? (i := 896) (by decide +kernel), by decide +kernel⟩
set_option maxRecDepth 100000 in
theorem q_897 : (.instanceMethod ⟨"DirectivePrinterModel", "nothing", "()I"⟩ : Cond) ∈ lw_g := List.mem_filter.mpr ⟨List.mem_of_getElem? (i := 897) (by decide +kernel), by decide +kernel⟩
set_option maxRecDepth 100000 in
theorem q_898 : (.selects "DirectivePrinterModel" ⟨"DirectivePrinterModel", "nothing", "()I"⟩ ⟨"DirectivePrinterModel", "nothing", "()I"⟩ : Cond) ∈ lw_g := List.mem_filter.mpr ⟨List.mem_of_getElem? (i := 898) (by decide +kernel), by decide +kernel⟩
set_option maxRecDepth 100000 in
theorem q_899 : (.code ⟨"DirectivePrinterModel", "nothing", "()I"⟩ prog_9_method_7_code 1 (Option.some FieldType.int) : Cond) ∈ lw_g := List.mem_filter.mpr ⟨List.mem_of_getElem? (i := 899) (rfl), by decide +kernel⟩
set_option maxRecDepth 100000 in
theorem q_263 : (.methodLink "DirectivePrinterLaw" 59 ⟨"DirectivePrinter", "truth", "(Z)I"⟩ : Cond) ∈ lw_g := List.mem_filter.mpr ⟨List.mem_of_getElem? (i := 263) (by decide +kernel), by decide +kernel⟩
set_option maxRecDepth 100000 in
theorem q_264 : (.instanceMethod ⟨"DirectivePrinter", "truth", "(Z)I"⟩ : Cond) ∈ lw_g := List.mem_filter.mpr ⟨List.mem_of_getElem? (i := 264) (by decide +kernel), by decide +kernel⟩
set_option maxRecDepth 100000 in
theorem q_265 : (.selects "DirectivePrinter" ⟨"DirectivePrinter", "truth", "(Z)I"⟩ ⟨"DirectivePrinter", "truth", "(Z)I"⟩ : Cond) ∈ lw_g := List.mem_filter.mpr ⟨List.mem_of_getElem? (i := 265) (by decide +kernel), by decide +kernel⟩
set_option maxRecDepth 100000 in
theorem q_266 : (.code ⟨"DirectivePrinter", "truth", "(Z)I"⟩ prog_1_method_6_code 2 (Option.some FieldType.int) : Cond) ∈ lw_g := List.mem_filter.mpr ⟨List.mem_of_getElem? (i := 266) (rfl), by decide +kernel⟩
set_option maxRecDepth 100000 in
theorem q_904 : (.methodLink "DirectivePrinterLaw" 63 ⟨"DirectivePrinterModel", "truth", "(Z)I"⟩ : Cond) ∈ lw_g := List.mem_filter.mpr ⟨List.mem_of_getElem? (i := 904) (by decide +kernel), by decide +kernel⟩
set_option maxRecDepth 100000 in
theorem q_905 : (.instanceMethod ⟨"DirectivePrinterModel", "truth", "(Z)I"⟩ : Cond) ∈ lw_g := List.mem_filter.mpr ⟨List.mem_of_getElem? (i := 905) (by decide +kernel), by decide +kernel⟩
set_option maxRecDepth 100000 in
theorem q_906 : (.selects "DirectivePrinterModel" ⟨"DirectivePrinterModel", "truth", "(Z)I"⟩ ⟨"DirectivePrinterModel", "truth", "(Z)I"⟩ : Cond) ∈ lw_g := List.mem_filter.mpr ⟨List.mem_of_getElem? (i := 906) (by decide +kernel), by decide +kernel⟩
set_option maxRecDepth 100000 in
theorem q_907 : (.code ⟨"DirectivePrinterModel", "truth", "(Z)I"⟩ prog_9_method_8_code 2 (Option.some FieldType.int) : Cond) ∈ lw_g := List.mem_filter.mpr ⟨List.mem_of_getElem? (i := 907) (rfl), by decide +kernel⟩
set_option maxRecDepth 100000 in
theorem q_727 : (.codeWith ⟨"DirectivePrinterLaw", "symbol", "(LDirectivePrinter;I[J)I"⟩ method_4_code 4 (Option.some FieldType.int) [(0, 9, 12, 13)] : Cond) ∈ lw_g := List.mem_filter.mpr ⟨List.mem_of_getElem? (i := 727) (rfl), by decide +kernel⟩
set_option maxRecDepth 100000 in
theorem q_725 : (.methodLink "DirectivePrinterLaw" 64 ⟨"DirectivePrinterLaw", "symbol", "(LDirectivePrinter;I[J)I"⟩ : Cond) ∈ lw_g := List.mem_filter.mpr ⟨List.mem_of_getElem? (i := 725) (by decide +kernel), by decide +kernel⟩
set_option maxRecDepth 100000 in
theorem q_726 : (.static ⟨"DirectivePrinterLaw", "symbol", "(LDirectivePrinter;I[J)I"⟩ : Cond) ∈ lw_g := List.mem_filter.mpr ⟨List.mem_of_getElem? (i := 726) (by decide +kernel), by decide +kernel⟩
set_option maxRecDepth 100000 in
theorem q_908 : (.methodLink "DirectivePrinterLaw" 67 ⟨"DirectivePrinterModel", "symbol", "(I)I"⟩ : Cond) ∈ lw_g := List.mem_filter.mpr ⟨List.mem_of_getElem? (i := 908) (by decide +kernel), by decide +kernel⟩
set_option maxRecDepth 100000 in
theorem q_909 : (.instanceMethod ⟨"DirectivePrinterModel", "symbol", "(I)I"⟩ : Cond) ∈ lw_g := List.mem_filter.mpr ⟨List.mem_of_getElem? (i := 909) (by decide +kernel), by decide +kernel⟩
set_option maxRecDepth 100000 in
theorem q_910 : (.selects "DirectivePrinterModel" ⟨"DirectivePrinterModel", "symbol", "(I)I"⟩ ⟨"DirectivePrinterModel", "symbol", "(I)I"⟩ : Cond) ∈ lw_g := List.mem_filter.mpr ⟨List.mem_of_getElem? (i := 910) (by decide +kernel), by decide +kernel⟩
set_option maxRecDepth 100000 in
theorem q_911 : (.code ⟨"DirectivePrinterModel", "symbol", "(I)I"⟩ prog_9_method_9_code 2 (Option.some FieldType.int) : Cond) ∈ lw_g := List.mem_filter.mpr ⟨List.mem_of_getElem? (i := 911) (rfl), by decide +kernel⟩
set_option maxRecDepth 100000 in
theorem q_736 : (.codeWith ⟨"DirectivePrinterLaw", "whole", "(LDirectivePrinter;IJ[J)I"⟩ method_5_code 6 (Option.some FieldType.int) [(0, 11, 14, 13)] : Cond) ∈ lw_g := List.mem_filter.mpr ⟨List.mem_of_getElem? (i := 736) (rfl), by decide +kernel⟩
set_option maxRecDepth 100000 in
theorem q_734 : (.methodLink "DirectivePrinterLaw" 68 ⟨"DirectivePrinterLaw", "whole", "(LDirectivePrinter;IJ[J)I"⟩ : Cond) ∈ lw_g := List.mem_filter.mpr ⟨List.mem_of_getElem? (i := 734) (by decide +kernel), by decide +kernel⟩
set_option maxRecDepth 100000 in
theorem q_735 : (.static ⟨"DirectivePrinterLaw", "whole", "(LDirectivePrinter;IJ[J)I"⟩ : Cond) ∈ lw_g := List.mem_filter.mpr ⟨List.mem_of_getElem? (i := 735) (by decide +kernel), by decide +kernel⟩
set_option maxRecDepth 100000 in
theorem q_912 : (.methodLink "DirectivePrinterLaw" 70 ⟨"DirectivePrinterModel", "whole", "(IJ)I"⟩ : Cond) ∈ lw_g := List.mem_filter.mpr ⟨List.mem_of_getElem? (i := 912) (by decide +kernel), by decide +kernel⟩
set_option maxRecDepth 100000 in
theorem q_913 : (.instanceMethod ⟨"DirectivePrinterModel", "whole", "(IJ)I"⟩ : Cond) ∈ lw_g := List.mem_filter.mpr ⟨List.mem_of_getElem? (i := 913) (by decide +kernel), by decide +kernel⟩
set_option maxRecDepth 100000 in
theorem q_914 : (.selects "DirectivePrinterModel" ⟨"DirectivePrinterModel", "whole", "(IJ)I"⟩ ⟨"DirectivePrinterModel", "whole", "(IJ)I"⟩ : Cond) ∈ lw_g := List.mem_filter.mpr ⟨List.mem_of_getElem? (i := 914) (by decide +kernel), by decide +kernel⟩
set_option maxRecDepth 100000 in
theorem q_915 : (.code ⟨"DirectivePrinterModel", "whole", "(IJ)I"⟩ prog_9_method_10_code 4 (Option.some FieldType.int) : Cond) ∈ lw_g := List.mem_filter.mpr ⟨List.mem_of_getElem? (i := 915) (rfl), by decide +kernel⟩
set_option maxRecDepth 100000 in
theorem q_745 : (.codeWith ⟨"DirectivePrinterLaw", "text", "(LDirectivePrinter;[J)I"⟩ method_6_code 3 (Option.some FieldType.int) [(0, 8, 11, 26)] : Cond) ∈ lw_g := List.mem_filter.mpr ⟨List.mem_of_getElem? (i := 745) (rfl), by decide +kernel⟩
set_option maxRecDepth 100000 in
theorem q_743 : (.methodLink "DirectivePrinterLaw" 71 ⟨"DirectivePrinterLaw", "text", "(LDirectivePrinter;[J)I"⟩ : Cond) ∈ lw_g := List.mem_filter.mpr ⟨List.mem_of_getElem? (i := 743) (by decide +kernel), by decide +kernel⟩
set_option maxRecDepth 100000 in
theorem q_744 : (.static ⟨"DirectivePrinterLaw", "text", "(LDirectivePrinter;[J)I"⟩ : Cond) ∈ lw_g := List.mem_filter.mpr ⟨List.mem_of_getElem? (i := 744) (by decide +kernel), by decide +kernel⟩
set_option maxRecDepth 100000 in
theorem q_916 : (.methodLink "DirectivePrinterLaw" 74 ⟨"DirectivePrinterModel", "text", "()I"⟩ : Cond) ∈ lw_g := List.mem_filter.mpr ⟨List.mem_of_getElem? (i := 916) (by decide +kernel), by decide +kernel⟩
set_option maxRecDepth 100000 in
theorem q_917 : (.instanceMethod ⟨"DirectivePrinterModel", "text", "()I"⟩ : Cond) ∈ lw_g := List.mem_filter.mpr ⟨List.mem_of_getElem? (i := 917) (by decide +kernel), by decide +kernel⟩
set_option maxRecDepth 100000 in
theorem q_918 : (.selects "DirectivePrinterModel" ⟨"DirectivePrinterModel", "text", "()I"⟩ ⟨"DirectivePrinterModel", "text", "()I"⟩ : Cond) ∈ lw_g := List.mem_filter.mpr ⟨List.mem_of_getElem? (i := 918) (by decide +kernel), by decide +kernel⟩
set_option maxRecDepth 100000 in
theorem q_919 : (.code ⟨"DirectivePrinterModel", "text", "()I"⟩ prog_9_method_11_code 3 (Option.some FieldType.int) : Cond) ∈ lw_g := List.mem_filter.mpr ⟨List.mem_of_getElem? (i := 919) (rfl), by decide +kernel⟩
set_option maxRecDepth 100000 in
theorem q_771 : (.codeWith ⟨"DirectivePrinterLaw", "decimal", "(LDirectivePrinter;JI[J)I"⟩ method_7_code 6 (Option.some FieldType.int) [(0, 11, 14, 13)] : Cond) ∈ lw_g := List.mem_filter.mpr ⟨List.mem_of_getElem? (i := 771) (rfl), by decide +kernel⟩
set_option maxRecDepth 100000 in
theorem q_769 : (.methodLink "DirectivePrinterLaw" 75 ⟨"DirectivePrinterLaw", "decimal", "(LDirectivePrinter;JI[J)I"⟩ : Cond) ∈ lw_g := List.mem_filter.mpr ⟨List.mem_of_getElem? (i := 769) (by decide +kernel), by decide +kernel⟩
set_option maxRecDepth 100000 in
theorem q_770 : (.static ⟨"DirectivePrinterLaw", "decimal", "(LDirectivePrinter;JI[J)I"⟩ : Cond) ∈ lw_g := List.mem_filter.mpr ⟨List.mem_of_getElem? (i := 770) (by decide +kernel), by decide +kernel⟩
set_option maxRecDepth 100000 in
theorem q_920 : (.methodLink "DirectivePrinterLaw" 78 ⟨"DirectivePrinterModel", "decimal", "(JI)I"⟩ : Cond) ∈ lw_g := List.mem_filter.mpr ⟨List.mem_of_getElem? (i := 920) (by decide +kernel), by decide +kernel⟩
set_option maxRecDepth 100000 in
theorem q_921 : (.instanceMethod ⟨"DirectivePrinterModel", "decimal", "(JI)I"⟩ : Cond) ∈ lw_g := List.mem_filter.mpr ⟨List.mem_of_getElem? (i := 921) (by decide +kernel), by decide +kernel⟩
set_option maxRecDepth 100000 in
theorem q_922 : (.selects "DirectivePrinterModel" ⟨"DirectivePrinterModel", "decimal", "(JI)I"⟩ ⟨"DirectivePrinterModel", "decimal", "(JI)I"⟩ : Cond) ∈ lw_g := List.mem_filter.mpr ⟨List.mem_of_getElem? (i := 922) (by decide +kernel), by decide +kernel⟩
set_option maxRecDepth 100000 in
theorem q_923 : (.code ⟨"DirectivePrinterModel", "decimal", "(JI)I"⟩ prog_9_method_12_code 4 (Option.some FieldType.int) : Cond) ∈ lw_g := List.mem_filter.mpr ⟨List.mem_of_getElem? (i := 923) (rfl), by decide +kernel⟩
set_option maxRecDepth 100000 in
theorem q_269 : (.methodLink "DirectivePrinterLaw" 79 ⟨"DirectivePrinter", "print", "()I"⟩ : Cond) ∈ lw_g := List.mem_filter.mpr ⟨List.mem_of_getElem? (i := 269) (by decide +kernel), by decide +kernel⟩
set_option maxRecDepth 100000 in
theorem q_270 : (.instanceMethod ⟨"DirectivePrinter", "print", "()I"⟩ : Cond) ∈ lw_g := List.mem_filter.mpr ⟨List.mem_of_getElem? (i := 270) (by decide +kernel), by decide +kernel⟩
set_option maxRecDepth 100000 in
theorem q_271 : (.selects "DirectivePrinter" ⟨"DirectivePrinter", "print", "()I"⟩ ⟨"DirectivePrinter", "print", "()I"⟩ : Cond) ∈ lw_g := List.mem_filter.mpr ⟨List.mem_of_getElem? (i := 271) (by decide +kernel), by decide +kernel⟩
set_option maxRecDepth 100000 in
theorem q_272 : (.code ⟨"DirectivePrinter", "print", "()I"⟩ prog_1_method_11_code 3 (Option.some FieldType.int) : Cond) ∈ lw_g := List.mem_filter.mpr ⟨List.mem_of_getElem? (i := 272) (rfl), by decide +kernel⟩
set_option maxRecDepth 100000 in
theorem q_924 : (.methodLink "DirectivePrinterLaw" 82 ⟨"DirectivePrinterModel", "print", "()I"⟩ : Cond) ∈ lw_g := List.mem_filter.mpr ⟨List.mem_of_getElem? (i := 924) (by decide +kernel), by decide +kernel⟩
set_option maxRecDepth 100000 in
theorem q_925 : (.instanceMethod ⟨"DirectivePrinterModel", "print", "()I"⟩ : Cond) ∈ lw_g := List.mem_filter.mpr ⟨List.mem_of_getElem? (i := 925) (by decide +kernel), by decide +kernel⟩
set_option maxRecDepth 100000 in
theorem q_926 : (.selects "DirectivePrinterModel" ⟨"DirectivePrinterModel", "print", "()I"⟩ ⟨"DirectivePrinterModel", "print", "()I"⟩ : Cond) ∈ lw_g := List.mem_filter.mpr ⟨List.mem_of_getElem? (i := 926) (by decide +kernel), by decide +kernel⟩
set_option maxRecDepth 100000 in
theorem q_927 : (.code ⟨"DirectivePrinterModel", "print", "()I"⟩ prog_9_method_41_code 2 (Option.some FieldType.int) : Cond) ∈ lw_g := List.mem_filter.mpr ⟨List.mem_of_getElem? (i := 927) (rfl), by decide +kernel⟩
set_option maxRecDepth 100000 in
theorem q_638 : (.methodLink "DirectivePrinterLaw" 83 ⟨"DirectivePrinter", "printed", "(I)I"⟩ : Cond) ∈ lw_g := List.mem_filter.mpr ⟨List.mem_of_getElem? (i := 638) (by decide +kernel), by decide +kernel⟩
set_option maxRecDepth 100000 in
theorem q_639 : (.instanceMethod ⟨"DirectivePrinter", "printed", "(I)I"⟩ : Cond) ∈ lw_g := List.mem_filter.mpr ⟨List.mem_of_getElem? (i := 639) (by decide +kernel), by decide +kernel⟩
set_option maxRecDepth 100000 in
theorem q_640 : (.selects "DirectivePrinter" ⟨"DirectivePrinter", "printed", "(I)I"⟩ ⟨"DirectivePrinter", "printed", "(I)I"⟩ : Cond) ∈ lw_g := List.mem_filter.mpr ⟨List.mem_of_getElem? (i := 640) (by decide +kernel), by decide +kernel⟩
set_option maxRecDepth 100000 in
theorem q_641 : (.code ⟨"DirectivePrinter", "printed", "(I)I"⟩ prog_1_method_12_code 2 (Option.some FieldType.int) : Cond) ∈ lw_g := List.mem_filter.mpr ⟨List.mem_of_getElem? (i := 641) (rfl), by decide +kernel⟩
set_option maxRecDepth 100000 in
theorem q_1043 : (.methodLink "DirectivePrinterLaw" 86 ⟨"DirectivePrinterModel", "printed", "(I)I"⟩ : Cond) ∈ lw_g := List.mem_filter.mpr ⟨List.mem_of_getElem? (i := 1043) (by decide +kernel), by decide +kernel⟩
set_option maxRecDepth 100000 in
theorem q_1044 : (.instanceMethod ⟨"DirectivePrinterModel", "printed", "(I)I"⟩ : Cond) ∈ lw_g := List.mem_filter.mpr ⟨List.mem_of_getElem? (i := 1044) (by decide +kernel), by decide +kernel⟩
set_option maxRecDepth 100000 in
theorem q_1045 : (.selects "DirectivePrinterModel" ⟨"DirectivePrinterModel", "printed", "(I)I"⟩ ⟨"DirectivePrinterModel", "printed", "(I)I"⟩ : Cond) ∈ lw_g := List.mem_filter.mpr ⟨List.mem_of_getElem? (i := 1045) (by decide +kernel), by decide +kernel⟩
set_option maxRecDepth 100000 in
theorem q_1046 : (.code ⟨"DirectivePrinterModel", "printed", "(I)I"⟩ prog_9_method_42_code 2 (Option.some FieldType.int) : Cond) ∈ lw_g := List.mem_filter.mpr ⟨List.mem_of_getElem? (i := 1046) (rfl), by decide +kernel⟩
set_option maxRecDepth 100000 in
theorem q_642 : (.methodLink "DirectivePrinterLaw" 87 ⟨"DirectivePrinter", "fault", "()I"⟩ : Cond) ∈ lw_g := List.mem_filter.mpr ⟨List.mem_of_getElem? (i := 642) (by decide +kernel), by decide +kernel⟩
set_option maxRecDepth 100000 in
theorem q_643 : (.instanceMethod ⟨"DirectivePrinter", "fault", "()I"⟩ : Cond) ∈ lw_g := List.mem_filter.mpr ⟨List.mem_of_getElem? (i := 643) (by decide +kernel), by decide +kernel⟩
set_option maxRecDepth 100000 in
theorem q_644 : (.selects "DirectivePrinter" ⟨"DirectivePrinter", "fault", "()I"⟩ ⟨"DirectivePrinter", "fault", "()I"⟩ : Cond) ∈ lw_g := List.mem_filter.mpr ⟨List.mem_of_getElem? (i := 644) (by decide +kernel), by decide +kernel⟩
set_option maxRecDepth 100000 in
theorem q_645 : (.code ⟨"DirectivePrinter", "fault", "()I"⟩ prog_1_method_13_code 1 (Option.some FieldType.int) : Cond) ∈ lw_g := List.mem_filter.mpr ⟨List.mem_of_getElem? (i := 645) (rfl), by decide +kernel⟩
set_option maxRecDepth 100000 in
theorem q_1047 : (.methodLink "DirectivePrinterLaw" 90 ⟨"DirectivePrinterModel", "fault", "()I"⟩ : Cond) ∈ lw_g := List.mem_filter.mpr ⟨List.mem_of_getElem? (i := 1047) (by decide +kernel), by decide +kernel⟩
set_option maxRecDepth 100000 in
theorem q_1048 : (.instanceMethod ⟨"DirectivePrinterModel", "fault", "()I"⟩ : Cond) ∈ lw_g := List.mem_filter.mpr ⟨List.mem_of_getElem? (i := 1048) (by decide +kernel), by decide +kernel⟩
set_option maxRecDepth 100000 in
theorem q_1049 : (.selects "DirectivePrinterModel" ⟨"DirectivePrinterModel", "fault", "()I"⟩ ⟨"DirectivePrinterModel", "fault", "()I"⟩ : Cond) ∈ lw_g := List.mem_filter.mpr ⟨List.mem_of_getElem? (i := 1049) (by decide +kernel), by decide +kernel⟩
set_option maxRecDepth 100000 in
theorem q_1050 : (.code ⟨"DirectivePrinterModel", "fault", "()I"⟩ prog_9_method_43_code 1 (Option.some FieldType.int) : Cond) ∈ lw_g := List.mem_filter.mpr ⟨List.mem_of_getElem? (i := 1050) (rfl), by decide +kernel⟩
set_option maxRecDepth 100000 in
theorem q_646 : (.methodLink "DirectivePrinterLaw" 91 ⟨"DirectivePrinter", "place", "()I"⟩ : Cond) ∈ lw_g := List.mem_filter.mpr ⟨List.mem_of_getElem? (i := 646) (by decide +kernel), by decide +kernel⟩
set_option maxRecDepth 100000 in
theorem q_647 : (.instanceMethod ⟨"DirectivePrinter", "place", "()I"⟩ : Cond) ∈ lw_g := List.mem_filter.mpr ⟨List.mem_of_getElem? (i := 647) (by decide +kernel), by decide +kernel⟩
set_option maxRecDepth 100000 in
theorem q_648 : (.selects "DirectivePrinter" ⟨"DirectivePrinter", "place", "()I"⟩ ⟨"DirectivePrinter", "place", "()I"⟩ : Cond) ∈ lw_g := List.mem_filter.mpr ⟨List.mem_of_getElem? (i := 648) (by decide +kernel), by decide +kernel⟩
set_option maxRecDepth 100000 in
theorem q_649 : (.code ⟨"DirectivePrinter", "place", "()I"⟩ prog_1_method_14_code 1 (Option.some FieldType.int) : Cond) ∈ lw_g := List.mem_filter.mpr ⟨List.mem_of_getElem? (i := 649) (rfl), by decide +kernel⟩
set_option maxRecDepth 100000 in
theorem q_1051 : (.methodLink "DirectivePrinterLaw" 94 ⟨"DirectivePrinterModel", "place", "()I"⟩ : Cond) ∈ lw_g := List.mem_filter.mpr ⟨List.mem_of_getElem? (i := 1051) (by decide +kernel), by decide +kernel⟩
set_option maxRecDepth 100000 in
theorem q_1052 : (.instanceMethod ⟨"DirectivePrinterModel", "place", "()I"⟩ : Cond) ∈ lw_g := List.mem_filter.mpr ⟨List.mem_of_getElem? (i := 1052) (by decide +kernel), by decide +kernel⟩
set_option maxRecDepth 100000 in
theorem q_1053 : (.selects "DirectivePrinterModel" ⟨"DirectivePrinterModel", "place", "()I"⟩ ⟨"DirectivePrinterModel", "place", "()I"⟩ : Cond) ∈ lw_g := List.mem_filter.mpr ⟨List.mem_of_getElem? (i := 1053) (by decide +kernel), by decide +kernel⟩
set_option maxRecDepth 100000 in
theorem q_1054 : (.code ⟨"DirectivePrinterModel", "place", "()I"⟩ prog_9_method_44_code 1 (Option.some FieldType.int) : Cond) ∈ lw_g := List.mem_filter.mpr ⟨List.mem_of_getElem? (i := 1054) (rfl), by decide +kernel⟩
end
